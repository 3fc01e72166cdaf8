/-! the reference's LITs and CONDs; how the laws of both sides agree -/
section LIT1
variable {L : Nat} {M M1 M2 : aM}
def cmR (o x y : Int) : Int := if o = 300 then bi (decide (x = y)) else if o = 301 then bi (decide (¬ x = y)) else if o = 302 then bi (decide (x ≤ y)) else bi (decide (x < y))
theorem cmR_01 {o x y : Int} : cmR o x y = 0 ∨ cmR o x y = 1 := by
  unfold cmR
  split
  · exact bi_01 _
  · split
    · exact bi_01 _
    · split
      · exact bi_01 _
      · exact bi_01 _
def liV (M : aM) (vr : Int → Int) (k : Int) : Int := match exV (M 170) (M 171) vr (M 175 k) (M 176 k) with
  | none => M 173 k
  | some x => match exV (M 170) (M 171) vr (M 176 k) (M 177 k) with
    | none => M 173 k
    | some y => bi (decide (¬ cmR (M 174 k) x y = M 173 k))
def liOk (M : aM) (k : Int) : Prop := (M 173 k = 0 ∨ M 173 k = 1) ∧ wfE (M 170) (M 171) (M 175 k) (M 176 k) ∧ wfE (M 170) (M 171) (M 176 k) (M 177 k)
theorem liV_01 {vr : Int → Int} {k : Int} (h : liOk M k) : liV M vr k = 0 ∨ liV M vr k = 1 := by
  unfold liV
  split
  · exact h.1
  · split
    · exact h.1
    · exact bi_01 _
theorem liV_cg {vr : Int → Int} {k : Int} (f : ∀ a, 170 ≤ a → a ≤ 178 → M1 a = M a) : liV M1 vr k = liV M vr k := by
  unfold liV
  rw [f 170 (by omega) (by omega), f 171 (by omega) (by omega), f 173 (by omega) (by omega), f 174 (by omega) (by omega), f 175 (by omega) (by omega), f 176 (by omega) (by omega), f 177 (by omega) (by omega)]
theorem liOk_cg {k : Int} (h : liOk M k) (f : ∀ a, 170 ≤ a → a ≤ 178 → M1 a = M a) : liOk M1 k := by
  unfold liOk
  rw [f 170 (by omega) (by omega), f 171 (by omega) (by omega), f 173 (by omega) (by omega), f 175 (by omega) (by omega), f 176 (by omega) (by omega), f 177 (by omega) (by omega)]
  exact h
theorem smF_lo (h : smF M M1) : ∀ a, 150 ≤ a → a ≤ 191 → M1 a = M a := fun a x y => h.1 a (by omega) (by omega)
theorem s_217 {k : Int} (k0 : 0 ≤ k) (k1 : k < 400) (w : liOk M k) : ∃ M1, aE 217 [aR 145, aI k] (SH L) M ([aI (liV M (M 191) k)], SH L, M1) ∧ smF M M1 := by
  have l3 : aLn (SH L) 4 173 = 400 := rfl
  have l4 : aLn (SH L) 1 174 = 400 := rfl
  have l5 : aLn (SH L) 1 175 = 400 := rfl
  have l6 : aLn (SH L) 1 176 = 400 := rfl
  have l7 : aLn (SH L) 1 177 = 400 := rfl
  obtain ⟨w3, w1, w2⟩ := w
  obtain ⟨M1, r1, f1, b1⟩ := s_216 (L := L) (M := M) w1
  have g1 := smF_lo f1
  obtain ⟨M3, r3, f3, b3⟩ := s_216 (L := L) (M := M1) (f := M 176 k) (t := M 177 k) (by rw [g1 170 (by omega) (by omega), g1 171 (by omega) (by omega)]; exact w2)
  have g3 := smF_lo f3
  rw [g1 170 (by omega) (by omega), g1 171 (by omega) (by omega), g1 191 (by omega) (by omega)] at r3 b3
  have e173 : M1 173 = M 173 := g1 173 (by omega) (by omega)
  have e176 : M1 176 = M 176 := g1 176 (by omega) (by omega)
  have e177 : M1 177 = M 177 := g1 177 (by omega) (by omega)
  have h173 : M3 173 = M 173 := (g3 173 (by omega) (by omega)).trans e173
  have h174 : M3 174 = M 174 := (g3 174 (by omega) (by omega)).trans (g1 174 (by omega) (by omega))
  unfold liV
  cases e1 : exV (M 170) (M 171) (M 191) (M 175 k) (M 176 k) with
  | none =>
    rw [e1] at r1 b1
    refine ⟨M1, en_217 ⟨by omega, by omega, M1, _, r1, fun q => absurd b1 (by rw [q]; show ¬ (0 : Int) = 1; omega), fun _ => ⟨by omega, by rw [e173]; exact w3, by rw [e173]⟩⟩, f1⟩
  | some x =>
    rw [e1] at r1 b1
    have b1' : M1 145 59 = 0 := b1
    dsimp only
    cases e2 : exV (M 170) (M 171) (M 191) (M 176 k) (M 177 k) with
    | none =>
      rw [e2] at r3 b3
      refine ⟨M3, en_217 ⟨by omega, by omega, M1, _, r1, fun _ => ⟨by omega, by omega, M3, _, by rw [e176, e177]; exact r3, fun q => absurd b3 (by rw [q]; show ¬ (0 : Int) = 1; omega), fun _ => ⟨by omega, by rw [h173]; exact w3, by rw [h173]⟩⟩, fun q => absurd b1' q⟩, smF_tr f1 f3⟩
    | some y =>
      rw [e2] at r3 b3
      have b3' : M3 145 59 = 0 := b3
      dsimp only
      have fin : ∀ b, (b = cmR (M 174 k) x y) → aX xc_217 (aSeek xc_217 147) [aR 145, aI k, aU, aU, aU] [aI b] (SH L) M3 ([aI (bi (decide (¬ cmR (M 174 k) x y = M 173 k)))], SH L, M3) := by
        intro b hb
        subst hb
        refine bl_217_147 ⟨by omega, fun q => rI ?_, fun q => rI ?_⟩
        · rw [h173] at q; exact bin (fun z => z q)
        · rw [h173] at q; exact bip q
      refine ⟨M3, en_217 ⟨by omega, by omega, M1, _, r1, fun _ => ⟨by omega, by omega, M3, _, by rw [e176, e177]; exact r3, fun _ => ⟨by omega, ?_⟩, fun q => absurd b3' q⟩, fun q => absurd b1' q⟩, smF_tr f1 f3⟩
      rw [h174]
      show (¬ M 174 k = 300 → (0 ≤ k ∧ k < aLn (SH L) 1 174) ∧ ((¬ M 174 k = 301 → (0 ≤ k ∧ k < aLn (SH L) 1 174) ∧ ((¬ M 174 k = 302 → ((y ≤ x → _) ∧ (¬ y ≤ x → _))) ∧ (¬ ¬ M 174 k = 302 → ((y < x → _) ∧ (¬ y < x → _))))) ∧ (¬ ¬ M 174 k = 301 → ((x = y → _) ∧ (¬ x = y → _))))) ∧ (¬ ¬ M 174 k = 300 → ((¬ x = y → _) ∧ (¬ ¬ x = y → _)))
      refine ⟨fun q1 => ⟨by omega, fun q2 => ⟨by omega, fun q3 => ⟨fun q4 => fin _ ?_, fun q4 => fin _ ?_⟩, fun q3 => ⟨fun q4 => fin _ ?_, fun q4 => fin _ ?_⟩⟩, fun q2 => ⟨fun q4 => fin _ ?_, fun q4 => fin _ ?_⟩⟩, fun q1 => ⟨fun q4 => fin _ ?_, fun q4 => fin _ ?_⟩⟩
      · unfold cmR; rw [if_neg q1, if_neg q2, if_neg q3]; exact (bin (by omega)).symm
      · unfold cmR; rw [if_neg q1, if_neg q2, if_neg q3]; exact (bip (by omega)).symm
      · unfold cmR; rw [if_neg q1, if_neg q2, if_pos (Classical.not_not.mp q3)]; exact (bin (by omega)).symm
      · unfold cmR; rw [if_neg q1, if_neg q2, if_pos (Classical.not_not.mp q3)]; exact (bip (by omega)).symm
      · unfold cmR; rw [if_neg q1, if_pos (Classical.not_not.mp q2)]; exact (bin (fun z => z q4)).symm
      · unfold cmR; rw [if_neg q1, if_pos (Classical.not_not.mp q2)]; exact (bip q4).symm
      · unfold cmR; rw [if_pos (Classical.not_not.mp q1)]; exact (bin q4).symm
      · unfold cmR; rw [if_pos (Classical.not_not.mp q1)]; exact (bip (Classical.not_not.mp q4)).symm
def hdI (M : aM) (vr : Int → Int) : Nat → Int → Int → Int → Int
  | 0, _, _, all => all
  | n + 1, k, row, all => if M 178 k = row then hdI M vr n (k + 1) row (if all = 0 then 0 else liV M vr k) else if all = 0 then hdI M vr n (k + 1) (M 178 k) (liV M vr k) else 1
def hdV (M : aM) (vr : Int → Int) (f t : Int) : Int := if f < t then hdI M vr (t - f - 1).toNat (f + 1) (M 178 f) (liV M vr f) else 0
theorem hdI_cg {vr : Int → Int} (f : ∀ a, 170 ≤ a → a ≤ 178 → M1 a = M a) : ∀ (n : Nat) (k row all : Int), hdI M1 vr n k row all = hdI M vr n k row all := by
  intro n
  induction n with
  | zero => intro k row all; rfl
  | succ n ih =>
    intro k row all
    unfold hdI
    rw [f 178 (by omega) (by omega), liV_cg f, ih, ih]
theorem hdV_cg {vr : Int → Int} {a b : Int} (f : ∀ a, 170 ≤ a → a ≤ 178 → M1 a = M a) : hdV M1 vr a b = hdV M vr a b := by
  unfold hdV
  rw [f 178 (by omega) (by omega), liV_cg f, hdI_cg f]
theorem hdI_01 {vr : Int → Int} : ∀ (n : Nat) (k row all : Int), (∀ j, k ≤ j → j < k + n → liOk M j) → (all = 0 ∨ all = 1) → hdI M vr n k row all = 0 ∨ hdI M vr n k row all = 1 := by
  intro n
  induction n with
  | zero => intro k row all _ ha; exact ha
  | succ n ih =>
    intro k row all hl ha
    unfold hdI
    have h0 := liV_01 (vr := vr) (hl k (by omega) (by omega))
    split
    · exact ih _ _ _ (fun j x y => hl j (by omega) (by omega)) (by split; exact Or.inl rfl; exact h0)
    · split
      · exact ih _ _ _ (fun j x y => hl j (by omega) (by omega)) h0
      · exact Or.inr rfl
theorem hdV_01 {vr : Int → Int} {f t : Int} (hl : ∀ j, f ≤ j → j < t → liOk M j) : hdV M vr f t = 0 ∨ hdV M vr f t = 1 := by
  unfold hdV
  split
  · exact hdI_01 _ _ _ _ (fun j x y => hl j (by omega) (by omega)) (liV_01 (hl f (by omega) (by omega)))
  · exact Or.inl rfl
theorem s_218 {f t : Int} (f0 : 0 ≤ f) (t1 : t ≤ 400) (hl : ∀ j, f ≤ j → j < t → liOk M j) : ∃ M1, aE 218 [aR 145, aI f, aI t] (SH L) M ([aI (hdV M (M 191) f t)], SH L, M1) ∧ smF M M1 := by
  have l8 : aLn (SH L) 1 178 = 400 := rfl
  have cs : ∀ M' : aM, smF M M' → ∀ k, f ≤ k → k < t → ∃ M1, aE 217 [aR 145, aI k] (SH L) M' ([aI (liV M (M 191) k)], SH L, M1) ∧ smF M M1 := by
    intro M' hf k k0 k1
    obtain ⟨M1, r, g⟩ := s_217 (L := L) (M := M') (k := k) (by omega) (by omega) (liOk_cg (hl k k0 k1) (fun a x y => smF_lo hf a (by omega) (by omega)))
    rw [liV_cg (fun a x y => smF_lo hf a (by omega) (by omega)), smF_lo hf 191 (by omega) (by omega)] at r
    exact ⟨M1, r, smF_tr hf g⟩
  have e178 : ∀ M' : aM, smF M M' → M' 178 = M 178 := fun M' hf => smF_lo hf 178 (by omega) (by omega)
  have key : ∀ n : Nat, ∀ k row all : Int, ∀ M' : aM, k + n = t → f ≤ k → (all = 0 ∨ all = 1) → smF M M' → ∃ M1, aX xc_218 (aSeek xc_218 18) [aR 145, aU, aI t, aI k, aI row, aI all] [] (SH L) M' ([aI (hdI M (M 191) n k row all)], SH L, M1) ∧ smF M M1 := by
    intro n
    induction n with
    | zero =>
      intro k row all M' kt k0 ha hf
      refine ⟨M', bl_218_18 ⟨fun _ => bl_218_52 ⟨fun q => bl_218_2 ⟨fun _ => rI ?_, fun q => absurd (by omega) q⟩, fun q => rI ?_⟩, fun q => absurd (by omega) q⟩, hf⟩
      · unfold hdI; exact q
      · unfold hdI; omega
    | succ n ih =>
      intro k row all M' kt k0 ha hf
      have h0 := liV_01 (vr := M 191) (hl k k0 (by omega))
      unfold hdI
      by_cases c : M 178 k = row
      · rw [if_pos c]
        by_cases d : all = 0
        · rw [if_pos d]
          obtain ⟨M1, r, y⟩ := ih (k + 1) row 0 M' (by omega) (by omega) (Or.inl rfl) hf
          refine ⟨M1, bl_218_18 ⟨fun q => absurd q (by omega), fun _ => ⟨by omega, fun q => absurd (by rw [e178 M' hf]; exact c) q, fun _ => ⟨fun _ => bl_218_46 ?_, fun q => absurd d q⟩⟩⟩, y⟩
          rw [aWi (z := k + 1) (by omega) (by omega), d]
          exact r
        · rw [if_neg d]
          obtain ⟨M2, r2, g2⟩ := cs M' hf k k0 (by omega)
          obtain ⟨M1, r, y⟩ := ih (k + 1) row (liV M (M 191) k) M2 (by omega) (by omega) h0 g2
          refine ⟨M1, bl_218_18 ⟨fun q => absurd q (by omega), fun _ => ⟨by omega, fun q => absurd (by rw [e178 M' hf]; exact c) q, fun _ => ⟨fun q => absurd q d, fun _ => ⟨M2, _, r2, bl_218_46 ?_⟩⟩⟩⟩, y⟩
          rw [aWi (z := k + 1) (by omega) (by omega)]
          exact r
      · rw [if_neg c]
        by_cases d : all = 0
        · rw [if_pos d]
          obtain ⟨M2, r2, g2⟩ := cs M' hf k k0 (by omega)
          obtain ⟨M1, r, y⟩ := ih (k + 1) (M 178 k) (liV M (M 191) k) M2 (by omega) (by omega) h0 g2
          refine ⟨M1, bl_218_18 ⟨fun q => absurd q (by omega), fun _ => ⟨by omega, fun _ => bl_218_52 ⟨fun _ => bl_218_2 ⟨fun q => absurd q (by omega), fun _ => ⟨by omega, ?_⟩⟩, fun q => absurd d q⟩, fun q => absurd (by rw [e178 M' hf]; exact c) q⟩⟩, y⟩
          refine bl_218_18 ⟨fun q => absurd q (by omega), fun _ => ⟨by omega, fun q => absurd rfl q, fun _ => ⟨fun q => absurd q (by omega), fun _ => ⟨M2, _, r2, bl_218_46 ?_⟩⟩⟩⟩
          rw [aWi (z := k + 1) (by omega) (by omega), e178 M' hf]
          exact r
        · rw [if_neg d]
          exact ⟨M', bl_218_18 ⟨fun q => absurd q (by omega), fun _ => ⟨by omega, fun _ => bl_218_52 ⟨fun q => absurd q d, fun _ => rfl⟩, fun q => absurd (by rw [e178 M' hf]; exact c) q⟩⟩, hf⟩
  unfold hdV
  by_cases c : f < t
  · rw [if_pos c]
    obtain ⟨M2, r2, g2⟩ := cs M smF_rf f (by omega) c
    obtain ⟨M1, r, y⟩ := key (t - f - 1).toNat (f + 1) (M 178 f) (liV M (M 191) f) M2 (by omega) (by omega) (liV_01 (hl f (by omega) c)) g2
    refine ⟨M1, en_218 (bl_218_2 ⟨fun q => absurd q (by omega), fun _ => ⟨by omega, bl_218_18 ⟨fun q => absurd q (by omega), fun _ => ⟨by omega, fun q => absurd rfl q, fun _ => ⟨fun q => absurd q (by omega), fun _ => ⟨M2, _, r2, bl_218_46 ?_⟩⟩⟩⟩⟩⟩), y⟩
    rw [aWi (z := f + 1) (by omega) (by omega)]
    exact r
  · rw [if_neg c]
    exact ⟨M, en_218 (bl_218_2 ⟨fun _ => rfl, fun q => absurd (by omega) q⟩), smF_rf⟩
/-- the same code on both sides -/
def eM (C O V : Int → Int) (c : Int) (n : Nat) (o : Int) (m : Nat) : Prop := ∀ (vr : Int → Int) (base : List Int) (z : Int), base.length ≤ 16 → ∃ v z', evS C vr n c base z = some (v :: base, z') ∧ (rsS O V vr m o [] = some (some [v]) ∧ z' = z ∨ rsS O V vr m o [] = some none ∧ z' = 1)
def rG (M : aM) (t : Int) : Prop := (M 164 0 = -1 ∧ M t 14 = 0 ∧ M t 15 = 0) ∨ ((0 ≤ M t 14 ∧ M t 14 ≤ M t 15 ∧ M t 15 ≤ 400) ∧ wfE (M 170) (M 171) (M 164 0) (M 165 0) ∧ eM (M (t + 8)) (M 170) (M 171) (M t 14) (M t 15 - M t 14).toNat (M 164 0) (M 165 0 - M 164 0).toNat)
def rR (M : aM) (t : Int) : Prop := (0 ≤ M t 16 ∧ M t 16 ≤ 6 ∧ M 166 0 = M t 16) ∧ ∀ r, 0 ≤ r → r < M t 16 → (0 ≤ M (t + 9) r ∧ M (t + 9) r ≤ M (t + 10) r ∧ M (t + 10) r ≤ 400) ∧ (0 ≤ M 167 r ∧ M 167 r ≤ M 168 r ∧ M 168 r ≤ 200) ∧
  (∀ k, M 167 r ≤ k → k < M 168 r → liOk M k) ∧ ∀ vr, ∃ z, evS (M (t + 8)) vr (M (t + 10) r - M (t + 9) r).toNat (M (t + 9) r) [] 0 = some ([hdV M vr (M 167 r) (M 168 r)], z)
def rW (M : aM) (t : Int) : Prop := rG M t ∧ rR M t
theorem rW_cg {t : Int} (h : rW M t) (f : ∀ a, 164 ≤ a → a ≤ 178 → M1 a = M a) (g : ∀ a, t ≤ a → a ≤ t + 10 → M1 a = M a) : rW M1 t := by
  have hh : ∀ vr a b, hdV M1 vr a b = hdV M vr a b := fun vr a b => hdV_cg (fun a x y => f a (by omega) (by omega))
  have ho : ∀ k, liOk M k → liOk M1 k := fun k hk => liOk_cg hk (fun a x y => f a (by omega) (by omega))
  unfold rW rG rR
  rw [f 164 (by omega) (by omega), f 165 (by omega) (by omega), f 166 (by omega) (by omega), f 167 (by omega) (by omega), f 168 (by omega) (by omega), f 170 (by omega) (by omega), f 171 (by omega) (by omega), g t (by omega) (by omega), g (t + 8) (by omega) (by omega), g (t + 9) (by omega) (by omega), g (t + 10) (by omega) (by omega)]
  refine ⟨h.1, h.2.1, fun r r0 r1 => ?_⟩
  obtain ⟨a, b, c, d⟩ := h.2.2 r r0 r1
  refine ⟨a, b, fun k k0 k1 => ho k (c k k0 k1), fun vr => ?_⟩
  rw [hh]
  exact d vr
end LIT1
