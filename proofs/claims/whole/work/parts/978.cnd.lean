/-! reading: a COND, both sides -/
section CND1
variable {L : Nat} {C R C1 R1 C2 R2 M M1 : aM}
def fd1 (M : aM) (vr : Int → Int) (k : Int) (s : Int × Int × Int) : Int × Int × Int := if M 178 k = s.2.2 then (s.1, (if s.2.1 = 0 then 0 else liV M vr k), s.2.2) else ((if s.2.1 = 0 then s.1 else 1), liV M vr k, M 178 k)
def fdS (M : aM) (vr : Int → Int) : Nat → Int → Int × Int × Int → Int × Int × Int
  | 0, _, s => s
  | n + 1, k, s => fdS M vr n (k + 1) (fd1 M vr k s)
theorem fd_snoc {vr : Int → Int} : ∀ (n : Nat) (k : Int) (s : Int × Int × Int), fdS M vr (n + 1) k s = fd1 M vr (k + n) (fdS M vr n k s) := by
  intro n
  induction n with
  | zero =>
    intro k s
    show fd1 M vr k s = fd1 M vr (k + ((0 : Nat) : Int)) s
    rw [show k + ((0 : Nat) : Int) = k by omega]
  | succ n ih =>
    intro k s
    show fdS M vr (n + 1) (k + 1) (fd1 M vr k s) = _
    rw [ih, show k + 1 + (n : Int) = k + ((n + 1 : Nat) : Int) by omega]
    rfl
theorem fd_1 {vr : Int → Int} : ∀ (n : Nat) (k : Int) (s : Int × Int × Int), s.1 = 1 → (fdS M vr n k s).1 = 1 := by
  intro n
  induction n with
  | zero => intro k s h; exact h
  | succ n ih =>
    intro k s h
    refine ih _ _ ?_
    unfold fd1
    split
    · exact h
    · dsimp only
      split
      · exact h
      · rfl
theorem hd_fd {vr : Int → Int} : ∀ (n : Nat) (k row all : Int), hdI M vr n k row all = if (fdS M vr n k (0, all, row)).1 = 0 then (fdS M vr n k (0, all, row)).2.1 else 1 := by
  intro n
  induction n with
  | zero => intro k row all; show all = if (0 : Int) = 0 then all else 1; rw [if_pos rfl]
  | succ n ih =>
    intro k row all
    unfold hdI fdS fd1
    dsimp only
    by_cases c : M 178 k = row
    · rw [if_pos c, if_pos c]; exact ih _ _ _
    · rw [if_neg c, if_neg c]
      by_cases d : all = 0
      · rw [if_pos d, if_pos d]; exact ih _ _ _
      · rw [if_neg d, if_neg d, fd_1 n _ _ rfl, if_neg (by omega)]
def fdV (M : aM) (vr : Int → Int) (l0 : Int) (n : Nat) : Int × Int × Int := fdS M vr n (l0 + 1) (0, liV M vr l0, M 178 l0)
theorem hdV_fd {vr : Int → Int} {f t : Int} (h : f < t) : hdV M vr f t = if (fdV M vr f (t - f - 1).toNat).1 = 0 then (fdV M vr f (t - f - 1).toNat).2.1 else 1 := by
  unfold hdV
  rw [if_pos h, hd_fd]; rfl
theorem fd_cg {vr : Int → Int} : ∀ (n : Nat) (k : Int) (s : Int × Int × Int), (∀ j, k ≤ j → j < k + n → liV M1 vr j = liV M vr j ∧ M1 178 j = M 178 j) → fdS M1 vr n k s = fdS M vr n k s := by
  intro n
  induction n with
  | zero => intro k s _; rfl
  | succ n ih =>
    intro k s h
    unfold fdS fd1
    have := h k (by omega) (by omega)
    rw [this.1, this.2]
    exact ih _ _ (fun j j0 j1 => h j (by omega) (by omega))
theorem fdV_cg {vr : Int → Int} {l0 : Int} {n : Nat} (h : ∀ j, l0 ≤ j → j < l0 + 1 + n → liV M1 vr j = liV M vr j ∧ M1 178 j = M 178 j) : fdV M1 vr l0 n = fdV M vr l0 n := by
  unfold fdV
  have := h l0 (by omega) (by omega)
  rw [this.1, this.2, fd_cg n _ _ (fun j j0 j1 => h j (by omega) (by omega))]
/-- the text that is being read, in the places of the one that holds -/
def shR (R : aM) : aM := fun a b => if a = 170 ∨ a = 171 then R a (500 + b) else if 173 ≤ a ∧ a ≤ 178 then R a (200 + b) else if 154 ≤ a ∧ a ≤ 158 then R a (14 + b) else if (160 ≤ a ∧ a ≤ 162) ∨ a = 167 ∨ a = 168 then R a (6 + b) else
  if a = 151 ∨ a = 152 ∨ a = 153 ∨ a = 159 ∨ (163 ≤ a ∧ a ≤ 166) ∨ a = 169 ∨ a = 172 then R a (1 + b) else R a b
theorem sh_O : shR R 170 = oO R ∧ shR R 171 = oV R := by
  constructor
  · funext b; unfold shR oO; rw [if_pos (Or.inl rfl)]
  · funext b; unfold shR oV; rw [if_pos (Or.inr rfl)]
theorem sh_l {a b : Int} (h : 173 ≤ a ∧ a ≤ 178) : shR R a b = R a (200 + b) := by unfold shR; rw [if_neg (by omega), if_pos h]
/-- the bounds of a LIT -/
def lB (R : aM) (k : Int) : Prop := 0 ≤ R 175 (200 + k) ∧ R 175 (200 + k) ≤ R 176 (200 + k) ∧ R 176 (200 + k) ≤ R 177 (200 + k) ∧ R 177 (200 + k) ≤ R 169 1
/-- what was 0 or 1 is it still -/
def bK (R R1 : aM) : Prop := ∀ i, R 173 i = 0 ∨ R 173 i = 1 → R1 173 i = 0 ∨ R1 173 i = 1
def rK (R R1 : aM) : Prop := (∀ a, a ≠ 145 → (a < 169 ∨ 178 < a) → a ≠ 190 → R1 a = R a) ∧ (∀ j, j < 7 ∨ 9 < j → j < 54 ∨ 56 < j ∨ j = 55 → R1 145 j = R 145 j) ∧ (∀ j, j ≠ 1 → R1 169 j = R 169 j ∧ R1 172 j = R 172 j) ∧ (∀ i, i < 500 + R 169 1 → R1 170 i = R 170 i ∧ R1 171 i = R 171 i) ∧
  (∀ a i, 173 ≤ a → a ≤ 178 → i < 200 + R 172 1 → R1 a i = R a i) ∧ R 169 1 ≤ R1 169 1 ∧ R 172 1 ≤ R1 172 1 ∧ bK R R1
theorem rK_rf : rK R R := ⟨fun _ _ _ _ => rfl, fun _ _ _ => rfl, fun _ _ => ⟨rfl, rfl⟩, fun _ _ => ⟨rfl, rfl⟩, fun _ _ _ _ _ => rfl, Int.le_refl _, Int.le_refl _, fun _ q => q⟩
theorem rK_tr (h : rK R R1) (g : rK R1 R2) : rK R R2 := by
  obtain ⟨h1, h2, h3, h4, h5, h6, h7, h8⟩ := h
  obtain ⟨g1, g2, g3, g4, g5, g6, g7, g8⟩ := g
  exact ⟨fun a x y z => (g1 a x y z).trans (h1 a x y z), fun j x y => (g2 j x y).trans (h2 j x y), fun j hj => ⟨(g3 j hj).1.trans (h3 j hj).1, (g3 j hj).2.trans (h3 j hj).2⟩, fun i hi => ⟨(g4 i (by omega)).1.trans (h4 i hi).1, (g4 i (by omega)).2.trans (h4 i hi).2⟩, fun a i x y z => (g5 a i x y (by omega)).trans (h5 a i x y z), Int.le_trans h6 g6, Int.le_trans h7 g7, fun i q => g8 i (h8 i q)⟩
theorem rK_E (h : rE R R1) : rK R R1 := ⟨fun a x y z => h.1 a x (by omega) (by omega) (by omega) z, fun j x y => h.2.1 j x (by omega), fun j hj => ⟨h.2.2.1 j hj, by rw [h.1 172 (by omega) (by omega) (by omega) (by omega) (by omega)]⟩, h.2.2.2.1, fun a i x y _ => by rw [h.1 a (by omega) (by omega) (by omega) (by omega) (by omega)], h.2.2.2.2, by rw [h.1 172 (by omega) (by omega) (by omega) (by omega) (by omega)]; exact Int.le_refl _, fun i q => by rw [h.1 173 (by omega) (by omega) (by omega) (by omega) (by omega)]; exact q⟩
theorem rK_1 {j v : Int} (hj : (7 ≤ j ∧ j ≤ 9) ∨ j = 54 ∨ j = 56) : rK R (aSet R 145 j v) := ⟨fun a x y z => aSet_c x, fun i x y => aSet_i (by omega), fun i hi => ⟨by rw [aSet_c (by omega)], by rw [aSet_c (by omega)]⟩, fun i hi => ⟨by rw [aSet_c (by omega)], by rw [aSet_c (by omega)]⟩, fun a i x y _ => by rw [aSet_c (by omega)], by rw [aSet_c (by omega)]; exact Int.le_refl _, by rw [aSet_c (by omega)]; exact Int.le_refl _, fun i q => by rw [aSet_c (by omega)]; exact q⟩
theorem rK_l {a j v : Int} (ha : 173 ≤ a ∧ a ≤ 178) (hj : 200 + R 172 1 ≤ j) (hv : a ≠ 173 ∨ v = 0 ∨ v = 1 := by omega) : rK R (aSet R a j v) := ⟨fun b x y z => aSet_c (by omega), fun i x y => by rw [aSet_c (by omega)], fun i hi => ⟨by rw [aSet_c (by omega)], by rw [aSet_c (by omega)]⟩, fun i hi => ⟨by rw [aSet_c (by omega)], by rw [aSet_c (by omega)]⟩, fun b i x y z => by
  by_cases q : b = a
  · rw [q, aSet_i (by omega)]
  · rw [aSet_c q], by rw [aSet_c (by omega)]; exact Int.le_refl _, by rw [aSet_c (by omega)]; exact Int.le_refl _, fun i q => by
  rw [aSet_a]
  by_cases c : (173 : Int) = a ∧ i = j
  · rw [if_pos c]
    rcases hv with x | x
    · exact absurd c.1.symm x
    · exact x
  · rw [if_neg c]; exact q⟩
theorem rK_n : rK R (aSet R 172 1 (R 172 1 + 1)) := ⟨fun b x y z => aSet_c (by omega), fun i x y => by rw [aSet_c (by omega)], fun i hi => ⟨by rw [aSet_c (by omega)], by rw [aSet_i hi]⟩, fun i hi => ⟨by rw [aSet_c (by omega)], by rw [aSet_c (by omega)]⟩, fun b i x y z => by rw [aSet_c (by omega)], by rw [aSet_c (by omega)]; exact Int.le_refl _, by rw [aSet_e]; omega, fun i q => by rw [aSet_c (by omega)]; exact q⟩
/-- what was read before means the same -/
theorem rK_li (h : rK R R1) {k : Int} (k0 : 0 ≤ k) (k1 : k < R 172 1) (b : lB R k) : (∀ vr, liV (shR R1) vr k = liV (shR R) vr k) ∧ shR R1 178 k = shR R 178 k ∧ (liOk (shR R) k → liOk (shR R1) k) ∧ lB R1 k := by
  obtain ⟨h1, h2, h3, h4, h5, h6, h7, h8⟩ := h
  have e : ∀ a, 173 ≤ a → a ≤ 178 → shR R1 a k = shR R a k := fun a x y => by rw [sh_l ⟨x, y⟩, sh_l ⟨x, y⟩]; exact h5 a _ x y (by omega)
  have f : ∀ a, 173 ≤ a → a ≤ 178 → R1 a (200 + k) = R a (200 + k) := fun a x y => h5 a _ x y (by omega)
  obtain ⟨b1, b2, b3, b4⟩ := b
  have g : ∀ (vr : Int → Int) (x y : Int), 0 ≤ x → y ≤ R 169 1 → rsS (oO R1) (oV R1) vr (y - x).toNat x [] = rsS (oO R) (oV R) vr (y - x).toNat x [] := fun vr x y x0 y1 => rsS_cg _ _ _ (fun j j0 j1 => h4 (500 + j) (by omega))
  have s5 : shR R 175 k = R 175 (200 + k) := sh_l (by omega)
  have s6 : shR R 176 k = R 176 (200 + k) := sh_l (by omega)
  have s7 : shR R 177 k = R 177 (200 + k) := sh_l (by omega)
  refine ⟨fun vr => ?_, e 178 (by omega) (by omega), fun q => ?_, ?_⟩
  · unfold liV exV
    rw [sh_O.1, sh_O.2, sh_O.1, sh_O.2, e 173 (by omega) (by omega), e 174 (by omega) (by omega), e 175 (by omega) (by omega), e 176 (by omega) (by omega), e 177 (by omega) (by omega), s5, s6, s7, g vr _ _ b1 (by omega), g vr _ _ (by omega) b4]
  · unfold liOk wfE at q ⊢
    rw [sh_O.1, sh_O.2] at q ⊢
    rw [e 173 (by omega) (by omega), e 175 (by omega) (by omega), e 176 (by omega) (by omega), e 177 (by omega) (by omega)]
    rw [s5, s6, s7] at q ⊢
    refine ⟨q.1, ⟨q.2.1.1, fun vr => ?_⟩, q.2.2.1, fun vr => ?_⟩
    · rw [g vr _ _ b1 (by omega)]; exact q.2.1.2 vr
    · rw [g vr _ _ (by omega) b4]; exact q.2.2.2 vr
  · unfold lB
    rw [f 175 (by omega) (by omega), f 176 (by omega) (by omega), f 177 (by omega) (by omega)]
    omega
/-- steps that only move on -/
def nF (C C1 : aM) : Prop := (∀ a, a ≠ 3 → C1 a = C a) ∧ ∀ j, j ≠ 0 → j ≠ 1 → j ≠ 4 → C1 3 j = C 3 j
theorem nF_E {T : Int} (ht : isTx T) (h : nF C C1) : cE T C C1 := by
  have t := tx_le ht
  exact ⟨fun a x _ _ _ => h.1 a x, fun j _ => by rw [h.1 T (by omega)], fun i _ => by rw [h.1 (T + 8) (by omega)], fun j a b c _ => h.2 j a b c, by rw [h.1 T (by omega)]; exact Int.le_refl _⟩
theorem nF_nx : nF C (nxC C) := ⟨fun a h => nxC_c h, fun j _ _ h => nxC_3 h⟩
theorem nF_fl {n : Int} : nF C (flC C n) := ⟨fun a h => flC_c h, fun j h h1 _ => flC_3 ⟨h, h1⟩⟩
theorem nF_tr (h : nF C C1) (g : nF C1 C2) : nF C C2 := ⟨fun a x => (g.1 a x).trans (h.1 a x), fun j a b c => (g.2 j a b c).trans (h.2 j a b c)⟩
theorem nots {N : Nat} {T row k : Int} : ∀ (m h : Nat) (b : Bool) (C R : aM) (i : Int), h + m = 401 → ST C R N T h → 0 ≤ i → i ≤ h → ∃ C1 R1 b1, aX xc_46 (aSeek xc_46 4) [aR 3, aI (bi b), aI i] [] (SH L) C ([aI (bi b1)], SH L, C1) ∧ nF C C1 ∧ rE R R1 ∧ R1 169 = R 169 ∧
    ((∃ h1, ST C1 R1 N T h1 ∧ h ≤ h1 ∧ (b1 ≠ b → h < h1) ∧ ¬ C1 5 (h1 : Int) = 39 ∧ ∀ o, aX xc_204 (aSeek xc_204 32) [aR 145, aI row, aU, aI k, aI (bi b1), aU] [] (SH L) R1 o → aX xc_204 (aSeek xc_204 32) [aR 145, aI row, aU, aI k, aI (bi b), aU] [] (SH L) R o) ∨
      (FT C1 R1 T ∧ aX xc_204 (aSeek xc_204 32) [aR 145, aI row, aU, aI k, aI (bi b), aU] [] (SH L) R ([aI 0], SH L, R1))) := by
  intro m
  induction m with
  | zero => intro h b C R i hm s; have := (ST_h s).1; omega
  | succ m ih =>
    intro h b C R i hm s i0 i1
    have hh := ST_h s
    have bb := s.2.1
    have tk := (ST_tk s).1
    have r26 := s_26 (L := L) (C := C) hh.2.1
    rw [bb.2.1] at r26
    by_cases c : C 5 (h : Int) = 39
    · have w := (tk_word (t := 23) tk (by omega)).mp (by rw [c]; rfl)
      have r195 : aE 195 [aR 145, aI 10] (SH L) R ([aI 1], SH L, R) := by
        have := s_195 (L := L) (R := R) (c := 10) hh.2.2
        rw [bb.2.2, bip (show R 147 (h : Int) = 3 ∧ R 149 (h : Int) = 10 from ⟨w.1, by rw [w.2]; decide⟩)] at this
        exact this
      have b01 := bi_01 b
      have nb0 : ¬ bi b = 0 → (0 : Int) = bi (!b) := fun q => by cases b with
        | false => exact absurd rfl q
        | true => rfl
      have nb1 : ¬ ¬ bi b = 0 → (1 : Int) = bi (!b) := fun q => by cases b with
        | false => rfl
        | true => exact absurd (by decide) q
      have ai : aW (i + 1) = i + 1 := aWi (by omega) (by omega)
      rcases pass_y (L := L) s c (by omega) with ⟨h4, p1, p2, p3⟩ | ⟨h4, p1, p2, p3⟩
      · obtain ⟨C1, R1, b1, y1, y2, y3, y4, y5⟩ := ih (h + 1) (!b) (nxC C) (nxR R) (i + 1) (by omega) p3 (by omega) (by omega)
        have st46 : aX xc_46 (aSeek xc_46 4) [aR 3, aI (bi b), aI i] [] (SH L) C ([aI (bi b1)], SH L, C1) := by
          refine bl_46_4 ⟨fun q => by omega, fun _ => ⟨fun q => absurd s.2.2.1.1 q, fun _ => ⟨C, _, r26, fun q => absurd c q, fun _ => ⟨_, 1, p1, fun q => bl_46_43 ?_, fun q => bl_46_43 ?_⟩⟩⟩⟩
          · rw [ai, nb0 q]; exact y1
          · rw [ai]; have z := y1; rw [← nb1 q] at z; exact z
        have st204 : ∀ o, aX xc_204 (aSeek xc_204 32) [aR 145, aI row, aU, aI k, aI (bi (!b)), aU] [] (SH L) (nxR R) o → aX xc_204 (aSeek xc_204 32) [aR 145, aI row, aU, aI k, aI (bi b), aU] [] (SH L) R o := by
          intro o r
          refine bl_204_32 ⟨R, 1, r195, fun q => absurd q (by omega), fun _ => ⟨_, 1, p2, fun _ => ⟨fun q => bl_204_60 ?_, fun q => bl_204_60 ?_⟩, fun q => absurd (by omega) q⟩⟩
          · rw [nb0 q]; exact r
          · have z := r; rw [← nb1 q] at z; exact z
        refine ⟨C1, R1, b1, st46, nF_tr nF_nx y2, rE_tr (rE_nx rE_rf) y3, by rw [y4, nxR_c (by omega)], ?_⟩
        rcases y5 with ⟨h1, z1, z2, z3, z4, z5⟩ | ⟨z1, z2⟩
        · exact Or.inl ⟨h1, z1, by omega, fun _ => by omega, z4, fun o r => st204 o (z5 o r)⟩
        · exact Or.inr ⟨z1, st204 _ z2⟩
      · have fe : ∀ x y : Int, (x = 0 ∨ x = 1) → aX xc_46 (aSeek xc_46 4) [aR 3, aI x, aI y] [] (SH L) (flC C 2) ([aI x], SH L, flC C 2) := by
          intro x y hx
          by_cases q : 400 < y
          · exact bl_46_4 ⟨fun _ => ⟨hx, rfl⟩, fun z => absurd q z⟩
          · exact bl_46_4 ⟨fun z => absurd z q, fun _ => ⟨fun _ => ⟨hx, rfl⟩, fun z => absurd p3.1 z⟩⟩
        refine ⟨flC C 2, flR R 2, !b, bl_46_4 ⟨fun q => by omega, fun _ => ⟨fun q => absurd s.2.2.1.1 q, fun _ => ⟨C, _, r26, fun q => absurd c q, fun _ => ⟨_, 0, p1, fun q => bl_46_43 ?_, fun q => bl_46_43 ?_⟩⟩⟩⟩, nF_fl, rE_fl rE_rf, flR_c (by omega), Or.inr ⟨p3, bl_204_32 ⟨R, 1, r195, fun q => absurd q (by omega), fun _ => ⟨_, 0, p2, fun q => absurd rfl q, fun _ => rfl⟩⟩⟩⟩
        · rw [← nb0 q]; exact fe 0 _ (Or.inl rfl)
        · rw [← nb1 q]; exact fe 1 _ (Or.inr rfl)
    · have b01 := bi_01 b
      exact ⟨C, R, b, bl_46_4 ⟨fun q => by omega, fun _ => ⟨fun q => absurd s.2.2.1.1 q, fun _ => ⟨C, _, r26, fun _ => ⟨b01, rfl⟩, fun q => absurd c q⟩⟩⟩, ⟨fun _ _ => rfl, fun _ _ _ _ => rfl⟩, rE_rf, rfl, Or.inl ⟨h, s, Nat.le_refl _, fun q => absurd rfl q, c, fun o r => r⟩⟩
end CND1
