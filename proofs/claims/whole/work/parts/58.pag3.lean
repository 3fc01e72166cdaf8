/-! pages: values -/
section PAG3
variable {L : Nat} {M M1 M2 : aM}
theorem s_305 {n : Nat} (hn : n < 5) : ∃ M1, aE 305 [aR 145, aI n] (SH L) M ([], SH L, M1) ∧ (∀ k : Nat, k < pw n → M1 206 k = (lvs n).getD k 0) ∧ fr 206 207 M M1 := by
  have sm := pg_some n hn
  obtain ⟨fin, hf⟩ := Option.isSome_iff_exists.mp sm
  have el : lvs n = fin 0 := by unfold lvs; rw [hf]
  have key : ∀ k : Int, ∀ M' : aM, 0 ≤ k → k ≤ 16 → fr 206 207 M M' → (∀ a : Nat, a < k → M' 207 a = 1 ∧ M' 206 (16 * a) = 4 * a) → ∃ M1, aX xc_305 (aSeek xc_305 17) [aR 145, aI n, aI (aShl 1 (aDiv (aW ((n : Int) + 1)) 2)), aI (aShl 1 (aDiv n 2)), aI k, aU, aU, aU] [] (SH L) M' ([], SH L, M1) ∧ lf fin M1 ∧ fr 206 207 M M1 := by
    refine upto 16 (fun k hk M' k0 k1 g v => ?_) (fun k hk ih M' k0 k1 g v => ?_)
    · have l0 : lf st0 M' := by
        intro a ha
        obtain ⟨v1, v2⟩ := v a (by omega)
        refine ⟨by show 1 ≤ 16; omega, v1, fun j hj => ?_⟩
        have : j = 0 := by
          have : j < 1 := hj
          omega
        subst this
        show M' 206 (16 * (a : Int) + 0) = _
        rw [Int.add_zero, v2]; rfl
      obtain ⟨M1, r, l, f⟩ := (s305_run (L := L) 400).1 _ _ _ _ _ hf l0
      exact ⟨M1, bl_305_17 ⟨fun _ => r, fun q => absurd hk q⟩, l, fr_tr g f⟩
    · obtain ⟨M1, r, x⟩ := ih (aSet (aSet M' 206 (16 * k) (4 * k)) 207 k 1) (by omega) (by omega) (fr_set (fr_set g (by omega)) (by omega)) (fun a ha => by
        by_cases e : (a : Int) = k
        · rw [e, aSet_e, aSet_r (by omega), aSet_e]; exact ⟨rfl, rfl⟩
        · rw [aSet_i e, aSet_r (by omega), aSet_r (by omega), aSet_i (by omega)]; exact v a (by omega))
      refine ⟨M1, bl_305_17 ⟨fun q => absurd q (by omega), fun _ => ?_⟩, x⟩
      simp only [ln0, ln1, ln2, ln3, ln4]
      rw [aWi (z := 16 * k) (by omega) (by omega), aWi (z := 4 * k) (by omega) (by omega), aWi (z := k + 1) (by omega) (by omega)]
      exact ⟨by omega, by omega, r⟩
  obtain ⟨M1, r, l, f⟩ := key 0 M (by omega) (by omega) fr_rf (fun a ha => by omega)
  refine ⟨M1, en_305 r, fun k hk => ?_, f⟩
  have g := l 0 (by omega)
  rw [← el] at g
  have := g.2.2 k (by rw [(pg_len n hn).1]; exact hk)
  rw [show (16 : Int) * ((0 : Nat) : Int) + k = k by omega] at this
  exact this
theorem p2_le : ∀ n : Nat, n < 5 → pw n ≤ 16 := by decide
theorem s_306 {n : Nat} (hn : n < 5) (hm : ∀ k : Nat, k < pw n → M 206 k = (lvs n).getD k 0) {p : Nat} (hp : p < 2 * pw n) {w : Int} : aE 306 [aR 145, aI p, aI w] (SH L) M ([aI (q306 n p w)], SH L, M) := by
  have b := pg_all n hn p hp
  unfold pgB at b
  obtain ⟨b1, -⟩ := of_decide_eq_true b
  have p2 := p2_le n hn
  have e : M 206 (aDiv p 2) = (lvs n).getD (aDiv p 2).toNat 0 := by
    have := hm (aDiv p 2).toNat (by omega)
    rw [Int.toNat_of_nonneg b1.1] at this
    exact this
  unfold q306
  apply en_306
  rw [e]
  refine ⟨by rw [show aLn (SH L) 1 206 = 256 from rfl]; omega, fun q => ⟨fun q1 => ⟨fun q2 => ?_, fun q2 => ?_⟩, fun q1 => ?_⟩, fun q => ?_⟩
  · rw [if_pos q, if_pos q1, if_pos q2]
  · rw [if_pos q, if_pos q1, if_neg q2]
  · rw [if_pos q, if_neg q1]
  · rw [if_neg q]
def pgV (f p w : Int) : Int := if (0 ≤ f ∧ f ≤ 4) ∧ (0 ≤ p ∧ p < 2 * pw f.toNat) ∧ 0 ≤ w ∧ w ≤ 3 then q306 f.toNat p w else -1
theorem s_167 {f p w : Int} : aE 167 [aR 1, aI f, aI p, aI w] (SH L) M ([aI (pgV f p w)], SH L, M) := by
  by_cases c : 0 ≤ f ∧ f ≤ 4
  · obtain ⟨n, hn⟩ : ∃ n : Nat, f = n := ⟨f.toNat, by omega⟩
    subst hn
    have l := pg_len n (by omega)
    by_cases d : 0 ≤ p ∧ p < 2 * pw n
    · obtain ⟨k, hk⟩ : ∃ k : Nat, p = k := ⟨p.toNat, by omega⟩
      subst hk
      have b := pg_all n (by omega) k (by omega)
      unfold pgB at b
      obtain ⟨-, b2, -⟩ := of_decide_eq_true b
      refine en_167 ⟨fun q => absurd q (by omega), fun _ => ⟨fun q => absurd q (by omega), fun _ => ⟨fun q => absurd q (by omega), fun _ => ⟨fun _ => ⟨M, _, s_166 (by omega), fun q => rI ?_, fun q => rI ?_, fun q => rI ?_, fun q => rI ?_, fun q q1 q2 q3 => rI ?_⟩, fun q => absurd (by rw [l.2.1]; omega) q⟩⟩⟩⟩
      · subst q; unfold pgV; rw [Int.toNat_natCast, if_pos ⟨c, d, by omega⟩, ← b2.1]
      · subst q; unfold pgV; rw [Int.toNat_natCast, if_pos ⟨c, d, by omega⟩, ← b2.2.1]
      · subst q; unfold pgV; rw [Int.toNat_natCast, if_pos ⟨c, d, by omega⟩, ← b2.2.2.1]
      · subst q; unfold pgV; rw [Int.toNat_natCast, if_pos ⟨c, d, by omega⟩, ← b2.2.2.2]
      · unfold pgV; rw [if_neg (by omega)]
    · have ev : pgV n p w = -1 := by unfold pgV; rw [Int.toNat_natCast, if_neg (fun z => d z.2.1)]
      rw [ev]
      refine en_167 ⟨fun q => rfl, fun _ => ⟨fun q => rfl, fun _ => ⟨fun q => rfl, fun q1 => ⟨fun q => absurd ⟨by omega, by rw [l.2.1] at q; exact q⟩ d, fun q => rfl⟩⟩⟩⟩
  · have ev : pgV f p w = -1 := if_neg (fun z => c z.1)
    rw [ev]
    exact en_167 ⟨fun q => rfl, fun q1 => ⟨fun q => rfl, fun q2 => absurd (by omega) c⟩⟩
theorem s_307 {f p w : Int} : ∃ M1, aE 307 [aR 145, aI f, aI p, aI w] (SH L) M ([aI (pgV f p w)], SH L, M1) ∧ sc M M1 := by
  have fs : ∀ {M1 : aM}, fr 206 207 M M1 → sc M M1 := fun g => ⟨fun a x y z => g a (by omega), fun j hj => by rw [g 145 (by omega)]⟩
  by_cases c : 0 ≤ f ∧ f ≤ 4
  · obtain ⟨n, hn⟩ : ∃ n : Nat, f = n := ⟨f.toNat, by omega⟩
    subst hn
    have l := pg_len n (by omega)
    by_cases d : 0 ≤ p ∧ p < 2 * pw n
    · by_cases e : 0 ≤ w ∧ w ≤ 3
      · obtain ⟨k, hk⟩ : ∃ k : Nat, p = k := ⟨p.toNat, by omega⟩
        subst hk
        have ev : pgV n k w = q306 n k w := by unfold pgV; rw [Int.toNat_natCast, if_pos ⟨c, d, e⟩]
        rw [ev]
        obtain ⟨M1, r, v, g⟩ := s_305 (L := L) (M := M) (n := n) (by omega)
        refine ⟨M1, en_307 ⟨M, _, s_219, fun q => absurd c (bid0.mp q), fun _ => ⟨M, _, s_219, fun q => absurd ⟨by omega, by rw [l.2.2, l.2.1]; omega⟩ (bid0.mp q), fun _ => ⟨M, _, s_219, fun _ => ⟨M1, r, M1, _, s_306 (by omega) v (by omega), rfl⟩, fun q => absurd e (bid0.mp (Classical.not_not.mp q))⟩⟩⟩, fs g⟩
      · have ev : pgV n p w = -1 := by unfold pgV; rw [if_neg (fun z => e z.2.2)]
        rw [ev]
        exact ⟨M, en_307 ⟨M, _, s_219, fun q => rfl, fun _ => ⟨M, _, s_219, fun q => rfl, fun _ => ⟨M, _, s_219, fun q => absurd (bid0.mpr e) q, fun q => rfl⟩⟩⟩, sc_rf⟩
    · have ev : pgV n p w = -1 := by unfold pgV; rw [Int.toNat_natCast, if_neg (fun z => d z.2.1)]
      rw [ev]
      exact ⟨M, en_307 ⟨M, _, s_219, fun q => rfl, fun _ => ⟨M, _, s_219, fun q => rfl, fun q => absurd (bid0.mpr (fun z => d ⟨z.1, by rw [l.2.2, l.2.1] at z; omega⟩)) q⟩⟩, sc_rf⟩
  · have ev : pgV f p w = -1 := if_neg (fun z => c z.1)
    rw [ev]
    exact ⟨M, en_307 ⟨M, _, s_219, fun q => rfl, fun q => absurd (bid0.mpr c) q⟩, sc_rf⟩
/-- the first page that is so -/
def fst (q : Nat → Bool) : Nat → Nat → Int
  | 0, _ => -1
  | n + 1, p => if q p = true then (p : Int) else fst q n (p + 1)
theorem fst_cg {q r : Nat → Bool} : ∀ n p, (∀ k, p ≤ k → k < p + n → q k = r k) → fst q n p = fst r n p := by
  intro n
  induction n with
  | zero => intro p _; rfl
  | succ n ih =>
    intro p h
    unfold fst
    rw [h p (by omega) (by omega), ih (p + 1) (fun k k0 k1 => h k (by omega) (by omega))]
theorem fst_no {q : Nat → Bool} : ∀ n p, (∀ k, p ≤ k → k < p + n → q k = false) → fst q n p = -1 := by
  intro n
  induction n with
  | zero => intro p _; rfl
  | succ n ih =>
    intro p h
    unfold fst
    rw [h p (by omega) (by omega), ih (p + 1) (fun k k0 k1 => h k (by omega) (by omega))]
    rfl
theorem pg_d {a b c A B : Int} (q1 : ¬ a < 0) (q2 : ¬ b < 0) (q3 : ¬ c < 0) (q4 : ¬ 1 < c) (q5 : ¬ A ≤ a) (q6 : b < B) : (0 ≤ a ∧ a < A) ∧ (0 ≤ b ∧ b < B) ∧ 0 ≤ c ∧ c ≤ 1 := by omega
theorem pg_e {a b c A B x y z : Int} (h : x = a ∧ y = b ∧ z = c) (h1 : 0 ≤ x ∧ x < A ∧ 0 ≤ y ∧ y < B) (h2 : 0 ≤ z ∧ z ≤ 1) : (0 ≤ a ∧ a < A) ∧ (0 ≤ b ∧ b < B) ∧ 0 ≤ c ∧ c ≤ 1 := by omega
def fiV (f a b c : Int) : Int := if 0 ≤ f ∧ f ≤ 4 then fst (fun p => decide (q306 f.toNat p 0 = a ∧ q306 f.toNat p 1 = b ∧ q306 f.toNat p 2 = c)) (2 * pw f.toNat) 0 else -1
theorem s_168 {f a b c : Int} : aE 168 [aR 1, aI f, aI a, aI b, aI c] (SH L) M ([aI (fiV f a b c)], SH L, M) := by
  by_cases hf : 0 ≤ f ∧ f ≤ 4
  · obtain ⟨n, hn⟩ : ∃ n : Nat, f = n := ⟨f.toNat, by omega⟩
    subst hn
    have l := pg_len n (by omega)
    have ev : fiV n a b c = fst (fun p => decide (q306 n p 0 = a ∧ q306 n p 1 = b ∧ q306 n p 2 = c)) (2 * pw n) 0 := by unfold fiV; rw [if_pos hf, Int.toNat_natCast]
    rw [ev]
    by_cases d : (0 ≤ a ∧ a < aShl 1 (aDiv (aW ((n : Int) + 1)) 2)) ∧ (0 ≤ b ∧ b < aShl 1 (aDiv n 2)) ∧ 0 ≤ c ∧ c ≤ 1
    · have key : ∀ j p : Nat, p + j = 2 * pw n → aX xc_168 (aSeek xc_168 53) [aU, aI n, aI a, aI b, aI c, aI p] [] (SH L) M ([aI (fst (fun p => decide (q306 n p 0 = a ∧ q306 n p 1 = b ∧ q306 n p 2 = c)) j p)], SH L, M) := by
        intro j
        induction j with
        | zero =>
          intro p hp
          exact bl_168_53 ⟨fun _ => rfl, fun q => absurd (by rw [l.2.1]; omega) q⟩
        | succ j ih =>
          intro p hp
          have p2 := p2_le n (by omega)
          have g := pg_all n (by omega) p (by omega)
          unfold pgB at g
          obtain ⟨-, -, b3, b4, b5, b6⟩ := of_decide_eq_true g
          unfold fst
          refine bl_168_53 ⟨fun q => absurd q (by rw [l.2.1]; omega), fun _ => ⟨M, _, s_166 (by omega), ?_⟩⟩
          rw [b3, aWi (z := 8 * b) (by omega) (by omega), aWi (z := a + 8 * b) (by omega) (by omega), aWi (z := 64 * c) (by omega) (by omega), aWi (z := a + 8 * b + 64 * c) (by omega) (by omega)]
          refine ⟨fun q => ?_, fun q => ?_⟩
          · rw [if_neg (by rw [decide_eq_true_eq]; omega), aWi (by omega) (by omega), show (p : Int) + 1 = ((p + 1 : Nat) : Int) by omega]
            exact ih (p + 1) (by omega)
          · rw [if_pos (by rw [decide_eq_true_eq]; omega)]
      refine en_168 ⟨fun q => absurd q (by omega), fun _ => ⟨fun q => absurd q (by omega), fun _ => ⟨fun q => absurd q (by omega), fun _ => ⟨fun q => absurd q (by omega), fun _ => ⟨fun q => absurd q (by omega), fun _ => ⟨fun q => absurd q (by omega), fun _ => ⟨fun q => absurd q (by omega), fun _ => ⟨fun _ => key _ 0 (by omega), fun q => absurd d.2.1.2 q⟩⟩⟩⟩⟩⟩⟩⟩
    · rw [fst_no _ _ (fun k k0 k1 => ?_)]
      · refine en_168 ⟨fun q => rfl, fun _ => ⟨fun q => rfl, fun _ => ⟨fun q => rfl, fun q1 => ⟨fun q => rfl, fun q2 => ⟨fun q => rfl, fun q3 => ⟨fun q => rfl, fun q4 => ⟨fun q => rfl, fun q5 => ⟨fun q6 => absurd (pg_d q1 q2 q3 q4 q5 q6) d, fun q => rfl⟩⟩⟩⟩⟩⟩⟩⟩
      · have g := pg_all n (by omega) k (by omega)
        unfold pgB at g
        obtain ⟨-, -, b3, b4, b5, b6⟩ := of_decide_eq_true g
        exact decide_eq_false (fun z => d (pg_e z b4 b6))
  · have ev : fiV f a b c = -1 := if_neg hf
    rw [ev]
    exact en_168 ⟨fun q => rfl, fun q1 => ⟨fun q => rfl, fun q2 => absurd (by omega) hf⟩⟩
theorem s_308 {f a b c : Int} : ∃ M1, aE 308 [aR 145, aI f, aI a, aI b, aI c] (SH L) M ([aI (fiV f a b c)], SH L, M1) ∧ sc M M1 := by
  have fs : ∀ {M1 : aM}, fr 206 207 M M1 → sc M M1 := fun g => ⟨fun a x y z => g a (by omega), fun j hj => by rw [g 145 (by omega)]⟩
  by_cases hf : 0 ≤ f ∧ f ≤ 4
  · obtain ⟨n, hn⟩ : ∃ n : Nat, f = n := ⟨f.toNat, by omega⟩
    subst hn
    have l := pg_len n (by omega)
    have ev : fiV n a b c = fst (fun p => decide (q306 n p 0 = a ∧ q306 n p 1 = b ∧ q306 n p 2 = c)) (2 * pw n) 0 := by unfold fiV; rw [if_pos hf, Int.toNat_natCast]
    rw [ev]
    obtain ⟨M1, r, v, g⟩ := s_305 (L := L) (M := M) (n := n) (by omega)
    have key : ∀ j p : Nat, p + j = 2 * pw n → aX xc_308 (aSeek xc_308 19) [aR 145, aI n, aI a, aI b, aI c, aI p] [] (SH L) M1 ([aI (fst (fun p => decide (q306 n p 0 = a ∧ q306 n p 1 = b ∧ q306 n p 2 = c)) j p)], SH L, M1) := by
      intro j
      induction j with
      | zero =>
        intro p hp
        exact bl_308_19 ⟨fun _ => rfl, fun q => absurd (by rw [l.2.1]; omega) q⟩
      | succ j ih =>
        intro p hp
        have p2 := p2_le n (by omega)
        have nx : ¬ (q306 n p 0 = a ∧ q306 n p 1 = b ∧ q306 n p 2 = c) → aX xc_308 (aSeek xc_308 64) [aR 145, aI n, aI a, aI b, aI c, aI p] [] (SH L) M1 ([aI (fst (fun p => decide (q306 n p 0 = a ∧ q306 n p 1 = b ∧ q306 n p 2 = c)) (j + 1) p)], SH L, M1) := by
          intro q
          unfold fst
          rw [if_neg (by rw [decide_eq_true_eq]; exact q)]
          apply bl_308_64
          rw [aWi (by omega) (by omega), show (p : Int) + 1 = ((p + 1 : Nat) : Int) by omega]
          exact ih (p + 1) (by omega)
        refine bl_308_19 ⟨fun q => absurd q (by rw [l.2.1]; omega), fun _ => ⟨M1, _, s_306 (by omega) v (by omega), fun q => nx (fun z => q z.1), fun q => ⟨M1, _, s_306 (by omega) v (by omega), fun q1 => nx (fun z => q1 z.2.1), fun q1 => ⟨M1, _, s_306 (by omega) v (by omega), fun q2 => nx (fun z => q2 z.2.2), fun q2 => rI ?_⟩⟩⟩⟩
        unfold fst
        rw [if_pos (by rw [decide_eq_true_eq]; exact ⟨Classical.not_not.mp q, Classical.not_not.mp q1, Classical.not_not.mp q2⟩)]
    exact ⟨M1, en_308 ⟨M, _, s_219, fun _ => ⟨M1, r, key _ 0 (by omega)⟩, fun q => absurd hf (bid0.mp (Classical.not_not.mp q))⟩, fs g⟩
  · have ev : fiV f a b c = -1 := if_neg hf
    rw [ev]
    exact ⟨M, en_308 ⟨M, _, s_219, fun q => absurd (bid0.mpr hf) q, fun q => rfl⟩, sc_rf⟩
end PAG3
