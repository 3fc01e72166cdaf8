/-! take, tight: both -/
section TAKE
variable {L : Nat} {M M1 M2 : aM}
theorem s_65 (h : rP M) (hc : (0 ≤ M 1 9 ∧ M 1 9 ≤ 10000) ∧ 0 ≤ M 1 10 ∧ M 1 10 ≤ 10000) {t : Int} (t0 : 0 ≤ t) (t1 : t < M 31 0) : ∃ M1, aE 65 [aR 1, aI t] (SH L) M ([aI (M 31 0 - 1)], SH L, M1) ∧ (∀ a, a ≠ 1 → (a < 31 ∨ 38 < a) → M1 a = M a) ∧ (∀ j, j ≠ 9 → j ≠ 10 → M1 1 j = M 1 j) ∧ M1 1 9 = M 1 9 + 1 ∧ M1 1 10 = M 1 10 + 1 ∧
    M1 31 0 = M 31 0 - 1 ∧ (∀ j, j ≠ 0 → M1 31 j = M 31 j) ∧ ∀ i, 0 ≤ i → i < M 31 0 - 1 → thE M1 31 i M 31 (skI t i) := by
  have n := rP_n h
  obtain ⟨M1, r, f, b0, bj, v⟩ := s_64 (L := L) h.2.1.1 t0 t1
  have e1 : M1 1 = M 1 := f 1 (by omega)
  refine ⟨aSet (aSet M1 1 9 (M 1 9 + 1)) 1 10 (M 1 10 + 1), en_65 ⟨M, _, s_63 bd31, fun _ => ⟨M1, r, _, s_51, ?_⟩, fun q => binn (show 0 ≤ t ∧ t < M 31 0 from ⟨t0, t1⟩) q⟩, fun a a1 a2 => by rw [aSet_c a1, aSet_c a1]; exact f a a2, fun j j9 j10 => by rw [aSet_i j10, aSet_i j9, e1], by rw [aSet_i (by omega), aSet_e], aSet_e, by rw [aSet_r (by omega), aSet_r (by omega)]; exact b0, fun j hj => by rw [aSet_r (by omega), aSet_r (by omega)]; exact bj j hj, fun i i0 i1 => ?_⟩
  · rw [e1, aWi (z := M 1 9 + 1) (by omega) (by omega), aWi (z := M 1 10 + 1) (by omega) (by omega), aSet_r (show (31 : Int) ≠ 1 by omega), aSet_r (show (31 : Int) ≠ 1 by omega), b0]
  · have := v i i0 i1
    unfold thE at this ⊢
    simp (disch := omega) only [aSet_c]
    exact this
theorem s_228 {n t : Int} (hn : M 179 0 = n) (h40 : n ≤ 40) (hb : ∀ i, 0 ≤ i → i < n → M 184 i = 0 ∨ M 184 i = 1) (t0 : 0 ≤ t) (t1 : t < n) : ∃ M1, aE 228 [aR 145, aI t] (SH L) M ([aI (n - 1)], SH L, M1) ∧ (∀ a, a ≠ 179 → (a < 181 ∨ 184 < a) → M1 a = M a) ∧ M1 179 0 = n - 1 ∧ (∀ j, j ≠ 0 → M1 179 j = M 179 j) ∧ (∀ a i, 181 ≤ a → a ≤ 184 → n - 1 ≤ i → M1 a i = M a i) ∧
    ∀ a i, 181 ≤ a → a ≤ 184 → 0 ≤ i → i < n - 1 → M1 a i = M a (skI t i) := by
  have key : ∀ i, ∀ M' : aM, t ≤ i → i ≤ n - 1 → (∀ a, a ≠ 179 → (a < 181 ∨ 184 < a) → M' a = M a) → M' 179 0 = n - 1 → (∀ j, j ≠ 0 → M' 179 j = M 179 j) → (∀ a k, 181 ≤ a → a ≤ 184 → 0 ≤ k → k < i → M' a k = M a (skI t k)) → (∀ a k, 181 ≤ a → a ≤ 184 → i ≤ k → M' a k = M a k) →
      ∃ M1, aX xc_228 (aSeek xc_228 22) [aR 145, aU, aI i] [] (SH L) M' ([aI (n - 1)], SH L, M1) ∧ (∀ a, a ≠ 179 → (a < 181 ∨ 184 < a) → M1 a = M a) ∧ M1 179 0 = n - 1 ∧ (∀ j, j ≠ 0 → M1 179 j = M 179 j) ∧ (∀ a i, 181 ≤ a → a ≤ 184 → n - 1 ≤ i → M1 a i = M a i) ∧
      ∀ a i, 181 ≤ a → a ≤ 184 → 0 ≤ i → i < n - 1 → M1 a i = M a (skI t i) := by
    refine upto (n - 1) (fun i hi M' i0 i1 f e0 ej lo hi' => ?_) (fun i hi ih M' i0 i1 f e0 ej lo hi' => ?_)
    · have e : i = n - 1 := by omega
      subst e
      exact ⟨M', bl_228_22 ⟨fun _ => rI e0.symm, fun q => absurd (by omega) q⟩, f, e0, ej, fun a k a1 a2 k0 => hi' a k a1 a2 k0, lo⟩
    · have v := fun a (a1 : 181 ≤ a) (a2 : a ≤ 184) => hi' a (i + 1) a1 a2 (by omega)
      obtain ⟨M1, r, x⟩ := ih (aSet (aSet (aSet (aSet M' 181 i (M 181 (i + 1))) 182 i (M 182 (i + 1))) 183 i (M 183 (i + 1))) 184 i (M 184 (i + 1))) (by omega) (by omega) (fun a a1 a2 => by
          simp (disch := omega) only [aSet_c]
          exact f a a1 a2) (by simp (disch := omega) only [aSet_c]; exact e0) (fun j hj => by simp (disch := omega) only [aSet_c]; exact ej j hj) (fun a k a1 a2 k0 k1 => by
          by_cases c : k = i
          · have ca : a = 181 ∨ a = 182 ∨ a = 183 ∨ a = 184 := by omega
            rw [c, show skI t i = i + 1 by unfold skI; rw [if_neg (by omega)]]
            rcases ca with rfl | rfl | rfl | rfl
            all_goals (simp (disch := omega) only [aSet_c, aSet_e])
          · rw [aSet_i c, aSet_i c, aSet_i c, aSet_i c]
            exact lo a k a1 a2 k0 (by omega)) (fun a k a1 a2 k0 => by
          rw [aSet_i (by omega), aSet_i (by omega), aSet_i (by omega), aSet_i (by omega)]
          exact hi' a k a1 a2 (by omega))
      refine ⟨M1, bl_228_22 ⟨fun q => absurd q (by omega), fun _ => ?_⟩, x⟩
      simp only [ln0, ln1, ln2, ln3, ln4]
      rw [aWi (z := i + 1) (by omega) (by omega)]
      simp (disch := omega) only [aSet_c]
      rw [v 181 (by omega) (by omega), v 182 (by omega) (by omega), v 183 (by omega) (by omega), v 184 (by omega) (by omega)]
      exact ⟨by omega, by omega, by omega, by omega, by omega, by omega, by omega, ⟨by omega, hb (i + 1) (by omega) (by omega)⟩, r⟩
  obtain ⟨M1, r, x⟩ := key t (aSet M 179 0 (n - 1)) (by omega) (by omega) (fun a a1 a2 => aSet_c a1) aSet_e (fun j hj => aSet_i hj) (fun a k a1 a2 k0 k1 => by
    rw [aSet_r (by omega), show skI t k = k by unfold skI; rw [if_pos k1]]) (fun a k a1 a2 k0 => aSet_r (by omega))
  refine ⟨M1, en_228 ⟨M, _, s_221, fun _ => ?_, fun q => binn (show 0 ≤ t ∧ t < M 179 0 by omega) q⟩, x⟩
  rw [hn, aWi (by omega) (by omega)]
  exact r
theorem sum_sk {f : Int → Int} {n t : Int} (t0 : 0 ≤ t) (t1 : t < n) : sumI (fun i => f (skI t i)) 0 (n - 1) + f t = sumI f 0 n := by
  rw [sumI_cut (m := t) (by omega) 0 t0, sumI_cut (f := f) (m := t) (by omega) 0 t0, sumI_step (f := f) (i := t) t1]
  rw [sumI_congr (f := fun i => f (skI t i)) (g := f) (n := t) 0 (fun j j0 j1 => by unfold skI; rw [if_pos j1])]
  rw [sumI_congr (f := fun i => f (skI t i)) (g := fun i => f (i + 1)) (n := n - 1) t (fun j j0 j1 => by unfold skI; rw [if_neg (by omega)])]
  have := sumI_shift (f := fun i => f (i + 1)) (n := n - 1) t
  rw [show n - 1 + 1 = n by omega, sumI_congr (f := fun p => (fun i => f (i + 1)) (p - 1)) (g := f) (t + 1) (fun j j0 j1 => by show f (j - 1 + 1) = f j; rw [show j - 1 + 1 = j by omega])] at this
  omega
theorem o_take (h : rP M) (hc : (0 ≤ M 1 9 ∧ M 1 9 ≤ 10000) ∧ 0 ≤ M 1 10 ∧ M 1 10 ≤ 10000) {t : Int} : ∃ v M1 M2, aE 65 [aR 1, aI t] (SH L) M ([aI v], SH L, M1) ∧ aE 228 [aR 145, aI t] (SH L) M1 ([aI v], SH L, M2) ∧ rP M2 ∧ chg M M2 := by
  have n := rP_n h
  have tl := tx_le (rP_tx h)
  by_cases c : 0 ≤ t ∧ t < M 31 0
  · obtain ⟨M1, r1, f1, g1, e9, e10, b0, bj, v⟩ := s_65 (L := L) h hc c.1 c.2
    have q179 : M1 179 = M 179 := f1 179 (by omega) (by omega)
    obtain ⟨M2, r2, f2, d0, dj, hi, lo⟩ := s_228 (L := L) (M := M1) (n := M 31 0) (t := t) (by rw [q179]; exact n.2.2) n.2.1 (fun i i0 i1 => by
      rw [f1 184 (by omega) (by omega), (rP_m h i0 i1).2.2.2.1]
      exact (rP_i h i0 i1).2.2.2.2) c.1 c.2
    have o2 : ∀ a, a ≠ 1 → (a < 31 ∨ 38 < a) → (a < 179 ∨ 184 < a) → M2 a = M a := fun a x1 x2 x3 => (f2 a (by omega) (by omega)).trans (f1 a x1 x2)
    have q180 : M2 180 = M 180 := (f2 180 (by omega) (by omega)).trans (f1 180 (by omega) (by omega))
    have q1 : M2 1 = M1 1 := f2 1 (by omega) (by omega)
    have q31 : M2 31 = M1 31 := f2 31 (by omega) (by omega)
    have t3 : M2 1 3 = M 1 3 := by rw [q1]; exact g1 3 (by omega) (by omega)
    have sk : ∀ i, 0 ≤ i → i < M 31 0 - 1 → 0 ≤ skI t i ∧ skI t i < M 31 0 := fun i i0 i1 => by unfold skI; split <;> omega
    have ski : ∀ i j : Int, i ≠ j → skI t i ≠ skI t j := by
      intro i j ij
      unfold skI
      repeat' split
      all_goals omega
    have cb : ∀ i, 0 ≤ i → i < M 31 0 - 1 → M2 32 i = M 32 (skI t i) ∧ M2 33 i = M 33 (skI t i) ∧ M2 34 i = M 34 (skI t i) ∧ M2 35 i = M 35 (skI t i) ∧ M2 36 i = M 36 (skI t i) ∧ M2 37 i = M 37 (skI t i) ∧ M2 38 i = M 38 (skI t i) := fun i i0 i1 => by
      have := v i i0 i1
      rw [f2 32 (by omega) (by omega), f2 33 (by omega) (by omega), f2 34 (by omega) (by omega), f2 35 (by omega) (by omega), f2 36 (by omega) (by omega), f2 37 (by omega) (by omega), f2 38 (by omega) (by omega)]
      exact this
    have om : ∀ a i, 181 ≤ a → a ≤ 184 → 0 ≤ i → i < M 31 0 - 1 → M2 a i = M a (skI t i) := fun a i a1 a2 i0 i1 => by
      rw [lo a i a1 a2 i0 i1, f1 a (by omega) (by omega)]
    have b0' : M2 31 0 = M 31 0 - 1 := by rw [q31]; exact b0
    refine ⟨_, M1, M2, r1, r2, ⟨?_, ⟨⟨bd31, ⟨by omega, by omega⟩, fun i i0 i1 => ?_⟩, by rw [d0, b0'], ⟨by rw [q31, bj 8 (by omega)]; exact h.2.1.2.2.1.1, by rw [q31, bj 8 (by omega)]; exact h.2.1.2.2.1.2.1, by rw [q31, bj 8 (by omega), q180]; exact rP_tg h⟩, fun i i0 i1 => ?_, fun i j i0 i1 j0 j1 ij => ?_⟩, fun i i0 i1 => ?_, fun z z0 z1 => ?_⟩, o2, fun j j9 j10 => by rw [q1]; exact g1 j j9 j10, fun a b ha hb => ?_, fun a b a1 a2 hb => by rw [hi a b a1 a2 (by omega), f1 a (by omega) (by omega)], fun i i0 hb => ?_, Or.inr ⟨by rw [q1]; exact e9, by rw [q1]; exact e10⟩⟩
    · rw [t3]
      exact rT_cg h.1 (fun a x1 x2 => o2 a (by omega) (by omega) (by omega)) (fun a x1 x2 => o2 a (by omega) (by omega) (by omega))
    · rw [b0'] at i1
      obtain ⟨w1, w2, w3, w4, w5, w6, w7⟩ := cb i i0 i1
      show (0 ≤ M2 32 i ∧ M2 32 i < 14) ∧ (0 ≤ M2 33 i ∧ M2 33 i ≤ 3) ∧ (0 ≤ M2 34 i ∧ 1 ≤ M2 36 i ∧ M2 34 i + M2 36 i ≤ 60) ∧ (0 ≤ M2 35 i ∧ 1 ≤ M2 37 i ∧ M2 35 i + M2 37 i ≤ 60) ∧ (M2 38 i = 0 ∨ M2 38 i = 1)
      rw [w1, w2, w3, w4, w5, w6, w7]
      exact rP_i h (sk i i0 i1).1 (sk i i0 i1).2
    · rw [b0'] at i1
      obtain ⟨w1, w2, w3, w4, w5, w6, w7⟩ := cb i i0 i1
      rw [show (40 : Int) * 0 + i = i by omega]
      show M2 181 i = M2 32 i ∧ M2 182 i = M2 34 i ∧ M2 183 i = M2 35 i ∧ M2 184 i = M2 38 i
      rw [w1, w3, w4, w7, om 181 i (by omega) (by omega) i0 i1, om 182 i (by omega) (by omega) i0 i1, om 183 i (by omega) (by omega) i0 i1, om 184 i (by omega) (by omega) i0 i1]
      obtain ⟨a1, a2, a3, a4, -⟩ := rP_m h (sk i i0 i1).1 (sk i i0 i1).2
      exact ⟨a1, a2, a3, a4⟩
    · rw [b0'] at i1 j1
      obtain ⟨-, -, w3, w4, w5, w6, -⟩ := cb i i0 i1
      obtain ⟨-, -, u3, u4, u5, u6, -⟩ := cb j j0 j1
      show M2 34 i + M2 36 i ≤ M2 34 j ∨ M2 34 j + M2 36 j ≤ M2 34 i ∨ M2 35 i + M2 37 i ≤ M2 35 j ∨ M2 35 j + M2 37 j ≤ M2 35 i
      rw [w3, w4, w5, w6, u3, u4, u5, u6]
      exact rP_l h (sk i i0 i1).1 (sk i i0 i1).2 (sk j j0 j1).1 (sk j j0 j1).2 (ski i j ij)
    · rw [b0'] at i1
      obtain ⟨w1, w2, w3, w4, w5, w6, w7⟩ := cb i i0 i1
      rw [t3, o2 (M 1 3) (by omega) (by omega) (by omega), o2 (M 1 3 + 2) (by omega) (by omega) (by omega), o2 (M 1 3 + 3) (by omega) (by omega) (by omega), o2 (M 1 3 + 4) (by omega) (by omega) (by omega)]
      show M2 32 i < M (M 1 3) 3 ∧ M2 33 i = M (M 1 3 + 2) (M2 32 i) ∧ (M2 38 i = 0 → M2 36 i = M (M 1 3 + 3) (M2 32 i) ∧ M2 37 i = M (M 1 3 + 4) (M2 32 i)) ∧ (M2 38 i = 1 → M2 36 i = M (M 1 3 + 4) (M2 32 i) ∧ M2 37 i = M (M 1 3 + 3) (M2 32 i)) ∧ M2 34 i + M2 36 i ≤ M (M 1 3) 0 ∧ M2 35 i + M2 37 i ≤ M (M 1 3) 1
      rw [w1, w2, w3, w4, w5, w6, w7]
      exact h.2.2.1 _ (sk i i0 i1).1 (sk i i0 i1).2
    · rw [t3, o2 (M 1 3 + 5) (by omega) (by omega) (by omega)]
      rw [t3, o2 (M 1 3) (by omega) (by omega) (by omega)] at z1
      have a := h.2.2.2 z z0 z1
      have e : sumI (fun i => bi (decide (M 32 (skI t i) = z))) 0 (M 31 0 - 1) + bi (decide (M 32 t = z)) = cntK M 31 z := sum_sk (f := fun j => bi (decide (M 32 j = z))) c.1 c.2
      have b := bi_le (decide (M 32 t = z))
      have e2 : cntK M2 31 z = sumI (fun i => bi (decide (M 32 (skI t i) = z))) 0 (M 31 0 - 1) := by
        unfold cntK
        rw [b0']
        exact sumI_congr 0 (fun j j0 j1 => by
          show bi (decide (M2 32 j = z)) = bi (decide (M 32 (skI t j) = z))
          rw [(cb j j0 j1).1])
      rw [e2]
      omega
    · rcases ha with rfl | rfl
      · rw [dj b hb, q179]
      · rw [f2 180 (by omega) (by omega), f1 180 (by omega) (by omega)]
    · by_cases ci : M 31 0 - 1 ≤ i
      · rw [hi 184 i (by omega) (by omega) ci, f1 184 (by omega) (by omega)]; exact hb
      · rw [om 184 i (by omega) (by omega) i0 (by omega), (rP_m h (sk i i0 (by omega)).1 (sk i i0 (by omega)).2).2.2.2.1]
        exact (rP_i h (sk i i0 (by omega)).1 (sk i i0 (by omega)).2).2.2.2.2
  · exact ⟨_, M, M, en_65 ⟨M, _, s_63 bd31, fun q => absurd (bin c) q, fun _ => rfl⟩, en_228 ⟨M, _, s_221, fun q => absurd (bin (by omega)) q, fun _ => rfl⟩, h, fun _ _ _ _ => rfl, fun _ _ _ => rfl, fun _ _ _ _ => rfl, fun _ _ _ _ _ => rfl, fun _ _ q => q, Or.inl ⟨rfl, rfl, fun _ _ _ => rfl⟩⟩
theorem tg_set : ∀ k : Nat, k < 6 → ∀ m : Nat, m < 64 → (0 ≤ aOr (m : Int) (aShl 1 (k : Int)) ∧ aOr (m : Int) (aShl 1 (k : Int)) < 64) ∧ 0 ≤ aAnd (m : Int) (aXor (aShl 1 (k : Int)) (-1)) ∧ aAnd (m : Int) (aXor (aShl 1 (k : Int)) (-1)) < 64 := by decide +kernel
theorem o_tight (h : rP M) (hc : 0 ≤ M 1 10 ∧ M 1 10 ≤ 10000) {w on : Int} : ∃ v M1 M2, aE 75 [aR 1, aI w, aI on] (SH L) M ([aI v], SH L, M1) ∧ aE 238 [aR 145, aI w, aI on] (SH L) M1 ([aI v], SH L, M2) ∧ rP M2 ∧ (∀ a, a ≠ 1 → a ≠ 31 → a ≠ 180 → M2 a = M a) ∧ (∀ j, j ≠ 10 → M2 1 j = M 1 j) ∧ (∀ j, j ≠ 8 → M2 31 j = M 31 j) ∧ (∀ j, j ≠ 0 → M2 180 j = M 180 j) ∧
    (M2 = M ∨ M2 1 10 = M 1 10 + 1) := by
  have n := rP_n h
  have tx0 := rP_tx h
  have tl := tx_le tx0
  have tg := rP_tg h
  have t6 := h.2.1.2.2.1
  have w6 := h.1.2.2.2.1
  by_cases c : 0 ≤ w ∧ w < M (M 1 3) 9
  · have key := tg_set w.toNat (by omega) (M 31 8).toNat (by omega)
    rw [Int.toNat_of_nonneg c.1, Int.toNat_of_nonneg t6.1] at key
    have go : ∀ z : Int, 0 ≤ z ∧ z < 64 → (on = 0 → z = aAnd (M 31 8) (aXor (aShl 1 w) (-1))) → (¬ on = 0 → z = aOr (M 31 8) (aShl 1 w)) → ∃ v M1 M2, aE 75 [aR 1, aI w, aI on] (SH L) M ([aI v], SH L, M1) ∧ aE 238 [aR 145, aI w, aI on] (SH L) M1 ([aI v], SH L, M2) ∧ rP M2 ∧ (∀ a, a ≠ 1 → a ≠ 31 → a ≠ 180 → M2 a = M a) ∧ (∀ j, j ≠ 10 → M2 1 j = M 1 j) ∧ (∀ j, j ≠ 8 → M2 31 j = M 31 j) ∧ (∀ j, j ≠ 0 → M2 180 j = M 180 j) ∧
        (M2 = M ∨ M2 1 10 = M 1 10 + 1) := by
      intro z hz z0 z1
      have m10 : aSet M 31 8 z 1 10 = M 1 10 := aSet_r (by omega)
      have k52 : aX xc_75 (aSeek xc_75 52) [aR 1, aU, aU, aU] [aI z, aR 31] (SH L) M ([aI 1], SH L, aSet (aSet M 31 8 z) 1 10 (M 1 10 + 1)) := by
        refine bl_75_52 ⟨rfl, ?_⟩
        rw [m10, aWi (by omega) (by omega)]
      have M1_180 : aSet (aSet M 31 8 z) 1 10 (M 1 10 + 1) 180 = M 180 := by rw [aSet_c (by omega), aSet_c (by omega)]
      have M1_159 : aSet (aSet M 31 8 z) 1 10 (M 1 10 + 1) 159 = M 159 := by rw [aSet_c (by omega), aSet_c (by omega)]
      have o2 : ∀ a, a ≠ 1 → a ≠ 31 → a ≠ 180 → aSet (aSet (aSet M 31 8 z) 1 10 (M 1 10 + 1)) 180 0 z a = M a := fun a a1 a2 a3 => by rw [aSet_c a3, aSet_c a1, aSet_c a2]
      have o31 : ∀ j, j ≠ 8 → aSet (aSet (aSet M 31 8 z) 1 10 (M 1 10 + 1)) 180 0 z 31 j = M 31 j := fun j hj => by rw [aSet_r (by omega), aSet_r (by omega), aSet_i hj]
      have o318 : aSet (aSet (aSet M 31 8 z) 1 10 (M 1 10 + 1)) 180 0 z 31 8 = z := by rw [aSet_r (by omega), aSet_r (by omega), aSet_e]
      have o1 : ∀ j, j ≠ 10 → aSet (aSet (aSet M 31 8 z) 1 10 (M 1 10 + 1)) 180 0 z 1 j = M 1 j := fun j hj => by rw [aSet_r (by omega), aSet_i hj, aSet_r (by omega)]
      refine ⟨1, _, aSet (aSet (aSet M 31 8 z) 1 10 (M 1 10 + 1)) 180 0 z, en_75 ⟨fun q => absurd q (by omega), fun _ => ⟨(tx tx0).1, fun _ => ⟨fun q => by rw [← z0 q]; exact k52, fun q => by rw [← z1 q]; exact k52⟩, fun q => absurd c.2 q⟩⟩, en_238 ⟨fun q => absurd q (by omega), fun _ => ⟨fun _ => ?_, fun q => absurd (by rw [M1_159]; omega) q⟩⟩, ?_, o2, o1, o31, fun j hj => by rw [aSet_i hj, M1_180], Or.inr (by rw [aSet_r (by omega), aSet_e])⟩
      · rw [M1_180, tg]
        exact ⟨fun q => by rw [← z0 q], fun q => by rw [← z1 q]⟩
      · unfold rP
        rw [o1 3 (by omega)]
        refine ⟨rT_cg h.1 (fun a x1 x2 => o2 a (by omega) (by omega) (by omega)) (fun a x1 x2 => o2 a (by omega) (by omega) (by omega)), ?_, ?_⟩
        · have g := h.2.1
          unfold rB bOk at g ⊢
          rw [o31 0 (by omega), o318, aSet_e, o2 (31 + 1) (by omega) (by omega) (by omega), o2 (31 + 2) (by omega) (by omega) (by omega), o2 (31 + 3) (by omega) (by omega) (by omega), o2 (31 + 4) (by omega) (by omega) (by omega), o2 (31 + 5) (by omega) (by omega) (by omega), o2 (31 + 6) (by omega) (by omega) (by omega), o2 (31 + 7) (by omega) (by omega) (by omega), o2 179 (by omega) (by omega) (by omega), o2 181 (by omega) (by omega) (by omega), o2 182 (by omega) (by omega) (by omega), o2 183 (by omega) (by omega) (by omega), o2 184 (by omega) (by omega) (by omega)]
          exact ⟨g.1, g.2.1, ⟨hz.1, hz.2, rfl⟩, g.2.2.2⟩
        · have g := h.2.2
          unfold rF cntK at g ⊢
          rw [o31 0 (by omega), o2 (31 + 1) (by omega) (by omega) (by omega), o2 (31 + 2) (by omega) (by omega) (by omega), o2 (31 + 3) (by omega) (by omega) (by omega), o2 (31 + 4) (by omega) (by omega) (by omega), o2 (31 + 5) (by omega) (by omega) (by omega), o2 (31 + 6) (by omega) (by omega) (by omega), o2 (31 + 7) (by omega) (by omega) (by omega), o2 (M 1 3) (by omega) (by omega) (by omega), o2 (M 1 3 + 2) (by omega) (by omega) (by omega), o2 (M 1 3 + 3) (by omega) (by omega) (by omega), o2 (M 1 3 + 4) (by omega) (by omega) (by omega), o2 (M 1 3 + 5) (by omega) (by omega) (by omega)]
          exact g
    by_cases d : on = 0
    · exact go _ key.2 (fun _ => rfl) (fun q => absurd d q)
    · exact go _ key.1 (fun q => absurd q d) (fun _ => rfl)
  · exact ⟨0, M, M, en_75 ⟨fun _ => rfl, fun q => ⟨(tx tx0).1, fun q2 => absurd ⟨by omega, q2⟩ c, fun _ => rfl⟩⟩, en_238 ⟨fun _ => rfl, fun q => ⟨fun q2 => absurd ⟨by omega, by omega⟩ c, fun _ => rfl⟩⟩, h, fun _ _ _ _ => rfl, fun _ _ => rfl, fun _ _ => rfl, fun _ _ => rfl, Or.inl rfl⟩
end TAKE
