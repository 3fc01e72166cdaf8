/-! shifts: what they are, and the class's -/
section SHF1
variable {L : Nat} {M M1 M2 : aM}
def SQ (M : aM) (s : Int) (g S : Int → Int) : Prop := ∀ t, 0 ≤ t → t < M 31 0 → 0 ≤ S t ∧ (∀ o, 0 ≤ o → o < M 31 0 → 0 < tA M t s o → S o + g o ≤ S t) ∧ (S t = 0 ∨ ∃ o, (0 ≤ o ∧ o < M 31 0) ∧ 0 < tA M t s o ∧ S t = S o + g o)
theorem SQ_g {s : Int} {g g' S : Int → Int} (h : SQ M s g S) (e : ∀ t, 0 ≤ t → t < M 31 0 → g t = g' t) : SQ M s g' S := by
  intro t t0 t1
  obtain ⟨a, b, c⟩ := h t t0 t1
  refine ⟨a, fun o o0 o1 ho => by rw [← e o o0 o1]; exact b o o0 o1 ho, ?_⟩
  rcases c with c | ⟨o, oi, ho, hv⟩
  · exact Or.inl c
  · exact Or.inr ⟨o, oi, ho, by rw [← e o oi.1 oi.2]; exact hv⟩
theorem SQ_ke (k : ke M M1) {s : Int} {g S : Int → Int} (h : SQ M s g S) : SQ M1 s g S := by
  intro t t0 t1
  rw [k 31 (by omega)] at t1
  obtain ⟨a, b, c⟩ := h t t0 t1
  refine ⟨a, fun o o0 o1 ho => ?_, ?_⟩
  · rw [k 31 (by omega)] at o1
    rw [ke_tA k] at ho
    exact b o o0 o1 ho
  · rcases c with c | ⟨o, oi, ho, hv⟩
    · exact Or.inl c
    · exact Or.inr ⟨o, by rw [k 31 (by omega)]; exact oi, by rw [ke_tA k]; exact ho, hv⟩
/-- whatever keeps the laws from above is not below the shifts -/
theorem SQ_min (h : rP M) {s : Int} (hs : 0 ≤ s ∧ s < 4) {g S S' : Int → Int} (h1 : SQ M s g S) (h0 : ∀ t, 0 ≤ t → t < M 31 0 → 0 ≤ S' t) (h2 : ∀ t o, 0 ≤ t → t < M 31 0 → 0 ≤ o → o < M 31 0 → 0 < tA M t s o → S' o + g o ≤ S' t) : ∀ t, 0 ≤ t → t < M 31 0 → S t ≤ S' t := by
  have kb : ∀ t, 0 ≤ t → t < M 31 0 → -60 ≤ kyS M s t ∧ kyS M s t ≤ 60 := by
    intro t t0 t1
    have hi := rP_i h t0 t1
    unfold kyS
    split
    · omega
    · split
      · omega
      · split
        · omega
        · omega
  have key : ∀ n : Nat, ∀ t, 0 ≤ t → t < M 31 0 → kyS M s t + 60 < n → S t ≤ S' t := by
    intro n
    induction n with
    | zero => intro t t0 t1 hn; have := kb t t0 t1; omega
    | succ n ih =>
      intro t t0 t1 hn
      obtain ⟨a, b, c⟩ := h1 t t0 t1
      rcases c with c | ⟨o, oi, ho, hv⟩
      · have := h0 t t0 t1; omega
      · have lt := kyS_lt h hs t0 t1 oi.1 oi.2 (by omega)
        have x := ih o oi.1 oi.2 (by omega)
        have y := h2 t o t0 t1 oi.1 oi.2 ho
        omega
  intro t t0 t1
  have := kb t t0 t1
  exact key 200 t t0 t1 (by omega)
theorem SQ_one (h : rP M) {s : Int} (hs : 0 ≤ s ∧ s < 4) {g S S' : Int → Int} (h1 : SQ M s g S) (h2 : SQ M s g S') : ∀ t, 0 ≤ t → t < M 31 0 → S t = S' t := by
  intro t t0 t1
  have a := SQ_min h hs h1 (fun t t0 t1 => (h2 t t0 t1).1) (fun t o t0 t1 o0 o1 ho => (h2 t t0 t1).2.1 o o0 o1 ho) t t0 t1
  have b := SQ_min h hs h2 (fun t t0 t1 => (h1 t t0 t1).1) (fun t o t0 t1 o0 o1 ho => (h1 t t0 t1).2.1 o o0 o1 ho) t t0 t1
  omega
theorem pr_ex (h : rP M) (hk : ctR M) {s t o : Int} (hs : 0 ≤ s ∧ s < 4) (t0 : 0 ≤ t) (t1 : t < M 31 0) (o0 : 0 ≤ o) (o1 : o < M 31 0) (hp : 0 < tA M t s o) : ∃ k, (0 ≤ k ∧ k < M (67 + 5 * axS s) 0) ∧ fbI M s k = t ∧ nbI M s k = o := by
  have e := pr_sum h hk hs t0 t1 (fun x => decide (x = o))
  rw [sumI_pick (t := o) 0 o0 o1 (fun j j0 j1 jo => if_neg (by rw [decide_eq_true_eq]; exact jo)), if_pos (by rw [decide_eq_true_eq])] at e
  by_cases c : ∃ k, (0 ≤ k ∧ k < M (67 + 5 * axS s) 0) ∧ fbI M s k = t ∧ nbI M s k = o
  · exact c
  · rw [sumI_0 0 (fun k k0 k1 => if_neg (fun q => c ⟨k, ⟨k0, k1⟩, q.1, by simpa using q.2⟩))] at e
    omega
theorem pr_adj (h : rP M) (hk : ctR M) {s k : Int} (hs : 0 ≤ s ∧ s < 4) (k0 : 0 ≤ k) (k1 : k < M (67 + 5 * axS s) 0) : 0 < tA M (fbI M s k) s (nbI M s k) := by
  have f := pr_f h hk hs k0 k1
  have e := pr_sum h hk hs f.2.1.1 f.2.1.2 (fun x => decide (x = nbI M s k))
  rw [sumI_pick (t := nbI M s k) 0 f.1.1 f.1.2 (fun j j0 j1 jo => if_neg (by rw [decide_eq_true_eq]; exact jo)), if_pos (by rw [decide_eq_true_eq])] at e
  have m := sumI_mono (f := fun j => if j = k then ptI M s k else 0) (g := fun j => if fbI M s j = fbI M s k ∧ decide (nbI M s j = nbI M s k) = true then ptI M s j else 0) (n := M (67 + 5 * axS s) 0) 0 (fun j j0 j1 => by
    by_cases c : j = k
    · subst c
      rw [if_pos rfl, if_pos ⟨rfl, decide_eq_true rfl⟩]
      exact Int.le_refl _
    · rw [if_neg c]
      have := pr_f h hk hs j0 j1
      split <;> omega)
  rw [sumI_pick (t := k) 0 k0 k1 (fun j j0 j1 jk => if_neg jk), if_pos rfl] at m
  omega
def shI (M : aM) (s : Int) (g A : Int → Int) (i : Int) : Prop := (∀ t, 0 ≤ t → t < M 31 0 → 0 ≤ A t ∧ A t ≤ 9 * i) ∧ (∀ k, 0 ≤ k → k < i → A (nbI M s k) + g (nbI M s k) ≤ A (fbI M s k)) ∧
  ∀ t, 0 ≤ t → t < M 31 0 → A t = 0 ∨ ∃ k, (0 ≤ k ∧ k < i) ∧ fbI M s k = t ∧ A t = A (nbI M s k) + g (nbI M s k)
theorem shI_st (h : rP M) (hk : ctR M) {s : Int} (hs : 0 ≤ s ∧ s < 4) {g A B : Int → Int} {i : Int} (i0 : 0 ≤ i) (i1 : i < M (67 + 5 * axS s) 0) (g9 : ∀ t, 0 ≤ t → t < M 31 0 → 0 ≤ g t ∧ g t ≤ 9) (hi : shI M s g A i) (hB : B (fbI M s i) = max (A (fbI M s i)) (A (nbI M s i) + g (nbI M s i))) (hB2 : ∀ t, t ≠ fbI M s i → B t = A t) : shI M s g B (i + 1) := by
  obtain ⟨a, b, c⟩ := hi
  have f := pr_f h hk hs i0 i1
  have ne : ∀ k, 0 ≤ k → k ≤ i → nbI M s k ≠ fbI M s i := fun k k0 k1 q => pr_ne h hk hs k0 k1 i1 q.symm
  have nb : ∀ k, 0 ≤ k → k ≤ i → B (nbI M s k) = A (nbI M s k) := fun k k0 k1 => hB2 _ (ne k k0 k1)
  have up : ∀ t, A t ≤ B t := by
    intro t
    by_cases q : t = fbI M s i
    · rw [q, hB]; omega
    · rw [hB2 t q]; exact Int.le_refl _
  refine ⟨fun t t0 t1 => ?_, fun k k0 k1 => ?_, fun t t0 t1 => ?_⟩
  · have x := a t t0 t1
    by_cases q : t = fbI M s i
    · have y := a _ f.1.1 f.1.2
      have z := g9 _ f.1.1 f.1.2
      rw [q] at x
      rw [q, hB]
      omega
    · rw [hB2 t q]; omega
  · rw [nb k k0 (by omega)]
    by_cases q : k = i
    · subst q; rw [hB]; omega
    · have x := b k k0 (by omega)
      have y := up (fbI M s k)
      omega
  · by_cases q : t = fbI M s i
    · by_cases r : A (fbI M s i) < A (nbI M s i) + g (nbI M s i)
      · refine Or.inr ⟨i, ⟨i0, by omega⟩, q.symm, ?_⟩
        rw [nb i i0 (by omega), q, hB]; omega
      · have e : B t = A t := by rw [q, hB]; omega
        rw [e]
        rcases c t t0 t1 with c | ⟨k, ki, kf, kv⟩
        · exact Or.inl c
        · exact Or.inr ⟨k, ⟨ki.1, by omega⟩, kf, by rw [nb k ki.1 (by omega)]; exact kv⟩
    · rw [hB2 t q]
      rcases c t t0 t1 with c | ⟨k, ki, kf, kv⟩
      · exact Or.inl c
      · exact Or.inr ⟨k, ⟨ki.1, by omega⟩, kf, by rw [nb k ki.1 (by omega)]; exact kv⟩
theorem s_126 (h : rP M) (hk : lkd M) (e4 : M 90 4 = 64) {s : Int} (hs : 0 ≤ s ∧ s < 4) (g9 : ∀ t, 0 ≤ t → t < M 31 0 → 0 ≤ M 91 t ∧ M 91 t ≤ 9) : ∃ M1, aE 126 [aR 90, aI s] (SH L) M ([], SH L, M1) ∧ fr (93 + s) (93 + s) M M1 ∧ SQ M s (M 91) (M1 (93 + s)) ∧ ∀ t, 0 ≤ t → t < M 31 0 → M1 (93 + s) t ≤ 720 := by
  have n := rP_n h
  have np := ct_P h hk.2.2 (s := s)
  have hC := ctS_is (s := s)
  have ax := axS_01 (s := s)
  have an := an_92 (L := L) hs.1 hs.2
  have l6 : aLn (SH L) 6 92 = 4 := rfl
  have l91 : aLn (SH L) 1 91 = 40 := rfl
  have key : ∀ i, ∀ M' : aM, 0 ≤ i → i ≤ M (67 + 5 * axS s) 0 → fr (93 + s) (93 + s) M M' → shI M s (M 91) (M' (93 + s)) i → ∃ M1, aX xc_126 (aSeek xc_126 24) [aR 90, aI s, aR (93 + s), aR (67 + 5 * axS s), aI i, aU, aU, aU] [] (SH L) M' ([], SH L, M1) ∧ fr (93 + s) (93 + s) M M1 ∧ shI M s (M 91) (M1 (93 + s)) (M (67 + 5 * axS s) 0) := by
    refine upto (M (67 + 5 * axS s) 0) (fun i hi M' i0 i1 hf hI => ?_) (fun i hi ih M' i0 i1 hf hI => ?_)
    · refine ⟨M', bl_126_24 ⟨(ct hC).1, fun _ => rfl, fun q => absurd hi ?_⟩, hf, by rw [show M (67 + 5 * axS s) 0 = i by omega]; exact hI⟩
      rw [hf _ (by omega)] at q; exact q
    · have f := pr_f h hk.2.2 hs i0 hi
      have pin := prI_in (M := M) (s := s) i0 hi
      have eC : ∀ a, a ≠ 93 + s → M' a = M a := fun a ha => hf a (by omega)
      have e88 : aE 88 [aR (67 + 5 * axS s), aI s, aI i] (SH L) M' ([aI (prI M s i)], SH L, M') := by
        have := s_88 (L := L) (M := M') (s := s) (i := i) hC ⟨i0, by omega⟩ (by rw [eC _ (by omega)]; omega)
        rw [eC _ (by omega)] at this
        exact this
      have e89 : aE 89 [aR (67 + 5 * axS s), aI s, aI (prI M s i)] (SH L) M' ([aI (nbI M s i)], SH L, M') := by
        have := s_89 (L := L) (M := M') (s := s) (p := prI M s i) hC (by omega)
        rw [eC _ (by split <;> omega)] at this
        exact this
      have e91 : aE 91 [aR (67 + 5 * axS s), aI s, aI (prI M s i)] (SH L) M' ([aI (fbI M s i)], SH L, M') := by
        have := s_91 (L := L) (M := M') (s := s) (p := prI M s i) hC (by omega)
        rw [eC _ (by split <;> omega)] at this
        exact this
      have b1 := hI.1 _ f.1.1 f.1.2
      have b2 := hI.1 _ f.2.1.1 f.2.1.2
      have b3 := g9 _ f.1.1 f.1.2
      have st := shI_st h hk.2.2 hs (B := (aSet M' (93 + s) (fbI M s i) (max (M' (93 + s) (fbI M s i)) (M' (93 + s) (nbI M s i) + M 91 (nbI M s i)))) (93 + s)) i0 hi g9 hI aSet_e (fun t ht => aSet_i ht)
      obtain ⟨M1, r, y⟩ := ih _ (by omega) (by omega) (fr_set hf (by omega)) st
      refine ⟨M1, bl_126_24 ⟨(ct hC).1, fun q => ?_, fun _ => ⟨(ct hC).1, M', _, e88, (ct hC).1, M', _, e89, (ct hC).1, M', _, e91, by rw [an.1]; omega, by rw [an.1]; omega, by omega, by rw [an.1]; omega, ?_⟩⟩, y⟩
      · rw [eC _ (by omega)] at q; omega
      · rw [eC 91 (by omega), aWi (z := i + 1) (by omega) (by omega), aWi (z := M' (93 + s) (nbI M s i) + M 91 (nbI M s i)) (by omega) (by omega)]
        exact r
  obtain ⟨K, eK⟩ : ∃ K, K = aFill M (93 + s) 40 0 := ⟨_, rfl⟩
  have fK : fr (93 + s) (93 + s) M K := fun a ha => by rw [eK, aFill_c (by omega)]
  have r78 := s_78 (L := L) (M := M) (r := 93 + s) (v := 0) (n := 40) an.2.1 an.2.2 (by omega)
  rw [← eK] at r78
  have e83 : aE 83 [aR 64, aI s] (SH L) K ([aR (67 + 5 * axS s)], SH L, K) := by
    have := s_83 (L := L) (M := K) (a1 := s)
    rw [show (if s = 0 ∨ s = 2 then (72 : Int) else 67) = 67 + 5 * axS s by unfold axS; split <;> omega] at this
    exact this
  obtain ⟨M1, r, f1, y⟩ := key 0 K (by omega) np.1 fK ⟨fun t t0 t1 => by rw [eK, aFill_in (by omega) (by omega)]; omega, fun k k0 k1 => by omega, fun t t0 t1 => Or.inl (by rw [eK, aFill_in (by omega) (by omega)])⟩
  refine ⟨M1, en_126 ⟨by omega, K, by rw [ar_92 hs.1 hs.2]; exact r78, by rw [fK 90 (by omega), e4]; rfl, K, _, by rw [fK 90 (by omega), e4]; exact e83, by rw [ar_92 hs.1 hs.2]; exact r⟩, f1, fun t t0 t1 => ⟨(y.1 t t0 t1).1, fun o o0 o1 ho => ?_, ?_⟩, fun t t0 t1 => by have := (y.1 t t0 t1).2; omega⟩
  · obtain ⟨k, ki, kf, kn⟩ := pr_ex h hk.2.2 hs t0 t1 o0 o1 ho
    have := y.2.1 k ki.1 ki.2
    rw [kf, kn] at this
    exact this
  · rcases y.2.2 t t0 t1 with c | ⟨k, ki, kf, kv⟩
    · exact Or.inl c
    · have f := pr_f h hk.2.2 hs ki.1 ki.2
      refine Or.inr ⟨nbI M s k, f.1, ?_, kv⟩
      have := pr_adj h hk.2.2 hs ki.1 ki.2
      rw [kf] at this
      exact this
end SHF1
