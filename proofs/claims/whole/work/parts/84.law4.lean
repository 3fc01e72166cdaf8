/-! laws: the values of a thing -/
section LAW4
variable {L : Nat} {M M1 M2 : aM}
theorem s_119 (h : rP M) (e3 : M 90 3 = 31) {i : Int} (i0 : 0 ≤ i) (i1 : i < M 31 0) : ∃ M1, aE 119 [aR 90, aI i] (SH L) M ([], SH L, M1) ∧ (∀ a, a ≠ 97 → M1 a = M a) ∧ (M1 97 0 = M 34 i ∧ M1 97 1 = M 35 i ∧ M1 97 2 = M 36 i ∧ M1 97 3 = M 37 i ∧ M1 97 4 = 0 ∧ M1 97 5 = 0 ∧ M1 97 6 = bc6 (M 31 8) ∧ M1 97 7 = bi (decide (M 33 i = 2)) ∧ M1 97 8 = bi (decide (M 33 i = 3))) := by
  have n := rP_n h
  have t6 := h.2.1.2.2.1
  have c90 : ∀ (K : aM) p v, aSet K 97 p v 90 = K 90 := fun K p v => aSet_c (by omega)
  have c31 : ∀ (K : aM) p v, aSet K 97 p v 31 = K 31 := fun K p v => aSet_c (by omega)
  have c33 : ∀ (K : aM) p v, aSet K 97 p v 33 = K 33 := fun K p v => aSet_c (by omega)
  have c34 : ∀ (K : aM) p v, aSet K 97 p v 34 = K 34 := fun K p v => aSet_c (by omega)
  have c35 : ∀ (K : aM) p v, aSet K 97 p v 35 = K 35 := fun K p v => aSet_c (by omega)
  have c36 : ∀ (K : aM) p v, aSet K 97 p v 36 = K 36 := fun K p v => aSet_c (by omega)
  have c37 : ∀ (K : aM) p v, aSet K 97 p v 37 = K 37 := fun K p v => aSet_c (by omega)
  obtain ⟨b1, b2, b3, b4, b5, b6, b7, b8, b9, b10⟩ := show aF (SH L) 31 1 = 32 ∧ aF (SH L) 31 2 = 33 ∧ aF (SH L) 31 3 = 34 ∧ aF (SH L) 31 4 = 35 ∧ aF (SH L) 31 5 = 36 ∧ aF (SH L) 31 6 = 37 ∧ aLn (SH L) 1 33 = 40 ∧ aLn (SH L) 1 34 = 40 ∧ aLn (SH L) 1 35 = 40 ∧ aLn (SH L) 1 36 = 40 from ⟨rfl, rfl, rfl, rfl, rfl, rfl, rfl, rfl, rfl, rfl⟩
  have b11 : aLn (SH L) 1 37 = 40 := rfl
  have b12 : aK (SH L) 31 = 10 := rfl
  have b13 : aLn (SH L) 1 97 = 9 := rfl
  obtain ⟨K, hK⟩ : ∃ K, K = aSet (aSet (aSet (aSet (aSet (aSet M 97 0 (M 34 i)) 97 1 (M 35 i)) 97 2 (M 36 i)) 97 3 (M 37 i)) 97 4 0) 97 5 0 := ⟨_, rfl⟩
  have kc : ∀ a, a ≠ 97 → K a = M a := fun a ha => by rw [hK, aSet_c ha, aSet_c ha, aSet_c ha, aSet_c ha, aSet_c ha, aSet_c ha]
  obtain ⟨u, hu⟩ : ∃ u, u = bi (decide (M 33 i = 2)) := ⟨_, rfl⟩
  obtain ⟨w, hw⟩ : ∃ w, w = bi (decide (M 33 i = 3)) := ⟨_, rfl⟩
  have k90 : K 90 = M 90 := kc 90 (by omega)
  have k33 : K 33 = M 33 := kc 33 (by omega)
  have e114 : aE 114 [aI (M 31 8)] (SH L) K ([aI (bc6 (M 31 8))], SH L, K) := s_114 ⟨t6.1, t6.2.1⟩
  have k115 : aX xc_119 (aSeek xc_119 115) [aR 90, aI i] [aI u, aI 7, aR 97] (SH L) (aSet K 97 6 (bc6 (M 31 8))) ([], SH L, aSet (aSet (aSet K 97 6 (bc6 (M 31 8))) 97 7 u) 97 8 w) := by
    apply bl_119_115
    simp only [c90, k90, e3, b2, c33, k33, b7, b12, b13]
    refine ⟨by omega, trivial, by omega, fun q => ?_, fun q => ?_⟩
    · rw [hw, bin q]
    · rw [hw, bip (Classical.not_not.mp q)]
  refine ⟨aSet (aSet (aSet K 97 6 (bc6 (M 31 8))) 97 7 u) 97 8 w, en_119 ?_, fun a ha => by rw [aSet_c ha, aSet_c ha, aSet_c ha]; exact kc a ha, ?_⟩
  · simp only [c90, c31, c33, c34, c35, c36, c37, e3, b2, b3, b4, b5, b6, b7, b8, b9, b10, b11, b12]
    rw [← hK]
    refine ⟨trivial, by omega, trivial, by omega, trivial, by omega, trivial, by omega, trivial, K, _, e114, ?_⟩
    simp only [c90, k90, e3, b2, c33, k33, b7, b12]
    refine ⟨trivial, by omega, fun q => ?_, fun q => ?_⟩
    · have : u = 0 := by rw [hu]; exact bin q
      rw [this] at k115 ⊢; exact k115
    · have : u = 1 := by rw [hu]; exact bip (Classical.not_not.mp q)
      rw [this] at k115 ⊢; exact k115
  · rw [← hu, ← hw, hK]
    simp only [aSet_q]
    exact ⟨rfl, rfl, rfl, rfl, rfl, rfl, rfl, rfl, rfl⟩
end LAW4
