/-! gaps: the operation -/
section GAPC
variable {L : Nat} {M M1 M2 : aM}
theorem o_gap (h : rP M) (hc : cG M) {W x w : Int} (hw : w < 2147483648) : ∃ v M1 M2, aE 156 [aR 1, aI W, aI x, aI w] (SH L) M ([aI v], SH L, M1) ∧ aE 295 [aR 145, aI W, aI x, aI w] (SH L) M1 ([aI v], SH L, M2) ∧ fr 118 137 M M1 ∧ cG M1 ∧ sc M1 M2 := by
  have tx0 := rP_tx h
  have tl := tx_le tx0
  have t14 := h.1.1.2.2.2.2.1
  by_cases c : (1 ≤ W ∧ W ≤ 60) ∧ 1 ≤ x ∧ x ≤ 60
  · by_cases ok : w = 0 ∨ (10 ≤ w ∧ (w - 10) / 2 < M (M 1 3) 3 ∧ ¬ M (M 1 3 + 2) ((w - 10) / 2) = 0)
    · obtain ⟨M1, r1, f1, e7, e8, g1⟩ := s_156 (L := L) h hc hw c.1 c.2 ok
      have p1 : rP M1 := rP_fr h f1 (by omega) (by omega)
      have q1 : M1 1 = M 1 := f1 1 (by omega)
      obtain ⟨M2, r2, z⟩ := s_295 (L := L) p1 hw c.1 g1 c.2 (by rw [q1, f1 (M 1 3) (by omega), f1 (M 1 3 + 2) (by omega)]; exact ok)
      exact ⟨_, M1, M2, r1, r2, f1, ⟨by rw [e7, q1]; exact Int.le_refl _, fun _ => ⟨by rw [e8]; omega, by rw [e8]; exact g1⟩⟩, z⟩
    · have nk : ¬ ((0 ≤ w ∧ w ≤ 0) ∨ (10 ≤ w ∧ (w - 10) / 2 < M (M 1 3) 3 ∧ ¬ M (M 1 3 + 2) ((w - 10) / 2) = 0)) := fun z => ok (by
        rcases z with z | z
        · exact Or.inl (by omega)
        · exact Or.inr z)
      refine ⟨-1, M, M, en_156 ⟨fun q => rfl, fun _ => ⟨fun q => rfl, fun _ => ⟨fun q => rfl, fun _ => ⟨fun q => rfl, fun _ => ⟨fun q => absurd (Or.inl q) ok, fun q => ⟨M, _, s_140 tx0 (by omega) hw, fun q2 => absurd (Classical.byContradiction (fun z => q2 (bid0.mpr z))) (fun z => ok (Or.inr z)), fun _ => rfl⟩⟩⟩⟩⟩⟩, en_295 ⟨M, _, s_219, fun q => rfl, fun _ => ⟨M, _, s_219, fun q => rfl, fun _ => ⟨M, _, s_287 h hw, fun q => absurd (bid0.mpr nk) q, fun _ => rfl⟩⟩⟩, fr_rf, hc, sc_rf⟩
  · refine ⟨-1, M, M, en_156 ⟨fun q => rfl, fun q1 => ⟨fun q => rfl, fun q2 => ⟨fun q => rfl, fun q3 => ⟨fun q => rfl, fun q4 => absurd ⟨⟨by omega, by omega⟩, by omega, by omega⟩ c⟩⟩⟩⟩, en_295 ⟨M, _, s_219, fun q => rfl, fun q => ⟨M, _, s_219, fun _ => rfl, fun q2 => ?_⟩⟩, fr_rf, hc, sc_rf⟩
    have q3 : 1 ≤ W ∧ W ≤ 60 := Classical.byContradiction (fun z => q (bid0.mpr z))
    have q4 : 1 ≤ x ∧ x ≤ 60 := Classical.byContradiction (fun z => q2 (bid0.mpr z))
    exact absurd ⟨q3, q4⟩ c
end GAPC
