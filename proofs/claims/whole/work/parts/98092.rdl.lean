/-! the law: read without a FAULT -/
section RDL
variable {L : Nat} {M Z : aM} {n : Int}
theorem Rl_readY (h : Rl n M) (hn : n < 10000) (f : rdF M Z) (y : rdY M Z) : Rl (n + 1) Z := by
  obtain ⟨⟨h1, h2, h3, h4, h5, h6, h7, h8, h9, h10, h11, h12⟩, hc⟩ := h
  obtain ⟨f1, f2, f3, f4, f5, ⟨f6, f7, f8⟩, f9⟩ := f
  obtain ⟨⟨y1, y2, y3, y4, y5⟩, ⟨y6, y7, y8, y9⟩, y10, y11, y12⟩ := y
  have t3 := rP_tx h1
  have b3_ := tx_le t3
  have b4 := tx_le h8.1
  have lo : ∀ a, a < 145 → a ≠ 31 → 30 < a → Z a = M a := fun a x y z => f1 a x (by omega) y (by omega) (by omega)
  have hi : ∀ a, 181 ≤ a → a ≤ 189 → Z a = M a := fun a x y => funext fun b => f5 a b (by omega) (by unfold zR; omega) (by omega) (by unfold cpR; omega) (by omega)
  have hi2 : ∀ a b, a = 179 ∨ a = 180 → b ≠ 0 → Z a b = M a b := fun a b x y => f5 a b (by omega) (by unfold zR; omega) (by omega) (by unfold cpR; omega) (by omega)
  have tk := y11.1
  refine ⟨⟨⟨by rw [y1]; exact y11, ⟨⟨bd31, by rw [y6]; decide, fun i i0 i1 => absurd (by rw [y6] at i1; exact i1) (by omega)⟩, by rw [y8, y6], by rw [y7, y9]; decide, fun i i0 i1 => absurd (by rw [y6] at i1; exact i1) (by omega), fun i j i0 i1 => absurd (by rw [y6] at i1; exact i1) (by omega)⟩, fun i i0 i1 => absurd (by rw [y6] at i1; exact i1) (by omega), fun k k0 k1 => ?_⟩, ?_, rL_cg h3 (fun a x => ?_) (by rw [lo 138 (by omega) (by omega) (by omega)]) (f4 48 (by omega) (by omega) (by omega) (by omega) (by omega)), fun i i0 i1 => ?_, ⟨by rw [f6]; decide, by rw [f6, f7], fun k k0 k1 => absurd (by rw [f6] at k1; exact k1) (by omega)⟩, by rw [y1]; exact y12, f9, ?_, f8, by omega, by omega, by omega⟩, Rc_new hc (fun a x => lo a (by omega) (by omega) (by omega)) y4 y5⟩
  · rw [y1] at k1 ⊢
    unfold cntK
    rw [y6]
    have := (tk.2.2.2.2.2 k k0 k1).2.2.2.1
    exact this
  · obtain ⟨s1, s2, s3⟩ := h2
    refine ⟨by omega, by omega, fun s s0 s1' => ?_⟩
    have q := s3 s s0 s1'
    unfold rSl at q ⊢
    rw [lo (40 + 8 * s) (by omega) (by omega) (by omega), hi 185 (by omega) (by omega)]
    rcases q with x | ⟨x1, x2, x3, x4, x5⟩
    · exact Or.inl x
    · refine Or.inr ⟨x1, x2, by omega, ?_, fun q => absurd q (by omega)⟩
      obtain ⟨z1, z2, z3, z4, z5⟩ := x4
      unfold rB
      unfold bOk at z1 ⊢
      rw [lo (40 + 8 * s) (by omega) (by omega) (by omega), lo (40 + 8 * s + 1) (by omega) (by omega) (by omega), lo (40 + 8 * s + 2) (by omega) (by omega) (by omega), lo (40 + 8 * s + 3) (by omega) (by omega) (by omega), lo (40 + 8 * s + 4) (by omega) (by omega) (by omega), lo (40 + 8 * s + 5) (by omega) (by omega) (by omega), lo (40 + 8 * s + 6) (by omega) (by omega) (by omega), lo (40 + 8 * s + 7) (by omega) (by omega) (by omega), hi2 179 (s + 1) (by omega) (by omega), hi2 180 (s + 1) (by omega) (by omega), hi 181 (by omega) (by omega), hi 182 (by omega) (by omega), hi 183 (by omega) (by omega), hi 184 (by omega) (by omega)]
      exact ⟨z1, z2, z3, z4, z5⟩
  · by_cases c : a ≤ 142
    · exact lo a (by omega) (by omega) (by omega)
    · exact hi a (by omega) (by omega)
  · rw [hi 184 (by omega) (by omega)]; exact h4 i i0 i1
  · rw [y1, y2]; exact ⟨t3, fun e => h8.2 e.symm⟩
end RDL
