/-! the law: calls that change what lies -/
section CHG
variable {L : Nat} {M M1 M2 : aM} {n : Int}
/-- where both counters grew, no cache is up to date -/
theorem Rc_new (h : Rc M) (f : ∀ a, a = 64 ∨ a = 84 ∨ a = 90 ∨ a = 99 ∨ a = 118 → M1 a = M a) (e9 : M1 1 9 = M 1 9 + 1) (e10 : M1 1 10 = M 1 10 + 1) : Rc M1 := by
  obtain ⟨p, l, g, w, o⟩ := h
  have p1 := p.1
  have p2 := p.2.1
  have l1 := l.1
  have g1 := g.1
  have w1 := w.1
  have o1 := o.1
  refine ⟨?_, ?_, ?_, ?_, ?_⟩
  · unfold cP
    rw [f 64 (by omega)]
    exact ⟨by omega, by omega, fun q => absurd q (by omega), fun q => absurd q (by omega)⟩
  · unfold cL
    rw [f 99 (by omega)]
    exact ⟨by omega, fun q => absurd q (by omega)⟩
  · unfold cG
    rw [f 118 (by omega)]
    exact ⟨by omega, fun q => absurd q (by omega)⟩
  · unfold cW
    rw [f 90 (by omega)]
    exact ⟨by omega, fun q => absurd q (by omega)⟩
  · unfold cO
    rw [f 84 (by omega)]
    exact ⟨by omega, fun q => absurd q (by omega)⟩
/-- the slots, place by place -/
theorem rS_p (h : rS M) (ht : isTx (M 1 3)) (f : ∀ a, (9 ≤ a ∧ a ≤ 30) ∨ (40 ≤ a ∧ a ≤ 63) ∨ a = 185 → M1 a = M a) (f3 : M1 1 3 = M 1 3) (f5 : M1 1 5 = M 1 5) (f40 : M1 145 40 = M 145 40) (g1 : ∀ a b, a = 179 ∨ a = 180 → b ≠ 0 → M1 a b = M a b) (g2 : ∀ a b, 181 ≤ a → a ≤ 184 → 40 ≤ b → M1 a b = M a b) : rS M1 := by
  have t := tx_le ht
  obtain ⟨h1, h2, h3⟩ := h
  refine ⟨by rw [f5]; exact h1, by rw [f5, f40]; exact h2, fun s s0 s1 => ?_⟩
  have q := h3 s s0 s1
  unfold rSl at q ⊢
  rw [f (40 + 8 * s) (by omega), f 185 (by omega), f5, f3]
  rcases q with x | ⟨x1, x2, x3, x4, x5⟩
  · exact Or.inl x
  · refine Or.inr ⟨x1, x2, x3, ?_, fun q => rF_cg (x5 q) (fun a x y => f a (by omega)) (fun a x y => f a (by omega))⟩
    obtain ⟨y1, y2, y3, y4, y5⟩ := x4
    unfold rB
    unfold bOk at y1 ⊢
    rw [f (40 + 8 * s) (by omega), f (40 + 8 * s + 1) (by omega), f (40 + 8 * s + 2) (by omega), f (40 + 8 * s + 3) (by omega), f (40 + 8 * s + 4) (by omega), f (40 + 8 * s + 5) (by omega), f (40 + 8 * s + 6) (by omega), f (40 + 8 * s + 7) (by omega), g1 179 (s + 1) (by omega) (by omega), g1 180 (s + 1) (by omega) (by omega)]
    refine ⟨y1, y2, y3, fun i i0 i1 => ?_, y5⟩
    rw [g2 181 _ (by omega) (by omega) (by omega), g2 182 _ (by omega) (by omega) (by omega), g2 183 _ (by omega) (by omega) (by omega), g2 184 _ (by omega) (by omega) (by omega)]
    exact y4 i i0 i1
theorem Rb_chg (h : Rb n M) (p : rP M2) (s : rS M2) (b : b01 M2) (f : ∀ a, a ≠ 1 → (a < 31 ∨ 63 < a) → (a < 179 ∨ 185 < a) → M2 a = M a) (f1 : ∀ j, j ≠ 9 → j ≠ 10 → M2 1 j = M 1 j) (e9 : M 1 9 ≤ M2 1 9 ∧ M2 1 9 ≤ M 1 9 + 1) (e10 : M 1 10 ≤ M2 1 10 ∧ M2 1 10 ≤ M 1 10 + 1) : Rb (n + 1) M2 := by
  obtain ⟨h1, h2, h3, h4, h5, h6, h7, h8, h9, h10, h11, h12⟩ := h
  have t := tx_le (rP_tx h1)
  have e145 : M2 145 = M 145 := f 145 (by omega) (by omega) (by omega)
  refine ⟨p, s, rL_cg h3 (fun a x => f a (by omega) (by omega) (by omega)) (by rw [f 138 (by omega) (by omega) (by omega)]) (by rw [e145]), b, tR_cg h5 (f1 1 (by omega) (by omega)) (f 2 (by omega) (by omega) (by omega)) (f 146 (by omega) (by omega) (by omega)) (by rw [e145]), ?_, ?_, by rw [f1 3 (by omega) (by omega), f1 4 (by omega) (by omega)]; exact h8, by rw [e145, f1 6 (by omega) (by omega)]; exact h9, by omega, by omega, by rw [f1 5 (by omega) (by omega)]; omega⟩
  · rw [f1 3 (by omega) (by omega)]; exact rW_cg h6 (fun a x y => f a (by omega) (by omega) (by omega)) (fun a x y => f a (by omega) (by omega) (by omega))
  · intro i i0 i1; rw [f 173 (by omega) (by omega) (by omega)]; exact h7 i i0 i1
/-- where it grew; where nothing was laid the caches must be shown on their own -/
theorem Rl_chg (h : Rl n M) (p : rP M2) (c : chg M M2) (hc : (M2 1 9 = M 1 9 ∧ M2 1 10 = M 1 10 ∧ ∀ a, 31 ≤ a → a ≤ 38 → M2 a = M a) → Rc M2) : Rl (n + 1) M2 := by
  obtain ⟨c1, c2, c3, c4, c5, c6⟩ := c
  have s := rS_p h.1.2.1 (rP_tx h.1.1) (fun a x => c1 a (by omega) (by omega) (by omega)) (c2 3 (by omega) (by omega)) (c2 5 (by omega) (by omega)) (by rw [c1 145 (by omega) (by omega) (by omega)]) c3 c4
  have b : b01 M2 := fun i i0 i1 => c5 i i0 (h.1.2.2.2.1 i i0 i1)
  have f : ∀ a, a ≠ 1 → (a < 31 ∨ 63 < a) → (a < 179 ∨ 185 < a) → M2 a = M a := fun a x y z => c1 a x (by omega) (by omega)
  rcases c6 with e | ⟨e9, e10⟩
  · exact ⟨Rb_chg h.1 p s b f c2 (by rw [e.1]; omega) (by rw [e.2.1]; omega), hc e⟩
  · exact ⟨Rb_chg h.1 p s b f c2 (by omega) (by omega), Rc_new h.2 (fun a x => c1 a (by omega) (by omega) (by omega)) e9 e10⟩
theorem op_again (h : Rl n M) (hn : n ≤ 10000) {s : Int} : opG L n 175 311 [aI s] M := by
  have h10 := h.1.2.2.2.2.2.2.2.2.2
  obtain ⟨v, M1, M2, r1, r2, p, q, b, f, f1, e⟩ := o_again (L := L) h.1.1 h.1.2.1 h.1.2.2.2.1 (by omega) (s := s)
  refine ⟨v, M1, M2, r1, r2, ?_⟩
  rcases e with e | ⟨e9, e10⟩
  · rw [e]; exact Rl_1 h
  · exact ⟨Rb_chg h.1 p q b (fun a x y z => f a x (by omega) (by omega)) f1 (by omega) (by omega), Rc_new h.2 (fun a x => f a (by omega) (by omega) (by omega)) e9 e10⟩
end CHG
