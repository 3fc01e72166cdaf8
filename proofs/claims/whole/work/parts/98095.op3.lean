/-! the law: feed, back, hold -/
section OP3
variable {L : Nat} {M M1 M2 : aM} {n : Int}
theorem Rl_fe (h : Rl n M) (t : tR M2) (f : feF M M2) : Rl (n + 1) M2 := by
  obtain ⟨⟨h1, h2, h3, h4, h5, h6, h7, h8, h9, h10, h11, h12⟩, hc⟩ := h
  obtain ⟨f1, f2, f3⟩ := f
  have tl := tx_le (rP_tx h1)
  have g : ∀ a, 3 ≤ a → a ≠ 145 → a ≠ 146 → M2 a = M a := fun a x y z => f1 a (by omega) (by omega) y z
  have j : ∀ j, j ≠ 1 → M2 1 j = M 1 j := f2
  refine ⟨⟨rP_cg h1 (fun a x => g a (by omega) (by omega) (by omega)) (j 3 (by omega)), rS_p h2 (rP_tx h1) (fun a x => g a (by omega) (by omega) (by omega)) (j 3 (by omega)) (j 5 (by omega)) (f3 40 (by omega)) (fun a b x _ => by rw [g a (by omega) (by omega) (by omega)]) (fun a b x y _ => by rw [g a (by omega) (by omega) (by omega)]), rL_cg h3 (fun a x => g a (by omega) (by omega) (by omega)) (by rw [g 138 (by omega) (by omega) (by omega)]) (f3 48 (by omega)), fun i i0 i1 => by rw [g 184 (by omega) (by omega) (by omega)]; exact h4 i i0 i1, t, by rw [j 3 (by omega)]; exact rW_cg h6 (fun a x y => g a (by omega) (by omega) (by omega)) (fun a x y => g a (by omega) (by omega) (by omega)), fun i i0 i1 => by rw [g 173 (by omega) (by omega) (by omega)]; exact h7 i i0 i1, by rw [j 3 (by omega), j 4 (by omega)]; exact h8, by rw [j 6 (by omega), f3 9 (by omega)]; exact h9, by rw [j 9 (by omega)]; omega, by rw [j 10 (by omega)]; omega, by rw [j 5 (by omega)]; omega⟩, Rc_kw h1 hc ⟨fun a x => g a (by omega) (by omega) (by omega), by rw [g 31 (by omega) (by omega) (by omega)], j 3 (by omega)⟩ (g 31 (by omega) (by omega) (by omega)) (j 9 (by omega)) (j 10 (by omega)) (fun a x y => g a (by omega) (by omega) (by omega))⟩
theorem op_feed (h : Rl n M) {a b c d e : Int} : opG L n 14 181 [aI a, aI b, aI c, aI d, aI e] M := by
  obtain ⟨v, M1, M2, r1, r2, t, f⟩ := o_feed (L := L) h.1.2.2.2.2.1 (a := a) (b := b) (c := c) (d := d) (e := e)
  exact ⟨v, M1, M2, r1, r2, Rl_fe h t f⟩
theorem op_back (h : Rl n M) {k : Int} (hk : k < 2147483648) : opG L n 15 182 [aI k] M := by
  obtain ⟨v, M1, M2, r1, r2, t, f⟩ := o_bk (L := L) h.1.2.2.2.2.1 hk
  exact ⟨v, M1, M2, r1, r2, Rl_fe h t f⟩
theorem op_hold (h : Rl n M) {s : Int} : opG L n 174 310 [aI s] M := by
  obtain ⟨v, M1, M2, r1, r2, p, q, b, f⟩ := o_hold (L := L) h.1.1 h.1.2.1 h.1.2.2.2.1 (s := s)
  have t := tx_le (rP_tx h.1.1)
  have e1 : M2 1 = M 1 := f 1 (by omega) (by omega)
  refine ⟨v, M1, M2, r1, r2, Rb_chg h.1 p q b (fun a x y z => f a (by omega) z) (fun j _ _ => by rw [e1]) (by rw [e1]; omega) (by rw [e1]; omega), Rc_kw h.1.1 h.2 ⟨fun a x => f a (by omega) (by omega), by rw [f 31 (by omega) (by omega)], by rw [e1]⟩ (f 31 (by omega) (by omega)) (by rw [e1]) (by rw [e1]) (fun a x y => f a (by omega) (by omega))⟩
end OP3
