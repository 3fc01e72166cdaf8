/-! the law: tight -/
section TGT
variable {L : Nat} {M M1 M2 : aM} {n : Int}
theorem adj_w {ax i j : Int} (hx : ax = 0 ∨ ax = 1) (h : ∀ a, 32 ≤ a → a ≤ 37 → M1 a = M a) : adj M1 ax i j = adj M ax i j := by
  unfold adj ctc hlf ovX ovY
  rw [h 33 (by omega) (by omega), h 34 (by omega) (by omega), h 35 (by omega) (by omega), h 36 (by omega) (by omega), h 37 (by omega) (by omega), h (34 + ax) (by omega) (by omega), h (36 + ax) (by omega) (by omega)]
theorem CT_w {ax i j : Int} (hx : ax = 0 ∨ ax = 1) (hc : CT M M2 ax i j) (h : ∀ a, 32 ≤ a → a ≤ 37 → M1 a = M a) (h0 : M1 31 0 = M 31 0) : CT M1 M2 ax i j := by
  obtain ⟨a, b, c, d⟩ := hc
  refine ⟨a, fun p p0 p1 => ?_, c, fun g => ?_⟩
  · have := b p p0 p1
    rw [adj_w hx h]
    unfold ctc hlf ovX ovY at this ⊢
    rw [h0, h 33 (by omega) (by omega), h 34 (by omega) (by omega), h 35 (by omega) (by omega), h 36 (by omega) (by omega), h 37 (by omega) (by omega), h (34 + ax) (by omega) (by omega)]
    exact this
  · rw [d g]
    unfold adT adS
    rw [h0]
    have e : ∀ i j, adj M1 ax i j = adj M ax i j := fun i j => adj_w hx h
    simp only [e]
theorem ctR_w (hc : ctR M) (h : ∀ a, 32 ≤ a → a ≤ 37 → M1 a = M a) (h0 : M1 31 0 = M 31 0) (h2 : ∀ a, 67 ≤ a → a ≤ 76 → M1 a = M a) (h3 : M1 64 8 = M 64 8) : ctR M1 := by
  obtain ⟨a, b, c⟩ := hc
  refine ⟨?_, ?_, fun k k0 k1 => ?_⟩
  · rw [h0]
    exact CT_w (Or.inl rfl) (CT_fr a (fun x y z => h2 x (by omega) (by omega))) h h0
  · rw [h0]
    exact CT_w (Or.inr rfl) (CT_fr b (fun x y z => h2 x (by omega) (by omega))) h h0
  · rw [h3, h0, h 33 (by omega) (by omega)]
    exact c k k0 k1
theorem op_tight (h : Rl n M) (hn : n ≤ 10000) {w on : Int} : opG L n 75 238 [aI w, aI on] M := by
  have h10 := h.1.2.2.2.2.2.2.2.2.2
  obtain ⟨v, M1, M2, r1, r2, p, f, f1, f31, f180, e⟩ := o_tight (L := L) h.1.1 (by omega) (w := w) (on := on)
  refine ⟨v, M1, M2, r1, r2, ?_⟩
  rcases e with e | e10
  · rw [e]; exact Rl_1 h
  · have t := tx_le (rP_tx h.1.1)
    have s := rS_p h.1.2.1 (rP_tx h.1.1) (fun a x => f a (by omega) (by omega) (by omega)) (f1 3 (by omega)) (f1 5 (by omega)) (by rw [f 145 (by omega) (by omega) (by omega)]) (fun a b x y => by
      rcases x with rfl | rfl
      · rw [f 179 (by omega) (by omega) (by omega)]
      · exact f180 b y) (fun a b x y _ => by rw [f a (by omega) (by omega) (by omega)])
    have b : b01 M2 := fun i i0 i1 => by rw [f 184 (by omega) (by omega) (by omega)]; exact h.1.2.2.2.1 i i0 i1
    have k : kw M M2 := ⟨fun a x => f a (by omega) (by omega) (by omega), f31 0 (by omega), f1 3 (by omega)⟩
    have fc : ∀ a, 64 ≤ a → a ≤ 137 → M2 a = M a := fun a x y => f a (by omega) (by omega) (by omega)
    have e9 : M2 1 9 = M 1 9 := f1 9 (by omega)
    have cp := h.2.1
    have cw := h.2.2.2.2.1.1
    refine ⟨Rb_chg h.1 p s b (fun a x y z => f a x (by omega) (by omega)) (fun j _ y => f1 j y) (by omega) (by omega), ?_, kw_cL h.1.1 h.2.2.1 k e9 (fun a x y => fc a (by omega) (by omega)), kw_cG h.1.1 h.2.2.2.1 k e9 (fun a x y => fc a (by omega) y), ?_, kw_cO h.1.1 h.2.2.2.2.2 k e9 (fun a x y => fc a (by omega) (by omega))⟩
    · have p2 := cp.2.1
      unfold cP
      rw [fc 64 (by omega) (by omega), e9]
      exact ⟨cp.1, by omega, fun q => ctR_w (cp.2.2.1 q) (fun a x y => f a (by omega) (by omega) (by omega)) (f31 0 (by omega)) (fun a x y => fc a (by omega) (by omega)) (by rw [fc 64 (by omega) (by omega)]), fun q => absurd q (by omega)⟩
    · unfold cW
      rw [fc 90 (by omega) (by omega)]
      exact ⟨by omega, fun q => absurd q (by omega)⟩
end TGT
