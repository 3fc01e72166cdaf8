/-! the law: orders, weights, tape, logs -/
section OP2
variable {L : Nat} {M M1 M2 : aM} {n : Int}
theorem Rl_O (h : Rl n M) (f : fr 64 89 M M1) (c : cP M1) (o : cO M1) : Rl n M1 := by
  have k := ke_fr f (by omega) (by omega)
  exact ⟨Rb_cg h.1 (bF_fr f (by omega) (by omega)), c, cL_cg h.1.1 h.2.2.1 k (fun a x y => f a (by omega)), cG_ke h.1.1 h.2.2.2.1 k (fun a x y => f a (by omega)), cW_cg k (fun a x y => f a (by omega)) h.2.2.2.2.1, o⟩
theorem Rl_W (h : Rl n M) (f : fw M M1) (c : cP M1) (w : cW M1) : Rl n M1 := by
  have k := ke_fw f
  have b : bF M M1 := ⟨fun a x => f a (by omega), by rw [f 138 (by omega)], fun j _ => by rw [f 145 (by omega)]⟩
  exact ⟨Rb_cg h.1 b, c, cL_cg h.1.1 h.2.2.1 k (fun a x y => f a (by omega)), cG_ke h.1.1 h.2.2.2.1 k (fun a x y => f a (by omega)), w, cO_cg h.1.1 k (fun a x y => f a (by omega)) h.2.2.2.2.2⟩
theorem op_order (h : Rl n M) {i : Int} : opG L n 117 272 [aI i] M := by
  obtain ⟨v, M1, M2, r1, r2, f, c, o, s⟩ := o_order (L := L) h.1.1 h.2.1 h.2.2.2.2.2 (i := i)
  exact ⟨v, M1, M2, r1, r2, Rl_1 (Rl_sc (Rl_O h f c o) s)⟩
theorem op_ordered (h : Rl n M) {i : Int} : opG L n 118 273 [aI i] M := by
  obtain ⟨v, M1, M2, r1, r2, f, c, o, s⟩ := o_ordered (L := L) h.1.1 h.2.1 h.2.2.2.2.2 (i := i)
  exact ⟨v, M1, M2, r1, r2, Rl_1 (Rl_sc (Rl_O h f c o) s)⟩
theorem op_gives (h : Rl n M) {t : Int} : opG L n 129 277 [aI t] M := by
  obtain ⟨v, M1, M2, r1, r2, f, c, o, s⟩ := o_gives (L := L) h.1.1 h.2.1 h.1.2.2.2.2.2.1.1 h.2.2.2.2.1 (t := t)
  exact ⟨v, M1, M2, r1, r2, Rl_1 (Rl_sc (Rl_W h f c o) s)⟩
theorem op_shift (h : Rl n M) {t s : Int} : opG L n 130 279 [aI t, aI s] M := by
  obtain ⟨v, M1, M2, r1, r2, f, c, o, z⟩ := o_shift (L := L) h.1.1 h.2.1 h.1.2.2.2.2.2.1.1 h.2.2.2.2.1 (t := t) (s := s)
  exact ⟨v, M1, M2, r1, r2, Rl_1 (Rl_sc (Rl_W h f c o) z)⟩
theorem op_bow (h : Rl n M) {t s : Int} : opG L n 132 280 [aI t, aI s] M := by
  obtain ⟨v, M1, M2, r1, r2, f, c, o, z⟩ := o_bow (L := L) h.1.1 h.2.1 h.1.2.2.2.2.2.1.1 h.2.2.2.2.1 (t := t) (s := s)
  exact ⟨v, M1, M2, r1, r2, Rl_1 (Rl_sc (Rl_W h f c o) z)⟩
theorem op_judge (h : Rl n M) : opG L n 136 282 [] M := by
  obtain ⟨v, M1, M2, r1, r2, f, c, o, z⟩ := o_judge (L := L) h.1.1 h.2.1 h.1.2.2.2.2.2.1 h.2.2.2.2.1
  exact ⟨v, M1, M2, r1, r2, Rl_1 (Rl_sc (Rl_W h f c o) z)⟩
theorem op_breaks (h : Rl n M) {r : Int} : opG L n 137 283 [aI r] M := by
  obtain ⟨v, M1, M2, r1, r2, f, c, o, z⟩ := o_breaks (L := L) h.1.1 h.2.1 h.1.2.2.2.2.2.1 h.2.2.2.2.1 (r := r)
  exact ⟨v, M1, M2, r1, r2, Rl_1 (Rl_sc (Rl_W h f c o) z)⟩
/-- all but what is said of the tape or the logs -/
theorem Rl_lg (h : Rl n M) (l : rL M1) (f : lgF M M1) : Rl n M1 := by
  obtain ⟨⟨h1, h2, h3, h4, h5, h6, h7, h8, h9, h10, h11, h12⟩, hc⟩ := h
  obtain ⟨f1, f2, f3⟩ := f
  have t := tx_le (rP_tx h1)
  have e1 : M1 1 = M 1 := f1 1 (by omega) (by omega) (by omega)
  have k : ke M M1 := fun a x => f1 a (by omega) (by omega) (by omega)
  refine ⟨⟨ke_rP h1 k, rS_cg h2 (rP_tx h1) (fun a x => f1 a (by omega) (by omega) (by omega)) (f2 40 (by omega)), l, ?_, tR_cg h5 (by rw [e1]) (f1 2 (by omega) (by omega) (by omega)) (f1 146 (by omega) (by omega) (by omega)) (f2 0 (by omega)), ?_, ?_, by rw [e1]; exact h8, by rw [e1, f2 9 (by omega)]; exact h9, by rw [e1]; exact h10, by rw [e1]; exact h11, by rw [e1]; exact h12⟩, Rc_cg h1 hc k (fun a x y => f1 a (by omega) (by omega) (by omega))⟩
  · intro i i0 i1; rw [f1 184 (by omega) (by omega) (by omega)]; exact h4 i i0 i1
  · rw [e1]; exact rW_cg h6 (fun a x y => f1 a (by omega) (by omega) (by omega)) (fun a x y => f1 a (by omega) (by omega) (by omega))
  · intro i i0 i1; rw [f1 173 (by omega) (by omega) (by omega)]; exact h7 i i0 i1
theorem op_log (h : Rl n M) {d k m b : Int} : opG L n 158 297 [aI d, aI k, aI m, aI b] M := by
  obtain ⟨v, M1, M2, r1, r2, l, f⟩ := o_log (L := L) h.1.2.2.1 (d := d) (k := k) (m := m) (b := b)
  exact ⟨v, M1, M2, r1, r2, Rl_1 (Rl_lg h l f)⟩
theorem op_annul (h : Rl n M) {k : Int} : opG L n 160 298 [aI k] M := by
  obtain ⟨v, M1, M2, r1, r2, l, f⟩ := o_annul (L := L) h.1.2.2.1 (k := k)
  exact ⟨v, M1, M2, r1, r2, Rl_1 (Rl_lg h l f)⟩
end OP2
