/-! the law: the caches behind a step that leaves what they speak of -/
section KWC
variable {L : Nat} {M M1 M2 : aM} {n : Int}
theorem kw_lfT (h : rP M) (k : kw M M1) {i : Int} : lfT M1 i = lfT M i := by
  have tl := tx_le (rP_tx h)
  unfold lfT cntK
  rw [k.2.2, k.1 (M 1 3) (by omega), k.1 (M 1 3 + 2) (by omega), k.1 (M 1 3 + 5) (by omega), k.2.1, k.1 (31 + 1) (by omega)]
theorem kw_cP (hp : rP M) (h : cP M) (k : kw M M1) (k31 : M1 31 = M 31) (e9 : M1 1 9 = M 1 9) (e10 : M1 1 10 = M 1 10) (f : ∀ a, 64 ≤ a → a ≤ 83 → M1 a = M a) : cP M1 := by
  unfold cP at h ⊢
  rw [f 64 (by omega) (by omega), e9, e10]
  refine ⟨h.1, h.2.1, fun q => ctR_cg (h.2.2.1 q) (fun a x y => ?_) (fun a x y => f a (by omega) (by omega)) (by rw [f 64 (by omega) (by omega)]), fun q => ?_⟩
  · by_cases c : a = 31
    · rw [c, k31]
    · exact k.1 a (by omega)
  · obtain ⟨x1, x2, x3⟩ := h.2.2.2 q
    refine ⟨x1, ?_, ?_⟩
    · unfold liR at x2 ⊢
      rw [f 64 (by omega) (by omega), f 65 (by omega) (by omega), f 66 (by omega) (by omega), k31]
      rcases x2 with x2 | ⟨y1, y2, y3⟩
      · exact Or.inl x2
      · exact Or.inr ⟨y1, fun t t0 t1 => by rw [kw_drp hp k]; exact y2 t t0 t1, fun r r0 r1 => by rw [kw_rnd hp k]; exact y3 r r0 r1⟩
    · unfold kpR at x3 ⊢
      rw [f 83 (by omega) (by omega), k31]
      intro t t0 t1
      rw [kw_kpV hp k]
      exact x3 t t0 t1
theorem kw_cL (hp : rP M) (h : cL M) (k : kw M M1) (e9 : M1 1 9 = M 1 9) (f : ∀ a, 99 ≤ a → a ≤ 117 → M1 a = M a) : cL M1 := by
  have tl := tx_le (rP_tx hp)
  have t14 := hp.1.1.2.2.2.2.1
  unfold cL at h ⊢
  rw [f 99 (by omega) (by omega), e9]
  refine ⟨h.1, fun q => ?_⟩
  have hl2 := h.2 q
  have eT : M1 (M 1 3) = M (M 1 3) := k.1 _ (by omega)
  unfold lnR at hl2 ⊢
  rw [k.2.2, eT, f 99 (by omega) (by omega), f (101 + M (M 1 3) 3) (by omega) (by omega)]
  refine ⟨hl2.1, hl2.2.1, fun k' k0 k1 => ?_⟩
  rw [kw_lfT hp k, f 117 (by omega) (by omega), f (101 + k') (by omega) (by omega), f (102 + k') (by omega) (by omega), k.1 (M 1 3 + 3) (by omega), k.1 (M 1 3 + 4) (by omega)]
  exact hl2.2.2 k' k0 k1
theorem kw_cG (hp : rP M) (h : cG M) (k : kw M M1) (e9 : M1 1 9 = M 1 9) (f : ∀ a, 118 ≤ a → a ≤ 137 → M1 a = M a) : cG M1 := by
  have tl := tx_le (rP_tx hp)
  have t14 := hp.1.1.2.2.2.2.1
  unfold cG at h ⊢
  rw [f 118 (by omega) (by omega), e9]
  refine ⟨h.1, fun q => ⟨(h.2 q).1, ?_⟩⟩
  have hl2 := (h.2 q).2
  have eT : M1 (M 1 3) = M (M 1 3) := k.1 _ (by omega)
  unfold gpR at hl2 ⊢
  rw [k.2.2, eT, f 118 (by omega) (by omega), f (120 + M (M 1 3) 3) (by omega) (by omega)]
  refine ⟨hl2.1, hl2.2.1, fun k' k0 k1 => ?_⟩
  rw [kw_lfT hp k, f 135 (by omega) (by omega), f 136 (by omega) (by omega), f 137 (by omega) (by omega), f (120 + k') (by omega) (by omega), f (121 + k') (by omega) (by omega), k.1 (M 1 3 + 3) (by omega), k.1 (M 1 3 + 4) (by omega)]
  exact hl2.2.2 k' k0 k1
theorem kw_cW (h : cW M) (k : kw M M1) (k31 : M1 31 = M 31) (e10 : M1 1 10 = M 1 10) (f : ∀ a, 90 ≤ a → a ≤ 96 → M1 a = M a) : cW M1 := by
  unfold cW at h ⊢
  rw [f 90 (by omega) (by omega), e10]
  refine ⟨h.1, fun q => ?_⟩
  obtain ⟨a, b, c, d, e⟩ := h.2 q
  have ge : gvV M1 = gvV M := funext fun t => by
    have ea : asV M1 t 0 0 = asV M t 0 0 := funext fun j => by
      unfold asV
      rw [k.1 34 (by omega), k.1 35 (by omega), k.1 36 (by omega), k.1 37 (by omega), k31, k.1 33 (by omega)]
    unfold gvV
    rw [k.1 164 (by omega), k.1 165 (by omega), k.1 170 (by omega), k.1 171 (by omega), ea]
  unfold cWd
  rw [f 90 (by omega) (by omega), f 91 (by omega) (by omega), k.2.2, k31, ge]
  refine ⟨a, b, c, d, fun s s0 s1 => ?_⟩
  rw [f (93 + s) (by omega) (by omega)]
  refine ⟨?_, (e s s0 s1).2⟩
  have sq := (e s s0 s1).1
  unfold SQ at sq ⊢
  rw [k31]
  simp only [kw_tA k]
  exact sq
theorem kw_cO (hp : rP M) (h : cO M) (k : kw M M1) (e9 : M1 1 9 = M 1 9) (f : ∀ a, 84 ≤ a → a ≤ 86 → M1 a = M a) : cO M1 := by
  have t := tx_le (rP_tx hp)
  have eT : M1 (M 1 3) = M (M 1 3) := k.1 _ (by omega)
  have eb : bsO M1 = bsO M := by unfold bsO; rw [kw_hSt hp k, k.2.2, eT]
  unfold cO
  rw [f 84 (by omega) (by omega), f 85 (by omega) (by omega), f 86 (by omega) (by omega), eb, kw_hSt hp k, k.2.2, e9, eT]
  exact h
theorem Rc_kw (hp : rP M) (h : Rc M) (k : kw M M1) (k31 : M1 31 = M 31) (e9 : M1 1 9 = M 1 9) (e10 : M1 1 10 = M 1 10) (f : ∀ a, 64 ≤ a → a ≤ 137 → M1 a = M a) : Rc M1 := ⟨kw_cP hp h.1 k k31 e9 e10 (fun a x y => f a x (by omega)), kw_cL hp h.2.1 k e9 (fun a x y => f a (by omega) (by omega)), kw_cG hp h.2.2.1 k e9 (fun a x y => f a (by omega) y), kw_cW h.2.2.2.1 k k31 e10 (fun a x y => f a (by omega) (by omega)), kw_cO hp h.2.2.2.2 k e9 (fun a x y => f a (by omega) (by omega))⟩
theorem Rl_chg2 (h : Rl n M) (p : rP M2) (c : chg M M2) : Rl (n + 1) M2 := by
  have t := tx_le (rP_tx h.1.1)
  refine Rl_chg h p c (fun e => ?_)
  obtain ⟨c1, c2, -⟩ := c
  exact Rc_kw h.1.1 h.2 ⟨fun a x => by
    by_cases q : a ≤ 30
    · exact c1 a (by omega) (by omega) (by omega)
    · by_cases q2 : a ≤ 38
      · exact e.2.2 a (by omega) q2
      · exact c1 a (by omega) (by omega) (by omega), by rw [e.2.2 31 (by omega) (by omega)], c2 3 (by omega) (by omega)⟩ (e.2.2 31 (by omega) (by omega)) e.1 e.2.1 (fun a x y => c1 a (by omega) (by omega) (by omega))
theorem op_lay (h : Rl n M) (hn : n ≤ 10000) {k x y tb : Int} (ht : tb = 0 ∨ tb = 1) : opG L n 62 227 [aI k, aI x, aI y, aI tb] M := by
  have h10 := h.1.2.2.2.2.2.2.2.2.2
  obtain ⟨v, M1, M2, r1, r2, p, c⟩ := o_lay (L := L) h.1.1 (by omega) (k := k) (x := x) (y := y) ht
  exact ⟨v, M1, M2, r1, r2, Rl_chg2 h p c⟩
theorem op_take (h : Rl n M) (hn : n ≤ 10000) {t : Int} : opG L n 65 228 [aI t] M := by
  have h10 := h.1.2.2.2.2.2.2.2.2.2
  obtain ⟨v, M1, M2, r1, r2, p, c⟩ := o_take (L := L) h.1.1 (by omega) (t := t)
  exact ⟨v, M1, M2, r1, r2, Rl_chg2 h p c⟩
end KWC
