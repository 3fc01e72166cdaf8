/-! the law: what holds between two calls -/
section INV
variable {L : Nat} {M M1 M2 : aM}
/-- all but the caches; n calls have been made at most -/
def Rb (n : Int) (M : aM) : Prop := rP M ∧ rS M ∧ rL M ∧ b01 M ∧ tR M ∧ rW M (M 1 3) ∧ b3 M ∧ (isTx (M 1 4) ∧ M 1 3 ≠ M 1 4) ∧ M 1 6 = M 145 9 ∧ (0 ≤ M 1 9 ∧ M 1 9 ≤ n) ∧ (0 ≤ M 1 10 ∧ M 1 10 ≤ n) ∧ 0 ≤ M 1 5 ∧ M 1 5 ≤ n
/-- the cells that it speaks of -/
def bF (M M1 : aM) : Prop := (∀ a, (1 ≤ a ∧ a ≤ 2) ∨ (9 ≤ a ∧ a ≤ 63) ∨ (139 ≤ a ∧ a ≤ 142) ∨ a = 146 ∨ (151 ≤ a ∧ a ≤ 189) → M1 a = M a) ∧ M1 138 0 = M 138 0 ∧ ∀ j, j = 0 ∨ j = 9 ∨ j = 40 ∨ j = 48 → M1 145 j = M 145 j
theorem bF_rf : bF M M := ⟨fun _ _ => rfl, rfl, fun _ _ => rfl⟩
theorem bF_tr (h : bF M M1) (g : bF M1 M2) : bF M M2 := ⟨fun a x => (g.1 a x).trans (h.1 a x), g.2.1.trans h.2.1, fun j x => (g.2.2 j x).trans (h.2.2 j x)⟩
theorem bF_sc (h : sc M M1) : bF M M1 := ⟨fun a x => h.1 a (by omega) (by omega) (by omega), by rw [h.1 138 (by omega) (by omega) (by omega)], h.2⟩
theorem bF_fr {lo hi : Int} (h : fr lo hi M M1) (a : 64 ≤ lo) (b : hi ≤ 137) : bF M M1 := ⟨fun a x => h a (by omega), by rw [h 138 (by omega)], fun j _ => by rw [h 145 (by omega)]⟩
theorem bF_fl (h : fl M M1) : bF M M1 := ⟨fun a x => funext fun b => h a b (by omega) (by omega) (by omega), h 138 0 (by omega) (by omega) (by omega), fun j _ => h 145 j (by omega) (by omega) (by omega)⟩
theorem rS_cg (h : rS M) (ht : isTx (M 1 3)) (f : ∀ a, a = 1 ∨ (9 ≤ a ∧ a ≤ 63) ∨ (151 ≤ a ∧ a ≤ 185) → M1 a = M a) (f40 : M1 145 40 = M 145 40) : rS M1 := by
  have t := tx_le ht
  obtain ⟨h1, h2, h3⟩ := h
  have e1 := f 1 (by omega)
  refine ⟨by rw [e1]; exact h1, by rw [e1, f40]; exact h2, fun s s0 s1 => ?_⟩
  have q := h3 s s0 s1
  unfold rSl at q ⊢
  rw [f (40 + 8 * s) (by omega), f 185 (by omega), e1]
  rcases q with x | ⟨x1, x2, x3, x4, x5⟩
  · exact Or.inl x
  · exact Or.inr ⟨x1, x2, x3, rB_cg x4 (fun a _ _ => f a (by omega)) (fun a _ _ => f a (by omega)), fun q => rF_cg (x5 q) (fun a x y => f a (by omega)) (fun a x y => f a (by omega))⟩
theorem rL_cg (h : rL M) (f : ∀ a, (139 ≤ a ∧ a ≤ 142) ∨ (186 ≤ a ∧ a ≤ 189) → M1 a = M a) (f0 : M1 138 0 = M 138 0) (f48 : M1 145 48 = M 145 48) : rL M1 := by
  unfold rL at h ⊢
  rw [f0, f48, f 139 (by omega), f 140 (by omega), f 141 (by omega), f 142 (by omega), f 186 (by omega), f 187 (by omega), f 188 (by omega), f 189 (by omega)]
  exact h
theorem tR_cg (h : tR M) (f1 : M1 1 1 = M 1 1) (f2 : M1 2 = M 2) (f6 : M1 146 = M 146) (f0 : M1 145 0 = M 145 0) : tR M1 := by
  unfold tR tQ at h ⊢
  rw [f1, f2, f6, f0]
  exact h
theorem Rb_cg {n : Int} (h : Rb n M) (f : bF M M1) : Rb n M1 := by
  obtain ⟨h1, h2, h3, h4, h5, h6, h7, h8, h9, h10, h11, h12⟩ := h
  obtain ⟨f1, f2, f3⟩ := f
  have t := tx_le (rP_tx h1)
  have e1 := f1 1 (by omega)
  refine ⟨rP_cg h1 (fun a x => f1 a (by omega)) (by rw [e1]), rS_cg h2 (rP_tx h1) (fun a x => f1 a (by omega)) (f3 40 (by omega)), rL_cg h3 (fun a x => f1 a (by omega)) f2 (f3 48 (by omega)), ?_, tR_cg h5 (by rw [e1]) (f1 2 (by omega)) (f1 146 (by omega)) (f3 0 (by omega)), ?_, ?_, by rw [e1]; exact h8, by rw [e1, f3 9 (by omega)]; exact h9, by rw [e1]; exact h10, by rw [e1]; exact h11, by rw [e1]; exact h12⟩
  · intro i i0 i1; rw [f1 184 (by omega)]; exact h4 i i0 i1
  · rw [e1]; exact rW_cg h6 (fun a x y => f1 a (by omega)) (fun a x y => f1 a (by omega))
  · intro i i0 i1; rw [f1 173 (by omega)]; exact h7 i i0 i1
theorem Rb_mn {n m : Int} (h : Rb n M) (nm : n ≤ m) : Rb m M := by
  obtain ⟨h1, h2, h3, h4, h5, h6, h7, h8, h9, h10, h11, h12⟩ := h
  exact ⟨h1, h2, h3, h4, h5, h6, h7, h8, h9, by omega, by omega, by omega⟩
/-- the caches -/
def Rc (M : aM) : Prop := cP M ∧ cL M ∧ cG M ∧ cW M ∧ cO M
theorem cP_cg (hp : rP M) (h : cP M) (k : ke M M1) (f : ∀ a, 64 ≤ a → a ≤ 83 → M1 a = M a) : cP M1 := by
  unfold cP at h ⊢
  rw [f 64 (by omega) (by omega), k 1 (by omega)]
  refine ⟨h.1, h.2.1, fun q => ctR_cg (h.2.2.1 q) (fun a x y => k a (by omega)) (fun a x y => f a (by omega) (by omega)) (by rw [f 64 (by omega) (by omega)]), fun q => ?_⟩
  obtain ⟨x1, x2, x3⟩ := h.2.2.2 q
  exact ⟨x1, liR_cg hp k x2 (by rw [f 64 (by omega) (by omega)]) (f 65 (by omega) (by omega)) (f 66 (by omega) (by omega)), kpR_cg hp k x3 (f 83 (by omega) (by omega))⟩
theorem cL_cg (hp : rP M) (h : cL M) (k : ke M M1) (f : ∀ a, 99 ≤ a → a ≤ 117 → M1 a = M a) : cL M1 := by
  have tl := tx_le (rP_tx hp)
  have t14 := hp.1.1.2.2.2.2.1
  unfold cL at h ⊢
  rw [f 99 (by omega) (by omega), k 1 (by omega)]
  refine ⟨h.1, fun q => ?_⟩
  have hl2 := h.2 q
  have e1 : M1 1 3 = M 1 3 := by rw [k 1 (by omega)]
  have eT : M1 (M 1 3) = M (M 1 3) := k _ (by omega)
  unfold lnR at hl2 ⊢
  rw [e1, eT, f 99 (by omega) (by omega), f (101 + M (M 1 3) 3) (by omega) (by omega)]
  refine ⟨hl2.1, hl2.2.1, fun k' k0 k1 => ?_⟩
  rw [lfT_cg hp (fun a ha => k a (by omega)) e1, f 117 (by omega) (by omega), f (101 + k') (by omega) (by omega), f (102 + k') (by omega) (by omega), k (M 1 3 + 3) (by omega), k (M 1 3 + 4) (by omega)]
  exact hl2.2.2 k' k0 k1
theorem cG_ke (hp : rP M) (h : cG M) (k : ke M M1) (f : ∀ a, 118 ≤ a → a ≤ 137 → M1 a = M a) : cG M1 := by
  have tl := tx_le (rP_tx hp)
  have t14 := hp.1.1.2.2.2.2.1
  unfold cG at h ⊢
  rw [f 118 (by omega) (by omega), k 1 (by omega)]
  refine ⟨h.1, fun q => ⟨(h.2 q).1, ?_⟩⟩
  have hl2 := (h.2 q).2
  have e1 : M1 1 3 = M 1 3 := by rw [k 1 (by omega)]
  have eT : M1 (M 1 3) = M (M 1 3) := k _ (by omega)
  unfold gpR at hl2 ⊢
  rw [e1, eT, f 118 (by omega) (by omega), f (120 + M (M 1 3) 3) (by omega) (by omega)]
  refine ⟨hl2.1, hl2.2.1, fun k' k0 k1 => ?_⟩
  rw [lfT_cg hp (fun a ha => k a (by omega)) e1, f 135 (by omega) (by omega), f 136 (by omega) (by omega), f 137 (by omega) (by omega), f (120 + k') (by omega) (by omega), f (121 + k') (by omega) (by omega), k (M 1 3 + 3) (by omega), k (M 1 3 + 4) (by omega)]
  exact hl2.2.2 k' k0 k1
theorem Rc_cg (hp : rP M) (h : Rc M) (k : ke M M1) (f : ∀ a, 64 ≤ a → a ≤ 137 → M1 a = M a) : Rc M1 := ⟨cP_cg hp h.1 k (fun a x y => f a x (by omega)), cL_cg hp h.2.1 k (fun a x y => f a (by omega) (by omega)), cG_ke hp h.2.2.1 k (fun a x y => f a (by omega) y), cW_cg k (fun a x y => f a (by omega) (by omega)) h.2.2.2.1, cO_cg hp k (fun a x y => f a (by omega) (by omega)) h.2.2.2.2⟩
theorem Rc_sc (hp : rP M) (h : Rc M) (s : sc M M1) : Rc M1 := Rc_cg hp h (ke_sc s) (fun a x y => s.1 a (by omega) (by omega) (by omega))
/-- all that holds -/
def Rl (n : Int) (M : aM) : Prop := Rb n M ∧ Rc M
theorem Rl_sc {n : Int} (h : Rl n M) (s : sc M M1) : Rl n M1 := ⟨Rb_cg h.1 (bF_sc s), Rc_sc h.1.1 h.2 s⟩
theorem Rl_mn {n m : Int} (h : Rl n M) (nm : n ≤ m) : Rl m M := ⟨Rb_mn h.1 nm, h.2⟩
/-- questions to the bed's pushes -/
theorem Rl_P {n : Int} (h : Rl n M) (f : fr 64 83 M M1) (c : cP M1) : Rl n M1 := by
  have k := ke_fr f (by omega) (by omega)
  exact ⟨Rb_cg h.1 (bF_fr f (by omega) (by omega)), c, cL_cg h.1.1 h.2.2.1 k (fun a x y => f a (by omega)), cG_ke h.1.1 h.2.2.2.1 k (fun a x y => f a (by omega)), cW_cg k (fun a x y => f a (by omega)) h.2.2.2.2.1, cO_cg h.1.1 k (fun a x y => f a (by omega)) h.2.2.2.2.2⟩
end INV
