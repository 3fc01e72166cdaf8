/-! reading: a LIT, both sides -/
section LIT2
variable {L : Nat} {C R C1 R1 C2 R2 K K1 M M1 : aM}
/-- the class behind a FAULT -/
def fK (T : Int) (K : aM) : Prop := ¬ K 3 0 = 0 ∧ (0 ≤ K 3 4 ∧ K 3 4 ≤ 400) ∧ K 3 3 = T ∧ isTx T ∧ 0 ≤ K T 13 ∧ K T 13 ≤ 400
def wk (T : Int) (K K1 : aM) : Prop := cE T K K1 ∧ (∀ j, j ≠ 8 → K1 3 j = K 3 j) ∧ 0 ≤ K1 T 13 ∧ K1 T 13 ≤ 400
theorem wk_fK {T : Int} (h : fK T K) (w : wk T K K1) : fK T K1 := by
  obtain ⟨a, b, c, d, e⟩ := h
  unfold fK
  rw [w.2.1 0 (by omega), w.2.1 4 (by omega), w.2.1 3 (by omega)]
  exact ⟨a, b, c, d, w.2.2⟩
theorem wk_tr {T : Int} {K2 : aM} (h : wk T K K1) (g : wk T K1 K2) : wk T K K2 := ⟨cE_tr h.1 g.1, fun j hj => (g.2.1 j hj).trans (h.2.1 j hj), g.2.2⟩
theorem wk_rf {T : Int} (h : fK T K) : wk T K K := ⟨cE_rf, fun _ _ => rfl, h.2.2.2.2⟩
theorem af40 {T o : Int} (h : fK T K) : ∃ K1, aE 40 [aR (K 3 3), aI o] (SH L) K ([], SH L, K1) ∧ aK (SH L) (K 3 3) = 19 ∧ wk T K K1 := by
  obtain ⟨a, b, c, d, e⟩ := h
  have t := tx_le d
  obtain ⟨K1, r, q⟩ := s_40f (L := L) (C := K) (o := o) d e
  rw [c]
  refine ⟨K1, r, (tx d).1, ?_⟩
  rcases q with rfl | ⟨q, rfl⟩
  · exact ⟨cE_rf, fun _ _ => rfl, e⟩
  · exact ⟨cE_ad d, fun j _ => by rw [adC_c (by omega) (by omega)], by rw [adC_8.2.2]; omega⟩
theorem af44 {T : Int} (h : fK T K) : ∃ K1, aE 44 [aR 3] (SH L) K ([], SH L, K1) ∧ wk T K K1 := by
  obtain ⟨a, b, c, d, e⟩ := h
  have t := tx_le d
  refine ⟨aSet K 3 8 0, en_44 (bl_44_11 ⟨fun _ => rfl, fun _ => ⟨fun _ => rfl, fun q => absurd (by rw [aSet_i (by omega)]; exact a) q⟩⟩), cE_3 cE_rf (by omega) d, fun j hj => aSet_i hj, by rw [aSet_c (by omega)]; exact e⟩
theorem af89 {T a1 a2 a3 : Int} (h : fK T K) : ∃ K1, aX xc_47 (aSeek xc_47 89) [aR 3, aI a1, aI a2, aI a3, aU, aU] [] (SH L) K ([], SH L, K1) ∧ wk T K K1 := by
  -- the end of it: the loop's head, a FAULT being there
  have e6 : ∀ (Q : aM) (x y z : Int), fK T Q → aX xc_47 (aSeek xc_47 6) [aR 3, aI x, aI y, aI z, aU, aU] [] (SH L) Q ([], SH L, Q) := by
    intro Q x y z hq
    by_cases c : 400 < z
    · exact bl_47_6 ⟨fun _ => rfl, fun q => absurd c q⟩
    · exact bl_47_6 ⟨fun q => absurd q c, fun _ => ⟨fun _ => rfl, fun q => absurd hq.1 q⟩⟩
  have e161 : ∀ (Q : aM) (x y z : Int), fK T Q → aX xc_47 (aSeek xc_47 161) [aR 3, aU, aI y, aI z, aU, aU] [aI x] (SH L) Q ([], SH L, Q) := fun Q x y z hq => bl_47_161 ⟨Q, _, s_26 hq.2.1, Q, 0, s_29f hq.1, e6 Q _ _ _ hq⟩
  have e134 : ∀ (Q : aM) (x y z : Int), fK T Q → aX xc_47 (aSeek xc_47 134) [aR 3, aI x, aI y, aI z, aU, aU] [] (SH L) Q ([], SH L, Q) := by
    intro Q x y z hq
    have e148 : aX xc_47 (aSeek xc_47 148) [aR 3, aI x, aI y, aI z, aU, aU] [] (SH L) Q ([], SH L, Q) := by
      refine bl_47_148 ⟨fun _ => bl_47_156 (e161 Q _ _ _ hq), fun _ => ⟨fun _ => e161 Q _ _ _ hq, fun _ => bl_47_156 (e161 Q _ _ _ hq)⟩⟩
    exact bl_47_134 ⟨fun _ => e148, fun _ => ⟨Q, _, s_26 hq.2.1, fun _ => e148, fun _ => rfl⟩⟩
  have e116 : ∀ (Q : aM) (x z b : Int), fK T Q → ∃ K1, aX xc_47 (aSeek xc_47 116) [aR 3, aI x, aU, aI z, aU, aU] [aI b] (SH L) Q ([], SH L, K1) ∧ wk T Q K1 := by
    intro Q x z b hq
    by_cases c : b = 0
    · by_cases c2 : x = 0
      · exact ⟨Q, bl_47_116 ⟨fun q => absurd c q, fun _ => ⟨fun _ => e134 Q _ _ _ hq, fun q => absurd c2 q⟩⟩, wk_rf hq⟩
      · obtain ⟨K1, r, k19, w⟩ := af40 (L := L) (o := 37) hq
        exact ⟨K1, bl_47_116 ⟨fun q => absurd c q, fun _ => ⟨fun q => absurd q c2, fun _ => ⟨k19, K1, r, e134 K1 _ _ _ (wk_fK hq w)⟩⟩⟩, w⟩
    · exact ⟨Q, bl_47_116 ⟨fun _ => e134 Q _ _ _ hq, fun q => absurd c q⟩, wk_rf hq⟩
  have e102 : ∀ (Q : aM) (x z : Int), fK T Q → ∃ K1, aX xc_47 (aSeek xc_47 102) [aR 3, aI x, aU, aI z, aU, aU] [] (SH L) Q ([], SH L, K1) ∧ wk T Q K1 := by
    intro Q x z hq
    by_cases c : Q 5 (Q 3 4) = 38
    · obtain ⟨K1, r, w⟩ := e116 Q x z 1 hq
      exact ⟨K1, bl_47_102 ⟨Q, _, s_26 hq.2.1, fun q => absurd c q, fun _ => r⟩, w⟩
    · obtain ⟨K1, r, w⟩ := e116 Q x z 0 hq
      exact ⟨K1, bl_47_102 ⟨Q, _, s_26 hq.2.1, fun _ => r, fun q => absurd c q⟩, w⟩
  by_cases c : a2 = 0
  · obtain ⟨K1, r, w⟩ := e102 K a1 a3 h
    exact ⟨K1, bl_47_89 ⟨fun _ => r, fun q => absurd c q⟩, w⟩
  · obtain ⟨K0, r0, k19, w0⟩ := af40 (L := L) (o := 38) h
    obtain ⟨K1, r, w⟩ := e102 K0 a1 a3 (wk_fK h w0)
    exact ⟨K1, bl_47_89 ⟨fun q => absurd q c, fun _ => ⟨k19, K0, r0, r⟩⟩, wk_tr w0 w⟩
/-- the codes behind the second E, a FAULT being there -/
theorem af40b {T a1 a2 a3 a4 a5 : Int} (h : fK T K) : ∃ K1, (aK (SH L) (K 3 3) = 19 ∧ ∃ M4, aE 40 [aR (K 3 3), aI a5] (SH L) K ([], SH L, M4) ∧ ((a4 = 0 → aX xc_47 (aSeek xc_47 89) [aR 3, aI a1, aI a2, aI a3, aU, aU] [] (SH L) M4 ([], SH L, K1)) ∧ (¬ a4 = 0 → aK (SH L) (M4 3 3) = 19 ∧ ∃ M5, aE 40 [aR (M4 3 3), aI 39] (SH L) M4 ([], SH L, M5) ∧ aX xc_47 (aSeek xc_47 89) [aR 3, aI a1, aI a2, aI a3, aU, aU] [] (SH L) M5 ([], SH L, K1)))) ∧ wk T K K1 := by
  obtain ⟨K0, r0, k19, w0⟩ := af40 (L := L) (o := a5) h
  have h0 := wk_fK h w0
  by_cases c : a4 = 0
  · obtain ⟨K1, r, w⟩ := af89 (L := L) (a1 := a1) (a2 := a2) (a3 := a3) h0
    exact ⟨K1, ⟨k19, K0, r0, fun _ => r, fun q => absurd c q⟩, wk_tr w0 w⟩
  · obtain ⟨K2, r2, k20, w2⟩ := af40 (L := L) (o := 39) h0
    obtain ⟨K1, r, w⟩ := af89 (L := L) (a1 := a1) (a2 := a2) (a3 := a3) (wk_fK h0 w2)
    exact ⟨K1, ⟨k19, K0, r0, fun q => absurd q c, fun _ => ⟨k20, K2, r2, r⟩⟩, wk_tr w0 (wk_tr w2 w)⟩
theorem af58 {T a1 a2 a3 a4 a5 u : Int} (h : fK T K) : ∃ K1, aX xc_47 (aSeek xc_47 58) [aR 3, aI a1, aI a2, aI a3, aI a4, aI a5] [aI u, aR 3] (SH L) K ([], SH L, K1) ∧ wk T K K1 := by
  obtain ⟨K0, r0, w0⟩ := af44 (L := L) h
  have h0 := wk_fK h w0
  obtain ⟨K1, r, w⟩ := af40b (L := L) (a1 := a1) (a2 := a2) (a3 := a3) (a4 := a4) (a5 := a5) h0
  exact ⟨K1, bl_47_58 ⟨rfl, K, 0, s_29f h.1, K0, r0, r⟩, wk_tr w0 w⟩
/-- behind the first E, a FAULT being there -/
theorem af26 {T a1 a2 a3 a4 : Int} (h : fK T K) : ∃ K1, (∃ M4 v5, aE 26 [aR 3] (SH L) K ([aI v5], SH L, M4) ∧ ((v5 < 10 → aX xc_47 (aSeek xc_47 56) [aR 3, aI a1, aI a2, aI a3, aI a4, aI v5] [aR 3] (SH L) M4 ([], SH L, K1)) ∧ (¬ v5 < 10 → ((13 < v5 → aX xc_47 (aSeek xc_47 56) [aR 3, aI a1, aI a2, aI a3, aI a4, aI v5] [aR 3] (SH L) M4 ([], SH L, K1)) ∧ (¬ 13 < v5 → aX xc_47 (aSeek xc_47 58) [aR 3, aI a1, aI a2, aI a3, aI a4, aI v5] [aI v5, aR 3] (SH L) M4 ([], SH L, K1)))))) ∧ wk T K K1 := by
  by_cases c : 10 ≤ K 5 (K 3 4) ∧ K 5 (K 3 4) ≤ 13
  · obtain ⟨K1, r, w⟩ := af58 (L := L) (a1 := a1) (a2 := a2) (a3 := a3) (a4 := a4) (a5 := K 5 (K 3 4)) (u := K 5 (K 3 4)) h
    exact ⟨K1, ⟨K, _, s_26 h.2.1, fun q => by omega, fun _ => ⟨fun q => by omega, fun _ => r⟩⟩, w⟩
  · obtain ⟨K1, r, w⟩ := af58 (L := L) (a1 := a1) (a2 := a2) (a3 := a3) (a4 := a4) (a5 := K 5 (K 3 4)) (u := 10) h
    exact ⟨K1, ⟨K, _, s_26 h.2.1, fun _ => bl_47_56 r, fun _ => ⟨fun _ => bl_47_56 r, fun q => by omega⟩⟩, w⟩
theorem FT_fK {T : Int} (h : FT C R T) (c : 0 ≤ C T 13 ∧ C T 13 ≤ 400) : fK T C := ⟨h.1, h.2.2.2.1, h.2.2.2.2.1, h.2.2.2.2.2, c⟩
theorem FT_wk {T : Int} (h : FT C R T) (w : wk T C C1) : FT C1 R T := FT_cg h (fun j hj => w.2.1 j (by omega)) (fun _ _ _ => rfl)
/-- what the reference does behind a LIT -/
def cnt (L : Nat) (R1 : aM) (row : Int) (o : aO) : Prop := ∃ (M5 : aM) (v6 : Int), aE 195 [aR 145, aI 11] (SH L) R1 ([aI v6], SH L, M5) ∧ ((¬ v6 = 0 → aX xc_204 (aSeek xc_204 239) [aR 145, aI row, aU, aU, aU, aU] [] (SH L) M5 o) ∧ (¬ (¬ v6 = 0) → (∃ (M7 : aM) (v8 : Int), aE 195 [aR 145, aI 12] (SH L) M5 ([aI v8], SH L, M7) ∧ ((v8 = 0 → aX xc_204 (aSeek xc_204 244) [aR 145, aI row, aU, aU, aU, aU] [aI 0] (SH L) M7 o) ∧ (¬ (v8 = 0) → aX xc_204 (aSeek xc_204 239) [aR 145, aI row, aU, aU, aU, aU] [] (SH L) M7 o)))))
theorem evO_sg {vr : Int → Int} {o x y z : Int} {st : List Int} (h : 10 ≤ o ∧ o ≤ 13) : evO vr o (y :: x :: st) z = some ((if z = 0 then cmV o x y else 0) :: st, 0) := by
  unfold evO
  rw [if_neg (by omega), if_neg (by omega), if_neg (by omega)]
  dsimp only
  rw [if_pos h]
theorem evO_nt {vr : Int → Int} {v z : Int} {st : List Int} : evO vr 39 (v :: st) z = some (aW (1 - v) :: st, z) := by
  unfold evO
  rw [if_neg (by omega), if_neg (by omega), if_pos rfl]
theorem evO_b {vr : Int → Int} {a b z : Int} {st : List Int} {o : Int} (h : o = 37 ∨ o = 38) : evO vr o (b :: a :: st) z = some (coB o a b :: st, z) := by
  unfold evO
  rw [if_neg (by omega), if_neg (by omega), if_neg (by omega)]
  dsimp only
  rw [if_neg (by omega), if_neg (by omega)]
theorem cm_sg {o x y : Int} (h : 10 ≤ o ∧ o ≤ 13) : cmV o x y = cmR (sgR o) x y := by
  have : o = 10 ∨ o = 11 ∨ o = 12 ∨ o = 13 := by omega
  rcases this with rfl | rfl | rfl | rfl <;> rfl
theorem cmR_b {o x y : Int} (b : Bool) : bi (decide (¬ cmR o x y = bi b)) = if b = true then aW (1 - cmR o x y) else cmR o x y := by
  have h := cmR_01 (o := o) (x := x) (y := y)
  cases b with
  | false =>
    rw [if_neg (by decide), bi_f]
    rcases h with h | h <;> rw [h] <;> decide
  | true =>
    rw [if_pos rfl, bi_t]
    rcases h with h | h <;> rw [h] <;> decide
end LIT2
