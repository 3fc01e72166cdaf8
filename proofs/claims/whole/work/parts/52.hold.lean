/-! hold, again: both -/
section HOLD
variable {L : Nat} {M M1 M2 : aM}
theorem rB_ci {b s : Int} (h : rB M b s) (h0 : M1 179 s = M 179 s) (h8 : M1 180 s = M 180 s) (hm : ∀ a i, 181 ≤ a → a ≤ 184 → 0 ≤ i → i < 40 → M1 a (40 * s + i) = M a (40 * s + i)) (h1 : ∀ a, b + 1 ≤ a → a ≤ b + 7 → M1 a = M a) (hb0 : M1 b 0 = M b 0) (hb8 : M1 b 8 = M b 8) : rB M1 b s := by
  have n := h.1.2.1
  have g := h
  unfold rB bOk at g ⊢
  rw [h0, h8, hb0, hb8, h1 (b + 1) (by omega) (by omega), h1 (b + 2) (by omega) (by omega), h1 (b + 3) (by omega) (by omega), h1 (b + 4) (by omega) (by omega), h1 (b + 5) (by omega) (by omega), h1 (b + 6) (by omega) (by omega), h1 (b + 7) (by omega) (by omega)]
  refine ⟨g.1, g.2.1, g.2.2.1, fun i i0 i1 => ?_, g.2.2.2.2⟩
  rw [hm 181 i (by omega) (by omega) i0 (by omega), hm 182 i (by omega) (by omega) i0 (by omega), hm 183 i (by omega) (by omega) i0 (by omega), hm 184 i (by omega) (by omega) i0 (by omega)]
  exact g.2.2.2.1 i i0 i1
theorem rF_ci {t b : Int} (h : rF M t b) (h0 : ∀ a, t ≤ a → a ≤ t + 10 → M1 a = M a) (h1 : ∀ a, b + 1 ≤ a → a ≤ b + 7 → M1 a = M a) (hb0 : M1 b 0 = M b 0) : rF M1 t b := by
  unfold rF cntK
  rw [hb0, h0 t (by omega) (by omega), h0 (t + 2) (by omega) (by omega), h0 (t + 3) (by omega) (by omega), h0 (t + 4) (by omega) (by omega), h0 (t + 5) (by omega) (by omega), h1 (b + 1) (by omega) (by omega), h1 (b + 2) (by omega) (by omega), h1 (b + 3) (by omega) (by omega), h1 (b + 4) (by omega) (by omega), h1 (b + 5) (by omega) (by omega), h1 (b + 6) (by omega) (by omega), h1 (b + 7) (by omega) (by omega)]
  exact h
/-- things copied from a bed to another one, on both sides -/
theorem rB_cp {b c s r : Int} (h : rB M c r) (hb : isBd b) (h0 : M1 b 0 = M c 0) (h8 : M1 b 8 = M c 8) (hv : ∀ i, 0 ≤ i → i < M c 0 → thE M1 b i M c i) (m0 : M1 179 s = M 179 r) (m8 : M1 180 s = M 180 r) (mv : ∀ a i, 181 ≤ a → a ≤ 184 → 0 ≤ i → i < 40 → M1 a (40 * s + i) = M a (40 * r + i)) : rB M1 b s := by
  have n := h.1.2.1
  have g := h
  unfold rB bOk at g ⊢
  rw [h0, h8, m0, m8]
  refine ⟨⟨hb, n, fun i i0 i1 => ?_⟩, g.2.1, g.2.2.1, fun i i0 i1 => ?_, fun i j i0 i1 j0 j1 ij => ?_⟩
  · obtain ⟨w1, w2, w3, w4, w5, w6, w7⟩ := hv i i0 i1
    rw [w1, w2, w3, w4, w5, w6, w7]
    exact g.1.2.2 i i0 i1
  · obtain ⟨w1, w2, w3, w4, w5, w6, w7⟩ := hv i i0 i1
    rw [w1, w3, w4, w7, mv 181 i (by omega) (by omega) i0 (by omega), mv 182 i (by omega) (by omega) i0 (by omega), mv 183 i (by omega) (by omega) i0 (by omega), mv 184 i (by omega) (by omega) i0 (by omega)]
    exact g.2.2.2.1 i i0 i1
  · obtain ⟨w1, w2, w3, w4, w5, w6, w7⟩ := hv i i0 i1
    obtain ⟨u1, u2, u3, u4, u5, u6, u7⟩ := hv j j0 j1
    rw [w3, w4, w5, w6, u3, u4, u5, u6]
    exact g.2.2.2.2 i j i0 i1 j0 j1 ij
theorem rF_cp {t b c : Int} (h : rF M t c) (ht : ∀ a, t ≤ a → a ≤ t + 10 → M1 a = M a) (h0 : M1 b 0 = M c 0) (hv : ∀ i, 0 ≤ i → i < M c 0 → thE M1 b i M c i) : rF M1 t b := by
  have g := h
  unfold rF at g ⊢
  rw [h0, ht t (by omega) (by omega), ht (t + 2) (by omega) (by omega), ht (t + 3) (by omega) (by omega), ht (t + 4) (by omega) (by omega), ht (t + 5) (by omega) (by omega)]
  refine ⟨fun i i0 i1 => ?_, fun k k0 k1 => ?_⟩
  · obtain ⟨w1, w2, w3, w4, w5, w6, w7⟩ := hv i i0 i1
    rw [w1, w2, w3, w4, w5, w6, w7]
    exact g.1 i i0 i1
  · have e : cntK M1 b k = cntK M c k := by
      unfold cntK
      rw [h0]
      exact sumI_congr 0 (fun j j0 j1 => by rw [(hv j j0 j1).1])
    rw [e]
    exact g.2 k k0 k1
theorem s_309 {f t : Int} (hf : 0 ≤ f ∧ f < 4) (ht : 0 ≤ t ∧ t < 4) (hft : f ≠ t) (hb : ∀ i, 0 ≤ i → i < 160 → M 184 i = 0 ∨ M 184 i = 1) : ∃ M1, aE 309 [aR 145, aI f, aI t] (SH L) M ([], SH L, M1) ∧ (∀ a, a < 179 ∨ 184 < a → M1 a = M a) ∧ (M1 179 t = M 179 f ∧ M1 180 t = M 180 f) ∧ (∀ j, j ≠ t → M1 179 j = M 179 j ∧ M1 180 j = M 180 j) ∧
    (∀ a i, 181 ≤ a → a ≤ 184 → 0 ≤ i → i < 40 → M1 a (40 * t + i) = M a (40 * f + i)) ∧ ∀ a i, 181 ≤ a → a ≤ 184 → ¬ (40 * t ≤ i ∧ i < 40 * t + 40) → M1 a i = M a i := by
  have key : ∀ k, ∀ M' : aM, 0 ≤ k → k ≤ 40 → (∀ a, a < 179 ∨ 184 < a → M' a = M a) → (M' 179 t = M 179 f ∧ M' 180 t = M 180 f) → (∀ j, j ≠ t → M' 179 j = M 179 j ∧ M' 180 j = M 180 j) → (∀ a i, 181 ≤ a → a ≤ 184 → 0 ≤ i → i < k → M' a (40 * t + i) = M a (40 * f + i)) → (∀ a i, 181 ≤ a → a ≤ 184 → ¬ (40 * t ≤ i ∧ i < 40 * t + k) → M' a i = M a i) →
      ∃ M1, aX xc_309 (aSeek xc_309 26) [aR 145, aI f, aI t, aI k] [] (SH L) M' ([], SH L, M1) ∧ (∀ a, a < 179 ∨ 184 < a → M1 a = M a) ∧ (M1 179 t = M 179 f ∧ M1 180 t = M 180 f) ∧ (∀ j, j ≠ t → M1 179 j = M 179 j ∧ M1 180 j = M 180 j) ∧
      (∀ a i, 181 ≤ a → a ≤ 184 → 0 ≤ i → i < 40 → M1 a (40 * t + i) = M a (40 * f + i)) ∧ ∀ a i, 181 ≤ a → a ≤ 184 → ¬ (40 * t ≤ i ∧ i < 40 * t + 40) → M1 a i = M a i := by
    refine upto 40 (fun k hk M' k0 k1 g1 g2 g3 g4 g5 => ?_) (fun k hk ih M' k0 k1 g1 g2 g3 g4 g5 => ?_)
    · have e : k = 40 := by omega
      subst e
      exact ⟨M', bl_309_26 ⟨fun _ => rfl, fun q => absurd hk q⟩, g1, g2, g3, g4, g5⟩
    · have v := fun a (a1 : 181 ≤ a) (a2 : a ≤ 184) => g5 a (40 * f + k) a1 a2 (by omega)
      obtain ⟨M1, r, x⟩ := ih (aSet (aSet (aSet (aSet M' 181 (40 * t + k) (M 181 (40 * f + k))) 182 (40 * t + k) (M 182 (40 * f + k))) 183 (40 * t + k) (M 183 (40 * f + k))) 184 (40 * t + k) (M 184 (40 * f + k))) (by omega) (by omega) (fun a ha => by
          simp (disch := omega) only [aSet_c]
          exact g1 a ha) (by simp (disch := omega) only [aSet_c]; exact g2) (fun j hj => by simp (disch := omega) only [aSet_c]; exact g3 j hj) (fun a i a1 a2 i0 i1 => by
          by_cases c : i = k
          · have ca : a = 181 ∨ a = 182 ∨ a = 183 ∨ a = 184 := by omega
            rw [c]
            rcases ca with rfl | rfl | rfl | rfl
            all_goals (simp (disch := omega) only [aSet_c, aSet_e])
          · rw [aSet_i (by omega), aSet_i (by omega), aSet_i (by omega), aSet_i (by omega)]
            exact g4 a i a1 a2 i0 (by omega)) (fun a i a1 a2 hi => by
          rw [aSet_i (by omega), aSet_i (by omega), aSet_i (by omega), aSet_i (by omega)]
          exact g5 a i a1 a2 (by omega))
      refine ⟨M1, bl_309_26 ⟨fun q => absurd q (by omega), fun _ => ?_⟩, x⟩
      simp only [ln0, ln1, ln2, ln3, ln4]
      rw [aWi (z := 40 * f) (by omega) (by omega), aWi (z := 40 * t) (by omega) (by omega), aWi (z := 40 * f + k) (by omega) (by omega), aWi (z := 40 * t + k) (by omega) (by omega), aWi (z := k + 1) (by omega) (by omega)]
      simp (disch := omega) only [aSet_c]
      rw [v 181 (by omega) (by omega), v 182 (by omega) (by omega), v 183 (by omega) (by omega), v 184 (by omega) (by omega)]
      exact ⟨by omega, by omega, by omega, by omega, by omega, by omega, by omega, ⟨by omega, hb _ (by omega) (by omega)⟩, r⟩
  obtain ⟨M1, r, x⟩ := key 0 (aSet (aSet M 179 t (M 179 f)) 180 t (M 180 f)) (by omega) (by omega) (fun a ha => by rw [aSet_c (by omega), aSet_c (by omega)]) ⟨by rw [aSet_r (by omega), aSet_e], aSet_e⟩ (fun j hj => ⟨by rw [aSet_i hj, aSet_i hj], by rw [aSet_i hj, aSet_i hj]⟩) (fun a i a1 a2 i0 i1 => by omega) (fun a i a1 a2 hi => by rw [aSet_c (by omega), aSet_c (by omega)])
  refine ⟨M1, en_309 ?_, x⟩
  simp only [ln0, ln1, ln2, ln3, ln4]
  simp (disch := omega) only [aSet_c]
  exact ⟨by omega, by omega, by omega, by omega, r⟩
def b01 (M : aM) : Prop := ∀ i, 0 ≤ i → i < 160 → M 184 i = 0 ∨ M 184 i = 1
theorem sl_39 {s : Int} (h0 : 0 ≤ s) (h1 : s < 3) : aF (SH L) 39 s.toNat = 40 + 8 * s ∧ aK (SH L) (40 + 8 * s) = 10 ∧ isBd (40 + 8 * s) := by
  have q : s = 0 ∨ s = 1 ∨ s = 2 := by omega
  refine ⟨ar_39 h0 h1, ?_, ?_⟩
  · rcases q with rfl | rfl | rfl <;> rfl
  · unfold isBd; omega
theorem o_hold (h : rP M) (hs : rS M) (hb : b01 M) {s : Int} : ∃ v M1 M2, aE 174 [aR 1, aI s] (SH L) M ([aI v], SH L, M1) ∧ aE 310 [aR 145, aI s] (SH L) M1 ([aI v], SH L, M2) ∧ rP M2 ∧ rS M2 ∧ b01 M2 ∧ ∀ a, (a < 40 ∨ 63 < a) → (a < 179 ∨ 185 < a) → M2 a = M a := by
  by_cases c : 0 ≤ s ∧ s < 3
  · obtain ⟨sf, sk, sb⟩ := sl_39 (L := L) c.1 c.2
    obtain ⟨M1, r1, f1, e0, e8, ej, v1⟩ := s_173 (L := L) (M := M) (b := 40 + 8 * s) (c := 31) sb h.2.1.1 (by omega)
    obtain ⟨K1, hK1⟩ : ∃ K : aM, K = aSet (aSet M1 (40 + 8 * s) 9 1) (40 + 8 * s) 10 (M 1 5) := ⟨_, rfl⟩
    have k1 : ∀ a, a < 40 + 8 * s ∨ 40 + 8 * s + 7 < a → K1 a = M a := fun a ha => by rw [hK1, aSet_c (by omega), aSet_c (by omega)]; exact f1 a ha
    have k1j : ∀ j, j ≠ 9 → j ≠ 10 → K1 (40 + 8 * s) j = M1 (40 + 8 * s) j := fun j j9 j10 => by rw [hK1, aSet_i j10, aSet_i j9]
    have k1r : ∀ a, a ≠ 40 + 8 * s → K1 a = M1 a := fun a ha => by rw [hK1, aSet_c ha, aSet_c ha]
    have c1 : aE 174 [aR 1, aI s] (SH L) M ([aI 1], SH L, K1) := by
      refine en_174 ⟨M, _, s_169, fun _ => ⟨by rw [show aLn (SH L) 5 39 = 3 from rfl]; omega, ?_⟩, fun q => binn c q⟩
      rw [sf]
      refine ⟨sk, M1, r1, by rw [show aLn (SH L) 5 39 = 3 from rfl]; omega, ⟨sk, Or.inr rfl⟩, by rw [show aLn (SH L) 5 39 = 3 from rfl]; omega, sk, ?_⟩
      rw [hK1, aSet_r (show (1 : Int) ≠ 40 + 8 * s by omega), f1 1 (by omega)]
    obtain ⟨M2, r2, g1, g2, g3, g4, g5⟩ := s_309 (L := L) (M := K1) (f := 0) (t := 1 + s) (by omega) (by omega) (by omega) (fun i i0 i1 => by rw [k1 184 (by omega)]; exact hb i i0 i1)
    obtain ⟨K2, hK2⟩ : ∃ K : aM, K = aSet M2 185 (1 + s) (M 145 40) := ⟨_, rfl⟩
    have k2 : ∀ a, a ≠ 185 → K2 a = M2 a := fun a ha => by rw [hK2, aSet_c ha]
    have c2 : aE 310 [aR 145, aI s] (SH L) K1 ([aI 1], SH L, K2) := by
      refine en_310 ⟨fun q => absurd q (by omega), fun _ => ⟨fun _ => ?_, fun q => absurd (by omega) q⟩⟩
      simp only [ln0, ln1, ln2, ln3, ln4]
      rw [aWi (by omega) (by omega)]
      refine ⟨M2, r2, by omega, ?_⟩
      rw [g1 145 (by omega), k1 145 (by omega), hK2]
    have lowc : ∀ a, (a < 40 + 8 * s ∨ 40 + 8 * s + 7 < a) → (a < 179 ∨ 185 < a) → K2 a = M a := fun a a1 a2 => by rw [k2 a (by omega), g1 a (by omega), k1 a a1]
    have q185 : ∀ j, j ≠ 1 + s → K2 185 j = M 185 j := fun j hj => by rw [hK2, aSet_i hj, g1 185 (by omega), k1 185 (by omega)]
    have mrow : ∀ a i, 181 ≤ a → a ≤ 184 → ¬ (40 * (1 + s) ≤ i ∧ i < 40 * (1 + s) + 40) → K2 a i = M a i := fun a i a1 a2 hi => by rw [k2 a (by omega), g5 a i a1 a2 hi, k1 a (by omega)]
    have m179 : ∀ j, j ≠ 1 + s → K2 179 j = M 179 j ∧ K2 180 j = M 180 j := fun j hj => by rw [k2 179 (by omega), k2 180 (by omega), (g3 j hj).1, (g3 j hj).2, k1 179 (by omega), k1 180 (by omega)]; exact ⟨rfl, rfl⟩
    have q1 : K2 1 = M 1 := lowc 1 (by omega) (by omega)
    have tl := tx_le (rP_tx h)
    have P2 : rP K2 := by
      unfold rP
      rw [q1]
      refine ⟨rT_cg h.1 (fun a x1 x2 => lowc a (by omega) (by omega)) (fun a x1 x2 => lowc a (by omega) (by omega)), rB_ci h.2.1 (m179 0 (by omega)).1 (m179 0 (by omega)).2 (fun a i a1 a2 i0 i1 => mrow a _ a1 a2 (by omega)) (fun a x1 x2 => lowc a (by omega) (by omega)) (by rw [lowc 31 (by omega) (by omega)]) (by rw [lowc 31 (by omega) (by omega)]), rF_ci h.2.2 (fun a x1 x2 => lowc a (by omega) (by omega)) (fun a x1 x2 => lowc a (by omega) (by omega)) (by rw [lowc 31 (by omega) (by omega)])⟩
    have slc : ∀ a, 40 + 8 * s ≤ a → a ≤ 40 + 8 * s + 7 → K2 a = K1 a := fun a x1 x2 => by rw [k2 a (by omega), g1 a (by omega)]
    refine ⟨1, K1, K2, c1, c2, P2, ⟨by rw [q1]; exact hs.1, by rw [lowc 145 (by omega) (by omega), q1]; exact hs.2.1, fun r r0 r1 => ?_⟩, fun i i0 i1 => ?_, fun a a1 a2 => lowc a (by omega) a2⟩
    · by_cases e : r = s
      · subst e
        refine Or.inr ⟨?_, ?_, ?_, ?_, fun _ => ?_⟩
        · rw [slc _ (by omega) (by omega), hK1, aSet_i (by omega), aSet_e]
        · rw [slc (40 + 8 * r) (by omega) (by omega), hK1, aSet_e, hK2, show r + 1 = 1 + r by omega, aSet_e]; exact hs.2.1
        · rw [slc _ (by omega) (by omega), hK1, aSet_e, q1]; exact ⟨hs.1.1, by omega⟩
        · have n := h.2.1.1.2.1
          refine rB_cp (M := M) (c := 31) (r := 0) h.2.1 sb ?_ ?_ (fun i i0 i1 => ?_) ?_ ?_ (fun a i a1 a2 i0 i1 => ?_)
          · rw [slc _ (by omega) (by omega), k1j 0 (by omega) (by omega)]; exact e0
          · rw [slc _ (by omega) (by omega), k1j 8 (by omega) (by omega)]; exact e8
          · have := v1 i i0 i1
            unfold thE at this ⊢
            rw [slc _ (by omega) (by omega), slc _ (by omega) (by omega), slc _ (by omega) (by omega), slc _ (by omega) (by omega), slc _ (by omega) (by omega), slc _ (by omega) (by omega), slc _ (by omega) (by omega), k1r _ (by omega), k1r _ (by omega), k1r _ (by omega), k1r _ (by omega), k1r _ (by omega), k1r _ (by omega), k1r _ (by omega)]
            exact this
          · rw [k2 179 (by omega), show r + 1 = 1 + r by omega, g2.1, k1 179 (by omega)]
          · rw [k2 180 (by omega), show r + 1 = 1 + r by omega, g2.2, k1 180 (by omega)]
          · rw [k2 a (by omega), show r + 1 = 1 + r by omega, g4 a i a1 a2 i0 i1, k1 a (by omega)]
        · rw [q1]
          refine rF_cp (M := M) (c := 31) h.2.2 (fun a x1 x2 => lowc a (by omega) (by omega)) ?_ (fun i i0 i1 => ?_)
          · rw [slc _ (by omega) (by omega), k1j 0 (by omega) (by omega)]; exact e0
          · have := v1 i i0 i1
            unfold thE at this ⊢
            rw [slc _ (by omega) (by omega), slc _ (by omega) (by omega), slc _ (by omega) (by omega), slc _ (by omega) (by omega), slc _ (by omega) (by omega), slc _ (by omega) (by omega), slc _ (by omega) (by omega), k1r _ (by omega), k1r _ (by omega), k1r _ (by omega), k1r _ (by omega), k1r _ (by omega), k1r _ (by omega), k1r _ (by omega)]
            exact this
      · have rows : ∀ a, 40 + 8 * r ≤ a → a ≤ 40 + 8 * r + 7 → K2 a = M a := fun a x1 x2 => lowc a (by omega) (by omega)
        have old := hs.2.2 r r0 r1
        unfold rSl at old ⊢
        rw [rows (40 + 8 * r) (by omega) (by omega), q185 (r + 1) (by omega), q1]
        rcases old with a | ⟨a, b, d, e1, e2⟩
        · exact Or.inl a
        · exact Or.inr ⟨a, b, d, rB_ci e1 (m179 (r + 1) (by omega)).1 (m179 (r + 1) (by omega)).2 (fun a i a1 a2 i0 i1 => mrow a _ a1 a2 (by omega)) (fun a x1 x2 => rows a (by omega) (by omega)) (by rw [rows _ (by omega) (by omega)]) (by rw [rows _ (by omega) (by omega)]), fun z => rF_ci (e2 z) (fun a x1 x2 => lowc a (by omega) (by omega)) (fun a x1 x2 => rows a (by omega) (by omega)) (by rw [rows _ (by omega) (by omega)])⟩
    · rw [k2 184 (by omega)]
      by_cases e : 40 * (1 + s) ≤ i ∧ i < 40 * (1 + s) + 40
      · have := g4 184 (i - 40 * (1 + s)) (by omega) (by omega) (by omega) (by omega)
        rw [show 40 * (1 + s) + (i - 40 * (1 + s)) = i by omega] at this
        rw [this, k1 184 (by omega)]
        exact hb _ (by omega) (by omega)
      · rw [g5 184 i (by omega) (by omega) e, k1 184 (by omega)]
        exact hb i i0 i1
  · exact ⟨0, M, M, en_174 ⟨M, _, s_169, fun q => absurd (bin c) q, fun _ => rfl⟩, en_310 ⟨fun _ => rfl, fun q => ⟨fun q2 => absurd ⟨by omega, by omega⟩ c, fun _ => rfl⟩⟩, h, hs, hb, fun _ _ _ => rfl⟩
theorem o_again (h : rP M) (hs : rS M) (hb : b01 M) (hc : (0 ≤ M 1 9 ∧ M 1 9 ≤ 10000) ∧ 0 ≤ M 1 10 ∧ M 1 10 ≤ 10000) {s : Int} : ∃ v M1 M2, aE 175 [aR 1, aI s] (SH L) M ([aI v], SH L, M1) ∧ aE 311 [aR 145, aI s] (SH L) M1 ([aI v], SH L, M2) ∧ rP M2 ∧ rS M2 ∧ b01 M2 ∧ (∀ a, a ≠ 1 → (a < 31 ∨ 38 < a) → (a < 179 ∨ 184 < a) → M2 a = M a) ∧ (∀ j, j ≠ 9 → j ≠ 10 → M2 1 j = M 1 j) ∧
    (M2 = M ∨ M2 1 9 = M 1 9 + 1 ∧ M2 1 10 = M 1 10 + 1) := by
  have tl := tx_le (rP_tx h)
  by_cases c : 0 ≤ s ∧ s < 3
  · obtain ⟨sf, sk, sb⟩ := sl_39 (L := L) c.1 c.2
    have l39 : aLn (SH L) 5 39 = 3 := rfl
    have no : ¬ (M (40 + 8 * s) 9 = 1 ∧ M (40 + 8 * s) 10 = M 1 5) → ∃ v M1 M2, aE 175 [aR 1, aI s] (SH L) M ([aI v], SH L, M1) ∧ aE 311 [aR 145, aI s] (SH L) M1 ([aI v], SH L, M2) ∧ rP M2 ∧ rS M2 ∧ b01 M2 ∧ (∀ a, a ≠ 1 → (a < 31 ∨ 38 < a) → (a < 179 ∨ 184 < a) → M2 a = M a) ∧ (∀ j, j ≠ 9 → j ≠ 10 → M2 1 j = M 1 j) ∧
        (M2 = M ∨ M2 1 9 = M 1 9 + 1 ∧ M2 1 10 = M 1 10 + 1) := by
      intro hn
      have sl := hs.2.2 s c.1 c.2
      refine ⟨0, M, M, en_175 ⟨M, _, s_169, fun _ => rfl, fun _ => ⟨by omega, ?_⟩⟩, en_311 ⟨fun q => absurd q (by omega), fun _ => ⟨fun q => absurd q (by omega), fun _ => ?_⟩⟩, h, hs, hb, fun _ _ _ _ => rfl, fun _ _ _ => rfl, Or.inl rfl⟩
      · rw [sf]
        refine ⟨sk, fun _ => rfl, fun q => ⟨by omega, sk, fun q2 => ?_, fun _ => rfl⟩⟩
        rcases sl with ⟨a, -⟩ | ⟨a, -⟩
        · exact absurd a q
        · exact absurd ⟨a, q2⟩ hn
      · simp only [ln0, ln1, ln2, ln3, ln4]
        rw [aWi (by omega) (by omega)]
        refine ⟨by omega, fun q => ?_, fun _ => trivial⟩
        have e := hs.2.1
        have e5 := hs.1
        rcases sl with ⟨-, b⟩ | ⟨a, b, -⟩
        · rw [show s + 1 = 1 + s by omega] at b; omega
        · rw [show s + 1 = 1 + s by omega] at b
          exact absurd ⟨a, by omega⟩ hn
    by_cases d : M (40 + 8 * s) 9 = 1 ∧ M (40 + 8 * s) 10 = M 1 5
    · rcases hs.2.2 s c.1 c.2 with ⟨a, -⟩ | ⟨a, b, w, eB, eF⟩
      · omega
      · have eF' := eF d.2
        obtain ⟨M1, r1, f1, e0, e8, ej, v1⟩ := s_173 (L := L) (M := M) (b := 31) (c := 40 + 8 * s) bd31 eB.1 (by omega)
        obtain ⟨K1, hK1⟩ : ∃ K : aM, K = aSet (aSet M1 1 9 (M 1 9 + 1)) 1 10 (M 1 10 + 1) := ⟨_, rfl⟩
        have k1 : ∀ a, a ≠ 1 → (a < 31 ∨ 38 < a) → K1 a = M a := fun a a1 a2 => by rw [hK1, aSet_c a1, aSet_c a1]; exact f1 a (by omega)
        have k1r : ∀ a, a ≠ 1 → K1 a = M1 a := fun a ha => by rw [hK1, aSet_c ha, aSet_c ha]
        have k1o : ∀ j, j ≠ 9 → j ≠ 10 → K1 1 j = M 1 j := fun j j9 j10 => by rw [hK1, aSet_i j10, aSet_i j9, f1 1 (by omega)]
        have c1 : aE 175 [aR 1, aI s] (SH L) M ([aI 1], SH L, K1) := by
          refine en_175 ⟨M, _, s_169, fun q => absurd (bip c) (by rw [q]; decide), fun _ => ⟨by omega, ?_⟩⟩
          rw [sf]
          refine ⟨sk, fun q => absurd q (by omega), fun _ => ⟨by omega, sk, fun _ => ⟨by omega, M1, r1, _, s_51, ?_⟩, fun q => absurd d.2 q⟩⟩
          rw [f1 1 (by omega), aWi (z := M 1 9 + 1) (by omega) (by omega), aWi (z := M 1 10 + 1) (by omega) (by omega), hK1]
        obtain ⟨M2, r2, g1, g2, g3, g4, g5⟩ := s_309 (L := L) (M := K1) (f := 1 + s) (t := 0) (by omega) (by omega) (by omega) (fun i i0 i1 => by rw [k1 184 (by omega) (by omega)]; exact hb i i0 i1)
        have c2 : aE 311 [aR 145, aI s] (SH L) K1 ([aI 1], SH L, M2) := by
          refine en_311 ⟨fun q => absurd q (by omega), fun _ => ⟨fun q => absurd q (by omega), fun _ => ?_⟩⟩
          simp only [ln0, ln1, ln2, ln3, ln4]
          rw [aWi (by omega) (by omega)]
          refine ⟨by omega, fun _ => ⟨M2, r2, rfl⟩, fun q => absurd ?_ q⟩
          rw [k1 185 (by omega) (by omega), k1 145 (by omega) (by omega), hs.2.1, show 1 + s = s + 1 by omega, b, d.2]
        have lowc : ∀ a, a ≠ 1 → (a < 31 ∨ 38 < a) → (a < 179 ∨ 184 < a) → M2 a = M a := fun a a1 a2 a3 => by rw [g1 a a3, k1 a a1 a2]
        have q1 : M2 1 = K1 1 := g1 1 (by omega)
        have q13 : M2 1 3 = M 1 3 := by rw [q1]; exact k1o 3 (by omega) (by omega)
        have q15 : M2 1 5 = M 1 5 := by rw [q1]; exact k1o 5 (by omega) (by omega)
        have q31 : ∀ a, 31 ≤ a → a ≤ 38 → M2 a = M1 a := fun a x1 x2 => by rw [g1 a (by omega), k1r a (by omega)]
        have hv : ∀ i, 0 ≤ i → i < M (40 + 8 * s) 0 → thE M2 31 i M (40 + 8 * s) i := fun i i0 i1 => by
          have := v1 i i0 i1
          unfold thE at this ⊢
          rw [q31 _ (by omega) (by omega), q31 _ (by omega) (by omega), q31 _ (by omega) (by omega), q31 _ (by omega) (by omega), q31 _ (by omega) (by omega), q31 _ (by omega) (by omega), q31 _ (by omega) (by omega)]
          exact this
        have z0 : M2 31 0 = M (40 + 8 * s) 0 := by rw [q31 31 (by omega) (by omega)]; exact e0
        have z8 : M2 31 8 = M (40 + 8 * s) 8 := by rw [q31 31 (by omega) (by omega)]; exact e8
        have m179 : ∀ j, j ≠ 0 → M2 179 j = M 179 j ∧ M2 180 j = M 180 j := fun j hj => by rw [(g3 j hj).1, (g3 j hj).2, k1 179 (by omega) (by omega), k1 180 (by omega) (by omega)]; exact ⟨rfl, rfl⟩
        have mrow : ∀ a i, 181 ≤ a → a ≤ 184 → 40 ≤ i → M2 a i = M a i := fun a i a1 a2 hi => by rw [g5 a i a1 a2 (by omega), k1 a (by omega) (by omega)]
        refine ⟨1, K1, M2, c1, c2, ⟨?_, ?_, ?_⟩, ⟨by rw [q15]; exact hs.1, by rw [lowc 145 (by omega) (by omega) (by omega), q15]; exact hs.2.1, fun r r0 r1 => ?_⟩, fun i i0 i1 => ?_, lowc, fun j j9 j10 => by rw [q1]; exact k1o j j9 j10, Or.inr ⟨by rw [q1, hK1, aSet_i (by omega), aSet_e], by rw [q1, hK1, aSet_e]⟩⟩
        · rw [q13]
          exact rT_cg h.1 (fun a x1 x2 => lowc a (by omega) (by omega) (by omega)) (fun a x1 x2 => lowc a (by omega) (by omega) (by omega))
        · refine rB_cp (M := M) (c := 40 + 8 * s) (r := s + 1) eB bd31 z0 z8 hv ?_ ?_ (fun a i a1 a2 i0 i1 => ?_)
          · rw [g2.1, k1 179 (by omega) (by omega), show 1 + s = s + 1 by omega]
          · rw [g2.2, k1 180 (by omega) (by omega), show 1 + s = s + 1 by omega]
          · rw [g4 a i a1 a2 i0 i1, k1 a (by omega) (by omega), show 1 + s = s + 1 by omega]
        · rw [q13]
          exact rF_cp (M := M) (c := 40 + 8 * s) eF' (fun a x1 x2 => lowc a (by omega) (by omega) (by omega)) z0 hv
        · have rows : ∀ a, 40 + 8 * r ≤ a → a ≤ 40 + 8 * r + 7 → M2 a = M a := fun a x1 x2 => lowc a (by omega) (by omega) (by omega)
          have old := hs.2.2 r r0 r1
          unfold rSl at old ⊢
          rw [rows (40 + 8 * r) (by omega) (by omega), lowc 185 (by omega) (by omega) (by omega), q15, q13]
          rcases old with a | ⟨a, b, d, e1, e2⟩
          · exact Or.inl a
          · exact Or.inr ⟨a, b, d, rB_ci e1 (m179 (r + 1) (by omega)).1 (m179 (r + 1) (by omega)).2 (fun a i a1 a2 i0 i1 => mrow a _ a1 a2 (by omega)) (fun a x1 x2 => rows a (by omega) (by omega)) (by rw [rows _ (by omega) (by omega)]) (by rw [rows _ (by omega) (by omega)]), fun z => rF_ci (e2 z) (fun a x1 x2 => lowc a (by omega) (by omega) (by omega)) (fun a x1 x2 => rows a (by omega) (by omega)) (by rw [rows _ (by omega) (by omega)])⟩
        · by_cases e : i < 40
          · have := g4 184 i (by omega) (by omega) i0 e
            rw [show 40 * 0 + i = i by omega] at this
            rw [this, k1 184 (by omega) (by omega)]
            exact hb _ (by omega) (by omega)
          · rw [mrow 184 i (by omega) (by omega) (by omega)]
            exact hb i i0 i1
    · exact no d
  · exact ⟨0, M, M, en_175 ⟨M, _, s_169, fun _ => rfl, fun q => absurd (bin c) q⟩, en_311 ⟨fun _ => rfl, fun q => ⟨fun _ => rfl, fun q2 => absurd ⟨by omega, by omega⟩ c⟩⟩, h, hs, hb, fun _ _ _ _ => rfl, fun _ _ _ => rfl, Or.inl rfl⟩
end HOLD
