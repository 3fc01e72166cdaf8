/-! lay: both -/
section LAY2
variable {L : Nat} {M M1 M2 : aM}
theorem rP_mq (h : rP M) : mq M := by
  have n := rP_n h
  have f := h.1.2.1
  have t := h.1.1.2.2.2.2
  refine ⟨by omega, by omega, fun k k0 k1 => ?_, fun i i0 i1 => ?_⟩
  · have a := t.2 k k0 (by omega)
    obtain ⟨-, b, c, d⟩ := h.1.2.2.1 k k0 (by omega)
    rw [b, c, d]
    exact a.2
  · have a := rP_i h i0 (by omega)
    obtain ⟨b1, b2, b3, b4, b5, -⟩ := rP_m h i0 (by omega)
    rw [b1, b2, b3]
    omega
theorem rP_wh (h : rP M) {i : Int} (h1 : 0 ≤ i) (h2 : i < M 31 0) : mWd M i = M 36 i ∧ mHg M i = M 37 i := by
  obtain ⟨-, -, -, -, -, b6, b7, -⟩ := rP_m h h1 h2
  exact ⟨b6, b7⟩
theorem rP_tx3 (h : rP M) {k : Int} (k0 : 0 ≤ k) (k1 : k < M 153 0) : M 154 k = M (M 1 3 + 2) k ∧ M 155 k = M (M 1 3 + 3) k ∧ M 156 k = M (M 1 3 + 4) k ∧ M 157 k = M (M 1 3 + 5) k := h.1.2.2.1 k k0 (by have := h.1.2.1; omega)
theorem rP_cnt (h : rP M) {k : Int} : sumI (fun j => bi (decide (M 181 j = k))) 0 (M 179 0) = cntK M 31 k := by
  have n := rP_n h
  rw [n.2.2]
  exact sumI_congr 0 (fun j j0 j1 => by rw [(rP_m h j0 j1).1]; rfl)
theorem rP_cov (h : rP M) {x y w hh : Int} : anyI (mCov M x y w hh) 0 (M 179 0) = anyI (pCov M 31 x y w hh) 0 (M 31 0) := by
  have n := rP_n h
  rw [n.2.2]
  refine anyI_congr 0 (fun j j0 j1 => ?_)
  obtain ⟨-, b2, b3, -⟩ := rP_m h j0 j1
  unfold mCov pCov
  rw [b2, b3, (rP_wh h j0 j1).1, (rP_wh h j0 j1).2]
  rfl
def cLd (M : aM) (k x y tb : Int) : aM := aSet (aSet (bAdd M 31 k (M (M 1 3 + 2) k) x y (tW M k tb) (tH M k tb) tb) 1 9 (M 1 9 + 1)) 1 10 (M 1 10 + 1)
theorem s_62 (h : rP M) (hc : (0 ≤ M 1 9 ∧ M 1 9 ≤ 10000) ∧ 0 ≤ M 1 10 ∧ M 1 10 ≤ 10000) {k x y tb : Int} (ht : tb = 0 ∨ tb = 1) : aE 62 [aR 1, aI k, aI x, aI y, aI tb] (SH L) M ([aI (mlV M k x y tb)], SH L, if 0 ≤ mlV M k x y tb then cLd M k x y tb else M) := by
  have n := rP_n h
  have f := h.1.2.1
  have tx0 := rP_tx h
  have tl := tx_le tx0
  by_cases c : (0 ≤ k ∧ k < M 153 0) ∧ (0 ≤ x ∧ x ≤ 59) ∧ (0 ≤ y ∧ y ≤ 59) ∧ ¬ M 179 0 = 40
  · obtain ⟨c1, c2, c3, c4⟩ := c
    have hk := (rP_mq h).2.2.1 k c1.1 c1.2
    have k14 : k < 14 := by have := h.1.1.2.2.2.2.1; omega
    obtain ⟨e2, e3, e4, e5⟩ := rP_tx3 h c1.1 c1.2
    have hw : 1 ≤ tW M k tb ∧ tW M k tb ≤ 60 := by unfold tW; split <;> omega
    have hh : 1 ≤ tH M k tb ∧ tH M k tb ≤ 60 := by unfold tH; split <;> omega
    have mv : mlV M k x y tb = if M 151 0 < x + tW M k tb ∨ M 152 0 < y + tH M k tb then -2 else if anyI (pCov M 31 x y (tW M k tb) (tH M k tb)) 0 (M 31 0) = true then -3 else if M 157 k - cntK M 31 k = 0 then -4 else M 31 0 := by
      unfold mlV
      rw [if_neg (fun q => q ⟨c1, c2, c3, c4⟩), rP_cov h, rP_cnt h, n.2.2]
    have k93 : ∀ o, (M 151 0 < x + tW M k tb ∨ M 152 0 < y + tH M k tb → o = ([aI (-2)], SH L, M)) → (¬ (M 151 0 < x + tW M k tb ∨ M 152 0 < y + tH M k tb) → anyI (pCov M 31 x y (tW M k tb) (tH M k tb)) 0 (M 31 0) = true → o = ([aI (-3)], SH L, M)) →
        (¬ (M 151 0 < x + tW M k tb ∨ M 152 0 < y + tH M k tb) → anyI (pCov M 31 x y (tW M k tb) (tH M k tb)) 0 (M 31 0) = false → ¬ 0 < M 157 k - cntK M 31 k → o = ([aI (-4)], SH L, M)) →
        (¬ (M 151 0 < x + tW M k tb ∨ M 152 0 < y + tH M k tb) → anyI (pCov M 31 x y (tW M k tb) (tH M k tb)) 0 (M 31 0) = false → 0 < M 157 k - cntK M 31 k → o = ([aI (M 31 0)], SH L, cLd M k x y tb)) →
        aX xc_62 (aSeek xc_62 93) [aR 1, aI k, aI x, aI y, aI tb, aI (tW M k tb), aU] [aI (tH M k tb)] (SH L) M o := by
      intro o o2 o3 o4 o5
      refine bl_62_93 ⟨(tx tx0).1, fun q => ?_, fun q => ⟨(tx tx0).1, fun q1 => ?_, fun q1 => ?_⟩⟩
      · rw [aWi (by omega) (by omega)] at q
        exact o2 (Or.inl (by omega))
      · rw [aWi (by omega) (by omega)] at q q1
        have nf : ¬ (M 151 0 < x + tW M k tb ∨ M 152 0 < y + tH M k tb) := by omega
        refine ⟨M, _, s_58 h.2.1.1 (by omega) (by omega) (by omega) (by omega), fun q2 => ⟨M, _, s_60 h.2.1.1 h.1.1, ?_⟩, fun q2 => o3 nf (by rw [bi_0, Bool.not_eq_false] at q2; exact q2)⟩
        rw [bi_0] at q2
        rw [if_pos (show 0 ≤ k ∧ k < M (M 1 3) 3 by omega), ← e5]
        refine ⟨fun q3 => ?_, fun q3 => o4 nf q2 q3⟩
        simp only [tx tx0]
        have e61 := s_61 (L := L) (M := M) (b := 31) (k := k) (so := M (M 1 3 + 2) k) (x := x) (y := y) (w := tW M k tb) (h := tH M k tb) (t := tb) bd31 (by omega) ht
        refine ⟨trivial, by omega, _, e61, _, s_51, ?_⟩
        have b9 : bAdd M 31 k (M (M 1 3 + 2) k) x y (tW M k tb) (tH M k tb) tb 1 = M 1 := bAdd_c (by omega)
        rw [b9, aWi (z := M 1 9 + 1) (by omega) (by omega), aWi (z := M 1 10 + 1) (by omega) (by omega), o5 nf q2 q3]
        rw [aSet_r (show (31 : Int) ≠ 1 by omega), aSet_r (show (31 : Int) ≠ 1 by omega), bAdd_0, aWi (by omega) (by omega), show M 31 0 + 1 - 1 = M 31 0 by omega]
        rfl
      · rw [aWi (by omega) (by omega)] at q q1
        exact o2 (Or.inr (by omega))
    have fin : ∀ o, (o = ([aI (mlV M k x y tb)], SH L, if 0 ≤ mlV M k x y tb then cLd M k x y tb else M)) → aX xc_62 (aSeek xc_62 93) [aR 1, aI k, aI x, aI y, aI tb, aI (tW M k tb), aU] [aI (tH M k tb)] (SH L) M o := by
      intro o ho
      subst ho
      have cn : cntK M 31 k ≤ M 157 k := by
        rw [e5]; exact h.2.2.2 k c1.1 (by omega)
      refine k93 _ (fun d => ?_) (fun d d2 => ?_) (fun d d2 d3 => ?_) (fun d d2 d3 => ?_)
      · have e : mlV M k x y tb = -2 := by rw [mv, if_pos d]
        rw [e]; rfl
      · have e : mlV M k x y tb = -3 := by rw [mv, if_neg d, if_pos d2]
        rw [e]; rfl
      · have e : mlV M k x y tb = -4 := by rw [mv, if_neg d, d2, if_neg (by decide), if_pos (by omega)]
        rw [e]; rfl
      · have e : mlV M k x y tb = M 31 0 := by rw [mv, if_neg d, d2, if_neg (by decide), if_neg (by omega)]
        rw [e, if_pos n.1]
    have k65 : ∀ b : Int, b = tW M k tb → aX xc_62 (aSeek xc_62 65) [aR 1, aI k, aI x, aI y, aI tb, aU, aU] [aI b] (SH L) M ([aI (mlV M k x y tb)], SH L, if 0 ≤ mlV M k x y tb then cLd M k x y tb else M) := by
      intro b hb
      subst hb
      have g := fin _ rfl
      apply bl_62_65
      simp only [tx tx0]
      refine ⟨fun q => ⟨trivial, by omega, ?_⟩, fun q => ⟨trivial, by omega, ?_⟩⟩
      · rw [show M (M 1 3 + 4) k = tH M k tb by unfold tH; rw [if_pos q, e4]]; exact g
      · rw [show M (M 1 3 + 3) k = tH M k tb by unfold tH; rw [if_neg q, e3]]; exact g
    refine en_62 ⟨(tx tx0).1, M, _, s_55 tx0, fun q => absurd (show 0 ≤ k ∧ k < M (M 1 3) 3 by omega) (bid0.mp q), fun _ => ⟨M, _, s_57, fun q => absurd (show 0 ≤ x ∧ x < 60 by omega) (bid0.mp q), fun _ => ⟨M, _, s_57, fun q => absurd (show 0 ≤ y ∧ y < 60 by omega) (bid0.mp q), fun _ => ⟨fun _ => ?_, fun q => absurd (by omega) q⟩⟩⟩⟩
    simp only [tx tx0]
    refine ⟨fun q => ⟨trivial, by omega, k65 _ ?_⟩, fun q => ⟨trivial, by omega, k65 _ ?_⟩⟩
    · unfold tW; rw [if_pos q, e3]
    · unfold tW; rw [if_neg q, e4]
  · have ev : mlV M k x y tb = -1 := if_pos c
    rw [ev]
    refine en_62 ⟨(tx tx0).1, M, _, s_55 tx0, fun q => rfl, fun q1 => ⟨M, _, s_57, fun q => rfl, fun q2 => ⟨M, _, s_57, fun q => rfl, fun q3 => ⟨fun q4 => ?_, fun q => rfl⟩⟩⟩⟩
    rw [bid0, Classical.not_not] at q1 q2 q3
    exact absurd ⟨by omega, by omega, by omega, by omega⟩ c
/-- what a call may change that changes what lies -/
def chg (M M2 : aM) : Prop := (∀ a, a ≠ 1 → (a < 31 ∨ 38 < a) → (a < 179 ∨ 184 < a) → M2 a = M a) ∧ (∀ j, j ≠ 9 → j ≠ 10 → M2 1 j = M 1 j) ∧ (∀ a b, a = 179 ∨ a = 180 → b ≠ 0 → M2 a b = M a b) ∧ (∀ a b, 181 ≤ a → a ≤ 184 → 40 ≤ b → M2 a b = M a b) ∧ (∀ i, 0 ≤ i → M 184 i = 0 ∨ M 184 i = 1 → M2 184 i = 0 ∨ M2 184 i = 1) ∧
  (M2 1 9 = M 1 9 ∧ M2 1 10 = M 1 10 ∧ (∀ a, 31 ≤ a → a ≤ 38 → M2 a = M a) ∨ M2 1 9 = M 1 9 + 1 ∧ M2 1 10 = M 1 10 + 1)
theorem o_lay (h : rP M) (hc : (0 ≤ M 1 9 ∧ M 1 9 ≤ 10000) ∧ 0 ≤ M 1 10 ∧ M 1 10 ≤ 10000) {k x y tb : Int} (ht : tb = 0 ∨ tb = 1) : ∃ v M1 M2, aE 62 [aR 1, aI k, aI x, aI y, aI tb] (SH L) M ([aI v], SH L, M1) ∧ aE 227 [aR 145, aI k, aI x, aI y, aI tb] (SH L) M1 ([aI v], SH L, M2) ∧ rP M2 ∧ chg M M2 := by
  have n := rP_n h
  have f := h.1.2.1
  have tl := tx_le (rP_tx h)
  have r1 := s_62 (L := L) h hc (k := k) (x := x) (y := y) ht
  by_cases c : 0 ≤ mlV M k x y tb
  · rw [if_pos c] at r1
    have cM : ∀ a, a ≠ 1 → (a < 31 ∨ 38 < a) → cLd M k x y tb a = M a := fun a a1 a2 => by
      unfold cLd
      rw [aSet_c a1, aSet_c a1, bAdd_c (by omega)]
    have mq1 : mq (cLd M k x y tb) := by
      have := rP_mq h
      unfold mq at this ⊢
      rw [cM 179 (by omega) (by omega), cM 153 (by omega) (by omega), cM 155 (by omega) (by omega), cM 156 (by omega) (by omega), cM 157 (by omega) (by omega), cM 181 (by omega) (by omega), cM 182 (by omega) (by omega), cM 183 (by omega) (by omega)]
      exact this
    have v1 : mlV (cLd M k x y tb) k x y tb = mlV M k x y tb := by
      unfold mlV mCov tW tH mWd mHg
      rw [cM 179 (by omega) (by omega), cM 151 (by omega) (by omega), cM 152 (by omega) (by omega), cM 153 (by omega) (by omega), cM 155 (by omega) (by omega), cM 156 (by omega) (by omega), cM 157 (by omega) (by omega), cM 181 (by omega) (by omega), cM 182 (by omega) (by omega), cM 183 (by omega) (by omega), cM 184 (by omega) (by omega)]
    obtain ⟨M2, r2, p⟩ := s_227 (L := L) mq1 (k := k) (x := x) (y := y) ht
    rw [v1] at r2 p
    rcases p with ⟨p, -⟩ | ⟨p, -⟩ | ⟨p, e2, n40, ⟨d1, d2, d3⟩, d4, d5, d6, d7⟩
    · omega
    · omega
    · have wE : ∀ z, tW (cLd M k x y tb) z tb = tW M z tb := fun z => by unfold tW; rw [cM 155 (by omega) (by omega), cM 156 (by omega) (by omega)]
      have hE : ∀ z, tH (cLd M k x y tb) z tb = tH M z tb := fun z => by unfold tH; rw [cM 155 (by omega) (by omega), cM 156 (by omega) (by omega)]
      rw [wE, cM 151 (by omega) (by omega)] at d4
      rw [hE, cM 152 (by omega) (by omega)] at d5
      rw [cM 153 (by omega) (by omega)] at d1
      rw [cM 179 (by omega) (by omega)] at n40 e2
      have q157 : cLd M k x y tb 157 = M 157 := cM 157 (by omega) (by omega)
      have q181 : cLd M k x y tb 181 = M 181 := cM 181 (by omega) (by omega)
      have q179 : cLd M k x y tb 179 = M 179 := cM 179 (by omega) (by omega)
      rw [q157, q181, q179, rP_cnt h] at d7
      have d6' : anyI (pCov M 31 x y (tW M k tb) (tH M k tb)) 0 (M 31 0) = false := by
        rw [← rP_cov h, ← d6, wE, hE, q179]
        unfold mCov mWd mHg
        rw [cM 155 (by omega) (by omega), cM 156 (by omega) (by omega), q181, cM 182 (by omega) (by omega), cM 183 (by omega) (by omega), cM 184 (by omega) (by omega)]
      obtain ⟨e2t, e3t, e4t, e5t⟩ := rP_tx3 h d1.1 d1.2
      have hk := (rP_mq h).2.2.1 k d1.1 d1.2
      have tso := (h.1.1.2.2.2.2.2 k d1.1 (by omega)).1
      have hw : 1 ≤ tW M k tb ∧ tW M k tb ≤ 60 := by unfold tW; split <;> omega
      have hh : 1 ≤ tH M k tb ∧ tH M k tb ≤ 60 := by unfold tH; split <;> omega
      have cn : cntK M 31 k ≤ M 157 k := by rw [e5t]; exact h.2.2.2 k d1.1 (by omega)
      -- M2's rows
      have o2 : ∀ a, a ≠ 1 → (a < 31 ∨ 38 < a) → (a < 179 ∨ 184 < a) → M2 a = M a := fun a x1 x2 x3 => by
        rw [e2]
        unfold mLd
        simp (disch := omega) only [aSet_c]
        exact cM a x1 x2
      have o31 : ∀ a, 31 ≤ a → a ≤ 38 → M2 a = bAdd M 31 k (M (M 1 3 + 2) k) x y (tW M k tb) (tH M k tb) tb a := fun a x1 x2 => by
        rw [e2]
        unfold mLd cLd
        simp (disch := omega) only [aSet_c]
      have o1 : ∀ j, j ≠ 9 → j ≠ 10 → M2 1 j = M 1 j := fun j j9 j10 => by
        rw [e2]
        unfold mLd cLd
        simp (disch := omega) only [aSet_c]
        rw [aSet_i j10, aSet_i j9, bAdd_c (by omega)]
      have o9 : M2 1 9 = M 1 9 + 1 := by
        rw [e2]
        unfold mLd cLd
        simp (disch := omega) only [aSet_c]
        rw [aSet_i (by omega), aSet_e]
      have o10 : M2 1 10 = M 1 10 + 1 := by
        rw [e2]
        unfold mLd cLd
        simp (disch := omega) only [aSet_c]
        rw [aSet_e]
      have o179 : M2 179 0 = M 31 0 + 1 := by rw [e2, aSet_e, n.2.2]
      have o179b : ∀ b, b ≠ 0 → M2 179 b = M 179 b := fun b hb => by
        rw [e2, aSet_i hb]
        unfold mLd
        simp (disch := omega) only [aSet_c]
        rw [q179]
      have o180 : M2 180 = M 180 := by
        rw [e2]
        unfold mLd
        simp (disch := omega) only [aSet_c]
        exact cM 180 (by omega) (by omega)
      have om : ∀ i, M2 181 i = (if i = M 31 0 then k else M 181 i) ∧ M2 182 i = (if i = M 31 0 then x else M 182 i) ∧ M2 183 i = (if i = M 31 0 then y else M 183 i) ∧ M2 184 i = (if i = M 31 0 then tb else M 184 i) := fun i => by
        rw [e2]
        unfold mLd
        simp (disch := omega) only [aSet_c, aSet_q]
        rw [q179, q181, cM 182 (by omega) (by omega), cM 183 (by omega) (by omega), cM 184 (by omega) (by omega), n.2.2]
        exact ⟨rfl, rfl, rfl, rfl⟩
      have cb : ∀ i, M2 32 i = (if i = M 31 0 then k else M 32 i) ∧ M2 33 i = (if i = M 31 0 then M (M 1 3 + 2) k else M 33 i) ∧ M2 34 i = (if i = M 31 0 then x else M 34 i) ∧ M2 35 i = (if i = M 31 0 then y else M 35 i) ∧
          M2 36 i = (if i = M 31 0 then tW M k tb else M 36 i) ∧ M2 37 i = (if i = M 31 0 then tH M k tb else M 37 i) ∧ M2 38 i = (if i = M 31 0 then tb else M 38 i) := fun i => by
        rw [o31 32 (by omega) (by omega), o31 33 (by omega) (by omega), o31 34 (by omega) (by omega), o31 35 (by omega) (by omega), o31 36 (by omega) (by omega), o31 37 (by omega) (by omega), o31 38 (by omega) (by omega)]
        exact bAdd_r (M := M) (b := 31) (i := i)
      have b0 : M2 31 0 = M 31 0 + 1 := by rw [o31 31 (by omega) (by omega)]; exact bAdd_0
      have b8 : M2 31 8 = M 31 8 := by rw [o31 31 (by omega) (by omega)]; exact bAdd_j (by omega)
      have t3 : M2 1 3 = M 1 3 := o1 3 (by omega) (by omega)
      have lap : ∀ j, 0 ≤ j → j < M 31 0 → x + tW M k tb ≤ M 34 j ∨ M 34 j + M 36 j ≤ x ∨ y + tH M k tb ≤ M 35 j ∨ M 35 j + M 37 j ≤ y := by
        intro j j0 j1
        have nc : ¬ pCov M 31 x y (tW M k tb) (tH M k tb) j = true := by
          intro q
          have : anyI (pCov M 31 x y (tW M k tb) (tH M k tb)) 0 (M 31 0) = true := anyI_iff 0 |>.mpr ⟨j, j0, j1, q⟩
          rw [d6'] at this; cases this
        unfold pCov at nc
        rw [decide_eq_true_eq] at nc
        have nc' : ¬ (x < M 34 j + M 36 j ∧ M 34 j < x + tW M k tb ∧ y < M 35 j + M 37 j ∧ M 35 j < y + tH M k tb) := nc
        omega
      have cnt2 : ∀ z, cntK M2 31 z = cntK M 31 z + (if z = k then 1 else 0) := by
        intro z
        unfold cntK
        rw [b0, sumI_snoc 0 n.1]
        have e1 : sumI (fun j => bi (decide (M2 (31 + 1) j = z))) 0 (M 31 0) = sumI (fun j => bi (decide (M (31 + 1) j = z))) 0 (M 31 0) := sumI_congr 0 (fun j j0 j1 => by
          have := (cb j).1
          rw [if_neg (by omega)] at this
          show bi (decide (M2 32 j = z)) = bi (decide (M 32 j = z))
          rw [this])
        rw [e1]
        have e2 : M2 32 (M 31 0) = k := by rw [(cb (M 31 0)).1, if_pos rfl]
        show _ + bi (decide (M2 32 (M 31 0) = z)) = _
        rw [e2]
        by_cases q : z = k
        · rw [if_pos q, bip q.symm]
        · rw [if_neg q, bin (fun w => q w.symm)]
      refine ⟨_, _, M2, r1, r2, ⟨?_, ⟨⟨bd31, ⟨by omega, by omega⟩, fun i i0 i1 => ?_⟩, by rw [o179, b0], ⟨by rw [b8]; exact h.2.1.2.2.1.1, by rw [b8]; exact h.2.1.2.2.1.2.1, by rw [o180, b8]; exact rP_tg h⟩, fun i i0 i1 => ?_, fun i j i0 i1 j0 j1 ij => ?_⟩, fun i i0 i1 => ?_, fun z z0 z1 => ?_⟩, o2, o1, fun a b ha hb => ?_, fun a b a1 a2 hb => ?_, fun i i0 hi => ?_, Or.inr ⟨o9, o10⟩⟩
      · rw [t3]
        exact rT_cg h.1 (fun a x1 x2 => o2 a (by omega) (by omega) (by omega)) (fun a x1 x2 => o2 a (by omega) (by omega) (by omega))
      · obtain ⟨w1, w2, w3, w4, w5, w6, w7⟩ := cb i
        show (0 ≤ M2 32 i ∧ M2 32 i < 14) ∧ (0 ≤ M2 33 i ∧ M2 33 i ≤ 3) ∧ (0 ≤ M2 34 i ∧ 1 ≤ M2 36 i ∧ M2 34 i + M2 36 i ≤ 60) ∧ (0 ≤ M2 35 i ∧ 1 ≤ M2 37 i ∧ M2 35 i + M2 37 i ≤ 60) ∧ (M2 38 i = 0 ∨ M2 38 i = 1)
        rw [w1, w2, w3, w4, w5, w6, w7]
        have fl := fr_le h
        have t4 := h.1.1.2.2.2.2.1
        by_cases q : i = M 31 0
        · simp only [if_pos q]
          omega
        · simp only [if_neg q]
          exact rP_i h i0 (by omega)
      · obtain ⟨w1, w2, w3, w4, w5, w6, w7⟩ := cb i
        obtain ⟨m1, m2, m3, m4⟩ := om i
        rw [show (40 : Int) * 0 + i = i by omega]
        show M2 181 i = M2 32 i ∧ M2 182 i = M2 34 i ∧ M2 183 i = M2 35 i ∧ M2 184 i = M2 38 i
        rw [w1, w3, w4, w7, m1, m2, m3, m4]
        by_cases q : i = M 31 0
        · simp only [if_pos q]
          exact ⟨trivial, trivial, trivial, trivial⟩
        · simp only [if_neg q]
          obtain ⟨a1, a2, a3, a4, -⟩ := rP_m h i0 (by omega)
          exact ⟨a1, a2, a3, a4⟩
      · obtain ⟨-, -, w3, w4, w5, w6, -⟩ := cb i
        obtain ⟨-, -, u3, u4, u5, u6, -⟩ := cb j
        show M2 34 i + M2 36 i ≤ M2 34 j ∨ M2 34 j + M2 36 j ≤ M2 34 i ∨ M2 35 i + M2 37 i ≤ M2 35 j ∨ M2 35 j + M2 37 j ≤ M2 35 i
        rw [w3, w4, w5, w6, u3, u4, u5, u6]
        by_cases q : i = M 31 0
        · by_cases q2 : j = M 31 0
          · omega
          · simp only [if_pos q, if_neg q2]
            have := lap j j0 (by omega)
            omega
        · by_cases q2 : j = M 31 0
          · simp only [if_neg q, if_pos q2]
            have := lap i i0 (by omega)
            omega
          · simp only [if_neg q, if_neg q2]
            exact rP_l h i0 (by omega) j0 (by omega) ij
      · obtain ⟨w1, w2, w3, w4, w5, w6, w7⟩ := cb i
        rw [t3, o2 (M 1 3) (by omega) (by omega) (by omega), o2 (M 1 3 + 2) (by omega) (by omega) (by omega), o2 (M 1 3 + 3) (by omega) (by omega) (by omega), o2 (M 1 3 + 4) (by omega) (by omega) (by omega)]
        show M2 32 i < M (M 1 3) 3 ∧ M2 33 i = M (M 1 3 + 2) (M2 32 i) ∧ (M2 38 i = 0 → M2 36 i = M (M 1 3 + 3) (M2 32 i) ∧ M2 37 i = M (M 1 3 + 4) (M2 32 i)) ∧ (M2 38 i = 1 → M2 36 i = M (M 1 3 + 4) (M2 32 i) ∧ M2 37 i = M (M 1 3 + 3) (M2 32 i)) ∧ M2 34 i + M2 36 i ≤ M (M 1 3) 0 ∧ M2 35 i + M2 37 i ≤ M (M 1 3) 1
        rw [w1, w2, w3, w4, w5, w6, w7]
        by_cases q : i = M 31 0
        · simp only [if_pos q]
          refine ⟨by omega, trivial, fun z => ?_, fun z => ?_, by omega, by omega⟩
          · unfold tW tH; rw [if_pos z, if_pos z, e3t, e4t]; exact ⟨rfl, rfl⟩
          · unfold tW tH; rw [if_neg (by omega), if_neg (by omega), e3t, e4t]; exact ⟨rfl, rfl⟩
        · simp only [if_neg q]
          exact h.2.2.1 i i0 (by omega)
      · rw [t3, o2 (M 1 3 + 5) (by omega) (by omega) (by omega), cnt2]
        rw [t3, o2 (M 1 3) (by omega) (by omega) (by omega)] at z1
        have := h.2.2.2 z z0 z1
        by_cases q : z = k
        · rw [if_pos q, q]
          omega
        · rw [if_neg q]; omega
      · rcases ha with rfl | rfl
        · exact o179b b hb
        · rw [o180]
      · have ob := om b
        have : ¬ b = M 31 0 := by omega
        simp only [if_neg this] at ob
        have ca : a = 181 ∨ a = 182 ∨ a = 183 ∨ a = 184 := by omega
        rcases ca with rfl | rfl | rfl | rfl
        · exact ob.1
        · exact ob.2.1
        · exact ob.2.2.1
        · exact ob.2.2.2
      · rw [(om i).2.2.2]
        split
        · exact ht
        · exact hi
  · rw [if_neg c] at r1
    obtain ⟨M2, r2, p⟩ := s_227 (L := L) (rP_mq h) (k := k) (x := x) (y := y) ht
    rcases p with ⟨p, e⟩ | ⟨p, e, n40⟩ | ⟨p, -⟩
    · subst e
      exact ⟨_, _, _, r1, r2, h, fun _ _ _ _ => rfl, fun _ _ _ => rfl, fun _ _ _ _ => rfl, fun _ _ _ _ _ => rfl, fun _ _ q => q, Or.inl ⟨rfl, rfl, fun _ _ _ => rfl⟩⟩
    · have o2 : ∀ a, (a < 181 ∨ 184 < a) → M2 a = M a := fun a ha => by
        rw [e]
        unfold mLd
        simp (disch := omega) only [aSet_c]
      have om : ∀ a i, i ≠ M 31 0 → M2 a i = M a i := fun a i hi => by
        rw [e]
        unfold mLd
        rw [aSet_i (by omega), aSet_i (by omega), aSet_i (by omega), aSet_i (by omega)]
      refine ⟨_, _, M2, r1, r2, ⟨?_, ?_, ?_⟩, fun a x1 x2 x3 => o2 a (by omega), fun j _ _ => by rw [o2 1 (by omega)], fun a b ha hb => by rw [o2 a (by omega)], fun a b a1 a2 hb => om a b (by omega), fun i i0 hi => ?_, Or.inl ⟨by rw [o2 1 (by omega)], by rw [o2 1 (by omega)], fun a x1 x2 => o2 a (by omega)⟩⟩
      · rw [o2 1 (by omega)]
        exact rT_cg h.1 (fun a x1 x2 => o2 a (by omega)) (fun a x1 x2 => o2 a (by omega))
      · have g := h.2.1
        unfold rB bOk at g ⊢
        rw [o2 31 (by omega), o2 (31 + 1) (by omega), o2 (31 + 2) (by omega), o2 (31 + 3) (by omega), o2 (31 + 4) (by omega), o2 (31 + 5) (by omega), o2 (31 + 6) (by omega), o2 (31 + 7) (by omega), o2 179 (by omega), o2 180 (by omega)]
        refine ⟨g.1, g.2.1, g.2.2.1, fun i i0 i1 => ?_, g.2.2.2.2⟩
        rw [om 181 _ (by omega), om 182 _ (by omega), om 183 _ (by omega), om 184 _ (by omega)]
        exact g.2.2.2.1 i i0 i1
      · rw [o2 1 (by omega)]
        exact rF_cg h.2.2 (fun a x1 x2 => o2 a (by omega)) (fun a x1 x2 => o2 a (by omega))
      · rw [e]
        unfold mLd
        rw [aSet_q]
        split
        · exact ht
        · rw [aSet_c (by omega), aSet_c (by omega), aSet_c (by omega)]; exact hi
    · omega
end LAY2
