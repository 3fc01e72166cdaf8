/-! lay: the model alone; then both -/
section LAY
variable {L : Nat} {M M1 M2 : aM}
def mWd (M : aM) (i : Int) : Int := if M 184 i = 0 then M 155 (M 181 i) else M 156 (M 181 i)
def mHg (M : aM) (i : Int) : Int := if M 184 i = 0 then M 156 (M 181 i) else M 155 (M 181 i)
theorem m_223 {i : Int} (h1 : 0 ≤ i ∧ i < 160) (h2 : 0 ≤ M 181 i ∧ M 181 i < 28) : aE 223 [aR 145, aI i] (SH L) M ([aI (mWd M i)], SH L, M) := by
  apply en_223
  simp only [ln0, ln1, ln2, ln3, ln4]
  unfold mWd
  exact ⟨by omega, fun q => ⟨by omega, by omega, rI (if_pos q)⟩, fun q => ⟨by omega, by omega, rI (if_neg q)⟩⟩
theorem m_224 {i : Int} (h1 : 0 ≤ i ∧ i < 160) (h2 : 0 ≤ M 181 i ∧ M 181 i < 28) : aE 224 [aR 145, aI i] (SH L) M ([aI (mHg M i)], SH L, M) := by
  apply en_224
  simp only [ln0, ln1, ln2, ln3, ln4]
  unfold mHg
  exact ⟨by omega, fun q => ⟨by omega, by omega, rI (if_pos q)⟩, fun q => ⟨by omega, by omega, rI (if_neg q)⟩⟩
theorem m_226 {k : Int} (hk : 0 ≤ k ∧ k < 28) (hn : 0 ≤ M 179 0 ∧ M 179 0 ≤ 40) (hm : 0 ≤ M 157 k ∧ M 157 k ≤ 99) : aE 226 [aR 145, aI k] (SH L) M ([aI (M 157 k - sumI (fun j => bi (decide (M 181 j = k))) 0 (M 179 0))], SH L, M) := by
  have key : ∀ i, ∀ a, 0 ≤ i → a ≤ 99 → -i ≤ a → aX xc_226 (aSeek xc_226 9) [aR 145, aI k, aI a, aI i] [] (SH L) M ([aI (a - sumI (fun j => bi (decide (M 181 j = k))) i (M 179 0))], SH L, M) := by
    refine upto (M 179 0) (fun i hi a h0 h1 h2 => ?_) (fun i hi ih a h0 h1 h2 => ?_)
    · exact bl_226_9 ⟨fun _ => rI (by rw [sumI_nil hi]; omega), fun q => absurd hi q⟩
    · apply bl_226_9
      simp only [ln0, ln1, ln2, ln3, ln4]
      refine ⟨fun q => absurd hi (by omega), fun _ => ⟨by omega, fun q => bl_226_32 ?_, fun q => bl_226_32 ?_⟩⟩
      · rw [aWi (by omega) (by omega), sumI_step hi, bin q, Int.zero_add]
        exact ih a (by omega) (by omega) (by omega)
      · rw [aWi (by omega) (by omega), aWi (by omega) (by omega), sumI_step hi, bip (by omega)]
        have := ih (a + (-1)) (by omega) (by omega) (by omega)
        rw [show a - (1 + sumI (fun j => bi (decide (M 181 j = k))) (i + 1) (M 179 0)) = a + (-1) - sumI (fun j => bi (decide (M 181 j = k))) (i + 1) (M 179 0) by omega]
        exact this
  apply en_226
  simp only [ln0, ln1, ln2, ln3, ln4]
  exact ⟨by omega, key 0 (M 157 k) (by omega) (by omega) (by omega)⟩
def mCov (M : aM) (x y w h i : Int) : Bool := decide (x < M 182 i + mWd M i ∧ M 182 i < x + w ∧ y < M 183 i + mHg M i ∧ M 183 i < y + h)
def mLd (M : aM) (k x y tb : Int) : aM := aSet (aSet (aSet (aSet M 181 (M 179 0) k) 182 (M 179 0) x) 183 (M 179 0) y) 184 (M 179 0) tb
def mq (M : aM) : Prop := (0 ≤ M 179 0 ∧ M 179 0 ≤ 40) ∧ (0 ≤ M 153 0 ∧ M 153 0 ≤ 14) ∧ (∀ k, 0 ≤ k → k < M 153 0 → (1 ≤ M 155 k ∧ M 155 k ≤ 60) ∧ (1 ≤ M 156 k ∧ M 156 k ≤ 60) ∧ 0 ≤ M 157 k ∧ M 157 k ≤ 99) ∧
  ∀ i, 0 ≤ i → i < M 179 0 → (0 ≤ M 181 i ∧ M 181 i < M 153 0) ∧ (0 ≤ M 182 i ∧ M 182 i ≤ 60) ∧ 0 ≤ M 183 i ∧ M 183 i ≤ 60
def tW (M : aM) (k tb : Int) : Int := if tb = 0 then M 155 k else M 156 k
def tH (M : aM) (k tb : Int) : Int := if tb = 0 then M 156 k else M 155 k
/-- what the model answers to lay, and whether the thing lies then -/
def mlV (M : aM) (k x y tb : Int) : Int := if ¬ ((0 ≤ k ∧ k < M 153 0) ∧ (0 ≤ x ∧ x ≤ 59) ∧ (0 ≤ y ∧ y ≤ 59) ∧ ¬ M 179 0 = 40) then -1 else
  if M 151 0 < x + tW M k tb ∨ M 152 0 < y + tH M k tb then -2 else if anyI (mCov M x y (tW M k tb) (tH M k tb)) 0 (M 179 0) = true then -3 else
  if M 157 k - sumI (fun j => bi (decide (M 181 j = k))) 0 (M 179 0) = 0 then -4 else M 179 0
theorem s_227 (h : mq M) {k x y tb : Int} (ht : tb = 0 ∨ tb = 1) : ∃ M2, aE 227 [aR 145, aI k, aI x, aI y, aI tb] (SH L) M ([aI (mlV M k x y tb)], SH L, M2) ∧
    (mlV M k x y tb = -1 ∧ M2 = M ∨ (mlV M k x y tb = -2 ∨ mlV M k x y tb = -3 ∨ mlV M k x y tb = -4) ∧ M2 = mLd M k x y tb ∧ M 179 0 < 40 ∨ (mlV M k x y tb = M 179 0 ∧ M2 = aSet (mLd M k x y tb) 179 0 (M 179 0 + 1) ∧ M 179 0 < 40 ∧ ((0 ≤ k ∧ k < M 153 0) ∧ (0 ≤ x ∧ x ≤ 59) ∧ (0 ≤ y ∧ y ≤ 59)) ∧ x + tW M k tb ≤ M 151 0 ∧ y + tH M k tb ≤ M 152 0 ∧ anyI (mCov M x y (tW M k tb) (tH M k tb)) 0 (M 179 0) = false ∧ ¬ M 157 k - sumI (fun j => bi (decide (M 181 j = k))) 0 (M 179 0) = 0)) := by
  obtain ⟨h1, h2, h3, h4⟩ := h
  by_cases c : (0 ≤ k ∧ k < M 153 0) ∧ (0 ≤ x ∧ x ≤ 59) ∧ (0 ≤ y ∧ y ≤ 59) ∧ ¬ M 179 0 = 40
  · obtain ⟨c1, c2, c3, c4⟩ := c
    have hk := h3 k c1.1 c1.2
    have hw : 1 ≤ tW M k tb ∧ tW M k tb ≤ 60 := by unfold tW; split <;> omega
    have hh : 1 ≤ tH M k tb ∧ tH M k tb ≤ 60 := by unfold tH; split <;> omega
    have Md : ∀ a, a < 181 ∨ 184 < a → mLd M k x y tb a = M a := fun a ha => by
      unfold mLd
      simp (disch := omega) only [aSet_c]
    have r181 : ∀ i, mLd M k x y tb 181 i = if i = M 179 0 then k else M 181 i := fun i => by
      unfold mLd
      simp (disch := omega) only [aSet_c, aSet_q]
    have r182 : ∀ i, mLd M k x y tb 182 i = if i = M 179 0 then x else M 182 i := fun i => by
      unfold mLd
      simp (disch := omega) only [aSet_c, aSet_q]
    have r183 : ∀ i, mLd M k x y tb 183 i = if i = M 179 0 then y else M 183 i := fun i => by
      unfold mLd
      simp (disch := omega) only [aSet_c, aSet_q]
    have r184 : ∀ i, mLd M k x y tb 184 i = if i = M 179 0 then tb else M 184 i := fun i => by
      unfold mLd
      simp (disch := omega) only [aSet_c, aSet_q]
    have wn : mWd (mLd M k x y tb) (M 179 0) = tW M k tb := by
      unfold mWd tW
      rw [r184, r181, if_pos rfl, if_pos rfl, Md 155 (by omega), Md 156 (by omega)]
    have hn : mHg (mLd M k x y tb) (M 179 0) = tH M k tb := by
      unfold mHg tH
      rw [r184, r181, if_pos rfl, if_pos rfl, Md 155 (by omega), Md 156 (by omega)]
    have wo : ∀ i, i < M 179 0 → mWd (mLd M k x y tb) i = mWd M i := fun i hi => by
      unfold mWd
      rw [show mLd M k x y tb 184 i = M 184 i by rw [r184, if_neg (show ¬ i = M 179 0 by omega)], show mLd M k x y tb 181 i = M 181 i by rw [r181, if_neg (show ¬ i = M 179 0 by omega)], Md 155 (by omega), Md 156 (by omega)]
    have ho : ∀ i, i < M 179 0 → mHg (mLd M k x y tb) i = mHg M i := fun i hi => by
      unfold mHg
      rw [show mLd M k x y tb 184 i = M 184 i by rw [r184, if_neg (show ¬ i = M 179 0 by omega)], show mLd M k x y tb 181 i = M 181 i by rw [r181, if_neg (show ¬ i = M 179 0 by omega)], Md 155 (by omega), Md 156 (by omega)]
    have ew := m_223 (L := L) (M := mLd M k x y tb) (i := M 179 0) (by omega) (by rw [r181, if_pos rfl]; omega)
    have eh := m_224 (L := L) (M := mLd M k x y tb) (i := M 179 0) (by omega) (by rw [r181, if_pos rfl]; omega)
    rw [wn] at ew
    rw [hn] at eh
    have mv : mlV M k x y tb = if M 151 0 < x + tW M k tb ∨ M 152 0 < y + tH M k tb then -2 else if anyI (mCov M x y (tW M k tb) (tH M k tb)) 0 (M 179 0) = true then -3 else if M 157 k - sumI (fun j => bi (decide (M 181 j = k))) 0 (M 179 0) = 0 then -4 else M 179 0 := by
      unfold mlV
      rw [if_neg (fun q => q ⟨c1, c2, c3, c4⟩)]
    have start : ∀ o, (M 151 0 < x + tW M k tb → o = ([aI (-2)], SH L, mLd M k x y tb)) → (¬ M 151 0 < x + tW M k tb → M 152 0 < y + tH M k tb → o = ([aI (-2)], SH L, mLd M k x y tb)) → (¬ M 151 0 < x + tW M k tb → ¬ M 152 0 < y + tH M k tb → aX xc_227 (aSeek xc_227 122) [aR 145, aI k, aI x, aI y, aU, aI (M 179 0), aI 0] [] (SH L) (mLd M k x y tb) o) →
        aE 227 [aR 145, aI k, aI x, aI y, aI tb] (SH L) M o := by
      intro o o1 o2 o3
      refine en_227 ⟨M, _, s_220, fun q => absurd (bip c1) (by rw [q]; decide), fun _ => ⟨M, _, s_219, fun q => absurd (bip c2) (by rw [q]; decide), fun _ => ⟨M, _, s_219, fun q => absurd (bip c3) (by rw [q]; decide), fun _ => ⟨fun _ => ?_, fun q => absurd c4 q⟩⟩⟩⟩
      simp only [ln0, ln1, ln2, ln3, ln4]
      refine ⟨by omega, by omega, by omega, ⟨by omega, ht⟩, _, _, ew, ?_⟩
      rw [Md 151 (by omega), aWi (by omega) (by omega)]
      refine ⟨o1, fun q => ⟨_, _, eh, ?_⟩⟩
      rw [Md 152 (by omega), aWi (by omega) (by omega)]
      exact ⟨fun q2 => o3 q (by omega), fun q2 => o2 q (by omega)⟩
    by_cases d1 : M 151 0 < x + tW M k tb
    · have e : mlV M k x y tb = -2 := by rw [mv, if_pos (Or.inl d1)]
      exact ⟨_, start _ (fun _ => rI e) (fun q => absurd d1 q) (fun q => absurd d1 q), Or.inr (Or.inl ⟨Or.inl e, rfl, by omega⟩)⟩
    · by_cases d2 : M 152 0 < y + tH M k tb
      · have e : mlV M k x y tb = -2 := by rw [mv, if_pos (Or.inr d2)]
        exact ⟨_, start _ (fun q => absurd q d1) (fun _ _ => rI e) (fun _ q => absurd d2 q), Or.inr (Or.inl ⟨Or.inl e, rfl, by omega⟩)⟩
      · have loop : ∀ i, 0 ≤ i → (∀ j, 0 ≤ j → j < i → ¬ mCov M x y (tW M k tb) (tH M k tb) j = true) → ∀ o, (anyI (mCov M x y (tW M k tb) (tH M k tb)) 0 (M 179 0) = true → o = ([aI (-3)], SH L, mLd M k x y tb)) →
            (anyI (mCov M x y (tW M k tb) (tH M k tb)) 0 (M 179 0) = false → M 157 k - sumI (fun j => bi (decide (M 181 j = k))) 0 (M 179 0) = 0 → o = ([aI (-4)], SH L, mLd M k x y tb)) →
            (anyI (mCov M x y (tW M k tb) (tH M k tb)) 0 (M 179 0) = false → ¬ M 157 k - sumI (fun j => bi (decide (M 181 j = k))) 0 (M 179 0) = 0 → o = ([aI (M 179 0)], SH L, aSet (mLd M k x y tb) 179 0 (M 179 0 + 1))) →
            aX xc_227 (aSeek xc_227 122) [aR 145, aI k, aI x, aI y, aU, aI (M 179 0), aI i] [] (SH L) (mLd M k x y tb) o := by
          refine upto (M 179 0) (fun i hi i0 hno o o1 o2 o3 => ?_) (fun i hi ih i0 hno o o1 o2 o3 => ?_)
          · have none : anyI (mCov M x y (tW M k tb) (tH M k tb)) 0 (M 179 0) = false := by
              cases e : anyI (mCov M x y (tW M k tb) (tH M k tb)) 0 (M 179 0)
              · rfl
              · rw [anyI_iff] at e
                obtain ⟨j, j0, j1, j2⟩ := e
                exact absurd j2 (hno j j0 (by omega))
            have e226 := m_226 (L := L) (M := mLd M k x y tb) (k := k) (by omega) (by rw [Md 179 (by omega)]; exact h1) (by rw [Md 157 (by omega)]; exact hk.2.2)
            rw [Md 157 (by omega), Md 179 (by omega)] at e226
            have es : sumI (fun j => bi (decide (mLd M k x y tb 181 j = k))) 0 (M 179 0) = sumI (fun j => bi (decide (M 181 j = k))) 0 (M 179 0) := sumI_congr 0 (fun j j0 j1 => by rw [r181, if_neg (by omega)])
            rw [es] at e226
            refine bl_227_122 ⟨fun _ => ⟨_, _, e226, fun q => ?_, fun q => o2 none (Classical.not_not.mp q)⟩, fun q => absurd hi q⟩
            rw [Md 179 (by omega), aWi (by omega) (by omega)]
            exact o3 none q
          · have a := h4 i i0 hi
            have nx : ¬ mCov M x y (tW M k tb) (tH M k tb) i = true → aX xc_227 (aSeek xc_227 204) [aR 145, aI k, aI x, aI y, aU, aI (M 179 0), aI i] [] (SH L) (mLd M k x y tb) o := by
              intro cn
              apply bl_227_204
              rw [aWi (by omega) (by omega)]
              exact ih (by omega) (fun j j0 j1 => by
                by_cases e : j = i
                · rw [e]; exact cn
                · exact hno j j0 (by omega)) o o1 o2 o3
            have ewi := m_223 (L := L) (M := mLd M k x y tb) (i := i) (by omega) (by rw [r181, if_neg (by omega)]; omega)
            have ehi := m_224 (L := L) (M := mLd M k x y tb) (i := i) (by omega) (by rw [r181, if_neg (by omega)]; omega)
            rw [wo i hi] at ewi
            rw [ho i hi] at ehi
            have ai := h3 _ a.1.1 a.1.2
            have wi : 1 ≤ mWd M i ∧ mWd M i ≤ 60 := by unfold mWd; split <;> omega
            have hi' : 1 ≤ mHg M i ∧ mHg M i ≤ 60 := by unfold mHg; split <;> omega
            have x2 : mLd M k x y tb 182 i = M 182 i := by rw [r182, if_neg (by omega)]
            have y2 : mLd M k x y tb 183 i = M 183 i := by rw [r183, if_neg (by omega)]
            apply bl_227_122
            simp only [ln0, ln1, ln2, ln3, ln4, x2, y2]
            refine ⟨fun q => absurd hi (by omega), fun _ => ⟨by omega, _, _, ewi, ?_⟩⟩
            try simp only [x2, y2]
            rw [aWi (z := M 182 i + mWd M i) (by omega) (by omega)]
            refine ⟨fun q => nx (by unfold mCov; rw [decide_eq_true_eq]; omega), fun q => ⟨by omega, _, _, ew, ?_⟩⟩
            try simp only [x2, y2]
            rw [aWi (z := x + tW M k tb) (by omega) (by omega)]
            refine ⟨fun q1 => nx (by unfold mCov; rw [decide_eq_true_eq]; omega), fun q1 => ⟨by omega, _, _, ehi, ?_⟩⟩
            try simp only [x2, y2]
            rw [aWi (z := M 183 i + mHg M i) (by omega) (by omega)]
            refine ⟨fun q2 => nx (by unfold mCov; rw [decide_eq_true_eq]; omega), fun q2 => ⟨by omega, _, _, eh, ?_⟩⟩
            try simp only [x2, y2]
            rw [aWi (z := y + tH M k tb) (by omega) (by omega)]
            refine ⟨fun q3 => nx (by unfold mCov; rw [decide_eq_true_eq]; omega), fun q3 => o1 ?_⟩
            rw [anyI_iff]
            exact ⟨i, i0, hi, by unfold mCov; rw [decide_eq_true_eq]; omega⟩
        cases e : anyI (mCov M x y (tW M k tb) (tH M k tb)) 0 (M 179 0)
        · by_cases d3 : M 157 k - sumI (fun j => bi (decide (M 181 j = k))) 0 (M 179 0) = 0
          · have ev : mlV M k x y tb = -4 := by rw [mv, if_neg (by omega), e, if_neg (by decide), if_pos d3]
            exact ⟨_, start _ (fun q => absurd q d1) (fun _ q => absurd q d2) (fun _ _ => loop 0 (by omega) (fun j j0 j1 => by omega) _ (fun q => by rw [e] at q; cases q) (fun _ _ => rI ev) (fun _ q => absurd d3 q)), Or.inr (Or.inl ⟨Or.inr (Or.inr ev), rfl, by omega⟩)⟩
          · have ev : mlV M k x y tb = M 179 0 := by rw [mv, if_neg (by omega), e, if_neg (by decide), if_neg d3]
            exact ⟨_, start _ (fun q => absurd q d1) (fun _ q => absurd q d2) (fun _ _ => loop 0 (by omega) (fun j j0 j1 => by omega) _ (fun q => by rw [e] at q; cases q) (fun _ q => absurd q d3) (fun _ _ => rI ev)), Or.inr (Or.inr ⟨ev, rfl, by omega, ⟨c1, c2, c3⟩, by omega, by omega, rfl, d3⟩)⟩
        · have ev : mlV M k x y tb = -3 := by rw [mv, if_neg (by omega), e, if_pos rfl]
          exact ⟨_, start _ (fun q => absurd q d1) (fun _ q => absurd q d2) (fun _ _ => loop 0 (by omega) (fun j j0 j1 => by omega) _ (fun _ => rI ev) (fun q => by rw [e] at q; cases q) (fun q => by rw [e] at q; cases q)), Or.inr (Or.inl ⟨Or.inr (Or.inl ev), rfl, by omega⟩)⟩
  · have ev : mlV M k x y tb = -1 := if_pos c
    refine ⟨M, en_227 ⟨M, _, s_220, fun q => rI ev, fun q1 => ⟨M, _, s_219, fun q => rI ev, fun q2 => ⟨M, _, s_219, fun q => rI ev, fun q3 => ⟨fun q4 => ?_, fun q => rI ev⟩⟩⟩⟩, Or.inl ⟨ev, rfl⟩⟩
    rw [bid0, Classical.not_not] at q1 q2 q3
    exact absurd ⟨q1, q2, q3, q4⟩ c
end LAY
