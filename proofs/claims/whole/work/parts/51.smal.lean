/-! kind, thing, count: both; what slots hold -/
section SMAL
variable {L : Nat} {M M1 M2 : aM}
def rSl (M : aM) (s : Int) : Prop := M (40 + 8 * s) 9 = 0 ∧ M 185 (s + 1) = 0 ∨ M (40 + 8 * s) 9 = 1 ∧ M 185 (s + 1) = M (40 + 8 * s) 10 + 1 ∧ (0 ≤ M (40 + 8 * s) 10 ∧ M (40 + 8 * s) 10 ≤ M 1 5) ∧ rB M (40 + 8 * s) (s + 1) ∧ (M (40 + 8 * s) 10 = M 1 5 → rF M (M 1 3) (40 + 8 * s))
def rS (M : aM) : Prop := (0 ≤ M 1 5 ∧ M 1 5 ≤ 10000) ∧ M 145 40 = M 1 5 + 1 ∧ ∀ s, 0 ≤ s → s < 3 → rSl M s
def kdV (M : aM) (k w : Int) : Int := if 0 ≤ k ∧ k < M (M 1 3) 3 then (if w = 0 then M (M 1 3 + 2) k else if w = 1 then M (M 1 3 + 3) k else if w = 2 then M (M 1 3 + 4) k else if w = 3 then M (M 1 3 + 5) k else -1) else -1
theorem o_kind (h : rP M) {k w : Int} : aE 56 [aR 1, aI k, aI w] (SH L) M ([aI (kdV M k w)], SH L, M) ∧ aE 222 [aR 145, aI k, aI w] (SH L) M ([aI (kdV M k w)], SH L, M) := by
  have tx0 := rP_tx h
  have f := h.1.2.1
  have t4 := h.1.1.2.2.2.2.1
  by_cases c : 0 ≤ k ∧ k < M (M 1 3) 3
  · obtain ⟨e2, e3, e4, e5⟩ := rP_tx3 h c.1 (by omega)
    have ev : kdV M k w = if w = 0 then M (M 1 3 + 2) k else if w = 1 then M (M 1 3 + 3) k else if w = 2 then M (M 1 3 + 4) k else if w = 3 then M (M 1 3 + 5) k else -1 := if_pos c
    rw [ev]
    constructor
    · refine en_56 ⟨(tx tx0).1, M, _, s_55 tx0, fun _ => ?_, fun q => binn c q⟩
      simp only [tx tx0]
      refine ⟨fun q => ⟨trivial, by omega, rI ?_⟩, fun q => ⟨trivial, by omega, rI ?_⟩, fun q => ⟨trivial, by omega, rI ?_⟩, fun q => ⟨trivial, by omega, rI ?_⟩, fun q0 q1 q2 q3 => rI ?_⟩
      · rw [if_pos q]
      · rw [if_neg (by omega), if_pos q]
      · rw [if_neg (by omega), if_neg (by omega), if_pos q]
      · rw [if_neg (by omega), if_neg (by omega), if_neg (by omega), if_pos q]
      · rw [if_neg q0, if_neg q1, if_neg q2, if_neg q3]
    · refine en_222 ⟨M, _, s_220, fun _ => ?_, fun q => binn (show 0 ≤ k ∧ k < M 153 0 by omega) q⟩
      simp only [ln0, ln1, ln2, ln3, ln4]
      refine ⟨fun q => ⟨by omega, rI ?_⟩, fun q => ⟨by omega, rI ?_⟩, fun q => ⟨by omega, rI ?_⟩, fun q => ⟨by omega, rI ?_⟩, fun q0 q1 q2 q3 => rI ?_⟩
      · rw [if_pos q, e2]
      · rw [if_neg (by omega), if_pos q, e3]
      · rw [if_neg (by omega), if_neg (by omega), if_pos q, e4]
      · rw [if_neg (by omega), if_neg (by omega), if_neg (by omega), if_pos q, e5]
      · rw [if_neg q0, if_neg q1, if_neg q2, if_neg q3]
  · have ev : kdV M k w = -1 := if_neg c
    rw [ev]
    exact ⟨en_56 ⟨(tx tx0).1, M, _, s_55 tx0, fun q => absurd (bin c) q, fun _ => rfl⟩, en_222 ⟨M, _, s_220, fun q => absurd (bin (by omega)) q, fun _ => rfl⟩⟩
def thV (M : aM) (t w : Int) : Int := if 0 ≤ t ∧ t < M 31 0 then (if w = 0 then M 32 t else if w = 1 then M 34 t else if w = 2 then M 35 t else if w = 3 then M 36 t else if w = 4 then M 37 t else if w = 5 then M 38 t else -1) else -1
theorem o_thing (h : rP M) {t w : Int} : aE 66 [aR 1, aI t, aI w] (SH L) M ([aI (thV M t w)], SH L, M) ∧ aE 229 [aR 145, aI t, aI w] (SH L) M ([aI (thV M t w)], SH L, M) := by
  have n := rP_n h
  by_cases c : 0 ≤ t ∧ t < M 31 0
  · have a := (rP_i h c.1 c.2).2.2.2.2
    obtain ⟨b1, b2, b3, b4, -⟩ := rP_m h c.1 c.2
    have ev : thV M t w = if w = 0 then M 32 t else if w = 1 then M 34 t else if w = 2 then M 35 t else if w = 3 then M 36 t else if w = 4 then M 37 t else if w = 5 then M 38 t else -1 := if_pos c
    rw [ev]
    constructor
    · refine en_66 ⟨M, _, s_63 bd31, fun _ => ?_, fun q => binn c q⟩
      simp only [ln0, ln1, ln2, ln3, ln4]
      refine ⟨fun q => ⟨by omega, rI ?_⟩, fun q => ⟨by omega, rI ?_⟩, fun q => ⟨by omega, rI ?_⟩, fun q => ⟨by omega, rI ?_⟩, fun q => ⟨by omega, rI ?_⟩, fun q => ⟨by omega, fun q1 => rI ?_, fun q1 => rI ?_⟩, fun q0 q1 q2 q3 q4 q5 => rI ?_⟩
      · rw [if_pos q]
      · rw [if_neg (by omega), if_pos q]
      · rw [if_neg (by omega), if_neg (by omega), if_pos q]
      · rw [if_neg (by omega), if_neg (by omega), if_neg (by omega), if_pos q]
      · rw [if_neg (by omega), if_neg (by omega), if_neg (by omega), if_neg (by omega), if_pos q]
      · rw [if_neg (by omega), if_neg (by omega), if_neg (by omega), if_neg (by omega), if_neg (by omega), if_pos q]; exact q1
      · rw [if_neg (by omega), if_neg (by omega), if_neg (by omega), if_neg (by omega), if_neg (by omega), if_pos q]; omega
      · rw [if_neg q0, if_neg q1, if_neg q2, if_neg q3, if_neg q4, if_neg q5]
    · refine en_229 ⟨M, _, s_221, fun _ => ?_, fun q => binn (show 0 ≤ t ∧ t < M 179 0 by omega) q⟩
      simp only [ln0, ln1, ln2, ln3, ln4, b1, b2, b3, b4]
      refine ⟨fun q => ⟨by omega, rI ?_⟩, fun q => ⟨by omega, rI ?_⟩, fun q => ⟨by omega, rI ?_⟩, fun q => ⟨M, _, s_223 h c.1 c.2, rI ?_⟩, fun q => ⟨M, _, s_224 h c.1 c.2, rI ?_⟩, fun q => ⟨by omega, fun q1 => rI ?_, fun q1 => rI ?_⟩, fun q0 q1 q2 q3 q4 q5 => rI ?_⟩
      · rw [if_pos q]
      · rw [if_neg (by omega), if_pos q]
      · rw [if_neg (by omega), if_neg (by omega), if_pos q]
      · rw [if_neg (by omega), if_neg (by omega), if_neg (by omega), if_pos q]
      · rw [if_neg (by omega), if_neg (by omega), if_neg (by omega), if_neg (by omega), if_pos q]
      · rw [if_neg (by omega), if_neg (by omega), if_neg (by omega), if_neg (by omega), if_neg (by omega), if_pos q]; exact q1
      · rw [if_neg (by omega), if_neg (by omega), if_neg (by omega), if_neg (by omega), if_neg (by omega), if_pos q]; omega
      · rw [if_neg q0, if_neg q1, if_neg q2, if_neg q3, if_neg q4, if_neg q5]
  · have ev : thV M t w = -1 := if_neg c
    rw [ev]
    exact ⟨en_66 ⟨M, _, s_63 bd31, fun q => absurd (bin c) q, fun _ => rfl⟩, en_229 ⟨M, _, s_221, fun q => absurd (bin (by omega)) q, fun _ => rfl⟩⟩
/-- how many wedges are tight -/
def bc6 (z : Int) : Int := sumI (fun i => aAnd (aShr z i) 1) 0 6
theorem s_114 {z : Int} (h : 0 ≤ z ∧ z < 64) : aE 114 [aI z] (SH L) M ([aI (bc6 z)], SH L, M) := by
  apply en_114
  refine rI ?_
  obtain ⟨k, rfl⟩ : ∃ k : Nat, z = (k : Int) := ⟨z.toNat, by omega⟩
  have hk : k < 64 := by omega
  clear h
  revert k
  decide +kernel
theorem bc6_le : ∀ k : Nat, k < 64 → ∀ i : Nat, i < 6 → 0 ≤ aAnd (aShr (k : Int) (i : Int)) 1 ∧ aAnd (aShr (k : Int) (i : Int)) 1 ≤ 1 := by decide +kernel
theorem s_274 {z : Int} (h : 0 ≤ z ∧ z < 64) : aE 274 [aI z] (SH L) M ([aI (bc6 z)], SH L, M) := by
  have key : ∀ i, ∀ a, 0 ≤ i → 0 ≤ a → a ≤ i → aX xc_274 (aSeek xc_274 4) [aI z, aI a, aI i] [] (SH L) M ([aI (a + sumI (fun i => aAnd (aShr z i) 1) i 6)], SH L, M) := by
    refine upto 6 (fun i hi a i0 a0 a1 => ?_) (fun i hi ih a i0 a0 a1 => ?_)
    · exact bl_274_4 ⟨fun _ => rI (by rw [sumI_nil hi]; omega), fun q => absurd hi q⟩
    · have b := bc6_le z.toNat (by omega) i.toNat (by omega)
      rw [Int.toNat_of_nonneg h.1, Int.toNat_of_nonneg i0] at b
      refine bl_274_4 ⟨fun q => absurd hi (by omega), fun _ => ?_⟩
      rw [aWi (by omega) (by omega), aWi (by omega) (by omega), sumI_step hi, ← Int.add_assoc]
      exact ih _ (by omega) (by omega) (by omega)
  have := key 0 0 (by omega) (by omega) (by omega)
  rw [Int.zero_add] at this
  exact en_274 this
theorem s_176 : aE 176 [aR 1] (SH L) M ([aI (sumI (fun s => if M (40 + 8 * s) 9 = 0 then 0 else 1) 0 3)], SH L, M) := by
  have key : ∀ s, ∀ a, 0 ≤ s → 0 ≤ a → a ≤ s → aX xc_176 (aSeek xc_176 4) [aR 1, aI a, aI s] [] (SH L) M ([aI (a + sumI (fun s => if M (40 + 8 * s) 9 = 0 then 0 else 1) s 3)], SH L, M) := by
    refine upto 3 (fun s hs a s0 a0 a1 => ?_) (fun s hs ih a s0 a0 a1 => ?_)
    · exact bl_176_4 ⟨fun _ => rI (by rw [sumI_nil hs]; omega), fun q => absurd hs q⟩
    · have e := ar_39 (L := L) s0 hs
      have kk : aK (SH L) (40 + 8 * s) = 10 := by
        have q : s = 0 ∨ s = 1 ∨ s = 2 := by omega
        rcases q with rfl | rfl | rfl <;> rfl
      refine bl_176_4 ⟨fun q => absurd hs (by omega), fun _ => ⟨by rw [show aLn (SH L) 5 39 = 3 from rfl]; omega, ?_⟩⟩
      rw [e]
      refine ⟨kk, fun q => bl_176_24 ?_, fun q => bl_176_24 ?_⟩
      · rw [aWi (by omega) (by omega), sumI_step hs, if_pos q, Int.zero_add]
        exact ih a (by omega) a0 (by omega)
      · rw [aWi (by omega) (by omega), aWi (by omega) (by omega), sumI_step hs, if_neg q, ← Int.add_assoc]
        exact ih (a + 1) (by omega) (by omega) (by omega)
  have := key 0 0 (by omega) (by omega) (by omega)
  rw [Int.zero_add] at this
  exact en_176 this
/-- what count answers, but for the rules -/
def coV (M : aM) (w : Int) : Int := if w = 0 then M (M 1 3) 3 else if w = 1 then M (M 1 3) 9 else if w = 2 then M (M 1 3) 16 else if w = 3 then M 31 0 else if w = 4 then M 138 0 else if w = 5 then M 1 1 else if w = 6 then bc6 (M 31 8) else
  if w = 7 then sumI (fun s => if M (40 + 8 * s) 9 = 0 then 0 else 1) 0 3 else if w = 8 then M (M 1 3) 0 else if w = 9 then M (M 1 3) 1 else if w = 10 then M (M 1 3) 2 else
  if 20 ≤ w ∧ w - 20 < M (M 1 3) 3 then M (M 1 3 + 5) (w - 20) - cntK M 31 (w - 20) else -1
theorem s_177 (h : rP M) {w : Int} (hw : w < 2147483648) : aE 177 [aR 1, aI w] (SH L) M ([aI (coV M w)], SH L, M) := by
  have tx0 := rP_tx h
  have t6 := h.2.1.2.2.1
  have t4 := h.1.1.2.2.2.2.1
  unfold coV
  refine en_177 ⟨fun q => ⟨(tx tx0).1, rI ?_⟩, fun q => ⟨(tx tx0).1, rI ?_⟩, fun q => ⟨(tx tx0).1, rI ?_⟩, fun q => rI ?_, fun q => rI ?_, fun q => rI ?_, fun q => ⟨M, _, s_114 ⟨t6.1, t6.2.1⟩, rI ?_⟩, fun q => ⟨M, _, s_176, rI ?_⟩, fun q => ⟨(tx tx0).1, rI ?_⟩, fun q => ⟨(tx tx0).1, rI ?_⟩, fun q => ⟨(tx tx0).1, rI ?_⟩, fun q0 q1 q2 q3 q4 q5 q6 q7 q8 q9 q10 => ⟨fun z => rI ?_, fun z => ⟨(tx tx0).1, M, _, s_55 tx0, fun z2 => rI ?_, fun z2 => ⟨M, _, s_60 h.2.1.1 h.1.1, rI ?_⟩⟩⟩⟩
  · rw [if_pos q]
  · rw [if_neg (by omega), if_pos q]
  · rw [if_neg (by omega), if_neg (by omega), if_pos q]
  · rw [if_neg (by omega), if_neg (by omega), if_neg (by omega), if_pos q]
  · rw [if_neg (by omega), if_neg (by omega), if_neg (by omega), if_neg (by omega), if_pos q]
  · rw [if_neg (by omega), if_neg (by omega), if_neg (by omega), if_neg (by omega), if_neg (by omega), if_pos q]
  · rw [if_neg (by omega), if_neg (by omega), if_neg (by omega), if_neg (by omega), if_neg (by omega), if_neg (by omega), if_pos q]
  · rw [if_neg (by omega), if_neg (by omega), if_neg (by omega), if_neg (by omega), if_neg (by omega), if_neg (by omega), if_neg (by omega), if_pos q]
  · rw [if_neg (by omega), if_neg (by omega), if_neg (by omega), if_neg (by omega), if_neg (by omega), if_neg (by omega), if_neg (by omega), if_neg (by omega), if_pos q]
  · rw [if_neg (by omega), if_neg (by omega), if_neg (by omega), if_neg (by omega), if_neg (by omega), if_neg (by omega), if_neg (by omega), if_neg (by omega), if_neg (by omega), if_pos q]
  · rw [if_neg (by omega), if_neg (by omega), if_neg (by omega), if_neg (by omega), if_neg (by omega), if_neg (by omega), if_neg (by omega), if_neg (by omega), if_neg (by omega), if_neg (by omega), if_pos q]
  · rw [if_neg q0, if_neg q1, if_neg q2, if_neg q3, if_neg q4, if_neg q5, if_neg q6, if_neg q7, if_neg q8, if_neg q9, if_neg q10, if_neg (by omega)]
  · rw [bid0, aWi (by omega) (by omega)] at z2
    rw [if_neg q0, if_neg q1, if_neg q2, if_neg q3, if_neg q4, if_neg q5, if_neg q6, if_neg q7, if_neg q8, if_neg q9, if_neg q10, if_neg (by omega)]
  · rw [bid0, Classical.not_not, aWi (by omega) (by omega)] at z2
    rw [if_neg q0, if_neg q1, if_neg q2, if_neg q3, if_neg q4, if_neg q5, if_neg q6, if_neg q7, if_neg q8, if_neg q9, if_neg q10, if_pos (by omega), aWi (by omega) (by omega), if_pos z2]
    rfl
theorem aW_lo {w : Int} (h1 : -2147483648 ≤ w) (h2 : w < 20) : ¬ (0 ≤ aW (w - 20) ∧ aW (w - 20) < 20) := by
  by_cases c : -2147483628 ≤ w
  · rw [aWi (by omega) (by omega)]; omega
  · have e : aW (w - 20) = w - 20 + 4294967296 := by
      unfold aW
      rw [show w - 20 = (w - 20 + 4294967296) - 4294967296 by omega]
      rw [show (w - 20 + 4294967296) - 4294967296 = (w - 20 + 4294967296) + (4294967296 : Int) * (-1) by omega]
      have := Int.add_mul_bmod_self_left (w - 20 + 4294967296) 4294967296 (-1)
      rw [show ((4294967296 : Nat) : Int) = 4294967296 from rfl] at this
      rw [this]
      have h := aWi (z := w - 20 + 4294967296) (by omega) (by omega)
      unfold aW at h
      rw [h]
      omega
    rw [e]; omega
theorem s_314 (h : rP M) (hl : rL M) (hs : rS M) (ht : M 145 0 = M 1 1) (hr : M 166 0 = M (M 1 3) 16) {w : Int} (hw : w < 2147483648) (hw0 : -2147483648 ≤ w) : aE 314 [aR 145, aI w] (SH L) M ([aI (coV M w)], SH L, M) := by
  have n := rP_n h
  have f := h.1.2.1
  have w9 := h.1.2.2.2.1
  have t6 := h.2.1.2.2.1
  have t4 := h.1.1.2.2.2.2.1
  have sl : ∀ s, 0 ≤ s → s < 3 → (M 185 (s + 1) ≤ 0 ∧ M (40 + 8 * s) 9 = 0 ∨ ¬ M 185 (s + 1) ≤ 0 ∧ M (40 + 8 * s) 9 = 1) := by
    intro s s0 s1
    rcases hs.2.2 s s0 s1 with ⟨a, b⟩ | ⟨a, b, c, -⟩
    · exact Or.inl ⟨by omega, a⟩
    · exact Or.inr ⟨by omega, a⟩
  have sum3 : sumI (fun s => if M (40 + 8 * s) 9 = 0 then (0 : Int) else 1) 0 3 = (if M 40 9 = 0 then 0 else 1) + ((if M 48 9 = 0 then 0 else 1) + ((if M 56 9 = 0 then 0 else 1) + 0)) := rfl
  have k7 : w = 7 → ∀ a b : Int, (a = if M 40 9 = 0 then 0 else 1) → (b = if M 48 9 = 0 then 0 else 1) → aX xc_314 (aSeek xc_314 136) [aR 145, aU] [aI b, aI a] (SH L) M ([aI (coV M w)], SH L, M) := by
    intro e a b ha hb
    have s2 := sl 2 (by omega) (by omega)
    have ev : coV M w = a + b + (if M 56 9 = 0 then 0 else 1) := by
      unfold coV
      rw [if_neg (by omega), if_neg (by omega), if_neg (by omega), if_neg (by omega), if_neg (by omega), if_neg (by omega), if_neg (by omega), if_pos e, sum3, ha, hb]
      omega
    have la : 0 ≤ a ∧ a ≤ 1 := by rw [ha]; split <;> omega
    have lb' : 0 ≤ b ∧ b ≤ 1 := by rw [hb]; split <;> omega
    rw [ev]
    refine bl_314_136 ⟨fun q => rI ?_, fun q => rI ?_⟩
    · rw [aWi (z := a + b) (by omega) (by omega), aWi (by omega) (by omega)]
      have : M 56 9 = 0 := by
        rcases s2 with z | z
        · exact z.2
        · exact absurd q z.1
      rw [if_pos this]
    · rw [aWi (z := a + b) (by omega) (by omega), aWi (by omega) (by omega)]
      have : M 56 9 = 1 := by
        rcases s2 with z | z
        · exact absurd z.1 q
        · exact z.2
      rw [if_neg (by omega)]
  have k122 : w = 7 → ∀ a : Int, (a = if M 40 9 = 0 then 0 else 1) → aX xc_314 (aSeek xc_314 122) [aR 145, aU] [aI a] (SH L) M ([aI (coV M w)], SH L, M) := by
    intro e a ha
    have s1 := sl 1 (by omega) (by omega)
    refine bl_314_122 ⟨fun q => k7 e a 0 ha ?_, fun q => k7 e a 1 ha ?_⟩
    · have : M 48 9 = 0 := by
        rcases s1 with z | z
        · exact z.2
        · exact absurd q z.1
      rw [if_pos this]
    · have : M 48 9 = 1 := by
        rcases s1 with z | z
        · exact absurd z.1 q
        · exact z.2
      rw [if_neg (by omega)]
  have s0 := sl 0 (by omega) (by omega)
  refine en_314 ⟨fun q => rI ?_, fun q => rI ?_, fun q => rI ?_, fun q => rI ?_, fun q => rI ?_, fun q => rI ?_, fun q => ⟨M, _, s_274 (by rw [rP_tg h]; exact ⟨t6.1, t6.2.1⟩), rI ?_⟩, fun q => ⟨fun z => k122 q 0 ?_, fun z => k122 q 1 ?_⟩, fun q => rI ?_, fun q => rI ?_, fun q => rI ?_, fun q0 q1 q2 q3 q4 q5 q6 q7 q8 q9 q10 => ⟨M, _, s_220, fun z2 => rI ?_, fun z2 => ?_⟩⟩
  · unfold coV; rw [if_pos q]; exact f.2.2.2.symm
  · unfold coV; rw [if_neg (by omega), if_pos q]; exact w9.2.2.symm
  · unfold coV; rw [if_neg (by omega), if_neg (by omega), if_pos q]; exact hr.symm
  · unfold coV; rw [if_neg (by omega), if_neg (by omega), if_neg (by omega), if_pos q]; exact n.2.2.symm
  · unfold coV; rw [if_neg (by omega), if_neg (by omega), if_neg (by omega), if_neg (by omega), if_pos q]; exact hl.2.1.symm
  · unfold coV; rw [if_neg (by omega), if_neg (by omega), if_neg (by omega), if_neg (by omega), if_neg (by omega), if_pos q]; exact ht.symm
  · unfold coV; rw [if_neg (by omega), if_neg (by omega), if_neg (by omega), if_neg (by omega), if_neg (by omega), if_neg (by omega), if_pos q, rP_tg h]
  · have : M 40 9 = 0 := by
      rcases s0 with y | y
      · exact y.2
      · exact absurd z y.1
    rw [if_pos this]
  · have : M 40 9 = 1 := by
      rcases s0 with y | y
      · exact absurd y.1 z
      · exact y.2
    rw [if_neg (by omega)]
  · unfold coV; rw [if_neg (by omega), if_neg (by omega), if_neg (by omega), if_neg (by omega), if_neg (by omega), if_neg (by omega), if_neg (by omega), if_neg (by omega), if_pos q]; exact f.1.symm
  · unfold coV; rw [if_neg (by omega), if_neg (by omega), if_neg (by omega), if_neg (by omega), if_neg (by omega), if_neg (by omega), if_neg (by omega), if_neg (by omega), if_neg (by omega), if_pos q]; exact f.2.1.symm
  · unfold coV; rw [if_neg (by omega), if_neg (by omega), if_neg (by omega), if_neg (by omega), if_neg (by omega), if_neg (by omega), if_neg (by omega), if_neg (by omega), if_neg (by omega), if_neg (by omega), if_pos q]; exact f.2.2.1.symm
  · unfold coV
    rw [if_neg q0, if_neg q1, if_neg q2, if_neg q3, if_neg q4, if_neg q5, if_neg q6, if_neg q7, if_neg q8, if_neg q9, if_neg q10]
    rw [bid0] at z2
    by_cases c : 20 ≤ w
    · rw [aWi (by omega) (by omega)] at z2
      rw [if_neg (by omega)]
    · rw [if_neg (by omega)]
  · rw [bid0, Classical.not_not] at z2
    have c : 20 ≤ w := by
      by_cases c : 20 ≤ w
      · exact c
      · exact absurd ⟨z2.1, by omega⟩ (aW_lo hw0 (by omega))
    rw [aWi (by omega) (by omega)] at z2 ⊢
    refine ⟨M, _, s_226 h z2.1 z2.2, rI ?_⟩
    unfold coV
    rw [if_neg q0, if_neg q1, if_neg q2, if_neg q3, if_neg q4, if_neg q5, if_neg q6, if_neg q7, if_neg q8, if_neg q9, if_neg q10, if_pos (by omega), (rP_tx3 h z2.1 z2.2).2.2.2]
end SMAL
