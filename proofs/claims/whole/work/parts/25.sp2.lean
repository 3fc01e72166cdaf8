/-! the class: texts and beds, and what they answer without a loop or with one -/
section SPB
variable {L : Nat} {M : aM}
/-- a text as it must be: sizes, kinds -/
def tOk (M : aM) (t : Int) : Prop := isTx t ∧ (1 ≤ M t 0 ∧ M t 0 ≤ 60) ∧ (1 ≤ M t 1 ∧ M t 1 ≤ 60) ∧ (1 ≤ M t 2 ∧ M t 2 ≤ 100) ∧ (0 ≤ M t 3 ∧ M t 3 ≤ 14) ∧
  ∀ k, 0 ≤ k → k < M t 3 → (0 ≤ M (t + 2) k ∧ M (t + 2) k ≤ 3) ∧ (1 ≤ M (t + 3) k ∧ M (t + 3) k ≤ 60) ∧ (1 ≤ M (t + 4) k ∧ M (t + 4) k ≤ 60) ∧ (0 ≤ M (t + 5) k ∧ M (t + 5) k ≤ 99)
/-- a bed as it must be -/
def bOk (M : aM) (b : Int) : Prop := isBd b ∧ (0 ≤ M b 0 ∧ M b 0 ≤ 40) ∧
  ∀ i, 0 ≤ i → i < M b 0 → (0 ≤ M (b + 1) i ∧ M (b + 1) i < 14) ∧ (0 ≤ M (b + 2) i ∧ M (b + 2) i ≤ 3) ∧ (0 ≤ M (b + 3) i ∧ 1 ≤ M (b + 5) i ∧ M (b + 3) i + M (b + 5) i ≤ 60) ∧ (0 ≤ M (b + 4) i ∧ 1 ≤ M (b + 6) i ∧ M (b + 4) i + M (b + 6) i ≤ 60) ∧ (M (b + 7) i = 0 ∨ M (b + 7) i = 1)
theorem b31 (hb : bOk M 31) {i : Int} (h1 : 0 ≤ i) (h2 : i < M 31 0) : (0 ≤ M 32 i ∧ M 32 i < 14) ∧ (0 ≤ M 33 i ∧ M 33 i ≤ 3) ∧ (0 ≤ M 34 i ∧ 1 ≤ M 36 i ∧ M 34 i + M 36 i ≤ 60) ∧ (0 ≤ M 35 i ∧ 1 ≤ M 37 i ∧ M 35 i + M 37 i ≤ 60) ∧ (M 38 i = 0 ∨ M 38 i = 1) := hb.2.2 i h1 h2
theorem s_139 {t k : Int} (ht : isTx t) (h14 : M t 3 ≤ 14) : aE 139 [aR t, aI k] (SH L) M ([aI (bi (decide (0 ≤ k ∧ k < M t 3 ∧ ¬ M (t + 2) k = 0)))], SH L, M) := by
  apply en_139
  simp only [tx ht]
  repeat' (first | apply And.intro | refine ⟨_, _, s_55 ht, ?_⟩ | intro _)
  all_goals (try simp only [bid0, bid1] at *)
  all_goals first | exact True.intro | omega | (refine rI ?_; first | exact bip (by omega) | exact bin (by omega))
theorem s_140 {k : Int} (ht : isTx (M 1 3)) (h14 : M (M 1 3) 3 ≤ 14) (hk : k < 2147483648) : aE 140 [aR 1, aI k] (SH L) M ([aI (bi (decide (10 ≤ k ∧ (k - 10) / 2 < M (M 1 3) 3 ∧ ¬ M (M 1 3 + 2) ((k - 10) / 2) = 0)))], SH L, M) := by
  apply en_140
  simp only [tx ht]
  refine ⟨fun h => rI (bin (by omega)), fun h => ⟨trivial, ?_⟩⟩
  rw [aWi (by omega) (by omega), aDiv_nn (by omega) (by omega) (by omega) (by omega)]
  refine ⟨_, _, s_139 ht h14, fun h => ?_, fun h => ?_⟩
  all_goals (try simp only [bid0, bid1] at *)
  all_goals (refine rI ?_; first | exact bip (by omega) | exact bin (by omega))
theorem s_149 {w e : Int} (hw : 0 ≤ w ∧ w < 2147483648) (he : e < 2147483648) : aE 149 [aI w, aI e] (SH L) M ([aI (if 0 < e ∧ w % e = 0 then w / e else 0)], SH L, M) := by
  apply en_149
  refine ⟨fun h => rI (if_neg (by omega)), fun h => ⟨by omega, fun h2 => rI ?_, fun h2 => ⟨by omega, rI ?_⟩⟩⟩
  · rw [aRem_nn hw.1 hw.2 (by omega) he] at h2
    rw [if_neg (by omega)]
  · rw [aRem_nn hw.1 hw.2 (by omega) he] at h2
    rw [if_pos ⟨by omega, by omega⟩, aDiv_nn hw.1 hw.2 (by omega) he]
theorem s_150 {p r q e : Int} (hp : 0 ≤ p ∧ p < 2147483648) (hr : r < 2147483648) (hq : 0 ≤ q ∧ q < 2147483648) (he : e < 2147483648) : aE 150 [aI p, aI r, aI q, aI e] (SH L) M ([aI (if 0 < r ∧ 0 < e then min (p / r) (q / e) else 0)], SH L, M) := by
  apply en_150
  refine ⟨fun h => rI (if_neg (by omega)), fun h => ⟨fun h2 => rI (if_neg (by omega)), fun h2 => ⟨by omega, by omega, rI ?_⟩⟩⟩
  rw [if_pos ⟨by omega, by omega⟩, aDiv_nn hp.1 hp.2 (by omega) hr, aDiv_nn hq.1 hq.2 (by omega) he]
theorem s_153 {h : Int} : aE 153 [aR 118, aI h] (SH L) M ([aI (bi (decide (0 ≤ h ∧ h ≤ 60 ∧ M 120 h < 1000000)))], SH L, M) := by
  apply en_153
  simp only [ln0, ln1, ln2, ln3, ln4]
  repeat' (first | apply And.intro | intro _)
  all_goals first | exact True.intro | omega | (refine rI ?_; first | exact bip (by omega) | exact bin (by omega))
theorem s_154 {h : Int} : aE 154 [aR 118, aI h] (SH L) M ([aI (if 0 ≤ h ∧ h ≤ 60 then M 120 h else 1000000)], SH L, M) := by
  apply en_154
  simp only [ln0, ln1, ln2, ln3, ln4]
  repeat' (first | apply And.intro | intro _)
  all_goals first | exact True.intro | omega | (refine rI ?_; first | rw [if_neg (by omega)] | rw [if_pos (by omega)])
theorem s_159 {k : Int} (h60 : M 138 0 ≤ 60) : aE 159 [aR 138, aI k] (SH L) M ([aI (bi (decide (0 ≤ k ∧ k < M 138 0 ∧ ¬ M 139 k = 2)))], SH L, M) := by
  apply en_159
  simp only [ln0, ln1, ln2, ln3, ln4]
  repeat' (first | apply And.intro | intro _)
  all_goals first | exact True.intro | omega | (refine rI ?_; first | exact bip (by omega) | exact bin (by omega))
theorem s_163 {d h : Int} : aE 163 [aR 138, aI d, aI h] (SH L) M ([aI (if 0 ≤ d ∧ d < 100 then max 0 (aW (aW (M 143 d - h) - M 144 d)) else 0)], SH L, M) := by
  apply en_163
  simp only [ln0, ln1, ln2, ln3, ln4]
  repeat' (first | apply And.intro | intro _)
  all_goals first | exact True.intro | omega | (refine rI ?_; first | rw [if_neg (by omega)] | rw [if_pos (by omega)])
def pCov (M : aM) (b x y w h j : Int) : Bool := decide (x < M (b + 3) j + M (b + 5) j ∧ M (b + 3) j < x + w ∧ y < M (b + 4) j + M (b + 6) j ∧ M (b + 4) j < y + h)
theorem s_58 {b x y w h : Int} (hb : bOk M b) (hx : 0 ≤ x ∧ x ≤ 60) (hy : 0 ≤ y ∧ y ≤ 60) (hw : 0 ≤ w ∧ w ≤ 60) (hh : 0 ≤ h ∧ h ≤ 60) : aE 58 [aR b, aI x, aI y, aI w, aI h] (SH L) M ([aI (bi (anyI (pCov M b x y w h) 0 (M b 0)))], SH L, M) := by
  have key : ∀ i, 0 ≤ i → aX xc_58 (aSeek xc_58 3) [aR b, aI x, aI y, aI w, aI h, aI i] [] (SH L) M ([aI (bi (anyI (pCov M b x y w h) i (M b 0)))], SH L, M) := by
    refine upto (M b 0) (fun i hi h0 => ?_) (fun i hi ih h0 => ?_)
    · exact bl_58_3 ⟨(bd hb.1).1, fun _ => rI (by rw [anyI_nil hi]; rfl), fun q => absurd hi q⟩
    · have hj := hb.2.2 i h0 hi
      have h40 := hb.2.1
      have nx := bl_58_79 (a0 := b) (a1 := x) (a2 := y) (a3 := w) (a4 := h) (a5 := i) (by rw [aWi (by omega) (by omega)]; exact ih (by omega))
      apply bl_58_3
      simp (disch := omega) only [bd hb.1, aWi]
      repeat' (first | apply And.intro | intro _)
      all_goals first | exact True.intro | omega | (rw [anyI_no hi (by unfold pCov; simp only [decide_eq_true_eq]; omega)]; exact nx) | (refine rI ?_; rw [anyI_yes hi (by unfold pCov; simp only [decide_eq_true_eq]; omega)]; rfl)
  exact en_58 (key 0 (by omega))
theorem s_59 {b k : Int} (hb : bOk M b) : aE 59 [aR b, aI k] (SH L) M ([aI (sumI (fun j => bi (decide (M (b + 1) j = k))) 0 (M b 0))], SH L, M) := by
  have h40 := hb.2.1
  have key : ∀ i, ∀ a, 0 ≤ i → 0 ≤ a → a ≤ i → aX xc_59 (aSeek xc_59 4) [aR b, aI k, aI a, aI i] [] (SH L) M ([aI (a + sumI (fun j => bi (decide (M (b + 1) j = k))) i (M b 0))], SH L, M) := by
    refine upto (M b 0) (fun i hi a h0 h1 h2 => ?_) (fun i hi ih a h0 h1 h2 => ?_)
    · exact bl_59_4 ⟨(bd hb.1).1, fun _ => rI (by rw [sumI_nil hi]; omega), fun q => absurd hi q⟩
    · apply bl_59_4
      simp only [bd hb.1]
      refine ⟨trivial, fun q => absurd hi (by omega), fun _ => ⟨trivial, ⟨h0, by omega⟩, fun q => bl_59_25 ?_, fun q => bl_59_25 ?_⟩⟩
      · rw [aWi (by omega) (by omega), sumI_step hi, bin q, Int.zero_add]
        exact ih a (by omega) h1 (by omega)
      · rw [aWi (by omega) (by omega), aWi (by omega) (by omega), sumI_step hi, bip (by omega), ← Int.add_assoc]
        exact ih (a + 1) (by omega) (by omega) (by omega)
  have := key 0 0 (by omega) (by omega) (by omega)
  rw [Int.zero_add] at this
  exact en_59 this
theorem cnt_le {f : Int → Bool} {n : Int} (h : 0 ≤ n) : 0 ≤ sumI (fun j => bi (f j)) 0 n ∧ sumI (fun j => bi (f j)) 0 n ≤ n := by
  have := sumI_le (f := fun j => bi (f j)) (n := n) (c := 1) 0 (fun j _ _ => bi_le _)
  exact ⟨this.1, by have := this.2 h; omega⟩
theorem s_60 {b t k : Int} (hb : bOk M b) (ht : tOk M t) : aE 60 [aR b, aR t, aI k] (SH L) M ([aI (if 0 ≤ k ∧ k < M t 3 then M (t + 5) k - sumI (fun j => bi (decide (M (b + 1) j = k))) 0 (M b 0) else 0)], SH L, M) := by
  have h1 := hb.2.1
  have h2 := ht.2.2.2.2
  have h3 := cnt_le (f := fun j => decide (M (b + 1) j = k)) h1.1
  apply en_60
  simp only [tx ht.1, bd hb.1]
  refine ⟨trivial, _, _, s_55 ht.1, fun q => ?_, fun q => ?_⟩
  · rw [bid0] at q
    exact rI (if_neg q)
  · rw [bid0, Classical.not_not] at q
    have h4 := h2.2 k q.1 q.2
    refine ⟨trivial, ⟨q.1, by omega⟩, trivial, _, _, s_59 hb, rI ?_⟩
    rw [if_pos q, aWi (by omega) (by omega)]
def pOn (M : aM) (b x y j : Int) : Bool := decide (M (b + 3) j ≤ x ∧ x < M (b + 3) j + M (b + 5) j ∧ M (b + 4) j ≤ y ∧ y < M (b + 4) j + M (b + 6) j)
theorem s_67 {b x y : Int} (hb : bOk M b) : aE 67 [aR b, aI x, aI y] (SH L) M ([aI (fndI (pOn M b x y) (-2) 0 (M b 0))], SH L, M) := by
  have key : ∀ i, 0 ≤ i → aX xc_67 (aSeek xc_67 2) [aR b, aI x, aI y, aI i] [] (SH L) M ([aI (fndI (pOn M b x y) (-2) i (M b 0))], SH L, M) := by
    refine upto (M b 0) (fun i hi h0 => ?_) (fun i hi ih h0 => ?_)
    · exact bl_67_2 ⟨(bd hb.1).1, fun _ => rI (by rw [fndI_nil hi]), fun q => absurd hi q⟩
    · have hj := hb.2.2 i h0 hi
      have h40 := hb.2.1
      have nx := bl_67_66 (a0 := b) (a1 := x) (a2 := y) (a3 := i) (by rw [aWi (by omega) (by omega)]; exact ih (by omega))
      apply bl_67_2
      simp (disch := omega) only [bd hb.1, aWi]
      repeat' (first | apply And.intro | intro _)
      all_goals first | exact True.intro | omega | (rw [fndI_no hi (by unfold pOn; simp only [decide_eq_true_eq]; omega)]; exact nx) | (refine rI ?_; rw [fndI_yes hi (by unfold pOn; simp only [decide_eq_true_eq]; omega)])
  exact en_67 (key 0 (by omega))
theorem s_68 {x y : Int} (hb : bOk M 31) (ht : isTx (M 1 3)) : aE 68 [aR 1, aI x, aI y] (SH L) M ([aI (if 0 ≤ x ∧ x < M (M 1 3) 0 ∧ 0 ≤ y ∧ y < M (M 1 3) 1 then fndI (pOn M 31 x y) (-2) 0 (M 31 0) else -1)], SH L, M) := by
  apply en_68
  simp only [tx ht]
  repeat' (first | apply And.intro | refine ⟨_, _, s_67 hb, ?_⟩ | intro _)
  all_goals first | exact True.intro | (refine rI ?_; first | rw [if_neg (by omega)] | rw [if_pos (by omega)])
theorem mul_le60 {a b : Int} (h1 : 0 ≤ a ∧ a ≤ 60) (h2 : 0 ≤ b ∧ b ≤ 60) : 0 ≤ a * b ∧ a * b ≤ 3600 := by
  refine ⟨Int.mul_nonneg h1.1 h2.1, ?_⟩
  have := Int.mul_le_mul h1.2 h2.2 h2.1 (by omega : (0 : Int) ≤ 60)
  omega
theorem s_69 {b : Int} (hb : bOk M b) : aE 69 [aR b] (SH L) M ([aI (sumI (fun j => M (b + 5) j * M (b + 6) j) 0 (M b 0))], SH L, M) := by
  have h40 := hb.2.1
  have key : ∀ i, ∀ a, 0 ≤ i → 0 ≤ a → a ≤ 3600 * i → aX xc_69 (aSeek xc_69 4) [aR b, aI a, aI i] [] (SH L) M ([aI (a + sumI (fun j => M (b + 5) j * M (b + 6) j) i (M b 0))], SH L, M) := by
    refine upto (M b 0) (fun i hi a h0 h1 h2 => ?_) (fun i hi ih a h0 h1 h2 => ?_)
    · exact bl_69_4 ⟨(bd hb.1).1, fun _ => rI (by rw [sumI_nil hi]; omega), fun q => absurd hi q⟩
    · have hj := hb.2.2 i h0 hi
      have hm := mul_le60 (a := M (b + 5) i) (b := M (b + 6) i) (by omega) (by omega)
      apply bl_69_4
      simp only [bd hb.1]
      refine ⟨trivial, fun q => absurd hi (by omega), fun _ => ⟨trivial, ⟨h0, by omega⟩, trivial, ⟨h0, by omega⟩, ?_⟩⟩
      rw [aWi (z := M (b + 5) i * M (b + 6) i) (by omega) (by omega), aWi (by omega) (by omega), aWi (z := i + 1) (by omega) (by omega), sumI_step hi, ← Int.add_assoc]
      exact ih _ (by omega) (by omega) (by omega)
  have := key 0 0 (by omega) (by omega) (by omega)
  rw [Int.zero_add] at this
  exact en_69 this
theorem s_70 (hb : bOk M 31) (ht : tOk M (M 1 3)) : aE 70 [aR 1] (SH L) M ([aI (M (M 1 3) 0 * M (M 1 3) 1 - sumI (fun j => M 36 j * M 37 j) 0 (M 31 0))], SH L, M) := by
  have h40 := hb.2.1
  have hm := mul_le60 (a := M (M 1 3) 0) (b := M (M 1 3) 1) (by have := ht.2.1; omega) (by have := ht.2.2.1; omega)
  have hs := sumI_le (f := fun j => M 36 j * M 37 j) (n := M 31 0) (c := 3600) 0 (fun j h1 h2 => by
    have hj := b31 hb h1 h2
    exact mul_le60 (a := M 36 j) (b := M 37 j) (by omega) (by omega))
  have hs2 := hs.2 h40.1
  apply en_70
  refine ⟨(tx ht.1).1, (tx ht.1).1, _, _, s_69 hb, rI ?_⟩
  rw [aWi (z := M (M 1 3) 0 * M (M 1 3) 1) (by omega) (by omega)]
  show _ = aW (_ - sumI (fun j => M 36 j * M 37 j) 0 (M 31 0))
  rw [aWi (by omega) (by omega)]
end SPB
