/-! frames; the relation between the class's cells and the model's -/
section REL2
variable {L : Nat} {M M1 M2 : aM}
def fr (lo hi : Int) (M M1 : aM) : Prop := ∀ a, (a < lo ∨ hi < a) → M1 a = M a
theorem fr_rf {lo hi : Int} : fr lo hi M M := fun _ _ => rfl
theorem fr_tr {lo hi : Int} (h : fr lo hi M M1) (h2 : fr lo hi M1 M2) : fr lo hi M M2 := fun a ha => (h2 a ha).trans (h a ha)
theorem fr_mn {lo hi lo1 hi1 : Int} (h : fr lo hi M M1) (a1 : lo1 ≤ lo) (a2 : hi ≤ hi1) : fr lo1 hi1 M M1 := fun a ha => h a (by omega)
theorem fr_set {lo hi r i v : Int} (h : fr lo hi M M1) (a1 : lo ≤ r ∧ r ≤ hi) : fr lo hi M (aSet M1 r i v) := fun a ha => (aSet_c (by omega)).trans (h a ha)
/-- what the model's queries leave as it is -/
def sc (M M1 : aM) : Prop := (∀ a, a ≠ 145 → (a < 147 ∨ 150 < a) → (a < 190 ∨ 209 < a) → M1 a = M a) ∧ ∀ j, j = 0 ∨ j = 9 ∨ j = 40 ∨ j = 48 → M1 145 j = M 145 j
theorem sc_rf : sc M M := ⟨fun _ _ _ _ => rfl, fun _ _ => rfl⟩
theorem sc_tr (h : sc M M1) (h2 : sc M1 M2) : sc M M2 := ⟨fun a x y z => (h2.1 a x y z).trans (h.1 a x y z), fun j hj => (h2.2 j hj).trans (h.2 j hj)⟩
theorem sc_set {r i v : Int} (h : sc M M1) (a : 147 ≤ r ∧ r ≤ 150 ∨ 190 ≤ r ∧ r ≤ 209) : sc M (aSet M1 r i v) :=
  ⟨fun b x y z => (aSet_c (by omega)).trans (h.1 b x y z), fun j hj => (aSet_r (by omega)).trans (h.2 j hj)⟩
theorem sc_fld {i v : Int} (h : sc M M1) (a : ¬ (i = 0 ∨ i = 9 ∨ i = 40 ∨ i = 48)) : sc M (aSet M1 145 i v) :=
  ⟨fun b x y z => (aSet_c x).trans (h.1 b x y z), fun j hj => (aSet_i (by omega)).trans (h.2 j hj)⟩
theorem sc_lo (h : sc M M1) {a : Int} (ha : a < 145) : M1 a = M a := h.1 a (by omega) (by omega) (by omega)
/-- a text, both sides -/
def rT (M : aM) (t : Int) : Prop := tOk M t ∧ (M 151 0 = M t 0 ∧ M 152 0 = M t 1 ∧ M 163 0 = M t 2 ∧ M 153 0 = M t 3) ∧
  (∀ k, 0 ≤ k → k < M t 3 → M 154 k = M (t + 2) k ∧ M 155 k = M (t + 3) k ∧ M 156 k = M (t + 4) k ∧ M 157 k = M (t + 5) k) ∧
  (0 ≤ M t 9 ∧ M t 9 ≤ 6 ∧ M 159 0 = M t 9) ∧
  ∀ k, 0 ≤ k → k < M t 9 → (0 ≤ M (t + 6) k ∧ M (t + 6) k < 4 ∧ M 160 k = M (t + 6) k) ∧ M (t + 7) k = spn (M 161 k) (M 162 k) ∧ 0 ≤ M 161 k ∧ M 161 k < M 162 k ∧ M 162 k ≤ 60
/-- things, both sides: the class's bed b, the model's row s -/
def rB (M : aM) (b s : Int) : Prop := bOk M b ∧ M 179 s = M b 0 ∧ (0 ≤ M b 8 ∧ M b 8 < 64 ∧ M 180 s = M b 8) ∧
  (∀ i, 0 ≤ i → i < M b 0 → M 181 (40 * s + i) = M (b + 1) i ∧ M 182 (40 * s + i) = M (b + 3) i ∧ M 183 (40 * s + i) = M (b + 4) i ∧ M 184 (40 * s + i) = M (b + 7) i) ∧
  ∀ i j, 0 ≤ i → i < M b 0 → 0 ≤ j → j < M b 0 → i ≠ j → M (b + 3) i + M (b + 5) i ≤ M (b + 3) j ∨ M (b + 3) j + M (b + 5) j ≤ M (b + 3) i ∨ M (b + 4) i + M (b + 6) i ≤ M (b + 4) j ∨ M (b + 4) j + M (b + 6) j ≤ M (b + 4) i
/-- how many of a kind -/
def cntK (M : aM) (b k : Int) : Int := sumI (fun j => bi (decide (M (b + 1) j = k))) 0 (M b 0)
/-- a bed that lies by a text -/
def rF (M : aM) (t b : Int) : Prop := (∀ i, 0 ≤ i → i < M b 0 → M (b + 1) i < M t 3 ∧ M (b + 2) i = M (t + 2) (M (b + 1) i) ∧
    (M (b + 7) i = 0 → M (b + 5) i = M (t + 3) (M (b + 1) i) ∧ M (b + 6) i = M (t + 4) (M (b + 1) i)) ∧ (M (b + 7) i = 1 → M (b + 5) i = M (t + 4) (M (b + 1) i) ∧ M (b + 6) i = M (t + 3) (M (b + 1) i)) ∧
    M (b + 3) i + M (b + 5) i ≤ M t 0 ∧ M (b + 4) i + M (b + 6) i ≤ M t 1) ∧
  ∀ k, 0 ≤ k → k < M t 3 → cntK M b k ≤ M (t + 5) k
/-- what lies, both sides -/
def rP (M : aM) : Prop := rT M (M 1 3) ∧ rB M 31 0 ∧ rF M (M 1 3) 31
theorem rT_cg {t : Int} (h : rT M t) (h0 : ∀ a, 151 ≤ a → a ≤ 163 → M1 a = M a) (h1 : ∀ a, t ≤ a → a ≤ t + 10 → M1 a = M a) : rT M1 t := by
  unfold rT tOk
  rw [h0 151 (by omega) (by omega), h0 152 (by omega) (by omega), h0 163 (by omega) (by omega), h0 153 (by omega) (by omega), h0 154 (by omega) (by omega), h0 155 (by omega) (by omega), h0 156 (by omega) (by omega), h0 157 (by omega) (by omega), h0 159 (by omega) (by omega), h0 160 (by omega) (by omega), h0 161 (by omega) (by omega), h0 162 (by omega) (by omega), h1 t (by omega) (by omega), h1 (t + 2) (by omega) (by omega), h1 (t + 3) (by omega) (by omega), h1 (t + 4) (by omega) (by omega), h1 (t + 5) (by omega) (by omega), h1 (t + 6) (by omega) (by omega), h1 (t + 7) (by omega) (by omega)]
  exact h
theorem rB_cg {b s : Int} (h : rB M b s) (h0 : ∀ a, 179 ≤ a → a ≤ 184 → M1 a = M a) (h1 : ∀ a, b ≤ a → a ≤ b + 7 → M1 a = M a) : rB M1 b s := by
  unfold rB bOk
  rw [h0 179 (by omega) (by omega), h0 180 (by omega) (by omega), h0 181 (by omega) (by omega), h0 182 (by omega) (by omega), h0 183 (by omega) (by omega), h0 184 (by omega) (by omega), h1 b (by omega) (by omega), h1 (b + 1) (by omega) (by omega), h1 (b + 2) (by omega) (by omega), h1 (b + 3) (by omega) (by omega), h1 (b + 4) (by omega) (by omega), h1 (b + 5) (by omega) (by omega), h1 (b + 6) (by omega) (by omega), h1 (b + 7) (by omega) (by omega)]
  exact h
theorem rF_cg {t b : Int} (h : rF M t b) (h0 : ∀ a, t ≤ a → a ≤ t + 10 → M1 a = M a) (h1 : ∀ a, b ≤ a → a ≤ b + 7 → M1 a = M a) : rF M1 t b := by
  unfold rF cntK
  rw [h0 t (by omega) (by omega), h0 (t + 2) (by omega) (by omega), h0 (t + 3) (by omega) (by omega), h0 (t + 4) (by omega) (by omega), h0 (t + 5) (by omega) (by omega), h1 b (by omega) (by omega), h1 (b + 1) (by omega) (by omega), h1 (b + 2) (by omega) (by omega), h1 (b + 3) (by omega) (by omega), h1 (b + 4) (by omega) (by omega), h1 (b + 5) (by omega) (by omega), h1 (b + 6) (by omega) (by omega), h1 (b + 7) (by omega) (by omega)]
  exact h
theorem rP_tx (h : rP M) : isTx (M 1 3) := h.1.1.1
theorem rP_cg (h : rP M) (h0 : ∀ a, (9 ≤ a ∧ a ≤ 63) ∨ (151 ≤ a ∧ a ≤ 184) → M1 a = M a) (h1 : M1 1 3 = M 1 3) : rP M1 := by
  have ht := tx_le (rP_tx h)
  unfold rP
  rw [h1]
  exact ⟨rT_cg h.1 (fun a x y => h0 a (by omega)) (fun a x y => h0 a (by omega)), rB_cg h.2.1 (fun a x y => h0 a (by omega)) (fun a x y => h0 a (by omega)), rF_cg h.2.2 (fun a x y => h0 a (by omega)) (fun a x y => h0 a (by omega))⟩
theorem rP_sc (h : rP M) (hs : sc M M1) : rP M1 := rP_cg h (fun a ha => hs.1 a (by omega) (by omega) (by omega)) (by rw [hs.1 1 (by omega) (by omega) (by omega)])
theorem rP_fr {lo hi : Int} (h : rP M) (hs : fr lo hi M M1) (a1 : 64 ≤ lo) (a2 : hi ≤ 150) : rP M1 := rP_cg h (fun a ha => hs a (by omega)) (by rw [hs 1 (by omega)])
/-- what is known of thing i, in the class's cells alone -/
theorem rP_n (h : rP M) : 0 ≤ M 31 0 ∧ M 31 0 ≤ 40 ∧ M 179 0 = M 31 0 := ⟨h.2.1.1.2.1.1, h.2.1.1.2.1.2, h.2.1.2.1⟩
theorem rP_i (h : rP M) {i : Int} (h1 : 0 ≤ i) (h2 : i < M 31 0) : (0 ≤ M 32 i ∧ M 32 i < 14) ∧ (0 ≤ M 33 i ∧ M 33 i ≤ 3) ∧ (0 ≤ M 34 i ∧ 1 ≤ M 36 i ∧ M 34 i + M 36 i ≤ 60) ∧ (0 ≤ M 35 i ∧ 1 ≤ M 37 i ∧ M 35 i + M 37 i ≤ 60) ∧ (M 38 i = 0 ∨ M 38 i = 1) := h.2.1.1.2.2 i h1 h2
theorem rP_m (h : rP M) {i : Int} (h1 : 0 ≤ i) (h2 : i < M 31 0) : M 181 i = M 32 i ∧ M 182 i = M 34 i ∧ M 183 i = M 35 i ∧ M 184 i = M 38 i ∧ M 32 i < M 153 0 ∧
    (if M 184 i = 0 then M 155 (M 181 i) else M 156 (M 181 i)) = M 36 i ∧ (if M 184 i = 0 then M 156 (M 181 i) else M 155 (M 181 i)) = M 37 i ∧ M 154 (M 181 i) = M 33 i ∧ M 34 i + M 36 i ≤ M 151 0 ∧ M 35 i + M 37 i ≤ M 152 0 := by
  have a := rP_i h h1 h2
  have b : M 181 i = M 32 i ∧ M 182 i = M 34 i ∧ M 183 i = M 35 i ∧ M 184 i = M 38 i := by
    have b := h.2.1.2.2.2.1 i h1 h2
    rw [show (40 : Int) * 0 + i = i by omega] at b
    exact b
  have c : M 32 i < M (M 1 3) 3 ∧ M 33 i = M (M 1 3 + 2) (M 32 i) ∧ (M 38 i = 0 → M 36 i = M (M 1 3 + 3) (M 32 i) ∧ M 37 i = M (M 1 3 + 4) (M 32 i)) ∧ (M 38 i = 1 → M 36 i = M (M 1 3 + 4) (M 32 i) ∧ M 37 i = M (M 1 3 + 3) (M 32 i)) ∧ M 34 i + M 36 i ≤ M (M 1 3) 0 ∧ M 35 i + M 37 i ≤ M (M 1 3) 1 := h.2.2.1 i h1 h2
  obtain ⟨b1, b2, b3, b4⟩ := b
  obtain ⟨c1, c2, c3, c4, c5, c6⟩ := c
  have e := h.1.2.2.1 (M 32 i) a.1.1 c1
  obtain ⟨e1, e2, e3, e4⟩ := e
  have f := h.1.2.1
  refine ⟨b1, b2, b3, b4, by omega, ?_, ?_, ?_, by omega, by omega⟩
  · rw [b1, b4, e2, e3]
    split
    · rename_i q; exact (c3 q).1.symm
    · rename_i q; exact (c4 (by omega)).1.symm
  · rw [b1, b4, e2, e3]
    split
    · rename_i q; exact (c3 q).2.symm
    · rename_i q; exact (c4 (by omega)).2.symm
  · rw [b1, e1]; exact c2.symm
/-- nothing laps -/
theorem rP_l (h : rP M) {i j : Int} (h1 : 0 ≤ i) (h2 : i < M 31 0) (h3 : 0 ≤ j) (h4 : j < M 31 0) (h5 : i ≠ j) : M 34 i + M 36 i ≤ M 34 j ∨ M 34 j + M 36 j ≤ M 34 i ∨ M 35 i + M 37 i ≤ M 35 j ∨ M 35 j + M 37 j ≤ M 35 i := h.2.1.2.2.2.2 i j h1 h2 h3 h4 h5
end REL2
/-! the model's small methods -/
section SPM
variable {L : Nat} {M : aM}
theorem s_219 {a0 a1 a2 : Int} : aE 219 [aI a0, aI a1, aI a2] (SH L) M ([aI (bi (decide (a1 ≤ a0 ∧ a0 ≤ a2)))], SH L, M) := by
  apply en_219
  repeat' (first | apply And.intro | intro _)
  all_goals (refine rI ?_; first | exact bip (by omega) | exact bin (by omega))
theorem s_220 {k : Int} : aE 220 [aR 145, aI k] (SH L) M ([aI (bi (decide (0 ≤ k ∧ k < M 153 0)))], SH L, M) := by
  apply en_220
  repeat' (first | apply And.intro | intro _)
  all_goals (refine rI ?_; first | exact bip (by omega) | exact bin (by omega))
theorem s_221 {k : Int} : aE 221 [aR 145, aI k] (SH L) M ([aI (bi (decide (0 ≤ k ∧ k < M 179 0)))], SH L, M) := by
  apply en_221
  repeat' (first | apply And.intro | intro _)
  all_goals (refine rI ?_; first | exact bip (by omega) | exact bin (by omega))
theorem s_223 (h : rP M) {i : Int} (h1 : 0 ≤ i) (h2 : i < M 31 0) : aE 223 [aR 145, aI i] (SH L) M ([aI (M 36 i)], SH L, M) := by
  have a := rP_i h h1 h2
  have n := rP_n h
  obtain ⟨b1, b2, b3, b4, b5, b6, b7, b8, b9⟩ := rP_m h h1 h2
  apply en_223
  simp only [ln0, ln1, ln2, ln3, ln4]
  refine ⟨by omega, fun q => ⟨by omega, by omega, rI ?_⟩, fun q => ⟨by omega, by omega, rI ?_⟩⟩
  · rw [if_pos q] at b6; exact b6.symm
  · rw [if_neg q] at b6; exact b6.symm
theorem s_224 (h : rP M) {i : Int} (h1 : 0 ≤ i) (h2 : i < M 31 0) : aE 224 [aR 145, aI i] (SH L) M ([aI (M 37 i)], SH L, M) := by
  have a := rP_i h h1 h2
  have n := rP_n h
  obtain ⟨b1, b2, b3, b4, b5, b6, b7, b8, b9⟩ := rP_m h h1 h2
  apply en_224
  simp only [ln0, ln1, ln2, ln3, ln4]
  refine ⟨by omega, fun q => ⟨by omega, by omega, rI ?_⟩, fun q => ⟨by omega, by omega, rI ?_⟩⟩
  · rw [if_pos q] at b7; exact b7.symm
  · rw [if_neg q] at b7; exact b7.symm
theorem s_225 (h : rP M) {i : Int} (h1 : 0 ≤ i) (h2 : i < M 31 0) : aE 225 [aR 145, aI i] (SH L) M ([aI (bi (decide (M 33 i = 2)))], SH L, M) := by
  have a := rP_i h h1 h2
  have n := rP_n h
  obtain ⟨b1, b2, b3, b4, b5, b6, b7, b8, b9⟩ := rP_m h h1 h2
  apply en_225
  simp only [ln0, ln1, ln2, ln3, ln4]
  refine ⟨by omega, by omega, fun q => rI ?_, fun q => rI ?_⟩
  · rw [b8] at q; exact bin q
  · rw [b8] at q; exact bip (by omega)
theorem s_226 (h : rP M) {k : Int} (h1 : 0 ≤ k) (h2 : k < M 153 0) : aE 226 [aR 145, aI k] (SH L) M ([aI (M 157 k - cntK M 31 k)], SH L, M) := by
  have n := rP_n h
  have f := h.1.2.1
  have t4 := h.1.1.2.2.2.2.1
  have t5 := h.1.1.2.2.2.2.2 k h1 (by omega)
  have e := h.1.2.2.1 k h1 (by omega)
  have key : ∀ i, ∀ a, 0 ≤ i → a ≤ 99 → -i ≤ a → aX xc_226 (aSeek xc_226 9) [aR 145, aI k, aI a, aI i] [] (SH L) M ([aI (a - sumI (fun j => bi (decide (M 32 j = k))) i (M 31 0))], SH L, M) := by
    refine upto (M 31 0) (fun i hi a h0 h1 h2 => ?_) (fun i hi ih a h0 h1 h2 => ?_)
    · refine bl_226_9 ⟨fun _ => rI (by rw [sumI_nil hi]; omega), fun q => absurd ?_ q⟩
      omega
    · have b := (rP_m h h0 hi).1
      apply bl_226_9
      simp only [ln0, ln1, ln2, ln3, ln4]
      refine ⟨fun q => absurd hi (by omega), fun _ => ⟨by omega, fun q => bl_226_32 ?_, fun q => bl_226_32 ?_⟩⟩
      · rw [b] at q
        rw [aWi (by omega) (by omega), sumI_step hi, bin q, Int.zero_add]
        exact ih a (by omega) (by omega) (by omega)
      · rw [b] at q
        rw [aWi (by omega) (by omega), aWi (by omega) (by omega), sumI_step hi, bip (by omega)]
        have := ih (a + (-1)) (by omega) (by omega) (by omega)
        rw [show a - (1 + sumI (fun j => bi (decide (M 32 j = k))) (i + 1) (M 31 0)) = a + (-1) - sumI (fun j => bi (decide (M 32 j = k))) (i + 1) (M 31 0) by omega]
        exact this
  apply en_226
  simp only [ln0, ln1, ln2, ln3, ln4]
  exact ⟨by omega, key 0 (M 157 k) (by omega) (by omega) (by omega)⟩
theorem s_230 (h : rP M) {x y : Int} : aE 230 [aR 145, aI x, aI y] (SH L) M ([aI (fndI (pOn M 31 x y) (-2) 0 (M 31 0))], SH L, M) := by
  have n := rP_n h
  have key : ∀ i, 0 ≤ i → aX xc_230 (aSeek xc_230 2) [aR 145, aI x, aI y, aI i] [] (SH L) M ([aI (fndI (pOn M 31 x y) (-2) i (M 31 0))], SH L, M) := by
    refine upto (M 31 0) (fun i hi h0 => ?_) (fun i hi ih h0 => ?_)
    · exact bl_230_2 ⟨fun _ => rI (by rw [fndI_nil hi]), fun q => absurd hi (by omega)⟩
    · have hj := rP_i h h0 hi
      obtain ⟨b1, b2, b3, b4, b5, b6, b7, b8, b9⟩ := rP_m h h0 hi
      have nx := bl_230_66 (a1 := x) (a2 := y) (a3 := i) (by rw [aWi (by omega) (by omega)]; exact ih (by omega))
      apply bl_230_2
      simp only [ln0, ln1, ln2, ln3, ln4]
      refine ⟨fun q => absurd hi (by omega), fun _ => ⟨by omega, fun q => ?_, fun q => ⟨by omega, _, _, s_223 h h0 hi, fun q2 => ?_, fun q2 => ⟨by omega, fun q3 => ?_, fun q3 => ⟨by omega, _, _, s_224 h h0 hi, fun q4 => ?_, fun q4 => ?_⟩⟩⟩⟩⟩
      · rw [fndI_no hi (by unfold pOn; simp only [decide_eq_true_eq]; show ¬ (M 34 i ≤ x ∧ x < M 34 i + M 36 i ∧ M 35 i ≤ y ∧ y < M 35 i + M 37 i); omega)]; exact nx
      · rw [aWi (by omega) (by omega)] at q2
        rw [fndI_no hi (by unfold pOn; simp only [decide_eq_true_eq]; show ¬ (M 34 i ≤ x ∧ x < M 34 i + M 36 i ∧ M 35 i ≤ y ∧ y < M 35 i + M 37 i); omega)]; exact nx
      · rw [fndI_no hi (by unfold pOn; simp only [decide_eq_true_eq]; show ¬ (M 34 i ≤ x ∧ x < M 34 i + M 36 i ∧ M 35 i ≤ y ∧ y < M 35 i + M 37 i); omega)]; exact nx
      · rw [aWi (by omega) (by omega)] at q4
        rw [fndI_no hi (by unfold pOn; simp only [decide_eq_true_eq]; show ¬ (M 34 i ≤ x ∧ x < M 34 i + M 36 i ∧ M 35 i ≤ y ∧ y < M 35 i + M 37 i); omega)]; exact nx
      · rw [aWi (by omega) (by omega)] at q2 q4
        refine rI ?_
        rw [fndI_yes hi (by unfold pOn; simp only [decide_eq_true_eq]; show M 34 i ≤ x ∧ x < M 34 i + M 36 i ∧ M 35 i ≤ y ∧ y < M 35 i + M 37 i; omega)]
  exact en_230 (key 0 (by omega))
theorem s_231 (h : rP M) {x y : Int} : aE 231 [aR 145, aI x, aI y] (SH L) M ([aI (if 0 ≤ x ∧ x < M (M 1 3) 0 ∧ 0 ≤ y ∧ y < M (M 1 3) 1 then fndI (pOn M 31 x y) (-2) 0 (M 31 0) else -1)], SH L, M) := by
  have f := h.1.2.1
  apply en_231
  repeat' (first | apply And.intro | refine ⟨_, _, s_230 h, ?_⟩ | intro _)
  all_goals (refine rI ?_; first | rw [if_neg (by omega)] | rw [if_pos (by omega)])
theorem s_232 (h : rP M) : aE 232 [aR 145] (SH L) M ([aI (M (M 1 3) 0 * M (M 1 3) 1 - sumI (fun j => M 36 j * M 37 j) 0 (M 31 0))], SH L, M) := by
  have n := rP_n h
  have f := h.1.2.1
  have hm := mul_le60 (a := M (M 1 3) 0) (b := M (M 1 3) 1) (by have := h.1.1.2.1; omega) (by have := h.1.1.2.2.1; omega)
  have key : ∀ i, ∀ a, 0 ≤ i → a ≤ 3600 → -(3600 * i) ≤ a → aX xc_232 (aSeek xc_232 16) [aR 145, aI a, aI i] [] (SH L) M ([aI (a - sumI (fun j => M 36 j * M 37 j) i (M 31 0))], SH L, M) := by
    refine upto (M 31 0) (fun i hi a h0 h1 h2 => ?_) (fun i hi ih a h0 h1 h2 => ?_)
    · exact bl_232_16 ⟨fun _ => rI (by rw [sumI_nil hi]; omega), fun q => absurd hi (by omega)⟩
    · have hj := rP_i h h0 hi
      have hm := mul_le60 (a := M 36 i) (b := M 37 i) (by omega) (by omega)
      apply bl_232_16
      refine ⟨fun q => absurd hi (by omega), fun _ => ⟨_, _, s_223 h h0 hi, _, _, s_224 h h0 hi, ?_⟩⟩
      rw [aWi (z := M 36 i * M 37 i) (by omega) (by omega), aWi (by omega) (by omega), aWi (z := i + 1) (by omega) (by omega), sumI_step hi]
      have := ih (a - M 36 i * M 37 i) (by omega) (by omega) (by omega)
      rw [show a - (M 36 i * M 37 i + sumI (fun j => M 36 j * M 37 j) (i + 1) (M 31 0)) = a - M 36 i * M 37 i - sumI (fun j => M 36 j * M 37 j) (i + 1) (M 31 0) by omega]
      exact this
  apply en_232
  rw [f.1, f.2.1, aWi (by omega) (by omega)]
  exact key 0 _ (by omega) (by omega) (by omega)
end SPM
