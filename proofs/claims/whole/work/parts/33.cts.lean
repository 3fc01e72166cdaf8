/-! the pairs that touch -/
section CTS
variable {L : Nat} {M M1 M2 : aM}
theorem sumI_shift {f : Int → Int} {n : Int} : ∀ i, sumI (fun p => f (p - 1)) (i + 1) (n + 1) = sumI f i n := by
  refine upto n (fun i hi => ?_) (fun i hi ih => ?_)
  · rw [sumI_nil hi, sumI_nil (by omega)]
  · rw [sumI_step hi, sumI_step (by omega), ih, show i + 1 - 1 = i by omega]
theorem sumI_swap {f : Int → Int → Int} {m n : Int} : ∀ i, sumI (fun a => sumI (fun b => f a b) 0 n) i m = sumI (fun b => sumI (fun a => f a b) i m) 0 n := by
  refine upto m (fun i hi => ?_) (fun i hi ih => ?_)
  · rw [sumI_nil hi, sumI_0 0 (fun j _ _ => sumI_nil hi)]
  · rw [sumI_step hi, ih, ← sumI_add]
    exact sumI_congr 0 (fun j _ _ => (sumI_step (f := fun a => f a j) hi).symm)
theorem sumI_one {f : Int → Int} {n : Int} : ∀ i, (∀ j, i ≤ j → j < n → 0 ≤ f j ∧ f j ≤ 1) → (∀ j k, i ≤ j → j < n → i ≤ k → k < n → f j = 1 → f k = 1 → j = k) → sumI f i n ≤ 1 := by
  refine upto n (fun i hi _ _ => by rw [sumI_nil hi]; omega) (fun i hi ih h1 h2 => ?_)
  rw [sumI_step hi]
  have a := h1 i (by omega) hi
  by_cases c : f i = 1
  · rw [sumI_0 (i + 1) (fun j x y => by
      have b := h1 j (by omega) y
      by_cases d : f j = 1
      · have := h2 i j (by omega) hi (by omega) y c d
        omega
      · omega)]
    omega
  · have := ih (fun j x y => h1 j (by omega) y) (fun j k x y z w => h2 j k (by omega) y (by omega) w)
    omega
theorem sumI_pick {f : Int → Int} {n t : Int} : ∀ i, i ≤ t → t < n → (∀ j, i ≤ j → j < n → j ≠ t → f j = 0) → sumI f i n = f t := by
  refine upto n (fun i hi a b _ => by omega) (fun i hi ih a b h => ?_)
  rw [sumI_step hi]
  by_cases c : i = t
  · rw [sumI_0 (i + 1) (fun j x y => h j (by omega) y (by omega)), c]
    omega
  · rw [ih (by omega) b (fun j x y z => h j (by omega) y z), h i (by omega) hi c]
    omega
theorem sumI_mono {f g : Int → Int} {n : Int} : ∀ i, (∀ j, i ≤ j → j < n → f j ≤ g j) → sumI f i n ≤ sumI g i n := by
  refine upto n (fun i hi _ => ?_) (fun i hi ih h => ?_)
  · rw [sumI_nil hi, sumI_nil hi]; omega
  · rw [sumI_step hi, sumI_step hi]
    have := h i (by omega) hi
    have := ih (fun j x y => h j (by omega) y)
    omega
/-- putting a pair among the others -/
def ctI (M : aM) (c i a b w q : Int) : aM := aSet (aSet (aSet (aSet (aSet M (c + 1) i a) (c + 2) i b) (c + 3) i w) (c + 4) i q) c 0 (M c 0 + 1)
def ctS (M : aM) (c i : Int) : aM := aSet (aSet (aSet (aSet M (c + 1) i (M (c + 1) (i - 1))) (c + 2) i (M (c + 2) (i - 1))) (c + 3) i (M (c + 3) (i - 1))) (c + 4) i (M (c + 4) (i - 1))
theorem aSet_q {r i v p : Int} : aSet M r i v r p = if p = i then v else M r p := by
  by_cases c : p = i
  · rw [if_pos c, c, aSet_e]
  · rw [if_neg c, aSet_i c]
theorem ctI_r {c i a b w q p : Int} : ctI M c i a b w q (c + 1) p = (if p = i then a else M (c + 1) p) ∧ ctI M c i a b w q (c + 2) p = (if p = i then b else M (c + 2) p) ∧ ctI M c i a b w q (c + 3) p = (if p = i then w else M (c + 3) p) ∧ ctI M c i a b w q (c + 4) p = (if p = i then q else M (c + 4) p) := by
  unfold ctI
  refine ⟨?_, ?_, ?_, ?_⟩
  all_goals (simp (disch := omega) only [aSet_c, aSet_q])
theorem ctS_r {c i p : Int} : ctS M c i (c + 1) p = (if p = i then M (c + 1) (i - 1) else M (c + 1) p) ∧ ctS M c i (c + 2) p = (if p = i then M (c + 2) (i - 1) else M (c + 2) p) ∧ ctS M c i (c + 3) p = (if p = i then M (c + 3) (i - 1) else M (c + 3) p) ∧ ctS M c i (c + 4) p = (if p = i then M (c + 4) (i - 1) else M (c + 4) p) := by
  unfold ctS
  refine ⟨?_, ?_, ?_, ?_⟩
  all_goals (simp (disch := omega) only [aSet_c, aSet_q])
theorem s_76 {c a b w q : Int} (hc : isCt c) (hp : 0 ≤ M c 0 ∧ M c 0 < 120) : ∃ i M1, aE 76 [aR c, aI a, aI b, aI w, aI q] (SH L) M ([], SH L, M1) ∧ fr c (c + 4) M M1 ∧ M1 c 0 = M c 0 + 1 ∧ (0 ≤ i ∧ i ≤ M c 0) ∧
    (∀ p, 0 ≤ p → p ≤ M c 0 → M1 (c + 1) p = (if p < i then M (c + 1) p else if p = i then a else M (c + 1) (p - 1)) ∧ M1 (c + 2) p = (if p < i then M (c + 2) p else if p = i then b else M (c + 2) (p - 1)) ∧
      M1 (c + 3) p = (if p < i then M (c + 3) p else if p = i then w else M (c + 3) (p - 1)) ∧ M1 (c + 4) p = (if p < i then M (c + 4) p else if p = i then q else M (c + 4) (p - 1))) ∧
    (0 < i → M (c + 4) (i - 1) ≤ q) ∧ ∀ p, i ≤ p → p < M c 0 → q < M (c + 4) p := by
  have cl := ct_le hc
  have fin : ∀ i, ∀ M' : aM, 0 ≤ i → i ≤ M c 0 → fr c (c + 4) M M' → M' c = M c →
      (∀ p, 0 ≤ p → p < i → M' (c + 1) p = M (c + 1) p ∧ M' (c + 2) p = M (c + 2) p ∧ M' (c + 3) p = M (c + 3) p ∧ M' (c + 4) p = M (c + 4) p) →
      (∀ p, i < p → p ≤ M c 0 → M' (c + 1) p = M (c + 1) (p - 1) ∧ M' (c + 2) p = M (c + 2) (p - 1) ∧ M' (c + 3) p = M (c + 3) (p - 1) ∧ M' (c + 4) p = M (c + 4) (p - 1)) →
      (∀ p, i ≤ p → p < M c 0 → q < M (c + 4) p) → (0 < i → M (c + 4) (i - 1) ≤ q) →
      aX xc_76 (aSeek xc_76 105) [aR c, aI a, aI b, aI w, aI q, aI i] [] (SH L) M' ([], SH L, ctI M' c i a b w q) ∧ fr c (c + 4) M (ctI M' c i a b w q) ∧ ctI M' c i a b w q c 0 = M c 0 + 1 ∧ (0 ≤ i ∧ i ≤ M c 0) ∧
      (∀ p, 0 ≤ p → p ≤ M c 0 → ctI M' c i a b w q (c + 1) p = (if p < i then M (c + 1) p else if p = i then a else M (c + 1) (p - 1)) ∧ ctI M' c i a b w q (c + 2) p = (if p < i then M (c + 2) p else if p = i then b else M (c + 2) (p - 1)) ∧
        ctI M' c i a b w q (c + 3) p = (if p < i then M (c + 3) p else if p = i then w else M (c + 3) (p - 1)) ∧ ctI M' c i a b w q (c + 4) p = (if p < i then M (c + 4) p else if p = i then q else M (c + 4) (p - 1))) ∧
      (0 < i → M (c + 4) (i - 1) ≤ q) ∧ ∀ p, i ≤ p → p < M c 0 → q < M (c + 4) p := by
    intro i M' h0 h1 hf hc0 hlo hhi hgt hle
    refine ⟨?_, ?_, ?_, ⟨h0, h1⟩, ?_, hle, hgt⟩
    · apply bl_76_105
      simp only [ct hc]
      refine ⟨trivial, by omega, trivial, by omega, trivial, by omega, trivial, by omega, trivial, trivial, rM ?_⟩
      simp (disch := omega) only [aSet_c]
      rw [aWi (by rw [hc0]; omega) (by rw [hc0]; omega)]
      rfl
    · exact fr_set (fr_set (fr_set (fr_set (fr_set hf (by omega)) (by omega)) (by omega)) (by omega)) (by omega)
    · unfold ctI
      rw [aSet_e, hc0]
    · intro p p0 p1
      obtain ⟨r1, r2, r3, r4⟩ := ctI_r (M := M') (c := c) (i := i) (a := a) (b := b) (w := w) (q := q) (p := p)
      rw [r1, r2, r3, r4]
      by_cases e : p = i
      · simp only [if_pos e, if_neg (show ¬ p < i by omega)]
        exact ⟨trivial, trivial, trivial, trivial⟩
      · by_cases e2 : p < i
        · simp only [if_neg e, if_pos e2]
          exact hlo p p0 e2
        · simp only [if_neg e, if_neg e2]
          exact hhi p (by omega) p1
  have key : ∀ i, ∀ M' : aM, 0 ≤ i → i ≤ M c 0 → fr c (c + 4) M M' → M' c = M c →
      (∀ p, 0 ≤ p → p < i → M' (c + 1) p = M (c + 1) p ∧ M' (c + 2) p = M (c + 2) p ∧ M' (c + 3) p = M (c + 3) p ∧ M' (c + 4) p = M (c + 4) p) →
      (∀ p, i < p → p ≤ M c 0 → M' (c + 1) p = M (c + 1) (p - 1) ∧ M' (c + 2) p = M (c + 2) (p - 1) ∧ M' (c + 3) p = M (c + 3) (p - 1) ∧ M' (c + 4) p = M (c + 4) (p - 1)) →
      (∀ p, i ≤ p → p < M c 0 → q < M (c + 4) p) →
      ∃ k M1, aX xc_76 (aSeek xc_76 16) [aR c, aI a, aI b, aI w, aI q, aI i] [] (SH L) M' ([], SH L, M1) ∧ fr c (c + 4) M M1 ∧ M1 c 0 = M c 0 + 1 ∧ (0 ≤ k ∧ k ≤ M c 0) ∧
      (∀ p, 0 ≤ p → p ≤ M c 0 → M1 (c + 1) p = (if p < k then M (c + 1) p else if p = k then a else M (c + 1) (p - 1)) ∧ M1 (c + 2) p = (if p < k then M (c + 2) p else if p = k then b else M (c + 2) (p - 1)) ∧
        M1 (c + 3) p = (if p < k then M (c + 3) p else if p = k then w else M (c + 3) (p - 1)) ∧ M1 (c + 4) p = (if p < k then M (c + 4) p else if p = k then q else M (c + 4) (p - 1))) ∧
      (0 < k → M (c + 4) (k - 1) ≤ q) ∧ ∀ p, k ≤ p → p < M c 0 → q < M (c + 4) p := by
    refine downto 0 (fun i hi M' h0 h1 hf hc0 hlo hhi hgt => ?_) (fun i hi ih M' h0 h1 hf hc0 hlo hhi hgt => ?_)
    · obtain ⟨r, x⟩ := fin i M' h0 h1 hf hc0 hlo hhi hgt (fun z => by omega)
      exact ⟨i, _, bl_76_16 ⟨fun _ => r, fun z => absurd hi z⟩, x⟩
    · have e1 : M' (c + 4) (i - 1) = M (c + 4) (i - 1) := (hlo (i - 1) (by omega) (by omega)).2.2.2
      by_cases d : M (c + 4) (i - 1) ≤ q
      · obtain ⟨r, x⟩ := fin i M' h0 h1 hf hc0 hlo hhi hgt (fun z => d)
        refine ⟨i, _, bl_76_16 ⟨fun _ => r, fun z => ?_⟩, x⟩
        simp only [ct hc]
        rw [aWi (z := i - 1) (by omega) (by omega), e1]
        exact ⟨trivial, by omega, fun _ => r, fun z => absurd d z⟩
      · obtain ⟨k, M1, r, x⟩ := ih (ctS M' c i) (by omega) (by omega) (fr_set (fr_set (fr_set (fr_set hf (by omega)) (by omega)) (by omega)) (by omega)) (by
            unfold ctS
            simp (disch := omega) only [aSet_c]
            exact hc0) (fun p p0 p1 => by
            obtain ⟨r1, r2, r3, r4⟩ := ctS_r (M := M') (c := c) (i := i) (p := p)
            rw [r1, r2, r3, r4]
            simp only [if_neg (show ¬ p = i by omega)]
            exact hlo p p0 (by omega)) (fun p p0 p1 => by
            obtain ⟨r1, r2, r3, r4⟩ := ctS_r (M := M') (c := c) (i := i) (p := p)
            rw [r1, r2, r3, r4]
            by_cases e : p = i
            · simp only [if_pos e]
              rw [e]
              exact hlo (i - 1) (by omega) (by omega)
            · simp only [if_neg e]
              exact hhi p (by omega) p1) (fun p p0 p1 => by
            by_cases e : p = i - 1
            · rw [e]; omega
            · exact hgt p (by omega) p1)
        refine ⟨k, M1, bl_76_16 ⟨fun z => absurd hi (by omega), fun _ => ?_⟩, x⟩
        simp only [ct hc]
        rw [aWi (z := i - 1) (by omega) (by omega), e1, aWi (z := i + (-1)) (by omega) (by omega)]
        refine ⟨trivial, by omega, fun z => absurd z d, fun _ => ⟨trivial, trivial, by omega, by omega, trivial, trivial, by omega, by omega, trivial, trivial, by omega, by omega, trivial, trivial, by omega, by omega, ?_⟩⟩
        simp (disch := omega) only [aSet_c]
        rw [show i + (-1) = i - 1 by omega]
        exact r
  obtain ⟨k, M1, r, x⟩ := key (M c 0) M hp.1 (by omega) fr_rf rfl (fun p _ _ => ⟨rfl, rfl, rfl, rfl⟩) (fun p p0 p1 => by omega) (fun p p0 p1 => by omega)
  refine ⟨k, M1, en_76 ?_, x⟩
  simp only [ct hc]
  exact ⟨trivial, fun _ => ⟨trivial, r⟩, fun z => absurd hp.2 z⟩
/-- two things that touch one behind the other: across (ax 0), along (ax 1) -/
def adj (M : aM) (ax i j : Int) : Bool := decide (M (34 + ax) i + M (36 + ax) i = M (34 + ax) j ∧ 0 < ctc M i j)
def adS (M : aM) (ax : Int) (g : Int → Int → Int) (i : Int) (m : Int) : Int := sumI (fun j => if adj M ax i j = true then g i j else 0) 0 m
def adT (M : aM) (ax : Int) (g : Int → Int → Int) (i j : Int) : Int := sumI (fun a => adS M ax g a (M 31 0)) 0 i + adS M ax g i j
/-- the pairs, as far as i, j -/
def CT (M M1 : aM) (ax i j : Int) : Prop := (0 ≤ M1 (67 + 5 * ax) 0) ∧
  (∀ p, 0 ≤ p → p < M1 (67 + 5 * ax) 0 → (0 ≤ M1 (67 + 5 * ax + 1) p ∧ M1 (67 + 5 * ax + 1) p < M 31 0) ∧ (0 ≤ M1 (67 + 5 * ax + 2) p ∧ M1 (67 + 5 * ax + 2) p < M 31 0) ∧ adj M ax (M1 (67 + 5 * ax + 1) p) (M1 (67 + 5 * ax + 2) p) = true ∧
    M1 (67 + 5 * ax + 3) p = ctc M (M1 (67 + 5 * ax + 1) p) (M1 (67 + 5 * ax + 2) p) ∧ M1 (67 + 5 * ax + 4) p = M (34 + ax) (M1 (67 + 5 * ax + 2) p)) ∧
  (∀ p q, 0 ≤ p → p ≤ q → q < M1 (67 + 5 * ax) 0 → M1 (67 + 5 * ax + 4) p ≤ M1 (67 + 5 * ax + 4) q) ∧
  ∀ g : Int → Int → Int, sumI (fun p => g (M1 (67 + 5 * ax + 1) p) (M1 (67 + 5 * ax + 2) p)) 0 (M1 (67 + 5 * ax) 0) = adT M ax g i j
theorem CT_fr {ax i j : Int} (h : CT M M1 ax i j) (hf : ∀ a, 67 + 5 * ax ≤ a → a ≤ 67 + 5 * ax + 4 → M2 a = M1 a) : CT M M2 ax i j := by
  unfold CT
  rw [hf (67 + 5 * ax) (by omega) (by omega), hf (67 + 5 * ax + 1) (by omega) (by omega), hf (67 + 5 * ax + 2) (by omega) (by omega), hf (67 + 5 * ax + 3) (by omega) (by omega), hf (67 + 5 * ax + 4) (by omega) (by omega)]
  exact h
theorem CT_no {ax i j : Int} (h : CT M M1 ax i j) (h0 : 0 ≤ j) (hn : ¬ adj M ax i j = true) : CT M M1 ax i (j + 1) := by
  obtain ⟨a, b, c, d⟩ := h
  refine ⟨a, b, c, fun g => ?_⟩
  rw [d g]
  unfold adT adS
  rw [sumI_snoc (n := j) 0 h0, if_neg hn, Int.add_zero]
theorem CT_row {ax i : Int} (h : CT M M1 ax i (M 31 0)) (h0 : 0 ≤ i) : CT M M1 ax (i + 1) 0 := by
  obtain ⟨a, b, c, d⟩ := h
  refine ⟨a, b, c, fun g => ?_⟩
  rw [d g]
  unfold adT
  have z : adS M ax g (i + 1) 0 = 0 := sumI_nil (by omega)
  rw [sumI_snoc (n := i) 0 h0, z, Int.add_zero]
theorem adj_0 (h : rP M) {i j : Int} (h1 : 0 ≤ i) (h2 : i < M 31 0) (h3 : 0 ≤ j) (h4 : j < M 31 0) : adj M 0 i j = true ↔ M 34 i + M 36 i = M 34 j ∧ 0 < hlf M i j (max 0 (ovY M i j)) := by
  have a := rP_i h h1 h2
  have b := rP_i h h3 h4
  unfold adj ctc
  rw [decide_eq_true_eq]
  show M 34 i + M 36 i = M 34 j ∧ _ ↔ _
  constructor
  · rintro ⟨e, f⟩
    refine ⟨e, ?_⟩
    have e0 : ovX M i j = 0 := by unfold ovX; omega
    rw [e0] at f
    by_cases c : min 0 (ovY M i j) = 0
    · rw [if_pos c] at f; exact f
    · rw [if_neg c] at f; omega
  · rintro ⟨e, f⟩
    refine ⟨e, ?_⟩
    have e0 : ovX M i j = 0 := by unfold ovX; omega
    rw [e0]
    by_cases c : min 0 (ovY M i j) = 0
    · rw [if_pos c]; exact f
    · rw [show max 0 (ovY M i j) = 0 by omega, hlf0] at f; omega
theorem adj_1 (h : rP M) {i j : Int} (h1 : 0 ≤ i) (h2 : i < M 31 0) (h3 : 0 ≤ j) (h4 : j < M 31 0) : adj M 1 i j = true ↔ M 35 i + M 37 i = M 35 j ∧ 0 < hlf M i j (max 0 (ovX M i j)) := by
  have a := rP_i h h1 h2
  have b := rP_i h h3 h4
  unfold adj ctc
  rw [decide_eq_true_eq]
  show M 35 i + M 37 i = M 35 j ∧ _ ↔ _
  constructor
  · rintro ⟨e, f⟩
    refine ⟨e, ?_⟩
    have e0 : ovY M i j = 0 := by unfold ovY; omega
    rw [e0, Int.max_comm] at f
    by_cases c : min (ovX M i j) 0 = 0
    · rw [if_pos c] at f; exact f
    · rw [if_neg c] at f; omega
  · rintro ⟨e, f⟩
    refine ⟨e, ?_⟩
    have e0 : ovY M i j = 0 := by unfold ovY; omega
    rw [e0, Int.max_comm]
    by_cases c : min (ovX M i j) 0 = 0
    · rw [if_pos c]; exact f
    · rw [show max 0 (ovX M i j) = 0 by omega, hlf0] at f; omega
theorem hlf_pos {i j n : Int} (h : 0 < hlf M i j n) : 0 < n := by
  unfold hlf at h
  split at h <;> omega
/-- the one of a pair that ends first has no other one on that side that ends behind it -/
theorem adj_le (h : rP M) {ax : Int} (hx : ax = 0 ∨ ax = 1) : adT M ax (fun _ _ => 1) (M 31 0) 0 ≤ 80 := by
  have n := rP_n h
  have key : ∀ e : Int → Int, (∀ i j k, 0 ≤ i → i < M 31 0 → 0 ≤ j → j < M 31 0 → 0 ≤ k → k < M 31 0 → adj M ax i j = true → adj M ax i k = true → e i ≤ e j → e i ≤ e k → j = k) →
      (∀ i j k, 0 ≤ i → i < M 31 0 → 0 ≤ j → j < M 31 0 → 0 ≤ k → k < M 31 0 → adj M ax j i = true → adj M ax k i = true → e i < e j → e i < e k → j = k) → adT M ax (fun _ _ => 1) (M 31 0) 0 ≤ 80 := by
    intro e h1 h2
    have a1 : ∀ i, adS M ax (fun _ _ => 1) i (M 31 0) = sumI (fun j => if adj M ax i j = true ∧ e i ≤ e j then 1 else 0) 0 (M 31 0) + sumI (fun j => if adj M ax i j = true ∧ e j < e i then 1 else 0) 0 (M 31 0) := by
      intro i
      unfold adS
      rw [← sumI_add]
      refine sumI_congr 0 (fun j _ _ => ?_)
      by_cases c : adj M ax i j = true
      · by_cases d : e i ≤ e j
        · rw [if_pos c, if_pos ⟨c, d⟩, if_neg (fun z => by omega)]; rfl
        · rw [if_pos c, if_neg (fun z => d z.2), if_pos ⟨c, by omega⟩]; rfl
      · rw [if_neg c, if_neg (fun z => c z.1), if_neg (fun z => c z.1)]; rfl
    unfold adT
    rw [sumI_congr 0 (fun i _ _ => a1 i), sumI_add, sumI_swap (f := fun i j => if adj M ax i j = true ∧ e j < e i then 1 else 0)]
    have b0 : adS M ax (fun _ _ => 1) (M 31 0) 0 = 0 := sumI_nil (by omega)
    have b1 := sumI_mono (f := fun i => sumI (fun j => if adj M ax i j = true ∧ e i ≤ e j then (1 : Int) else 0) 0 (M 31 0)) (g := fun _ => 1) (n := M 31 0) 0 (fun i i0 i1 => by
      refine sumI_one 0 (fun j _ _ => by split <;> omega) (fun j k j0 j1 k0 k1 x y => ?_)
      have x1 : adj M ax i j = true ∧ e i ≤ e j := by
        by_cases c : adj M ax i j = true ∧ e i ≤ e j
        · exact c
        · rw [if_neg c] at x; omega
      have y1 : adj M ax i k = true ∧ e i ≤ e k := by
        by_cases c : adj M ax i k = true ∧ e i ≤ e k
        · exact c
        · rw [if_neg c] at y; omega
      exact h1 i j k i0 i1 j0 j1 k0 k1 x1.1 y1.1 x1.2 y1.2)
    have b2 := sumI_mono (f := fun i => sumI (fun j => if adj M ax j i = true ∧ e i < e j then (1 : Int) else 0) 0 (M 31 0)) (g := fun _ => 1) (n := M 31 0) 0 (fun i i0 i1 => by
      refine sumI_one 0 (fun j _ _ => by split <;> omega) (fun j k j0 j1 k0 k1 x y => ?_)
      have x1 : adj M ax j i = true ∧ e i < e j := by
        by_cases c : adj M ax j i = true ∧ e i < e j
        · exact c
        · rw [if_neg c] at x; omega
      have y1 : adj M ax k i = true ∧ e i < e k := by
        by_cases c : adj M ax k i = true ∧ e i < e k
        · exact c
        · rw [if_neg c] at y; omega
      exact h2 i j k i0 i1 j0 j1 k0 k1 x1.1 y1.1 x1.2 y1.2)
    have b3 := (sumI_le (f := fun _ => (1 : Int)) (n := M 31 0) (c := 1) 0 (fun _ _ _ => by omega)).2 n.1
    omega
  rcases hx with rfl | rfl
  · refine key (fun i => M 35 i + M 37 i) (fun i j k i0 i1 j0 j1 k0 k1 x y u v => ?_) (fun i j k i0 i1 j0 j1 k0 k1 x y u v => ?_)
    · rw [adj_0 h i0 i1 j0 j1] at x
      rw [adj_0 h i0 i1 k0 k1] at y
      have x2 := hlf_pos x.2
      have y2 := hlf_pos y.2
      have a := rP_i h j0 j1
      have b := rP_i h k0 k1
      unfold ovY at x2 y2
      by_cases e : j = k
      · exact e
      · have := rP_l h j0 j1 k0 k1 e
        omega
    · rw [adj_0 h j0 j1 i0 i1] at x
      rw [adj_0 h k0 k1 i0 i1] at y
      have x2 := hlf_pos x.2
      have y2 := hlf_pos y.2
      have a := rP_i h j0 j1
      have b := rP_i h k0 k1
      unfold ovY at x2 y2
      by_cases e : j = k
      · exact e
      · have := rP_l h j0 j1 k0 k1 e
        omega
  · refine key (fun i => M 34 i + M 36 i) (fun i j k i0 i1 j0 j1 k0 k1 x y u v => ?_) (fun i j k i0 i1 j0 j1 k0 k1 x y u v => ?_)
    · rw [adj_1 h i0 i1 j0 j1] at x
      rw [adj_1 h i0 i1 k0 k1] at y
      have x2 := hlf_pos x.2
      have y2 := hlf_pos y.2
      have a := rP_i h j0 j1
      have b := rP_i h k0 k1
      unfold ovX at x2 y2
      by_cases e : j = k
      · exact e
      · have := rP_l h j0 j1 k0 k1 e
        omega
    · rw [adj_1 h j0 j1 i0 i1] at x
      rw [adj_1 h k0 k1 i0 i1] at y
      have x2 := hlf_pos x.2
      have y2 := hlf_pos y.2
      have a := rP_i h j0 j1
      have b := rP_i h k0 k1
      unfold ovX at x2 y2
      by_cases e : j = k
      · exact e
      · have := rP_l h j0 j1 k0 k1 e
        omega
theorem adS_mono {ax i m n : Int} (h : 0 ≤ m) (h2 : m ≤ n) : 0 ≤ adS M ax (fun _ _ => 1) i m ∧ adS M ax (fun _ _ => 1) i m ≤ adS M ax (fun _ _ => 1) i n := by
  unfold adS
  dsimp only
  have a := (sumI_le (f := fun j => if adj M ax i j = true then (1 : Int) else 0) (n := m) (c := 1) 0 (fun j _ _ => by split <;> omega)).1
  have b := (sumI_le (f := fun j => if adj M ax i j = true then (1 : Int) else 0) (n := n) (c := 1) m (fun j _ _ => by split <;> omega)).1
  rw [sumI_cut h2 0 h]
  omega
theorem adT_le (h : rP M) {ax i j : Int} (hx : ax = 0 ∨ ax = 1) (h0 : 0 ≤ i) (h1 : i ≤ M 31 0) (h2 : 0 ≤ j) (h3 : j ≤ M 31 0) (h4 : i = M 31 0 → j = 0) : adT M ax (fun _ _ => 1) i j ≤ 80 := by
  have a := adj_le h hx
  by_cases c : i = M 31 0
  · rw [h4 c, c]; exact a
  · unfold adT at a ⊢
    have b0 : adS M ax (fun _ _ => 1) (M 31 0) 0 = 0 := sumI_nil (by omega)
    rw [sumI_cut (m := i) (by omega) 0 h0, sumI_step (i := i) (by omega)] at a
    have b1 := adS_mono (M := M) (ax := ax) (i := i) h2 h3
    have b2 := (sumI_le (f := fun a => adS M ax (fun _ _ => 1) a (M 31 0)) (n := M 31 0) (c := 40) (i + 1) (fun k _ _ => by
      have x := (adS_mono (M := M) (ax := ax) (i := k) (m := M 31 0) (n := M 31 0) (by omega) (by omega)).1
      have y := (sumI_le (f := fun j => if adj M ax k j = true then (1 : Int) else 0) (n := M 31 0) (c := 1) 0 (fun j _ _ => by split <;> omega)).2 (by omega)
      have n := rP_n h
      refine ⟨x, ?_⟩
      unfold adS
      dsimp only
      omega)).1
    omega
theorem CT_n (h : rP M) {ax i j : Int} (hx : ax = 0 ∨ ax = 1) (hc : CT M M1 ax i j) (h0 : 0 ≤ i) (h1 : i ≤ M 31 0) (h2 : 0 ≤ j) (h3 : j ≤ M 31 0) (h4 : i = M 31 0 → j = 0) : M1 (67 + 5 * ax) 0 ≤ 80 := by
  have a := adT_le h hx h0 h1 h2 h3 h4
  have b := hc.2.2.2 (fun _ _ => 1)
  have c := hc.1
  have d : ∀ m : Int, 0 ≤ m → sumI (fun _ => (1 : Int)) 0 m = m := by
    intro m hm
    have x := (sumI_le (f := fun _ => (1 : Int)) (n := m) (c := 1) 0 (fun _ _ _ => by omega)).2 hm
    have y := sumI_mono (f := fun _ => (1 : Int)) (g := fun _ => 1) (n := m) 0 (fun _ _ _ => by omega)
    have key : ∀ i, i ≤ m → sumI (fun _ => (1 : Int)) i m = m - i := by
      refine upto m (fun i hi h => ?_) (fun i hi ih h => ?_)
      · rw [sumI_nil hi]; omega
      · rw [sumI_step hi, ih (by omega)]; omega
    have := key 0 hm
    omega
  rw [d _ c] at b
  omega
theorem CT_yes {ax i j : Int} (hx : ax = 0 ∨ ax = 1) (h : CT M M1 ax i j) (i0 : 0 ≤ i) (i1 : i < M 31 0) (j0 : 0 ≤ j) (j1 : j < M 31 0) (hj : adj M ax i j = true) {k : Int} (hn : M2 (67 + 5 * ax) 0 = M1 (67 + 5 * ax) 0 + 1) (hk : 0 ≤ k ∧ k ≤ M1 (67 + 5 * ax) 0)
    (hr : ∀ p, 0 ≤ p → p ≤ M1 (67 + 5 * ax) 0 → M2 (67 + 5 * ax + 1) p = (if p < k then M1 (67 + 5 * ax + 1) p else if p = k then i else M1 (67 + 5 * ax + 1) (p - 1)) ∧ M2 (67 + 5 * ax + 2) p = (if p < k then M1 (67 + 5 * ax + 2) p else if p = k then j else M1 (67 + 5 * ax + 2) (p - 1)) ∧
      M2 (67 + 5 * ax + 3) p = (if p < k then M1 (67 + 5 * ax + 3) p else if p = k then ctc M i j else M1 (67 + 5 * ax + 3) (p - 1)) ∧ M2 (67 + 5 * ax + 4) p = (if p < k then M1 (67 + 5 * ax + 4) p else if p = k then M (34 + ax) j else M1 (67 + 5 * ax + 4) (p - 1)))
    (hl : 0 < k → M1 (67 + 5 * ax + 4) (k - 1) ≤ M (34 + ax) j) (hg : ∀ p, k ≤ p → p < M1 (67 + 5 * ax) 0 → M (34 + ax) j < M1 (67 + 5 * ax + 4) p) : CT M M2 ax i (j + 1) := by
  unfold CT at h ⊢
  obtain ⟨a, b, c, d⟩ := h
  generalize 67 + 5 * ax = C at *
  refine ⟨by omega, fun p p0 p1 => ?_, fun p q p0 pq q1 => ?_, fun g => ?_⟩
  · obtain ⟨r1, r2, r3, r4⟩ := hr p p0 (by omega)
    rw [r1, r2, r3, r4]
    by_cases e : p < k
    · simp only [if_pos e]
      exact b p p0 (by omega)
    · by_cases e2 : p = k
      · simp only [if_neg e, if_pos e2]
        exact ⟨⟨i0, i1⟩, ⟨j0, j1⟩, hj, trivial, trivial⟩
      · simp only [if_neg e, if_neg e2]
        exact b (p - 1) (by omega) (by omega)
  · obtain ⟨-, -, -, r4⟩ := hr p p0 (by omega)
    obtain ⟨-, -, -, s4⟩ := hr q (by omega) (by omega)
    rw [r4, s4]
    have cl : ∀ x, 0 ≤ x → x < k → M1 (C + 4) x ≤ M (34 + ax) j := fun x x0 x1 => Int.le_trans (c x (k - 1) x0 (by omega) (by omega)) (hl (by omega))
    by_cases e : p < k
    · rw [if_pos e]
      by_cases e2 : q < k
      · rw [if_pos e2]; exact c p q p0 pq (by omega)
      · rw [if_neg e2]
        by_cases e3 : q = k
        · rw [if_pos e3]; exact cl p p0 e
        · rw [if_neg e3]; exact c p (q - 1) p0 (by omega) (by omega)
    · rw [if_neg e, if_neg (show ¬ q < k by omega)]
      by_cases e2 : p = k
      · rw [if_pos e2]
        by_cases e3 : q = k
        · rw [if_pos e3]; omega
        · rw [if_neg e3]
          have := hg (q - 1) (by omega) (by omega)
          omega
      · rw [if_neg e2, if_neg (show ¬ q = k by omega)]
        exact c (p - 1) (q - 1) (by omega) (by omega) (by omega)
  · have e : adT M ax g i (j + 1) = adT M ax g i j + g i j := by
      unfold adT adS
      rw [sumI_snoc (n := j) 0 j0, if_pos hj]
      omega
    rw [e, ← d g, hn, sumI_cut (m := k) (by omega) 0 hk.1, sumI_step (i := k) (by omega), sumI_cut (m := k) (n := M1 C 0) (by omega) 0 hk.1]
    have x1 : sumI (fun p => g (M2 (C + 1) p) (M2 (C + 2) p)) 0 k = sumI (fun p => g (M1 (C + 1) p) (M1 (C + 2) p)) 0 k := sumI_congr 0 (fun p p0 p1 => by
      obtain ⟨r1, r2, -, -⟩ := hr p p0 (by omega)
      rw [r1, r2, if_pos p1, if_pos p1])
    have x2 : sumI (fun p => g (M2 (C + 1) p) (M2 (C + 2) p)) (k + 1) (M1 C 0 + 1) = sumI (fun p => g (M1 (C + 1) p) (M1 (C + 2) p)) k (M1 C 0) := by
      rw [← sumI_shift (f := fun p => g (M1 (C + 1) p) (M1 (C + 2) p))]
      refine sumI_congr (k + 1) (fun p p0 p1 => ?_)
      obtain ⟨r1, r2, -, -⟩ := hr p (by omega) (by omega)
      rw [r1, r2, if_neg (by omega), if_neg (by omega), if_neg (by omega), if_neg (by omega)]
    have x3 := hr k hk.1 hk.2
    rw [x1, x2, x3.1, x3.2.1, if_neg (by omega), if_pos rfl, if_neg (by omega), if_pos rfl]
    omega
end CTS
