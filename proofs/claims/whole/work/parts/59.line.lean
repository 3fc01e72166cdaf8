/-! the fewest pieces of a line, as functions -/
section LINE
variable {F : Int → Int} {w h : Int}
def gLn (F : Int → Int) (w h : Int) : Nat → Int → Int
  | 0, x => F x
  | r + 1, x => min (F x) (min (if x < w then 1000000 else gLn F w h r (x - w) + 1) (if x < h then 1000000 else gLn F w h r (x - h) + 1))
def tLn (F : Int → Int) (w h : Int) : Nat → Int → Int
  | 0, x => F x
  | r + 1, x => min 1000000 (min (if x < w then 1000000 else tLn F w h r (x - w)) (if x < h then 1000000 else tLn F w h r (x - h)) + 1)
/-- a row of the table -/
def rwB (F : Int → Int) : Prop := ∀ x, 0 ≤ x → x ≤ 240 → 0 ≤ F x ∧ F x ≤ 1000000
theorem gLn_bd (hF : rwB F) (hw : 1 ≤ w) (hh : 1 ≤ h) : ∀ r, rwB (gLn F w h r) := by
  intro r
  induction r with
  | zero => exact hF
  | succ r ih =>
    intro x x0 x1
    have a := hF x x0 x1
    unfold gLn
    have b : x < w ∨ 0 ≤ gLn F w h r (x - w) := by
      by_cases c : x < w
      · exact Or.inl c
      · exact Or.inr (ih (x - w) (by omega) (by omega)).1
    have d : x < h ∨ 0 ≤ gLn F w h r (x - h) := by
      by_cases c : x < h
      · exact Or.inl c
      · exact Or.inr (ih (x - h) (by omega) (by omega)).1
    split <;> split <;> omega
theorem tLn_bd (hF : rwB F) (hw : 1 ≤ w) (hh : 1 ≤ h) : ∀ r, rwB (tLn F w h r) := by
  intro r
  induction r with
  | zero => exact hF
  | succ r ih =>
    intro x x0 x1
    unfold tLn
    have b : x < w ∨ 0 ≤ tLn F w h r (x - w) := by
      by_cases c : x < w
      · exact Or.inl c
      · exact Or.inr (ih (x - w) (by omega) (by omega)).1
    have d : x < h ∨ 0 ≤ tLn F w h r (x - h) := by
      by_cases c : x < h
      · exact Or.inl c
      · exact Or.inr (ih (x - h) (by omega) (by omega)).1
    split <;> split <;> omega
theorem gLn_mono (hw : 1 ≤ w) (hh : 1 ≤ h) : ∀ r x, gLn F w h (r + 1) x ≤ gLn F w h r x := by
  intro r
  induction r with
  | zero => intro x; unfold gLn; show _ ≤ F x; omega
  | succ r ih =>
    intro x
    have a := ih (x - w)
    have b := ih (x - h)
    rw [show gLn F w h (r + 1 + 1) x = min (F x) (min (if x < w then 1000000 else gLn F w h (r + 1) (x - w) + 1) (if x < h then 1000000 else gLn F w h (r + 1) (x - h) + 1)) from rfl, show gLn F w h (r + 1) x = min (F x) (min (if x < w then 1000000 else gLn F w h r (x - w) + 1) (if x < h then 1000000 else gLn F w h r (x - h) + 1)) from rfl]
    split <;> split <;> omega
theorem gLn_t (hF : rwB F) (hw : 1 ≤ w) (hh : 1 ≤ h) : ∀ r x, 0 ≤ x → x ≤ 240 → gLn F w h (r + 1) x = min (gLn F w h r x) (tLn F w h (r + 1) x) := by
  intro r
  induction r with
  | zero =>
    intro x x0 x1
    have a := hF x x0 x1
    show min (F x) (min (if x < w then 1000000 else F (x - w) + 1) (if x < h then 1000000 else F (x - h) + 1)) = min (F x) (min 1000000 (min (if x < w then 1000000 else F (x - w)) (if x < h then 1000000 else F (x - h)) + 1))
    split <;> split <;> omega
  | succ r ih =>
    intro x x0 x1
    have a := hF x x0 x1
    have b : x < w ∨ gLn F w h (r + 1) (x - w) = min (gLn F w h r (x - w)) (tLn F w h (r + 1) (x - w)) := by
      by_cases c : x < w
      · exact Or.inl c
      · exact Or.inr (ih (x - w) (by omega) (by omega))
    have d : x < h ∨ gLn F w h (r + 1) (x - h) = min (gLn F w h r (x - h)) (tLn F w h (r + 1) (x - h)) := by
      by_cases c : x < h
      · exact Or.inl c
      · exact Or.inr (ih (x - h) (by omega) (by omega))
    rw [show gLn F w h (r + 1 + 1) x = min (F x) (min (if x < w then 1000000 else gLn F w h (r + 1) (x - w) + 1) (if x < h then 1000000 else gLn F w h (r + 1) (x - h) + 1)) from rfl, show gLn F w h (r + 1) x = min (F x) (min (if x < w then 1000000 else gLn F w h r (x - w) + 1) (if x < h then 1000000 else gLn F w h r (x - h) + 1)) from rfl, show tLn F w h (r + 1 + 1) x = min 1000000 (min (if x < w then 1000000 else tLn F w h (r + 1) (x - w)) (if x < h then 1000000 else tLn F w h (r + 1) (x - h)) + 1) from rfl]
    split <;> split <;> omega
theorem tLn_big (hF : rwB F) {s : Int} (hs : 1 ≤ s) (hw : s ≤ w) (hh : s ≤ h) : ∀ (r : Nat) x, 0 ≤ x → x ≤ 240 → x < r * s → tLn F w h r x = 1000000 := by
  intro r
  induction r with
  | zero => intro x x0 _ x1; rw [show ((0 : Nat) : Int) * s = 0 by rw [Int.natCast_zero, Int.zero_mul]] at x1; omega
  | succ r ih =>
    intro x x0 x240 x1
    rw [Int.natCast_succ, Int.add_mul, Int.one_mul] at x1
    have b : x < w ∨ tLn F w h r (x - w) = 1000000 := by
      by_cases c : x < w
      · exact Or.inl c
      · exact Or.inr (ih (x - w) (by omega) (by omega) (by omega))
    have d : x < h ∨ tLn F w h r (x - h) = 1000000 := by
      by_cases c : x < h
      · exact Or.inl c
      · exact Or.inr (ih (x - h) (by omega) (by omega) (by omega))
    unfold tLn
    split <;> split <;> omega
/-- once no more is won, no more is ever won -/
theorem gLn_st (hw : 1 ≤ w) (hh : 1 ≤ h) {j : Nat} (e : ∀ x, 0 ≤ x → x ≤ 240 → gLn F w h (j + 1) x = gLn F w h j x) : ∀ d x, 0 ≤ x → x ≤ 240 → gLn F w h (j + d) x = gLn F w h j x := by
  intro d
  induction d with
  | zero => intro x _ _; rfl
  | succ d ih =>
    intro x x0 x1
    rw [← e x x0 x1]
    show min (F x) (min (if x < w then 1000000 else gLn F w h (j + d) (x - w) + 1) (if x < h then 1000000 else gLn F w h (j + d) (x - h) + 1)) = min (F x) (min (if x < w then 1000000 else gLn F w h j (x - w) + 1) (if x < h then 1000000 else gLn F w h j (x - h) + 1))
    have b : x < w ∨ gLn F w h (j + d) (x - w) = gLn F w h j (x - w) := by
      by_cases c : x < w
      · exact Or.inl c
      · exact Or.inr (ih (x - w) (by omega) (by omega))
    have f : x < h ∨ gLn F w h (j + d) (x - h) = gLn F w h j (x - h) := by
      by_cases c : x < h
      · exact Or.inl c
      · exact Or.inr (ih (x - h) (by omega) (by omega))
    split <;> split <;> omega
/-- more than fit win nothing -/
theorem gLn_cut (hF : rwB F) {s : Int} (hs : 1 ≤ s) (hw : s ≤ w) (hh : s ≤ h) {m : Nat} (hm : 240 < ((m : Int) + 1) * s) : ∀ d x, 0 ≤ x → x ≤ 240 → gLn F w h (m + d) x = gLn F w h m x := by
  have e : ∀ x, 0 ≤ x → x ≤ 240 → gLn F w h (m + 1) x = gLn F w h m x := by
    intro x x0 x1
    rw [gLn_t hF (by omega) (by omega) m x x0 x1, tLn_big hF hs hw hh (m + 1) x x0 x1 (by rw [Int.natCast_succ]; omega)]
    have := (gLn_bd (w := w) (h := h) hF (by omega) (by omega) m x x0 x1).2
    omega
  exact gLn_st (by omega) (by omega) e
/-- of a and b so many, none over r -/
theorem gLn_le (hw : 1 ≤ w) (hh : 1 ≤ h) : ∀ (r : Nat) x (a b : Nat), x ≤ 240 → a + b ≤ r → a * w + b * h ≤ x → gLn F w h r x ≤ F (x - a * w - b * h) + a + b := by
  intro r
  induction r with
  | zero =>
    intro x a b x1 ab q
    have e1 : a = 0 := by omega
    have e2 : b = 0 := by omega
    subst e1 e2
    show F x ≤ F (x - (0 : Int) * w - (0 : Int) * h) + 0 + 0
    rw [Int.zero_mul, Int.zero_mul, Int.sub_zero, Int.sub_zero]; omega
  | succ r ih =>
    intro x a b x1 ab q
    have ge : ∀ n : Nat, ∀ z : Int, 1 ≤ z → 0 ≤ (n : Int) * z := fun n z hz => Int.mul_nonneg (by omega) (by omega)
    have g1 := ge a w hw
    have g2 := ge b h hh
    by_cases ha : a = 0
    · by_cases hb : b = 0
      · subst ha hb
        have := ih x 0 0 x1 (by omega) q
        have m := gLn_mono (F := F) hw hh r x
        omega
      · obtain ⟨c, rfl⟩ : ∃ c, b = c + 1 := ⟨b - 1, by omega⟩
        have e : ((c + 1 : Nat) : Int) * h = c * h + h := by rw [Int.natCast_succ, Int.add_mul, Int.one_mul]
        have g3 := ge c h hh
        rw [e] at q ⊢
        have := ih (x - h) a c (by omega) (by omega) (by omega)
        unfold gLn
        rw [show x - (a : Int) * w - (c * h + h) = x - h - a * w - c * h by omega]
        split <;> split <;> omega
    · obtain ⟨c, rfl⟩ : ∃ c, a = c + 1 := ⟨a - 1, by omega⟩
      have e : ((c + 1 : Nat) : Int) * w = c * w + w := by rw [Int.natCast_succ, Int.add_mul, Int.one_mul]
      have g3 := ge c w hw
      rw [e] at q ⊢
      have := ih (x - w) c b (by omega) (by omega) (by omega)
      unfold gLn
      rw [show x - ((c : Int) * w + w) - b * h = x - w - c * w - b * h by omega]
      split <;> split <;> omega
theorem gLn_at (hF : rwB F) (hw : 1 ≤ w) (hh : 1 ≤ h) : ∀ (r : Nat) x, 0 ≤ x → x ≤ 240 → ∃ a b : Nat, a + b ≤ r ∧ a * w + b * h ≤ x ∧ gLn F w h r x = F (x - a * w - b * h) + a + b := by
  intro r
  have zr : ∀ x : Int, F x = F (x - ((0 : Nat) : Int) * w - ((0 : Nat) : Int) * h) + ((0 : Nat) : Int) + ((0 : Nat) : Int) := by
    intro x
    rw [Int.natCast_zero, Int.zero_mul, Int.zero_mul, Int.sub_zero, Int.sub_zero]; omega
  have z0 : ((0 : Nat) : Int) * w + ((0 : Nat) : Int) * h = 0 := by rw [Int.natCast_zero, Int.zero_mul, Int.zero_mul]; rfl
  induction r with
  | zero => exact fun x x0 _ => ⟨0, 0, by omega, by omega, zr x⟩
  | succ r ih =>
    intro x x0 x1
    have f := hF x x0 x1
    have c : gLn F w h (r + 1) x = F x ∨ (¬ x < w ∧ gLn F w h (r + 1) x = gLn F w h r (x - w) + 1) ∨ (¬ x < h ∧ gLn F w h (r + 1) x = gLn F w h r (x - h) + 1) := by
      rw [show gLn F w h (r + 1) x = min (F x) (min (if x < w then 1000000 else gLn F w h r (x - w) + 1) (if x < h then 1000000 else gLn F w h r (x - h) + 1)) from rfl]
      split <;> split <;> omega
    rcases c with c | ⟨c1, c⟩ | ⟨c1, c⟩
    · exact ⟨0, 0, by omega, by omega, by rw [c]; exact zr x⟩
    · obtain ⟨a, b, ab, q, e⟩ := ih (x - w) (by omega) (by omega)
      have e1 : ((a + 1 : Nat) : Int) * w = a * w + w := by rw [Int.natCast_succ, Int.add_mul, Int.one_mul]
      refine ⟨a + 1, b, by omega, by rw [e1]; omega, ?_⟩
      rw [c, e, e1, show x - ((a : Int) * w + w) - b * h = x - w - a * w - b * h by omega]
      omega
    · obtain ⟨a, b, ab, q, e⟩ := ih (x - h) (by omega) (by omega)
      have e1 : ((b + 1 : Nat) : Int) * h = b * h + h := by rw [Int.natCast_succ, Int.add_mul, Int.one_mul]
      refine ⟨a, b + 1, by omega, by rw [e1]; omega, ?_⟩
      rw [c, e, e1, show x - (a : Int) * w - (b * h + h) = x - h - a * w - b * h by omega]
      omega
end LINE
