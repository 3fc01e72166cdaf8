/-! what small methods of the class answer -/
section SPA
variable {L : Nat} {M : aM}
/-- counting up, down -/
theorem upto {P : Int → Prop} (n : Int) (h0 : ∀ i, n ≤ i → P i) (hs : ∀ i, i < n → P (i + 1) → P i) : ∀ i, P i := by
  have key : ∀ (k : Nat) (i : Int), (n - i).toNat = k → P i := by
    intro k
    induction k with
    | zero => intro i hi; exact h0 i (by omega)
    | succ k ih => intro i hi; exact hs i (by omega) (ih (i + 1) (by omega))
  intro i
  exact key _ i rfl
theorem downto {P : Int → Prop} (n : Int) (h0 : ∀ i, i ≤ n → P i) (hs : ∀ i, n < i → P (i - 1) → P i) : ∀ i, P i := by
  have key : ∀ (k : Nat) (i : Int), (i - n).toNat = k → P i := by
    intro k
    induction k with
    | zero => intro i hi; exact h0 i (by omega)
    | succ k ih => intro i hi; exact hs i (by omega) (ih (i - 1) (by omega))
  intro i
  exact key _ i rfl
def sumN (f : Int → Int) : Int → Nat → Int
  | _, 0 => 0
  | i, k + 1 => f i + sumN f (i + 1) k
def sumI (f : Int → Int) (i n : Int) : Int := sumN f i (n - i).toNat
theorem sumI_nil {f : Int → Int} {i n : Int} (h : n ≤ i) : sumI f i n = 0 := by
  unfold sumI
  rw [show (n - i).toNat = 0 by omega]
  rfl
theorem sumI_step {f : Int → Int} {i n : Int} (h : i < n) : sumI f i n = f i + sumI f (i + 1) n := by
  unfold sumI
  rw [show (n - i).toNat = (n - (i + 1)).toNat + 1 by omega]
  rfl
theorem sumI_congr {f g : Int → Int} {n : Int} : ∀ i, (∀ j, i ≤ j → j < n → f j = g j) → sumI f i n = sumI g i n := by
  refine upto n (fun i hi _ => ?_) (fun i hi ih h => ?_)
  · rw [sumI_nil hi, sumI_nil hi]
  · rw [sumI_step hi, sumI_step hi, h i (by omega) hi, ih (fun j h1 h2 => h j (by omega) h2)]
theorem sumI_le {f : Int → Int} {n c : Int} : ∀ i, (∀ j, i ≤ j → j < n → 0 ≤ f j ∧ f j ≤ c) → 0 ≤ sumI f i n ∧ (i ≤ n → sumI f i n ≤ c * (n - i)) := by
  refine upto n (fun i hi _ => ?_) (fun i hi ih h => ?_)
  · rw [sumI_nil hi]
    refine ⟨Int.le_refl _, fun h2 => ?_⟩
    have : n - i = 0 := by omega
    rw [this]; omega
  · rw [sumI_step hi]
    have h1 := h i (by omega) hi
    have h2 := ih (fun j h1 h2 => h j (by omega) h2)
    have h3 := h2.2 (by omega)
    have e : c * (n - i) = c * (n - (i + 1)) + c := by
      rw [show n - i = (n - (i + 1)) + 1 by omega, Int.mul_add, Int.mul_one]
    exact ⟨by omega, fun _ => by omega⟩
/-- the first of i .. n-1 with p, or d -/
def fndN (p : Int → Bool) (d : Int) : Int → Nat → Int
  | _, 0 => d
  | i, k + 1 => if p i = true then i else fndN p d (i + 1) k
def fndI (p : Int → Bool) (d i n : Int) : Int := fndN p d i (n - i).toNat
theorem fndI_nil {p : Int → Bool} {d i n : Int} (h : n ≤ i) : fndI p d i n = d := by
  unfold fndI
  rw [show (n - i).toNat = 0 by omega]
  rfl
theorem fndI_yes {p : Int → Bool} {d i n : Int} (h : i < n) (hp : p i = true) : fndI p d i n = i := by
  unfold fndI
  rw [show (n - i).toNat = (n - (i + 1)).toNat + 1 by omega]
  exact if_pos hp
theorem fndI_no {p : Int → Bool} {d i n : Int} (h : i < n) (hp : ¬ p i = true) : fndI p d i n = fndI p d (i + 1) n := by
  unfold fndI
  rw [show (n - i).toNat = (n - (i + 1)).toNat + 1 by omega]
  exact if_neg hp
theorem fndI_congr {p q : Int → Bool} {d n : Int} : ∀ i, (∀ j, i ≤ j → j < n → p j = q j) → fndI p d i n = fndI q d i n := by
  refine upto n (fun i hi _ => ?_) (fun i hi ih h => ?_)
  · rw [fndI_nil hi, fndI_nil hi]
  · by_cases hp : p i = true
    · rw [fndI_yes hi hp, fndI_yes hi ((h i (by omega) hi).symm.trans hp)]
    · rw [fndI_no hi hp, fndI_no hi (fun q => hp ((h i (by omega) hi).trans q)), ih (fun j h1 h2 => h j (by omega) h2)]
def anyI (p : Int → Bool) (i n : Int) : Bool := decide (fndI p n i n < n)
theorem anyI_nil {p : Int → Bool} {i n : Int} (h : n ≤ i) : anyI p i n = false := by
  unfold anyI
  rw [fndI_nil h]
  simp
theorem anyI_yes {p : Int → Bool} {i n : Int} (h : i < n) (hp : p i = true) : anyI p i n = true := by
  unfold anyI
  rw [fndI_yes h hp]
  simpa using h
theorem anyI_no {p : Int → Bool} {i n : Int} (h : i < n) (hp : ¬ p i = true) : anyI p i n = anyI p (i + 1) n := by
  unfold anyI
  rw [fndI_no h hp]
theorem anyI_congr {p q : Int → Bool} {n : Int} (i : Int) (h : ∀ j, i ≤ j → j < n → p j = q j) : anyI p i n = anyI q i n := by
  unfold anyI
  rw [fndI_congr i h]
theorem anyI_iff {p : Int → Bool} {n : Int} : ∀ i, anyI p i n = true ↔ ∃ j, i ≤ j ∧ j < n ∧ p j = true := by
  refine upto n (fun i hi => ?_) (fun i hi ih => ?_)
  · rw [anyI_nil hi]
    constructor
    · intro h; cases h
    · rintro ⟨j, h1, h2, -⟩; omega
  · by_cases hp : p i = true
    · rw [anyI_yes hi hp]
      exact ⟨fun _ => ⟨i, by omega, hi, hp⟩, fun _ => rfl⟩
    · rw [anyI_no hi hp, ih]
      constructor
      · rintro ⟨j, h1, h2, h3⟩; exact ⟨j, by omega, h2, h3⟩
      · rintro ⟨j, h1, h2, h3⟩
        by_cases e : j = i
        · rw [e] at h3; exact absurd h3 hp
        · exact ⟨j, by omega, h2, h3⟩
theorem aDiv_nn {x y : Int} (h1 : 0 ≤ x) (h2 : x < 2147483648) (h3 : 0 < y) (h4 : y < 2147483648) : aDiv x y = x / y := by
  unfold aDiv
  rw [Int32.toInt_div, xI_of ⟨by omega, h2⟩, xI_of ⟨by omega, h4⟩, Int.tdiv_eq_ediv_of_nonneg h1]
  have a1 : 0 ≤ x / y := Int.ediv_nonneg h1 (by omega)
  have a2 : x / y ≤ x := Int.ediv_le_self _ h1
  exact aWi (z := x / y) (by omega) (by omega)
theorem aRem_nn {x y : Int} (h1 : 0 ≤ x) (h2 : x < 2147483648) (h3 : 0 < y) (h4 : y < 2147483648) : aRem x y = x % y := by
  have e : Int32.ofInt x / Int32.ofInt y = Int32.ofInt (x / y) := by
    have := aDiv_nn h1 h2 h3 h4
    unfold aDiv at this
    rw [← this, o_back]
  unfold aRem
  rw [e, o_mul, o_sub, xI_of (xI_w _)]
  have a1 : 0 ≤ x / y := Int.ediv_nonneg h1 (by omega)
  have a3 : x / y * y + x % y = x := by rw [Int.mul_comm]; exact Int.mul_ediv_add_emod x y
  have a4 := Int.emod_nonneg x (b := y) (by omega)
  have a5 := Int.emod_lt_of_pos x h3
  rw [aWi (z := x / y * y) (by omega) (by omega), aWi (by omega) (by omega)]
  omega
theorem s_16 {a0 : Int} : aE 16 [aI a0] (SH L) M ([aI (bi (decide (a0 = 9 ∨ a0 = 10 ∨ a0 = 13 ∨ a0 = 32)))], SH L, M) := by
  apply en_16
  repeat' (first | apply And.intro | intro _)
  all_goals (refine rI ?_; first | exact bip (by omega) | exact bin (by omega))
theorem s_18 {a0 : Int} : aE 18 [aI a0] (SH L) M ([aI (bi (decide (97 ≤ a0 ∧ a0 ≤ 122)))], SH L, M) := by
  apply en_18
  repeat' (first | apply And.intro | intro _)
  all_goals (refine rI ?_; first | exact bip (by omega) | exact bin (by omega))
theorem s_21 {a0 : Int} : aE 21 [aI a0] (SH L) M ([aI (bi (decide (48 ≤ a0 ∧ a0 ≤ 57)))], SH L, M) := by
  apply en_21
  repeat' (first | apply And.intro | intro _)
  all_goals (refine rI ?_; first | exact bip (by omega) | exact bin (by omega))
theorem s_36 {a0 : Int} : aE 36 [aI a0] (SH L) M ([aI (bi (decide (0 ≤ a0 ∧ a0 < 4)))], SH L, M) := by
  apply en_36
  repeat' (first | apply And.intro | intro _)
  all_goals (refine rI ?_; first | exact bip (by omega) | exact bin (by omega))
theorem s_41 {a0 : Int} : aE 41 [aI a0] (SH L) M ([aI (bi (decide (16 ≤ a0 ∧ a0 < 25)))], SH L, M) := by
  apply en_41
  repeat' (first | apply And.intro | intro _)
  all_goals (refine rI ?_; first | exact bip (by omega) | exact bin (by omega))
theorem s_57 {a0 : Int} : aE 57 [aI a0] (SH L) M ([aI (bi (decide (0 ≤ a0 ∧ a0 < 60)))], SH L, M) := by
  apply en_57
  repeat' (first | apply And.intro | intro _)
  all_goals (refine rI ?_; first | exact bip (by omega) | exact bin (by omega))
theorem s_169 {a0 : Int} : aE 169 [aI a0] (SH L) M ([aI (bi (decide (0 ≤ a0 ∧ a0 < 3)))], SH L, M) := by
  apply en_169
  repeat' (first | apply And.intro | intro _)
  all_goals (refine rI ?_; first | exact bip (by omega) | exact bin (by omega))
theorem s_138 {a0 a1 : Int} : aE 138 [aI a0, aI a1] (SH L) M ([aI (bi (decide (1 ≤ a0 ∧ a0 ≤ 240 ∧ 0 ≤ a1 ∧ a1 ≤ 99)))], SH L, M) := by
  apply en_138
  repeat' (first | apply And.intro | intro _)
  all_goals (refine rI ?_; first | exact bip (by omega) | exact bin (by omega))
def rk (t : Int) : Int := if t = 8 ∨ t = 9 then 2 else if t = 6 ∨ t = 7 then 1 else 0
theorem s_42 {a0 : Int} : aE 42 [aI a0] (SH L) M ([aI (rk a0)], SH L, M) := by
  apply en_42
  repeat' (first | apply And.intro | intro _)
  all_goals (refine rI ?_; unfold rk; first | rw [if_pos (by omega)] | rw [if_neg (by omega), if_pos (by omega)] | rw [if_neg (by omega), if_neg (by omega)])
theorem s_54 : aE 54 [aR 1] (SH L) M ([aI (M 1 6)], SH L, M) := en_54 rfl
theorem s_55 {t k : Int} (ht : isTx t) : aE 55 [aR t, aI k] (SH L) M ([aI (bi (decide (0 ≤ k ∧ k < M t 3)))], SH L, M) := by
  apply en_55
  repeat' (first | exact (tx ht).1 | apply And.intro | intro _)
  all_goals (refine rI ?_; first | exact bip (by omega) | exact bin (by omega))
theorem s_63 {b k : Int} (hb : isBd b) : aE 63 [aR b, aI k] (SH L) M ([aI (bi (decide (0 ≤ k ∧ k < M b 0)))], SH L, M) := by
  apply en_63
  repeat' (first | exact (bd hb).1 | apply And.intro | intro _)
  all_goals (refine rI ?_; first | exact bip (by omega) | exact bin (by omega))
theorem s_83 {a1 : Int} : aE 83 [aR 64, aI a1] (SH L) M ([aR (if a1 = 0 ∨ a1 = 2 then 72 else 67)], SH L, M) := by
  apply en_83
  refine ⟨fun h => ?_, fun h => ⟨fun h2 => ?_, fun h2 => ?_⟩⟩
  · rw [if_pos (by omega)]
  · rw [if_neg (by omega)]
  · rw [if_pos (by omega)]
theorem s_81 {b : Int} (hb : isBd b) : aE 81 [aR b] (SH L) M ([aJ (aWL (aLsl 1 (M b 0) - 1))], SH L, M) := en_81 ⟨(bd hb).1, rfl⟩
theorem s_51 : aE 51 [aR 1] (SH L) M ([], SH L, aSet (aSet M 1 9 (aW (M 1 9 + 1))) 1 10 (aW (M 1 10 + 1))) := en_51 rfl
end SPA
