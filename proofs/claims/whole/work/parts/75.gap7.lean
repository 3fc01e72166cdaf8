/-! gaps: both choose the same -/
section GAP7
variable {L : Nat} {M M1 M2 : aM}
theorem pkI_uq {Q : Int → Bool} {m : Nat} : ∀ n : Nat, m ≤ n → Q m = true → (∀ i : Int, (m : Int) < i → i ≤ n → Q i = false) → pkI Q n = m := by
  intro n
  induction n with
  | zero =>
    intro h q _
    have e : m = 0 := by omega
    subst e
    exact if_pos q
  | succ n ih =>
    intro h q no
    by_cases e : m = n + 1
    · subst e
      exact if_pos q
    · rw [show pkI Q (n + 1) = pkI Q n from if_neg (by rw [no _ (by omega) (by omega)]; decide)]
      exact ih (by omega) q (fun i i0 i1 => no i i0 (by omega))
theorem pkI_max {Q : Int → Bool} : ∀ (n i : Nat), i ≤ n → Q i = true → (i : Int) ≤ pkI Q n := by
  intro n
  induction n with
  | zero =>
    intro i h q
    have e : i = 0 := by omega
    subst e
    rw [show pkI Q 0 = 0 from if_pos q]; exact Int.le_refl _
  | succ n ih =>
    intro i h q
    by_cases c : Q ((n + 1 : Nat) : Int) = true
    · rw [show pkI Q (n + 1) = ((n + 1 : Nat) : Int) from if_pos c]; omega
    · rw [show pkI Q (n + 1) = pkI Q n from if_neg c]
      by_cases e : i = n + 1
      · subst e; exact absurd q c
      · exact ih i (by omega) q
/-- (t, m) is the greatest pair that is so -/
def pkM (Q : Int → Int → Bool) (R : Int → Nat) (n t m : Nat) : Prop := t ≤ n ∧ m ≤ R t ∧ Q t m = true ∧ ∀ t' m' : Nat, t' ≤ n → m' ≤ R t' → (t < t' ∨ t' = t ∧ m < m') → Q t' m' = false
theorem pkG_uq {Q : Int → Int → Bool} {R : Int → Nat} {t m : Nat} : ∀ n : Nat, pkM Q R n t m → pkG Q R n = ((t : Int), (m : Int)) := by
  intro n
  induction n with
  | zero =>
    rintro ⟨h1, h2, h3, h4⟩
    have e : t = 0 := by omega
    subst e
    have p : pkI (Q 0) (R 0) = m := pkI_uq (R 0) h2 h3 (fun i i0 i1 => by
      have := h4 0 i.toNat (Nat.le_refl _) (by show i.toNat ≤ R 0; omega) (Or.inr ⟨rfl, by omega⟩)
      rw [Int.toNat_of_nonneg (by omega)] at this
      exact this)
    show ((0 : Int), if pkI (Q 0) (R 0) < 0 then 0 else pkI (Q 0) (R 0)) = _
    rw [p, if_neg (by omega)]; rfl
  | succ n ih =>
    rintro ⟨h1, h2, h3, h4⟩
    by_cases e : t = n + 1
    · subst e
      have p : pkI (Q ((n + 1 : Nat) : Int)) (R ((n + 1 : Nat) : Int)) = m := pkI_uq _ h2 h3 (fun i i0 i1 => by
        have := h4 (n + 1) i.toNat (Nat.le_refl _) (by omega) (Or.inr ⟨rfl, by omega⟩)
        rw [Int.toNat_of_nonneg (by omega)] at this
        exact this)
      show (if pkI (Q ((n + 1 : Nat) : Int)) (R ((n + 1 : Nat) : Int)) < 0 then pkG Q R n else (((n + 1 : Nat) : Int), pkI (Q ((n + 1 : Nat) : Int)) (R ((n + 1 : Nat) : Int)))) = _
      rw [p, if_neg (by omega)]
    · have p : pkI (Q ((n + 1 : Nat) : Int)) (R ((n + 1 : Nat) : Int)) = -1 := pkI_no _ (fun i i0 i1 => by
        have := h4 (n + 1) i.toNat (Nat.le_refl _) (by omega) (Or.inl (by omega))
        rw [Int.toNat_of_nonneg (by omega)] at this
        exact this)
      show (if pkI (Q ((n + 1 : Nat) : Int)) (R ((n + 1 : Nat) : Int)) < 0 then pkG Q R n else (((n + 1 : Nat) : Int), pkI (Q ((n + 1 : Nat) : Int)) (R ((n + 1 : Nat) : Int)))) = _
      rw [p, if_pos (by decide)]
      exact ih ⟨by omega, h2, h3, fun t' m' a b c => h4 t' m' (by omega) b c⟩
theorem pkG_at {Q : Int → Int → Bool} {R : Int → Nat} : ∀ n : Nat, (∃ t m : Nat, t ≤ n ∧ m ≤ R t ∧ Q t m = true) → ∃ t m : Nat, pkM Q R n t m := by
  intro n
  induction n with
  | zero =>
    rintro ⟨t, m, h1, h2, h3⟩
    have e : t = 0 := by omega
    subst e
    rcases pkI_at (Q := Q ((0 : Nat) : Int)) (R ((0 : Nat) : Int)) with ⟨-, no⟩ | ⟨a, b, c⟩
    · rw [no m (by omega) (by omega)] at h3; cases h3
    · refine ⟨0, (pkI (Q ((0 : Nat) : Int)) (R ((0 : Nat) : Int))).toNat, Nat.le_refl _, by omega, by rw [Int.toNat_of_nonneg a]; exact c, fun t' m' q1 q2 q3 => ?_⟩
      have e : t' = 0 := by omega
      subst e
      cases z : Q ((0 : Nat) : Int) m'
      · rfl
      · have u := pkI_max _ _ q2 z
        omega
  | succ n ih =>
    rintro ⟨t, m, h1, h2, h3⟩
    rcases pkI_at (Q := Q ((n + 1 : Nat) : Int)) (R ((n + 1 : Nat) : Int)) with ⟨-, no⟩ | ⟨a, b, c⟩
    · have tn : t ≤ n := by
        by_cases e : t = n + 1
        · subst e
          rw [no m (by omega) (by omega)] at h3; cases h3
        · omega
      obtain ⟨t2, m2, g1, g2, g3, g4⟩ := ih ⟨t, m, tn, h2, h3⟩
      refine ⟨t2, m2, by omega, g2, g3, fun t' m' q1 q2 q3 => ?_⟩
      by_cases e : t' = n + 1
      · subst e; exact no m' (by omega) (by omega)
      · exact g4 t' m' (by omega) q2 q3
    · refine ⟨n + 1, (pkI (Q ((n + 1 : Nat) : Int)) (R ((n + 1 : Nat) : Int))).toNat, Nat.le_refl _, by omega, by rw [Int.toNat_of_nonneg a]; exact c, fun t' m' q1 q2 q3 => ?_⟩
      have e : t' = n + 1 := by omega
      subst e
      cases z : Q ((n + 1 : Nat) : Int) m'
      · rfl
      · have u := pkI_max _ _ q2 z
        omega
end GAP7
