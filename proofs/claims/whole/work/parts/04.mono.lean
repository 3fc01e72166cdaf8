/-! what a run makes only grows -/
def sS : aSh → Nat
  | [] => 0
  | c :: l => c.2.1 + sS l
theorem sS_app (a b : aSh) : sS (a ++ b) = sS a + sS b := by
  induction a with
  | nil => show sS b = 0 + sS b; omega
  | cons c l ih => show c.2.1 + sS (l ++ b) = c.2.1 + sS l + sS b; omega
theorem sS_set (S : aSh) (k : Nat) (c : Nat × Nat × List Int) (h : c.2.1 = (S.getD k (0, 0, [])).2.1) : sS (S.set k c) = sS S := by
  induction S generalizing k with
  | nil => rfl
  | cons a l ih =>
    cases k with
    | zero => show c.2.1 + sS l = a.2.1 + sS l; rw [h]; rfl
    | succ k => show a.2.1 + sS (l.set k c) = a.2.1 + sS l; rw [ih k h]
theorem aPut_len (S : aSh) (r : Int) (j : Nat) (v : Int) : (aPut S r j v).length = S.length := by
  unfold aPut
  split
  · rw [List.length_set]
  · rfl
theorem aPut_sS (S : aSh) (r : Int) (j : Nat) (v : Int) : sS (aPut S r j v) = sS S := by
  unfold aPut
  split
  · exact sS_set _ _ _ rfl
  · rfl
def sLe (A B : aSh) : Prop := A.length ≤ B.length ∧ sS A ≤ sS B
theorem sLe_rf (A : aSh) : sLe A A := ⟨Nat.le_refl _, Nat.le_refl _⟩
theorem sLe_tr {A B C : aSh} (h : sLe A B) (h2 : sLe B C) : sLe A C := ⟨Nat.le_trans h.1 h2.1, Nat.le_trans h.2 h2.2⟩
theorem sLe_app {A B C : aSh} (h : sLe (A ++ B) C) : sLe A C := ⟨by have := h.1; rw [List.length_append] at this; omega, by have := h.2; rw [sS_app] at this; omega⟩
theorem sLe_put {A C : aSh} {r : Int} {j : Nat} {v : Int} (h : sLe (aPut A r j v) C) : sLe A C := ⟨by have := h.1; rw [aPut_len] at this; exact this, by have := h.2; rw [aPut_sS] at this; exact this⟩
set_option maxHeartbeats 4000000 in
theorem aRun_mono {t : Nat → Nat → Nat} {P : Nat → List aEnt} : ∀ (n : Nat) (C rest : List aEnt) (ls st : List aV) (S : aSh) (M : aM) (o : aO), aRun t P n C rest ls st S M = some o → sLe S o.2.1 := by
  intro n
  induction n with
  | zero => intro C rest ls st S M o h; simp [aRun] at h
  | succ n ih =>
    intro C rest ls st S M o h
    cases rest with
    | nil => simp [aRun] at h
    | cons e rest =>
      obtain ⟨pc, i, k, q⟩ := e
      cases i
      all_goals dsimp only [aRun] at h
      all_goals repeat' split at h
      all_goals first
        | exact ih _ _ _ _ _ _ _ h
        | exact sLe_app (ih _ _ _ _ _ _ _ h)
        | exact sLe_app (sLe_app (ih _ _ _ _ _ _ _ h))
        | exact sLe_put (ih _ _ _ _ _ _ _ h)
        | (cases h; exact sLe_rf _)
        | cases h
        | (rename_i hc; exact sLe_tr (ih _ _ _ _ _ _ _ hc) (ih _ _ _ _ _ _ _ h))
        | (rename_i hc _; exact sLe_tr (ih _ _ _ _ _ _ _ hc) (ih _ _ _ _ _ _ _ h))
