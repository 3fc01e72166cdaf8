/-! runs without their lengths; a run with less known of its locals -/
def aLe : List aV → List aV → Prop
  | [], [] => True
  | a :: l, b :: m => (a = aU ∨ a = b) ∧ aLe l m
  | _, _ => False
theorem aLe_rf : ∀ l : List aV, aLe l l
  | [] => trivial
  | _ :: l => ⟨Or.inr rfl, aLe_rf l⟩
theorem aLe_get : ∀ {l m : List aV} {i : Nat} {v : aV}, aLe l m → l[i]? = some v → v ≠ aU → m[i]? = some v
  | [], [], i, v, _, h, _ => h
  | a :: l, b :: m, 0, v, h, hi, hv => by
    have e : a = v := by simpa using hi
    rcases h.1 with q | q
    · exact absurd (e.symm.trans q) hv
    · rw [← q, e]; rfl
  | a :: l, b :: m, i + 1, v, h, hi, hv => aLe_get (l := l) (m := m) (i := i) h.2 hi hv
  | [], _ :: _, _, _, h, _, _ => h.elim
  | _ :: _, [], _, _, h, _, _ => h.elim
theorem aLe_len : ∀ {l m : List aV}, aLe l m → l.length = m.length
  | [], [], _ => rfl
  | _ :: l, _ :: m, h => congrArg (· + 1) (aLe_len (l := l) (m := m) h.2)
  | [], _ :: _, h => h.elim
  | _ :: _, [], h => h.elim
theorem aLe_set : ∀ {l m : List aV} (i : Nat) {v w : aV}, aLe l m → (v = aU ∨ v = w) → aLe (l.set i v) (m.set i w)
  | [], [], _, _, _, _, _ => trivial
  | _ :: _, _ :: _, 0, _, _, h, hv => ⟨hv, h.2⟩
  | _ :: l, _ :: m, i + 1, _, _, h, hv => ⟨h.1, aLe_set (l := l) (m := m) i h.2 hv⟩
  | [], _ :: _, _, _, _, h, _ => h.elim
  | _ :: _, [], _, _, _, h, _ => h.elim
theorem aLe_setU : ∀ {l m : List aV} (i : Nat) {v : aV}, aLe l m → l[i]? ≠ some v → (∀ u, l[i]? = some u → u = aU) → aLe l (m.set i v)
  | [], [], _, _, _, _, _ => trivial
  | a :: l, b :: m, 0, v, h, _, hu => ⟨Or.inl (hu a rfl), h.2⟩
  | a :: l, b :: m, i + 1, v, h, h1, hu => ⟨h.1, aLe_setU (l := l) (m := m) i h.2 h1 hu⟩
  | [], _ :: _, _, _, h, _, _ => h.elim
  | _ :: _, [], _, _, h, _, _ => h.elim
theorem aSt_j {l : List aV} {i : Nat} {v : aV} {z : Int} (h : l[i]? = some (aJ z)) : aSt l (i + 1) v = (l.set i aU).set (i + 1) v := by
  unfold aSt
  simp only [h]
theorem aSt_n {l : List aV} {i : Nat} {v : aV} (h : ¬ ∃ z, l[i]? = some (aJ z)) : aSt l (i + 1) v = l.set (i + 1) v := by
  show (match l[i]? with | some (.inr (.inl _)) => (l.set i aU).set (i + 1) v | _ => l.set (i + 1) v) = _
  split
  · rename_i z hz
    exact absurd ⟨z, hz⟩ h
  · rfl
theorem aLe_st {l m : List aV} {i : Nat} {v : aV} (h : aLe l m) : aLe (aSt l i v) (aSt m i v) := by
  cases i with
  | zero => exact aLe_set 0 h (Or.inr rfl)
  | succ i =>
    by_cases hm : ∃ z, l[i]? = some (aJ z)
    · obtain ⟨z, hz⟩ := hm
      rw [aSt_j hz, aSt_j (aLe_get h hz (by simp))]
      exact aLe_set (i + 1) (aLe_set i h (Or.inr rfl)) (Or.inr rfl)
    · rw [aSt_n hm]
      by_cases hn : ∃ z, m[i]? = some (aJ z)
      · obtain ⟨z, hz⟩ := hn
        rw [aSt_j hz]
        refine aLe_set (i + 1) ?_ (Or.inr rfl)
        cases hl : l[i]? with
        | none =>
          have h1 : l.length ≤ i := by simpa using hl
          have h2 := (List.getElem?_eq_some_iff.mp hz).1
          have h3 := aLe_len h
          omega
        | some u =>
          have hu : u = aU := by
            by_cases c : u = aU
            · exact c
            · have := aLe_get h hl c
              rw [hz] at this
              have := Option.some.inj this
              subst this
              exact absurd ⟨z, hl⟩ hm
          subst hu
          have e2 : l.set i aU = l := by
            apply List.ext_getElem?
            intro j
            by_cases c : j = i
            · subst c
              rw [List.getElem?_set_self (List.getElem?_eq_some_iff.mp hl).1, hl]
            · rw [List.getElem?_set_ne (fun q => c q.symm)]
          have := aLe_set (v := aU) (w := aU) i h (Or.inr rfl)
          rwa [e2] at this
      · rw [aSt_n hn]
        exact aLe_set (i + 1) h (Or.inr rfl)
theorem aLe_st2 {l m : List aV} {i : Nat} {z : Int} (h : aLe l m) : aLe (aSt2 l i z) (aSt2 m i z) := aLe_set (i + 1) (aLe_st h) (Or.inr rfl)
set_option maxHeartbeats 8000000 in
theorem aRun_fuel {t : Nat → Nat → Nat} {P : Nat → List aEnt} : ∀ (n : Nat) (C rest : List aEnt) (ls st : List aV) (S : aSh) (M : aM) (o : aO), aRun t P n C rest ls st S M = some o → aRun t P (n + 1) C rest ls st S M = some o := by
  intro n
  induction n with
  | zero => intro C rest ls st S M o h; simp [aRun] at h
  | succ n ih =>
    intro C rest ls st S M o h
    cases rest with
    | nil => simp [aRun] at h
    | cons e rest =>
      obtain ⟨pc, i, k, q⟩ := e
      cases i
      all_goals dsimp only [aRun] at h ⊢
      all_goals repeat' split at h
      all_goals first
        | exact ih _ _ _ _ _ _ _ h
        | exact h
        | (rename_i hz; rw [if_pos hz]; exact ih _ _ _ _ _ _ _ h)
        | (rename_i hz; rw [if_neg hz]; exact ih _ _ _ _ _ _ _ h)
        | (rename_i hz; rw [if_pos hz]; exact h)
        | cases h
        | (rename_i hz; simp only [hz]; exact ih _ _ _ _ _ _ _ h)
        | (rename_i h1 hz; simp only [h1, ih _ _ _ _ _ _ _ hz]; exact ih _ _ _ _ _ _ _ h)
        | (rename_i h1 hz _; simp only [h1, ih _ _ _ _ _ _ _ hz]; exact ih _ _ _ _ _ _ _ h)
        | (rename_i h1 h2 hk hz; simp only [h1, h2, ih _ _ _ _ _ _ _ hz, if_pos hk]; exact ih _ _ _ _ _ _ _ h)
        | (rename_i h1 h2; simp only [h1, h2, if_true]; exact ih _ _ _ _ _ _ _ h)
        | (rename_i h1 h2; simp only [h1]; rw [if_pos h2]; exact ih _ _ _ _ _ _ _ h)
        | (rename_i h1 _ _ _ _ hz; rw [ih _ _ _ _ _ _ _ hz]; exact ih _ _ _ _ _ _ _ h)
        | (rename_i h1 h2 hk _ _ _ _ hz; rw [if_pos hk, ih _ _ _ _ _ _ _ hz]; exact ih _ _ _ _ _ _ _ h)
set_option maxHeartbeats 8000000 in
theorem aRun_le {t : Nat → Nat → Nat} {P : Nat → List aEnt} : ∀ (n : Nat) (C rest : List aEnt) (ls ms st : List aV) (S : aSh) (M : aM) (o : aO), aRun t P n C rest ls st S M = some o → aLe ls ms → aRun t P n C rest ms st S M = some o := by
  intro n
  induction n with
  | zero => intro C rest ls ms st S M o h; simp [aRun] at h
  | succ n ih =>
    intro C rest ls ms st S M o h hle
    cases rest with
    | nil => simp [aRun] at h
    | cons e rest =>
      obtain ⟨pc, i, k, q⟩ := e
      cases i
      all_goals dsimp only [aRun] at h ⊢
      all_goals repeat' split at h
      all_goals first
        | exact ih _ _ _ _ _ _ _ _ h hle
        | exact ih _ _ _ _ _ _ _ _ h (aLe_st hle)
        | exact ih _ _ _ _ _ _ _ _ h (aLe_st2 hle)
        | exact h
        | (rename_i hz; rw [aLe_get hle hz (by simp)]; exact ih _ _ _ _ _ _ _ _ h hle)
        | (rename_i hz; rw [aLe_get hle hz (by simp)]; exact ih _ _ _ _ _ _ _ _ h (aLe_st hle))
        | (rename_i hz; rw [if_pos hz]; exact ih _ _ _ _ _ _ _ _ h hle)
        | (rename_i hz; rw [if_neg hz]; exact ih _ _ _ _ _ _ _ _ h hle)
        | (rename_i hz; rw [if_pos hz]; exact h)
        | cases h
        | (rename_i hz; simp only [hz]; exact ih _ _ _ _ _ _ _ _ h hle)
        | (rename_i h1 hz; simp only [h1, hz]; exact ih _ _ _ _ _ _ _ _ h hle)
        | (rename_i h1 hz _; simp only [h1, hz]; exact ih _ _ _ _ _ _ _ _ h hle)
        | (rename_i h1 h2 hk hz; simp only [h1, h2, hz, if_pos hk]; exact ih _ _ _ _ _ _ _ _ h hle)
        | (rename_i h1 h2; simp only [h1]; rw [if_pos h2]; exact ih _ _ _ _ _ _ _ _ h hle)
        | (rename_i h1 _ _ _ _ hz; rw [hz]; exact ih _ _ _ _ _ _ _ _ h hle)
        | (rename_i h1 h2 hk _ _ _ _ hz; rw [if_pos hk]; exact ih _ _ _ _ _ _ _ _ h hle)
