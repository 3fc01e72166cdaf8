/-! no run writes the script -/
section CEL
variable {S : aSh} {M M' : aM} {o : aO}
def k9 (S : aSh) : Prop := ∃ c l, S = c :: l ∧ c.1 = 9
theorem k9_K (h : k9 S) : aK S 0 = 9 := by
  obtain ⟨c, l, rfl, e⟩ := h
  exact e
theorem k9_app {B : aSh} (h : k9 S) : k9 (S ++ B) := by
  obtain ⟨c, l, rfl, e⟩ := h
  exact ⟨c, l ++ B, rfl, e⟩
theorem k9_put {r : Int} {j : Nat} {v : Int} (h : k9 S) : k9 (aPut S r j v) := by
  obtain ⟨c, l, rfl, e⟩ := h
  unfold aPut
  split
  · rename_i k
    cases k with
    | zero => exact ⟨_, l, rfl, e⟩
    | succ k => exact ⟨c, _, rfl, e⟩
  · exact ⟨c, l, rfl, e⟩
theorem k9_len (h : k9 S) : 0 < S.length := by
  obtain ⟨c, l, rfl, e⟩ := h
  exact Nat.succ_pos _
theorem c0_tr (a : k9 o.2.1 ∧ o.2.2 0 = M' 0) (b : M' 0 = M 0) : k9 o.2.1 ∧ o.2.2 0 = M 0 := ⟨a.1, a.2.trans b⟩
theorem c0_l {k : Nat} {r j v : Int} (hk : k9 S) (g : 0 ≤ j ∧ j < aLn S k r) (hn : k ≠ 9) : aSet M r j v 0 = M 0 := by
  refine aSet_c (fun e => ?_)
  rw [← e] at g
  unfold aLn at g
  rw [if_neg (by rw [k9_K hk]; exact hn.symm)] at g
  omega
theorem c0_f {ci : Nat} {r j v : Int} (hk : k9 S) (g : aK S r = 10 + ci) : aSet M r j v 0 = M 0 := by
  refine aSet_c (fun e => ?_)
  rw [← e, k9_K hk] at g
  omega
theorem c0_n {f : Int → Int} (hk : k9 S) : aNew M (S.length : Int) f 0 = M 0 := by
  have := k9_len hk
  funext b
  unfold aNew
  rw [if_neg (by omega)]
theorem c0_ns {n : Int} (hk : k9 S) : aNews M (S.length : Int) n 0 = M 0 := by
  have := k9_len hk
  funext b
  unfold aNews
  rw [if_neg (by omega)]
theorem c0_c {s sp d dp n : Int} (hk : k9 S) (g : aK S d = 1) : aCpy M s sp d dp n 0 = M 0 := by
  funext b
  unfold aCpy
  rw [if_neg]
  rintro ⟨e, -⟩
  rw [← e, k9_K hk] at g
  omega
set_option maxHeartbeats 8000000 in
theorem aRun_c0 {t : Nat → Nat → Nat} {P : Nat → List aEnt} : ∀ (n : Nat) (C rest : List aEnt) (ls st : List aV) (S : aSh) (M : aM) (o : aO), k9 S → aRun t P n C rest ls st S M = some o → k9 o.2.1 ∧ o.2.2 0 = M 0 := by
  intro n
  induction n with
  | zero => intro C rest ls st S M o _ h; simp [aRun] at h
  | succ n ih =>
    intro C rest ls st S M o hk h
    cases rest with
    | nil => simp [aRun] at h
    | cons e rest =>
      obtain ⟨pc, i, k, q⟩ := e
      cases i
      all_goals dsimp only [aRun] at h
      all_goals repeat' split at h
      all_goals first
        | exact ih _ _ _ _ _ _ _ hk h
        | (rename_i g; exact c0_tr (ih _ _ _ _ _ _ _ hk h) (c0_l hk g (by decide)))
        | (rename_i g; exact c0_tr (ih _ _ _ _ _ _ _ hk h) (c0_l hk g.1 (by decide)))
        | (rename_i g; exact c0_tr (ih _ _ _ _ _ _ _ hk h) (c0_f hk g))
        | (rename_i g; exact c0_tr (ih _ _ _ _ _ _ _ hk h) (c0_f hk g.1))
        | exact ih _ _ _ _ _ _ _ (k9_put hk) h
        | exact c0_tr (ih _ _ _ _ _ _ _ (k9_app hk) h) (c0_n hk)
        | exact c0_tr (ih _ _ _ _ _ _ _ (k9_app (k9_app hk)) h) (c0_ns hk)
        | (rename_i g; exact c0_tr (ih _ _ _ _ _ _ _ hk h) (c0_c hk g.1.1.2))
        | (cases h; exact ⟨hk, rfl⟩)
        | cases h
        | (rename_i hc; exact c0_tr (ih _ _ _ _ _ _ _ (ih _ _ _ _ _ _ _ hk hc).1 h) (ih _ _ _ _ _ _ _ hk hc).2)
        | (rename_i hc _; exact c0_tr (ih _ _ _ _ _ _ _ (ih _ _ _ _ _ _ _ hk hc).1 h) (ih _ _ _ _ _ _ _ hk hc).2)
theorem aE_c0 {L z : Nat} {as : List aV} (h : aE z as (SH L) M o) : o.2.2 0 = M 0 := by
  obtain ⟨n, hn⟩ := h
  exact (aRun_c0 n _ _ _ _ _ _ _ ⟨_, _, rfl, rfl⟩ hn).2
end CEL
