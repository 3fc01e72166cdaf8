/-! the locals of the abstract machine and of the kit's -/
def sP (ads : List Nat) (sa : Nat) (ls : List aV) : List (Nat × Value) :=
  (List.range ls.length).filterMap (fun i => (ls[i]?).bind (fun v => if v = aU then none else some (i, sV ads sa v)))
theorem sP_mem {ads : List Nat} {sa : Nat} {ls : List aV} {i : Nat} {v : aV} (h : ls[i]? = some v) (hv : v ≠ aU) : (i, sV ads sa v) ∈ sP ads sa ls := by
  unfold sP
  rw [List.mem_filterMap]
  refine ⟨i, List.mem_range.mpr (List.getElem?_eq_some_iff.mp h).1, ?_⟩
  rw [h]
  simp [hv]
theorem sP_of {ads : List Nat} {sa : Nat} {ls : List aV} {q : Nat × Value} (h : q ∈ sP ads sa ls) : ∃ v, ls[q.1]? = some v ∧ v ≠ aU ∧ q.2 = sV ads sa v := by
  unfold sP at h
  rw [List.mem_filterMap] at h
  obtain ⟨i, -, h⟩ := h
  cases e : ls[i]? with
  | none => rw [e] at h; cases h
  | some v =>
    rw [e] at h
    by_cases hv : v = aU
    · simp [hv] at h
    · simp [hv] at h
      subst h
      exact ⟨v, e, hv, rfl⟩
def sL (ads : List Nat) (sa : Nat) (ls : List aV) (nL : Nat) (lsM : Array Slot) : Prop := ls.length = nL ∧ lv_has lsM nL (sP ads sa ls)
theorem sL_get {ads : List Nat} {sa : Nat} {ls : List aV} {nL : Nat} {lsM : Array Slot} (h : sL ads sa ls nL lsM) {i : Nat} {v : aV} (hi : ls[i]? = some v) (hv : v ≠ aU) : lsM[i]? = some (.val (sV ads sa v)) := h.2.2.2 _ (sP_mem hi hv)
theorem sL_of {ads : List Nat} {sa : Nat} {ls : List aV} {nL : Nat} {lsM : Array Slot} {l : List (Nat × Value)} (h : lv_has lsM nL l) (hl : ls.length = nL) (hm : ∀ (i : Nat) (v : aV), ls[i]? = some v → v ≠ aU → (i, sV ads sa v) ∈ l) : sL ads sa ls nL lsM := by
  refine ⟨hl, h.1, h.2.1, fun q hq => ?_⟩
  obtain ⟨v, h1, h2, h3⟩ := sP_of hq
  have := h.2.2 _ (hm _ v h1 h2)
  rw [← h3] at this
  exact this
theorem sV_cat (ads : List Nat) (sa : Nat) (v : aV) : (sV ads sa v).category = 2 ↔ ∃ z, v = aJ z := by
  match v with
  | .inl z => simp [sV, Value.category]
  | .inr (.inl z) => simp [sV, Value.category]
  | .inr (.inr (some (.ofNat k))) => simp [sV, Value.category]
  | .inr (.inr (some (.negSucc 0))) => simp [sV, Value.category]
  | .inr (.inr (some (.negSucc (k + 1)))) => simp [sV, Value.category]
  | .inr (.inr none) => simp [sV, Value.category]
theorem aSt_len (ls : List aV) (i : Nat) (v : aV) : (aSt ls i v).length = ls.length := by
  unfold aSt
  split
  · rw [List.length_set]
  · split
    · rw [List.length_set, List.length_set]
    · rw [List.length_set]
theorem aSt_at {ls : List aV} {i j : Nat} {v w : aV} (hi : i < ls.length) (h : (aSt ls i v)[j]? = some w) (hw : w ≠ aU) : (j = i ∧ w = v) ∨ (j ≠ i ∧ ls[j]? = some w ∧ ¬ (j + 1 = i ∧ ∃ z, w = aJ z)) := by
  unfold aSt at h
  by_cases hj : j = i
  · subst hj
    refine Or.inl ⟨rfl, ?_⟩
    split at h
    · rw [List.getElem?_set_self hi] at h; exact (Option.some.inj h).symm
    · split at h
      · rw [List.getElem?_set_self (by rw [List.length_set]; exact hi)] at h; exact (Option.some.inj h).symm
      · rw [List.getElem?_set_self hi] at h; exact (Option.some.inj h).symm
  · refine Or.inr ⟨hj, ?_⟩
    split at h
    · rw [List.getElem?_set_ne (fun q => hj q.symm)] at h
      exact ⟨h, fun q => by omega⟩
    · rename_i i
      split at h
      · rename_i z hz
        rw [List.getElem?_set_ne (fun q => hj q.symm)] at h
        by_cases hk : j = i
        · subst hk
          rw [List.getElem?_set_self (by omega)] at h
          exact absurd (Option.some.inj h).symm hw
        · rw [List.getElem?_set_ne (fun q => hk q.symm)] at h
          exact ⟨h, fun q => hk (by omega)⟩
      · rename_i hz
        rw [List.getElem?_set_ne (fun q => hj q.symm)] at h
        refine ⟨h, fun ⟨q, z, hq⟩ => ?_⟩
        have e : j = i := by omega
        subst e
        subst hq
        exact hz z h
theorem sL_st {ads : List Nat} {sa : Nat} {ls : List aV} {nL : Nat} {lsM lsN : Array Slot} {i : Nat} {v : aV} (h : sL ads sa ls nL lsM) (hi : i < nL)
    (h2 : lv_has lsN nL ((i, sV ads sa v) :: (sP ads sa ls).filter (fun q => !(q.1 == i) && !(q.1 + 1 == i && q.2.category == 2)))) : sL ads sa (aSt ls i v) nL lsN := by
  refine sL_of h2 (by rw [aSt_len]; exact h.1) (fun j w hj hw => ?_)
  rcases aSt_at (by rw [h.1]; exact hi) hj hw with ⟨rfl, rfl⟩ | ⟨h3, h4, h5⟩
  · exact List.mem_cons_self
  · refine List.mem_cons_of_mem _ (List.mem_filter.mpr ⟨sP_mem h4 hw, ?_⟩)
    by_cases c : j + 1 = i
    · have : ¬ (sV ads sa w).category = 2 := fun q => h5 ⟨c, (sV_cat _ _ _).mp q⟩
      simp [h3, this]
    · simp [h3, c]
theorem sL_st2 {ads : List Nat} {sa : Nat} {ls : List aV} {nL : Nat} {lsM lsN : Array Slot} {i : Nat} {z : Int} (h : sL ads sa ls nL lsM) (hi : i + 1 < nL)
    (h2 : lv_has lsN nL ((i, sV ads sa (aJ z)) :: (sP ads sa ls).filter (fun q => !(q.1 == i) && (!(q.1 == i + 1) && !(q.1 + 1 == i && q.2.category == 2))))) : sL ads sa (aSt2 ls i z) nL lsN := by
  refine sL_of h2 (by unfold aSt2; rw [List.length_set, aSt_len]; exact h.1) (fun j w hj hw => ?_)
  unfold aSt2 at hj
  by_cases hk : j = i + 1
  · subst hk
    rw [List.getElem?_set_self (by rw [aSt_len, h.1]; exact hi)] at hj
    exact absurd (Option.some.inj hj).symm hw
  rw [List.getElem?_set_ne (fun q => hk q.symm)] at hj
  rcases aSt_at (by rw [h.1]; omega) hj hw with ⟨rfl, rfl⟩ | ⟨h3, h4, h5⟩
  · exact List.mem_cons_self
  · refine List.mem_cons_of_mem _ (List.mem_filter.mpr ⟨sP_mem h4 hw, ?_⟩)
    by_cases c : j + 1 = i
    · have : ¬ (sV ads sa w).category = 2 := fun q => h5 ⟨c, (sV_cat _ _ _).mp q⟩
      simp [h3, hk, this]
    · simp [h3, hk, c]
theorem sV_1 {ads : List Nat} {sa : Nat} {z : Int} : (sV ads sa (aR z)).category = 1 := by
  match z with
  | .ofNat k => rfl
  | .negSucc 0 => rfl
  | .negSucc (k + 1) => rfl
