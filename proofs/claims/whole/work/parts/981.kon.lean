/-! the constructors: a small machine that runs on written things alone, and that its runs are the machine's -/
section KON
variable {t : Nat → Nat → Nat} {P : Nat → List aEnt} {L : Nat} {S S0 : aSh} {M : aM}
abbrev kEv : Type := Int × Int × Int ⊕ Int × Nat
def look (t : Nat → Nat → Nat) : List kEv → Int → Int → Int
  | [], _, _ => 0
  | .inl (r, j, v) :: W, a, b => if a = r ∧ b = j then v else look t W a b
  | .inr (r, c) :: W, a, b => if a = r then (if t c b.toNat = 2 then -1 else 0) else look t W a b
def kRun (t : Nat → Nat → Nat) (P : Nat → List aEnt) : Nat → List aEnt → List aV → List aV → aSh → List kEv → Option (List aV × aSh × List kEv)
  | 0, _, _, _, _, _ => none
  | _ + 1, [], _, _, _, _ => none
  | n + 1, (_, i, k, _) :: rest, ls, st, S, W => match i with
    | .aload_n j => match ls[j.val]? with
      | some (.inr (.inr (some z))) => kRun t P n rest ls (.inr (.inr (some z)) :: st) S W
      | _ => none
    | .iload_n j => match ls[j.val]? with
      | some (.inl z) => kRun t P n rest ls (.inl z :: st) S W
      | _ => none
    | .iconst z => kRun t P n rest ls (.inl z :: st) S W
    | .bipush z => kRun t P n rest ls (.inl z :: st) S W
    | .sipush z => kRun t P n rest ls (.inl z :: st) S W
    | .dup => match st with
      | .inr (.inr (some x)) :: st => kRun t P n rest ls (.inr (.inr (some x)) :: .inr (.inr (some x)) :: st) S W
      | _ => none
    | .getfield _ => match k, st with
      | [ci, j], .inr (.inr (some r)) :: st => match t ci j with
        | 3 => if aK S r = 10 + ci then kRun t P n rest ls (.inr (.inr (some (aF S r j))) :: st) S W else none
        | _ => none
      | _, _ => none
    | .putfield _ => match k, st with
      | [ci, j], v :: .inr (.inr (some r)) :: st => match t ci j, v with
        | 0, .inl z => if aK S r = 10 + ci then kRun t P n rest ls st S (.inl (r, j, z) :: W) else none
        | 1, .inr (.inl z) => if aK S r = 10 + ci then kRun t P n rest ls st S (.inl (r, j, z) :: W) else none
        | 2, .inr (.inr (some z)) => if aK S r = 10 + ci ∧ -1 ≤ z then kRun t P n rest ls st S (.inl (r, j, z) :: W) else none
        | 3, .inr (.inr (some z)) => if aK S r = 10 + ci ∧ -1 ≤ z then kRun t P n rest ls st (aPut S r j z) W else none
        | _, _ => none
      | _, _ => none
    | .iastore => match st with
      | .inl z :: .inl j :: .inr (.inr (some r)) :: st => if 0 ≤ j ∧ j < aLn S 1 r then kRun t P n rest ls st S (.inl (r, j, z) :: W) else none
      | _ => none
    | .aastore => match st with
      | .inr (.inr (some z)) :: .inl j :: .inr (.inr (some r)) :: st => if (0 ≤ j ∧ j < aLn S 5 r) ∧ aK S z = 10 then kRun t P n rest ls st (aPut S r j.toNat z) W else none
      | _ => none
    | .new _ => match k with
      | [ci, f] => kRun t P n rest ls (.inr (.inr (some (S.length : Int))) :: st) (S ++ [(10 + ci, f, List.replicate f (-1))]) (.inr ((S.length : Int), ci) :: W)
      | _ => none
    | .newarray _ => match k, st with
      | [a], .inl z :: st => if 0 ≤ z ∧ z ≤ 4000 then kRun t P n rest ls (.inr (.inr (some (S.length : Int))) :: st) (S ++ [(a, z.toNat, [])]) W else none
      | _, _ => none
    | .anewarray _ => match st with
      | .inl z :: st => if 0 ≤ z ∧ z ≤ 4000 then kRun t P n rest ls (.inr (.inr (some (S.length : Int))) :: st) (S ++ [(5, z.toNat, List.replicate z.toNat (-1))]) W else none
      | _ => none
    | .multianewarray _ _ => match k, st with
      | [a, b], .inl y :: .inl x :: st => if (0 ≤ x ∧ x ≤ 4000) ∧ (0 ≤ y ∧ y ≤ 4000) then kRun t P n rest ls (.inr (.inr (some (S.length : Int))) :: st) ((S ++ [(a, x.toNat, (List.range x.toNat).map (fun (i : Nat) => (S.length : Int) + 1 + (i : Int)))]) ++ List.replicate x.toNat (b, y.toNat, [])) W else none
      | _, _ => none
    | .return_ => match st with
      | [] => some ([], S, W)
      | _ => none
    | .invokespecial _ => match k with
      | [z, na, ml, ci] => match Nat.ble na st.length && Nat.ble (aCat (st.drop na)) 8 && Nat.ble (aArg (st.take na).reverse).length ml, (st.take na).reverse with
        | true, .inr (.inr (some r)) :: _ => if aK S r = 10 + ci then match kRun t P n (P z) (aLoc (st.take na).reverse ml) [] S W with
          | some (v, S', W') => kRun t P n rest ls (v ++ st.drop na) S' W'
          | none => none
          else none
        | _, _ => none
      | [] => match st with
        | [.inr (.inr (some r))] => if 10 ≤ aK S r then kRun t P n rest ls [] S W else none
        | _ => none
      | _ => none
    | .invokevirtual _ => match k with
      | [z, na, ml, ci] => match Nat.ble na st.length && Nat.ble (aCat (st.drop na)) 8 && Nat.ble (aArg (st.take na).reverse).length ml, (st.take na).reverse with
        | true, .inr (.inr (some r)) :: _ => if aK S r = 10 + ci then match kRun t P n (P z) (aLoc (st.take na).reverse ml) [] S W with
          | some (v, S', W') => kRun t P n rest ls (v ++ st.drop na) S' W'
          | none => none
          else none
        | _, _ => none
      | _ => none
    | _ => none
/-- the shapes but for the script's length -/
def kE (L : Nat) (S0 S : aSh) : Prop := ∃ l, S0 = (9, 0, []) :: l ∧ S = (9, L, []) :: l
theorem kE_K (h : kE L S0 S) (r : Int) : aK S r = aK S0 r := by
  obtain ⟨l, rfl, rfl⟩ := h
  unfold aK aCell
  cases r with
  | ofNat k => cases k <;> rfl
  | negSucc k => rfl
theorem kE_F (h : kE L S0 S) (r : Int) (j : Nat) : aF S r j = aF S0 r j := by
  obtain ⟨l, rfl, rfl⟩ := h
  unfold aF aCell
  cases r with
  | ofNat k => cases k <;> rfl
  | negSucc k => rfl
theorem kE_Ln (h : kE L S0 S) {k : Nat} (hk : k ≠ 9) (r : Int) : aLn S k r = aLn S0 k r := by
  unfold aLn
  rw [kE_K h]
  by_cases c : aK S0 r = k
  · rw [if_pos c, if_pos c]
    obtain ⟨l, rfl, rfl⟩ := h
    unfold aK aCell at c
    unfold aL aCell
    cases r with
    | ofNat q =>
      cases q with
      | zero => exact absurd c.symm hk
      | succ q => rfl
    | negSucc q => rfl
  · rw [if_neg c, if_neg c]
theorem kE_len (h : kE L S0 S) : S.length = S0.length := by
  obtain ⟨l, rfl, rfl⟩ := h
  rfl
theorem kE_app (h : kE L S0 S) (B : aSh) : kE L (S0 ++ B) (S ++ B) := by
  obtain ⟨l, rfl, rfl⟩ := h
  exact ⟨l ++ B, rfl, rfl⟩
theorem kE_0 (h : kE L S0 S) : aK S0 0 = 9 := by
  obtain ⟨l, rfl, rfl⟩ := h
  rfl
theorem aK_in {r : Int} (h : aK S r ≠ 0) : 0 ≤ r ∧ r < (S.length : Int) := by
  unfold aK aCell at h
  cases r with
  | ofNat k =>
    refine ⟨Int.natCast_nonneg k, ?_⟩
    by_cases c : k < S.length
    · exact Int.ofNat_lt.mpr c
    · exfalso
      apply h
      dsimp only
      rw [List.getD_eq_getElem?_getD, List.getElem?_eq_none (by omega)]
      rfl
  | negSucc k => exact absurd rfl h
theorem kE_in (h : kE L S0 S) {r : Int} (hk : aK S0 r ≠ 0) (h9 : aK S0 r ≠ 9) : 1 ≤ r ∧ r < (S.length : Int) := by
  have a := aK_in hk
  rw [kE_len h]
  refine ⟨?_, a.2⟩
  have : r ≠ 0 := fun e => h9 (by rw [e]; exact kE_0 h)
  omega
theorem kE_put (h : kE L S0 S) {r : Int} (hk : aK S0 r ≠ 0) (h9 : aK S0 r ≠ 9) (j : Nat) (v : Int) : kE L (aPut S0 r j v) (aPut S r j v) := by
  have a := kE_in h hk h9
  obtain ⟨l, rfl, rfl⟩ := h
  cases r with
  | ofNat k =>
    cases k with
    | zero => exact absurd a.1 (by decide)
    | succ k => exact ⟨_, rfl, rfl⟩
  | negSucc k => exact absurd a.1 (by omega)
theorem kPut_len {r : Int} {j : Nat} {v : Int} : (aPut S r j v).length = S.length := by
  unfold aPut
  cases r with
  | ofNat k => exact List.length_set
  | negSucc k => rfl
/-- what the cells hold -/
def kHd (t : Nat → Nat → Nat) (S : aSh) (M : aM) (W : List kEv) : Prop := (∀ a b, 1 ≤ a → a < (S.length : Int) → M a b = look t W a b) ∧ ∀ a b, (S.length : Int) ≤ a → look t W a b = 0
variable {W : List kEv}
theorem kHd_set (h : kHd t S M W) {r j v : Int} (hr : 1 ≤ r ∧ r < (S.length : Int)) : kHd t S (aSet M r j v) (.inl (r, j, v) :: W) := by
  refine ⟨fun a b a1 a2 => ?_, fun a b a1 => ?_⟩
  · show (if a = r ∧ b = j then v else M a b) = (if a = r ∧ b = j then v else look t W a b)
    rw [h.1 a b a1 a2]
  · show (if a = r ∧ b = j then v else look t W a b) = 0
    rw [if_neg (fun q => by omega)]
    exact h.2 a b a1
theorem kHd_put (h : kHd t S M W) {r : Int} {j : Nat} {v : Int} : kHd t (aPut S r j v) M W := by
  unfold kHd
  rw [kPut_len]
  exact h
theorem kHd_new (h : kHd t S M W) {c : Nat × Nat × List Int} {ci : Nat} : kHd t (S ++ [c]) (aNew M (S.length : Int) (fun j => if t ci j.toNat = 2 then -1 else 0)) (.inr ((S.length : Int), ci) :: W) := by
  refine ⟨fun a b a1 a2 => ?_, fun a b a1 => ?_⟩
  · rw [List.length_append] at a2
    have a2' : a < (S.length : Int) + 1 := a2
    show (if a = (S.length : Int) then (if t ci b.toNat = 2 then (-1 : Int) else 0) else M a b) = (if a = (S.length : Int) then (if t ci b.toNat = 2 then (-1 : Int) else 0) else look t W a b)
    by_cases q : a = (S.length : Int)
    · rw [if_pos q, if_pos q]
    · rw [if_neg q, if_neg q]
      exact h.1 a b a1 (by omega)
  · rw [List.length_append] at a1
    have a1' : (S.length : Int) + 1 ≤ a := a1
    show (if a = (S.length : Int) then (if t ci b.toNat = 2 then (-1 : Int) else 0) else look t W a b) = 0
    rw [if_neg (by omega)]
    exact h.2 a b (by omega)
theorem kHd_arr (h : kHd t S M W) {c : Nat × Nat × List Int} : kHd t (S ++ [c]) (aNew M (S.length : Int) (fun _ => 0)) W := by
  refine ⟨fun a b a1 a2 => ?_, fun a b a1 => ?_⟩
  · rw [List.length_append] at a2
    have a2' : a < (S.length : Int) + 1 := a2
    show (if a = (S.length : Int) then (0 : Int) else M a b) = look t W a b
    by_cases q : a = (S.length : Int)
    · rw [if_pos q, h.2 a b (by omega)]
    · rw [if_neg q]
      exact h.1 a b a1 (by omega)
  · rw [List.length_append] at a1
    have a1' : (S.length : Int) + 1 ≤ a := a1
    exact h.2 a b (by omega)
theorem kHd_news (h : kHd t S M W) {c d : Nat × Nat × List Int} {x : Int} (hx : 0 ≤ x) : kHd t ((S ++ [c]) ++ List.replicate x.toNat d) (aNews M (S.length : Int) x) W := by
  have e : ((((S ++ [c]) ++ List.replicate x.toNat d).length : Nat) : Int) = (S.length : Int) + 1 + x := by
    rw [List.length_append, List.length_append, List.length_replicate]
    show ((S.length + 1 + x.toNat : Nat) : Int) = _
    omega
  refine ⟨fun a b a1 a2 => ?_, fun a b a1 => ?_⟩
  · rw [e] at a2
    show (if (S.length : Int) ≤ a ∧ a ≤ (S.length : Int) + x then (0 : Int) else M a b) = look t W a b
    by_cases q : (S.length : Int) ≤ a
    · rw [if_pos ⟨q, by omega⟩, h.2 a b q]
    · rw [if_neg (fun z => q z.1)]
      exact h.1 a b a1 (by omega)
  · rw [e] at a1
    exact h.2 a b (by omega)
theorem kS_pos (h : kE L S0 S) : (0 : Int) ≠ (S.length : Int) := by
  obtain ⟨l, rfl, rfl⟩ := h
  show (0 : Int) ≠ ((l.length + 1 : Nat) : Int)
  omega
/-- what a run of the small machine says of the machine -/
def kG (t : Nat → Nat → Nat) (P : Nat → List aEnt) (L n : Nat) (C rest : List aEnt) (ls st : List aV) (S : aSh) (M : aM) (o : List aV × aSh × List kEv) : Prop := ∃ S' M', aRun t P n C rest ls st S M = some (o.1, S', M') ∧ kE L o.2.1 S' ∧ kHd t S' M' o.2.2 ∧ M' 0 = M 0
theorem kG_m {n : Nat} {C rest C1 rest1 : List aEnt} {ls st ls1 st1 : List aV} {S1 : aSh} {M1 : aM} {o : List aV × aSh × List kEv} {n1 : Nat} (h : kG t P L n1 C1 rest1 ls1 st1 S1 M1 o) (e : aRun t P n C rest ls st S M = aRun t P n1 C1 rest1 ls1 st1 S1 M1) (z : M1 0 = M 0) : kG t P L n C rest ls st S M o := by
  obtain ⟨S', M', a, b, c, d⟩ := h
  exact ⟨S', M', e.trans a, b, c, d.trans z⟩
theorem aLn_K {k : Nat} {r j : Int} (g : 0 ≤ j ∧ j < aLn S k r) : aK S r = k := (cellLn g.1 g.2).1
set_option maxHeartbeats 4000000 in
theorem k_sim : ∀ (n : Nat) (rest : List aEnt) (ls st : List aV) (S0 : aSh) (W : List kEv) (o : List aV × aSh × List kEv), kRun t P n rest ls st S0 W = some o → ∀ (C : List aEnt) (S : aSh) (M : aM), kE L S0 S → kHd t S M W → kG t P L n C rest ls st S M o := by
  intro n
  induction n with
  | zero => intro rest ls st S0 W o h; simp [kRun] at h
  | succ n ih =>
    intro rest ls st S0 W o h C S M he hr
    cases rest with
    | nil => simp [kRun] at h
    | cons e rest =>
      obtain ⟨pc, i, k, q⟩ := e
      have el := kE_len he
      cases i
      all_goals dsimp only [kRun] at h
      all_goals try (cases h; done)
      case aload_n j =>
        cases hl : ls[j.val]? with
        | none => rw [hl] at h; cases h
        | some v =>
          rw [hl] at h
          rcases v with z | z | _ | z
          · cases h
          · cases h
          · cases h
          · exact kG_m (ih _ _ _ _ _ _ h C S M he hr) (by dsimp only [aRun]; rw [hl]) rfl
      case iload_n j =>
        cases hl : ls[j.val]? with
        | none => rw [hl] at h; cases h
        | some v =>
          rw [hl] at h
          rcases v with z | z | z
          · exact kG_m (ih _ _ _ _ _ _ h C S M he hr) (by dsimp only [aRun]; rw [hl]) rfl
          · cases h
          · cases h
      case iconst z => exact kG_m (ih _ _ _ _ _ _ h C S M he hr) rfl rfl
      case bipush z => exact kG_m (ih _ _ _ _ _ _ h C S M he hr) rfl rfl
      case sipush z => exact kG_m (ih _ _ _ _ _ _ h C S M he hr) rfl rfl
      case dup =>
        rcases st with _ | ⟨x | x | _ | x, st⟩
        · cases h
        · cases h
        · cases h
        · cases h
        · exact kG_m (ih _ _ _ _ _ _ h C S M he hr) rfl rfl
      case getfield idx =>
        rcases k with _ | ⟨ci, _ | ⟨j, _ | ⟨j2, k⟩⟩⟩
        · cases h
        · cases h
        · rcases st with _ | ⟨x | x | _ | r, st⟩
          · cases h
          · cases h
          · cases h
          · cases h
          · dsimp only at h
            by_cases c : t ci j = 3
            · rw [c] at h
              try dsimp only at h
              by_cases g : aK S0 r = 10 + ci
              · rw [if_pos g] at h
                refine kG_m (ih _ _ _ _ _ _ h C S M he hr) ?_ rfl
                dsimp only [aRun]
                rw [c]
                exact (if_pos (c := aK S r = 10 + ci) (by rw [kE_K he]; exact g)).trans (by rw [kE_F he])
              · rw [if_neg g] at h; cases h
            · split at h
              · rename_i e3; exact absurd e3 c
              · cases h
        · cases h
      case putfield idx =>
        rcases k with _ | ⟨ci, _ | ⟨j, _ | ⟨j2, k⟩⟩⟩
        · cases h
        · cases h
        · rcases st with _ | ⟨v, _ | ⟨x | x | _ | r, st⟩⟩
          · cases h
          · cases h
          · cases h
          · cases h
          · cases h
          · dsimp only at h
            generalize ht : t ci j = x at h
            have key : ∀ (z : Int), aK S0 r = 10 + ci → kRun t P n rest ls st S0 (.inl (r, j, z) :: W) = some o → kG t P L n C rest ls st S (aSet M r j z) o ∧ (aSet M r j z) 0 = M 0 := by
              intro z g h
              have hi := kE_in he (r := r) (by omega) (by omega)
              exact ⟨ih _ _ _ _ _ _ h C S _ he (kHd_set hr hi), aSet_c (by omega)⟩
            rcases x with _ | _ | _ | _ | x <;> rcases v with z | z | _ | z
            all_goals try (cases h; done)
            · change (if aK S0 r = 10 + ci then kRun t P n rest ls st S0 (.inl (r, (j : Int), z) :: W) else none) = some o at h
              have ht1 : t ci j = 0 := ht
              by_cases g : aK S0 r = 10 + ci
              · rw [if_pos g] at h
                obtain ⟨a, b⟩ := key z g h
                refine kG_m a ?_ b
                dsimp only [aRun]
                rw [ht1]
                exact if_pos (c := aK S r = 10 + ci) (by rw [kE_K he]; exact g)
              · rw [if_neg g] at h; cases h
            · change (if aK S0 r = 10 + ci then kRun t P n rest ls st S0 (.inl (r, (j : Int), z) :: W) else none) = some o at h
              have ht1 : t ci j = 1 := ht
              by_cases g : aK S0 r = 10 + ci
              · rw [if_pos g] at h
                obtain ⟨a, b⟩ := key z g h
                refine kG_m a ?_ b
                dsimp only [aRun]
                rw [ht1]
                exact if_pos (c := aK S r = 10 + ci) (by rw [kE_K he]; exact g)
              · rw [if_neg g] at h; cases h
            · change (if aK S0 r = 10 + ci ∧ -1 ≤ z then kRun t P n rest ls st S0 (.inl (r, (j : Int), z) :: W) else none) = some o at h
              have ht1 : t ci j = 2 := ht
              by_cases g : aK S0 r = 10 + ci ∧ -1 ≤ z
              · rw [if_pos g] at h
                obtain ⟨a, b⟩ := key z g.1 h
                refine kG_m a ?_ b
                dsimp only [aRun]
                rw [ht1]
                exact if_pos (c := aK S r = 10 + ci ∧ -1 ≤ z) (by rw [kE_K he]; exact g)
              · rw [if_neg g] at h; cases h
            · change (if aK S0 r = 10 + ci ∧ -1 ≤ z then kRun t P n rest ls st (aPut S0 r j z) W else none) = some o at h
              have ht1 : t ci j = 3 := ht
              by_cases g : aK S0 r = 10 + ci ∧ -1 ≤ z
              · rw [if_pos g] at h
                refine kG_m (ih _ _ _ _ _ _ h C (aPut S r j z) M (kE_put he (by omega) (by omega) j z) (kHd_put hr)) ?_ rfl
                dsimp only [aRun]
                rw [ht1]
                exact if_pos (c := aK S r = 10 + ci ∧ -1 ≤ z) (by rw [kE_K he]; exact g)
              · rw [if_neg g] at h; cases h
        · cases h
      case iastore =>
        rcases st with _ | ⟨z | z | z, _ | ⟨j | j | j, _ | ⟨r | r | _ | r, st⟩⟩⟩
        all_goals try (cases h; done)
        dsimp only at h
        by_cases g : 0 ≤ j ∧ j < aLn S0 1 r
        · rw [if_pos g] at h
          have hk := aLn_K g
          refine kG_m (ih _ _ _ _ _ _ h C S _ he (kHd_set hr (kE_in he (r := r) (by omega) (by omega)))) ?_ (aSet_c (by have := kE_in he (r := r) (by omega) (by omega); omega))
          dsimp only [aRun]
          rw [if_pos (by rw [kE_Ln he (by decide)]; exact g)]
        · rw [if_neg g] at h; cases h
      case aastore =>
        rcases st with _ | ⟨z | z | _ | z, _ | ⟨j | j | j, _ | ⟨r | r | _ | r, st⟩⟩⟩
        all_goals try (cases h; done)
        dsimp only at h
        by_cases g : (0 ≤ j ∧ j < aLn S0 5 r) ∧ aK S0 z = 10
        · rw [if_pos g] at h
          have hk := aLn_K g.1
          refine kG_m (ih _ _ _ _ _ _ h C (aPut S r j.toNat z) M (kE_put he (by omega) (by omega) j.toNat z) (kHd_put hr)) ?_ rfl
          dsimp only [aRun]
          rw [if_pos (by rw [kE_Ln he (by decide), kE_K he]; exact g)]
        · rw [if_neg g] at h; cases h
      case new idx =>
        rcases k with _ | ⟨ci, _ | ⟨f, _ | ⟨j2, k⟩⟩⟩
        · cases h
        · cases h
        · dsimp only at h
          rw [← el] at h
          refine kG_m (ih _ _ _ _ _ _ h C (S ++ [(10 + ci, f, List.replicate f (-1))]) (aNew M (S.length : Int) (fun j => if t ci j.toNat = 2 then -1 else 0)) (kE_app he _) (kHd_new hr)) rfl ?_
          funext b
          exact if_neg (kS_pos he)
        · cases h
      case newarray a =>
        rcases k with _ | ⟨a1, _ | ⟨f, k⟩⟩
        · cases h
        · rcases st with _ | ⟨z | z | z, st⟩
          · cases h
          · dsimp only at h
            by_cases g : 0 ≤ z ∧ z ≤ 4000
            · rw [if_pos g, ← el] at h
              refine kG_m (ih _ _ _ _ _ _ h C (S ++ [(a1, z.toNat, [])]) (aNew M (S.length : Int) (fun _ => 0)) (kE_app he _) (kHd_arr hr)) ?_ ?_
              · dsimp only [aRun]
                rw [if_pos g]
              · funext b
                exact if_neg (kS_pos he)
            · rw [if_neg g] at h; cases h
          · cases h
          · cases h
        · cases h
      case anewarray idx =>
        rcases st with _ | ⟨z | z | z, st⟩
        · cases h
        · dsimp only at h
          by_cases g : 0 ≤ z ∧ z ≤ 4000
          · rw [if_pos g, ← el] at h
            refine kG_m (ih _ _ _ _ _ _ h C (S ++ [(5, z.toNat, List.replicate z.toNat (-1))]) (aNew M (S.length : Int) (fun _ => 0)) (kE_app he _) (kHd_arr hr)) ?_ ?_
            · dsimp only [aRun]
              rw [if_pos g]
            · funext b
              exact if_neg (kS_pos he)
          · rw [if_neg g] at h; cases h
        · cases h
        · cases h
      case multianewarray idx d =>
        rcases k with _ | ⟨a, _ | ⟨b, _ | ⟨j2, k⟩⟩⟩
        · cases h
        · cases h
        · rcases st with _ | ⟨y | y | y, _ | ⟨x | x | x, st⟩⟩
          all_goals try (cases h; done)
          dsimp only at h
          by_cases g : (0 ≤ x ∧ x ≤ 4000) ∧ (0 ≤ y ∧ y ≤ 4000)
          · rw [if_pos g, ← el] at h
            refine kG_m (ih _ _ _ _ _ _ h C ((S ++ [(a, x.toNat, (List.range x.toNat).map (fun (i : Nat) => (S.length : Int) + 1 + (i : Int)))]) ++ List.replicate x.toNat (b, y.toNat, [])) (aNews M (S.length : Int) x) (kE_app (kE_app he _) _) (kHd_news hr g.1.1)) ?_ ?_
            · dsimp only [aRun]
              rw [if_pos g]
            · funext b'
              have := kS_pos he
              exact if_neg (fun z => by omega)
          · rw [if_neg g] at h; cases h
        · cases h
      case return_ =>
        cases st with
        | nil => cases h; exact ⟨S, M, rfl, he, hr, rfl⟩
        | cons v st => cases h
      case invokespecial idx =>
        rcases k with _ | ⟨z, _ | ⟨na, _ | ⟨ml, _ | ⟨ci, _ | ⟨j2, k⟩⟩⟩⟩⟩
        · rcases st with _ | ⟨x | x | _ | r, _ | ⟨y, st⟩⟩
          all_goals try (cases h; done)
          dsimp only at h
          by_cases g : 10 ≤ aK S0 r
          · rw [if_pos g] at h
            refine kG_m (ih _ _ _ _ _ _ h C S M he hr) ?_ rfl
            dsimp only [aRun]
            rw [if_pos (by rw [kE_K he]; exact g)]
          · rw [if_neg g] at h; cases h
        · cases h
        · cases h
        · cases h
        · dsimp only at h
          generalize hb : (Nat.ble na st.length && Nat.ble (aCat (st.drop na)) 8 && Nat.ble (aArg (st.take na).reverse).length ml) = b at h
          cases b
          · cases h
          generalize ha : (st.take na).reverse = as at h
          rcases as with _ | ⟨x | x | _ | r, as⟩
          all_goals try (cases h; done)
          dsimp only at h
          by_cases g : aK S0 r = 10 + ci
          · rw [if_pos g] at h
            cases h1 : kRun t P n (P z) (aLoc (.inr (.inr (some r)) :: as) ml) [] S0 W with
            | none => rw [h1] at h; cases h
            | some o1 =>
              rw [h1] at h
              obtain ⟨v1, S1, W1⟩ := o1
              dsimp only at h
              obtain ⟨S', M', a, b, c, d⟩ := ih _ _ _ _ _ _ h1 (P z) S M he hr
              obtain ⟨S2, M2, a2, b2, c2, d2⟩ := ih _ _ _ _ _ _ h C S' M' b c
              refine ⟨S2, M2, ?_, b2, c2, d2.trans d⟩
              dsimp only [aRun]
              rw [hb, ha]
              dsimp only
              rw [if_pos (by rw [kE_K he]; exact g), a]
              exact a2
          · rw [if_neg g] at h; cases h
        · cases h
      case invokevirtual idx =>
        rcases k with _ | ⟨z, _ | ⟨na, _ | ⟨ml, _ | ⟨ci, _ | ⟨j2, k⟩⟩⟩⟩⟩
        · cases h
        · cases h
        · cases h
        · cases h
        · dsimp only at h
          generalize hb : (Nat.ble na st.length && Nat.ble (aCat (st.drop na)) 8 && Nat.ble (aArg (st.take na).reverse).length ml) = b at h
          cases b
          · cases h
          generalize ha : (st.take na).reverse = as at h
          rcases as with _ | ⟨x | x | _ | r, as⟩
          all_goals try (cases h; done)
          dsimp only at h
          by_cases g : aK S0 r = 10 + ci
          · rw [if_pos g] at h
            cases h1 : kRun t P n (P z) (aLoc (.inr (.inr (some r)) :: as) ml) [] S0 W with
            | none => rw [h1] at h; cases h
            | some o1 =>
              rw [h1] at h
              obtain ⟨v1, S1, W1⟩ := o1
              dsimp only at h
              obtain ⟨S', M', a, b, c, d⟩ := ih _ _ _ _ _ _ h1 (P z) S M he hr
              obtain ⟨S2, M2, a2, b2, c2, d2⟩ := ih _ _ _ _ _ _ h C S' M' b c
              refine ⟨S2, M2, ?_, b2, c2, d2.trans d⟩
              dsimp only [aRun]
              rw [hb, ha]
              dsimp only
              rw [if_pos (by rw [kE_K he]; exact g), a]
              exact a2
          · rw [if_neg g] at h; cases h
        · cases h
end KON
