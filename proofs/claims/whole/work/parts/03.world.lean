/-! the abstract memory as a world of the kit's -/
def sV (ads : List Nat) (sa : Nat) : aV → Value
  | .inl z => .int (Int32.ofInt z)
  | .inr (.inl z) => .long (Int64.ofInt z)
  | .inr (.inr (some (.ofNat k))) => .ref (ads.getD k 0)
  | .inr (.inr (some (.negSucc 0))) => .null
  | .inr (.inr (some (.negSucc (_ + 1)))) => .ref sa
  | .inr (.inr none) => .null
def sR (ads : List Nat) : Int → Option Nat
  | .ofNat k => some (ads.getD k 0)
  | .negSucc _ => none
def xR (N : Nat) (z : Int) : Prop := -1 ≤ z ∧ z < N
def sOk (N : Nat) : aV → Prop
  | .inl z => xI z
  | .inr (.inl z) => xL z
  | .inr (.inr (some z)) => -2 ≤ z ∧ z < N
  | .inr (.inr none) => True
theorem sV_R {ads : List Nat} {sa N : Nat} {z : Int} (h : xR N z) : sV ads sa (aR z) = va_rf (sR ads z) := by
  match z, h with
  | .ofNat k, _ => rfl
  | .negSucc 0, _ => rfl
  | .negSucc (k + 1), h => exact absurd h.1 (by omega)
/-- one field's value -/
def sFv (t : Nat) (ads : List Nat) (sa : Nat) (v x : Int) : Value := match t with
  | 1 => .long (Int64.ofInt v)
  | 2 => sV ads sa (aR v)
  | 3 => sV ads sa (aR x)
  | _ => .int (Int32.ofInt v)
def sE (tg : Nat → Nat → Nat) (cy : Nat → ClassId) (ads : List Nat) (sa : Nat) (c : Nat × Nat × List Int) (f : Int → Int) : va_E := match c.1 with
  | 1 => .inl (cy 1, c.2.1, .inl (fun j => Int32.ofInt (f j)))
  | 2 => .inl (cy 2, c.2.1, .inr (.inl (fun j => Int64.ofInt (f j))))
  | 3 => .inl (cy 3, c.2.1, .inl (fun j => Int32.ofInt (f j)))
  | 4 => .inl (cy 4, c.2.1, .inl (fun j => Int32.ofInt (f j)))
  | 5 => .inl (cy 5, c.2.1, .inr (.inr (.inr (.inr (fun j => sR ads (c.2.2.getD j (-1)))))))
  | 6 => .inl (cy 6, c.2.1, .inr (.inr (.inr (.inr (fun j => sR ads (c.2.2.getD j (-1)))))))
  | 7 => .inl (cy 7, c.2.1, .inr (.inr (.inr (.inr (fun j => sR ads (c.2.2.getD j (-1)))))))
  | k => .inr (k - 10, (List.range c.2.1).map (fun j => sFv (tg (k - 10) j) ads sa (f j) (c.2.2.getD j (-1))))
/-- all cells but the first, which is the script -/
def sW (tg : Nat → Nat → Nat) (cy : Nat → ClassId) (ads : List Nat) (sa : Nat) (S : aSh) (M : aM) : va_W :=
  (List.range (S.length - 1)).map (fun j => (ads.getD (j + 1) 0, sE tg cy ads sa (S.getD (j + 1) (0, 0, [])) (M ((j + 1 : Nat) : Int))))
/-- what a cell may hold -/
def mOk (tg : Nat → Nat → Nat) (N : Nat) (c : Nat × Nat × List Int) (f : Int → Int) : Prop :=
  (c.1 = 2 → ∀ j, xL (f j)) ∧ (c.1 ≠ 2 → c.1 < 10 → ∀ j, xI (f j)) ∧
  (10 ≤ c.1 → ∀ j : Nat, (tg (c.1 - 10) j = 1 → xL (f j)) ∧ (tg (c.1 - 10) j = 2 → xR N (f j)) ∧ (tg (c.1 - 10) j ≠ 1 → tg (c.1 - 10) j ≠ 2 → xI (f j))) ∧
  (∀ x ∈ c.2.2, xR N x) ∧ c.2.1 < 2147483648 ∧ 1 ≤ c.1 ∧ (c.1 ≤ 7 ∨ 10 ≤ c.1) ∧ (10 ≤ c.1 → ∀ j : Nat, tg (c.1 - 10) j ≠ 9 → j < c.2.1) ∧ (5 ≤ c.1 → c.2.2.length = c.2.1)
theorem sW_get {tg : Nat → Nat → Nat} {cy : Nat → ClassId} {ads : List Nat} {sa : Nat} {S : aSh} {M : aM} {k : Nat} (h1 : 1 ≤ k) (h2 : k < S.length) :
    (sW tg cy ads sa S M)[k - 1]? = some (ads.getD k 0, sE tg cy ads sa (S.getD k (0, 0, [])) (M (k : Int))) := by
  obtain ⟨j, rfl⟩ : ∃ j, k = j + 1 := ⟨k - 1, by omega⟩
  unfold sW
  rw [Nat.add_sub_cancel, List.getElem?_map, List.getElem?_range (by omega)]
  rfl
theorem sW_len {tg : Nat → Nat → Nat} {cy : Nat → ClassId} {ads : List Nat} {sa : Nat} {S : aSh} {M : aM} : (sW tg cy ads sa S M).length = S.length - 1 := by
  unfold sW
  rw [List.length_map, List.length_range]
theorem sW_set {tg : Nat → Nat → Nat} {cy : Nat → ClassId} {ads : List Nat} {sa : Nat} {S S' : aSh} {M M' : aM} {k : Nat} (h1 : 1 ≤ k) (h2 : k < S.length) (hl : S'.length = S.length)
    (hS : ∀ j, j ≠ k → S'.getD j (0, 0, []) = S.getD j (0, 0, [])) (hM : ∀ j : Nat, j ≠ k → M' (j : Int) = M (j : Int)) :
    (sW tg cy ads sa S M).set (k - 1) (ads.getD k 0, sE tg cy ads sa (S'.getD k (0, 0, [])) (M' (k : Int))) = sW tg cy ads sa S' M' := by
  apply List.ext_getElem?
  intro i
  by_cases hi : i = k - 1
  · subst hi
    rw [List.getElem?_set_self (by rw [sW_len]; omega), sW_get h1 (by omega)]
  · rw [List.getElem?_set_ne (fun q => hi q.symm)]
    by_cases hb : i < S.length - 1
    · have e : i = (i + 1) - 1 := by omega
      rw [e, sW_get (by omega) (by omega), sW_get (by omega) (by omega), hS _ (by omega), hM _ (by omega)]
    · rw [List.getElem?_eq_none (by rw [sW_len]; omega), List.getElem?_eq_none (by rw [sW_len]; omega)]
theorem getD_app {α : Type} {l l2 : List α} {k : Nat} {d : α} (h : k < l.length) : (l ++ l2).getD k d = l.getD k d := by
  rw [List.getD_eq_getElem?_getD, List.getD_eq_getElem?_getD, List.getElem?_append_left h]
theorem getD_last {α : Type} {l : List α} {x d : α} : (l ++ [x]).getD l.length d = x := by
  rw [List.getD_eq_getElem?_getD, List.getElem?_append_right (Nat.le_refl _), Nat.sub_self]
  rfl
theorem sV_app {ads l2 : List Nat} {sa : Nat} {v : aV} (h : sOk ads.length v) : sV (ads ++ l2) sa v = sV ads sa v := by
  match v, h with
  | .inl z, _ => rfl
  | .inr (.inl z), _ => rfl
  | .inr (.inr (some (.ofNat k))), h =>
    have hk : k < ads.length := Int.ofNat_lt.mp h.2
    show Value.ref ((ads ++ l2).getD k 0) = Value.ref (ads.getD k 0)
    rw [getD_app hk]
  | .inr (.inr (some (.negSucc 0))), _ => rfl
  | .inr (.inr (some (.negSucc (k + 1)))), _ => rfl
  | .inr (.inr none), _ => rfl
theorem sR_app {ads l2 : List Nat} {z : Int} (h : xR ads.length z) : sR (ads ++ l2) z = sR ads z := by
  match z, h with
  | .ofNat k, h =>
    have hk : k < ads.length := Int.ofNat_lt.mp h.2
    show some ((ads ++ l2).getD k 0) = some (ads.getD k 0)
    rw [getD_app hk]
  | .negSucc _, _ => rfl
theorem xR_getD {N : Nat} {l : List Int} {j : Nat} (h : ∀ x ∈ l, xR N x) : xR N (l.getD j (-1)) := by
  rw [List.getD_eq_getElem?_getD]
  cases e : l[j]? with
  | none => exact ⟨Int.le_refl _, by show (-1 : Int) < N; omega⟩
  | some x => exact h x (List.mem_of_getElem? e)
theorem xR_ok {N : Nat} {z : Int} (h : xR N z) : sOk N (aR z) := ⟨by have := h.1; omega, h.2⟩
section SE
variable {tg : Nat → Nat → Nat} {cy : Nat → ClassId} {ads : List Nat} {sa : Nat} {c : Nat × Nat × List Int} {f : Int → Int}
theorem sE_1 (h : c.1 = 1) : sE tg cy ads sa c f = .inl (cy 1, c.2.1, .inl (fun j => Int32.ofInt (f j))) := by unfold sE; rw [h]; rfl
theorem sE_2 (h : c.1 = 2) : sE tg cy ads sa c f = .inl (cy 2, c.2.1, .inr (.inl (fun j => Int64.ofInt (f j)))) := by unfold sE; rw [h]; rfl
theorem sE_3 (h : c.1 = 3) : sE tg cy ads sa c f = .inl (cy 3, c.2.1, .inl (fun j => Int32.ofInt (f j))) := by unfold sE; rw [h]; rfl
theorem sE_4 (h : c.1 = 4) : sE tg cy ads sa c f = .inl (cy 4, c.2.1, .inl (fun j => Int32.ofInt (f j))) := by unfold sE; rw [h]; rfl
theorem sE_q (h : c.1 = 5 ∨ c.1 = 6 ∨ c.1 = 7) : sE tg cy ads sa c f = .inl (cy c.1, c.2.1, .inr (.inr (.inr (.inr (fun j => sR ads (c.2.2.getD j (-1))))))) := by
  rcases h with h | h | h <;> (unfold sE; rw [h]; try rfl)
theorem sE_o {ci : Nat} (h : c.1 = 10 + ci) : sE tg cy ads sa c f = .inr (ci, (List.range c.2.1).map (fun j => sFv (tg ci j) ads sa (f j) (c.2.2.getD j (-1)))) := by
  unfold sE
  rw [h, Nat.add_comm 10 ci]
  rfl
theorem sE_app {l2 : List Nat} (h : mOk tg ads.length c f) : sE tg cy (ads ++ l2) sa c f = sE tg cy ads sa c f := by
  obtain ⟨-, -, h3, h4, -, h5, h6, -, -⟩ := h
  have hq : ∀ j : Nat, sR (ads ++ l2) (c.2.2.getD j (-1)) = sR ads (c.2.2.getD j (-1)) := fun j => sR_app (xR_getD h4)
  by_cases hc : 10 ≤ c.1
  · obtain ⟨ci, e⟩ : ∃ ci, c.1 = 10 + ci := ⟨c.1 - 10, by omega⟩
    rw [sE_o e, sE_o e]
    congr 2
    apply List.map_congr_left
    intro j _
    have hj := h3 hc j
    rw [e, Nat.add_sub_cancel_left] at hj
    unfold sFv
    split
    · rfl
    · rename_i e
      exact sV_app (xR_ok (hj.2.1 e))
    · exact sV_app (xR_ok (xR_getD h4))
    · rfl
  · rcases (show c.1 = 1 ∨ c.1 = 2 ∨ c.1 = 3 ∨ c.1 = 4 ∨ (c.1 = 5 ∨ c.1 = 6 ∨ c.1 = 7) by omega) with e | e | e | e | e
    · rw [sE_1 e, sE_1 e]
    · rw [sE_2 e, sE_2 e]
    · rw [sE_3 e, sE_3 e]
    · rw [sE_4 e, sE_4 e]
    · rw [sE_q e, sE_q e]
      simp only [hq]
end SE
/-- the whole memory is as its shapes say; the first cell is the script -/
def mAll (tg : Nat → Nat → Nat) (S : aSh) (M : aM) : Prop :=
  1 ≤ S.length ∧ (S.getD 0 (0, 0, [])).1 = 9 ∧ (S.getD 0 (0, 0, [])).2.1 < 2147483648 ∧ (∀ j : Int, xI (M 0 j)) ∧ ∀ k : Nat, 1 ≤ k → k < S.length → mOk tg S.length (S.getD k (0, 0, [])) (M (k : Int))
theorem sW_push {tg : Nat → Nat → Nat} {cy : Nat → ClassId} {ads : List Nat} {sa : Nat} {S : aSh} {M M' : aM} {q : Nat} {c : Nat × Nat × List Int} (h : mAll tg S M) (hl : ads.length = S.length) (hM : ∀ k : Nat, k < S.length → M' (k : Int) = M (k : Int))
    {e : va_E} (he : sE tg cy (ads ++ [q]) sa c (M' (S.length : Int)) = e) : sW tg cy ads sa S M ++ [(q, e)] = sW tg cy (ads ++ [q]) sa (S ++ [c]) M' := by
  obtain ⟨h1, -, -, -, h2⟩ := h
  have hS : (S ++ [c]).length = S.length + 1 := by simp
  apply List.ext_getElem?
  intro i
  by_cases hb : i < S.length - 1
  · rw [List.getElem?_append_left (by rw [sW_len]; exact hb)]
    have e1 : i = (i + 1) - 1 := by omega
    rw [e1, sW_get (by omega) (by omega), sW_get (by omega) (by omega), getD_app (by omega), getD_app (by omega), hM _ (by omega), sE_app (by rw [hl]; exact h2 _ (by omega) (by omega))]
  · by_cases hi : i = S.length - 1
    · rw [List.getElem?_append_right (by rw [sW_len]; omega), sW_len]
      have e1 : i = S.length - 1 := hi
      have e2 : i - (S.length - 1) = 0 := by omega
      rw [e2, e1, sW_get h1 (by omega), ← hl, getD_last, hl, getD_last, he]
      rfl
    · rw [List.getElem?_eq_none (by rw [List.length_append, sW_len]; simp; omega), List.getElem?_eq_none (by rw [sW_len, hS]; omega)]
theorem mOk_grow {tg : Nat → Nat → Nat} {N N' : Nat} (hN : N ≤ N') {c : Nat × Nat × List Int} {f : Int → Int} (h : mOk tg N c f) : mOk tg N' c f := by
  have hx : ∀ {z : Int}, xR N z → xR N' z := fun q => ⟨q.1, by have := q.2; omega⟩
  exact ⟨h.1, h.2.1, fun q j => ⟨(h.2.2.1 q j).1, fun e => hx ((h.2.2.1 q j).2.1 e), (h.2.2.1 q j).2.2⟩, fun x q => hx (h.2.2.2.1 x q), h.2.2.2.2⟩
theorem sIn_pushW {tg : Nat → Nat → Nat} {S : aSh} {M M' : aM} {c : Nat × Nat × List Int} (h : mAll tg S M) (hM : ∀ k : Nat, k < S.length → M' (k : Int) = M (k : Int)) (hok : mOk tg (S.length + 1) c (M' (S.length : Int))) : mAll tg (S ++ [c]) M' := by
  obtain ⟨a1, a2, a3, a4, a5⟩ := h
  have h0 : (S ++ [c]).getD 0 (0, 0, []) = S.getD 0 (0, 0, []) := getD_app (by omega)
  have hM0 : M' 0 = M 0 := hM 0 (by omega)
  refine ⟨by rw [List.length_append]; omega, by rw [h0]; exact a2, by rw [h0]; exact a3, by rw [hM0]; exact a4, fun k h1 h2 => ?_⟩
  rw [List.length_append] at h2 ⊢
  have h3 : k < S.length + 1 := h2
  by_cases e : k < S.length
  · rw [getD_app e, hM k e]
    exact mOk_grow (by omega) (a5 k h1 e)
  · have e2 : k = S.length := by omega
    subst e2
    rw [getD_last]
    exact hok
