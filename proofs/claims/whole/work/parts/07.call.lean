/-! a method's contract out of its run; calls -/
section CALL
def sRt (ads : List Nat) (sa : Nat) : List aV → Option Value
  | [] => none
  | v :: _ => some (sV ads sa v)
/-- what else a state is known to have (its linked words, its texts), and how that goes along -/
def xOk (bs : Nat) (XF : State → Prop) : Prop :=
  (∀ u U : State, u.vm = U.vm → u.heap = U.heap → XF u → XF U) ∧ ∀ (s U : State) (H : Heap) (locs : List Loc), va_S (sA bs) s.heap H locs → U.heap = H → s.WarmedH U.vm → XF s → XF U
def sPc (XF : State → Prop) (tg : Nat → Nat → Nat) (cy : Nat → ClassId) (sa bs : Nat) (D : va_G) (cl : List vw_C) (ads : List Nat) (as : List aV) (S : aSh) (M : aM) : Array Value → State → Prop := fun v U =>
  v = (as.map (sV ads sa)).toArray ∧ sIn tg cy sa bs D cl U U.heap ads S M ∧ XF U
def sQ (tg : Nat → Nat → Nat) (cy : Nat → ClassId) (sa bs : Nat) (D : va_G) (cl : List vw_C) (ads : List Nat) (o : aO) : Array Value → State → Outcome → State → Prop := fun _ st oc t =>
  ∃ ads' : List Nat, (∃ l2, ads' = ads ++ l2) ∧ oc = .returned (sRt ads' sa o.1) ∧ sIn tg cy sa bs D cl t t.heap ads' o.2.1 o.2.2 ∧ va_F (sA bs) st t ∧ (∀ v ∈ o.1, sOk o.2.1.length v) ∧ o.1.length ≤ 1
theorem sIn_moved {tg : Nat → Nat → Nat} {cy : Nat → ClassId} {sa bs : Nat} {D : va_G} {cl : List vw_C} {u U : State} {H : Heap} {ads : List Nat} {S : aSh} {M : aM} (hvm : u.vm.Alike U.vm) (h : sIn tg cy sa bs D cl u H ads S M) : sIn tg cy sa bs D cl U H ads S M :=
  ⟨h.1, h.2.1, h.2.2.1.moved hvm, h.2.2.2.1, h.2.2.2.2.1, h.2.2.2.2.2.1, h.2.2.2.2.2.2.1.moved hvm, h.2.2.2.2.2.2.2⟩
theorem sPc_blind {XF : State → Prop} {tg : Nat → Nat → Nat} {cy : Nat → ClassId} {sa bs : Nat} (hN : xOk bs XF) {D : va_G} {cl : List vw_C} {ads : List Nat} {as : List aV} {S : aSh} {M : aM} : FrameBlind (sPc XF tg cy sa bs D cl ads as S M) :=
  fun a U g mk q => ⟨q.1, sIn_moved (u := U) (U := U.calling g mk a) (Vm.Alike.refl U.vm) q.2.1, hN.1 U (U.calling g mk a) rfl rfl q.2.2⟩
variable {tg : Nat → Nat → Nat} {cy : Nat → ClassId} {sa bs : Nat} {D : va_G} {cl : List vw_C}
variable {p : Program} {l : Launch} {e : Env} {R : Room} {s : State} {m : MethodId} {args : Array Value} {below : List Frame} {meth : Method} {c : Code} {H : Heap} {locs : List Loc} {cells slots mc ms pc : Nat} {Q : State → Prop} {ls : Array Slot} {st0 rest : List Value}
theorem st_call {ads : List Nat} {S : aSh} {M : aM} {o : aO} {a : Array Value} (hbs : bs ≤ s.heap.size) (hS : va_S (sA bs) s.heap H locs)
    (hr : va_Run p l e R s m args below meth c H locs cells slots mc ms (F0 m pc ls st0) rest (sQ tg cy sa bs D cl ads o a) (sA bs))
    (kk : ∀ (ads' : List Nat) (H1 : Heap) (locs1 : List Loc), (∃ l2, ads' = ads ++ l2) → sIn tg cy sa bs D cl s H1 ads' o.2.1 o.2.2 → va_S (sA bs) s.heap H1 locs1 → (∀ v ∈ o.1, sOk o.2.1.length v) → o.1.length ≤ 1 →
      W p l e R s m args below meth c H1 locs1 (cells + mc) (slots + ms) Q (F0 m (pc + 3) ls ((sRt ads' sa o.1).toList ++ rest))) : W p l e R s m args below meth c H locs cells slots Q (F0 m pc ls st0) := by
  intro T hT X
  obtain ⟨v, st₀, t, T', L, h0, X', hL, e1, e2, ⟨ads', hx, hv, hI, hF, hok, hlen⟩, st⟩ := hr T hT X
  cases hv
  have hal : t.vm.Alike s.vm := by rw [← e2]; exact X'.warmed.alike.symm
  rw [← e1] at hI
  have hz : H.size ≤ T'.heap.size := by rw [e1, ← h0]; exact hF.1
  have hS' : va_S (sA bs) s.heap T'.heap (locs ++ L) := ⟨Nat.le_trans hS.1 hz, fun q h1 h2 => by
      rw [e1, hF.2 q (by rw [h0]; exact Nat.lt_of_lt_of_le h1 hS.1) h2, h0]
      exact hS.2.1 q h1 h2, fun q hq => by
      rcases List.mem_append.mp hq with h | h
      · exact hS.2.2 q h
      · exact hL q h⟩
  obtain ⟨t2, a1, b1⟩ := kk ads' T'.heap (locs ++ L) hx (sIn_moved hal hI) hS' hok hlen T' rfl X'
  exact ⟨t2, st t2 a1, b1⟩
/-- the arguments as locals -/
theorem aArg_len (as : List aV) (ads : List Nat) (sa : Nat) : (lg_sl (as.map (sV ads sa))).length = (aArg as).length := by
  induction as with
  | nil => rfl
  | cons v as ih =>
    have e : lg_sl ((v :: as).map (sV ads sa)) = (if (sV ads sa v).category = 2 then [Slot.val (sV ads sa v), .second] else [.val (sV ads sa v)]) ++ lg_sl (as.map (sV ads sa)) := rfl
    rw [e, List.length_append, ih]
    match v with
    | .inl z => simp [sV, Value.category, aArg]; omega
    | .inr (.inl z) => simp [sV, Value.category, aArg]; omega
    | .inr (.inr (some (.ofNat k))) => simp [sV, Value.category, aArg]; omega
    | .inr (.inr (some (.negSucc 0))) => simp [sV, Value.category, aArg]; omega
    | .inr (.inr (some (.negSucc (k + 1)))) => simp [sV, Value.category, aArg]; omega
    | .inr (.inr none) => simp [sV, Value.category, aArg]; omega
theorem aArg_at (ads : List Nat) (sa : Nat) : ∀ (as : List aV) (b i : Nat) (v : aV), (aArg as)[i]? = some v → v ≠ aU → (b + i, sV ads sa v) ∈ lv_args b (as.map (sV ads sa)) := by
  intro as
  induction as with
  | nil => intro b i v h _; simp [aArg] at h
  | cons w as ih =>
    intro b i v h hv
    have one : (sV ads sa w).category ≠ 2 → aArg (w :: as) = w :: aArg as → (b + i, sV ads sa v) ∈ lv_args b ((w :: as).map (sV ads sa)) := by
      intro hc he
      rw [he] at h
      show _ ∈ (b, sV ads sa w) :: lv_args (if (sV ads sa w).category = 2 then b + 2 else b + 1) (as.map (sV ads sa))
      rw [if_neg hc]
      cases i with
      | zero =>
        simp at h
        subst h
        exact List.mem_cons_self
      | succ i =>
        rw [List.getElem?_cons_succ] at h
        have := ih (b + 1) i v h hv
        rw [show b + 1 + i = b + (i + 1) by omega] at this
        exact List.mem_cons_of_mem _ this
    match w with
    | .inl z => exact one (by simp [sV, Value.category]) rfl
    | .inr (.inl z) =>
      have h' : (aJ z :: aU :: aArg as)[i]? = some v := h
      show _ ∈ (b, sV ads sa (aJ z)) :: lv_args (if (sV ads sa (aJ z)).category = 2 then b + 2 else b + 1) (as.map (sV ads sa))
      rw [if_pos (by simp [sV, Value.category])]
      match i with
      | 0 =>
        simp at h'
        subst h'
        exact List.mem_cons_self
      | 1 =>
        simp at h'
        exact absurd h'.symm hv
      | i + 2 =>
        rw [List.getElem?_cons_succ, List.getElem?_cons_succ] at h'
        have := ih (b + 2) i v h' hv
        rw [show b + 2 + i = b + (i + 2) by omega] at this
        exact List.mem_cons_of_mem _ this
    | .inr (.inr (some (.ofNat k))) => exact one (by simp [sV, Value.category]) rfl
    | .inr (.inr (some (.negSucc 0))) => exact one (by simp [sV, Value.category]) rfl
    | .inr (.inr (some (.negSucc (k + 1)))) => exact one (by simp [sV, Value.category]) rfl
    | .inr (.inr none) => exact one (by simp [sV, Value.category]) rfl
theorem sL_entry {ads : List Nat} {sa n : Nat} {as : List aV} (h : (aArg as).length ≤ n) :
    sL ads sa (aLoc as n) n ((lg_sl (as.map (sV ads sa)) ++ List.replicate (n - (lg_sl (as.map (sV ads sa))).length) Slot.unset).toArray) := by
  have h1 := lv_entry (as.map (sV ads sa)) (n := n) (by rw [aArg_len]; exact h)
  refine sL_of h1 (by unfold aLoc; rw [List.length_append, List.length_replicate]; omega) (fun i v hi hv => ?_)
  unfold aLoc at hi
  by_cases c : i < (aArg as).length
  · rw [List.getElem?_append_left c] at hi
    have := aArg_at ads sa as 0 i v hi hv
    rwa [Nat.zero_add] at this
  · rw [List.getElem?_append_right (by omega), List.getElem?_replicate] at hi
    split at hi
    · exact absurd (Option.some.inj hi).symm hv
    · cases hi
theorem aLoc_ok {N n : Nat} {as : List aV} (h : ∀ v ∈ as, sOk N v) : ∀ v ∈ aLoc as n, sOk N v := by
  have hA : ∀ v ∈ aArg as, sOk N v := by
    induction as with
    | nil => intro v hv; cases hv
    | cons w as ih =>
      have h2 := ih (fun v hv => h v (List.mem_cons_of_mem _ hv))
      have h3 := h w List.mem_cons_self
      intro v hv
      match w with
      | .inl z =>
        rcases List.mem_cons.mp hv with rfl | q
        · exact h3
        · exact h2 v q
      | .inr (.inl z) =>
        rcases List.mem_cons.mp hv with rfl | q
        · exact h3
        · rcases List.mem_cons.mp q with rfl | q
          · trivial
          · exact h2 v q
      | .inr (.inr z) =>
        rcases List.mem_cons.mp hv with rfl | q
        · exact h3
        · exact h2 v q
  intro v hv
  unfold aLoc at hv
  rcases List.mem_append.mp hv with q | q
  · exact hA v q
  · rw [List.mem_replicate] at q
    rw [q.2]
    trivial
theorem aCat_eq (ads : List Nat) (sa : Nat) (st : List aV) : ((st.map (sV ads sa)).map fun v => v.category).sum = aCat st := by
  induction st with
  | nil => rfl
  | cons v st ih =>
    rw [List.map_cons, List.map_cons, List.sum_cons, ih]
    match v with
    | .inl z => rfl
    | .inr (.inl z) => rfl
    | .inr (.inr (some (.ofNat k))) => rfl
    | .inr (.inr (some (.negSucc 0))) => rfl
    | .inr (.inr (some (.negSucc (k + 1)))) => rfl
    | .inr (.inr none) => rfl
end CALL
