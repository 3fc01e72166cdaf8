def wAt (L : List Jvm.Cond) (p : Nat) (w : Jvm.Cond) : Bool := match L[p]? with
  | some v => decide (v = w)
  | none => false
def okC (y z ml idx nin p : Nat) : Bool :=
  decide (ml = gL z) && decide (gF z + 1 ≤ gF y) && decide (8 + (gL z + 11) + gO z ≤ gO y) && decide ((parseMethodDescriptor (gN z).desc).map (fun d => d.parameters.length) = some nin) &&
  (wAt (gW y) p (Cond.methodLink (gN y).cls idx (gN z)) || wAt wN (p - 1000) (Cond.methodLinkNest (gN y).cls idx (gN z) "TypeLock"))
def okE (y : Nat) (i : Instr) (k : List Nat) (q : Int) (p : Nat) : Bool := match i, k with
  | .istore_n j, _ => decide (j.val < gL y)
  | .istore j, _ => decide (j < gL y)
  | .astore_n j, _ => decide (j.val < gL y)
  | .astore j, _ => decide (j < gL y)
  | .iinc j _, _ => decide (j < gL y)
  | .lstore_n j, _ => decide (j.val + 1 < gL y)
  | .lstore j, _ => decide (j + 1 < gL y)
  | .iconst z, _ => decide (-2147483648 ≤ z ∧ z < 2147483648)
  | .bipush z, _ => decide (-128 ≤ z ∧ z < 128)
  | .sipush z, _ => decide (-32768 ≤ z ∧ z < 32768)
  | .ldc _, [] => false
  | .ldc idx, _ => decide (-2147483648 ≤ q ∧ q < 2147483648) && wAt (gW y) p (Cond.constant (gN y).cls idx (Int32.ofInt q))
  | .ldc_w idx, _ => decide (-2147483648 ≤ q ∧ q < 2147483648) && wAt (gW y) p (Cond.constant (gN y).cls idx (Int32.ofInt q))
  | .ldc2_w idx, _ => decide (-9223372036854775808 ≤ q ∧ q < 9223372036854775808) && wAt (gW y) p (Cond.constantLong (gN y).cls idx (Int64.ofInt q))
  | .getfield idx, [ci, j] => decide (tgT ci j ≠ 9) && match kCl[ci]? with
    | some (_, T, N) => decide (j < N) && wAt (gW y) p (Cond.fieldLink (gN y).cls idx (T j).1 (T j).2.1 (T j).2.2.1)
    | none => false
  | .putfield idx, [ci, j] => decide (tgT ci j ≠ 9) && match kCl[ci]? with
    | some (_, T, N) => decide (j < N) && wAt (gW y) p (Cond.fieldLink (gN y).cls idx (T j).1 (T j).2.1 (T j).2.2.1) && decide ((T j).2.2.2 = false ∨ ((T j).2.2.2 = true ∧ (gN y).name = "<init>" ∧ (T j).1 = (gN y).cls))
    | none => false
  | .invokestatic idx, [z, na, ml] => okC y z ml idx na p && gS z
  | .invokespecial idx, [z, na, ml, _] => okC y z ml idx (na - 1) p && !(gS z) && decide ((gN z).name = "<init>") && decide (gR z = none)
  | .invokevirtual idx, [z, na, ml, ci] => okC y z ml idx (na - 1) p && !(gS z) && decide ((gN z).name ≠ "<init>") && match kCl[ci]? with
    | some (C, _, _) => decide (C = (gN z).cls)
    | none => false
  | .invokespecial idx, [] => wAt (gW y) p (Cond.methodLink (gN y).cls idx objectInit) && decide (1 ≤ gF y) && decide (12 ≤ gO y)
  | .invokestatic idx, [] => wAt (gW y) p (Cond.methodLink (gN y).cls idx arraycopyName) && decide (1 ≤ gF y) && decide (nativeFrameWords "java/lang/System" "arraycopy" 5 + 11 ≤ gO y)
  | .invokevirtual _, [_] => false
  | .new idx, [ci, f] => match kCl[ci]? with
    | some (C, _, N) => decide (N = f) && wAt (gW y) p (Cond.classLink (gN y).cls idx C)
    | none => false
  | .newarray a, [b] => decide ((b = 1 ∧ newarray.typeOf a = .int) ∨ (b = 2 ∧ newarray.typeOf a = .long) ∨ (b = 3 ∧ newarray.typeOf a = .byte) ∨ (b = 4 ∧ newarray.typeOf a = .boolean))
  | .anewarray idx, _ => wAt (gW y) p (Cond.classLink (gN y).cls idx "TypeLock$Bed")
  | .multianewarray idx d, [a, b] => decide (d = 2) && ((decide (a = 6 ∧ b = 1) && wAt (gW y) p (Cond.classLink (gN y).cls idx ("[" ++ (FieldType.array .int).toString))) || (decide (a = 7 ∧ b = 2) && wAt (gW y) p (Cond.classLink (gN y).cls idx ("[" ++ (FieldType.array .long).toString))))
  | .aaload, [a] => decide (a = 5 ∨ a = 6 ∨ a = 7)
  | .arraylength, [a] => decide (a = 1 ∨ a = 2 ∨ a = 3 ∨ a = 4 ∨ a = 9)
  | .ireturn, [] => decide (gR y = some .int)
  | .ireturn, [4] => decide (gR y = some .boolean)
  | .lreturn, _ => decide (gR y = some .long)
  | .areturn, _ => match gR y with
    | some (.object _) => true
    | some (.array _) => true
    | _ => false
  | .return_, _ => decide (gR y = none)
  | _, _ => true
def okJ (pc : Nat) : Instr → Bool
  | .goto off => decide (0 ≤ (pc : Int) + off)
  | .ifCond _ off => decide (0 ≤ (pc : Int) + off)
  | .if_icmp _ off => decide (0 ≤ (pc : Int) + off)
  | .tableswitch d lo hi offs => decide (0 ≤ (pc : Int) + d) && (offs.toList.all fun x => decide (0 ≤ (pc : Int) + x)) && decide ((offs.size : Int) = hi - lo + 1)
  | .lookupswitch d ps => decide (0 ≤ (pc : Int) + d) && (ps.toList.all fun x => decide (0 ≤ (pc : Int) + x.2)) && (ps.toList.zip (ps.toList.drop 1)).all (fun (a, next) => a.1 < next.1)
  | _ => true
def okL (y : Nat) : List aEnt → List Nat → Bool
  | [], _ => true
  | _ :: _, [] => false
  | (pc, i, k, q) :: rest, p :: ps => decide (decode (gB y) pc = .ok (i, aLen i (aPc rest - pc))) && (match rest with
    | [] => true
    | _ :: _ => decide (aPc rest = pc + aLen i (aPc rest - pc))) && okE y i k q p && okJ pc i && okL y rest ps
def okM (y : Nat) : Bool :=
  plainName (gN y).cls && decide ((gN y).cls ≠ "java/lang/invoke/MethodHandle") && decide ((gN y).cls ≠ "java/lang/invoke/VarHandle") && wAt wL (gM y).1 (Cond.code (gN y) (gB y) (gL y) (gR y)) && goodWord (Cond.code (gN y) (gB y) (gL y) (gR y)) &&
  wAt wL (gM y).2.1 (Cond.initialized (gN y).cls) && decide (aPc (gP y) = 0) &&
  (if gS y then (wAt wL (gM y).2.2.1 (Cond.static (gN y)) && goodWord (Cond.static (gN y))) else (wAt wL (gM y).2.2.1 (Cond.instanceMethod (gN y)) && goodWord (Cond.instanceMethod (gN y)) && (decide ((gN y).name = "<init>") || (wAt wL (gM y).2.2.2 (Cond.selects (gN y).cls (gN y) (gN y)) && goodWord (Cond.selects (gN y).cls (gN y) (gN y))))))
theorem wAt_mem {L : List Jvm.Cond} {p : Nat} {w : Jvm.Cond} (h : wAt L p w = true) : w ∈ L := by
  unfold wAt at h
  cases e : L[p]? with
  | none => rw [e] at h; cases h
  | some v =>
    rw [e] at h
    have : v = w := of_decide_eq_true h
    subst this
    exact List.mem_of_getElem? e
theorem wT_of {w : Jvm.Cond} (h : w ∈ wL) (hg : goodWord w = true) : w ∈ wT := List.mem_filter.mpr ⟨h, hg⟩
theorem sub_wT {L : List Jvm.Cond} {ps : List Nat} (h : L = ps.filterMap (fun i => wL[i]?) ∧ L.all goodWord = true) : ∀ w ∈ L, w ∈ wT := fun w hw => by
  have hg := List.all_eq_true.mp h.2 w hw
  rw [h.1] at hw
  obtain ⟨i, -, hi⟩ := List.mem_filterMap.mp hw
  exact wT_of (List.mem_of_getElem? hi) hg
theorem gW_sub (y : Nat) : ∀ w ∈ gW y, w ∈ wT := by
  unfold gW
  generalize kOw.getD y 0 = j
  have key : ∀ L ∈ kWs, ∀ w ∈ L, w ∈ wT := by
    intro L hL
    simp only [kWs, List.mem_cons, List.not_mem_nil, or_false] at hL
    rcases hL with rfl | rfl | rfl | rfl | rfl | rfl | rfl | rfl | rfl | rfl | rfl | rfl | rfl | rfl | rfl | rfl
    exacts [sub_wT kW0_ok, sub_wT kW1_ok, sub_wT kW2_ok, sub_wT kW3_ok, sub_wT kW4_ok, sub_wT kW5_ok, sub_wT kW6_ok, sub_wT kW7_ok, sub_wT kW8_ok, sub_wT kW9_ok, sub_wT kW10_ok, sub_wT kW11_ok, sub_wT kW12_ok, sub_wT kW13_ok, sub_wT kW14_ok, sub_wT kW15_ok]
  intro w hw
  rw [List.getD_eq_getElem?_getD] at hw
  cases e : kWs[j]? with
  | none => rw [e] at hw; cases hw
  | some L => rw [e] at hw; exact key L (List.mem_of_getElem? e) w hw
theorem okC_cOk {y z ml idx nin p : Nat} (h : okC y z ml idx nin p = true) : cOk gN gL gF gO wT wN y z ml idx nin := by
  unfold okC at h
  simp only [Bool.and_eq_true, Bool.or_eq_true, decide_eq_true_eq] at h
  obtain ⟨⟨⟨⟨h1, h2⟩, h3⟩, h4⟩, h5⟩ := h
  refine ⟨h1, h2, h3, h4, ?_⟩
  rcases h5 with h5 | h5
  · exact Or.inl (gW_sub y _ (wAt_mem h5))
  · exact Or.inr ⟨_, wAt_mem h5⟩
/-- what the methods' own words give -/
def mOkW (z : Nat) : Prop := (gS z = true → Cond.static (gN z) ∈ wT) ∧ (gS z = false → Cond.instanceMethod (gN z) ∈ wT ∧ ((gN z).name ≠ "<init>" → Cond.selects (gN z).cls (gN z) (gN z) ∈ wT))
theorem okE_eLk {y : Nat} {i : Instr} {k : List Nat} {q : Int} {p : Nat} (hm : ∀ z, gP z ≠ [] → mOkW z) (hz : ∀ z, z ∈ k.head? → (match i with | .invokestatic _ => True | .invokespecial _ => True | .invokevirtual _ => True | _ => False) → gP z ≠ []) (hob : Cond.instanceMethod objectInit ∈ wT ∧ Cond.code objectInit ⟨#[0xb1]⟩ 1 none ∈ wT) (hac : Cond.native arraycopyName ∈ wT ∧ Cond.static arraycopyName ∈ wT ∧ Cond.initialized "java/lang/System" ∈ wT)
    (h : okE y i k q p = true) : eLk tgT gN gL gR gF gO kCl wT wN y i k q := by
  cases i with
  | istore_n j => exact of_decide_eq_true h
  | istore j => exact of_decide_eq_true h
  | astore_n j => exact of_decide_eq_true h
  | astore j => exact of_decide_eq_true h
  | iinc j z => exact of_decide_eq_true h
  | lstore_n j => exact of_decide_eq_true h
  | lstore j => exact of_decide_eq_true h
  | iconst z => exact of_decide_eq_true h
  | bipush z => exact of_decide_eq_true h
  | sipush z => exact of_decide_eq_true h
  | ldc idx =>
    cases k with
    | nil => cases h
    | cons a k =>
      have h' : (decide (-2147483648 ≤ q ∧ q < 2147483648) && wAt (gW y) p (Cond.constant (gN y).cls idx (Int32.ofInt q))) = true := h
      rw [Bool.and_eq_true] at h'
      exact ⟨of_decide_eq_true h'.1, gW_sub y _ (wAt_mem h'.2)⟩
  | ldc_w idx =>
    have h' : (decide (-2147483648 ≤ q ∧ q < 2147483648) && wAt (gW y) p (Cond.constant (gN y).cls idx (Int32.ofInt q))) = true := h
    rw [Bool.and_eq_true] at h'
    exact ⟨of_decide_eq_true h'.1, gW_sub y _ (wAt_mem h'.2)⟩
  | ldc2_w idx =>
    have h' : (decide (-9223372036854775808 ≤ q ∧ q < 9223372036854775808) && wAt (gW y) p (Cond.constantLong (gN y).cls idx (Int64.ofInt q))) = true := h
    rw [Bool.and_eq_true] at h'
    exact ⟨of_decide_eq_true h'.1, gW_sub y _ (wAt_mem h'.2)⟩
  | getfield idx =>
    match k, h with
    | [], _ => trivial
    | [_], _ => trivial
    | _ :: _ :: _ :: _, _ => trivial
    | [ci, j], h =>
      dsimp only [okE] at h
      rw [Bool.and_eq_true] at h
      obtain ⟨h1, h2⟩ := h
      cases e : kCl[ci]? with
      | none => rw [e] at h2; cases h2
      | some q =>
        obtain ⟨C, T, N⟩ := q
        rw [e] at h2
        dsimp only at h2
        rw [Bool.and_eq_true] at h2
        exact ⟨of_decide_eq_true h1, C, T, N, e, of_decide_eq_true h2.1, Or.inl (gW_sub y _ (wAt_mem h2.2))⟩
  | putfield idx =>
    match k, h with
    | [], _ => trivial
    | [_], _ => trivial
    | _ :: _ :: _ :: _, _ => trivial
    | [ci, j], h =>
      dsimp only [okE] at h
      rw [Bool.and_eq_true] at h
      obtain ⟨h1, h2⟩ := h
      cases e : kCl[ci]? with
      | none => rw [e] at h2; cases h2
      | some q =>
        obtain ⟨C, T, N⟩ := q
        rw [e] at h2
        dsimp only at h2
        rw [Bool.and_eq_true, Bool.and_eq_true] at h2
        exact ⟨of_decide_eq_true h1, C, T, N, e, of_decide_eq_true h2.1.1, gW_sub y _ (wAt_mem h2.1.2), of_decide_eq_true h2.2⟩
  | invokestatic idx =>
    match k, h with
    | [], h =>
      have h' : (wAt (gW y) p (Cond.methodLink (gN y).cls idx arraycopyName) && decide (1 ≤ gF y) && decide (nativeFrameWords "java/lang/System" "arraycopy" 5 + 11 ≤ gO y)) = true := h
      rw [Bool.and_eq_true, Bool.and_eq_true] at h'
      exact ⟨gW_sub y _ (wAt_mem h'.1.1), hac.1, hac.2.1, hac.2.2, of_decide_eq_true h'.1.2, of_decide_eq_true h'.2⟩
    | [_], _ => trivial
    | [_, _], _ => trivial
    | _ :: _ :: _ :: _ :: _, _ => trivial
    | [z, na, ml], h =>
      have h' : (okC y z ml idx na p && gS z) = true := h
      rw [Bool.and_eq_true] at h'
      exact ⟨okC_cOk h'.1, (hm z (hz z (by simp) trivial)).1 h'.2⟩
  | invokespecial idx =>
    match k, h with
    | [], h =>
      have h' : (wAt (gW y) p (Cond.methodLink (gN y).cls idx objectInit) && decide (1 ≤ gF y) && decide (12 ≤ gO y)) = true := h
      rw [Bool.and_eq_true, Bool.and_eq_true] at h'
      exact ⟨gW_sub y _ (wAt_mem h'.1.1), hob.1, hob.2, of_decide_eq_true h'.1.2, of_decide_eq_true h'.2⟩
    | [_], _ => trivial
    | [_, _], _ => trivial
    | [_, _, _], _ => trivial
    | _ :: _ :: _ :: _ :: _ :: _, _ => trivial
    | [z, na, ml, ci], h =>
      have h' : (okC y z ml idx (na - 1) p && !(gS z) && decide ((gN z).name = "<init>") && decide (gR z = none)) = true := h
      simp only [Bool.and_eq_true, Bool.not_eq_true'] at h'
      obtain ⟨⟨⟨a1, a2⟩, a3⟩, a4⟩ := h'
      exact ⟨okC_cOk a1, ((hm z (hz z (by simp) trivial)).2 a2).1, of_decide_eq_true a3, of_decide_eq_true a4⟩
  | invokevirtual idx =>
    match k, h with
    | [], _ => trivial
    | [_], h => cases h
    | [_, _], _ => trivial
    | [_, _, _], _ => trivial
    | _ :: _ :: _ :: _ :: _ :: _, _ => trivial
    | [z, na, ml, ci], h =>
      dsimp only [okE] at h
      simp only [Bool.and_eq_true, Bool.not_eq_true'] at h
      obtain ⟨⟨⟨a1, a2⟩, a3⟩, a4⟩ := h
      cases e : kCl[ci]? with
      | none => rw [e] at a4; cases a4
      | some q =>
        obtain ⟨C, T, N⟩ := q
        rw [e] at a4
        have e2 : C = (gN z).cls := of_decide_eq_true a4
        subst e2
        have hw := (hm z (hz z (by simp) trivial)).2 a2
        exact ⟨okC_cOk a1, hw.1, hw.2 (of_decide_eq_true a3), T, N, e⟩
  | new idx =>
    match k, h with
    | [], _ => trivial
    | [_], _ => trivial
    | _ :: _ :: _ :: _, _ => trivial
    | [ci, f], h =>
      dsimp only [okE] at h
      cases e : kCl[ci]? with
      | none => rw [e] at h; cases h
      | some q =>
        obtain ⟨C, T, N⟩ := q
        rw [e] at h
        dsimp only at h
        rw [Bool.and_eq_true] at h
        have e2 : N = f := of_decide_eq_true h.1
        subst e2
        exact ⟨C, T, e, gW_sub y _ (wAt_mem h.2)⟩
  | newarray a =>
    match k, h with
    | [], _ => trivial
    | _ :: _ :: _, _ => trivial
    | [b], h => exact of_decide_eq_true h
  | anewarray idx => exact gW_sub y _ (wAt_mem h)
  | multianewarray idx d =>
    match k, h with
    | [], _ => trivial
    | [_], _ => trivial
    | _ :: _ :: _ :: _, _ => trivial
    | [a, b], h =>
      have h' : (decide (d = 2) && ((decide (a = 6 ∧ b = 1) && wAt (gW y) p (Cond.classLink (gN y).cls idx ("[" ++ (FieldType.array .int).toString))) || (decide (a = 7 ∧ b = 2) && wAt (gW y) p (Cond.classLink (gN y).cls idx ("[" ++ (FieldType.array .long).toString))))) = true := h
      rw [Bool.and_eq_true, Bool.or_eq_true, Bool.and_eq_true, Bool.and_eq_true] at h'
      refine ⟨of_decide_eq_true h'.1, ?_⟩
      rcases h'.2 with ⟨a1, a2⟩ | ⟨a1, a2⟩
      · have := of_decide_eq_true a1
        exact Or.inl ⟨this.1, this.2, gW_sub y _ (wAt_mem a2)⟩
      · have := of_decide_eq_true a1
        exact Or.inr ⟨this.1, this.2, gW_sub y _ (wAt_mem a2)⟩
  | aaload =>
    match k, h with
    | [], _ => trivial
    | _ :: _ :: _, _ => trivial
    | [b], h => exact of_decide_eq_true h
  | arraylength =>
    match k, h with
    | [], _ => trivial
    | _ :: _ :: _, _ => trivial
    | [b], h => exact of_decide_eq_true h
  | ireturn =>
    match k, h with
    | [], h => exact of_decide_eq_true h
    | _ :: _ :: _, _ => trivial
    | [0], _ => trivial
    | [1], _ => trivial
    | [2], _ => trivial
    | [3], _ => trivial
    | [4], h => exact of_decide_eq_true h
    | [_ + 5], _ => trivial
  | lreturn => exact of_decide_eq_true h
  | areturn =>
    dsimp only [okE] at h
    show (∃ n, gR y = some (.object n)) ∨ ∃ u, gR y = some (.array u)
    split at h
    · rename_i n e; exact Or.inl ⟨n, e⟩
    · rename_i n e; exact Or.inr ⟨n, e⟩
    · cases h
  | return_ => exact of_decide_eq_true h
  | _ => trivial
theorem i_vc : Claimed_1_1 ∧ Claimed_1_2 := sorry
