def wAt (L : List Jvm.Cond) (p : Nat) (w : Jvm.Cond) : Bool := match L[p]? with
  | some v => decide (v = w)
  | none => false
def okC (y z ml idx nin p : Nat) : Bool :=
  decide (ml = gL z) && decide (gF z + 1 ≤ gF y) && decide (8 + (gL z + 11) + gO z ≤ gO y) && decide ((parseMethodDescriptor (gN z).desc).map (fun d => d.parameters.length) = some nin) &&
  (wAt (gW y) p (Cond.methodLink (gN y).cls idx (gN z)) || wAt wN (p - 1000) (Cond.methodLinkNest (gN y).cls idx (gN z) "TypeLock"))
def okE (y : Nat) (i : Instr) (k : List Nat) (q : Int) (p : Nat) : Bool := match i, k with
  | .istore_n j, _ => decide (j.val < gL y)
  | .istore j, _ => decide (j < gL y)
  | .astore_n j, _ => decide (j.val < gL y)
  | .astore j, _ => decide (j < gL y)
  | .iinc j _, _ => decide (j < gL y)
  | .lstore_n j, _ => decide (j.val + 1 < gL y)
  | .lstore j, _ => decide (j + 1 < gL y)
  | .iconst z, _ => decide (-2147483648 ≤ z ∧ z < 2147483648)
  | .bipush z, _ => decide (-128 ≤ z ∧ z < 128)
  | .sipush z, _ => decide (-32768 ≤ z ∧ z < 32768)
  | .ldc idx, [] => decide ((gN y).cls = "TypeLock$Tokens" ∧ idx = 66)
  | .ldc idx, _ => decide (-2147483648 ≤ q ∧ q < 2147483648) && wAt (gW y) p (Cond.constant (gN y).cls idx (Int32.ofInt q))
  | .ldc_w idx, _ => decide (-2147483648 ≤ q ∧ q < 2147483648) && wAt (gW y) p (Cond.constant (gN y).cls idx (Int32.ofInt q))
  | .ldc2_w idx, _ => decide (-9223372036854775808 ≤ q ∧ q < 9223372036854775808) && wAt (gW y) p (Cond.constantLong (gN y).cls idx (Int64.ofInt q))
  | .getfield idx, [ci, j] => decide (tgT ci j ≠ 9) && match kCl[ci]? with
    | some (_, T, N) => decide (j < N) && wAt (gW y) p (Cond.fieldLink (gN y).cls idx (T j).1 (T j).2.1 (T j).2.2.1)
    | none => false
  | .putfield idx, [ci, j] => decide (tgT ci j ≠ 9) && match kCl[ci]? with
    | some (_, T, N) => decide (j < N) && wAt (gW y) p (Cond.fieldLink (gN y).cls idx (T j).1 (T j).2.1 (T j).2.2.1) && decide ((T j).2.2.2 = false ∨ ((T j).2.2.2 = true ∧ (gN y).name = "<init>" ∧ (T j).1 = (gN y).cls))
    | none => false
  | .invokestatic idx, [z, na, ml] => okC y z ml idx na p && gS z
  | .invokespecial idx, [z, na, ml, _] => okC y z ml idx (na - 1) p && !(gS z) && decide ((gN z).name = "<init>") && decide (gR z = none)
  | .invokevirtual idx, [z, na, ml, ci] => okC y z ml idx (na - 1) p && !(gS z) && decide ((gN z).name ≠ "<init>") && match kCl[ci]? with
    | some (C, _, _) => decide (C = (gN z).cls)
    | none => false
  | .invokespecial idx, [] => wAt (gW y) p (Cond.methodLink (gN y).cls idx objectInit) && decide (1 ≤ gF y) && decide (12 ≤ gO y)
  | .invokestatic idx, [] => wAt (gW y) p (Cond.methodLink (gN y).cls idx arraycopyName) && decide (1 ≤ gF y) && decide (nativeFrameWords "java/lang/System" "arraycopy" 5 + 11 ≤ gO y)
  | .invokevirtual idx, [0] => decide ((gN y).cls = "TypeLock$Tokens") && wAt (gW y) p (Cond.methodLink (gN y).cls idx ⟨"java/lang/String", "length", "()I"⟩) && decide (4 ≤ gF y ∧ 150 ≤ gO y)
  | .invokevirtual idx, [1] => decide ((gN y).cls = "TypeLock$Tokens") && wAt (gW y) p (Cond.methodLink (gN y).cls idx ⟨"java/lang/String", "charAt", "(I)C"⟩) && decide (4 ≤ gF y ∧ 150 ≤ gO y)
  | .invokestatic idx, [0] => wAt (gW y) p (Cond.methodLink (gN y).cls idx Lib.Math.min.name) && decide (1 ≤ gF y ∧ 21 ≤ gO y)
  | .invokestatic idx, [1] => wAt (gW y) p (Cond.methodLink (gN y).cls idx Lib.Math.max.name) && decide (1 ≤ gF y ∧ 21 ≤ gO y)
  | .new idx, [ci, f] => match kCl[ci]? with
    | some (C, _, N) => decide (N = f) && wAt (gW y) p (Cond.classLink (gN y).cls idx C)
    | none => false
  | .newarray a, [b] => decide ((b = 1 ∧ newarray.typeOf a = .int) ∨ (b = 2 ∧ newarray.typeOf a = .long) ∨ (b = 3 ∧ newarray.typeOf a = .byte) ∨ (b = 4 ∧ newarray.typeOf a = .boolean))
  | .anewarray idx, _ => wAt (gW y) p (Cond.classLink (gN y).cls idx "TypeLock$Bed")
  | .multianewarray idx d, [a, b] => decide (d = 2) && ((decide (a = 6 ∧ b = 1) && wAt (gW y) p (Cond.classLink (gN y).cls idx ("[" ++ (FieldType.array .int).toString))) || (decide (a = 7 ∧ b = 2) && wAt (gW y) p (Cond.classLink (gN y).cls idx ("[" ++ (FieldType.array .long).toString))))
  | .aaload, [a] => decide (a = 5 ∨ a = 6 ∨ a = 7)
  | .arraylength, [a] => decide (a = 1 ∨ a = 2 ∨ a = 3 ∨ a = 4 ∨ a = 9)
  | .ireturn, [] => decide (gR y = some .int)
  | .ireturn, [4] => decide (gR y = some .boolean)
  | .lreturn, _ => decide (gR y = some .long)
  | .areturn, _ => match gR y with
    | some (.object _) => true
    | some (.array _) => true
    | _ => false
  | .return_, _ => decide (gR y = none)
  | _, _ => true
def okJ (pc : Nat) : Instr → Bool
  | .goto off => decide (0 ≤ (pc : Int) + off)
  | .ifCond _ off => decide (0 ≤ (pc : Int) + off)
  | .if_icmp _ off => decide (0 ≤ (pc : Int) + off)
  | .tableswitch d lo hi offs => decide (0 ≤ (pc : Int) + d) && (offs.toList.all fun x => decide (0 ≤ (pc : Int) + x)) && decide ((offs.size : Int) = hi - lo + 1)
  | .lookupswitch d ps => decide (0 ≤ (pc : Int) + d) && (ps.toList.all fun x => decide (0 ≤ (pc : Int) + x.2)) && (ps.toList.zip (ps.toList.drop 1)).all (fun (a, next) => a.1 < next.1)
  | _ => true
def okL (y : Nat) : List aEnt → List Nat → Bool
  | [], _ => true
  | _ :: _, [] => false
  | (pc, i, k, q) :: rest, p :: ps => decide (decode (gB y) pc = .ok (i, aLen i (aPc rest - pc))) && (match rest with
    | [] => true
    | _ :: _ => decide (aPc rest = pc + aLen i (aPc rest - pc))) && okE y i k q p && okJ pc i && okL y rest ps
def okM (y : Nat) : Bool :=
  plainName (gN y).cls && decide ((gN y).cls ≠ "java/lang/invoke/MethodHandle") && decide ((gN y).cls ≠ "java/lang/invoke/VarHandle") && wAt wL (gM y).1 (Cond.code (gN y) (gB y) (gL y) (gR y)) && goodWord (Cond.code (gN y) (gB y) (gL y) (gR y)) &&
  wAt wL (gM y).2.1 (Cond.initialized (gN y).cls) && decide (aPc (gP y) = 0) &&
  (if gS y then (wAt wL (gM y).2.2.1 (Cond.static (gN y)) && goodWord (Cond.static (gN y))) else (wAt wL (gM y).2.2.1 (Cond.instanceMethod (gN y)) && goodWord (Cond.instanceMethod (gN y)) && (decide ((gN y).name = "<init>") || (wAt wL (gM y).2.2.2 (Cond.selects (gN y).cls (gN y) (gN y)) && goodWord (Cond.selects (gN y).cls (gN y) (gN y))))))
theorem wAt_mem {L : List Jvm.Cond} {p : Nat} {w : Jvm.Cond} (h : wAt L p w = true) : w ∈ L := by
  unfold wAt at h
  cases e : L[p]? with
  | none => rw [e] at h; cases h
  | some v =>
    rw [e] at h
    have : v = w := of_decide_eq_true h
    subst this
    exact List.mem_of_getElem? e
theorem wT_of {w : Jvm.Cond} (h : w ∈ wL) (hg : goodWord w = true) : w ∈ wT := List.mem_filter.mpr ⟨h, hg⟩
theorem sub_wT {L : List Jvm.Cond} {ps : List Nat} (h : L = ps.filterMap (fun i => wL[i]?) ∧ L.all goodWord = true) : ∀ w ∈ L, w ∈ wT := fun w hw => by
  have hg := List.all_eq_true.mp h.2 w hw
  rw [h.1] at hw
  obtain ⟨i, -, hi⟩ := List.mem_filterMap.mp hw
  exact wT_of (List.mem_of_getElem? hi) hg
theorem gW_sub (y : Nat) : ∀ w ∈ gW y, w ∈ wT := by
  unfold gW
  generalize kOw.getD y 0 = j
  have key : ∀ L ∈ kWs, ∀ w ∈ L, w ∈ wT := by
    intro L hL
    simp only [kWs, List.mem_cons, List.not_mem_nil, or_false] at hL
    rcases hL with rfl | rfl | rfl | rfl | rfl | rfl | rfl | rfl | rfl | rfl | rfl | rfl | rfl | rfl | rfl | rfl
    · exact sub_wT kW0_ok
    · exact sub_wT kW1_ok
    · exact sub_wT kW2_ok
    · exact sub_wT kW3_ok
    · exact sub_wT kW4_ok
    · exact sub_wT kW5_ok
    · exact sub_wT kW6_ok
    · exact sub_wT kW7_ok
    · exact sub_wT kW8_ok
    · exact sub_wT kW9_ok
    · exact sub_wT kW10_ok
    · exact sub_wT kW11_ok
    · exact sub_wT kW12_ok
    · exact sub_wT kW13_ok
    · exact sub_wT kW14_ok
    · exact sub_wT kW15_ok
  intro w hw
  rw [List.getD_eq_getElem?_getD] at hw
  cases e : kWs[j]? with
  | none => rw [e] at hw; cases hw
  | some L => rw [e] at hw; exact key L (List.mem_of_getElem? e) w hw
theorem okC_cOk {y z ml idx nin p : Nat} (h : okC y z ml idx nin p = true) : cOk gN gL gF gO wT wN y z ml idx nin := by
  unfold okC at h
  simp only [Bool.and_eq_true, Bool.or_eq_true, decide_eq_true_eq] at h
  obtain ⟨⟨⟨⟨h1, h2⟩, h3⟩, h4⟩, h5⟩ := h
  refine ⟨h1, h2, h3, h4, ?_⟩
  rcases h5 with h5 | h5
  · exact Or.inl (gW_sub y _ (wAt_mem h5))
  · exact Or.inr ⟨_, wAt_mem h5⟩
/-- what the methods' own words give -/
def mOkW (z : Nat) : Prop := (gS z = true → Cond.static (gN z) ∈ wT) ∧ (gS z = false → Cond.instanceMethod (gN z) ∈ wT ∧ ((gN z).name ≠ "<init>" → Cond.selects (gN z).cls (gN z) (gN z) ∈ wT))
theorem ofd {p : Prop} {d : Decidable p} (h : @decide p d = true) : p := of_decide_eq_true h
theorem okE_eLk {y : Nat} {i : Instr} {k : List Nat} {q : Int} {p : Nat} (hm : ∀ z, gP z ≠ [] → mOkW z) (hz : ∀ z, z ∈ k.head? → (match i with | .invokestatic _ => True | .invokespecial _ => True | .invokevirtual _ => True | _ => False) → gP z ≠ []) (hob : Cond.instanceMethod objectInit ∈ wT ∧ Cond.code objectInit ⟨#[0xb1]⟩ 1 none ∈ wT) (hac : Cond.native arraycopyName ∈ wT ∧ Cond.static arraycopyName ∈ wT ∧ Cond.initialized "java/lang/System" ∈ wT)
    (h : okE y i k q p = true) : eLk tgT gN gL gR gF gO kCl wT wN y i k q := by
  cases i with
  | istore_n j => exact ofd h
  | istore j => exact ofd h
  | astore_n j => exact ofd h
  | astore j => exact ofd h
  | iinc j z => exact ofd h
  | lstore_n j => exact ofd h
  | lstore j => exact ofd h
  | iconst z => exact ofd h
  | bipush z => exact ofd h
  | sipush z => exact ofd h
  | ldc idx =>
    cases k with
    | nil => exact ofd h
    | cons a k =>
      have h' : (decide (-2147483648 ≤ q ∧ q < 2147483648) && wAt (gW y) p (Cond.constant (gN y).cls idx (Int32.ofInt q))) = true := h
      rw [Bool.and_eq_true] at h'
      exact ⟨ofd h'.1, gW_sub y _ (wAt_mem h'.2)⟩
  | ldc_w idx =>
    have h' : (decide (-2147483648 ≤ q ∧ q < 2147483648) && wAt (gW y) p (Cond.constant (gN y).cls idx (Int32.ofInt q))) = true := h
    rw [Bool.and_eq_true] at h'
    exact ⟨ofd h'.1, gW_sub y _ (wAt_mem h'.2)⟩
  | ldc2_w idx =>
    have h' : (decide (-9223372036854775808 ≤ q ∧ q < 9223372036854775808) && wAt (gW y) p (Cond.constantLong (gN y).cls idx (Int64.ofInt q))) = true := h
    rw [Bool.and_eq_true] at h'
    exact ⟨ofd h'.1, gW_sub y _ (wAt_mem h'.2)⟩
  | getfield idx =>
    match k, h with
    | [], _ => trivial
    | [_], _ => trivial
    | _ :: _ :: _ :: _, _ => trivial
    | [ci, j], h =>
      dsimp only [okE] at h
      rw [Bool.and_eq_true] at h
      obtain ⟨h1, h2⟩ := h
      cases e : kCl[ci]? with
      | none => rw [e] at h2; cases h2
      | some q =>
        obtain ⟨C, T, N⟩ := q
        rw [e] at h2
        dsimp only at h2
        rw [Bool.and_eq_true] at h2
        exact ⟨ofd h1, C, T, N, e, ofd h2.1, Or.inl (gW_sub y _ (wAt_mem h2.2))⟩
  | putfield idx =>
    match k, h with
    | [], _ => trivial
    | [_], _ => trivial
    | _ :: _ :: _ :: _, _ => trivial
    | [ci, j], h =>
      dsimp only [okE] at h
      rw [Bool.and_eq_true] at h
      obtain ⟨h1, h2⟩ := h
      cases e : kCl[ci]? with
      | none => rw [e] at h2; cases h2
      | some q =>
        obtain ⟨C, T, N⟩ := q
        rw [e] at h2
        dsimp only at h2
        rw [Bool.and_eq_true, Bool.and_eq_true] at h2
        exact ⟨ofd h1, C, T, N, e, ofd h2.1.1, gW_sub y _ (wAt_mem h2.1.2), ofd h2.2⟩
  | invokestatic idx =>
    match k, h with
    | [], h =>
      have h' : (wAt (gW y) p (Cond.methodLink (gN y).cls idx arraycopyName) && decide (1 ≤ gF y) && decide (nativeFrameWords "java/lang/System" "arraycopy" 5 + 11 ≤ gO y)) = true := h
      rw [Bool.and_eq_true, Bool.and_eq_true] at h'
      exact ⟨gW_sub y _ (wAt_mem h'.1.1), hac.1, hac.2.1, hac.2.2, ofd h'.1.2, ofd h'.2⟩
    | [0], h =>
      have h' : (wAt (gW y) p (Cond.methodLink (gN y).cls idx Lib.Math.min.name) && decide (1 ≤ gF y ∧ 21 ≤ gO y)) = true := h
      rw [Bool.and_eq_true] at h'
      exact ⟨gW_sub y _ (wAt_mem h'.1), ofd h'.2⟩
    | [1], h =>
      have h' : (wAt (gW y) p (Cond.methodLink (gN y).cls idx Lib.Math.max.name) && decide (1 ≤ gF y ∧ 21 ≤ gO y)) = true := h
      rw [Bool.and_eq_true] at h'
      exact ⟨gW_sub y _ (wAt_mem h'.1), ofd h'.2⟩
    | [_ + 2], _ => trivial
    | [_, _], _ => trivial
    | _ :: _ :: _ :: _ :: _, _ => trivial
    | [z, na, ml], h =>
      have h' : (okC y z ml idx na p && gS z) = true := h
      rw [Bool.and_eq_true] at h'
      exact ⟨okC_cOk h'.1, (hm z (hz z (by simp) trivial)).1 h'.2⟩
  | invokespecial idx =>
    match k, h with
    | [], h =>
      have h' : (wAt (gW y) p (Cond.methodLink (gN y).cls idx objectInit) && decide (1 ≤ gF y) && decide (12 ≤ gO y)) = true := h
      rw [Bool.and_eq_true, Bool.and_eq_true] at h'
      exact ⟨gW_sub y _ (wAt_mem h'.1.1), hob.1, hob.2, ofd h'.1.2, ofd h'.2⟩
    | [_], _ => trivial
    | [_, _], _ => trivial
    | [_, _, _], _ => trivial
    | _ :: _ :: _ :: _ :: _ :: _, _ => trivial
    | [z, na, ml, ci], h =>
      have h' : (okC y z ml idx (na - 1) p && !(gS z) && decide ((gN z).name = "<init>") && decide (gR z = none)) = true := h
      simp only [Bool.and_eq_true, Bool.not_eq_true'] at h'
      obtain ⟨⟨⟨a1, a2⟩, a3⟩, a4⟩ := h'
      exact ⟨okC_cOk a1, ((hm z (hz z (by simp) trivial)).2 a2).1, ofd a3, ofd a4⟩
  | invokevirtual idx =>
    match k, h with
    | [], _ => trivial
    | [0], h =>
      have h' : (decide ((gN y).cls = "TypeLock$Tokens") && wAt (gW y) p (Cond.methodLink (gN y).cls idx ⟨"java/lang/String", "length", "()I"⟩) && decide (4 ≤ gF y ∧ 150 ≤ gO y)) = true := h
      rw [Bool.and_eq_true, Bool.and_eq_true] at h'
      exact ⟨ofd h'.1.1, gW_sub y _ (wAt_mem h'.1.2), ofd h'.2⟩
    | [1], h =>
      have h' : (decide ((gN y).cls = "TypeLock$Tokens") && wAt (gW y) p (Cond.methodLink (gN y).cls idx ⟨"java/lang/String", "charAt", "(I)C"⟩) && decide (4 ≤ gF y ∧ 150 ≤ gO y)) = true := h
      rw [Bool.and_eq_true, Bool.and_eq_true] at h'
      exact ⟨ofd h'.1.1, gW_sub y _ (wAt_mem h'.1.2), ofd h'.2⟩
    | [_ + 2], _ => trivial
    | [_, _], _ => trivial
    | [_, _, _], _ => trivial
    | _ :: _ :: _ :: _ :: _ :: _, _ => trivial
    | [z, na, ml, ci], h =>
      dsimp only [okE] at h
      simp only [Bool.and_eq_true, Bool.not_eq_true'] at h
      obtain ⟨⟨⟨a1, a2⟩, a3⟩, a4⟩ := h
      cases e : kCl[ci]? with
      | none => rw [e] at a4; cases a4
      | some q =>
        obtain ⟨C, T, N⟩ := q
        rw [e] at a4
        have e2 : C = (gN z).cls := ofd a4
        subst e2
        have hw := (hm z (hz z (by simp) trivial)).2 a2
        exact ⟨okC_cOk a1, hw.1, hw.2 (ofd a3), T, N, e⟩
  | new idx =>
    match k, h with
    | [], _ => trivial
    | [_], _ => trivial
    | _ :: _ :: _ :: _, _ => trivial
    | [ci, f], h =>
      dsimp only [okE] at h
      cases e : kCl[ci]? with
      | none => rw [e] at h; cases h
      | some q =>
        obtain ⟨C, T, N⟩ := q
        rw [e] at h
        dsimp only at h
        rw [Bool.and_eq_true] at h
        have e2 : N = f := ofd h.1
        subst e2
        exact ⟨C, T, e, gW_sub y _ (wAt_mem h.2)⟩
  | newarray a =>
    match k, h with
    | [], _ => trivial
    | _ :: _ :: _, _ => trivial
    | [b], h => exact ofd h
  | anewarray idx => exact gW_sub y _ (wAt_mem h)
  | multianewarray idx d =>
    match k, h with
    | [], _ => trivial
    | [_], _ => trivial
    | _ :: _ :: _ :: _, _ => trivial
    | [a, b], h =>
      have h' : (decide (d = 2) && ((decide (a = 6 ∧ b = 1) && wAt (gW y) p (Cond.classLink (gN y).cls idx ("[" ++ (FieldType.array .int).toString))) || (decide (a = 7 ∧ b = 2) && wAt (gW y) p (Cond.classLink (gN y).cls idx ("[" ++ (FieldType.array .long).toString))))) = true := h
      rw [Bool.and_eq_true, Bool.or_eq_true, Bool.and_eq_true, Bool.and_eq_true] at h'
      refine ⟨ofd h'.1, ?_⟩
      rcases h'.2 with ⟨a1, a2⟩ | ⟨a1, a2⟩
      · have := ofd a1
        exact Or.inl ⟨this.1, this.2, gW_sub y _ (wAt_mem a2)⟩
      · have := ofd a1
        exact Or.inr ⟨this.1, this.2, gW_sub y _ (wAt_mem a2)⟩
  | aaload =>
    match k, h with
    | [], _ => trivial
    | _ :: _ :: _, _ => trivial
    | [b], h => exact ofd h
  | arraylength =>
    match k, h with
    | [], _ => trivial
    | _ :: _ :: _, _ => trivial
    | [b], h => exact ofd h
  | ireturn =>
    match k, h with
    | [], h => exact ofd h
    | [0], _ => exact True.intro
    | [1], _ => exact True.intro
    | [2], _ => exact True.intro
    | [3], _ => exact True.intro
    | [4], h => exact ofd h
    | [_ + 5], _ => exact True.intro
    | 0 :: _ :: _, _ => exact True.intro
    | 1 :: _ :: _, _ => exact True.intro
    | 2 :: _ :: _, _ => exact True.intro
    | 3 :: _ :: _, _ => exact True.intro
    | 4 :: _ :: _, _ => exact True.intro
    | (_ + 5) :: _ :: _, _ => exact True.intro
  | lreturn => exact ofd h
  | areturn =>
    dsimp only [okE] at h
    show (∃ n, gR y = some (.object n)) ∨ ∃ u, gR y = some (.array u)
    split at h
    · rename_i n e; exact Or.inl ⟨n, e⟩
    · rename_i n e; exact Or.inr ⟨n, e⟩
    · cases h
  | return_ => exact ofd h
  | _ => trivial
theorem okJ_jOk {pc : Nat} {i : Instr} (h : okJ pc i = true) : jOk pc i := by
  cases i with
  | goto off => exact ofd h
  | ifCond c off => exact ofd h
  | if_icmp c off => exact ofd h
  | tableswitch d lo hi offs =>
    have h' : (decide (0 ≤ (pc : Int) + d) && (offs.toList.all fun x => decide (0 ≤ (pc : Int) + x)) && decide ((offs.size : Int) = hi - lo + 1)) = true := h
    rw [Bool.and_eq_true, Bool.and_eq_true] at h'
    exact ⟨ofd h'.1.1, fun x hx => ofd (List.all_eq_true.mp h'.1.2 x hx), ofd h'.2⟩
  | lookupswitch d ps =>
    have h' : (decide (0 ≤ (pc : Int) + d) && (ps.toList.all fun x => decide (0 ≤ (pc : Int) + x.2)) && (ps.toList.zip (ps.toList.drop 1)).all (fun (a, next) => a.1 < next.1)) = true := h
    rw [Bool.and_eq_true, Bool.and_eq_true] at h'
    refine ⟨fun x => ?_, h'.2⟩
    have h1 : ∀ q ∈ ps.toList, 0 ≤ (pc : Int) + q.2 := fun q hq => ofd (List.all_eq_true.mp h'.1.2 q hq)
    have h2 : 0 ≤ (pc : Int) + d := ofd h'.1.1
    generalize ps.toList = l at h1
    induction l with
    | nil => exact h2
    | cons q l ih =>
      unfold Op.lookupswitch.offset
      split
      · exact h1 _ List.mem_cons_self
      · exact ih (fun z hz => h1 z (List.mem_cons_of_mem _ hz))
  | _ => trivial
theorem okM_ok {z : Nat} (h : okM z = true) : (plainName (gN z).cls = true ∧ ((gN z).cls ≠ "java/lang/invoke/MethodHandle" ∧ (gN z).cls ≠ "java/lang/invoke/VarHandle") ∧ Cond.code (gN z) (gB z) (gL z) (gR z) ∈ wT ∧ Cond.initialized (gN z).cls ∈ wT ∧ aPc (gP z) = 0) ∧ mOkW z := by
  unfold okM at h
  simp only [Bool.and_eq_true] at h
  obtain ⟨⟨⟨⟨⟨⟨⟨h1, h2⟩, h3⟩, h4⟩, h5⟩, h6⟩, h7⟩, h8⟩ := h
  refine ⟨⟨h1, ⟨ofd h2, ofd h3⟩, wT_of (wAt_mem h4) h5, wT_of (wAt_mem h6) rfl, ofd h7⟩, fun hs => ?_, fun hs => ?_⟩
  · rw [hs, if_pos rfl, Bool.and_eq_true] at h8
    exact wT_of (wAt_mem h8.1) h8.2
  · rw [hs, if_neg (by decide), Bool.and_eq_true, Bool.and_eq_true, Bool.or_eq_true, Bool.and_eq_true] at h8
    refine ⟨wT_of (wAt_mem h8.1.1) h8.1.2, fun hn => ?_⟩
    rcases h8.2 with q | q
    · exact absurd (ofd q) hn
    · exact wT_of (wAt_mem q.1) q.2
theorem okL_tab {y : Nat} (hm : ∀ z, gP z ≠ [] → mOkW z) (hob : Cond.instanceMethod objectInit ∈ wT ∧ Cond.code objectInit ⟨#[0xb1]⟩ 1 none ∈ wT) (hac : Cond.native arraycopyName ∈ wT ∧ Cond.static arraycopyName ∈ wT ∧ Cond.initialized "java/lang/System" ∈ wT) :
    ∀ (l : List aEnt) (ps : List Nat), okL y l ps = true → (∀ e ∈ l, ∀ z, z ∈ e.2.2.1.head? → (match e.2.1 with | .invokestatic _ => True | .invokespecial _ => True | .invokevirtual _ => True | _ => False) → gP z ≠ []) →
      ∀ (pre : List aEnt) (pc : Nat) (i : Instr) (k : List Nat) (q : Int) (rest : List aEnt), l = pre ++ (pc, i, k, q) :: rest →
        decode (gB y) pc = .ok (i, aLen i (aPc rest - pc)) ∧ (rest ≠ [] → aPc rest = pc + aLen i (aPc rest - pc)) ∧ eLk tgT gN gL gR gF gO kCl wT wN y i k q ∧ jOk pc i := by
  intro l
  induction l with
  | nil => intro ps _ _ pre pc i k q rest h; cases pre <;> cases h
  | cons e l ih =>
    intro ps h hc pre pc i k q rest he
    obtain ⟨pc0, i0, k0, q0⟩ := e
    cases ps with
    | nil => cases h
    | cons p ps =>
      unfold okL at h
      simp only [Bool.and_eq_true] at h
      obtain ⟨⟨⟨⟨h1, h2⟩, h3⟩, h4⟩, h5⟩ := h
      cases pre with
      | nil =>
        rw [List.nil_append] at he
        obtain ⟨he1, rfl⟩ := List.cons.inj he
        cases he1
        refine ⟨ofd h1, fun hr => ?_, okE_eLk hm (hc _ List.mem_cons_self) hob hac h3, okJ_jOk h4⟩
        cases l with
        | nil => exact absurd rfl hr
        | cons a l => exact ofd h2
      | cons a pre =>
        obtain ⟨-, rfl⟩ := List.cons.inj he
        exact ih ps h5 (fun e hq => hc e (List.mem_cons_of_mem _ hq)) pre pc i k q rest rfl
/-- calls go to methods that are there -/
def okZ (l : List aEnt) : Bool := l.all fun e => match e.2.1, e.2.2.1 with
  | .invokestatic _, z :: _ => !(gP z).isEmpty
  | .invokespecial _, z :: _ => !(gP z).isEmpty
  | .invokevirtual _, z :: _ => !(gP z).isEmpty
  | _, _ => true
theorem okZ_ok {l : List aEnt} (h : okZ l = true) : ∀ e ∈ l, ∀ z, z ∈ e.2.2.1.head? → (match e.2.1 with | .invokestatic _ => True | .invokespecial _ => True | .invokevirtual _ => True | _ => False) → gP z ≠ [] := by
  intro e he z hz hi hP
  have h1 := List.all_eq_true.mp h e he
  obtain ⟨pc, i, k, q⟩ := e
  cases k with
  | nil => simp at hz
  | cons a k =>
    have : a = z := by simpa using hz
    subst this
    dsimp only at h1 hi
    cases i <;> first | (exact hi.elim) | (simp [hP] at h1)
def okAll (y : Nat) : Bool := okM y && okL y (gP y) (kQ.getD y []) && okZ (gP y)
