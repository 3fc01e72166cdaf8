/-! every run of the abstract machine is a run of the machine -/
def aLen : Instr → Nat → Nat := fun i d => match i with
  | .tableswitch _ _ _ _ => d
  | .lookupswitch _ _ => d
  | .bipush _ => 2
  | .iload _ => 2
  | .lload _ => 2
  | .aload _ => 2
  | .istore _ => 2
  | .lstore _ => 2
  | .astore _ => 2
  | .ldc _ => 2
  | .newarray _ => 2
  | .sipush _ => 3
  | .iinc _ _ => 3
  | .ldc_w _ => 3
  | .ldc2_w _ => 3
  | .ifCond _ _ => 3
  | .if_icmp _ _ => 3
  | .goto _ => 3
  | .getfield _ => 3
  | .putfield _ => 3
  | .new _ => 3
  | .anewarray _ => 3
  | .invokestatic _ => 3
  | .invokespecial _ => 3
  | .invokevirtual _ => 3
  | .multianewarray _ _ => 4
  | _ => 1
def aPc : List aEnt → Nat
  | [] => 0
  | e :: _ => e.1
section WALK
variable {yN : Nat → MethodName} {yB : Nat → ByteArray} {yL : Nat → Nat} {yR : Nat → Option FieldType} {yF yO : Nat → Nat} {P : Nat → List aEnt} {wT wN : List Jvm.Cond} {XF : State → Prop}
variable {tg : Nat → Nat → Nat} {cy : Nat → ClassId} {sa bs : Nat} {D : va_G} {cl : List vw_C}
def tTy (t : Nat) (ty : FieldType) : Prop := match t with
  | 0 => ty = .int
  | 1 => ty = .long
  | 4 => ty = .boolean
  | _ => (∃ n, ty = .object n) ∨ ∃ u, ty = .array u
/-- what is the same for every class -/
def clOk (tg : Nat → Nat → Nat) (cl : List vw_C) (wT : List Jvm.Cond) : Prop := ∀ (ci : Nat) (C : String) (T : u_T) (N : Nat), cl[ci]? = some (C, T, N) →
  (∀ w ∈ u_ws C T N, w ∈ wT) ∧ (∀ a, a < N → ∀ b, b < N → a ≠ b → (T a).2.1 ≠ (T b).2.1) ∧ Cond.instantiable C N ∈ wT ∧ Cond.initialized C ∈ wT ∧
  (∀ j, tg ci j ≠ 9 → j < N) ∧ N < 1000 ∧ ∃ ty : Nat → FieldType, (∀ k, k < N → parseFieldDescriptor (T k).2.2.1 = some (ty k)) ∧ ∀ k, k < N → tg ci k ≤ 4 ∧ tTy (tg ci k) (ty k)
def cOk (yN : Nat → MethodName) (yL : Nat → Nat) (yF yO : Nat → Nat) (wT wN : List Jvm.Cond) (y z ml idx nin : Nat) : Prop :=
  ml = yL z ∧ yF z + 1 ≤ yF y ∧ 8 + (yL z + 11) + yO z ≤ yO y ∧ (parseMethodDescriptor (yN z).desc).map (fun d => d.parameters.length) = some nin ∧
  (Cond.methodLink (yN y).cls idx (yN z) ∈ wT ∨ ∃ host, Cond.methodLinkNest (yN y).cls idx (yN z) host ∈ wN)
/-- what an instruction of method y links is in the tables -/
def eLk (tg : Nat → Nat → Nat) (yN : Nat → MethodName) (yL : Nat → Nat) (yR : Nat → Option FieldType) (yF yO : Nat → Nat) (cl : List vw_C) (wT wN : List Jvm.Cond) (y : Nat) (i : Instr) (k : List Nat) (q : Int) : Prop := match i, k with
  | .istore_n j, _ => j.val < yL y
  | .istore j, _ => j < yL y
  | .astore_n j, _ => j.val < yL y
  | .astore j, _ => j < yL y
  | .iinc j _, _ => j < yL y
  | .lstore_n j, _ => j.val + 1 < yL y
  | .lstore j, _ => j + 1 < yL y
  | .iconst z, _ => xI z
  | .bipush z, _ => -128 ≤ z ∧ z < 128
  | .sipush z, _ => -32768 ≤ z ∧ z < 32768
  | .ldc idx, [] => (yN y).cls = "TypeLock$Tokens" ∧ idx = 66
  | .ldc idx, _ => xI q ∧ Cond.constant (yN y).cls idx (Int32.ofInt q) ∈ wT
  | .ldc_w idx, _ => xI q ∧ Cond.constant (yN y).cls idx (Int32.ofInt q) ∈ wT
  | .ldc2_w idx, _ => xL q ∧ Cond.constantLong (yN y).cls idx (Int64.ofInt q) ∈ wT
  | .getfield idx, [ci, j] => tg ci j ≠ 9 ∧ ∃ C T N, cl[ci]? = some (C, T, N) ∧ j < N ∧ (Cond.fieldLink (yN y).cls idx (T j).1 (T j).2.1 (T j).2.2.1 ∈ wT ∨ ∃ host, Cond.fieldLinkNest (yN y).cls idx (T j).1 (T j).2.1 (T j).2.2.1 host ∈ wT)
  | .putfield idx, [ci, j] => tg ci j ≠ 9 ∧ ∃ C T N, cl[ci]? = some (C, T, N) ∧ j < N ∧ Cond.fieldLink (yN y).cls idx (T j).1 (T j).2.1 (T j).2.2.1 ∈ wT ∧ ((T j).2.2.2 = false ∨ ((T j).2.2.2 = true ∧ (yN y).name = "<init>" ∧ (T j).1 = (yN y).cls))
  | .invokestatic idx, [z, na, ml] => cOk yN yL yF yO wT wN y z ml idx na ∧ Cond.static (yN z) ∈ wT
  | .invokespecial idx, [z, na, ml, _] => cOk yN yL yF yO wT wN y z ml idx (na - 1) ∧ Cond.instanceMethod (yN z) ∈ wT ∧ (yN z).name = "<init>" ∧ yR z = none
  | .invokevirtual idx, [z, na, ml, ci] => cOk yN yL yF yO wT wN y z ml idx (na - 1) ∧ Cond.instanceMethod (yN z) ∈ wT ∧ Cond.selects (yN z).cls (yN z) (yN z) ∈ wT ∧ ∃ T N, cl[ci]? = some ((yN z).cls, T, N)
  | .invokespecial idx, [] => Cond.methodLink (yN y).cls idx objectInit ∈ wT ∧ Cond.instanceMethod objectInit ∈ wT ∧ Cond.code objectInit ⟨#[0xb1]⟩ 1 none ∈ wT ∧ 1 ≤ yF y ∧ 12 ≤ yO y
  | .invokestatic idx, [] => Cond.methodLink (yN y).cls idx arraycopyName ∈ wT ∧ Cond.native arraycopyName ∈ wT ∧ Cond.static arraycopyName ∈ wT ∧ Cond.initialized "java/lang/System" ∈ wT ∧ 1 ≤ yF y ∧ nativeFrameWords "java/lang/System" "arraycopy" 5 + 11 ≤ yO y
  | .invokevirtual idx, [0] => (yN y).cls = "TypeLock$Tokens" ∧ Cond.methodLink (yN y).cls idx ⟨"java/lang/String", "length", "()I"⟩ ∈ wT ∧ 4 ≤ yF y ∧ 150 ≤ yO y
  | .invokevirtual idx, [1] => (yN y).cls = "TypeLock$Tokens" ∧ Cond.methodLink (yN y).cls idx ⟨"java/lang/String", "charAt", "(I)C"⟩ ∈ wT ∧ 4 ≤ yF y ∧ 150 ≤ yO y
  | .invokestatic idx, [0] => Cond.methodLink (yN y).cls idx Lib.Math.min.name ∈ wT ∧ 1 ≤ yF y ∧ 21 ≤ yO y
  | .invokestatic idx, [1] => Cond.methodLink (yN y).cls idx Lib.Math.max.name ∈ wT ∧ 1 ≤ yF y ∧ 21 ≤ yO y
  | .new idx, [ci, f] => ∃ C T, cl[ci]? = some (C, T, f) ∧ Cond.classLink (yN y).cls idx C ∈ wT
  | .newarray a, [b] => (b = 1 ∧ newarray.typeOf a = .int) ∨ (b = 2 ∧ newarray.typeOf a = .long) ∨ (b = 3 ∧ newarray.typeOf a = .byte) ∨ (b = 4 ∧ newarray.typeOf a = .boolean)
  | .anewarray idx, _ => Cond.classLink (yN y).cls idx "TypeLock$Bed" ∈ wT
  | .multianewarray idx d, [a, b] => d = 2 ∧ ((a = 6 ∧ b = 1 ∧ Cond.classLink (yN y).cls idx ("[" ++ (FieldType.array .int).toString) ∈ wT) ∨ (a = 7 ∧ b = 2 ∧ Cond.classLink (yN y).cls idx ("[" ++ (FieldType.array .long).toString) ∈ wT))
  | .aaload, [a] => a = 5 ∨ a = 6 ∨ a = 7
  | .arraylength, [a] => a = 1 ∨ a = 2 ∨ a = 3 ∨ a = 4 ∨ a = 9
  | .ireturn, [] => yR y = some .int
  | .ireturn, [4] => yR y = some .boolean
  | .lreturn, _ => yR y = some .long
  | .areturn, _ => (∃ n, yR y = some (.object n)) ∨ ∃ u, yR y = some (.array u)
  | .return_, _ => yR y = none
  | _, _ => True
/-- the table of methods is right -/
def jOk (pc : Nat) : Instr → Prop
  | .goto off => 0 ≤ (pc : Int) + off
  | .ifCond _ off => 0 ≤ (pc : Int) + off
  | .if_icmp _ off => 0 ≤ (pc : Int) + off
  | .tableswitch d lo hi offs => 0 ≤ (pc : Int) + d ∧ (∀ x ∈ offs.toList, 0 ≤ (pc : Int) + x) ∧ (offs.size : Int) = hi - lo + 1
  | .lookupswitch d ps => (∀ x : Int, 0 ≤ (pc : Int) + Op.lookupswitch.offset ps.toList d x) ∧ (ps.toList.zip (ps.toList.drop 1)).all (fun (a, next) => a.1 < next.1) = true
  | _ => True
def tabOk (tg : Nat → Nat → Nat) (yN : Nat → MethodName) (yB : Nat → ByteArray) (yL : Nat → Nat) (yR : Nat → Option FieldType) (yF yO : Nat → Nat) (P : Nat → List aEnt) (cl : List vw_C) (wT wN : List Jvm.Cond) (y : Nat) : Prop :=
  (plainName (yN y).cls = true ∧ ((yN y).cls ≠ "java/lang/invoke/MethodHandle" ∧ (yN y).cls ≠ "java/lang/invoke/VarHandle") ∧ Cond.code (yN y) (yB y) (yL y) (yR y) ∈ wT ∧ Cond.initialized (yN y).cls ∈ wT ∧ aPc (P y) = 0) ∧
  ∀ (pre : List aEnt) (pc : Nat) (i : Instr) (k : List Nat) (q : Int) (rest : List aEnt), P y = pre ++ (pc, i, k, q) :: rest →
    decode (yB y) pc = .ok (i, aLen i (aPc rest - pc)) ∧ (rest ≠ [] → aPc rest = pc + aLen i (aPc rest - pc)) ∧ eLk tg yN yL yR yF yO cl wT wN y i k q ∧ jOk pc i
/-- what a walk knows of where it is -/
def sCx (p : Program) (s : State) (m : MethodId) (args : Array Value) (meth : Method) (c : Code) (y : MethodName) (cc : ByteArray) (nL : Nat) (ret : Option FieldType) (wT : List Jvm.Cond) (XF : State → Prop) : Prop :=
  p.tables.exec = Jvm.exec ∧ c.code = cc ∧ meth.sig.returnType = ret ∧ c.maxLocals = nL ∧ s.vm.findClass y.cls = some m.cls ∧ (∀ w ∈ wT, w.before args s = true) ∧ meth.locks = false ∧ meth.name = y.name ∧ XF s
theorem seek_suf {C : List aEnt} (pc : Nat) : ∃ pre, C = pre ++ aSeek C pc := ⟨C.takeWhile (fun e => e.1 != pc), (List.takeWhile_append_dropWhile).symm⟩
theorem seek_pc {C : List aEnt} {pc : Nat} (h : aSeek C pc ≠ []) : aPc (aSeek C pc) = pc := by
  unfold aSeek at h ⊢
  cases hd : C.dropWhile (fun e => e.1 != pc) with
  | nil => exact absurd hd h
  | cons e r =>
    have := List.head?_dropWhile_not (p := fun e : aEnt => e.1 != pc) (l := C)
    rw [hd] at this
    simp at this
    exact this
theorem run_ne {n : Nat} {C rest : List aEnt} {ls st : List aV} {S : aSh} {M : aM} {o : aO} (h : aRun tg P n C rest ls st S M = some o) : rest ≠ [] := by
  intro e
  subst e
  cases n <;> simp [aRun] at h
theorem o_bipush {z : Int} (h : -128 ≤ z ∧ z < 128) : (Int8.ofInt z).toInt32 = Int32.ofInt z := by
  apply Int32.toInt_inj.mp
  rw [Int8.toInt_toInt32, Int8.toInt_ofInt_of_le (by omega) (by omega), xI_of ⟨by omega, by omega⟩]
theorem o_sipush {z : Int} (h : -32768 ≤ z ∧ z < 32768) : (Int16.ofInt z).toInt32 = Int32.ofInt z := by
  apply Int32.toInt_inj.mp
  rw [Int16.toInt_toInt32, Int16.toInt_ofInt_of_le (by omega) (by omega), xI_of ⟨by omega, by omega⟩]
theorem fac {p : aV → Prop} {a : aV} {l : List aV} (h : ∀ v ∈ a :: l, p v) : p a ∧ ∀ v ∈ l, p v := List.forall_mem_cons.mp h
theorem fcc {p : aV → Prop} {a : aV} {l : List aV} (h1 : p a) (h2 : ∀ v ∈ l, p v) : ∀ v ∈ a :: l, p v := List.forall_mem_cons.mpr ⟨h1, h2⟩
theorem aSt_ok {N : Nat} {ls : List aV} {i : Nat} {v : aV} (h : ∀ w ∈ ls, sOk N w) (hv : sOk N v) : ∀ w ∈ aSt ls i v, sOk N w := by
  have hs : ∀ (l : List aV) (j : Nat) (x : aV), (∀ w ∈ l, sOk N w) → sOk N x → ∀ w ∈ l.set j x, sOk N w := fun l j x h1 h2 w hw => by
    rcases List.mem_or_eq_of_mem_set hw with q | q
    · exact h1 w q
    · rw [q]; exact h2
  unfold aSt
  split
  · exact hs _ _ _ h hv
  · split
    · exact hs _ _ _ (hs _ _ _ h trivial) hv
    · exact hs _ _ _ h hv
theorem aSt2_ok {N : Nat} {ls : List aV} {i : Nat} {z : Int} (h : ∀ w ∈ ls, sOk N w) (hv : xL z) : ∀ w ∈ aSt2 ls i z, sOk N w := by
  unfold aSt2
  intro w hw
  rcases List.mem_or_eq_of_mem_set hw with q | q
  · exact aSt_ok (v := aJ z) h hv w q
  · rw [q]; trivial
theorem ok_get {N : Nat} {ls : List aV} {i : Nat} {v : aV} (h : ∀ w ∈ ls, sOk N w) (hi : ls[i]? = some v) : sOk N v := h v (List.mem_of_getElem? hi)
/-- the text's instructions, said of the machine: a place in the walk for each -/
def sStr (wT : List Jvm.Cond) (XF : State → Prop) (sa bs : Nat) : Prop := ∀ (p : Program) (l : Launch) (e : Env) (R : Room) (s : State) (m : MethodId) (args : Array Value) (below : List Frame) (meth : Method) (c : Code) (H : Heap) (locs : List Loc) (cells slots : Nat) (Q : State → Prop) (cc : ByteArray) (pc idx : Nat) (ls : Array Slot) (rest : List Value),
  p.tables.exec = Jvm.exec → c.code = cc → c.maxLocals = ls.size → s.vm.findClass "TypeLock$Tokens" = some m.cls → (∀ w ∈ wT, w.before args s = true) → XF s → va_S (sA bs) s.heap H locs → 
    (decode cc pc = .ok (.ldc 66, 2) → W p l e R s m args below meth c H locs cells slots Q (F0 m (pc + 2) ls (.ref sa :: rest)) → W p l e R s m args below meth c H locs cells slots Q (F0 m pc ls rest)) ∧
    (4 ≤ R.frames → 150 ≤ R.locals → cells ≤ R.cells → slots ≤ R.slots → (rest.map fun v => v.category).sum ≤ 8 →
      (Cond.methodLink "TypeLock$Tokens" idx ⟨"java/lang/String", "length", "()I"⟩ ∈ wT → decode cc pc = .ok (.invokevirtual idx, 3) → (∀ locs1 : List Loc, va_S (sA bs) s.heap H locs1 → W p l e R s m args below meth c H locs1 cells slots Q (F0 m (pc + 3) ls (.int (Int32.ofInt (aTxt.length : Int)) :: rest))) → W p l e R s m args below meth c H locs cells slots Q (F0 m pc ls (.ref sa :: rest))) ∧
      ∀ j : Int, 0 ≤ j → j < (aTxt.length : Int) → Cond.methodLink "TypeLock$Tokens" idx ⟨"java/lang/String", "charAt", "(I)C"⟩ ∈ wT → decode cc pc = .ok (.invokevirtual idx, 3) → (∀ locs1 : List Loc, va_S (sA bs) s.heap H locs1 → W p l e R s m args below meth c H locs1 cells slots Q (F0 m (pc + 3) ls (.int (Int32.ofInt ((aTxt.getD j.toNat 0 : Nat) : Int)) :: rest))) → W p l e R s m args below meth c H locs cells slots Q (F0 m pc ls (.int (Int32.ofInt j) :: .ref sa :: rest)))
/-- the walk's statement at a run of n steps -/
def aWk (yN : Nat → MethodName) (yB : Nat → ByteArray) (yL : Nat → Nat) (yR : Nat → Option FieldType) (yF yO : Nat → Nat) (P : Nat → List aEnt) (wT : List Jvm.Cond) (XF : State → Prop) (tg : Nat → Nat → Nat) (cy : Nat → ClassId) (sa bs : Nat) (D : va_G) (cl : List vw_C) (n : Nat) : Prop :=
  ∀ (y : Nat) (rest : List aEnt) (ls st : List aV) (S : aSh) (M : aM) (o : aO), (∃ pre, P y = pre ++ rest) → aRun tg P n (P y) rest ls st S M = some o → (∀ v ∈ ls, sOk S.length v) → (∀ v ∈ st, sOk S.length v) →
      ∀ (p : Program) (l : Launch) (e : Env) (R : Room) (s : State) (m : MethodId) (args : Array Value) (below : List Frame) (meth : Method) (c : Code) (H : Heap) (locs : List Loc) (ads ads0 : List Nat) (lsM : Array Slot) (n0 s0 : Nat),
        sCx p s m args meth c (yN y) (yB y) (yL y) (yR y) wT XF → bs ≤ s.heap.size → R.frames = yF y → R.locals = yO y → R.cells = o.2.1.length - n0 → R.slots = sS o.2.1 - s0 → n0 ≤ S.length → s0 ≤ sS S →
        sIn tg cy sa bs D cl s H ads S M → va_S (sA bs) s.heap H locs → (∃ l2, ads = ads0 ++ l2) → sL ads sa ls (yL y) lsM →
        W p l e R s m args below meth c H locs (S.length - n0) (sS S - s0) (MQ below (sQ tg cy sa bs D cl ads0 o) args s (o.2.1.length - n0) (sS o.2.1 - s0) (sA bs)) (F0 m (aPc rest) lsM (st.map (sV ads sa)))
/-- a method's contract out of the walk -/
theorem aMet {n : Nat} (hW : aWk yN yB yL yR yF yO P wT XF tg cy sa bs D cl n) {z : Nat} (hz : tabOk tg yN yB yL yR yF yO P cl wT wN z) {as : List aV} {S : aSh} {M : aM} {o : aO} (hrun : aRun tg P n (P z) (P z) (aLoc as (yL z)) [] S M = some o)
    (hok : ∀ v ∈ as, sOk S.length v) (hlen : (aArg as).length ≤ yL z) (l : Launch) (ads : List Nat) :
    Met l (yN z) (Cond.code (yN z) (yB z) (yL z) (yR z) :: wT) { frames := yF z, cells := o.2.1.length - S.length, slots := sS o.2.1 - sS S, locals := yO z } (sPc XF tg cy sa bs D cl ads as S M) (sQ tg cy sa bs D cl ads o) (o.2.1.length - S.length) (sS o.2.1 - sS S) (sA bs) := by
  refine Met.ofW (cc := yB z) (maxL := yL z) (ret := yR z) hz.1.1 rfl ?_
  intro p e s m args below meth c s₁ B hml hv
  obtain ⟨rfl, hI, hnw⟩ := hv
  have hts := atoms_spec (ws := Cond.code (yN z) (yB z) (yL z) (yR z) :: wT) B.pre
  have hown : s.vm.findClass (yN z).cls = some m.cls := findClass_of_methodNamed B.named
  have hnm : meth.name = (yN z).name := (name_of_methodNamed B.named B.method).1
  have hL := sL_entry (ads := ads) (sa := sa) (n := yL z) hlen
  have K := hW z (P z) (aLoc as (yL z)) [] S M o ⟨[], rfl⟩ hrun (aLoc_ok hok) (fun _ h => by cases h) p l e
    { frames := yF z, cells := o.2.1.length - S.length, slots := sS o.2.1 - sS S, locals := yO z } s m (as.map (sV ads sa)).toArray below meth c s.heap [] ads ads _ S.length (sS S)
    ⟨B.exec, B.bytes, B.returns, hml, hown, fun w hw => hts w (List.mem_cons_of_mem _ hw), B.notSynchronized, hnm, hnw⟩ hI.2.2.2.2.2.1 rfl rfl rfl rfl (Nat.le_refl _) (Nat.le_refl _) hI va_S.rf ⟨[], (List.append_nil _).symm⟩ hL
  rw [lg_entry_eq]
  rw [Nat.sub_self, Nat.sub_self, hz.1.2.2.2.2] at K
  exact K
end WALK
