/-! the one String constant: what the JDK's own methods answer of it -/
section STRC
def zF : Nat → Prop := fun _ => False
def jTx : String := "x y wide high touch held push wood round frame block piece wedge north east south west enough give rule if or and not "
def zQ (r : Option Value) : Array Value → State → Outcome → State → Prop := fun _ st o t => o = .returned r ∧ t.heap = st.heap
theorem zq_call {p : Program} {l : Launch} {e : Env} {R : Room} {s : State} {m : MethodId} {args : Array Value} {below : List Frame} {meth : Method} {c : Code} {H : Heap} {locs : List Loc} {cells slots : Nat} {Q : State → Prop} {pc : Nat} {ls : Array Slot} {rest st0 st1 : List Value} {a : Array Value} {A0 : Nat → Prop} {H0 : Heap} {r : Option Value}
    (hr : va_Run p l e R s m args below meth c H locs cells slots 0 0 (F0 m pc ls st0) rest (zQ r a) zF) (hS : va_S A0 H0 H locs) (hst : r.toList ++ rest = st1)
    (kk : ∀ locs1 : List Loc, va_S A0 H0 H locs1 → W p l e R s m args below meth c H locs1 cells slots Q (F0 m (pc + 3) ls st1)) : W p l e R s m args below meth c H locs cells slots Q (F0 m pc ls st0) := by
  subst hst
  intro T hT X
  obtain ⟨v, st₀, t, T', L, h0, X', hL, e1, e2, ⟨hv, hh⟩, st⟩ := hr T hT X
  cases hv
  obtain ⟨t2, a1, b1⟩ := kk (locs ++ L) ⟨hS.1, hS.2.1, fun q hq => by
    rcases List.mem_append.mp hq with h | h
    · exact hS.2.2 q h
    · exact (hL q h).elim⟩ T' (by rw [e1, hh, h0]) X'
  exact ⟨t2, st t2 a1, b1⟩
/-- what is known of the String: its statics, its cell, its signs -/
def jS (A : Nat → Prop) (sa sv : Nat) (U : State) (H : Heap) : Prop := va_Z "java/lang/String" "COMPACT_STRINGS" "Z" (.int 1) A U H ∧ va_Zq "jdk/internal/util/Preconditions" "SIOOBE_FORMATTER" "Ljava/util/function/BiFunction;" A U H ∧ vk_S 1 [aTxt.length] [aTxt.map Int32.ofNat] (fun _ => sa) (fun _ => sv) A U H
theorem jS_moved {A : Nat → Prop} {sa sv : Nat} {u U : State} {H : Heap} (hvm : u.vm.Alike U.vm) (h : jS A sa sv u H) : jS A sa sv U H := ⟨va_Z.moved hvm h.1, va_Zq.moved hvm h.2.1, vk_S.moved hvm h.2.2⟩
theorem jS_kept {A : Nat → Prop} {sa sv : Nat} {U : State} {H H1 : Heap} (h : jS A sa sv U H) (hq : ∀ a : Nat, a < H.size → ¬ A a → H1[a]? = H[a]?) : jS A sa sv U H1 := ⟨h.1.kept hq, h.2.1.kept hq, h.2.2.kept hq⟩
theorem jS_narrow {A : Nat → Prop} {sa sv : Nat} {U : State} {H : Heap} (h : jS A sa sv U H) : jS zF sa sv U H := ⟨h.1.narrow (fun _ q => q.elim), h.2.1.narrow (fun _ q => q.elim), h.2.2.narrow (fun _ q => q.elim)⟩
theorem jS_cod {A : Nat → Prop} {sa sv : Nat} {U : State} {H : Heap} (h : jS A sa sv U H) : va_OF "java/lang/String" "coder" "B" (.int 0) sa A U H := (h.2.2.1 0 (by decide)).2.1
theorem jS_val {A : Nat → Prop} {sa sv : Nat} {U : State} {H : Heap} (h : jS A sa sv U H) : va_OF "java/lang/String" "value" "[B" (.ref sv) sa A U H := (h.2.2.1 0 (by decide)).2.2.1
theorem jS_T {A : Nat → Prop} {sa sv : Nat} {U : State} {H : Heap} (h : jS A sa sv U H) : va_T .byte sv aTxt.length (fun j => .int ((aTxt.map Int32.ofNat).getD j 0)) A U H := (h.2.2.1 0 (by decide)).2.2.2
theorem jS_recv {sa sv : Nat} {s : State} {A : Nat → Prop} {H : Heap} {locs : List Loc} (h : jS A sa sv s s.heap) (hS : va_S A s.heap H locs) : ∃ cell : Cell, H[sa]? = some cell ∧ cell.vm.isStatics = false ∧ s.vm.findClass "java/lang/String" = some cell.cls := vk_recv (i := 0) h.2.2 (by decide) hS
theorem jS_blind {sa sv : Nat} {av : List Value} : FrameBlind (va_Pc av (fun U => jS zF sa sv U U.heap)) := fun a U g mk q => ⟨q.1, jS_moved (u := U) (U := U.calling g mk a) (Vm.Alike.refl U.vm) q.2⟩
theorem jS_next {sa sv : Nat} {s U : State} {H : Heap} {locs : List Loc} {A : Nat → Prop} (h : jS A sa sv s s.heap) (hS : va_S A s.heap H locs) (hU : U.heap = H) (hW : s.WarmedH U.vm) : jS A sa sv U U.heap := by
  rw [hU]
  exact jS_moved hW.alike (jS_kept h hS.2.1)
theorem jlen : aTxt.length < 1000 ∧ 0 < aTxt.length := by decide +kernel
theorem jchr : ∀ k, k < aTxt.length → ((((aTxt.map Int32.ofNat).getD k 0 &&& 255).toUInt32 % 65536).toInt32 = Int32.ofInt ((aTxt.getD k 0 : Nat) : Int) ∧ narrow .char (.int (Int32.ofInt ((aTxt.getD k 0 : Nat) : Int))) = .int (Int32.ofInt ((aTxt.getD k 0 : Nat) : Int))) := by decide +kernel
theorem goodIn_wT {ws : List Cond} (hm : ∀ w ∈ ws, w ∈ wT) : GoodIn wT ws := fun w hw => ⟨hm w hw, good_of_word (List.mem_filter.mp (hm w hw)).2⟩
abbrev zy_cod : MethodName := ⟨"java/lang/String", "coder", "()B"⟩
def zw_cod : List Jvm.Cond := [(Jvm.Cond.code ({ cls := "java/lang/String", name := "coder", desc := "()B" } : Jvm.MethodName) prog_18_method_152_code (1 : Nat) (Option.some Jvm.ClassFile.FieldType.byte)), (Jvm.Cond.fieldLink "java/lang/String" (38 : Nat) "java/lang/String" "COMPACT_STRINGS" "Z"), (Jvm.Cond.fieldLink "java/lang/String" (15 : Nat) "java/lang/String" "coder" "B")]
theorem zd_cod_0 : decode prog_18_method_152_code 0 = .ok (.getstatic 38, 3) := by decide +kernel
theorem zd_cod_3 : decode prog_18_method_152_code 3 = .ok (.ifCond .eq 10, 3) := by decide +kernel
theorem zd_cod_6 : decode prog_18_method_152_code 6 = .ok (.aload_n 0, 1) := by decide +kernel
theorem zd_cod_7 : decode prog_18_method_152_code 7 = .ok (.getfield 15, 3) := by decide +kernel
theorem zd_cod_10 : decode prog_18_method_152_code 10 = .ok (.goto 4, 3) := by decide +kernel
theorem zd_cod_13 : decode prog_18_method_152_code 13 = .ok (.iconst 1, 1) := by decide +kernel
theorem zd_cod_14 : decode prog_18_method_152_code 14 = .ok (.ireturn, 1) := by decide +kernel
abbrev zy_lat : MethodName := ⟨"java/lang/String", "isLatin1", "()Z"⟩
def zw_lat : List Jvm.Cond := [(Jvm.Cond.code ({ cls := "java/lang/String", name := "isLatin1", desc := "()Z" } : Jvm.MethodName) prog_18_method_154_code (1 : Nat) (Option.some Jvm.ClassFile.FieldType.boolean)), (Jvm.Cond.fieldLink "java/lang/String" (38 : Nat) "java/lang/String" "COMPACT_STRINGS" "Z"), (Jvm.Cond.fieldLink "java/lang/String" (15 : Nat) "java/lang/String" "coder" "B")]
theorem zd_lat_0 : decode prog_18_method_154_code 0 = .ok (.getstatic 38, 3) := by decide +kernel
theorem zd_lat_3 : decode prog_18_method_154_code 3 = .ok (.ifCond .eq 14, 3) := by decide +kernel
theorem zd_lat_6 : decode prog_18_method_154_code 6 = .ok (.aload_n 0, 1) := by decide +kernel
theorem zd_lat_7 : decode prog_18_method_154_code 7 = .ok (.getfield 15, 3) := by decide +kernel
theorem zd_lat_10 : decode prog_18_method_154_code 10 = .ok (.ifCond .ne 7, 3) := by decide +kernel
theorem zd_lat_13 : decode prog_18_method_154_code 13 = .ok (.iconst 1, 1) := by decide +kernel
theorem zd_lat_14 : decode prog_18_method_154_code 14 = .ok (.goto 4, 3) := by decide +kernel
theorem zd_lat_17 : decode prog_18_method_154_code 17 = .ok (.iconst 0, 1) := by decide +kernel
theorem zd_lat_18 : decode prog_18_method_154_code 18 = .ok (.ireturn, 1) := by decide +kernel
abbrev zy_len : MethodName := ⟨"java/lang/String", "length", "()I"⟩
def zw_len : List Jvm.Cond := [(Jvm.Cond.code ({ cls := "java/lang/String", name := "length", desc := "()I" } : Jvm.MethodName) prog_18_method_54_code (1 : Nat) (Option.some Jvm.ClassFile.FieldType.int)), (Jvm.Cond.fieldLink "java/lang/String" (9 : Nat) "java/lang/String" "value" "[B"), (Jvm.Cond.methodLink "java/lang/String" (335 : Nat) ({ cls := "java/lang/String", name := "coder", desc := "()B" } : Jvm.MethodName)), (Jvm.Cond.instanceMethod ({ cls := "java/lang/String", name := "coder", desc := "()B" } : Jvm.MethodName)), (Jvm.Cond.selects "java/lang/String" ({ cls := "java/lang/String", name := "coder", desc := "()B" } : Jvm.MethodName) ({ cls := "java/lang/String", name := "coder", desc := "()B" } : Jvm.MethodName)), (Jvm.Cond.initialized "java/lang/String"), (Jvm.Cond.code ({ cls := "java/lang/String", name := "coder", desc := "()B" } : Jvm.MethodName) prog_18_method_152_code (1 : Nat) (Option.some Jvm.ClassFile.FieldType.byte)), (Jvm.Cond.fieldLink "java/lang/String" (38 : Nat) "java/lang/String" "COMPACT_STRINGS" "Z"), (Jvm.Cond.fieldLink "java/lang/String" (15 : Nat) "java/lang/String" "coder" "B")]
theorem zd_len_0 : decode prog_18_method_54_code 0 = .ok (.aload_n 0, 1) := by decide +kernel
theorem zd_len_1 : decode prog_18_method_54_code 1 = .ok (.getfield 9, 3) := by decide +kernel
theorem zd_len_4 : decode prog_18_method_54_code 4 = .ok (.arraylength, 1) := by decide +kernel
theorem zd_len_5 : decode prog_18_method_54_code 5 = .ok (.aload_n 0, 1) := by decide +kernel
theorem zd_len_6 : decode prog_18_method_54_code 6 = .ok (.invokevirtual 335, 3) := by decide +kernel
theorem zd_len_9 : decode prog_18_method_54_code 9 = .ok (.ishr, 1) := by decide +kernel
theorem zd_len_10 : decode prog_18_method_54_code 10 = .ok (.ireturn, 1) := by decide +kernel
abbrev zy_pre : MethodName := ⟨"jdk/internal/util/Preconditions", "checkIndex", "(IILjava/util/function/BiFunction;)I"⟩
def zw_pre : List Jvm.Cond := [(Jvm.Cond.code ({ cls := "jdk/internal/util/Preconditions", name := "checkIndex", desc := "(IILjava/util/function/BiFunction;)I" } : Jvm.MethodName) prog_23_method_11_code (3 : Nat) (Option.some Jvm.ClassFile.FieldType.int))]
theorem zd_pre_0 : decode prog_23_method_11_code 0 = .ok (.iload_n 0, 1) := by decide +kernel
theorem zd_pre_1 : decode prog_23_method_11_code 1 = .ok (.ifCond .lt 8, 3) := by decide +kernel
theorem zd_pre_4 : decode prog_23_method_11_code 4 = .ok (.iload_n 0, 1) := by decide +kernel
theorem zd_pre_5 : decode prog_23_method_11_code 5 = .ok (.iload_n 1, 1) := by decide +kernel
theorem zd_pre_6 : decode prog_23_method_11_code 6 = .ok (.if_icmp .lt 10, 3) := by decide +kernel
theorem zd_pre_9 : decode prog_23_method_11_code 9 = .ok (.aload_n 2, 1) := by decide +kernel
theorem zd_pre_10 : decode prog_23_method_11_code 10 = .ok (.iload_n 0, 1) := by decide +kernel
theorem zd_pre_11 : decode prog_23_method_11_code 11 = .ok (.iload_n 1, 1) := by decide +kernel
theorem zd_pre_12 : decode prog_23_method_11_code 12 = .ok (.invokestatic 95, 3) := by decide +kernel
theorem zd_pre_15 : decode prog_23_method_11_code 15 = .ok (.athrow, 1) := by decide +kernel
theorem zd_pre_16 : decode prog_23_method_11_code 16 = .ok (.iload_n 0, 1) := by decide +kernel
theorem zd_pre_17 : decode prog_23_method_11_code 17 = .ok (.ireturn, 1) := by decide +kernel
abbrev zy_chk : MethodName := ⟨"java/lang/String", "checkIndex", "(II)V"⟩
def zw_chk : List Jvm.Cond := [(Jvm.Cond.code ({ cls := "java/lang/String", name := "checkIndex", desc := "(II)V" } : Jvm.MethodName) prog_18_method_155_code (2 : Nat) (Option.none : Option Jvm.ClassFile.FieldType)), (Jvm.Cond.fieldLink "java/lang/String" (1053 : Nat) "jdk/internal/util/Preconditions" "SIOOBE_FORMATTER" "Ljava/util/function/BiFunction;"), (Jvm.Cond.methodLink "java/lang/String" (1059 : Nat) ({ cls := "jdk/internal/util/Preconditions", name := "checkIndex", desc := "(IILjava/util/function/BiFunction;)I" } : Jvm.MethodName)), (Jvm.Cond.static ({ cls := "jdk/internal/util/Preconditions", name := "checkIndex", desc := "(IILjava/util/function/BiFunction;)I" } : Jvm.MethodName)), (Jvm.Cond.initialized "jdk/internal/util/Preconditions"), (Jvm.Cond.code ({ cls := "jdk/internal/util/Preconditions", name := "checkIndex", desc := "(IILjava/util/function/BiFunction;)I" } : Jvm.MethodName) prog_23_method_11_code (3 : Nat) (Option.some Jvm.ClassFile.FieldType.int))]
theorem zd_chk_0 : decode prog_18_method_155_code 0 = .ok (.iload_n 0, 1) := by decide +kernel
theorem zd_chk_1 : decode prog_18_method_155_code 1 = .ok (.iload_n 1, 1) := by decide +kernel
theorem zd_chk_2 : decode prog_18_method_155_code 2 = .ok (.getstatic 1053, 3) := by decide +kernel
theorem zd_chk_5 : decode prog_18_method_155_code 5 = .ok (.invokestatic 1059, 3) := by decide +kernel
theorem zd_chk_8 : decode prog_18_method_155_code 8 = .ok (.pop, 1) := by decide +kernel
theorem zd_chk_9 : decode prog_18_method_155_code 9 = .ok (.return_, 1) := by decide +kernel
abbrev zy_lca : MethodName := ⟨"java/lang/StringLatin1", "charAt", "([BI)C"⟩
def zw_lca : List Jvm.Cond := [(Jvm.Cond.code ({ cls := "java/lang/StringLatin1", name := "charAt", desc := "([BI)C" } : Jvm.MethodName) prog_19_method_2_code (2 : Nat) (Option.some Jvm.ClassFile.FieldType.char)), (Jvm.Cond.methodLink "java/lang/StringLatin1" (9 : Nat) ({ cls := "java/lang/String", name := "checkIndex", desc := "(II)V" } : Jvm.MethodName)), (Jvm.Cond.static ({ cls := "java/lang/String", name := "checkIndex", desc := "(II)V" } : Jvm.MethodName)), (Jvm.Cond.initialized "java/lang/String"), (Jvm.Cond.code ({ cls := "java/lang/String", name := "checkIndex", desc := "(II)V" } : Jvm.MethodName) prog_18_method_155_code (2 : Nat) (Option.none : Option Jvm.ClassFile.FieldType)), (Jvm.Cond.fieldLink "java/lang/String" (1053 : Nat) "jdk/internal/util/Preconditions" "SIOOBE_FORMATTER" "Ljava/util/function/BiFunction;"), (Jvm.Cond.methodLink "java/lang/String" (1059 : Nat) ({ cls := "jdk/internal/util/Preconditions", name := "checkIndex", desc := "(IILjava/util/function/BiFunction;)I" } : Jvm.MethodName)), (Jvm.Cond.static ({ cls := "jdk/internal/util/Preconditions", name := "checkIndex", desc := "(IILjava/util/function/BiFunction;)I" } : Jvm.MethodName)), (Jvm.Cond.initialized "jdk/internal/util/Preconditions"), (Jvm.Cond.code ({ cls := "jdk/internal/util/Preconditions", name := "checkIndex", desc := "(IILjava/util/function/BiFunction;)I" } : Jvm.MethodName) prog_23_method_11_code (3 : Nat) (Option.some Jvm.ClassFile.FieldType.int))]
theorem zd_lca_0 : decode prog_19_method_2_code 0 = .ok (.iload_n 1, 1) := by decide +kernel
theorem zd_lca_1 : decode prog_19_method_2_code 1 = .ok (.aload_n 0, 1) := by decide +kernel
theorem zd_lca_2 : decode prog_19_method_2_code 2 = .ok (.arraylength, 1) := by decide +kernel
theorem zd_lca_3 : decode prog_19_method_2_code 3 = .ok (.invokestatic 9, 3) := by decide +kernel
theorem zd_lca_6 : decode prog_19_method_2_code 6 = .ok (.aload_n 0, 1) := by decide +kernel
theorem zd_lca_7 : decode prog_19_method_2_code 7 = .ok (.iload_n 1, 1) := by decide +kernel
theorem zd_lca_8 : decode prog_19_method_2_code 8 = .ok (.baload, 1) := by decide +kernel
theorem zd_lca_9 : decode prog_19_method_2_code 9 = .ok (.sipush 255, 3) := by decide +kernel
theorem zd_lca_12 : decode prog_19_method_2_code 12 = .ok (.iand, 1) := by decide +kernel
theorem zd_lca_13 : decode prog_19_method_2_code 13 = .ok (.i2c, 1) := by decide +kernel
theorem zd_lca_14 : decode prog_19_method_2_code 14 = .ok (.ireturn, 1) := by decide +kernel
abbrev zy_cat : MethodName := ⟨"java/lang/String", "charAt", "(I)C"⟩
def zw_cat : List Jvm.Cond := [(Jvm.Cond.code ({ cls := "java/lang/String", name := "charAt", desc := "(I)C" } : Jvm.MethodName) prog_18_method_56_code (2 : Nat) (Option.some Jvm.ClassFile.FieldType.char)), (Jvm.Cond.methodLink "java/lang/String" (492 : Nat) ({ cls := "java/lang/String", name := "isLatin1", desc := "()Z" } : Jvm.MethodName)), (Jvm.Cond.instanceMethod ({ cls := "java/lang/String", name := "isLatin1", desc := "()Z" } : Jvm.MethodName)), (Jvm.Cond.selects "java/lang/String" ({ cls := "java/lang/String", name := "isLatin1", desc := "()Z" } : Jvm.MethodName) ({ cls := "java/lang/String", name := "isLatin1", desc := "()Z" } : Jvm.MethodName)), (Jvm.Cond.initialized "java/lang/String"), (Jvm.Cond.code ({ cls := "java/lang/String", name := "isLatin1", desc := "()Z" } : Jvm.MethodName) prog_18_method_154_code (1 : Nat) (Option.some Jvm.ClassFile.FieldType.boolean)), (Jvm.Cond.fieldLink "java/lang/String" (38 : Nat) "java/lang/String" "COMPACT_STRINGS" "Z"), (Jvm.Cond.fieldLink "java/lang/String" (15 : Nat) "java/lang/String" "coder" "B"), (Jvm.Cond.fieldLink "java/lang/String" (9 : Nat) "java/lang/String" "value" "[B"), (Jvm.Cond.methodLink "java/lang/String" (495 : Nat) ({ cls := "java/lang/StringLatin1", name := "charAt", desc := "([BI)C" } : Jvm.MethodName)), (Jvm.Cond.static ({ cls := "java/lang/StringLatin1", name := "charAt", desc := "([BI)C" } : Jvm.MethodName)), (Jvm.Cond.initialized "java/lang/StringLatin1"), (Jvm.Cond.code ({ cls := "java/lang/StringLatin1", name := "charAt", desc := "([BI)C" } : Jvm.MethodName) prog_19_method_2_code (2 : Nat) (Option.some Jvm.ClassFile.FieldType.char)), (Jvm.Cond.methodLink "java/lang/StringLatin1" (9 : Nat) ({ cls := "java/lang/String", name := "checkIndex", desc := "(II)V" } : Jvm.MethodName)), (Jvm.Cond.static ({ cls := "java/lang/String", name := "checkIndex", desc := "(II)V" } : Jvm.MethodName)), (Jvm.Cond.code ({ cls := "java/lang/String", name := "checkIndex", desc := "(II)V" } : Jvm.MethodName) prog_18_method_155_code (2 : Nat) (Option.none : Option Jvm.ClassFile.FieldType)), (Jvm.Cond.fieldLink "java/lang/String" (1053 : Nat) "jdk/internal/util/Preconditions" "SIOOBE_FORMATTER" "Ljava/util/function/BiFunction;"), (Jvm.Cond.methodLink "java/lang/String" (1059 : Nat) ({ cls := "jdk/internal/util/Preconditions", name := "checkIndex", desc := "(IILjava/util/function/BiFunction;)I" } : Jvm.MethodName)), (Jvm.Cond.static ({ cls := "jdk/internal/util/Preconditions", name := "checkIndex", desc := "(IILjava/util/function/BiFunction;)I" } : Jvm.MethodName)), (Jvm.Cond.initialized "jdk/internal/util/Preconditions"), (Jvm.Cond.code ({ cls := "jdk/internal/util/Preconditions", name := "checkIndex", desc := "(IILjava/util/function/BiFunction;)I" } : Jvm.MethodName) prog_23_method_11_code (3 : Nat) (Option.some Jvm.ClassFile.FieldType.int))]
theorem zd_cat_0 : decode prog_18_method_56_code 0 = .ok (.aload_n 0, 1) := by decide +kernel
theorem zd_cat_1 : decode prog_18_method_56_code 1 = .ok (.invokevirtual 492, 3) := by decide +kernel
theorem zd_cat_4 : decode prog_18_method_56_code 4 = .ok (.ifCond .eq 12, 3) := by decide +kernel
theorem zd_cat_7 : decode prog_18_method_56_code 7 = .ok (.aload_n 0, 1) := by decide +kernel
theorem zd_cat_8 : decode prog_18_method_56_code 8 = .ok (.getfield 9, 3) := by decide +kernel
theorem zd_cat_11 : decode prog_18_method_56_code 11 = .ok (.iload_n 1, 1) := by decide +kernel
theorem zd_cat_12 : decode prog_18_method_56_code 12 = .ok (.invokestatic 495, 3) := by decide +kernel
theorem zd_cat_15 : decode prog_18_method_56_code 15 = .ok (.ireturn, 1) := by decide +kernel
theorem zd_cat_16 : decode prog_18_method_56_code 16 = .ok (.aload_n 0, 1) := by decide +kernel
theorem zd_cat_17 : decode prog_18_method_56_code 17 = .ok (.getfield 9, 3) := by decide +kernel
theorem zd_cat_20 : decode prog_18_method_56_code 20 = .ok (.iload_n 1, 1) := by decide +kernel
theorem zd_cat_21 : decode prog_18_method_56_code 21 = .ok (.invokestatic 498, 3) := by decide +kernel
theorem zd_cat_24 : decode prog_18_method_56_code 24 = .ok (.ireturn, 1) := by decide +kernel
theorem zg_len_cod : GoodIn zw_len (wsV "java/lang/String" 335 "java/lang/String" zy_cod zw_cod) := goodIn_sub (by decide +kernel) (by decide +kernel)
theorem zg_cat_lat : GoodIn zw_cat (wsV "java/lang/String" 492 "java/lang/String" zy_lat zw_lat) := goodIn_sub (by decide +kernel) (by decide +kernel)
theorem zg_cat_lca : GoodIn zw_cat (va_wsS "java/lang/String" 495 zy_lca zw_lca) := goodIn_sub (by decide +kernel) (by decide +kernel)
theorem zg_lca_chk : GoodIn zw_lca (va_wsS "java/lang/StringLatin1" 9 zy_chk zw_chk) := goodIn_sub (by decide +kernel) (by decide +kernel)
theorem zg_chk_pre : GoodIn zw_chk (va_wsS "java/lang/String" 1059 zy_pre zw_pre) := goodIn_sub (by decide +kernel) (by decide +kernel)
set_option maxHeartbeats 4000000 in
set_option maxRecDepth 100000 in
theorem zc_cod (l : Launch) {sa sv : Nat} : Met l zy_cod zw_cod ({ frames := 0, cells := 0, slots := 0, locals := 0 }) (va_Pc [.ref sa] (fun U => jS zF sa sv U U.heap)) (zQ (some (.int (0)))) 0 0 zF := by
  refine Met.ofW (cc := prog_18_method_152_code) (maxL := 1) (ret := (some .byte)) (by decide) rfl ?_
  intro p e s m args below meth c s₁ B hml hv
  obtain ⟨rfl, hj⟩ := hv
  have hx := B.exec
  have hb := B.bytes
  have hr := B.returns
  have hts := atoms_spec (ws := zw_cod) B.pre
  have hown : s.vm.findClass "java/lang/String" = some m.cls := findClass_of_methodNamed B.named
  have hlocks := B.notSynchronized
  have hS : va_S zF s.heap s.heap [] := va_S.rf
  have hl := lv_entry ([.ref sa]) (n := 1) (Nat.le_of_ble_eq_true rfl)
  rw [lg_entry_eq]
  generalize (lg_sl ([.ref sa]) ++ List.replicate (1 - (lg_sl ([.ref sa])).length) Slot.unset).toArray = ls at hl ⊢
  have hl : lv_has ls 1 [(0, .ref sa)] := hl
  refine va_gets hx hb hj.1 hS hown (hts (.fieldLink "java/lang/String" 38 "java/lang/String" "COMPACT_STRINGS" "Z") (by decide +kernel)) (fun _ h => h) zd_cod_0 ?_
  refine lv_if_eq hx hb (tgt := 13) zd_cod_3 rfl (fun h => absurd h (by decide)) (fun _ => ?_)
  refine lv_aload_n hx hb zd_cod_6 rfl (lv_at hl 0 rfl) ?_
  refine vk_getf hx hb (jS_cod hj) hS hown (hts (.fieldLink "java/lang/String" 15 "java/lang/String" "coder" "B") (by decide +kernel)) (fun _ h => h) zd_cod_7 ?_
  refine lv_goto hx hb (tgt := 14) zd_cod_10 rfl ?_
  exact W.zret (v := 0) (ty := .byte) hx hb hr (by decide) (fun t ht hW => ⟨rfl, ht⟩) hS.2.2 zd_cod_14
set_option maxHeartbeats 4000000 in
set_option maxRecDepth 100000 in
theorem zc_lat (l : Launch) {sa sv : Nat} : Met l zy_lat zw_lat ({ frames := 0, cells := 0, slots := 0, locals := 0 }) (va_Pc [.ref sa] (fun U => jS zF sa sv U U.heap)) (zQ (some (.int (1)))) 0 0 zF := by
  refine Met.ofW (cc := prog_18_method_154_code) (maxL := 1) (ret := (some .boolean)) (by decide) rfl ?_
  intro p e s m args below meth c s₁ B hml hv
  obtain ⟨rfl, hj⟩ := hv
  have hx := B.exec
  have hb := B.bytes
  have hr := B.returns
  have hts := atoms_spec (ws := zw_lat) B.pre
  have hown : s.vm.findClass "java/lang/String" = some m.cls := findClass_of_methodNamed B.named
  have hlocks := B.notSynchronized
  have hS : va_S zF s.heap s.heap [] := va_S.rf
  have hl := lv_entry ([.ref sa]) (n := 1) (Nat.le_of_ble_eq_true rfl)
  rw [lg_entry_eq]
  generalize (lg_sl ([.ref sa]) ++ List.replicate (1 - (lg_sl ([.ref sa])).length) Slot.unset).toArray = ls at hl ⊢
  have hl : lv_has ls 1 [(0, .ref sa)] := hl
  refine va_gets hx hb hj.1 hS hown (hts (.fieldLink "java/lang/String" 38 "java/lang/String" "COMPACT_STRINGS" "Z") (by decide +kernel)) (fun _ h => h) zd_lat_0 ?_
  refine lv_if_eq hx hb (tgt := 17) zd_lat_3 rfl (fun h => absurd h (by decide)) (fun _ => ?_)
  refine lv_aload_n hx hb zd_lat_6 rfl (lv_at hl 0 rfl) ?_
  refine vk_getf hx hb (jS_cod hj) hS hown (hts (.fieldLink "java/lang/String" 15 "java/lang/String" "coder" "B") (by decide +kernel)) (fun _ h => h) zd_lat_7 ?_
  refine lv_if_ne hx hb (tgt := 17) zd_lat_10 rfl (fun h => absurd rfl h) (fun _ => ?_)
  refine lv_iconst hx hb (v := 1) zd_lat_13 rfl ?_
  refine lv_goto hx hb (tgt := 18) zd_lat_14 rfl ?_
  exact W.zret (v := 1) (ty := .boolean) hx hb hr (by decide) (fun t ht hW => ⟨rfl, ht⟩) hS.2.2 zd_lat_18
set_option maxHeartbeats 4000000 in
set_option maxRecDepth 100000 in
theorem zc_len (l : Launch) {sa sv : Nat} : Met l zy_len zw_len ({ frames := 1, cells := 0, slots := 0, locals := 20 }) (va_Pc [.ref sa] (fun U => jS zF sa sv U U.heap)) (zQ (some (.int (Int32.ofInt (aTxt.length : Int))))) 0 0 zF := by
  refine Met.ofW (cc := prog_18_method_54_code) (maxL := 1) (ret := (some .int)) (by decide) rfl ?_
  intro p e s m args below meth c s₁ B hml hv
  obtain ⟨rfl, hj⟩ := hv
  have hx := B.exec
  have hb := B.bytes
  have hr := B.returns
  have hts := atoms_spec (ws := zw_len) B.pre
  have hown : s.vm.findClass "java/lang/String" = some m.cls := findClass_of_methodNamed B.named
  have hlocks := B.notSynchronized
  have hS : va_S zF s.heap s.heap [] := va_S.rf
  have hl := lv_entry ([.ref sa]) (n := 1) (Nat.le_of_ble_eq_true rfl)
  rw [lg_entry_eq]
  generalize (lg_sl ([.ref sa]) ++ List.replicate (1 - (lg_sl ([.ref sa])).length) Slot.unset).toArray = ls at hl ⊢
  have hl : lv_has ls 1 [(0, .ref sa)] := hl
  refine lv_aload_n hx hb zd_len_0 rfl (lv_at hl 0 rfl) ?_
  refine vk_getf hx hb (jS_val hj) hS hown (hts (.fieldLink "java/lang/String" 9 "java/lang/String" "value" "[B") (by decide +kernel)) (fun _ h => h) zd_len_1 ?_
  refine va_tlen hx hb (jS_T hj) hS (v := Int32.ofInt (aTxt.length : Int)) (o_nat _) zd_len_4 ?_
  refine lv_aload_n hx hb zd_len_5 rfl (lv_at hl 0 rfl) ?_
  refine zq_call (va_runV (As := []) (rest := [.int (Int32.ofInt (aTxt.length : Int))]) ⟨hx, hb, hml, hown, hts⟩ (zc_cod l (sa := sa) (sv := sv)) (cwV 0 hts zg_len_cod rfl rfl rfl (by decide +kernel) ⟨Nat.le_of_ble_eq_true rfl, Nat.le_of_ble_eq_true rfl⟩) ⟨jS_blind, jS_recv hj hS, fun U hU hW => ⟨rfl, jS_next hj hS hU hW⟩⟩ rfl rfl hl.1 rfl (lv_room (Nat.le_of_ble_eq_true rfl)) zd_len_6 ⟨(Nat.zero_le _), (Nat.zero_le _)⟩) hS (st1 := [.int 0, .int (Int32.ofInt (aTxt.length : Int))]) rfl (fun locs1 hS => ?_)
  refine lv_ishr hx hb zd_len_9 ?_
  refine W.eq (g2 := F0 m 10 ls [.int (Int32.ofInt (aTxt.length : Int))]) (by rw [(by decide +kernel : Int32.ofInt (aTxt.length : Int) >>> (0 &&& 31) = Int32.ofInt (aTxt.length : Int))]) ?_
  exact W.iret (v := Int32.ofInt (aTxt.length : Int)) hx hb hr (fun t ht hW => ⟨rfl, ht⟩) hS.2.2 zd_len_10
set_option maxHeartbeats 4000000 in
set_option maxRecDepth 100000 in
theorem zc_pre (l : Launch) {sa sv : Nat} {i n : Int32} {fv : Value} (hfv : fv = .null ∨ ∃ t, fv = .ref t) (hi : ¬ i < 0) (hn : i < n) : Met l zy_pre zw_pre ({ frames := 0, cells := 0, slots := 0, locals := 0 }) (va_Pc [.int i, .int n, fv] (fun U => jS zF sa sv U U.heap)) (zQ (some (.int (i)))) 0 0 zF := by
  rcases hfv with rfl | ⟨t0, rfl⟩
  · refine Met.ofW (cc := prog_23_method_11_code) (maxL := 3) (ret := (some .int)) (by decide) rfl ?_
    intro p e s m args below meth c s₁ B hml hv
    obtain ⟨rfl, hj⟩ := hv
    have hx := B.exec
    have hb := B.bytes
    have hr := B.returns
    have hts := atoms_spec (ws := zw_pre) B.pre
    have hown : s.vm.findClass "jdk/internal/util/Preconditions" = some m.cls := findClass_of_methodNamed B.named
    have hlocks := B.notSynchronized
    have hS : va_S zF s.heap s.heap [] := va_S.rf
    have hl := lv_entry ([.int i, .int n, .null]) (n := 3) (Nat.le_of_ble_eq_true rfl)
    rw [lg_entry_eq]
    generalize (lg_sl ([.int i, .int n, .null]) ++ List.replicate (3 - (lg_sl ([.int i, .int n, .null])).length) Slot.unset).toArray = ls at hl ⊢
    have hl : lv_has ls 3 [(0, .int i), (1, .int n), (2, .null)] := hl
    refine lv_iload_n hx hb zd_pre_0 rfl (lv_at hl 0 rfl) ?_
    refine lv_if_lt hx hb (tgt := 9) zd_pre_1 rfl (fun h => absurd h hi) (fun _ => ?_)
    refine lv_iload_n hx hb zd_pre_4 rfl (lv_at hl 0 rfl) ?_
    refine lv_iload_n hx hb zd_pre_5 rfl (lv_at hl 1 rfl) ?_
    refine lv_icmp_lt hx hb (tgt := 16) zd_pre_6 rfl (fun _ => ?_) (fun h => absurd hn h)
    refine lv_iload_n hx hb zd_pre_16 rfl (lv_at hl 0 rfl) ?_
    exact W.iret (v := i) hx hb hr (fun t ht hW => ⟨rfl, ht⟩) hS.2.2 zd_pre_17
  · refine Met.ofW (cc := prog_23_method_11_code) (maxL := 3) (ret := (some .int)) (by decide) rfl ?_
    intro p e s m args below meth c s₁ B hml hv
    obtain ⟨rfl, hj⟩ := hv
    have hx := B.exec
    have hb := B.bytes
    have hr := B.returns
    have hts := atoms_spec (ws := zw_pre) B.pre
    have hown : s.vm.findClass "jdk/internal/util/Preconditions" = some m.cls := findClass_of_methodNamed B.named
    have hlocks := B.notSynchronized
    have hS : va_S zF s.heap s.heap [] := va_S.rf
    have hl := lv_entry ([.int i, .int n, .ref t0]) (n := 3) (Nat.le_of_ble_eq_true rfl)
    rw [lg_entry_eq]
    generalize (lg_sl ([.int i, .int n, .ref t0]) ++ List.replicate (3 - (lg_sl ([.int i, .int n, .ref t0])).length) Slot.unset).toArray = ls at hl ⊢
    have hl : lv_has ls 3 [(0, .int i), (1, .int n), (2, .ref t0)] := hl
    refine lv_iload_n hx hb zd_pre_0 rfl (lv_at hl 0 rfl) ?_
    refine lv_if_lt hx hb (tgt := 9) zd_pre_1 rfl (fun h => absurd h hi) (fun _ => ?_)
    refine lv_iload_n hx hb zd_pre_4 rfl (lv_at hl 0 rfl) ?_
    refine lv_iload_n hx hb zd_pre_5 rfl (lv_at hl 1 rfl) ?_
    refine lv_icmp_lt hx hb (tgt := 16) zd_pre_6 rfl (fun _ => ?_) (fun h => absurd hn h)
    refine lv_iload_n hx hb zd_pre_16 rfl (lv_at hl 0 rfl) ?_
    exact W.iret (v := i) hx hb hr (fun t ht hW => ⟨rfl, ht⟩) hS.2.2 zd_pre_17
set_option maxHeartbeats 4000000 in
set_option maxRecDepth 100000 in
theorem zc_chk (l : Launch) {sa sv : Nat} {i n : Int32} (hi : ¬ i < 0) (hn : i < n) : Met l zy_chk zw_chk ({ frames := 1, cells := 0, slots := 0, locals := 22 }) (va_Pc [.int i, .int n] (fun U => jS zF sa sv U U.heap)) (zQ none) 0 0 zF := by
  refine Met.ofW (cc := prog_18_method_155_code) (maxL := 2) (ret := (none)) (by decide) rfl ?_
  intro p e s m args below meth c s₁ B hml hv
  obtain ⟨rfl, hj⟩ := hv
  have hx := B.exec
  have hb := B.bytes
  have hr := B.returns
  have hts := atoms_spec (ws := zw_chk) B.pre
  have hown : s.vm.findClass "java/lang/String" = some m.cls := findClass_of_methodNamed B.named
  have hlocks := B.notSynchronized
  have hS : va_S zF s.heap s.heap [] := va_S.rf
  have hl := lv_entry ([.int i, .int n]) (n := 2) (Nat.le_of_ble_eq_true rfl)
  rw [lg_entry_eq]
  generalize (lg_sl ([.int i, .int n]) ++ List.replicate (2 - (lg_sl ([.int i, .int n])).length) Slot.unset).toArray = ls at hl ⊢
  have hl : lv_has ls 2 [(0, .int i), (1, .int n)] := hl
  refine lv_iload_n hx hb zd_chk_0 rfl (lv_at hl 0 rfl) ?_
  refine lv_iload_n hx hb zd_chk_1 rfl (lv_at hl 1 rfl) ?_
  obtain ⟨fv, hfv, hZ⟩ : ∃ fv : Value, (fv = .null ∨ ∃ t, fv = .ref t) ∧ va_Z "jdk/internal/util/Preconditions" "SIOOBE_FORMATTER" "Ljava/util/function/BiFunction;" fv zF s s.heap := by
    rcases hj.2.1 with h | ⟨t, h⟩
    · exact ⟨_, Or.inl rfl, h⟩
    · exact ⟨_, Or.inr ⟨t, rfl⟩, h⟩
  refine va_gets hx hb hZ hS hown (hts (.fieldLink "java/lang/String" 1053 "jdk/internal/util/Preconditions" "SIOOBE_FORMATTER" "Ljava/util/function/BiFunction;") (by decide +kernel)) (fun _ h => h) zd_chk_2 ?_
  refine zq_call (va_runS (As := [.int i, .int n, fv]) (rest := []) ⟨hx, hb, hml, hown, hts⟩ (zc_pre l (sa := sa) (sv := sv) hfv hi hn) (va_cwS 3 hts zg_chk_pre rfl rfl rfl (by decide +kernel) ⟨Nat.le_of_ble_eq_true rfl, Nat.le_of_ble_eq_true rfl⟩) ⟨jS_blind, fun U hU hW => ⟨rfl, jS_next hj hS hU hW⟩⟩ rfl rfl hl.1 rfl (lv_room (Nat.le_of_ble_eq_true rfl)) zd_chk_5 ⟨(Nat.zero_le _), (Nat.zero_le _)⟩) hS (st1 := [.int i]) rfl (fun locs1 hS => ?_)
  refine lv_pop hx hb zd_chk_8 rfl ?_
  exact W.vret hx hb hr (fun t ht hW => ⟨rfl, ht⟩) hS.2.2 zd_chk_9
set_option maxHeartbeats 4000000 in
set_option maxRecDepth 100000 in
theorem zc_lca (l : Launch) {sa sv : Nat} {j : Int} (j0 : 0 ≤ j) (j1 : j < (aTxt.length : Int)) : Met l zy_lca zw_lca ({ frames := 2, cells := 0, slots := 0, locals := 43 }) (va_Pc [.ref sv, .int (Int32.ofInt j)] (fun U => jS zF sa sv U U.heap)) (zQ (some (.int (Int32.ofInt ((aTxt.getD j.toNat 0 : Nat) : Int))))) 0 0 zF := by
  refine Met.ofW (cc := prog_19_method_2_code) (maxL := 2) (ret := (some .char)) (by decide) rfl ?_
  intro p e s m args below meth c s₁ B hml hv
  obtain ⟨rfl, hj⟩ := hv
  have hx := B.exec
  have hb := B.bytes
  have hr := B.returns
  have hts := atoms_spec (ws := zw_lca) B.pre
  have hown : s.vm.findClass "java/lang/StringLatin1" = some m.cls := findClass_of_methodNamed B.named
  have hlocks := B.notSynchronized
  have hS : va_S zF s.heap s.heap [] := va_S.rf
  have hl := lv_entry ([.ref sv, .int (Int32.ofInt j)]) (n := 2) (Nat.le_of_ble_eq_true rfl)
  rw [lg_entry_eq]
  generalize (lg_sl ([.ref sv, .int (Int32.ofInt j)]) ++ List.replicate (2 - (lg_sl ([.ref sv, .int (Int32.ofInt j)])).length) Slot.unset).toArray = ls at hl ⊢
  have hl : lv_has ls 2 [(0, .ref sv), (1, .int (Int32.ofInt j))] := hl
  have hl0 := jlen
  have xj : xI j := ⟨by omega, by omega⟩
  have xn : xI (aTxt.length : Int) := ⟨by omega, by omega⟩
  have hi : ¬ Int32.ofInt j < 0 := fun h => by
    have := (o_lt0 xj).mp h
    omega
  have hn : Int32.ofInt j < Int32.ofInt (aTxt.length : Int) := (o_lt xj xn).mpr j1
  obtain ⟨q1, q2⟩ := jchr j.toNat (by omega)
  refine lv_iload_n hx hb zd_lca_0 rfl (lv_at hl 1 rfl) ?_
  refine lv_aload_n hx hb zd_lca_1 rfl (lv_at hl 0 rfl) ?_
  refine va_tlen hx hb (jS_T hj) hS (v := Int32.ofInt (aTxt.length : Int)) (o_nat _) zd_lca_2 ?_
  refine zq_call (va_runS (As := [.int (Int32.ofInt j), .int (Int32.ofInt (aTxt.length : Int))]) (rest := []) ⟨hx, hb, hml, hown, hts⟩ (zc_chk l (sa := sa) (sv := sv) hi hn) (va_cwS 2 hts zg_lca_chk rfl rfl rfl (by decide +kernel) ⟨Nat.le_of_ble_eq_true rfl, Nat.le_of_ble_eq_true rfl⟩) ⟨jS_blind, fun U hU hW => ⟨rfl, jS_next hj hS hU hW⟩⟩ rfl rfl hl.1 rfl (lv_room (Nat.le_of_ble_eq_true rfl)) zd_lca_3 ⟨(Nat.zero_le _), (Nat.zero_le _)⟩) hS (st1 := []) rfl (fun locs1 hS => ?_)
  refine lv_aload_n hx hb zd_lca_6 rfl (lv_at hl 0 rfl) ?_
  refine lv_iload_n hx hb zd_lca_7 rfl (lv_at hl 1 rfl) ?_
  refine va_tb hx hb (jS_T hj) hS (o_in xj j0 j1) (by rw [o_clamp xj]) zd_lca_8 ?_
  refine lv_sipush hx hb (v := 255) zd_lca_9 rfl ?_
  refine lv_iand hx hb zd_lca_12 ?_
  refine lv_i2c hx hb zd_lca_13 q1 ?_
  exact W.zret (v := Int32.ofInt ((aTxt.getD j.toNat 0 : Nat) : Int)) (ty := .char) hx hb hr q2 (fun t ht hW => ⟨rfl, ht⟩) hS.2.2 zd_lca_14
set_option maxHeartbeats 4000000 in
set_option maxRecDepth 100000 in
theorem zc_cat (l : Launch) {sa sv : Nat} {j : Int} (j0 : 0 ≤ j) (j1 : j < (aTxt.length : Int)) : Met l zy_cat zw_cat ({ frames := 3, cells := 0, slots := 0, locals := 64 }) (va_Pc [.ref sa, .int (Int32.ofInt j)] (fun U => jS zF sa sv U U.heap)) (zQ (some (.int (Int32.ofInt ((aTxt.getD j.toNat 0 : Nat) : Int))))) 0 0 zF := by
  refine Met.ofW (cc := prog_18_method_56_code) (maxL := 2) (ret := (some .char)) (by decide) rfl ?_
  intro p e s m args below meth c s₁ B hml hv
  obtain ⟨rfl, hj⟩ := hv
  have hx := B.exec
  have hb := B.bytes
  have hr := B.returns
  have hts := atoms_spec (ws := zw_cat) B.pre
  have hown : s.vm.findClass "java/lang/String" = some m.cls := findClass_of_methodNamed B.named
  have hlocks := B.notSynchronized
  have hS : va_S zF s.heap s.heap [] := va_S.rf
  have hl := lv_entry ([.ref sa, .int (Int32.ofInt j)]) (n := 2) (Nat.le_of_ble_eq_true rfl)
  rw [lg_entry_eq]
  generalize (lg_sl ([.ref sa, .int (Int32.ofInt j)]) ++ List.replicate (2 - (lg_sl ([.ref sa, .int (Int32.ofInt j)])).length) Slot.unset).toArray = ls at hl ⊢
  have hl : lv_has ls 2 [(0, .ref sa), (1, .int (Int32.ofInt j))] := hl
  obtain ⟨q1, q2⟩ := jchr j.toNat (by omega)
  refine lv_aload_n hx hb zd_cat_0 rfl (lv_at hl 0 rfl) ?_
  refine zq_call (va_runV (As := []) (rest := []) ⟨hx, hb, hml, hown, hts⟩ (zc_lat l (sa := sa) (sv := sv)) (cwV 0 hts zg_cat_lat rfl rfl rfl (by decide +kernel) ⟨Nat.le_of_ble_eq_true rfl, Nat.le_of_ble_eq_true rfl⟩) ⟨jS_blind, jS_recv hj hS, fun U hU hW => ⟨rfl, jS_next hj hS hU hW⟩⟩ rfl rfl hl.1 rfl (lv_room (Nat.le_of_ble_eq_true rfl)) zd_cat_1 ⟨(Nat.zero_le _), (Nat.zero_le _)⟩) hS (st1 := [.int 1]) rfl (fun locs1 hS => ?_)
  refine lv_if_eq hx hb (tgt := 16) zd_cat_4 rfl (fun h => absurd h (by decide)) (fun _ => ?_)
  refine lv_aload_n hx hb zd_cat_7 rfl (lv_at hl 0 rfl) ?_
  refine vk_getf hx hb (jS_val hj) hS hown (hts (.fieldLink "java/lang/String" 9 "java/lang/String" "value" "[B") (by decide +kernel)) (fun _ h => h) zd_cat_8 ?_
  refine lv_iload_n hx hb zd_cat_11 rfl (lv_at hl 1 rfl) ?_
  refine zq_call (va_runS (As := [.ref sv, .int (Int32.ofInt j)]) (rest := []) ⟨hx, hb, hml, hown, hts⟩ (zc_lca l (sa := sa) (sv := sv) j0 j1) (va_cwS 2 hts zg_cat_lca rfl rfl rfl (by decide +kernel) ⟨Nat.le_of_ble_eq_true rfl, Nat.le_of_ble_eq_true rfl⟩) ⟨jS_blind, fun U hU hW => ⟨rfl, jS_next hj hS hU hW⟩⟩ rfl rfl hl.1 rfl (lv_room (Nat.le_of_ble_eq_true rfl)) zd_cat_12 ⟨(Nat.zero_le _), (Nat.zero_le _)⟩) hS (st1 := [.int (Int32.ofInt ((aTxt.getD j.toNat 0 : Nat) : Int))]) rfl (fun locs1 hS => ?_)
  exact W.zret (v := Int32.ofInt ((aTxt.getD j.toNat 0 : Nat) : Int)) (ty := .char) hx hb hr q2 (fun t ht hW => ⟨rfl, ht⟩) hS.2.2 zd_cat_15
theorem zt_len {idx : Nat} (h : Cond.methodLink "TypeLock$Tokens" idx zy_len ∈ wT) : GoodIn wT (wsV "TypeLock$Tokens" idx "java/lang/String" zy_len zw_len) := goodIn_wT (fun w hw => (List.mem_cons.mp hw).elim (fun e => e ▸ h) (fun q => sub_wT (L := [.instanceMethod zy_len, .selects "java/lang/String" zy_len zy_len, .initialized "java/lang/String"] ++ zw_len) (ps := [768, 769, 150, 770, 2288, 771, 772, 773, 150, 774, 775, 2289]) (by decide +kernel) w q))
theorem zt_cat {idx : Nat} (h : Cond.methodLink "TypeLock$Tokens" idx zy_cat ∈ wT) : GoodIn wT (wsV "TypeLock$Tokens" idx "java/lang/String" zy_cat zw_cat) := goodIn_wT (fun w hw => (List.mem_cons.mp hw).elim (fun e => e ▸ h) (fun q => sub_wT (L := [.instanceMethod zy_cat, .selects "java/lang/String" zy_cat zy_cat, .initialized "java/lang/String"] ++ zw_cat) (ps := [778, 779, 150, 780, 781, 782, 783, 150, 784, 775, 2289, 2288, 785, 786, 151, 787, 788, 789, 790, 791, 793, 794, 152, 795]) (by decide +kernel) w q))
/-- what a state is known to have beside the world -/
def XS (bs sa sv : Nat) (U : State) : Prop := jS (sA bs) sa sv U U.heap ∧ vk_R "TypeLock$Tokens" 66 jTx sa U ∧ ∀ w ∈ wN, va_Nw w U
theorem wN_is : ∀ w ∈ wN, ∃ a i x h, w = Cond.methodLinkNest a i x h := by
  intro w hw
  simp only [wN, List.mem_cons, List.not_mem_nil, or_false] at hw
  rcases hw with rfl | rfl | rfl | rfl | rfl | rfl | rfl | rfl | rfl | rfl | rfl | rfl | rfl | rfl | rfl | rfl <;> exact ⟨_, _, _, _, rfl⟩
theorem XS_ok {bs sa sv : Nat} : xOk bs (XS bs sa sv) := by
  refine ⟨fun u U hv hh h => ?_, fun s U H locs hS hU hW h => ?_⟩
  · refine ⟨?_, vk_R.same hv.symm h.2.1, fun w hw => ?_⟩
    · rw [← hh]
      exact jS_moved (by rw [hv]; exact Vm.Alike.refl _) h.1
    · obtain ⟨a, i, x, y, rfl⟩ := wN_is w hw
      exact va_Nw.same rfl hv (h.2.2 _ hw)
  · refine ⟨?_, vk_R.warm hW h.2.1, fun w hw => ?_⟩
    · rw [hU]
      exact jS_moved hW.alike (jS_kept h.1 hS.2.1)
    · obtain ⟨a, i, x, y, rfl⟩ := wN_is w hw
      exact va_Nw.warmM hW (h.2.2 _ hw)
set_option maxHeartbeats 4000000 in
set_option maxRecDepth 100000 in
theorem str_ok {bs sa sv : Nat} : sStr wT (XS bs sa sv) sa bs := by
  intro p l e R s m args below meth c H locs cells slots Q cc pc idx ls rest hx hb hml hown hts hX hS
  have hjs := hX.1
  refine ⟨fun hd k => va_ldcS hx hb hown hX.2.1 hd k, fun h1 h2 h3 h4 h5 => ⟨fun hk hd k => ?_, fun j j0 j1 hk hd k => ?_⟩⟩
  · refine zq_call (A0 := sA bs) (va_runV (As := []) (rest := rest) ⟨hx, hb, hml, hown, hts⟩ (zc_len l (sa := sa) (sv := sv)) (cwV 0 hts (zt_len hk) rfl rfl rfl (by decide +kernel) ⟨by show 1 + 1 ≤ R.frames; omega, by show 8 + (1 + 11) + 20 ≤ R.locals; omega⟩) ⟨jS_blind, jS_recv hjs hS, fun U hU hW => ⟨rfl, jS_narrow (jS_next hjs hS hU hW)⟩⟩ rfl rfl rfl rfl (lv_room h5) hd ⟨by omega, by omega⟩) hS rfl (fun locs1 hS => k locs1 hS)
  · refine zq_call (A0 := sA bs) (va_runV (As := [.int (Int32.ofInt j)]) (rest := rest) ⟨hx, hb, hml, hown, hts⟩ (zc_cat l (sa := sa) (sv := sv) j0 j1) (cwV 1 hts (zt_cat hk) rfl rfl rfl (by decide +kernel) ⟨by show 3 + 1 ≤ R.frames; omega, by show 8 + (2 + 11) + 64 ≤ R.locals; omega⟩) ⟨jS_blind, jS_recv hjs hS, fun U hU hW => ⟨rfl, jS_narrow (jS_next hjs hS hU hW)⟩⟩ rfl rfl rfl rfl (lv_room h5) hd ⟨by omega, by omega⟩) hS rfl (fun locs1 hS => k locs1 hS)
end STRC
