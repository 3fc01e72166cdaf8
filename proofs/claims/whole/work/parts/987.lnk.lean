/-! the start of the machine: the walk of the law, and what the claim asks -/
def R_law : String := "TypeLockLaw"
def lw_P (b : Addr) (xs : List Int32) (args : Array Value) (s : State) : Prop := args = #[.ref b] ∧ s.IntsAt b xs ∧ xs.length ≤ 3072 ∧ (Jvm.Cond.and given_1 narrow_1).before args s = true
def lw_Q (_ : Array Value) (s : State) (o : Outcome) (t : State) : Prop := o = .returned (some (.int 1)) ∧ Framed s o t [] 600000 7302250
def lw_Z (below : List Frame) (a : Array Value) (s : State) : State → Prop := fun t => ∃ o, t.status = .running ∧ Ended t below o ∧ lw_Q a s o t
section LNK
theorem wN_ps : wN = [174, 414, 168, 344, 408, 491, 518, 559, 598, 635, 876, 879, 1079, 1068, 1111, 1414].filterMap (fun i => wL[i]?) := by decide +kernel
theorem wN_wL : ∀ w ∈ wN, w ∈ wL := fun w hw => by
  rw [wN_ps] at hw
  obtain ⟨i, -, hi⟩ := List.mem_filterMap.mp hw
  exact List.mem_of_getElem? hi
theorem hasRoom_le {s : State} {pl : Platform} {r r' : Room} (hf : r.frames ≤ r'.frames) (hl : r.locals ≤ r'.locals) (hc : r.cells ≤ r'.cells) (hs : r.slots ≤ r'.slots) (h : s.hasRoom pl r' = true) : s.hasRoom pl r = true := by
  unfold State.hasRoom at h ⊢
  simp only [Bool.and_eq_true, decide_eq_true_eq] at h ⊢
  obtain ⟨⟨⟨⟨h1, h2⟩, h3⟩, h4⟩, h5⟩ := h
  refine ⟨⟨⟨⟨by omega, ?_⟩, by omega⟩, by omega⟩, h5⟩
  exact ⟨by omega, by omega, by omega, by omega, h2.2.2.2.2⟩
section W2
variable {p : Program} {l : Launch} {e : Env} {R R' : Room} {s : State} {m : MethodId} {args : Array Value} {below : List Frame} {meth : Method} {c : Code} {H : Heap} {locs : List Loc} {cells slots : Nat} {Q Q' : State → Prop} {g : JFrame}
theorem W_room (hf : R.frames ≤ R'.frames) (hl : R.locals ≤ R'.locals) (hc : R.cells ≤ R'.cells) (hs : R.slots ≤ R'.slots) (k : W p l e R s m args below meth c H locs cells slots Q g) : W p l e R' s m args below meth c H locs cells slots Q g :=
  fun T hT X => k T hT { X with room := hasRoom_le hf hl hc hs X.room }
theorem W_imp (hQ : ∀ t, Q t → Q' t) (k : W p l e R s m args below meth c H locs cells slots Q g) : W p l e R s m args below meth c H locs cells slots Q' g := by
  intro T hT X
  obtain ⟨t, a, b⟩ := k T hT X
  exact ⟨t, a, hQ t b⟩
end W2
def tmS : Term := Term.string "TypeLock$Tokens" 66
def gvC : List Cond := flatC (Jvm.Cond.and given_1 narrow_1)
set_option maxRecDepth 100000 in
theorem gv_el : ∀ j, j < aTxt.length → Cond.eq (.elem (.field tmS "java/lang/String" "value" "[B") (.int (Int32.ofNat j))) (.int ((aTxt.map Int32.ofNat).getD j 0)) ∈ gvC := by decide +kernel
set_option maxRecDepth 100000 in
theorem gv_ot : Cond.exactly tmS "java/lang/String" ∈ gvC ∧ Cond.eq (.field tmS "java/lang/String" "coder" "B") (.int 0) ∈ gvC ∧ Cond.arrayOf (.field tmS "java/lang/String" "value" "[B") .byte ∈ gvC ∧ Cond.eq (.length (.field tmS "java/lang/String" "value" "[B")) (.int (Int32.ofNat aTxt.length)) ∈ gvC ∧
  Cond.eq (.static "java/lang/String" "COMPACT_STRINGS" "Z") (.int 1) ∈ gvC ∧ Cond.isRef (.static "jdk/internal/util/Preconditions" "SIOOBE_FORMATTER" "Ljava/util/function/BiFunction;") ∈ gvC := by decide +kernel
set_option maxRecDepth 100000 in
theorem wL_ot : Cond.laysStatic "java/lang/String" "COMPACT_STRINGS" "Z" ∈ wL ∧ Cond.laysStatic "jdk/internal/util/Preconditions" "SIOOBE_FORMATTER" "Ljava/util/function/BiFunction;" ∈ wL ∧ Cond.initialized "java/lang/String" ∈ wL ∧ Cond.initialized "jdk/internal/util/Preconditions" ∈ wL ∧ Cond.stringRef "TypeLock$Tokens" 66 jTx ∈ wL :=
  ⟨wAt_mem (p := 776) (by decide +kernel), wAt_mem (p := 792) (by decide +kernel), wAt_mem (p := 150) (by decide +kernel), wAt_mem (p := 152) (by decide +kernel), wAt_mem (p := 766) (by decide +kernel)⟩
def XO (U : State) : Prop := va_AO "TypeLock$Bed" U ∧ (Cond.arrayOver (.array .int)).before #[] U = true ∧ (Cond.arrayOver (.array .long)).before #[] U = true
theorem XO_moved {u U : State} (hvm : u.vm.Alike U.vm) (h : XO u) : XO U := ⟨va_AO.moved hvm h.1, over_moved hvm h.2.1, over_moved hvm h.2.2⟩
def X3 (bs sa sv : Nat) (U : State) : Prop := XS bs sa sv U ∧ XO U
theorem X3_ok {bs sa sv : Nat} : xOk bs (X3 bs sa sv) :=
  ⟨fun u U hv hh h => ⟨XS_ok.1 u U hv hh h.1, XO_moved (by rw [hv]; exact Vm.Alike.refl _) h.2⟩, fun s U H locs hS hU hW h => ⟨XS_ok.2 s U H locs hS hU hW h.1, XO_moved hW.alike h.2⟩⟩
theorem X3_str {bs sa sv : Nat} : sStr wT (X3 bs sa sv) sa bs := by
  intro p l e R s m args below meth c H locs cells slots Q cc pc idx ls rest h1 h2 h3 h4 h5 hX h6
  exact str_ok p l e R s m args below meth c H locs cells slots Q cc pc idx ls rest h1 h2 h3 h4 h5 hX.1 h6
section ST
variable {s : State} {b : Nat}
/-- what is known of the String and the links, at the start -/
theorem XS_start (hts : ∀ w ∈ wL, w.before #[Value.ref b] s = true) (hgv : (Jvm.Cond.and given_1 narrow_1).before #[Value.ref b] s = true) : ∃ sa sv : Nat, X3 s.heap.size sa sv s := by
  have hg : ∀ c ∈ gvC, c.before #[Value.ref b] s = true := flat_of_before _ hgv
  have hA : ∀ a : Nat, a < s.heap.size → ¬ sA s.heap.size a := fun a h q => Nat.not_le.mpr h q
  obtain ⟨g1, g2, g3, g4, g5, g6⟩ := gv_ot
  obtain ⟨w1, w2, w3, w4, w5⟩ := wL_ot
  have i0 : ∀ i : Nat, i < 1 → i = 0 := fun i h => by omega
  obtain ⟨adK, adV, hS, hev⟩ := vk_Sof (args := #[Value.ref b]) (s := s) (N := 1) (tm := fun _ => tmS) (len := [aTxt.length]) (byt := [aTxt.map Int32.ofNat]) (A := sA s.heap.size)
    (fun i hi => by
      rw [i0 i hi]
      have := jlen.1
      show aTxt.length < 2 ^ 31
      omega)
    (fun i hi => hg _ g1) (fun i hi => hg _ g2) (fun i hi => hg _ g3) (fun i hi => by rw [i0 i hi]; exact hg _ g4) (fun i hi j hj => by
      rw [i0 i hi] at hj ⊢
      exact hg _ (gv_el j hj))
    (fun i j hi hj ne => absurd ((i0 i hi).trans (i0 j hj).symm) ne) hA
  refine ⟨adK 0, adV 0, ⟨⟨va_Zof (hts _ w1) (hts _ w3) (va_eqi (hg _ g5)) hA, va_Zqof (hts _ w2) (hts _ w4) (hg _ g6) hA, ⟨fun i hi => ?_, fun i j hi hj _ => by rw [i0 i hi, i0 j hj]⟩⟩, vk_R.of (hts _ w5) (hev 0 (by decide)), fun w hw => ?_⟩, va_AO.of (hts _ h_ov.1), over_moved (Vm.Alike.refl _) (hts _ h_ov.2.1), over_moved (Vm.Alike.refl _) (hts _ h_ov.2.2)⟩
  · have e := i0 i hi
    subst e
    exact hS.1 0 hi
  · have hb := hts w (wN_wL w hw)
    obtain ⟨a, i, x, y, rfl⟩ := wN_is w hw
    exact va_Nw.of rfl hb
/-- the classes, and the classes of arrays -/
theorem K_start (hts : ∀ w ∈ wL, w.before #[Value.ref b] s = true) : ∃ (D : va_G) (cy : Nat → ClassId), va_K D kCl (sT cy) s := by
  have ht : ∀ w ∈ wT, w.before #[Value.ref b] s = true := fun w hw => hts w (List.mem_filter.mp hw).1
  have hK0 : ∀ k : Nat, ∃ d : ClassId × (Nat → Nat), ∀ q : vw_C, kCl[k]? = some q → u_Kn s q.1 q.2.1 q.2.2 d.1 d.2 := by
    intro k
    cases hk : kCl[k]? with
    | none => exact ⟨(0, fun _ => 0), fun q h => by cases h⟩
    | some q =>
      obtain ⟨C, T, N⟩ := q
      obtain ⟨h1, -, h3, -⟩ := h_cl k C T N hk
      obtain ⟨cC, iS, h⟩ := u_known (ws := wT) (n := N) ht h1 (ht _ h3)
      exact ⟨(cC, iS), fun q' h' => by cases h'; exact h⟩
  obtain ⟨dd, hdd⟩ := Classical.axiomOfChoice hK0
  have arr : ∀ ty : FieldType, (∀ C, ty ≠ .object C) → Cond.arrayClass ty ∈ wT → ∃ cA : ClassId, ArrOfT s cA ty ∧ va_RA s cA ty := by
    intro ty hn h
    obtain ⟨c, k, comp, h1, h2, h3⟩ := Cond.arrayClass_spec (ht _ h)
    refine ⟨c, fun n z => ⟨fun k h => (by cases h), k, h2, comp, h3⟩, ?_⟩
    cases ty <;> first | exact absurd rfl (hn _) | exact h1
  have ovr : ∀ ty : FieldType, Cond.arrayOver (.array ty) ∈ wL → ∃ cA : ClassId, ArrOfT s cA (.array ty) ∧ va_RA s cA (.array ty) := by
    intro ty h
    obtain ⟨comp, c, k, -, -, h2, h3, h4⟩ := arrayOverA_spec (hts _ h)
    exact ⟨c, fun n z => ⟨fun k h => (by cases h), k, h2, comp, h3⟩, h4⟩
  obtain ⟨a1, a2, a3, a4⟩ := h_ar
  obtain ⟨o1, o2, o3⟩ := h_ov
  obtain ⟨c1, e1⟩ := arr .int (fun C h => by cases h) a1
  obtain ⟨c2, e2⟩ := arr .long (fun C h => by cases h) a2
  obtain ⟨c3, e3⟩ := arr .byte (fun C h => by cases h) a3
  obtain ⟨c4, e4⟩ := arr .boolean (fun C h => by cases h) a4
  obtain ⟨c5, e5⟩ : ∃ cA : ClassId, ArrOfT s cA (.object "TypeLock$Bed") ∧ va_RA s cA (.object "TypeLock$Bed") := by
    obtain ⟨comp, c, k, h0, -, h2, h3, h4⟩ := Cond.arrayOver_spec (hts _ o1)
    exact ⟨c, fun n z => ⟨fun k h => (by cases h), k, h2, comp, h3⟩, k, comp, h2, h3, h0, h4⟩
  obtain ⟨c6, e6⟩ := ovr .int o2
  obtain ⟨c7, e7⟩ := ovr .long o3
  refine ⟨(fun k => (dd k).1, fun k => (dd k).2), fun k => [0, c1, c2, c3, c4, c5, c6, c7].getD k 0, fun k q hq => hdd k q hq, fun k q hk => ?_⟩
  have hl : k < 7 := (List.getElem?_eq_some_iff.mp hk).1
  rcases (show k = 0 ∨ k = 1 ∨ k = 2 ∨ k = 3 ∨ k = 4 ∨ k = 5 ∨ k = 6 by omega) with rfl | rfl | rfl | rfl | rfl | rfl | rfl
  · cases hk; exact e1
  · cases hk; exact e2
  · cases hk; exact e3
  · cases hk; exact e4
  · cases hk; exact e5
  · cases hk; exact e6
  · cases hk; exact e7
end ST
theorem sS_t : sS SHt ≤ 7302250 := by decide +kernel
theorem len_t : SHt.length = 209 := by decide +kernel
theorem gF_t : gF 315 = 13 ∧ gO 315 = 498 ∧ gL 315 = 4 := by decide +kernel
theorem gP_0 : aPc (gP 315) = 0 := h_315.2.2.2.2
set_option maxHeartbeats 4000000 in
set_option maxRecDepth 100000 in
/-- the walk of the law -/
theorem law_walk {p : Program} {e : Env} {s : State} {m : MethodId} {below : List Frame} {meth : Method} {c : Code} (l : Launch) {b L : Nat} {xs : Nat → Int32} (hL : L ≤ 3072) (hx : p.tables.exec = Jvm.exec) (hb : c.code = code) (hr : meth.sig.returnType = ret) (hml : c.maxLocals = 4) (hown : s.vm.findClass R_law = some m.cls)
    (hts : ∀ w ∈ wL, w.before #[Value.ref b] s = true) (hX : va_X b L xs s s.heap) (hbl : b < s.heap.size) (hlocks : meth.locks = false) (hnm : meth.name = "law") (hgv : (Jvm.Cond.and given_1 narrow_1).before #[Value.ref b] s = true) : W p l e room_1 s m #[Value.ref b] below meth c s.heap [] 0 0 (lw_Z below #[Value.ref b] s) (entryFrame m ([Value.ref b] : List Value).toArray 4) := by
  have ht : ∀ w ∈ wT, w.before #[Value.ref b] s = true := fun w hw => hts w (List.mem_filter.mp hw).1
  obtain ⟨sa, sv, hXS⟩ := XS_start hts hgv
  obtain ⟨D, cy, hK⟩ := K_start hts
  obtain ⟨M, hM⟩ : ∃ M : aM, M = fun a j => if a = 0 then (xs j.toNat).toInt else 0 := ⟨_, rfl⟩
  have m0 : ∀ j : Int, M 0 j = (xs j.toNat).toInt := fun j => by rw [hM]; exact if_pos rfl
  obtain ⟨Z, n, hn⟩ := law_run (L := L) (M := M) hL (fun j j0 j1 => by
    rw [m0]
    have := xI_toInt (xs j.toNat)
    exact ⟨this.1, this.2⟩)
  have hI : sIn tgT cy sa s.heap.size D kCl s s.heap [b] [(9, L, [])] M := by
    refine ⟨fun k q h => by simp [sW] at h, ⟨fun i j p q h => by simp [sW] at h, fun k q h => by simp [sW] at h⟩, hK, rfl, hbl, Nat.le_refl _, ?_, ⟨Nat.le_refl _, rfl, ?_, fun j => ?_, fun k k1 k2 => ?_⟩⟩
    · have ex : (fun j : Nat => Int32.ofInt (M 0 (j : Int))) = xs := by
        funext j
        rw [m0, o_back]
        rfl
      rw [ex]
      exact hX
    · show L < 2147483648
      omega
    · rw [m0]
      exact xI_toInt _
    · have k2' : k < 1 := k2
      omega
  have hls : ∀ v ∈ aLoc [aR 0] (gL 315), sOk ([(9, L, [])] : aSh).length v := by
    rw [gF_t.2.2]
    intro v hv
    have hv' : v ∈ [aR 0, aU, aU, aU] := hv
    simp only [List.mem_cons, List.not_mem_nil, or_false] at hv'
    rcases hv' with rfl | rfl | rfl | rfl
    · exact ⟨by decide, by show (0 : Int) < 1; decide⟩
    · trivial
    · trivial
    · trivial
  have hent := sL_entry (ads := [b]) (sa := sa) (n := 4) (as := [aR 0]) (Nat.le_of_ble_eq_true rfl)
  have K := aWalk2 (tg := tgT) (yN := gN) (yB := gB) (yL := gL) (yR := gR) (yF := gF) (yO := gO) (P := gP) (wT := wT) (wN := wN) (XF := X3 s.heap.size sa sv) (cy := cy) (sa := sa) (bs := s.heap.size) (D := D) (cl := kCl) X3_ok (fun s h w hw => h.1.2.2 w hw) X3_str h_ma h_cl (fun w hw => (List.mem_filter.mp hw).2) ⟨kT0, 11, rfl⟩ h_ar (fun s A h => ⟨va_AO.use h.2.1, over_moved (Vm.Alike.refl _) h.2.2.1, over_moved (Vm.Alike.refl _) h.2.2.2⟩) h_tab
    n 315 (gP 315) (aLoc [aR 0] (gL 315)) [] [(9, L, [])] M _ ⟨[], rfl⟩ hn hls (fun _ h => by cases h) p l e
    { frames := gF 315, cells := (SH L).length - 1, slots := sS (SH L) - sS [(9, L, [])], locals := gO 315 } s m #[Value.ref b] below meth c s.heap [] [b] [b] _ 1 (sS [(9, L, [])])
    ⟨hx, by rw [hb]; exact gx_315.2.1.symm, by rw [hr]; exact gx_315.2.2.2.symm, by rw [hml]; exact gF_t.2.2.symm, hown, ht, hlocks, hnm, hXS⟩ (Nat.le_refl _) rfl rfl rfl rfl (Nat.le_refl _) (Nat.le_refl _) hI va_S.rf ⟨[], rfl⟩ (by rw [gF_t.2.2]; exact hent)
  rw [lg_entry_eq]
  rw [gP_0, Nat.sub_self] at K
  refine W_room (R := { frames := gF 315, cells := (SH L).length - 1, slots := sS (SH L) - sS [(9, L, [])], locals := gO 315 }) ?_ ?_ ?_ ?_ (W_imp (fun t h => ?_) K)
  · show gF 315 ≤ 13
    rw [gF_t.1]; exact Nat.le_refl _
  · show gO 315 ≤ 498
    rw [gF_t.2.1]; exact Nat.le_refl _
  · show SHt.length + 1 - 1 ≤ 600000
    rw [len_t]; decide
  · show L + sS SHt - (L + 0) ≤ 7302250
    have := sS_t
    omega
  · obtain ⟨oc, h1, h2, ⟨ads', -, hoc, -⟩, Lc, ⟨hv, hW, hs⟩, hf⟩ := h
    refine ⟨oc, h1, h2, hoc, hv, hW, hs.weaken (fun y hy hlt => absurd hlt (Nat.not_lt.mpr (hf y hy))) ?_ ?_⟩
    · show SHt.length + 1 - 1 ≤ 600000
      rw [len_t]; decide
    · show L + sS SHt - (L + 0) ≤ 7302250
      have := sS_t
      omega
end LNK
