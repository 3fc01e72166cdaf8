/-! the tables are right -/
section TAB
theorem ok315_l : okL 315 (gP 315) (kQ.getD 315 []) = true := okLn_app 40 _ _ okc_315_0 (okLn_app 40 _ _ okc_315_1 (by rw [List.drop_drop, List.drop_drop]; exact okLn_app 40 _ _ okc_315_2 (by rw [List.drop_drop, List.drop_drop]; exact okLn_app 40 _ _ okc_315_3 (by rw [List.drop_drop, List.drop_drop]; exact okLn_app 40 _ _ okc_315_4 (by rw [List.drop_drop, List.drop_drop]; exact okLn_app 40 _ _ okc_315_5 (by rw [List.drop_drop, List.drop_drop]; exact okLn_app 40 _ _ okc_315_6 (by rw [List.drop_drop, List.drop_drop]; exact okLn_app 40 _ _ okc_315_7 (by rw [List.drop_drop, List.drop_drop]; exact okLn_app 40 _ _ okc_315_8 (by rw [List.drop_drop, List.drop_drop]; exact okLn_app 40 _ _ okc_315_9 (by rw [List.drop_drop, List.drop_drop]; exact okLn_app 40 _ _ okc_315_10 (by rw [List.drop_drop, List.drop_drop]; exact okLn_app 40 _ _ okc_315_11 (by rw [List.drop_drop, List.drop_drop]; exact okLn_app 40 _ _ okc_315_12 (by rw [List.drop_drop, List.drop_drop]; exact okLn_app 40 _ _ okc_315_13 (by rw [List.drop_drop, List.drop_drop]; exact okLn_app 40 _ _ okc_315_14 (by rw [List.drop_drop, List.drop_drop]; exact okLn_app 40 _ _ okc_315_15 (by rw [List.drop_drop, List.drop_drop]; exact okLn_app 40 _ _ okc_315_16 (by rw [List.drop_drop, List.drop_drop]; exact okLn_app 40 _ _ okc_315_17 (by rw [List.drop_drop, List.drop_drop]; exact okLn_app 40 _ _ okc_315_18 (by rw [List.drop_drop, List.drop_drop]; exact okLn_app 40 _ _ okc_315_19 (by rw [List.drop_drop, List.drop_drop]; exact okLn_app 40 _ _ okc_315_20 (by rw [List.drop_drop, List.drop_drop]; exact okLn_app 40 _ _ okc_315_21 (by rw [List.drop_drop, List.drop_drop]; exact okLn_app 40 _ _ okc_315_22 (by rw [List.drop_drop, List.drop_drop]; exact okLn_app 40 _ _ okc_315_23 (by rw [List.drop_drop, List.drop_drop]; exact okLn_app 40 _ _ okc_315_24 (by rw [List.drop_drop, List.drop_drop]; exact okLn_app 40 _ _ okc_315_25 (by rw [List.drop_drop, List.drop_drop]; exact okc_315_26))))))))))))))))))))))))))
theorem h_ob : Cond.instanceMethod objectInit ∈ wT ∧ Cond.code objectInit ⟨#[0xb1]⟩ 1 none ∈ wT := ⟨wT_of (wAt_mem (p := 164) (by decide +kernel)) (by decide +kernel), wT_of (wAt_mem (p := 165) (by decide +kernel)) (by decide +kernel)⟩
theorem h_ac : Cond.native arraycopyName ∈ wT ∧ Cond.static arraycopyName ∈ wT ∧ Cond.initialized "java/lang/System" ∈ wT := ⟨wT_of (wAt_mem (p := 1328) (by decide +kernel)) (by decide +kernel), wT_of (wAt_mem (p := 1327) (by decide +kernel)) (by decide +kernel), wT_of (wAt_mem (p := 157) (by decide +kernel)) (by decide +kernel)⟩
theorem h_ma : Cond.static Lib.Math.min.name ∈ wT ∧ Cond.static Lib.Math.max.name ∈ wT ∧ Cond.initialized "java/lang/Math" ∈ wT ∧ Cond.code Lib.Math.min.name Lib.Math.min.code 2 (some .int) ∈ wT ∧ Cond.code Lib.Math.max.name Lib.Math.max.code 2 (some .int) ∈ wT := ⟨wT_of (wAt_mem (p := 742) (by decide +kernel)) (by decide +kernel), wT_of (wAt_mem (p := 909) (by decide +kernel)) (by decide +kernel), wT_of (wAt_mem (p := 149) (by decide +kernel)) (by decide +kernel), wT_of (wAt_mem (p := 743) (by decide +kernel)) (by decide +kernel), wT_of (wAt_mem (p := 910) (by decide +kernel)) (by decide +kernel)⟩
theorem h_ar : Cond.arrayClass .int ∈ wT ∧ Cond.arrayClass .long ∈ wT ∧ Cond.arrayClass .byte ∈ wT ∧ Cond.arrayClass .boolean ∈ wT := ⟨wT_of (wAt_mem (p := 198) (by decide +kernel)) (by decide +kernel), wT_of (wAt_mem (p := 199) (by decide +kernel)) (by decide +kernel), wT_of (wAt_mem (p := 197) (by decide +kernel)) (by decide +kernel), wT_of (wAt_mem (p := 404) (by decide +kernel)) (by decide +kernel)⟩
theorem h_ov : Cond.arrayOver (.object "TypeLock$Bed") ∈ wL ∧ Cond.arrayOver (.array .int) ∈ wL ∧ Cond.arrayOver (.array .long) ∈ wL := ⟨wAt_mem (p := 405) (by decide +kernel), wAt_mem (p := 523) (by decide +kernel), wAt_mem (p := 438) (by decide +kernel)⟩
theorem h_mo : ∀ z, z < 315 → mOkW z := by
  intro z hz
  have h := all_ok z hz
  unfold okAll at h
  rw [Bool.and_eq_true, Bool.and_eq_true] at h
  exact (okM_ok h.1.1).2
theorem kP_len : kP.length = 316 := by decide +kernel
set_option maxRecDepth 100000 in
theorem gx_315 : gN 315 = x ∧ gB 315 = code ∧ gL 315 = maxLocals ∧ gR 315 = ret := ⟨rfl, rfl, rfl, rfl⟩
theorem h_gp (y : Nat) (h : gP y ≠ []) : y < 316 := by
  apply Classical.byContradiction
  intro c
  apply h
  unfold gP
  rw [List.getD_eq_getElem?_getD, List.getElem?_eq_none (by rw [kP_len]; omega)]
  rfl
theorem h_z3 (y : Nat) (h : y < 316) : okZ3 (gP y) = true := List.all_eq_true.mp okZ3_all y (List.mem_range.mpr h)
set_option maxRecDepth 100000 in
theorem h_315 : plainName (gN 315).cls = true ∧ ((gN 315).cls ≠ "java/lang/invoke/MethodHandle" ∧ (gN 315).cls ≠ "java/lang/invoke/VarHandle") ∧ Cond.code (gN 315) (gB 315) (gL 315) (gR 315) ∈ wT ∧ Cond.initialized (gN 315).cls ∈ wT ∧ aPc (gP 315) = 0 := ⟨by decide +kernel, ⟨by decide +kernel, by decide +kernel⟩, by rw [gx_315.1, gx_315.2.1, gx_315.2.2.1, gx_315.2.2.2]; exact wT_of List.mem_cons_self rfl, wT_of (wAt_mem (p := 135) (by decide +kernel)) (by decide +kernel), by decide +kernel⟩
theorem h_tab : ∀ y, gP y ≠ [] → tabOk tgT gN gB gL gR gF gO gP kCl wT wN y := by
  intro y hy
  have hlt := h_gp y hy
  by_cases c : y < 315
  · have h := all_ok y c
    unfold okAll at h
    rw [Bool.and_eq_true, Bool.and_eq_true] at h
    exact ⟨(okM_ok h.1.1).1, okG_tab (G := fun z => z < 315) h_mo h_ob h_ac (gP y) _ h.1.2 (okZ3_ok (h_z3 y hlt))⟩
  · have e : y = 315 := by omega
    rw [e]
    exact ⟨h_315, okG_tab (G := fun z => z < 315) h_mo h_ob h_ac (gP 315) _ ok315_l (okZ3_ok (h_z3 315 (by decide)))⟩
def tTyQ (ty : FieldType) : Bool := match ty with
  | .object _ => true
  | .array _ => true
  | _ => false
theorem tTyQ_ok {ty : FieldType} (h : tTyQ ty = true) : (∃ n, ty = .object n) ∨ ∃ u, ty = .array u := by
  cases ty <;> first | exact Or.inl ⟨_, rfl⟩ | exact Or.inr ⟨_, rfl⟩ | cases h
def tTyB (t : Nat) (ty : FieldType) : Bool := match t with
  | 0 => decide (ty = .int)
  | 1 => decide (ty = .long)
  | 4 => decide (ty = .boolean)
  | _ => tTyQ ty
theorem tTyB_ok {t : Nat} {ty : FieldType} (h : tTyB t ty = true) : tTy t ty := by
  match t, h with
  | 0, h => exact ofd (p := ty = .int) h
  | 1, h => exact ofd (p := ty = .long) h
  | 2, h => exact tTyQ_ok h
  | 3, h => exact tTyQ_ok h
  | 4, h => exact ofd (p := ty = .boolean) h
  | n + 5, h => exact tTyQ_ok h
def fTy (T : u_T) (k : Nat) : FieldType := (parseFieldDescriptor (T k).2.2.1).getD .int
def clB (ci : Nat) (C : String) (T : u_T) (N : Nat) (ps : List Nat) (p1 p2 : Nat) : Bool :=
  decide (u_ws C T N = ps.filterMap (fun i => wL[i]?)) && (u_ws C T N).all goodWord &&
  ((List.range N).all fun a => (List.range N).all fun b => decide (a = b) || decide ((T a).2.1 ≠ (T b).2.1)) &&
  wAt wL p1 (Cond.instantiable C N) && goodWord (Cond.instantiable C N) && wAt wL p2 (Cond.initialized C) && goodWord (Cond.initialized C) &&
  decide ((kTg.getD ci []).length ≤ N) && decide (N < 1000) &&
  ((List.range N).all fun k => decide (parseFieldDescriptor (T k).2.2.1 = some (fTy T k)) && decide (tgT ci k ≤ 4) && tTyB (tgT ci k) (fTy T k))
theorem clB_ok {ci : Nat} {C : String} {T : u_T} {N : Nat} {ps : List Nat} {p1 p2 : Nat} (h : clB ci C T N ps p1 p2 = true) :
    (∀ w ∈ u_ws C T N, w ∈ wT) ∧ (∀ a, a < N → ∀ b, b < N → a ≠ b → (T a).2.1 ≠ (T b).2.1) ∧ Cond.instantiable C N ∈ wT ∧ Cond.initialized C ∈ wT ∧
  (∀ j, tgT ci j ≠ 9 → j < N) ∧ N < 1000 ∧ ∃ ty : Nat → FieldType, (∀ k, k < N → parseFieldDescriptor (T k).2.2.1 = some (ty k)) ∧ ∀ k, k < N → tgT ci k ≤ 4 ∧ tTy (tgT ci k) (ty k) := by
  unfold clB at h
  simp only [Bool.and_eq_true] at h
  obtain ⟨⟨⟨⟨⟨⟨⟨⟨⟨h1, h2⟩, h3⟩, h4⟩, h5⟩, h6⟩, h7⟩, h8⟩, h9⟩, h10⟩ := h
  have k10 : ∀ k, k < N → (parseFieldDescriptor (T k).2.2.1 = some (fTy T k) ∧ tgT ci k ≤ 4) ∧ tTyB (tgT ci k) (fTy T k) = true := fun k hk => by
    have := List.all_eq_true.mp h10 k (List.mem_range.mpr hk)
    rw [Bool.and_eq_true, Bool.and_eq_true] at this
    exact ⟨⟨of_decide_eq_true this.1.1, of_decide_eq_true this.1.2⟩, this.2⟩
  refine ⟨sub_wT ⟨of_decide_eq_true h1, h2⟩, fun a ha b hb ne => ?_, wT_of (wAt_mem h4) h5, wT_of (wAt_mem h6) h7, fun j hj => ?_, of_decide_eq_true h9, fTy T, fun k hk => (k10 k hk).1.1, fun k hk => ⟨(k10 k hk).1.2, tTyB_ok (k10 k hk).2⟩⟩
  · have := List.all_eq_true.mp (List.all_eq_true.mp h3 a (List.mem_range.mpr ha)) b (List.mem_range.mpr hb)
    rw [Bool.or_eq_true] at this
    rcases this with q | q
    · exact absurd (of_decide_eq_true q) ne
    · exact of_decide_eq_true q
  · have h8' : (kTg.getD ci []).length ≤ N := of_decide_eq_true h8
    apply Classical.byContradiction
    intro c
    apply hj
    unfold tgT
    rw [List.getD_eq_getElem?_getD, List.getElem?_eq_none (by omega)]
    rfl
set_option maxRecDepth 100000 in
theorem cl_0 : clB 0 "TypeLock$Bed" kT0 11 [381, 383, 385, 387, 389, 391, 393, 395, 397, 399, 401] 343 140 = true := by decide +kernel
set_option maxRecDepth 100000 in
theorem cl_1 : clB 1 "TypeLock$Contacts" kT1 5 [426, 428, 430, 432, 434] 413 142 = true := by decide +kernel
set_option maxRecDepth 100000 in
theorem cl_2 : clB 2 "TypeLock$GapFiller" kT2 9 [614, 616, 618, 620, 622, 624, 626, 628, 630] 597 146 = true := by decide +kernel
set_option maxRecDepth 100000 in
theorem cl_3 : clB 3 "TypeLock$Laws" kT3 10 [536, 538, 540, 542, 544, 546, 548, 550, 552, 554] 517 144 = true := by decide +kernel
set_option maxRecDepth 100000 in
theorem cl_4 : clB 4 "TypeLock$LineFiller" kT4 9 [577, 579, 581, 583, 585, 587, 589, 591, 593] 558 145 = true := by decide +kernel
set_option maxRecDepth 100000 in
theorem cl_5 : clB 5 "TypeLock$Logs" kT5 8 [648, 650, 652, 654, 656, 658, 660, 662] 634 147 = true := by decide +kernel
set_option maxRecDepth 100000 in
theorem cl_6 : clB 6 "TypeLock$Orders" kT6 6 [503, 505, 507, 509, 511, 513] 490 143 = true := by decide +kernel
set_option maxRecDepth 100000 in
theorem cl_7 : clB 7 "TypeLock$Pushes" kT7 15 [458, 460, 462, 464, 466, 468, 470, 472, 474, 476, 478, 480, 482, 484, 486] 407 141 = true := by decide +kernel
set_option maxRecDepth 100000 in
theorem cl_8 : clB 8 "TypeLock$Reader" kT8 9 [211, 213, 215, 217, 219, 221, 223, 225, 227] 167 137 = true := by decide +kernel
set_option maxRecDepth 100000 in
theorem cl_9 : clB 9 "TypeLock$Text" kT9 19 [303, 305, 307, 309, 311, 313, 315, 317, 319, 321, 323, 325, 327, 329, 331, 333, 335, 337, 339] 231 139 = true := by decide +kernel
set_option maxRecDepth 100000 in
theorem cl_10 : clB 10 "TypeLock$Tokens" kT10 5 [186, 188, 190, 192, 194] 173 138 = true := by decide +kernel
set_option maxRecDepth 100000 in
theorem cl_11 : clB 11 "TypeLock" kT11 17 [682, 684, 686, 688, 690, 692, 694, 696, 698, 700, 702, 704, 706, 708, 710, 712, 714] 159 136 = true := by decide +kernel
set_option maxRecDepth 100000 in
theorem cl_12 : clB 12 "TypeLockModel" kT12 81 [1564, 1566, 1568, 1570, 1572, 1574, 1576, 1578, 1580, 1582, 1584, 1586, 1588, 1590, 1592, 1594, 1596, 1598, 1600, 1602, 1604, 1606, 1608, 1610, 1612, 1614, 1616, 1618, 1620, 1622, 1624, 1626, 1628, 1630, 1632, 1634, 1636, 1638, 1640, 1642, 1644, 1646, 1648, 1650, 1652, 1654, 1656, 1658, 1660, 1662, 1664, 1666, 1668, 1670, 1672, 1674, 1676, 1678, 1680, 1682, 1684, 1686, 1688, 1690, 1692, 1694, 1696, 1698, 1700, 1702, 1704, 1706, 1708, 1710, 1712, 1714, 1716, 1718, 1720, 1722, 1724] 1474 148 = true := by decide +kernel
theorem h_cl : clOk tgT kCl wT := by
  intro ci C T N h
  have hl : ci < 13 := (List.getElem?_eq_some_iff.mp h).1
  rcases (show ci = 0 ∨ ci = 1 ∨ ci = 2 ∨ ci = 3 ∨ ci = 4 ∨ ci = 5 ∨ ci = 6 ∨ ci = 7 ∨ ci = 8 ∨ ci = 9 ∨ ci = 10 ∨ ci = 11 ∨ ci = 12 by omega) with rfl | rfl | rfl | rfl | rfl | rfl | rfl | rfl | rfl | rfl | rfl | rfl | rfl
  · have h2 := Option.some.inj (show some ("TypeLock$Bed", kT0, 11) = some (C, T, N) from h)
    obtain ⟨q1, q2⟩ := Prod.mk.inj h2
    obtain ⟨q3, q4⟩ := Prod.mk.inj q2
    subst q1; subst q3; subst q4
    exact clB_ok cl_0
  · have h2 := Option.some.inj (show some ("TypeLock$Contacts", kT1, 5) = some (C, T, N) from h)
    obtain ⟨q1, q2⟩ := Prod.mk.inj h2
    obtain ⟨q3, q4⟩ := Prod.mk.inj q2
    subst q1; subst q3; subst q4
    exact clB_ok cl_1
  · have h2 := Option.some.inj (show some ("TypeLock$GapFiller", kT2, 9) = some (C, T, N) from h)
    obtain ⟨q1, q2⟩ := Prod.mk.inj h2
    obtain ⟨q3, q4⟩ := Prod.mk.inj q2
    subst q1; subst q3; subst q4
    exact clB_ok cl_2
  · have h2 := Option.some.inj (show some ("TypeLock$Laws", kT3, 10) = some (C, T, N) from h)
    obtain ⟨q1, q2⟩ := Prod.mk.inj h2
    obtain ⟨q3, q4⟩ := Prod.mk.inj q2
    subst q1; subst q3; subst q4
    exact clB_ok cl_3
  · have h2 := Option.some.inj (show some ("TypeLock$LineFiller", kT4, 9) = some (C, T, N) from h)
    obtain ⟨q1, q2⟩ := Prod.mk.inj h2
    obtain ⟨q3, q4⟩ := Prod.mk.inj q2
    subst q1; subst q3; subst q4
    exact clB_ok cl_4
  · have h2 := Option.some.inj (show some ("TypeLock$Logs", kT5, 8) = some (C, T, N) from h)
    obtain ⟨q1, q2⟩ := Prod.mk.inj h2
    obtain ⟨q3, q4⟩ := Prod.mk.inj q2
    subst q1; subst q3; subst q4
    exact clB_ok cl_5
  · have h2 := Option.some.inj (show some ("TypeLock$Orders", kT6, 6) = some (C, T, N) from h)
    obtain ⟨q1, q2⟩ := Prod.mk.inj h2
    obtain ⟨q3, q4⟩ := Prod.mk.inj q2
    subst q1; subst q3; subst q4
    exact clB_ok cl_6
  · have h2 := Option.some.inj (show some ("TypeLock$Pushes", kT7, 15) = some (C, T, N) from h)
    obtain ⟨q1, q2⟩ := Prod.mk.inj h2
    obtain ⟨q3, q4⟩ := Prod.mk.inj q2
    subst q1; subst q3; subst q4
    exact clB_ok cl_7
  · have h2 := Option.some.inj (show some ("TypeLock$Reader", kT8, 9) = some (C, T, N) from h)
    obtain ⟨q1, q2⟩ := Prod.mk.inj h2
    obtain ⟨q3, q4⟩ := Prod.mk.inj q2
    subst q1; subst q3; subst q4
    exact clB_ok cl_8
  · have h2 := Option.some.inj (show some ("TypeLock$Text", kT9, 19) = some (C, T, N) from h)
    obtain ⟨q1, q2⟩ := Prod.mk.inj h2
    obtain ⟨q3, q4⟩ := Prod.mk.inj q2
    subst q1; subst q3; subst q4
    exact clB_ok cl_9
  · have h2 := Option.some.inj (show some ("TypeLock$Tokens", kT10, 5) = some (C, T, N) from h)
    obtain ⟨q1, q2⟩ := Prod.mk.inj h2
    obtain ⟨q3, q4⟩ := Prod.mk.inj q2
    subst q1; subst q3; subst q4
    exact clB_ok cl_10
  · have h2 := Option.some.inj (show some ("TypeLock", kT11, 17) = some (C, T, N) from h)
    obtain ⟨q1, q2⟩ := Prod.mk.inj h2
    obtain ⟨q3, q4⟩ := Prod.mk.inj q2
    subst q1; subst q3; subst q4
    exact clB_ok cl_11
  · have h2 := Option.some.inj (show some ("TypeLockModel", kT12, 81) = some (C, T, N) from h)
    obtain ⟨q1, q2⟩ := Prod.mk.inj h2
    obtain ⟨q3, q4⟩ := Prod.mk.inj q2
    subst q1; subst q3; subst q4
    exact clB_ok cl_12
end TAB
