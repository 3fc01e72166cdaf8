/-! the cells behind both constructors, in the order in which they are made (0: the script); runs without their lengths -/
def SHt : aSh := [(21, 17, [2, (-1), 3, (-1), (-1), (-1), (-1), 31, 39, (-1), (-1), 64, 84, 90, 99, 118, 138]), (3, 2000, []), (18, 9, [(-1), (-1), 4, (-1), (-1), (-1), (-1), 8, (-1)]), (20, 5, [5, 6, 7, (-1), (-1)]), (1, 401, []), (1, 401, []), (2, 401, []), (1, 28, []), (19, 19, [(-1), (-1), (-1), (-1), 10, 11, 12, 13, 14, (-1), 15, 16, 17, (-1), (-1), (-1), (-1), 18, 19]), (2, 14, []), (1, 14, []), (1, 14, []), (1, 14, []), (1, 14, []), (1, 6, []), (2, 6, []), (1, 400, []), (1, 6, []), (1, 6, []), (19, 19, [(-1), (-1), (-1), (-1), 21, 22, 23, 24, 25, (-1), 26, 27, 28, (-1), (-1), (-1), (-1), 29, 30]), (2, 14, []), (1, 14, []), (1, 14, []), (1, 14, []), (1, 14, []), (1, 6, []), (2, 6, []), (1, 400, []), (1, 6, []), (1, 6, []), (10, 11, [(-1), 32, 33, 34, 35, 36, 37, 38, (-1), (-1), (-1)]), (1, 40, []), (1, 40, []), (1, 40, []), (1, 40, []), (1, 40, []), (1, 40, []), (4, 40, []), (5, 3, [40, 48, 56]), (10, 11, [(-1), 41, 42, 43, 44, 45, 46, 47, (-1), (-1), (-1)]), (1, 40, []), (1, 40, []), (1, 40, []), (1, 40, []), (1, 40, []), (1, 40, []), (4, 40, []), (10, 11, [(-1), 49, 50, 51, 52, 53, 54, 55, (-1), (-1), (-1)]), (1, 40, []), (1, 40, []), (1, 40, []), (1, 40, []), (1, 40, []), (1, 40, []), (4, 40, []), (10, 11, [(-1), 57, 58, 59, 60, 61, 62, 63, (-1), (-1), (-1)]), (1, 40, []), (1, 40, []), (1, 40, []), (1, 40, []), (1, 40, []), (1, 40, []), (4, 40, []), (17, 15, [(-1), (-1), 65, 66, (-1), (-1), 67, 72, (-1), 77, 78, 83, (-1), (-1), (-1)]), (1, 40, []), (1, 41, []), (11, 5, [(-1), 68, 69, 70, 71]), (1, 120, []), (1, 120, []), (1, 120, []), (1, 120, []), (11, 5, [(-1), 73, 74, 75, 76]), (1, 120, []), (1, 120, []), (1, 120, []), (1, 120, []), (1, 40, []), (7, 4, [79, 80, 81, 82]), (2, 64, []), (2, 64, []), (2, 64, []), (2, 64, []), (1, 40, []), (16, 6, [85, 86, 87, 88, 89, (-1)]), (1, 6, []), (1, 6, []), (1, 64, []), (2, 64, []), (1, 64, []), (13, 10, [91, 92, (-1), (-1), (-1), 97, 98, (-1), (-1), (-1)]), (1, 40, []), (6, 4, [93, 94, 95, 96]), (1, 40, []), (1, 40, []), (1, 40, []), (1, 40, []), (1, 9, []), (1, 32, []), (14, 9, [(-1), (-1), (-1), (-1), 100, 116, 117, (-1), (-1)]), (6, 15, [101, 102, 103, 104, 105, 106, 107, 108, 109, 110, 111, 112, 113, 114, 115]), (1, 241, []), (1, 241, []), (1, 241, []), (1, 241, []), (1, 241, []), (1, 241, []), (1, 241, []), (1, 241, []), (1, 241, []), (1, 241, []), (1, 241, []), (1, 241, []), (1, 241, []), (1, 241, []), (1, 241, []), (1, 241, []), (1, 14, []), (12, 9, [(-1), (-1), 119, 135, 136, 137, (-1), (-1), (-1)]), (6, 15, [120, 121, 122, 123, 124, 125, 126, 127, 128, 129, 130, 131, 132, 133, 134]), (1, 61, []), (1, 61, []), (1, 61, []), (1, 61, []), (1, 61, []), (1, 61, []), (1, 61, []), (1, 61, []), (1, 61, []), (1, 61, []), (1, 61, []), (1, 61, []), (1, 61, []), (1, 61, []), (1, 61, []), (1, 14, []), (1, 14, []), (1, 14, []), (15, 8, [(-1), 139, 140, 141, 142, (-1), 143, 144]), (1, 60, []), (1, 60, []), (1, 60, []), (1, 60, []), (1, 100, []), (1, 100, []), (22, 81, [(-1), 146, (-1), 147, 148, 149, 150, (-1), (-1), (-1), (-1), (-1), 151, 152, 153, 154, 155, 156, 157, 158, 159, 160, 161, 162, 163, 164, 165, 166, 167, 168, 169, 170, 171, 172, 173, 174, 175, 176, 177, 178, (-1), 179, 180, 181, 182, 183, 184, 185, (-1), 186, 187, 188, 189, (-1), (-1), 190, (-1), (-1), 191, (-1), 192, (-1), 193, 194, 195, 196, 197, 198, 199, 200, 201, 202, 203, 204, (-1), (-1), 205, 206, 207, 208, 209]), (1, 2000, []), (1, 2001, []), (1, 2001, []), (1, 2001, []), (2, 2001, []), (1, 2, []), (1, 2, []), (1, 2, []), (1, 28, []), (1, 28, []), (1, 28, []), (1, 28, []), (2, 28, []), (1, 2, []), (1, 12, []), (1, 12, []), (1, 12, []), (1, 2, []), (1, 2, []), (1, 2, []), (1, 2, []), (1, 12, []), (1, 12, []), (1, 2, []), (1, 1000, []), (1, 1000, []), (1, 2, []), (4, 400, []), (1, 400, []), (1, 400, []), (1, 400, []), (1, 400, []), (1, 400, []), (1, 4, []), (1, 4, []), (1, 160, []), (1, 160, []), (1, 160, []), (4, 160, []), (1, 4, []), (1, 60, []), (1, 60, []), (1, 60, []), (1, 60, []), (1, 500, []), (1, 9, []), (1, 500, []), (4, 40, []), (4, 160, []), (4, 160, []), (1, 40, []), (1, 40, []), (4, 40, []), (1, 64, []), (1, 6, []), (1, 6, []), (1, 40, []), (1, 40, []), (1, 3615, []), (1, 915, []), (1, 256, []), (1, 16, []), (1, 14, []), (1, 14, [])]
def SH (L : Nat) : aSh := (9, L, []) :: SHt
def aX (C rest : List aEnt) (ls st : List aV) (S : aSh) (M : aM) (o : aO) : Prop := ∃ n, aRun tgT gP n C rest ls st S M = some o
def aE (z : Nat) (as : List aV) (S : aSh) (M : aM) (o : aO) : Prop := ∃ n, aRun tgT gP n (gP z) (gP z) (aLoc as (gL z)) [] S M = some o
theorem aRun_more {n m : Nat} (h : n ≤ m) {C rest : List aEnt} {ls st : List aV} {S : aSh} {M : aM} {o : aO} (hr : aRun tgT gP n C rest ls st S M = some o) : aRun tgT gP m C rest ls st S M = some o := by
  induction h with
  | refl => exact hr
  | step _ ih => exact aRun_fuel _ _ _ _ _ _ _ _ ih
theorem ip {α : Type} {c : Prop} {d : Decidable c} {a b r : α} (h : c) (k : a = r) : @ite α c d a b = r := (if_pos h).trans k
theorem in_ {α : Type} {c : Prop} {d : Decidable c} {a b r : α} (h : ¬ c) (k : b = r) : @ite α c d a b = r := (if_neg h).trans k
section REL
variable {C rest rest1 : List aEnt} {ls ls1 st st1 : List aV} {S S1 : aSh} {M M1 : aM} {o : aO}
theorem aX_seg (k : Nat) (f : ∀ n, aRun tgT gP n C rest1 ls1 st1 S1 M1 = some o → aRun tgT gP (n + k) C rest ls st S M = some o) (h : aX C rest1 ls1 st1 S1 M1 o) : aX C rest ls st S M o := by
  obtain ⟨n, h⟩ := h
  exact ⟨n + k, f n h⟩
theorem aX_le (hl : aLe ls ls1) (h : aX C rest ls st S M o) : aX C rest ls1 st S M o := by
  obtain ⟨n, h⟩ := h
  exact ⟨n, aRun_le _ _ _ _ _ _ _ _ _ h hl⟩
theorem aX_callv {pc idx z na ml ci : Nat} {q r : Int} {as v : List aV} (hk : aK S r = 10 + ci) (hb : (Nat.ble na st.length && Nat.ble (aCat (st.drop na)) 8 && Nat.ble (aArg (st.take na).reverse).length ml) = true) (ha : (st.take na).reverse = aR r :: as) (hm : gL z = ml)
    (hc : aE z (aR r :: as) S M (v, S1, M1)) (h : aX C rest ls (v ++ st.drop na) S1 M1 o) : aX C ((pc, .invokevirtual idx, [z, na, ml, ci], q) :: rest) ls st S M o := by
  obtain ⟨n1, hc⟩ := hc
  obtain ⟨n2, h⟩ := h
  subst hm
  have hc2 := aRun_more (Nat.le_max_left n1 n2) hc
  have h2 := aRun_more (Nat.le_max_right n1 n2) h
  refine ⟨max n1 n2 + 1, ?_⟩
  dsimp only [aRun]
  rw [hb, ha]
  dsimp only
  rw [if_pos hk, hc2]
  exact h2
theorem aX_calli {pc idx z na ml ci : Nat} {q r : Int} {as v : List aV} (hk : aK S r = 10 + ci) (hb : (Nat.ble na st.length && Nat.ble (aCat (st.drop na)) 8 && Nat.ble (aArg (st.take na).reverse).length ml) = true) (ha : (st.take na).reverse = aR r :: as) (hm : gL z = ml)
    (hc : aE z (aR r :: as) S M (v, S1, M1)) (h : aX C rest ls (v ++ st.drop na) S1 M1 o) : aX C ((pc, .invokespecial idx, [z, na, ml, ci], q) :: rest) ls st S M o := by
  obtain ⟨n1, hc⟩ := hc
  obtain ⟨n2, h⟩ := h
  subst hm
  have hc2 := aRun_more (Nat.le_max_left n1 n2) hc
  have h2 := aRun_more (Nat.le_max_right n1 n2) h
  refine ⟨max n1 n2 + 1, ?_⟩
  dsimp only [aRun]
  rw [hb, ha]
  dsimp only
  rw [if_pos hk, hc2]
  exact h2
theorem aX_calls {pc idx z na ml : Nat} {q : Int} {as v : List aV} (hb : (Nat.ble na st.length && Nat.ble (aCat (st.drop na)) 8 && Nat.ble (aArg (st.take na).reverse).length ml) = true) (ha : (st.take na).reverse = as) (hm : gL z = ml)
    (hc : aE z as S M (v, S1, M1)) (h : aX C rest ls (v ++ st.drop na) S1 M1 o) : aX C ((pc, .invokestatic idx, [z, na, ml], q) :: rest) ls st S M o := by
  obtain ⟨n1, hc⟩ := hc
  obtain ⟨n2, h⟩ := h
  subst hm
  have hc2 := aRun_more (Nat.le_max_left n1 n2) hc
  have h2 := aRun_more (Nat.le_max_right n1 n2) h
  refine ⟨max n1 n2 + 1, ?_⟩
  dsimp only [aRun]
  rw [hb, ha]
  dsimp only
  rw [hc2]
  exact h2
theorem aSwi_d {d x : Int} {ps : Array (Int × Int)} (h : ∀ q ∈ ps.toList, ¬ x = q.1) : aSwi d ps x = d := by
  unfold aSwi
  generalize ps.toList = l at h
  induction l with
  | nil => rfl
  | cons q l ih =>
    unfold Op.lookupswitch.offset
    split
    · rename_i e
      have h1 := h q List.mem_cons_self
      first | omega | exact absurd e h1 | exact absurd e.symm h1 | (simp at e; omega)
    · exact ih (fun z hz => h z (List.mem_cons_of_mem _ hz))
end REL
