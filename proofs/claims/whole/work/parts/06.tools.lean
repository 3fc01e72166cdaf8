/-! the world at a state, and what a store makes of it -/
def sT (cy : Nat → ClassId) : List (ClassId × FieldType) := [(cy 1, .int), (cy 2, .long), (cy 3, .byte), (cy 4, .boolean), (cy 5, .object "TypeLock$Bed"), (cy 6, .array .int), (cy 7, .array .long)]
def sA (bs : Nat) : Nat → Prop := fun q => bs ≤ q
section TOOLS
variable {tg : Nat → Nat → Nat} {cy : Nat → ClassId} {sa bs : Nat} {D : va_G} {cl : List vw_C}
def sIn (tg : Nat → Nat → Nat) (cy : Nat → ClassId) (sa bs : Nat) (D : va_G) (cl : List vw_C) (U : State) (H : Heap) (ads : List Nat) (S : aSh) (M : aM) : Prop :=
  va_P D cl (sW tg cy ads sa S M) H ∧ va_D (sA bs) (sW tg cy ads sa S M) ∧ va_K D cl (sT cy) U ∧ ads.length = S.length ∧ ads.getD 0 0 < bs ∧ bs ≤ H.size ∧
  va_X (ads.getD 0 0) (S.getD 0 (0, 0, [])).2.1 (fun j => Int32.ofInt (M 0 (j : Int))) U H ∧ mAll tg S M
theorem cellOf {S : aSh} {M : aM} {r : Int} {κ : Nat} (h : mAll tg S M) (hk : aK S r = κ) (h0 : κ ≠ 0) (h9 : κ ≠ 9) :
    ∃ k : Nat, r = (k : Int) ∧ 1 ≤ k ∧ k < S.length ∧ (S.getD k (0, 0, [])).1 = κ ∧ aCell S r = S.getD k (0, 0, []) ∧ mOk tg S.length (S.getD k (0, 0, [])) (M r) := by
  match r, hk with
  | .negSucc n, hk => exact absurd hk.symm h0
  | .ofNat k, hk =>
    have hk' : (S.getD k (0, 0, [])).1 = κ := hk
    have h1 : 1 ≤ k := by
      rcases Nat.eq_zero_or_pos k with q | q
      · subst q
        exact absurd (hk'.symm.trans h.2.1) h9
      · exact q
    have h2 : k < S.length := by
      rcases Nat.lt_or_ge k S.length with q | q
      · exact q
      · rw [List.getD_eq_getElem?_getD, List.getElem?_eq_none q] at hk'
        exact absurd hk'.symm h0
    exact ⟨k, rfl, h1, h2, hk', rfl, h.2.2.2.2 k h1 h2⟩
theorem cellLn {S : aSh} {κ : Nat} {j r : Int} (h0 : 0 ≤ j) (h : j < aLn S κ r) : aK S r = κ ∧ j < aL S r := by
  unfold aLn at h
  by_cases hk : aK S r = κ
  · rw [if_pos hk] at h
    exact ⟨hk, h⟩
  · rw [if_neg hk] at h
    omega
theorem aSet_at (M : aM) (r i v : Int) : aSet M r i v r = fun b => if b = i then v else M r b := by
  funext b
  simp [aSet]
theorem aSet_off (M : aM) {r i v a : Int} (h : a ≠ r) : aSet M r i v a = M a := by
  funext b
  simp [aSet, h]
theorem mAll_upd {S S' : aSh} {M M' : aM} {k : Nat} (h : mAll tg S M) (h1 : 1 ≤ k) (hl : S'.length = S.length) (hS : ∀ j, j ≠ k → S'.getD j (0, 0, []) = S.getD j (0, 0, [])) (hM : ∀ j : Nat, j ≠ k → M' (j : Int) = M (j : Int))
    (hok : mOk tg S.length (S'.getD k (0, 0, [])) (M' (k : Int))) : mAll tg S' M' := by
  obtain ⟨a1, a2, a3, a4, a5⟩ := h
  have h00 := hS 0 (by omega)
  have hM0 : M' 0 = M 0 := hM 0 (by omega)
  refine ⟨by omega, by rw [h00]; exact a2, by rw [h00]; exact a3, by rw [hM0]; exact a4, fun j h3 h4 => ?_⟩
  rw [hl]
  by_cases e : j = k
  · subst e
    exact hok
  · rw [hS j e, hM j e]
    exact a5 j h3 (by omega)
theorem sIn_upd {U s : State} {H H1 : Heap} {locs locs1 : List Loc} {ads : List Nat} {S S' : aSh} {M M' : aM} {k : Nat} (h : sIn tg cy sa bs D cl U H ads S M) (h1 : 1 ≤ k) (h2 : k < S.length) (hl : S'.length = S.length)
    (hS : ∀ j, j ≠ k → S'.getD j (0, 0, []) = S.getD j (0, 0, [])) (hM : ∀ j : Nat, j ≠ k → M' (j : Int) = M (j : Int)) (hok : mOk tg S.length (S'.getD k (0, 0, [])) (M' (k : Int)))
    (hbs : bs ≤ s.heap.size) (hS0 : va_S (sA bs) s.heap H locs) (hS1 : va_S (sA bs) s.heap H1 locs1) {e : va_E} (he : sE tg cy ads sa (S'.getD k (0, 0, [])) (M' (k : Int)) = e)
    (hP : va_P D cl ((sW tg cy ads sa S M).set (k - 1) (ads.getD k 0, e)) H1) (hD : va_D (sA bs) ((sW tg cy ads sa S M).set (k - 1) (ads.getD k 0, e))) : sIn tg cy sa bs D cl U H1 ads S' M' := by
  obtain ⟨-, -, b3, b4, b5, b6, b7, b8⟩ := h
  rw [← he, sW_set h1 h2 hl hS hM] at hP hD
  have hb : H1[ads.getD 0 0]? = H[ads.getD 0 0]? := by
    rw [hS1.2.1 _ (by omega) (by unfold sA; omega), hS0.2.1 _ (by omega) (by unfold sA; omega)]
  refine ⟨hP, hD, b3, b4.trans hl.symm, b5, Nat.le_trans hbs hS1.1, ?_, mAll_upd b8 h1 hl hS hM hok⟩
  have h00 := hS 0 (by omega)
  have hM0 : M' 0 = M 0 := hM 0 (by omega)
  rw [h00, hM0]
  exact b7.kept hb
/-- one number of a cell is changed -/
theorem sIn_set {U s : State} {H H1 : Heap} {locs locs1 : List Loc} {ads : List Nat} {S : aSh} {M : aM} {k : Nat} {j v : Int} (h : sIn tg cy sa bs D cl U H ads S M) (h1 : 1 ≤ k) (h2 : k < S.length)
    (hok : mOk tg S.length (S.getD k (0, 0, [])) (fun b => if b = j then v else M (k : Int) b))
    (hbs : bs ≤ s.heap.size) (hS0 : va_S (sA bs) s.heap H locs) (hS1 : va_S (sA bs) s.heap H1 locs1) {e : va_E} (he : sE tg cy ads sa (S.getD k (0, 0, [])) (fun b => if b = j then v else M (k : Int) b) = e)
    (hP : va_P D cl ((sW tg cy ads sa S M).set (k - 1) (ads.getD k 0, e)) H1) (hD : va_D (sA bs) ((sW tg cy ads sa S M).set (k - 1) (ads.getD k 0, e))) : sIn tg cy sa bs D cl U H1 ads S (aSet M (k : Int) j v) :=
  sIn_upd (M' := aSet M (k : Int) j v) h h1 h2 rfl (fun _ _ => rfl) (fun i hi => aSet_off M (by omega)) (by rw [aSet_at]; exact hok) hbs hS0 hS1 (by rw [aSet_at]; exact he) hP hD
theorem mOk_int {N : Nat} {c : Nat × Nat × List Int} {f : Int → Int} {j v : Int} (h : mOk tg N c f) (h2 : c.1 ≠ 2) (h3 : c.1 < 10) (hv : xI v) : mOk tg N c (fun b => if b = j then v else f b) := by
  refine ⟨fun q => absurd q h2, fun _ _ b => ?_, fun q => absurd q (by omega), h.2.2.2⟩
  dsimp only
  split
  · exact hv
  · exact h.2.1 h2 h3 b
theorem mOk_long {N : Nat} {c : Nat × Nat × List Int} {f : Int → Int} {j v : Int} (h : mOk tg N c f) (h2 : c.1 = 2) (hv : xL v) : mOk tg N c (fun b => if b = j then v else f b) := by
  refine ⟨fun q b => ?_, fun q => absurd h2 q, fun q => absurd q (by omega), h.2.2.2⟩
  dsimp only
  split
  · exact hv
  · exact h.1 h2 b
theorem mOk_obj {N ci j : Nat} {c : Nat × Nat × List Int} {f : Int → Int} {v : Int} (h : mOk tg N c f) (h2 : c.1 = 10 + ci) (hv1 : tg ci j = 1 → xL v) (hv2 : tg ci j = 2 → xR N v) (hv3 : tg ci j ≠ 1 → tg ci j ≠ 2 → xI v) : mOk tg N c (fun b => if b = (j : Int) then v else f b) := by
  have e : c.1 - 10 = ci := by omega
  refine ⟨fun q => absurd q (by omega), fun _ q => absurd q (by omega), fun q i => ?_, h.2.2.2⟩
  have h3 := h.2.2.1 q i
  rw [e] at h3 ⊢
  dsimp only
  by_cases c2 : (i : Int) = (j : Int)
  · have c3 : i = j := Int.ofNat_inj.mp c2
    subst c3
    rw [if_pos rfl]
    exact ⟨hv1, hv2, hv3⟩
  · rw [if_neg c2]
    exact h3
theorem fun_upd {f : Int → Int} {j : Int} {v : Int} (h0 : 0 ≤ j) : (fun i : Nat => Int32.ofInt (if (i : Int) = j then v else f (i : Int))) = upd (fun i : Nat => Int32.ofInt (f (i : Int))) j.toNat (Int32.ofInt v) := by
  funext i
  unfold upd
  by_cases c : (i : Int) = j
  · rw [if_pos c, if_pos (by omega)]
  · rw [if_neg c, if_neg (by omega)]
theorem fun_updL {f : Int → Int} {j : Int} {v : Int} (h0 : 0 ≤ j) : (fun i : Nat => Int64.ofInt (if (i : Int) = j then v else f (i : Int))) = vp_updL (fun i : Nat => Int64.ofInt (f (i : Int))) j.toNat (Int64.ofInt v) := by
  funext i
  unfold vp_updL
  by_cases c : (i : Int) = j
  · rw [if_pos c, if_pos (by omega)]
  · rw [if_neg c, if_neg (by omega)]
theorem range_set {α : Type} {n j : Nat} {g g' : Nat → α} (hj : j < n) (h : ∀ i, i ≠ j → g' i = g i) : (List.range n).map g' = ((List.range n).map g).set j (g' j) := by
  apply List.ext_getElem?
  intro i
  by_cases c : i = j
  · subst c
    rw [List.getElem?_set_self (by rw [List.length_map, List.length_range]; exact hj), List.getElem?_map, List.getElem?_range hj]
    rfl
  · rw [List.getElem?_set_ne (fun q => c q.symm), List.getElem?_map, List.getElem?_map]
    by_cases hb : i < n
    · rw [List.getElem?_range hb]
      show some (g' i) = some (g i)
      rw [h i c]
    · rw [List.getElem?_eq_none (by rw [List.length_range]; omega)]
      rfl
theorem aNew_off (M : aM) {r a : Int} {f : Int → Int} (h : a ≠ r) : aNew M r f a = M a := by
  funext b
  simp [aNew, h]
theorem aNew_at (M : aM) (r : Int) (f : Int → Int) : aNew M r f r = f := by
  funext b
  simp [aNew]
theorem sIn_push {U s : State} {H H1 : Heap} {locs locs1 : List Loc} {ads : List Nat} {S : aSh} {M M' : aM} {q : Nat} {c : Nat × Nat × List Int} (h : sIn tg cy sa bs D cl U H ads S M) (hM : ∀ k : Nat, k < S.length → M' (k : Int) = M (k : Int)) (hok : mOk tg (S.length + 1) c (M' (S.length : Int)))
    (hbs : bs ≤ s.heap.size) (hS0 : va_S (sA bs) s.heap H locs) (hS1 : va_S (sA bs) s.heap H1 locs1) {e : va_E} (he : sE tg cy (ads ++ [q]) sa c (M' (S.length : Int)) = e)
    (hP : va_P D cl (sW tg cy ads sa S M ++ [(q, e)]) H1) (hD : va_D (sA bs) (sW tg cy ads sa S M ++ [(q, e)])) : sIn tg cy sa bs D cl U H1 (ads ++ [q]) (S ++ [c]) M' := by
  obtain ⟨-, -, b3, b4, b5, b6, b7, b8⟩ := h
  rw [sW_push b8 b4 hM he] at hP hD
  have hb : H1[ads.getD 0 0]? = H[ads.getD 0 0]? := by
    rw [hS1.2.1 _ (by omega) (by unfold sA; omega), hS0.2.1 _ (by omega) (by unfold sA; omega)]
  have h1 := b8.1
  have e0 : (ads ++ [q]).getD 0 0 = ads.getD 0 0 := getD_app (by omega)
  have e1 : (S ++ [c]).getD 0 (0, 0, []) = S.getD 0 (0, 0, []) := getD_app (by omega)
  have hM0 : M' 0 = M 0 := hM 0 (by omega)
  refine ⟨hP, hD, b3, by rw [List.length_append, List.length_append, b4]; rfl, by rw [e0]; exact b5, Nat.le_trans hbs hS1.1, ?_, sIn_pushW b8 hM hok⟩
  rw [e0, e1, hM0]
  exact b7.kept hb
theorem sL_grow {ads l2 : List Nat} {sa : Nat} {ls : List aV} {nL : Nat} {lsM : Array Slot} (h : sL ads sa ls nL lsM) (hok : ∀ v ∈ ls, sOk ads.length v) : sL (ads ++ l2) sa ls nL lsM :=
  sL_of h.2 h.1 (fun i v hi hv => by rw [sV_app (hok v (List.mem_of_getElem? hi))]; exact sP_mem hi hv)
theorem map_grow {ads l2 : List Nat} {sa : Nat} {st : List aV} (hok : ∀ v ∈ st, sOk ads.length v) : st.map (sV (ads ++ l2) sa) = st.map (sV ads sa) :=
  List.map_congr_left (fun v hv => sV_app (hok v hv))
theorem sOk_grow {N N' : Nat} (h : N ≤ N') {v : aV} (hv : sOk N v) : sOk N' v := by
  match v, hv with
  | .inl z, hv => exact hv
  | .inr (.inl z), hv => exact hv
  | .inr (.inr (some z)), hv => exact ⟨hv.1, by have := hv.2; omega⟩
  | .inr (.inr none), _ => trivial
theorem sK_cy {cA : ClassId} {U : State} {t : FieldType} {k : Nat} {c0 : ClassId} (hK : va_K D cl (sT cy) U) (hk : (sT cy)[k]? = some (c0, t)) (hA : ArrOfT U cA t ∧ va_RA U cA t) : cA = c0 := by
  have h1 := (hK.2 k _ hk).2
  have h2 := hA.2
  have key : ∀ u, va_RA U u t → U.vm.findClass ("[" ++ t.toString) = some u := by
    intro u hu
    unfold va_RA at hu
    split at hu
    · obtain ⟨_, _, _, _, _, h⟩ := hu
      exact h
    · exact hu
  exact Option.some.inj ((key _ h2).symm.trans (key _ h1))
end TOOLS
