/-! pages: both -/
section PAGE
variable {L : Nat} {M M1 M2 : aM}
/-- where a page comes to lie: the class -/
def p166 : Nat → Int → Int → Int → Int → Int → Int → Int → Int
  | 0, _, a3, a4, _, _, a7, a8 => aW ((aW ((aW (a3 + (aW (8 * a4)))) + (aW (64 * a7)))) + (aW (128 * a8)))
  | n + 1, a2, a3, a4, a5, a6, a7, a8 =>
    if ¬ aRem ((n + 1 : Nat) : Int) 2 = 1 then
      (if a2 < aDiv (aShl 1 ((n + 1 : Nat) : Int)) 2 then p166 n a2 a3 a4 a5 (aW (2 * a6)) a7 a8 else p166 n (aW ((aW ((aShl 1 ((n + 1 : Nat) : Int)) - 1)) - a2)) a3 (aW ((aW ((aW (2 * a6)) - 1)) - a4)) a5 (aW (2 * a6)) (aW (1 - a7)) (aW (1 - a8)))
    else (if a2 < aDiv (aShl 1 ((n + 1 : Nat) : Int)) 2 then p166 n a2 a3 a4 (aW (2 * a5)) a6 a7 a8 else p166 n (aW ((aW ((aShl 1 ((n + 1 : Nat) : Int)) - 1)) - a2)) (aW ((aW ((aW (2 * a5)) - 1)) - a3)) a4 (aW (2 * a5)) a6 (aW (1 - a7)) a8)
def v166 (n : Nat) (p : Int) : Int := p166 n (aDiv p 2) 0 0 1 1 (aRem p 2) 0
theorem s_166 {n : Nat} (hn : n ≤ 10) {p : Int} : aE 166 [aI (n : Int), aI p] (SH L) M ([aI (v166 n p)], SH L, M) := by
  have key : ∀ n : Nat, n ≤ 10 → ∀ a2 a3 a4 a5 a6 a7 a8 : Int, aX xc_166 (aSeek xc_166 26) [aU, aU, aI a2, aI a3, aI a4, aI a5, aI a6, aI a7, aI a8, aI (n : Int), aU, aU] [] (SH L) M ([aI (p166 n a2 a3 a4 a5 a6 a7 a8)], SH L, M) := by
    intro n
    induction n with
    | zero =>
      intro _ a2 a3 a4 a5 a6 a7 a8
      exact bl_166_26 ⟨fun _ => rfl, fun q => absurd (by decide) q⟩
    | succ n ih =>
      intro hn a2 a3 a4 a5 a6 a7 a8
      have nx : ∀ a2 a3 a4 a5 a6 a7 a8 : Int, aX xc_166 (aSeek xc_166 136) [aU, aU, aI a2, aI a3, aI a4, aI a5, aI a6, aI a7, aI a8, aI ((n + 1 : Nat) : Int), aU, aU] [] (SH L) M ([aI (p166 n a2 a3 a4 a5 a6 a7 a8)], SH L, M) := by
        intro a2 a3 a4 a5 a6 a7 a8
        apply bl_166_136
        rw [aWi (z := ((n + 1 : Nat) : Int) + (-1)) (by omega) (by omega), show ((n + 1 : Nat) : Int) + (-1) = n by omega]
        exact ih (by omega) a2 a3 a4 a5 a6 a7 a8
      unfold p166
      refine bl_166_26 ⟨fun q => absurd q (by omega), fun _ => ⟨fun q => ?_, fun q => ?_⟩⟩
      · rw [if_pos q]
        refine bl_166_45 ⟨fun _ => bl_166_61 ⟨fun _ => bl_166_77 ⟨fun r => ?_, fun r => ⟨fun _ => ?_, fun z => absurd rfl z⟩⟩, fun z => absurd rfl z⟩, fun z => absurd rfl z⟩
        · rw [if_pos r]; exact nx _ _ _ _ _ _ _
        · rw [if_neg r]; exact nx _ _ _ _ _ _ _
      · rw [if_neg q]
        refine bl_166_45 ⟨fun z => absurd z (by decide), fun _ => bl_166_61 ⟨fun z => absurd z (by decide), fun _ => bl_166_77 ⟨fun r => ?_, fun r => ⟨fun z => absurd z (by decide), fun _ => ?_⟩⟩⟩⟩
        · rw [if_pos r]; exact nx _ _ _ _ _ _ _
        · rw [if_neg r]; exact nx _ _ _ _ _ _ _
  exact en_166 (key n hn _ _ _ _ _ _ _)
/-- stacks of leaves: the model -/
def uSt (st : Nat → List Int) (a : Nat) (c : List Int) : Nat → List Int := fun i => if i = a then c else st i
def mvs (st : Nat → List Int) (a b x : Int) : Nat → List Int := uSt st a.toNat (st a.toNat ++ (st b.toNat).reverse.map (fun y => aXor y x))
def mvk (st : Nat → List Int) (a b : Int) : Bool := decide ((0 ≤ a ∧ a < 16) ∧ (0 ≤ b ∧ b < 16) ∧ a ≠ b ∧ (st a.toNat).length + (st b.toNat).length ≤ 16)
def lf (st : Nat → List Int) (M : aM) : Prop := ∀ a : Nat, a < 16 → (st a).length ≤ 16 ∧ M 207 a = ((st a).length : Int) ∧ ∀ k : Nat, k < (st a).length → M 206 (16 * a + k) = (st a).getD k 0
theorem lf_psh {st : Nat → List Int} {a : Nat} {c : List Int} {v : Int} (ha : a < 16) (hc : c.length < 16) (h : lf (uSt st a c) M) : lf (uSt st a (c ++ [v])) (aSet (aSet M 206 (16 * a + c.length) v) 207 a (c.length + 1)) := by
  intro i hi
  have g := h i hi
  unfold uSt at g ⊢
  by_cases e : i = a
  · subst e
    rw [if_pos rfl] at g ⊢
    obtain ⟨g1, g2, g3⟩ := g
    refine ⟨by rw [List.length_append]; exact hc, by rw [aSet_e, List.length_append]; rfl, fun k hk => ?_⟩
    rw [aSet_r (by omega)]
    rw [List.length_append, show [v].length = 1 from rfl] at hk
    by_cases e2 : k = c.length
    · subst e2
      rw [aSet_e, List.getD_eq_getElem?_getD, List.getElem?_append_right (Nat.le_refl _), Nat.sub_self]; rfl
    · rw [aSet_i (by omega), g3 k (by omega), List.getD_eq_getElem?_getD, List.getD_eq_getElem?_getD, List.getElem?_append_left (by omega)]
  · rw [if_neg e] at g ⊢
    obtain ⟨g1, g2, g3⟩ := g
    refine ⟨g1, by rw [aSet_i (by omega), aSet_r (by omega)]; exact g2, fun k hk => ?_⟩
    rw [aSet_r (by omega), aSet_i (by omega)]
    exact g3 k hk
theorem uSt_u {st : Nat → List Int} {a : Nat} {c d : List Int} : uSt (uSt st a c) a d = uSt st a d := by
  funext i
  unfold uSt
  by_cases e : i = a
  · rw [if_pos e, if_pos e]
  · rw [if_neg e, if_neg e, if_neg e]
theorem uSt_id {st : Nat → List Int} {a : Nat} : uSt st a (st a) = st := by
  funext i
  unfold uSt
  by_cases e : i = a
  · rw [if_pos e, e]
  · rw [if_neg e]
theorem s_304 {st : Nat → List Int} {a b x : Int} (hk : mvk st a b = true) (h : lf st M) : ∃ M1, aE 304 [aR 145, aI a, aI b, aI x] (SH L) M ([], SH L, M1) ∧ lf (mvs st a b x) M1 ∧ fr 206 207 M M1 := by
  unfold mvk at hk
  obtain ⟨h1, h2, h3, h4⟩ := of_decide_eq_true hk
  obtain ⟨i, hi⟩ : ∃ i : Nat, a = i := ⟨a.toNat, by omega⟩
  obtain ⟨j, hj⟩ : ∃ j : Nat, b = j := ⟨b.toNat, by omega⟩
  subst hi hj
  unfold mvs
  rw [Int.toNat_natCast, Int.toNat_natCast] at h4 ⊢
  obtain ⟨l2, hl2⟩ : ∃ l2, l2 = st j := ⟨_, rfl⟩
  rw [← hl2] at h4 ⊢
  have ub : ∀ c, uSt st i c j = l2 := fun c => by unfold uSt; rw [if_neg (by omega), hl2]
  have key : ∀ n : Nat, ∀ (c : List Int) (M' : aM), n ≤ l2.length → c.length + n ≤ 16 → lf (uSt st i c) M' → ∃ M1, aX xc_304 (aSeek xc_304 10) [aR 145, aI i, aI j, aI x, aI ((n : Int) - 1)] [] (SH L) M' ([], SH L, M1) ∧ lf (uSt st i (c ++ (l2.take n).reverse.map (fun y => aXor y x))) M1 ∧ fr 206 207 M' M1 := by
    intro n
    induction n with
    | zero =>
      intro c M' n1 n2 g
      refine ⟨M', bl_304_10 ⟨fun _ => rfl, fun q => absurd (by decide) q⟩, ?_, fr_rf⟩
      rw [List.take_zero]
      show lf (uSt st i (c ++ [])) M'
      rw [List.append_nil]; exact g
    | succ n ih =>
      intro c M' n1 n2 g
      have g1 := g j (by omega)
      rw [ub] at g1
      have g2 := g i (by omega)
      have ui : uSt st i c i = c := by unfold uSt; rw [if_pos rfl]
      rw [ui] at g2
      have gn := g1.2.2 n (by omega)
      obtain ⟨M1, r, l, f⟩ := ih (c ++ [aXor (l2.getD n 0) x]) (aSet (aSet M' 206 (16 * i + c.length) (aXor (l2.getD n 0) x)) 207 i (c.length + 1)) (by omega) (by rw [List.length_append]; show c.length + 1 + n ≤ 16; omega) (lf_psh (by omega) (by omega) g)
      refine ⟨M1, bl_304_10 ⟨fun q => absurd q (by omega), fun _ => ?_⟩, ?_, ?_⟩
      · simp only [ln0, ln1, ln2, ln3, ln4]
        rw [g2.2.1, show ((n + 1 : Nat) : Int) - 1 = n by omega]
        rw [aWi (z := 16 * (j : Int)) (by omega) (by omega), aWi (z := 16 * (j : Int) + n) (by omega) (by omega), aWi (z := 16 * (i : Int)) (by omega) (by omega), aWi (z := 16 * (i : Int) + c.length) (by omega) (by omega), gn, aSet_r (show (207 : Int) ≠ 206 by omega), g2.2.1, aWi (z := (c.length : Int) + 1) (by omega) (by omega), aWi (z := (n : Int) + (-1)) (by omega) (by omega)]
        exact ⟨by omega, by omega, by omega, by omega, by omega, r⟩
      · rw [List.append_assoc] at l
        have e : l2.take (n + 1) = l2.take n ++ [l2.getD n 0] := by
          rw [List.take_succ, List.getD_eq_getElem?_getD, List.getElem?_eq_getElem (by omega)]; rfl
        rw [e, List.reverse_append, List.map_append]
        exact l
      · exact fr_tr (fr_set (fr_set fr_rf (by omega)) (by omega)) f
  obtain ⟨M1, r, l, f⟩ := key l2.length (st i) M (Nat.le_refl _) h4 (by rw [uSt_id]; exact h)
  rw [List.take_length] at l
  refine ⟨M1, en_304 ?_, l, f⟩
  have g := h j (by omega)
  rw [← hl2] at g
  rw [g.2.1, aWi (by omega) (by omega)]
  exact ⟨by rw [show aLn (SH L) 1 207 = 16 from rfl]; omega, r⟩
def toP (a6 a7 : Int) : Int := aW ((aW (4 * a6)) + a7)
def frP (a2 a3 a5 a6 a7 : Int) : Int := if a5 = 0 then aW ((aW ((aW ((aW (4 * a6)) + (aW (2 * a3)))) - 1)) - a7) else aW ((aW (4 * (aW ((aW ((aW (2 * a2)) - 1)) - a6)))) + a7)
def s305 (f : Int) : Nat → Nat → Int → Int → Int → Int → Int → Int → (Nat → List Int) → Option (Nat → List Int)
  | 0, _, _, _, _, _, _, _, _ => none
  | n + 1, pc, a2, a3, a4, a5, a6, a7, st =>
    if pc = 0 then (if f ≤ a4 then some st else if ¬ aRem a4 2 = 0 then s305 f n 1 a2 (aDiv a3 2) a4 0 0 0 st else s305 f n 1 (aDiv a2 2) a3 a4 1 0 0 st)
    else if pc = 1 then (if a2 ≤ a6 then s305 f n 0 a2 a3 (aW (a4 + 1)) 0 0 0 st else s305 f n 2 a2 a3 a4 a5 a6 0 st)
    else if a3 ≤ a7 then s305 f n 1 a2 a3 a4 a5 (aW (a6 + 1)) 0 st
    else if mvk st (toP a6 a7) (frP a2 a3 a5 a6 a7) = true then s305 f n 2 a2 a3 a4 a5 a6 (aW (a7 + 1)) (mvs st (toP a6 a7) (frP a2 a3 a5 a6 a7) (if a5 = 0 then 3 else 1)) else none
end PAGE
