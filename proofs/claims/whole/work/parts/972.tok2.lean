/-! TOKENS: the class's scan -/
section TOK2
variable {L : Nat} {M M1 M2 : aM}
theorem s_23 {c a : Int} (ha : a = 0 ∨ a = 1) : aE 23 [aI c, aI a] (SH L) M ([aI (sgC c (decide (a = 1)))], SH L, M) := by
  rcases ha with rfl | rfl
  all_goals
    apply en_23
    repeat' (first | apply And.intro | intro _)
    all_goals first
      | (subst_vars; rfl)
      | (subst_vars; rename_i q; exact absurd rfl q)
      | (refine rI ?_; unfold sgC; rw [if_neg (by assumption), if_neg (by assumption), if_neg (by assumption), if_neg (by assumption), if_neg (by assumption), if_neg (by assumption), if_neg (by assumption), if_neg (by assumption), if_neg (by assumption), if_neg (by assumption)])
      | (exfalso; omega)
theorem en_rng (h : tR M) {p : Int} (p0 : 0 ≤ p) (p1 : p ≤ M 145 0) : p ≤ enT M p ∧ enT M p ≤ M 145 0 ∧ (p < M 145 0 → p < enT M p) := by
  unfold enT
  by_cases c : M 145 0 ≤ p
  · rw [if_pos c]; omega
  · rw [if_neg c]
    by_cases c1 : isL M p = true
    · rw [if_pos c1]
      have := rn_le (p := isL M) (n := M 145 0) (p + 1) (by omega)
      have e : eL M p = eL M (p + 1) := rn_go c1 (by omega)
      rw [e]; unfold eL; omega
    · rw [if_neg c1]
      by_cases c2 : isDg M p = true
      · rw [if_pos c2]
        have := rn_le (p := isDg M) (n := M 145 0) (p + 1) (by omega)
        have e : eD M p = eD M (p + 1) := rn_go c2 (by omega)
        rw [e]; unfold eD; omega
      · rw [if_neg c2]
        by_cases d : dbl M p = true
        · have := of_decide_eq_true (show decide (p + 1 < M 145 0 ∧ M 146 (p + 1) = 61) = true from d)
          split <;> omega
        · have dd : dbl M p = false := by simpa using d
          rw [if_neg]
          · omega
          · rw [dd]
            unfold sgC
            simp only [Bool.false_eq_true, if_false]
            repeat' split
            all_goals omega
theorem s_24 (h : tR M) (c : tC M M1) {i p : Int} (i0 : 0 ≤ i) (i1 : i ≤ 400) (p0 : 0 ≤ p) (p1 : p ≤ M 145 0) (z : M1 7 i = 0) : ∃ M2, aE 24 [aR 4, aI i, aI p] (SH L) M1 ([aI (enT M p)], SH L, M2) ∧ oneF M1 M2 i ∧ M2 5 i = tyC M p ∧ (tyC M p = 2 ∨ tyC M p = 3 → M2 7 i = vaC M p) ∧ (tyC M p = 3 → 0 ≤ vaC M p ∧ vaC M p ≤ 9999) := by
  have h2 := h.2.1
  have h1 := h.1
  have l5 : aLn (SH L) 1 5 = 401 := rfl
  have l2 : aLn (SH L) 3 2 = 2000 := rfl
  by_cases ce : M 145 0 ≤ p
  · have e1 : tyC M p = 0 := by unfold tyC; rw [if_pos ce]
    have e2 : enT M p = p := by unfold enT; rw [if_pos ce]
    rw [e1, e2]
    exact ⟨aSet M1 5 i 0, en_24 ⟨fun q => by omega, fun _ => ⟨fun q => absurd q (by rw [c.2.1]; omega), fun _ => bl_24_12 ⟨by omega, rfl⟩⟩⟩, ⟨fun a a1 a2 => aSet_c a1, fun j hj => aSet_i hj, fun j hj => by rw [aSet_c (by omega)]⟩, aSet_e, fun q => by omega, fun q => by omega⟩
  · have b := tC_b h c (k := p) p0 (by omega)
    have st : ∀ o, (∃ (M2 : aM) (v2 : Int), aE 18 [aI (M1 2 p)] (SH L) M1 ([aI v2], SH L, M2) ∧ ((v2 = 0 → (0 ≤ p ∧ p < aLn (SH L) 3 (M2 4 3)) ∧ (∃ (M3 : aM) (v4 : Int), aE 21 [aI (M2 (M2 4 3) p)] (SH L) M2 ([aI v4], SH L, M3) ∧ ((v4 = 0 → (((M3 4 4) ≤ (aW (p + 1)) → aX xc_24 (aSeek xc_24 86) [aR 4, aI i, aI p, aU] [] (SH L) M3 o) ∧ (¬ ((M3 4 4) ≤ (aW (p + 1))) → (0 ≤ aW (p + 1) ∧ aW (p + 1) < aLn (SH L) 3 (M3 4 3)) ∧ ((¬ (M3 (M3 4 3) (aW (p + 1))) = 61 → aX xc_24 (aSeek xc_24 86) [aR 4, aI i, aI p, aU] [] (SH L) M3 o) ∧ (¬ (¬ (M3 (M3 4 3) (aW (p + 1))) = 61) → aX xc_24 (aSeek xc_24 87) [aR 4, aI i, aI p, aU] [aI 1] (SH L) M3 o))))) ∧ (¬ (v4 = 0) → (∃ (M5 : aM) (v6 : Int), aE 22 [aR 4, aI i, aI p] (SH L) M3 ([aI v6], SH L, M5) ∧ o = ([aI v6], SH L, M5)))))) ∧ (¬ (v2 = 0) → (∃ (M7 : aM) (v8 : Int), aE 20 [aR 4, aI i, aI p] (SH L) M2 ([aI v8], SH L, M7) ∧ o = ([aI v8], SH L, M7))))) → aE 24 [aR 4, aI i, aI p] (SH L) M1 o := fun o r => en_24 ⟨fun q => by omega, fun _ => ⟨fun _ => ⟨by rw [c.1]; omega, by rw [c.1]; exact r⟩, fun q => absurd (by rw [c.2.1]; omega) q⟩⟩
    have vL : (97 ≤ M1 2 p ∧ M1 2 p ≤ 122) ↔ isL M p = true := by
      unfold isL
      rw [decide_eq_true_eq, b.1]
      by_cases w : M 146 p < 128
      · rw [if_pos w]; omega
      · rw [if_neg w]; omega
    have vD : (48 ≤ M1 2 p ∧ M1 2 p ≤ 57) ↔ isDg M p = true := by
      unfold isDg
      rw [decide_eq_true_eq, b.1]
      by_cases w : M 146 p < 128
      · rw [if_pos w]; omega
      · rw [if_neg w]; omega
    by_cases cl : isL M p = true
    · obtain ⟨M2, r, f, t5, t7⟩ := s_20 (L := L) h c i0 i1 p0 (by omega) cl z
      have e2 : enT M p = eL M p := by unfold enT; rw [if_neg ce, if_pos cl]
      have e3 : tyC M p ≠ 3 := by
        unfold tyC
        rw [if_neg ce, if_pos cl]
        split
        · omega
        · split
          · omega
          · rename_i q
            have wb : ∀ (l : List Int) (cs : List Nat) (kk : Int) (u : List Int), 0 ≤ kk → wsU l cs kk u = -1 ∨ 0 ≤ wsU l cs kk u := by
              intro l cs
              induction cs with
              | nil => intro kk u _; exact Or.inl rfl
              | cons x cs ih2 =>
                intro kk u hk
                unfold wsU
                split
                · split
                  · omega
                  · exact ih2 (kk + 1) [] (by omega)
                · exact ih2 kk ((x : Int) :: u) hk
            have wv : wI (rl M p (eL M p - p).toNat) = -1 ∨ 0 ≤ wI (rl M p (eL M p - p).toNat) := wb _ aTxt 0 [] (Int.le_refl _)
            omega
      rw [e2]
      exact ⟨M2, st _ ⟨M1, _, s_18, fun q => absurd (vL.mpr cl) (bid0.mp q), fun _ => ⟨M2, _, r, rfl⟩⟩, f, t5, fun q => t7 (by omega), fun q => absurd q e3⟩
    · have q1 : bi (decide (97 ≤ M1 2 p ∧ M1 2 p ≤ 122)) = 0 := bin (fun w => cl (vL.mp w))
      by_cases cd : isDg M p = true
      · obtain ⟨M2, r, f, t5, t7⟩ := s_22 (L := L) h c i0 i1 p0 (by omega) cl cd z
        have e2 : enT M p = eD M p := by unfold enT; rw [if_neg ce, if_neg cl, if_pos cd]
        have e3 : tyC M p ≠ 2 := by
          unfold tyC
          rw [if_neg ce, if_neg cl, if_pos cd]
          split <;> omega
        rw [e2]
        exact ⟨M2, st _ ⟨M1, _, s_18, fun _ => ⟨by rw [c.1]; omega, M1, _, by rw [c.1]; exact s_21, fun q => absurd (vD.mpr cd) (bid0.mp q), fun _ => ⟨M2, _, r, rfl⟩⟩, fun q => absurd q1 q⟩, f, t5, fun q => (t7 (by omega)).1, fun q => (t7 q).2⟩
      · have q2 : bi (decide (48 ≤ M1 2 p ∧ M1 2 p ≤ 57)) = 0 := bin (fun w => cd (vD.mp w))
        obtain ⟨sg, hsg⟩ : ∃ sg, sg = sgC (M 146 p) (dbl M p) := ⟨_, rfl⟩
        have e1 : tyC M p = sg := by unfold tyC; rw [if_neg ce, if_neg cl, if_neg cd, hsg]
        have e2 : enT M p = if sg = 10 ∨ sg = 11 ∨ sg = 13 then p + 2 else p + 1 := by unfold enT; rw [if_neg ce, if_neg cl, if_neg cd, hsg]
        have sgn : sg ≠ 2 ∧ sg ≠ 3 ∧ 1 ≤ sg ∧ sg ≤ 15 := by
          rw [hsg]
          unfold sgC
          repeat' split
          all_goals omega
        have sE : ∀ d : Int, (d = 0 ∨ d = 1) → d = bi (dbl M p) → aE 23 [aI (M1 2 p), aI d] (SH L) M1 ([aI sg], SH L, M1) := by
          intro d d01 dd
          have := s_23 (L := L) (M := M1) (c := M1 2 p) d01
          have e : sgC (M1 2 p) (decide (d = 1)) = sg := by
            rw [hsg, show decide (d = 1) = dbl M p by rw [dd]; cases dbl M p <;> rfl, b.1]
            by_cases w : M 146 p < 128
            · rw [if_pos w]
            · rw [if_neg w]
              have a1 : ∀ (x : Int) (y : Bool), ¬ (33 ≤ x ∧ x ≤ 61) → sgC x y = 1 := by
                intro x y hx
                unfold sgC
                rw [if_neg (by omega), if_neg (by omega), if_neg (by omega), if_neg (by omega), if_neg (by omega), if_neg (by omega), if_neg (by omega), if_neg (by omega), if_neg (by omega), if_neg (by omega)]
              rw [a1 _ _ (by omega), a1 _ _ (by omega)]
          rw [e] at this
          exact this
        have b01 := bi_01 (dbl M p)
        have fin : ∀ d : Int, d = bi (dbl M p) → aX xc_24 (aSeek xc_24 87) [aR 4, aI i, aI p, aU] [aI d] (SH L) M1 ([aI (enT M p)], SH L, aSet M1 5 i sg) := by
          intro d dd
          refine bl_24_87 ⟨by rw [c.1]; omega, M1, sg, by rw [c.1]; exact sE d (by omega) dd, by omega, by omega, ?_⟩
          rw [aSet_e, e2, aWi (z := p + 1) (by omega) (by omega), aWi (z := p + 2) (by omega) (by omega)]
          exact ⟨fun q => by rw [if_neg (by omega)], fun q => ⟨by omega, fun q2 => by rw [if_neg (by omega)], fun q2 => ⟨by omega, fun q3 => by rw [if_neg (by omega)], fun q3 => by rw [if_pos (by omega)]⟩⟩⟩
        have aW1 : aW (p + 1) = p + 1 := aWi (by omega) (by omega)
        refine ⟨aSet M1 5 i sg, st _ ⟨M1, _, s_18, fun _ => ⟨by rw [c.1]; omega, M1, _, by rw [c.1]; exact s_21, fun _ => ?_, fun q => absurd q2 q⟩, fun q => absurd q1 q⟩, ⟨fun a a1 a2 => aSet_c a1, fun j hj => aSet_i hj, fun j hj => by rw [aSet_c (by omega)]⟩, by rw [aSet_e, e1], fun q => by omega, fun q => by omega⟩
        rw [aW1, c.2.1, c.1]
        have dv : p + 1 < M 145 0 → (dbl M p = true ↔ M1 2 (p + 1) = 61) := by
          intro q
          have b2 := tC_b h c (k := p + 1) (by omega) q
          unfold dbl
          rw [decide_eq_true_eq, b2.1]
          by_cases w : M 146 (p + 1) < 128
          · rw [if_pos w]; omega
          · rw [if_neg w]; omega
        refine ⟨fun q => bl_24_86 (fin 0 (bin ?_).symm), fun q => ⟨by omega, fun q3 => bl_24_86 (fin 0 ?_), fun q3 => fin 1 ?_⟩⟩
        · omega
        · cases hd : dbl M p with
          | false => rfl
          | true => exact absurd ((dv (by omega)).mp hd) q3
        · rw [(dv (by omega)).mpr (Classical.not_not.mp q3)]; rfl
def fm (M : aM) : Nat → Int
  | 0 => 0
  | i + 1 => enT M (pl M i)
theorem pl_fm (i : Nat) : pl M i = skT M (fm M i) := by cases i <;> rfl
theorem sk_rng {k : Int} (k1 : k ≤ M 145 0) : k ≤ skT M k ∧ skT M k ≤ M 145 0 := rn_le k k1
theorem fm_rng (h : tR M) : ∀ i : Nat, (0 ≤ fm M i ∧ fm M i ≤ M 145 0) ∧ 0 ≤ pl M i ∧ pl M i ≤ M 145 0 := by
  have h1 := h.1
  have h2 := h.2.1
  intro i
  induction i with
  | zero => have := sk_rng (M := M) (k := 0) (by omega); exact ⟨⟨Int.le_refl _, by show 0 ≤ M 145 0; omega⟩, this⟩
  | succ i ih =>
    have a := en_rng h ih.2.1 ih.2.2
    have b : 0 ≤ fm M (i + 1) ∧ fm M (i + 1) ≤ M 145 0 := by show 0 ≤ enT M (pl M i) ∧ enT M (pl M i) ≤ M 145 0; omega
    have c := sk_rng (M := M) (k := fm M (i + 1)) b.2
    rw [pl_fm]
    exact ⟨b, by omega, c.2⟩
def tkC (M M2 : aM) (N : Nat) : Prop := N ≤ 400 ∧ (∀ i : Nat, i ≤ N → M2 5 (i : Int) = tyC M (pl M i) ∧ M2 6 (i : Int) = pl M i ∧ (tyC M (pl M i) = 2 ∨ tyC M (pl M i) = 3 → M2 7 (i : Int) = vaC M (pl M i)) ∧ (tyC M (pl M i) = 3 → 0 ≤ vaC M (pl M i) ∧ vaC M (pl M i) ≤ 9999)) ∧
  (∀ i : Nat, i < N → ¬ (tyC M (pl M i) = 0 ∨ tyC M (pl M i) = 1)) ∧ (N = 400 ∨ tyC M (pl M N) = 0 ∨ tyC M (pl M N) = 1)
theorem s_25 (h : tR M) : ∃ N M2, aE 25 [aR 4, aR 2, aI (M 1 1)] (SH L) M ([], SH L, M2) ∧ (∀ a, a ≠ 4 → a ≠ 5 → a ≠ 6 → a ≠ 7 → M2 a = M a) ∧ tkC M M2 N := by
  have h1 := h.1
  have h2 := h.2.1
  have l5 : aLn (SH L) 1 5 = 401 := rfl
  have l6 : aLn (SH L) 1 6 = 401 := rfl
  have l7 : aLn (SH L) 2 7 = 401 := rfl
  have key : ∀ m : Nat, ∀ i : Nat, ∀ M' : aM, i + m = 401 → tC M M' → (∀ a, a ≠ 4 → a ≠ 5 → a ≠ 6 → a ≠ 7 → M' a = M a) → (∀ j : Nat, j < i → (M' 5 (j : Int) = tyC M (pl M j) ∧ M' 6 (j : Int) = pl M j ∧ (tyC M (pl M j) = 2 ∨ tyC M (pl M j) = 3 → M' 7 (j : Int) = vaC M (pl M j)) ∧ (tyC M (pl M j) = 3 → 0 ≤ vaC M (pl M j) ∧ vaC M (pl M j) ≤ 9999)) ∧ ¬ (tyC M (pl M j) = 0 ∨ tyC M (pl M j) = 1)) →
      ∃ N M2, aX xc_25 (aSeek xc_25 20) [aR 4, aU, aU, aI (fm M i), aI (i : Int)] [] (SH L) M' ([], SH L, M2) ∧ (∀ a, a ≠ 4 → a ≠ 5 → a ≠ 6 → a ≠ 7 → M2 a = M a) ∧ tkC M M2 N := by
    intro m
    induction m with
    | zero =>
      intro i M' im c f hj
      refine ⟨400, M', bl_25_20 ⟨fun _ => rfl, fun q => absurd (by omega) q⟩, f, Nat.le_refl _, fun j hj2 => (hj j (by omega)).1, fun j hj2 => (hj j (by omega)).2, Or.inl rfl⟩
    | succ m ih =>
      intro i M' im c f hj
      have fr1 := fm_rng h i
      have r17 := s_17 (L := L) h c (fm M i) fr1.1.1 fr1.1.2
      rw [← pl_fm] at r17
      obtain ⟨K, hK⟩ : ∃ K, K = aSet (aSet M' 6 (i : Int) (pl M i)) 7 (i : Int) 0 := ⟨_, rfl⟩
      have fK : ∀ a, a ≠ 6 → a ≠ 7 → K a = M' a := fun a a1 a2 => by rw [hK, aSet_c a2, aSet_c a1]
      have cK : tC M K := ⟨by rw [fK 4 (by omega) (by omega)]; exact c.1, by rw [fK 4 (by omega) (by omega)]; exact c.2.1, by rw [fK 2 (by omega) (by omega)]; exact c.2.2⟩
      obtain ⟨M3, r, g, t5, t7, t3⟩ := s_24 (L := L) h cK (i := (i : Int)) (p := pl M i) (by omega) (by omega) fr1.2.1 fr1.2.2 (by rw [hK, aSet_e])
      have c3 := oneF_tC cK g
      have f3 : ∀ a, a ≠ 4 → a ≠ 5 → a ≠ 6 → a ≠ 7 → M3 a = M a := fun a a4 a5 a6 a7 => by rw [g.1 a a5 a7, fK a a6 a7]; exact f a a4 a5 a6 a7
      have all : ∀ j : Nat, j < i + 1 → (M3 5 (j : Int) = tyC M (pl M j) ∧ M3 6 (j : Int) = pl M j ∧ (tyC M (pl M j) = 2 ∨ tyC M (pl M j) = 3 → M3 7 (j : Int) = vaC M (pl M j)) ∧ (tyC M (pl M j) = 3 → 0 ≤ vaC M (pl M j) ∧ vaC M (pl M j) ≤ 9999)) := by
        intro j hj2
        by_cases q : j = i
        · subst q
          exact ⟨t5, by rw [g.1 6 (by omega) (by omega), hK, aSet_c (by omega), aSet_e], t7, t3⟩
        · have x := (hj j (by omega)).1
          have k6 : K 6 (j : Int) = M' 6 (j : Int) := by rw [hK, aSet_c (show (6 : Int) ≠ 7 by omega), aSet_i (by omega)]
          have k7 : K 7 (j : Int) = M' 7 (j : Int) := by rw [hK, aSet_i (by omega), aSet_c (show (7 : Int) ≠ 6 by omega)]
          rw [g.2.1 _ (by omega), g.2.2 _ (by omega), g.1 6 (by omega) (by omega), fK 5 (by omega) (by omega), k6, k7]
          exact x
      have st : ∀ o, ((M3 5 (i : Int) = 0 → o = ([], SH L, M3)) ∧ (¬ (M3 5 (i : Int)) = 0 → (0 ≤ (i : Int) ∧ (i : Int) < aLn (SH L) 1 5) ∧ ((¬ (M3 5 (i : Int)) = 1 → aX xc_25 (aSeek xc_25 20) [aR 4, aU, aU, aI (enT M (pl M i)), aI (aW ((i : Int) + 1))] [] (SH L) M3 o) ∧ (¬ (¬ (M3 5 (i : Int)) = 1) → o = ([], SH L, M3))))) → aX xc_25 (aSeek xc_25 20) [aR 4, aU, aU, aI (fm M i), aI (i : Int)] [] (SH L) M' o := fun o q => bl_25_20 ⟨fun z => absurd z (by omega), fun _ => ⟨M', _, r17, by omega, by omega, M3, _, by rw [← hK]; exact r, by omega, q⟩⟩
      by_cases q : tyC M (pl M i) = 0 ∨ tyC M (pl M i) = 1
      · refine ⟨i, M3, st _ ⟨fun _ => rfl, fun z => ⟨by omega, fun w => ?_, fun _ => rfl⟩⟩, f3, by omega, fun j hj2 => all j (by omega), fun j hj2 => (hj j hj2).2, Or.inr q⟩
        rw [t5] at z w
        rcases q with q | q
        · exact absurd q z
        · exact absurd q w
      · obtain ⟨N, M2, r2, y⟩ := ih (i + 1) M3 (by omega) c3 f3 (fun j hj2 => ⟨all j hj2, by
          by_cases z : j = i
          · rw [z]; exact q
          · exact (hj j (by omega)).2⟩)
        refine ⟨N, M2, st _ ⟨fun z => absurd (Or.inl (by rw [← t5]; exact z)) q, fun _ => ⟨by omega, fun _ => ?_, fun z => absurd (Or.inr (by rw [← t5]; exact Classical.not_not.mp z)) q⟩⟩, y⟩
        rw [aWi (z := (i : Int) + 1) (by omega) (by omega)]
        exact r2
  obtain ⟨K, hK⟩ : ∃ K, K = aSet (aSet M 4 3 2) 4 4 (M 1 1) := ⟨_, rfl⟩
  have fK : ∀ a, a ≠ 4 → K a = M a := fun a ha => by rw [hK, aSet_c ha, aSet_c ha]
  obtain ⟨N, M2, r, y⟩ := key 401 0 K (by omega) ⟨by rw [hK, aSet_i (by omega), aSet_e], by rw [hK, aSet_e, h2], fK 2 (by omega)⟩ (fun a a4 _ _ _ => fK a a4) (fun j hj => by omega)
  refine ⟨N, M2, en_25 ⟨⟨rfl, by omega⟩, rfl, ?_⟩, y⟩
  rw [show aL (SH L) 2 = 2000 from rfl, show min (M 1 1) 2000 = M 1 1 by omega, ← hK]
  exact r
end TOK2
