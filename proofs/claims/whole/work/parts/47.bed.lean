/-! beds that change: the class */ -/
section BEDC
variable {L : Nat} {M M1 M2 : aM}
def bAdd (M : aM) (b k so x y w h t : Int) : aM := aSet (aSet (aSet (aSet (aSet (aSet (aSet (aSet M (b + 1) (M b 0) k) (b + 2) (M b 0) so) (b + 3) (M b 0) x) (b + 4) (M b 0) y) (b + 5) (M b 0) w) (b + 6) (M b 0) h) (b + 7) (M b 0) t) b 0 (M b 0 + 1)
theorem s_61 {b k so x y w h t : Int} (hb : isBd b) (hn : 0 ≤ M b 0 ∧ M b 0 < 40) (ht : t = 0 ∨ t = 1) : aE 61 [aR b, aI k, aI so, aI x, aI y, aI w, aI h, aI t] (SH L) M ([], SH L, bAdd M b k so x y w h t) := by
  have bl := bd_le hb
  apply en_61
  simp only [bd hb]
  simp (disch := omega) only [aSet_c]
  rw [aWi (z := M b 0 + 1) (by omega) (by omega)]
  refine ⟨trivial, fun q => absurd q (by omega), fun _ => ?_⟩
  refine ⟨trivial, trivial, by omega, trivial, trivial, by omega, trivial, trivial, by omega, trivial, trivial, by omega, trivial, trivial, by omega, trivial, trivial, by omega, trivial, trivial, ⟨by omega, ht⟩, trivial, trivial, rfl⟩
theorem bAdd_r {b k so x y w h t i : Int} : bAdd M b k so x y w h t (b + 1) i = (if i = M b 0 then k else M (b + 1) i) ∧ bAdd M b k so x y w h t (b + 2) i = (if i = M b 0 then so else M (b + 2) i) ∧ bAdd M b k so x y w h t (b + 3) i = (if i = M b 0 then x else M (b + 3) i) ∧ bAdd M b k so x y w h t (b + 4) i = (if i = M b 0 then y else M (b + 4) i) ∧
    bAdd M b k so x y w h t (b + 5) i = (if i = M b 0 then w else M (b + 5) i) ∧ bAdd M b k so x y w h t (b + 6) i = (if i = M b 0 then h else M (b + 6) i) ∧ bAdd M b k so x y w h t (b + 7) i = (if i = M b 0 then t else M (b + 7) i) := by
  unfold bAdd
  refine ⟨?_, ?_, ?_, ?_, ?_, ?_, ?_⟩
  all_goals (simp (disch := omega) only [aSet_c, aSet_q])
theorem bAdd_0 {b k so x y w h t : Int} : bAdd M b k so x y w h t b 0 = M b 0 + 1 := aSet_e
theorem bAdd_j {b k so x y w h t j : Int} (hj : j ≠ 0) : bAdd M b k so x y w h t b j = M b j := by
  unfold bAdd
  rw [aSet_i hj]
  simp (disch := omega) only [aSet_c]
theorem bAdd_c {b k so x y w h t a : Int} (ha : a < b ∨ b + 7 < a) : bAdd M b k so x y w h t a = M a := by
  unfold bAdd
  simp (disch := omega) only [aSet_c]
/-- the rows of a thing -/
def thE (M : aM) (b i : Int) (M1 : aM) (c j : Int) : Prop := M (b + 1) i = M1 (c + 1) j ∧ M (b + 2) i = M1 (c + 2) j ∧ M (b + 3) i = M1 (c + 3) j ∧ M (b + 4) i = M1 (c + 4) j ∧ M (b + 5) i = M1 (c + 5) j ∧ M (b + 6) i = M1 (c + 6) j ∧ M (b + 7) i = M1 (c + 7) j
theorem thE_add {b c i j : Int} : i = M b 0 → thE (bAdd M b (M2 (c + 1) j) (M2 (c + 2) j) (M2 (c + 3) j) (M2 (c + 4) j) (M2 (c + 5) j) (M2 (c + 6) j) (M2 (c + 7) j)) b i M2 c j := by
  intro e
  obtain ⟨r1, r2, r3, r4, r5, r6, r7⟩ := bAdd_r (M := M) (b := b) (k := M2 (c + 1) j) (so := M2 (c + 2) j) (x := M2 (c + 3) j) (y := M2 (c + 4) j) (w := M2 (c + 5) j) (h := M2 (c + 6) j) (t := M2 (c + 7) j) (i := i)
  unfold thE
  rw [r1, r2, r3, r4, r5, r6, r7, if_pos e, if_pos e, if_pos e, if_pos e, if_pos e, if_pos e, if_pos e]
  exact ⟨rfl, rfl, rfl, rfl, rfl, rfl, rfl⟩
theorem thE_off {b k so x y w h t i c j : Int} (hi : i ≠ M b 0) (he : thE M b i M2 c j) : thE (bAdd M b k so x y w h t) b i M2 c j := by
  obtain ⟨r1, r2, r3, r4, r5, r6, r7⟩ := bAdd_r (M := M) (b := b) (k := k) (so := so) (x := x) (y := y) (w := w) (h := h) (t := t) (i := i)
  unfold thE
  rw [r1, r2, r3, r4, r5, r6, r7, if_neg hi, if_neg hi, if_neg hi, if_neg hi, if_neg hi, if_neg hi, if_neg hi]
  exact he
theorem thE_rf {b i : Int} : thE M b i M b i := ⟨rfl, rfl, rfl, rfl, rfl, rfl, rfl⟩
/-- the one that moves up behind one that is taken away -/
def skI (t i : Int) : Int := if i < t then i else i + 1
theorem s_64 (hb : bOk M 31) {t : Int} (t0 : 0 ≤ t) (t1 : t < M 31 0) : ∃ M1, aE 64 [aR 31, aI t] (SH L) M ([], SH L, M1) ∧ fr 31 38 M M1 ∧ M1 31 0 = M 31 0 - 1 ∧ (∀ j, j ≠ 0 → M1 31 j = M 31 j) ∧ ∀ i, 0 ≤ i → i < M 31 0 - 1 → thE M1 31 i M 31 (skI t i) := by
  have n := hb.2.1
  have key : ∀ i, ∀ M' : aM, t + 1 ≤ i → i ≤ M 31 0 → fr 31 38 M M' → M' 31 0 = i - 1 → (∀ j, j ≠ 0 → M' 31 j = M 31 j) → (∀ k, 0 ≤ k → k < i - 1 → thE M' 31 k M 31 (skI t k)) → (∀ k, i - 1 ≤ k → k < M 31 0 → thE M' 31 k M 31 k) →
      ∃ M1, aX xc_64 (aSeek xc_64 25) [aR 31, aU, aI (M 31 0 - 1), aI i] [] (SH L) M' ([], SH L, M1) ∧ fr 31 38 M M1 ∧ M1 31 0 = M 31 0 - 1 ∧ (∀ j, j ≠ 0 → M1 31 j = M 31 j) ∧ ∀ i, 0 ≤ i → i < M 31 0 - 1 → thE M1 31 i M 31 (skI t i) := by
    refine upto (M 31 0) (fun i hi M' i0 i1 f e0 ej lo hi' => ?_) (fun i hi ih M' i0 i1 f e0 ej lo hi' => ?_)
    · have e : i = M 31 0 := by omega
      subst e
      exact ⟨M', bl_64_25 ⟨fun _ => rfl, fun q => absurd (by omega) q⟩, f, e0, ej, lo⟩
    · obtain ⟨v1, v2, v3, v4, v5, v6, v7⟩ := hi' i (by omega) hi
      have a := b31 hb (show 0 ≤ i by omega) hi
      have e61 := s_61 (L := L) (M := M') (b := 31) (k := M 32 i) (so := M 33 i) (x := M 34 i) (y := M 35 i) (w := M 36 i) (h := M 37 i) (t := M 38 i) bd31 (by omega) a.2.2.2.2
      have ex : thE (bAdd M' 31 (M 32 i) (M 33 i) (M 34 i) (M 35 i) (M 36 i) (M 37 i) (M 38 i)) 31 (i - 1) M 31 i := thE_add (M := M') (M2 := M) (b := 31) (c := 31) (i := i - 1) (j := i) (by omega)
      obtain ⟨M1, r, x⟩ := ih (bAdd M' 31 (M 32 i) (M 33 i) (M 34 i) (M 35 i) (M 36 i) (M 37 i) (M 38 i)) (by omega) (by omega) (fun a ha => (bAdd_c (by omega)).trans (f a ha)) (by rw [bAdd_0, e0]; omega) (fun j hj => by rw [bAdd_j hj]; exact ej j hj) (fun k k0 k1 => by
        by_cases c : k = i - 1
        · rw [c, show skI t (i - 1) = i by unfold skI; rw [if_neg (by omega)]; omega]
          exact ex
        · exact thE_off (by omega) (lo k k0 (by omega))) (fun k k0 k1 => thE_off (by omega) (hi' k (by omega) k1))
      refine ⟨M1, bl_64_25 ⟨fun q => absurd q (by omega), fun _ => ?_⟩, x⟩
      simp only [bd bd31]
      rw [v1, v2, v3, v4, v5, v6, v7, aWi (by omega) (by omega)]
      exact ⟨trivial, by omega, trivial, by omega, trivial, by omega, trivial, by omega, trivial, by omega, trivial, by omega, trivial, by omega, trivial, _, e61, r⟩
  obtain ⟨M1, r, x⟩ := key (t + 1) (aSet M 31 0 t) (by omega) (by omega) (fr_set fr_rf (by omega)) (by rw [aSet_e]; omega) (fun j hj => aSet_i hj) (fun k k0 k1 => by
      rw [show skI t k = k by unfold skI; rw [if_pos (by omega)]]
      unfold thE
      simp (disch := omega) only [aSet_c]
      exact ⟨trivial, trivial, trivial, trivial, trivial, trivial, trivial⟩) (fun k k0 k1 => by
      unfold thE
      simp (disch := omega) only [aSet_c]
      exact ⟨trivial, trivial, trivial, trivial, trivial, trivial, trivial⟩)
  refine ⟨M1, en_64 ⟨rfl, M, _, s_63 bd31, fun _ => ⟨rfl, rfl, ?_⟩, fun q => binn (show 0 ≤ t ∧ t < M 31 0 from ⟨t0, t1⟩) q⟩, x⟩
  rw [aWi (by omega) (by omega), aWi (by omega) (by omega)]
  exact r
theorem s_173 {b c : Int} (hb : isBd b) (hc : bOk M c) (hbc : b ≠ c) : ∃ M1, aE 173 [aR b, aR c] (SH L) M ([], SH L, M1) ∧ fr b (b + 7) M M1 ∧ M1 b 0 = M c 0 ∧ M1 b 8 = M c 8 ∧ (∀ j, j ≠ 0 → j ≠ 8 → M1 b j = M b j) ∧ ∀ i, 0 ≤ i → i < M c 0 → thE M1 b i M c i := by
  have n := hc.2.1
  have dis : c + 8 ≤ b ∨ b + 8 ≤ c := by
    have h1 := hb
    have h2 := hc.1
    unfold isBd at h1 h2
    omega
  have key : ∀ i, ∀ M' : aM, 0 ≤ i → i ≤ M c 0 → fr b (b + 7) M M' → M' b 0 = i → (∀ j, j ≠ 0 → M' b j = M b j) → (∀ k, 0 ≤ k → k < i → thE M' b k M c k) →
      ∃ M1, aX xc_173 (aSeek xc_173 7) [aR b, aR c, aI i] [] (SH L) M' ([], SH L, M1) ∧ fr b (b + 7) M M1 ∧ M1 b 0 = M c 0 ∧ M1 b 8 = M c 8 ∧ (∀ j, j ≠ 0 → j ≠ 8 → M1 b j = M b j) ∧ ∀ i, 0 ≤ i → i < M c 0 → thE M1 b i M c i := by
    refine upto (M c 0) (fun i hi M' i0 i1 f e0 ej v => ?_) (fun i hi ih M' i0 i1 f e0 ej v => ?_)
    · have e : i = M c 0 := by omega
      subst e
      refine ⟨aSet M' b 8 (M c 8), bl_173_7 ?_, fr_set f (by omega), by rw [aSet_i (by omega)]; exact e0, aSet_e, fun j j0 j8 => by rw [aSet_i j8]; exact ej j j0, fun k k0 k1 => ?_⟩
      · rw [f c (by omega)]
        exact ⟨(bd hc.1).1, fun _ => ⟨(bd hc.1).1, (bd hb).1, rfl⟩, fun q => absurd hi q⟩
      · have := v k k0 k1
        unfold thE at this ⊢
        simp (disch := omega) only [aSet_c]
        exact this
    · have a := hc.2.2 i i0 hi
      have e61 := s_61 (L := L) (M := M') (b := b) (k := M (c + 1) i) (so := M (c + 2) i) (x := M (c + 3) i) (y := M (c + 4) i) (w := M (c + 5) i) (h := M (c + 6) i) (t := M (c + 7) i) hb (by omega) a.2.2.2.2
      obtain ⟨M1, r, x⟩ := ih (bAdd M' b (M (c + 1) i) (M (c + 2) i) (M (c + 3) i) (M (c + 4) i) (M (c + 5) i) (M (c + 6) i) (M (c + 7) i)) (by omega) (by omega) (fun a ha => (bAdd_c (by omega)).trans (f a ha)) (by rw [bAdd_0, e0]) (fun j hj => by rw [bAdd_j hj]; exact ej j hj) (fun k k0 k1 => by
        by_cases d : k = i
        · rw [d]; exact thE_add (by omega)
        · exact thE_off (by omega) (v k k0 (by omega)))
      refine ⟨M1, bl_173_7 ?_, x⟩
      simp only [bd hc.1, bd hb]
      rw [f c (by omega), f (c + 1) (by omega), f (c + 2) (by omega), f (c + 3) (by omega), f (c + 4) (by omega), f (c + 5) (by omega), f (c + 6) (by omega), f (c + 7) (by omega), aWi (by omega) (by omega)]
      exact ⟨trivial, fun q => absurd hi (by omega), fun _ => ⟨trivial, by omega, trivial, by omega, trivial, by omega, trivial, by omega, trivial, by omega, trivial, by omega, trivial, by omega, trivial, _, e61, r⟩⟩
  have bl := bd_le hb
  obtain ⟨M1, r, x⟩ := key 0 (aSet M b 0 0) (by omega) n.1 (fr_set fr_rf (by omega)) aSet_e (fun j hj => aSet_i hj) (fun k k0 k1 => by omega)
  exact ⟨M1, en_173 ⟨(bd hb).1, r⟩, x⟩
end BEDC
