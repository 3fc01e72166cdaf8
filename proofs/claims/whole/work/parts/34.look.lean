/-! the pairs are found; what Pushes remembers -/
section LOOK
variable {L : Nat} {M M1 M2 : aM}
theorem adj_no (h : rP M) {i j : Int} (h1 : 0 ≤ i) (h2 : i < M 31 0) (h3 : 0 ≤ j) (h4 : j < M 31 0) (h5 : adj M 1 i j = true) : ¬ M 34 i + M 36 i = M 34 j := by
  rw [adj_1 h h1 h2 h3 h4] at h5
  have a := hlf_pos h5.2
  have b := rP_i h h1 h2
  have c := rP_i h h3 h4
  unfold ovX at a
  omega
theorem ctc_ge (h : rP M) {i j : Int} (h1 : 0 ≤ i) (h2 : i < M 31 0) (h3 : 0 ≤ j) (h4 : j < M 31 0) (h5 : M 34 i + M 36 i = M 34 j ∨ M 35 i + M 37 i = M 35 j) : 0 ≤ ctc M i j ∧ ctc M i j ≤ 60 := by
  have a := rP_i h h1 h2
  have b := rP_i h h3 h4
  have c := ov_le h.2.1.1 h1 h2 h3 h4
  unfold ctc hlf
  have : 0 ≤ max (ovX M i j) (ovY M i j) := by unfold ovX ovY; omega
  repeat' split
  all_goals omega
/-- the state while pairs are found -/
def fQ (M M1 : aM) (r i j : Int) : Prop := fr 64 76 M M1 ∧ (∀ b, b ≠ 8 → M1 64 b = M 64 b) ∧ (∀ k, 0 ≤ k → k < 64 → lb (M1 64 8) k = decide (k < r ∧ M 33 k = 3)) ∧ CT M M1 0 i j ∧ CT M M1 1 i j
theorem s_77 (h : rP M) (h5 : M 64 5 = 31) : ∃ M1, aE 77 [aR 64] (SH L) M ([], SH L, M1) ∧ fQ M M1 (M 31 0) (M 31 0) 0 := by
  have n := rP_n h
  have inner : ∀ i, 0 ≤ i → i < M 31 0 → (∀ M' : aM, fQ M M' (i + 1) (i + 1) 0 → ∃ M1, aX xc_77 (aSeek xc_77 23) [aR 64, aI (i + 1), aU, aU, aU, aU] [] (SH L) M' ([], SH L, M1) ∧ fQ M M1 (M 31 0) (M 31 0) 0) →
      ∀ j, ∀ M' : aM, 0 ≤ j → j ≤ M 31 0 → fQ M M' (i + 1) i j → ∃ M1, aX xc_77 (aSeek xc_77 61) [aR 64, aI i, aI j, aU, aU, aU] [] (SH L) M' ([], SH L, M1) ∧ fQ M M1 (M 31 0) (M 31 0) 0 := by
    intro i i0 i1 out
    refine upto (M 31 0) (fun j hj M' j0 j1 hq => ?_) (fun j hj ih M' j0 j1 hq => ?_)
    · have e : j = M 31 0 := by omega
      subst e
      obtain ⟨f, b, r, c0, c1⟩ := hq
      have e5 : M' 64 5 = 31 := by rw [b 5 (by omega), h5]
      have e0 : M' 31 = M 31 := f 31 (by omega)
      obtain ⟨M1, r1, x⟩ := out M' ⟨f, b, r, CT_row c0 i0, CT_row c1 i0⟩
      refine ⟨M1, bl_77_61 ?_, x⟩
      rw [e5, e0, aWi (by omega) (by omega)]
      exact ⟨rfl, fun _ => r1, fun z => absurd hj z⟩
    · obtain ⟨f, b, r, c0, c1⟩ := hq
      have hP' : rP M' := rP_fr h f (by omega) (by omega)
      have ai := rP_i h i0 i1
      have aj := rP_i h j0 hj
      have e5 : M' 64 5 = 31 := by rw [b 5 (by omega), h5]
      have e31 : M' 31 = M 31 := f 31 (by omega)
      have e33 : M' 33 = M 33 := f 33 (by omega)
      have e34 : M' 34 = M 34 := f 34 (by omega)
      have e35 : M' 35 = M 35 := f 35 (by omega)
      have e36 : M' 36 = M 36 := f 36 (by omega)
      have e37 : M' 37 = M 37 := f 37 (by omega)
      have ectc : ctc M' i j = ctc M i j := by unfold ctc hlf ovX ovY; rw [e33, e34, e35, e36, e37]
      have nx : ∀ M2 : aM, fQ M M2 (i + 1) i (j + 1) → ∃ M1, aX xc_77 (aSeek xc_77 228) [aR 64, aI i, aI j, aU, aU, aU] [] (SH L) M2 ([], SH L, M1) ∧ fQ M M1 (M 31 0) (M 31 0) 0 := by
        intro M2 hq
        obtain ⟨M1, r1, x⟩ := ih M2 (by omega) (by omega) hq
        refine ⟨M1, bl_77_228 ?_, x⟩
        rw [aWi (by omega) (by omega)]
        exact r1
      have k169 : ∀ p : Int, p = ctc M i j ∧ (M 34 i + M 36 i = M 34 j ∨ M 35 i + M 37 i = M 35 j) ∨ p = 0 ∧ ¬ (M 34 i + M 36 i = M 34 j ∨ M 35 i + M 37 i = M 35 j) → ∃ M1, aX xc_77 (aSeek xc_77 169) [aR 64, aI i, aI j, aI (bi (decide (M 34 i + M 36 i = M 34 j))), aU, aU] [aI p] (SH L) M' ([], SH L, M1) ∧ fQ M M1 (M 31 0) (M 31 0) 0 := by
        intro p hp
        by_cases a0 : adj M 0 i j = true
        · have a0' := a0
          unfold adj at a0'
          rw [decide_eq_true_eq] at a0'
          have e1 : M 34 i + M 36 i = M 34 j := a0'.1
          have e2 := a0'.2
          have n0 : M' 67 0 ≤ 80 := CT_n h (Or.inl rfl) c0 i0 (by omega) j0 (by omega) (by omega)
          have c00 : 0 ≤ M' 67 0 := c0.1
          obtain ⟨k, M2, r2, f2, m2, k2, w2, l2, g2⟩ := s_76 (L := L) (M := M') (c := 67) (a := i) (b := j) (w := p) (q := M 34 j) (Or.inl rfl) ⟨c00, by omega⟩
          have ep : p = ctc M i j := by omega
          subst ep
          have f02 : fr 64 76 M M2 := fr_tr f (fr_mn f2 (by omega) (by omega))
          obtain ⟨M1, r1, x⟩ := nx M2 ⟨f02, fun b' hb => by rw [f2 64 (by omega)]; exact b b' hb, by rw [f2 64 (by omega)]; exact r, CT_yes (Or.inl rfl) c0 i0 i1 j0 hj a0 m2 k2 w2 l2 g2, CT_no (CT_fr c1 (fun a x y => f2 a (by omega))) j0 (fun z => adj_no h i0 i1 j0 hj z e1)⟩
          refine ⟨M1, bl_77_169 ⟨fun z => by omega, fun _ => ⟨fun z => ?_, fun _ => ?_⟩⟩, x⟩
          · rw [bid0] at z; exact absurd e1 z
          · rw [e5]
            simp only [bd bd31]
            exact ⟨trivial, by omega, M2, by rw [show (31 + 3 : Int) = 34 by rfl, e34]; exact r2, r1⟩
        · by_cases a1 : adj M 1 i j = true
          · have a1' := a1
            unfold adj at a1'
            rw [decide_eq_true_eq] at a1'
            have e1 : M 35 i + M 37 i = M 35 j := a1'.1
            have e2 := a1'.2
            have n1 : M' 72 0 ≤ 80 := CT_n h (Or.inr rfl) c1 i0 (by omega) j0 (by omega) (by omega)
            have c10 : 0 ≤ M' 72 0 := c1.1
            obtain ⟨k, M2, r2, f2, m2, k2, w2, l2, g2⟩ := s_76 (L := L) (M := M') (c := 72) (a := i) (b := j) (w := p) (q := M 35 j) (Or.inr rfl) ⟨c10, by omega⟩
            have ep : p = ctc M i j := by omega
            subst ep
            have f02 : fr 64 76 M M2 := fr_tr f (fr_mn f2 (by omega) (by omega))
            obtain ⟨M1, r1, x⟩ := nx M2 ⟨f02, fun b' hb => by rw [f2 64 (by omega)]; exact b b' hb, by rw [f2 64 (by omega)]; exact r, CT_no (CT_fr c0 (fun a x y => f2 a (by omega))) j0 a0, CT_yes (Or.inr rfl) c1 i0 i1 j0 hj a1 m2 k2 w2 l2 g2⟩
            refine ⟨M1, bl_77_169 ⟨fun z => by omega, fun _ => ⟨fun z => bl_77_203 ⟨fun z => by omega, fun _ => ?_⟩, fun z => ?_⟩⟩, x⟩
            · rw [e5]
              simp only [bd bd31]
              exact ⟨trivial, by omega, M2, by rw [show (31 + 4 : Int) = 35 by rfl, e35]; exact r2, r1⟩
            · rw [bid0, Classical.not_not] at z
              exact absurd z (adj_no h i0 i1 j0 hj a1)
          · obtain ⟨M1, r1, x⟩ := nx M' ⟨f, b, r, CT_no c0 j0 a0, CT_no c1 j0 a1⟩
            have a0' := a0
            have a1' := a1
            unfold adj at a0' a1'
            rw [decide_eq_true_eq] at a0' a1'
            have a0'' : ¬ (M 34 i + M 36 i = M 34 j ∧ 0 < ctc M i j) := a0'
            have a1'' : ¬ (M 35 i + M 37 i = M 35 j ∧ 0 < ctc M i j) := a1'
            have p0 : p ≤ 0 := by omega
            exact ⟨M1, bl_77_169 ⟨fun _ => bl_77_203 ⟨fun _ => r1, fun z => absurd p0 z⟩, fun z => absurd p0 z⟩, x⟩
      have k145 : ∃ M1, aX xc_77 (aSeek xc_77 145) [aR 64, aI i, aI j, aI (bi (decide (M 34 i + M 36 i = M 34 j))), aU, aU] [aI (bi (decide (M 35 i + M 37 i = M 35 j)))] (SH L) M' ([], SH L, M1) ∧ fQ M M1 (M 31 0) (M 31 0) 0 := by
        by_cases c : M 34 i + M 36 i = M 34 j ∨ M 35 i + M 37 i = M 35 j
        · obtain ⟨M1, r1, x⟩ := k169 (ctc M i j) (Or.inl ⟨rfl, c⟩)
          have k156 : aX xc_77 (aSeek xc_77 156) [aR 64, aI i, aI j, aI (bi (decide (M 34 i + M 36 i = M 34 j))), aU, aU] [] (SH L) M' ([], SH L, M1) := by
            apply bl_77_156
            rw [e5]
            refine ⟨rfl, M', _, s_73 hP'.2.1.1 i0 (by rw [e31]; exact i1) j0 (by rw [e31]; exact hj), ?_⟩
            rw [ectc]
            exact r1
          exact ⟨M1, bl_77_145 ⟨fun _ => k156, fun z => ⟨fun z2 => absurd c (by rw [bid0] at z2; rw [Classical.not_not, bid0] at z; omega), fun _ => k156⟩⟩, x⟩
        · obtain ⟨M1, r1, x⟩ := k169 0 (Or.inr ⟨rfl, c⟩)
          exact ⟨M1, bl_77_145 ⟨fun z => absurd (bin (fun q => c (Or.inl q))) z, fun _ => ⟨fun _ => r1, fun z => absurd (bin (fun q => c (Or.inr q))) z⟩⟩, x⟩
      obtain ⟨M1, r1, x⟩ := k145
      have k108 : aX xc_77 (aSeek xc_77 108) [aR 64, aI i, aI j, aU, aU, aU] [aI (bi (decide (M 34 i + M 36 i = M 34 j)))] (SH L) M' ([], SH L, M1) := by
        apply bl_77_108
        rw [e5]
        simp only [bd bd31]
        rw [show (31 + 4 : Int) = 35 by rfl, show (31 + 6 : Int) = 37 by rfl, e35, e37, aWi (by omega) (by omega)]
        refine ⟨trivial, by omega, trivial, by omega, trivial, by omega, fun z => ?_, fun z => ?_⟩
        · rw [bin z] at r1; exact r1
        · rw [bip (Classical.not_not.mp z)] at r1; exact r1
      refine ⟨M1, bl_77_61 ?_, x⟩
      rw [e5, e31]
      simp only [bd bd31]
      rw [show (31 + 3 : Int) = 34 by rfl, show (31 + 5 : Int) = 36 by rfl, e34, e36, aWi (z := M 34 i + M 36 i) (by omega) (by omega)]
      refine ⟨trivial, fun z => absurd hj (by omega), fun _ => ⟨trivial, by omega, trivial, by omega, trivial, by omega, fun z => ?_, fun z => ?_⟩⟩
      · rw [bin z] at k108; exact k108
      · rw [bip (Classical.not_not.mp z)] at k108; exact k108
  have outer : ∀ i, ∀ M' : aM, 0 ≤ i → i ≤ M 31 0 → fQ M M' i i 0 → ∃ M1, aX xc_77 (aSeek xc_77 23) [aR 64, aI i, aU, aU, aU, aU] [] (SH L) M' ([], SH L, M1) ∧ fQ M M1 (M 31 0) (M 31 0) 0 := by
    refine upto (M 31 0) (fun i hi M' i0 i1 hq => ?_) (fun i hi ih M' i0 i1 hq => ?_)
    · have e : i = M 31 0 := by omega
      subst e
      have e5 : M' 64 5 = 31 := by rw [hq.2.1 5 (by omega), h5]
      have e31 : M' 31 = M 31 := hq.1 31 (by omega)
      refine ⟨M', bl_77_23 ?_, hq⟩
      rw [e5, e31]
      exact ⟨rfl, fun _ => rfl, fun z => absurd hi z⟩
    · obtain ⟨f, b, r, c0, c1⟩ := hq
      have e5 : M' 64 5 = 31 := by rw [b 5 (by omega), h5]
      have e31 : M' 31 = M 31 := f 31 (by omega)
      have e33 : M' 33 = M 33 := f 33 (by omega)
      have go : ∀ M2 : aM, fQ M M2 (i + 1) i 0 → ∃ M1, aX xc_77 (aSeek xc_77 59) [aR 64, aI i, aU, aU, aU, aU] [] (SH L) M2 ([], SH L, M1) ∧ fQ M M1 (M 31 0) (M 31 0) 0 := by
        intro M2 hq
        obtain ⟨M1, r1, x⟩ := inner i i0 hi (fun M3 h3 => ih M3 (by omega) (by omega) h3) 0 M2 (by omega) n.1 hq
        exact ⟨M1, bl_77_59 r1, x⟩
      by_cases c : M 33 i = 3
      · obtain ⟨M1, r1, x⟩ := go (aSet M' 64 8 (aLor (M' 64 8) (aLsl 1 i))) ⟨fr_set f (by omega), fun b' hb => by rw [aSet_i hb]; exact b b' hb, fun k k0 k1 => by
            rw [aSet_e, lb_or, r k k0 k1, lb_one i0 (by omega) k0 k1, ← Bool.decide_or]
            apply decide_eq_decide.mpr
            constructor
            · rintro (z | z)
              · exact ⟨by omega, z.2⟩
              · rw [z]; exact ⟨by omega, c⟩
            · rintro ⟨z1, z2⟩
              by_cases z3 : k = i
              · exact Or.inr z3
              · exact Or.inl ⟨by omega, z2⟩, CT_fr c0 (fun a x y => aSet_c (by omega)), CT_fr c1 (fun a x y => aSet_c (by omega))⟩
        refine ⟨M1, bl_77_23 ?_, x⟩
        rw [e5, e31]
        simp only [bd bd31]
        rw [show (31 + 2 : Int) = 33 by rfl, e33]
        exact ⟨trivial, fun z => absurd hi (by omega), fun _ => ⟨trivial, by omega, fun z => absurd c z, fun _ => r1⟩⟩
      · obtain ⟨M1, r1, x⟩ := go M' ⟨f, b, fun k k0 k1 => by
            rw [r k k0 k1]
            apply decide_eq_decide.mpr
            constructor
            · rintro ⟨z1, z2⟩; exact ⟨by omega, z2⟩
            · rintro ⟨z1, z2⟩
              by_cases z3 : k = i
              · rw [z3] at z2; exact absurd z2 c
              · exact ⟨by omega, z2⟩, c0, c1⟩
        refine ⟨M1, bl_77_23 ?_, x⟩
        rw [e5, e31]
        simp only [bd bd31]
        rw [show (31 + 2 : Int) = 33 by rfl, e33]
        exact ⟨trivial, fun z => absurd hi (by omega), fun _ => ⟨trivial, by omega, fun _ => r1, fun z => absurd z (fun z => z c)⟩⟩
  have c00 : ∀ ax, ax = 0 ∨ ax = 1 → CT M (aSet (aSet (aSet M 67 0 0) 72 0 0) 64 8 0) ax 0 0 := by
    intro ax hx
    have z : (aSet (aSet (aSet M 67 0 0) 72 0 0) 64 8 0) (67 + 5 * ax) 0 = 0 := by
      rcases hx with rfl | rfl
      · rfl
      · rfl
    refine ⟨by omega, fun p p0 p1 => by omega, fun p q p0 p1 p2 => by omega, fun g => ?_⟩
    rw [z]
    unfold adT adS
    rw [sumI_nil (by omega), sumI_nil (by omega), sumI_nil (by omega)]
    rfl
  obtain ⟨M1, r1, x⟩ := outer 0 (aSet (aSet (aSet M 67 0 0) 72 0 0) 64 8 0) (by omega) n.1 ⟨fr_set (fr_set (fr_set fr_rf (by omega)) (by omega)) (by omega), fun b hb => by rw [aSet_i hb, aSet_c (by omega), aSet_c (by omega)], fun k k0 k1 => by rw [aSet_e, lb_0]; exact (decide_eq_false (by omega)).symm, c00 0 (Or.inl rfl), c00 1 (Or.inr rfl)⟩
  exact ⟨M1, en_77 r1, x⟩
/-- the pairs are those of the bed -/
def ctR (M : aM) : Prop := CT M M 0 (M 31 0) 0 ∧ CT M M 1 (M 31 0) 0 ∧ ∀ k, 0 ≤ k → k < 64 → lb (M 64 8) k = decide (k < M 31 0 ∧ M 33 k = 3)
theorem adj_cg {ax i j : Int} (hx : ax = 0 ∨ ax = 1) (h : ∀ a, 31 ≤ a → a ≤ 37 → M1 a = M a) : adj M1 ax i j = adj M ax i j := by
  unfold adj ctc hlf ovX ovY
  rw [h 33 (by omega) (by omega), h 34 (by omega) (by omega), h 35 (by omega) (by omega), h 36 (by omega) (by omega), h 37 (by omega) (by omega), h (34 + ax) (by omega) (by omega), h (36 + ax) (by omega) (by omega)]
theorem CT_cg {ax i j : Int} (hx : ax = 0 ∨ ax = 1) (hc : CT M M2 ax i j) (h : ∀ a, 31 ≤ a → a ≤ 37 → M1 a = M a) : CT M1 M2 ax i j := by
  obtain ⟨a, b, c, d⟩ := hc
  refine ⟨a, fun p p0 p1 => ?_, c, fun g => ?_⟩
  · have := b p p0 p1
    rw [adj_cg hx h]
    unfold ctc hlf ovX ovY at this ⊢
    rw [h 31 (by omega) (by omega), h 33 (by omega) (by omega), h 34 (by omega) (by omega), h 35 (by omega) (by omega), h 36 (by omega) (by omega), h 37 (by omega) (by omega), h (34 + ax) (by omega) (by omega)]
    exact this
  · rw [d g]
    unfold adT adS
    rw [h 31 (by omega) (by omega)]
    have e : ∀ i j, adj M1 ax i j = adj M ax i j := fun i j => adj_cg hx h
    simp only [e]
theorem ctR_cg (hc : ctR M) (h : ∀ a, 31 ≤ a → a ≤ 37 → M1 a = M a) (h2 : ∀ a, 67 ≤ a → a ≤ 76 → M1 a = M a) (h3 : M1 64 8 = M 64 8) : ctR M1 := by
  obtain ⟨a, b, c⟩ := hc
  refine ⟨?_, ?_, fun k k0 k1 => ?_⟩
  · rw [h 31 (by omega) (by omega)]
    exact CT_cg (Or.inl rfl) (CT_fr a (fun x y z => h2 x (by omega) (by omega))) h
  · rw [h 31 (by omega) (by omega)]
    exact CT_cg (Or.inr rfl) (CT_fr b (fun x y z => h2 x (by omega) (by omega))) h
  · rw [h3, h 31 (by omega) (by omega), h 33 (by omega) (by omega)]
    exact c k k0 k1
end LOOK
