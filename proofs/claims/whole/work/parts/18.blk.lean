/-! block rows, written by a program: from one cut of a method to the next ones -/
section BLK
/- TypeLock.isShare(I)Z -/
set_option maxRecDepth 100000 in
theorem en_140 {L : Nat} {a1 : Int} {M : aM} {o : aO} (h : ((a1 < 10 → o = ([aI 0], (SH L), M)) ∧ (¬ (a1 < 10) → (aK (SH L) (M 1 3) = 19 ∧ ∃ (M1 : aM) (v2 : Int), aE 139 [aR (M 1 3), aI (aDiv (aW (a1 - 10)) 2)] (SH L) M ([aI v2], (SH L), M1) ∧ ((v2 = 0 → o = ([aI 0], (SH L), M1)) ∧ (¬ (v2 = 0) → o = ([aI 1], (SH L), M1))))))) : aE 140 [aR 1, aI a1] (SH L) M o := by
  have q : aX xc_140 (aSeek xc_140 0) [aR 1, aI a1] [] (SH L) M o := by
    by_cases cc : a1 < 10
    · replace h := h.1 cc
      have t3 : aX xc_140 (aSeek xc_140 26) [aR 1, aI a1] [] (SH L) M o := by
        subst h
        exact ⟨2, rfl⟩
      exact aX_seg 3 (fun n g => ip cc (g)) t3
    · replace h := h.2 cc
      have t4 : aX xc_140 (aSeek xc_140 6) [aR 1, aI a1] [] (SH L) M o := by
        obtain ⟨c5, h⟩ := h
        obtain ⟨M1, v2, k6, h⟩ := h
        have h2 : aX xc_140 (aSeek xc_140 19) [aR 1, aI a1] [aI v2] (SH L) M1 o := by
          by_cases cc : v2 = 0
          · replace h := h.1 cc
            have t7 : aX xc_140 (aSeek xc_140 26) [aR 1, aI a1] [] (SH L) M1 o := by
              subst h
              exact ⟨2, rfl⟩
            exact aX_seg 1 (fun n g => ip cc (g)) t7
          · replace h := h.2 cc
            have t8 : aX xc_140 (aSeek xc_140 22) [aR 1, aI a1] [] (SH L) M1 o := by
              subst h
              exact ⟨3, rfl⟩
            exact aX_seg 1 (fun n g => in_ cc (g)) t8
        exact aX_seg 7 (fun n g => g) (aX_callv (c5) rfl rfl rfl k6 h2)
      exact aX_seg 3 (fun n g => in_ cc (g)) t4
  exact q
/- TypeLock$LineFiller.addKind(I)V -/
set_option maxRecDepth 100000 in
theorem en_141 {L : Nat} {a1 : Int} {M : aM} {o : aO} (h : (0 ≤ a1 ∧ a1 < aLn (SH L) 6 100) ∧ (aK (SH L) (M 99 7) = 19) ∧ (0 ≤ a1 ∧ a1 < aLn (SH L) 1 (aF (SH L) (M 99 7) 6)) ∧ (aK (SH L) (M 99 7) = 19) ∧ (0 ≤ a1 ∧ a1 < aLn (SH L) 1 (aF (SH L) (M 99 7) 7)) ∧ ((1 ≤ (min (M (aF (SH L) (M 99 7) 6) a1) (M (aF (SH L) (M 99 7) 7) a1)) → (0 ≤ aW (a1 + 1) ∧ aW (a1 + 1) < aLn (SH L) 6 100) ∧ (aK (SH L) (aF (SH L) 100 (a1).toNat) = 1) ∧ (((aK (SH L) (aF (SH L) 100 (aW (a1 + 1)).toNat) = 1 ∧ aK (SH L) (aF (SH L) 100 (a1).toNat) = 1) ∧ (0 ≤ aL (SH L) (aF (SH L) 100 (a1).toNat) ∧ 0 ≤ (0 : Int) ∧ 0 ≤ (0 : Int))) ∧ 0 + (aL (SH L) (aF (SH L) 100 (a1).toNat)) ≤ aL (SH L) (aF (SH L) 100 (aW (a1 + 1)).toNat) ∧ 0 + (aL (SH L) (aF (SH L) 100 (a1).toNat)) ≤ aL (SH L) (aF (SH L) 100 (a1).toNat)) ∧ (0 ≤ aW (a1 + 1) ∧ aW (a1 + 1) < aLn (SH L) 6 100) ∧ (((aK (SH L) (aF (SH L) 100 (aW (a1 + 1)).toNat) = 1 ∧ aK (SH L) 116 = 1) ∧ (0 ≤ aL (SH L) 116 ∧ 0 ≤ (0 : Int) ∧ 0 ≤ (0 : Int))) ∧ 0 + (aL (SH L) 116) ≤ aL (SH L) (aF (SH L) 100 (aW (a1 + 1)).toNat) ∧ 0 + (aL (SH L) 116) ≤ aL (SH L) 116) ∧ (0 ≤ a1 ∧ a1 < aLn (SH L) 1 117) ∧ (¬ ((min (M (aF (SH L) (M 99 7) 6) a1) (M (aF (SH L) (M 99 7) 7) a1)) : Int) = 0) ∧ aX xc_141 (aSeek xc_141 101) [aR 99, aU, aR (aF (SH L) 100 (a1).toNat), aI (M (aF (SH L) (M 99 7) 6) a1), aI (M (aF (SH L) (M 99 7) 7) a1), aI (min (M (aF (SH L) (M 99 7) 6) a1) (M (aF (SH L) (M 99 7) 7) a1)), aI (min ((aCpy (aCpy M (aF (SH L) 100 (aW (a1 + 1)).toNat) 0 (aF (SH L) 100 (a1).toNat) 0 (aL (SH L) (aF (SH L) 100 (a1).toNat))) (aF (SH L) 100 (aW (a1 + 1)).toNat) 0 116 0 (aL (SH L) 116)) 117 a1) (aDiv 240 (min (M (aF (SH L) (M 99 7) 6) a1) (M (aF (SH L) (M 99 7) 7) a1)))), aI 1, aU, aU, aU, aU] [] (SH L) (aCpy (aCpy M (aF (SH L) 100 (aW (a1 + 1)).toNat) 0 (aF (SH L) 100 (a1).toNat) 0 (aL (SH L) (aF (SH L) 100 (a1).toNat))) (aF (SH L) 100 (aW (a1 + 1)).toNat) 0 116 0 (aL (SH L) 116)) o) ∧ (¬ (1 ≤ (min (M (aF (SH L) (M 99 7) 6) a1) (M (aF (SH L) (M 99 7) 7) a1))) → o = ([], (SH L), M)))) : aE 141 [aR 99, aI a1] (SH L) M o := by
  have q : aX xc_141 (aSeek xc_141 0) [aR 99, aI a1, aU, aU, aU, aU, aU, aU, aU, aU, aU, aU] [] (SH L) M o := by
    obtain ⟨c1, h⟩ := h
    obtain ⟨c2, h⟩ := h
    obtain ⟨c3, h⟩ := h
    obtain ⟨c4, h⟩ := h
    obtain ⟨c5, h⟩ := h
    by_cases cc : 1 ≤ (min (M (aF (SH L) (M 99 7) 6) a1) (M (aF (SH L) (M 99 7) 7) a1))
    · replace h := h.1 cc
      have t6 : aX xc_141 (aSeek xc_141 43) [aR 99, aI a1, aR (aF (SH L) 100 (a1).toNat), aI (M (aF (SH L) (M 99 7) 6) a1), aI (M (aF (SH L) (M 99 7) 7) a1), aI (min (M (aF (SH L) (M 99 7) 6) a1) (M (aF (SH L) (M 99 7) 7) a1)), aU, aU, aU, aU, aU, aU] [] (SH L) M o := by
        obtain ⟨c7, h⟩ := h
        obtain ⟨c8, h⟩ := h
        obtain ⟨c9, h⟩ := h
        obtain ⟨c10, h⟩ := h
        obtain ⟨c11, h⟩ := h
        obtain ⟨c12, h⟩ := h
        obtain ⟨c13, h⟩ := h
        exact aX_seg 37 (fun n g => ip c7 (ip c8 (ip c9 (ip c10 (ip c11 (ip c12 (ip c13 (g)))))))) (aX_le (ls := [aR 99, aU, aR (aF (SH L) 100 (a1).toNat), aI (M (aF (SH L) (M 99 7) 6) a1), aI (M (aF (SH L) (M 99 7) 7) a1), aI (min (M (aF (SH L) (M 99 7) 6) a1) (M (aF (SH L) (M 99 7) 7) a1)), aI (min ((aCpy (aCpy M (aF (SH L) 100 (aW (a1 + 1)).toNat) 0 (aF (SH L) 100 (a1).toNat) 0 (aL (SH L) (aF (SH L) 100 (a1).toNat))) (aF (SH L) 100 (aW (a1 + 1)).toNat) 0 116 0 (aL (SH L) 116)) 117 a1) (aDiv 240 (min (M (aF (SH L) (M 99 7) 6) a1) (M (aF (SH L) (M 99 7) 7) a1)))), aI 1, aU, aU, aU, aU]) (ls1 := [aR 99, aI a1, aR (aF (SH L) 100 (a1).toNat), aI (M (aF (SH L) (M 99 7) 6) a1), aI (M (aF (SH L) (M 99 7) 7) a1), aI (min (M (aF (SH L) (M 99 7) 6) a1) (M (aF (SH L) (M 99 7) 7) a1)), aI (min ((aCpy (aCpy M (aF (SH L) 100 (aW (a1 + 1)).toNat) 0 (aF (SH L) 100 (a1).toNat) 0 (aL (SH L) (aF (SH L) 100 (a1).toNat))) (aF (SH L) 100 (aW (a1 + 1)).toNat) 0 116 0 (aL (SH L) 116)) 117 a1) (aDiv 240 (min (M (aF (SH L) (M 99 7) 6) a1) (M (aF (SH L) (M 99 7) 7) a1)))), aI 1, aU, aU, aU, aU]) (⟨Or.inr rfl, ⟨Or.inl rfl, ⟨Or.inr rfl, ⟨Or.inr rfl, ⟨Or.inr rfl, ⟨Or.inr rfl, ⟨Or.inr rfl, ⟨Or.inr rfl, ⟨Or.inl rfl, ⟨Or.inl rfl, ⟨Or.inl rfl, ⟨Or.inl rfl, trivial⟩⟩⟩⟩⟩⟩⟩⟩⟩⟩⟩⟩) h)
      exact aX_seg 24 (fun n g => ip c1 (ip c2 (ip c3 (ip c4 (ip c5 (ip cc (g))))))) t6
    · replace h := h.2 cc
      have t14 : aX xc_141 (aSeek xc_141 42) [aR 99, aI a1, aR (aF (SH L) 100 (a1).toNat), aI (M (aF (SH L) (M 99 7) 6) a1), aI (M (aF (SH L) (M 99 7) 7) a1), aI (min (M (aF (SH L) (M 99 7) 6) a1) (M (aF (SH L) (M 99 7) 7) a1)), aU, aU, aU, aU, aU, aU] [] (SH L) M o := by
        subst h
        exact ⟨1, rfl⟩
      exact aX_seg 24 (fun n g => ip c1 (ip c2 (ip c3 (ip c4 (ip c5 (in_ cc (g))))))) t14
  exact q
set_option maxRecDepth 100000 in
theorem bl_141_101 {L : Nat} {a2 a3 a4 a5 a6 a7 : Int} {M : aM} {o : aO} (h : ((a6 < a7 → o = ([], (SH L), M)) ∧ (¬ (a6 < a7) → aX xc_141 (aSeek xc_141 116) [aR 99, aU, aR a2, aI a3, aI a4, aI a5, aI a6, aI a7, aI 0, aI 240, aU, aU] [] (SH L) M o))) : aX xc_141 (aSeek xc_141 101) [aR 99, aU, aR a2, aI a3, aI a4, aI a5, aI a6, aI a7, aU, aU, aU, aU] [] (SH L) M o := by
  by_cases cc : a6 < a7
  · replace h := h.1 cc
    have t1 : aX xc_141 (aSeek xc_141 241) [aR 99, aU, aR a2, aI a3, aI a4, aI a5, aI a6, aI a7, aU, aU, aU, aU] [] (SH L) M o := by
      subst h
      exact ⟨1, rfl⟩
    exact aX_seg 3 (fun n g => ip cc (g)) t1
  · replace h := h.2 cc
    have t2 : aX xc_141 (aSeek xc_141 108) [aR 99, aU, aR a2, aI a3, aI a4, aI a5, aI a6, aI a7, aU, aU, aU, aU] [] (SH L) M o := by
      exact aX_seg 4 (fun n g => g) (h)
    exact aX_seg 3 (fun n g => in_ cc (g)) t2
set_option maxRecDepth 100000 in
theorem bl_141_116 {L : Nat} {a2 a3 a4 a5 a6 a7 a8 a9 : Int} {M : aM} {o : aO} (h : ((a9 < (aW ((aW (a7 - 1)) * a5)) → ((¬ a8 = 0 → aX xc_141 (aSeek xc_141 101) [aR 99, aU, aR a2, aI a3, aI a4, aI a5, aI a6, aI (aW (a7 + 1)), aU, aU, aU, aU] [] (SH L) M o) ∧ (¬ (¬ a8 = 0) → o = ([], (SH L), M)))) ∧ (¬ (a9 < (aW ((aW (a7 - 1)) * a5))) → ((a9 < a3 → aX xc_141 (aSeek xc_141 148) [aR 99, aU, aR a2, aI a3, aI a4, aI a5, aI a6, aI a7, aI a8, aI a9, aU, aU] [aI 1000000] (SH L) M o) ∧ (¬ (a9 < a3) → (0 ≤ aW (a9 - a3) ∧ aW (a9 - a3) < aLn (SH L) 1 116) ∧ aX xc_141 (aSeek xc_141 148) [aR 99, aU, aR a2, aI a3, aI a4, aI a5, aI a6, aI a7, aI a8, aI a9, aU, aU] [aI (M 116 (aW (a9 - a3)))] (SH L) M o))))) : aX xc_141 (aSeek xc_141 116) [aR 99, aU, aR a2, aI a3, aI a4, aI a5, aI a6, aI a7, aI a8, aI a9, aU, aU] [] (SH L) M o := by
  by_cases cc : a9 < (aW ((aW (a7 - 1)) * a5))
  · replace h := h.1 cc
    have t1 : aX xc_141 (aSeek xc_141 229) [aR 99, aU, aR a2, aI a3, aI a4, aI a5, aI a6, aI a7, aI a8, aI a9, aU, aU] [] (SH L) M o := by
      by_cases cc : ¬ a8 = 0
      · replace h := h.1 cc
        have t2 : aX xc_141 (aSeek xc_141 235) [aR 99, aU, aR a2, aI a3, aI a4, aI a5, aI a6, aI a7, aI a8, aI a9, aU, aU] [] (SH L) M o := by
          exact aX_seg 2 (fun n g => g) (aX_le (ls := [aR 99, aU, aR a2, aI a3, aI a4, aI a5, aI a6, aI (aW (a7 + 1)), aU, aU, aU, aU]) (ls1 := [aR 99, aU, aR a2, aI a3, aI a4, aI a5, aI a6, aI (aW (a7 + 1)), aI a8, aI a9, aU, aU]) (⟨Or.inr rfl, ⟨Or.inl rfl, ⟨Or.inr rfl, ⟨Or.inr rfl, ⟨Or.inr rfl, ⟨Or.inr rfl, ⟨Or.inr rfl, ⟨Or.inr rfl, ⟨Or.inl rfl, ⟨Or.inl rfl, ⟨Or.inl rfl, ⟨Or.inl rfl, trivial⟩⟩⟩⟩⟩⟩⟩⟩⟩⟩⟩⟩) h)
        exact aX_seg 2 (fun n g => ip cc (g)) t2
      · replace h := h.2 cc
        have t3 : aX xc_141 (aSeek xc_141 234) [aR 99, aU, aR a2, aI a3, aI a4, aI a5, aI a6, aI a7, aI a8, aI a9, aU, aU] [] (SH L) M o := by
          subst h
          exact ⟨1, rfl⟩
        exact aX_seg 2 (fun n g => in_ cc (g)) t3
    exact aX_seg 7 (fun n g => ip cc (g)) t1
  · replace h := h.2 cc
    have t4 : aX xc_141 (aSeek xc_141 128) [aR 99, aU, aR a2, aI a3, aI a4, aI a5, aI a6, aI a7, aI a8, aI a9, aU, aU] [] (SH L) M o := by
      by_cases cc : a9 < a3
      · replace h := h.1 cc
        have t5 : aX xc_141 (aSeek xc_141 146) [aR 99, aU, aR a2, aI a3, aI a4, aI a5, aI a6, aI a7, aI a8, aI a9, aU, aU] [] (SH L) M o := by
          exact aX_seg 1 (fun n g => g) (h)
        exact aX_seg 3 (fun n g => ip cc (g)) t5
      · replace h := h.2 cc
        have t6 : aX xc_141 (aSeek xc_141 134) [aR 99, aU, aR a2, aI a3, aI a4, aI a5, aI a6, aI a7, aI a8, aI a9, aU, aU] [] (SH L) M o := by
          obtain ⟨c7, h⟩ := h
          exact aX_seg 7 (fun n g => ip c7 (g)) (h)
        exact aX_seg 3 (fun n g => in_ cc (g)) t6
    exact aX_seg 7 (fun n g => in_ cc (g)) t4
set_option maxRecDepth 100000 in
theorem bl_141_148 {L : Nat} {a2 a3 a4 a5 a6 a7 a8 a9 b0 : Int} {M : aM} {o : aO} (h : ((a9 < a4 → aX xc_141 (aSeek xc_141 172) [aR 99, aU, aR a2, aI a3, aI a4, aI a5, aI a6, aI a7, aI a8, aI a9, aI b0, aU] [aI 1000000] (SH L) M o) ∧ (¬ (a9 < a4) → (0 ≤ aW (a9 - a4) ∧ aW (a9 - a4) < aLn (SH L) 1 116) ∧ aX xc_141 (aSeek xc_141 172) [aR 99, aU, aR a2, aI a3, aI a4, aI a5, aI a6, aI a7, aI a8, aI a9, aI b0, aU] [aI (M 116 (aW (a9 - a4)))] (SH L) M o))) : aX xc_141 (aSeek xc_141 148) [aR 99, aU, aR a2, aI a3, aI a4, aI a5, aI a6, aI a7, aI a8, aI a9, aU, aU] [aI b0] (SH L) M o := by
  by_cases cc : a9 < a4
  · replace h := h.1 cc
    have t1 : aX xc_141 (aSeek xc_141 170) [aR 99, aU, aR a2, aI a3, aI a4, aI a5, aI a6, aI a7, aI a8, aI a9, aI b0, aU] [] (SH L) M o := by
      exact aX_seg 1 (fun n g => g) (h)
    exact aX_seg 4 (fun n g => ip cc (g)) t1
  · replace h := h.2 cc
    have t2 : aX xc_141 (aSeek xc_141 157) [aR 99, aU, aR a2, aI a3, aI a4, aI a5, aI a6, aI a7, aI a8, aI a9, aI b0, aU] [] (SH L) M o := by
      obtain ⟨c3, h⟩ := h
      exact aX_seg 7 (fun n g => ip c3 (g)) (h)
    exact aX_seg 4 (fun n g => in_ cc (g)) t2
set_option maxRecDepth 100000 in
theorem bl_141_172 {L : Nat} {a2 a3 a4 a5 a6 a7 a8 a9 a10 b0 : Int} {M : aM} {o : aO} (h : (0 ≤ a9 ∧ a9 < aLn (SH L) 1 116) ∧ (0 ≤ a9 ∧ a9 < aLn (SH L) 1 116) ∧ (0 ≤ a9 ∧ a9 < aLn (SH L) 1 a2) ∧ ((((aSet M 116 a9 (min 1000000 (aW ((min a10 b0) + 1)))) a2 a9) ≤ ((aSet M 116 a9 (min 1000000 (aW ((min a10 b0) + 1)))) 116 a9) → aX xc_141 (aSeek xc_141 223) [aR 99, aU, aR a2, aI a3, aI a4, aI a5, aI a6, aI a7, aI a8, aI a9, aU, aU] [] (SH L) (aSet M 116 a9 (min 1000000 (aW ((min a10 b0) + 1)))) o) ∧ (¬ (((aSet M 116 a9 (min 1000000 (aW ((min a10 b0) + 1)))) a2 a9) ≤ ((aSet M 116 a9 (min 1000000 (aW ((min a10 b0) + 1)))) 116 a9)) → (0 ≤ a9 ∧ a9 < aLn (SH L) 1 116) ∧ (0 ≤ a9 ∧ a9 < aLn (SH L) 1 a2) ∧ aX xc_141 (aSeek xc_141 223) [aR 99, aU, aR a2, aI a3, aI a4, aI a5, aI a6, aI a7, aI 1, aI a9, aU, aU] [] (SH L) (aSet (aSet M 116 a9 (min 1000000 (aW ((min a10 b0) + 1)))) a2 a9 ((aSet M 116 a9 (min 1000000 (aW ((min a10 b0) + 1)))) 116 a9)) o))) : aX xc_141 (aSeek xc_141 172) [aR 99, aU, aR a2, aI a3, aI a4, aI a5, aI a6, aI a7, aI a8, aI a9, aI a10, aU] [aI b0] (SH L) M o := by
  obtain ⟨c1, h⟩ := h
  obtain ⟨c2, h⟩ := h
  obtain ⟨c3, h⟩ := h
  by_cases cc : ((aSet M 116 a9 (min 1000000 (aW ((min a10 b0) + 1)))) a2 a9) ≤ ((aSet M 116 a9 (min 1000000 (aW ((min a10 b0) + 1)))) 116 a9)
  · replace h := h.1 cc
    have t4 : aX xc_141 (aSeek xc_141 223) [aR 99, aU, aR a2, aI a3, aI a4, aI a5, aI a6, aI a7, aI a8, aI a9, aI a10, aI b0] [] (SH L) (aSet M 116 a9 (min 1000000 (aW ((min a10 b0) + 1)))) o := by
      exact aX_le (ls := [aR 99, aU, aR a2, aI a3, aI a4, aI a5, aI a6, aI a7, aI a8, aI a9, aU, aU]) (ls1 := [aR 99, aU, aR a2, aI a3, aI a4, aI a5, aI a6, aI a7, aI a8, aI a9, aI a10, aI b0]) (⟨Or.inr rfl, ⟨Or.inl rfl, ⟨Or.inr rfl, ⟨Or.inr rfl, ⟨Or.inr rfl, ⟨Or.inr rfl, ⟨Or.inr rfl, ⟨Or.inr rfl, ⟨Or.inr rfl, ⟨Or.inr rfl, ⟨Or.inl rfl, ⟨Or.inl rfl, trivial⟩⟩⟩⟩⟩⟩⟩⟩⟩⟩⟩⟩) h
    exact aX_seg 20 (fun n g => ip c1 (ip c2 (ip c3 (ip cc (g))))) t4
  · replace h := h.2 cc
    have t5 : aX xc_141 (aSeek xc_141 209) [aR 99, aU, aR a2, aI a3, aI a4, aI a5, aI a6, aI a7, aI a8, aI a9, aI a10, aI b0] [] (SH L) (aSet M 116 a9 (min 1000000 (aW ((min a10 b0) + 1)))) o := by
      obtain ⟨c6, h⟩ := h
      obtain ⟨c7, h⟩ := h
      exact aX_seg 9 (fun n g => ip c6 (ip c7 (g))) (aX_le (ls := [aR 99, aU, aR a2, aI a3, aI a4, aI a5, aI a6, aI a7, aI 1, aI a9, aU, aU]) (ls1 := [aR 99, aU, aR a2, aI a3, aI a4, aI a5, aI a6, aI a7, aI 1, aI a9, aI a10, aI b0]) (⟨Or.inr rfl, ⟨Or.inl rfl, ⟨Or.inr rfl, ⟨Or.inr rfl, ⟨Or.inr rfl, ⟨Or.inr rfl, ⟨Or.inr rfl, ⟨Or.inr rfl, ⟨Or.inr rfl, ⟨Or.inr rfl, ⟨Or.inl rfl, ⟨Or.inl rfl, trivial⟩⟩⟩⟩⟩⟩⟩⟩⟩⟩⟩⟩) h)
    exact aX_seg 20 (fun n g => ip c1 (ip c2 (ip c3 (in_ cc (g))))) t5
set_option maxRecDepth 100000 in
theorem bl_141_223 {L : Nat} {a2 a3 a4 a5 a6 a7 a8 a9 : Int} {M : aM} {o : aO} (h : aX xc_141 (aSeek xc_141 116) [aR 99, aU, aR a2, aI a3, aI a4, aI a5, aI a6, aI a7, aI a8, aI (aW (a9 + (-1))), aU, aU] [] (SH L) M o) : aX xc_141 (aSeek xc_141 223) [aR 99, aU, aR a2, aI a3, aI a4, aI a5, aI a6, aI a7, aI a8, aI a9, aU, aU] [] (SH L) M o := by
  exact aX_seg 2 (fun n g => g) (h)
/- TypeLock$LineFiller.prepare(LTypeLock$Text;LTypeLock$Bed;I)V -/
set_option maxRecDepth 100000 in
theorem en_142 {L : Nat} {a1 a2 a3 : Int} {M : aM} {o : aO} (h : ((¬ (M 99 8) = a3 → (aK (SH L) 99 = 14 ∧ -1 ≤ (a1 : Int)) ∧ (aK (SH L) ((aSet (aSet M 99 8 a3) 99 7 a1) 99 7) = 19) ∧ (0 ≤ (aSet (aSet M 99 8 a3) 99 7 a1) ((aSet (aSet M 99 8 a3) 99 7 a1) 99 7) 3 ∧ (aSet (aSet M 99 8 a3) 99 7 a1) ((aSet (aSet M 99 8 a3) 99 7 a1) 99 7) 3 < aLn (SH L) 6 100) ∧ (∃ (M1 : aM), aE 78 [aR (aF (SH L) 100 ((aSet (aSet M 99 8 a3) 99 7 a1) ((aSet (aSet M 99 8 a3) 99 7 a1) 99 7) 3).toNat), aI 1000000] (SH L) (aSet (aSet M 99 8 a3) 99 7 a1) ([], (SH L), M1) ∧ (aK (SH L) (M1 99 7) = 19) ∧ (0 ≤ M1 (M1 99 7) 3 ∧ M1 (M1 99 7) 3 < aLn (SH L) 6 100) ∧ ((0 : Int) ≤ 0 ∧ (0 : Int) < aLn (SH L) 1 (aF (SH L) 100 (M1 (M1 99 7) 3).toNat)) ∧ (aK (SH L) ((aSet M1 (aF (SH L) 100 (M1 (M1 99 7) 3).toNat) 0 0) 99 7) = 19) ∧ aX xc_142 (aSeek xc_142 62) [aR 99, aU, aR a2, aU, aI (aW (((aSet M1 (aF (SH L) 100 (M1 (M1 99 7) 3).toNat) 0 0) ((aSet M1 (aF (SH L) 100 (M1 (M1 99 7) 3).toNat) 0 0) 99 7) 3) - 1))] [] (SH L) (aSet M1 (aF (SH L) 100 (M1 (M1 99 7) 3).toNat) 0 0) o)) ∧ (¬ (¬ (M 99 8) = a3) → o = ([], (SH L), M)))) : aE 142 [aR 99, aR a1, aR a2, aI a3] (SH L) M o := by
  have q : aX xc_142 (aSeek xc_142 0) [aR 99, aR a1, aR a2, aI a3, aU] [] (SH L) M o := by
    by_cases cc : ¬ (M 99 8) = a3
    · replace h := h.1 cc
      have t2 : aX xc_142 (aSeek xc_142 9) [aR 99, aR a1, aR a2, aI a3, aU] [] (SH L) M o := by
        obtain ⟨c3, h⟩ := h
        obtain ⟨c4, h⟩ := h
        obtain ⟨c5, h⟩ := h
        obtain ⟨M1, k6, h⟩ := h
        have h2 : aX xc_142 (aSeek xc_142 36) [aR 99, aR a1, aR a2, aI a3, aU] [] (SH L) M1 o := by
          obtain ⟨c7, h⟩ := h
          obtain ⟨c8, h⟩ := h
          obtain ⟨c9, h⟩ := h
          obtain ⟨c10, h⟩ := h
          exact aX_seg 15 (fun n g => ip c7 (ip c8 (ip c9 (ip c10 (g))))) (aX_le (ls := [aR 99, aU, aR a2, aU, aI (aW (((aSet M1 (aF (SH L) 100 (M1 (M1 99 7) 3).toNat) 0 0) ((aSet M1 (aF (SH L) 100 (M1 (M1 99 7) 3).toNat) 0 0) 99 7) 3) - 1))]) (ls1 := [aR 99, aR a1, aR a2, aI a3, aI (aW (((aSet M1 (aF (SH L) 100 (M1 (M1 99 7) 3).toNat) 0 0) ((aSet M1 (aF (SH L) 100 (M1 (M1 99 7) 3).toNat) 0 0) 99 7) 3) - 1))]) (⟨Or.inr rfl, ⟨Or.inl rfl, ⟨Or.inr rfl, ⟨Or.inl rfl, ⟨Or.inr rfl, trivial⟩⟩⟩⟩⟩) h)
        exact aX_seg 13 (fun n g => ip c3 (ip c4 (ip c5 (g)))) (aX_calls rfl rfl rfl k6 h2)
      exact aX_seg 4 (fun n g => ip cc (g)) t2
    · replace h := h.2 cc
      have t11 : aX xc_142 (aSeek xc_142 8) [aR 99, aR a1, aR a2, aI a3, aU] [] (SH L) M o := by
        subst h
        exact ⟨1, rfl⟩
      exact aX_seg 4 (fun n g => in_ cc (g)) t11
  exact q
set_option maxRecDepth 100000 in
theorem bl_142_62 {L : Nat} {a2 a4 : Int} {M : aM} {o : aO} (h : ((a4 < 0 → o = ([], (SH L), M)) ∧ (¬ (a4 < 0) → (aK (SH L) (M 99 7) = 19 ∧ ∃ (M1 : aM) (v2 : Int), aE 139 [aR (M 99 7), aI a4] (SH L) M ([aI v2], (SH L), M1) ∧ ((v2 = 0 → aX xc_142 (aSeek xc_142 99) [aR 99, aU, aR a2, aU, aI a4] [aI 0, aI a4, aR 117] (SH L) M1 o) ∧ (¬ (v2 = 0) → (aK (SH L) a2 = 10 ∧ ∃ (M3 : aM) (v4 : Int), aE 60 [aR a2, aR (M1 99 7), aI a4] (SH L) M1 ([aI v4], (SH L), M3) ∧ aX xc_142 (aSeek xc_142 99) [aR 99, aU, aR a2, aU, aI a4] [aI v4, aI a4, aR 117] (SH L) M3 o))))))) : aX xc_142 (aSeek xc_142 62) [aR 99, aU, aR a2, aU, aI a4] [] (SH L) M o := by
  by_cases cc : a4 < 0
  · replace h := h.1 cc
    have t5 : aX xc_142 (aSeek xc_142 112) [aR 99, aU, aR a2, aU, aI a4] [] (SH L) M o := by
      subst h
      exact ⟨1, rfl⟩
    exact aX_seg 2 (fun n g => ip cc (g)) t5
  · replace h := h.2 cc
    have t6 : aX xc_142 (aSeek xc_142 67) [aR 99, aU, aR a2, aU, aI a4] [] (SH L) M o := by
      obtain ⟨c7, h⟩ := h
      obtain ⟨M1, v2, k8, h⟩ := h
      have h2 : aX xc_142 (aSeek xc_142 82) [aR 99, aU, aR a2, aU, aI a4] [aI v2, aI a4, aR 117] (SH L) M1 o := by
        by_cases cc : v2 = 0
        · replace h := h.1 cc
          have t9 : aX xc_142 (aSeek xc_142 98) [aR 99, aU, aR a2, aU, aI a4] [aI a4, aR 117] (SH L) M1 o := by
            exact aX_seg 1 (fun n g => g) (h)
          exact aX_seg 1 (fun n g => ip cc (g)) t9
        · replace h := h.2 cc
          have t10 : aX xc_142 (aSeek xc_142 85) [aR 99, aU, aR a2, aU, aI a4] [aI a4, aR 117] (SH L) M1 o := by
            obtain ⟨c11, h⟩ := h
            obtain ⟨M3, v4, k12, h⟩ := h
            have h2 : aX xc_142 (aSeek xc_142 95) [aR 99, aU, aR a2, aU, aI a4] [aI v4, aI a4, aR 117] (SH L) M3 o := by
              exact aX_seg 1 (fun n g => g) (h)
            exact aX_seg 4 (fun n g => g) (aX_callv (c11) rfl rfl rfl k12 h2)
          exact aX_seg 1 (fun n g => in_ cc (g)) t10
      exact aX_seg 6 (fun n g => g) (aX_callv (c7) rfl rfl rfl k8 h2)
    exact aX_seg 2 (fun n g => in_ cc (g)) t6
set_option maxRecDepth 100000 in
theorem bl_142_99 {L : Nat} {a2 a4 b0 b1 b2 : Int} {M : aM} {o : aO} (h : (0 ≤ b1 ∧ b1 < aLn (SH L) 1 b0) ∧ (∃ (M1 : aM), aE 141 [aR 99, aI a4] (SH L) (aSet M b0 b1 b2) ([], (SH L), M1) ∧ aX xc_142 (aSeek xc_142 62) [aR 99, aU, aR a2, aU, aI (aW (a4 + (-1)))] [] (SH L) M1 o)) : aX xc_142 (aSeek xc_142 99) [aR 99, aU, aR a2, aU, aI a4] [aI b2, aI b1, aR b0] (SH L) M o := by
  obtain ⟨c2, h⟩ := h
  obtain ⟨M1, k3, h⟩ := h
  have h2 : aX xc_142 (aSeek xc_142 106) [aR 99, aU, aR a2, aU, aI a4] [] (SH L) M1 o := by
    exact aX_seg 2 (fun n g => g) (h)
  exact aX_seg 3 (fun n g => ip c2 (g)) (aX_callv (rfl) rfl rfl rfl k3 h2)
/- TypeLock$LineFiller.solve(II)Z -/
set_option maxRecDepth 100000 in
theorem en_143 {L : Nat} {a1 a2 : Int} {M : aM} {o : aO} (h : aX xc_143 (aSeek xc_143 13) [aR 99, aI a1, aI a2, aI 0] [] (SH L) (aSet (aSet M 99 0 1000000) 99 1 0) o) : aE 143 [aR 99, aI a1, aI a2] (SH L) M o := by
  have q : aX xc_143 (aSeek xc_143 0) [aR 99, aI a1, aI a2, aU] [] (SH L) M o := by
    exact aX_seg 8 (fun n g => g) (h)
  exact q
set_option maxRecDepth 100000 in
theorem bl_143_13 {L : Nat} {a1 a2 a3 : Int} {M : aM} {o : aO} (h : ((a2 < a3 → aX xc_143 (aSeek xc_143 76) [aR 99, aU, aU, aU] [] (SH L) M o) ∧ (¬ (a2 < a3) → ((a1 < a3 → aX xc_143 (aSeek xc_143 76) [aR 99, aU, aU, aU] [] (SH L) M o) ∧ (¬ (a1 < a3) → ((240 < a1 → aX xc_143 (aSeek xc_143 76) [aR 99, aU, aU, aU] [] (SH L) M o) ∧ (¬ (240 < a1) → (0 ≤ aW (a1 - a3) ∧ aW (a1 - a3) < aLn (SH L) 1 101) ∧ (((M 99 0) ≤ (aW ((M 101 (aW (a1 - a3))) + a3)) → aX xc_143 (aSeek xc_143 70) [aR 99, aI a1, aI a2, aI a3] [] (SH L) M o) ∧ (¬ ((M 99 0) ≤ (aW ((M 101 (aW (a1 - a3))) + a3))) → (0 ≤ aW (a1 - a3) ∧ aW (a1 - a3) < aLn (SH L) 1 101) ∧ aX xc_143 (aSeek xc_143 70) [aR 99, aI a1, aI a2, aI a3] [] (SH L) (aSet (aSet M 99 0 (aW ((M 101 (aW (a1 - a3))) + a3))) 99 1 a3) o))))))))) : aX xc_143 (aSeek xc_143 13) [aR 99, aI a1, aI a2, aI a3] [] (SH L) M o := by
  by_cases cc : a2 < a3
  · replace h := h.1 cc
    have t1 : aX xc_143 (aSeek xc_143 76) [aR 99, aI a1, aI a2, aI a3] [] (SH L) M o := by
      exact aX_le (ls := [aR 99, aU, aU, aU]) (ls1 := [aR 99, aI a1, aI a2, aI a3]) (⟨Or.inr rfl, ⟨Or.inl rfl, ⟨Or.inl rfl, ⟨Or.inl rfl, trivial⟩⟩⟩⟩) h
    exact aX_seg 3 (fun n g => ip cc (g)) t1
  · replace h := h.2 cc
    have t2 : aX xc_143 (aSeek xc_143 18) [aR 99, aI a1, aI a2, aI a3] [] (SH L) M o := by
      by_cases cc : a1 < a3
      · replace h := h.1 cc
        have t3 : aX xc_143 (aSeek xc_143 76) [aR 99, aI a1, aI a2, aI a3] [] (SH L) M o := by
          exact aX_le (ls := [aR 99, aU, aU, aU]) (ls1 := [aR 99, aI a1, aI a2, aI a3]) (⟨Or.inr rfl, ⟨Or.inl rfl, ⟨Or.inl rfl, ⟨Or.inl rfl, trivial⟩⟩⟩⟩) h
        exact aX_seg 3 (fun n g => ip cc (g)) t3
      · replace h := h.2 cc
        have t4 : aX xc_143 (aSeek xc_143 23) [aR 99, aI a1, aI a2, aI a3] [] (SH L) M o := by
          by_cases cc : 240 < a1
          · replace h := h.1 cc
            have t5 : aX xc_143 (aSeek xc_143 76) [aR 99, aI a1, aI a2, aI a3] [] (SH L) M o := by
              exact aX_le (ls := [aR 99, aU, aU, aU]) (ls1 := [aR 99, aI a1, aI a2, aI a3]) (⟨Or.inr rfl, ⟨Or.inl rfl, ⟨Or.inl rfl, ⟨Or.inl rfl, trivial⟩⟩⟩⟩) h
            exact aX_seg 3 (fun n g => ip cc (g)) t5
          · replace h := h.2 cc
            have t6 : aX xc_143 (aSeek xc_143 30) [aR 99, aI a1, aI a2, aI a3] [] (SH L) M o := by
              obtain ⟨c7, h⟩ := h
              by_cases cc : (M 99 0) ≤ (aW ((M 101 (aW (a1 - a3))) + a3))
              · replace h := h.1 cc
                have t8 : aX xc_143 (aSeek xc_143 70) [aR 99, aI a1, aI a2, aI a3] [] (SH L) M o := by
                  exact h
                exact aX_seg 13 (fun n g => ip c7 (ip cc (g))) t8
              · replace h := h.2 cc
                have t9 : aX xc_143 (aSeek xc_143 49) [aR 99, aI a1, aI a2, aI a3] [] (SH L) M o := by
                  obtain ⟨c10, h⟩ := h
                  exact aX_seg 15 (fun n g => ip c10 (g)) (h)
                exact aX_seg 13 (fun n g => ip c7 (in_ cc (g))) t9
            exact aX_seg 3 (fun n g => in_ cc (g)) t6
        exact aX_seg 3 (fun n g => in_ cc (g)) t4
    exact aX_seg 3 (fun n g => in_ cc (g)) t2
set_option maxRecDepth 100000 in
theorem bl_143_70 {L : Nat} {a1 a2 a3 : Int} {M : aM} {o : aO} (h : aX xc_143 (aSeek xc_143 13) [aR 99, aI a1, aI a2, aI (aW (a3 + 1))] [] (SH L) M o) : aX xc_143 (aSeek xc_143 70) [aR 99, aI a1, aI a2, aI a3] [] (SH L) M o := by
  exact aX_seg 2 (fun n g => g) (h)
set_option maxRecDepth 100000 in
theorem bl_143_76 {L : Nat} {M : aM} {o : aO} (h : ((1000000 ≤ (M 99 0) → o = ([aI 0], (SH L), M)) ∧ (¬ (1000000 ≤ (M 99 0)) → o = ([aI 1], (SH L), M)))) : aX xc_143 (aSeek xc_143 76) [aR 99, aU, aU, aU] [] (SH L) M o := by
  by_cases cc : 1000000 ≤ (M 99 0)
  · replace h := h.1 cc
    have t1 : aX xc_143 (aSeek xc_143 89) [aR 99, aU, aU, aU] [] (SH L) M o := by
      subst h
      exact ⟨2, rfl⟩
    exact aX_seg 4 (fun n g => ip cc (g)) t1
  · replace h := h.2 cc
    have t2 : aX xc_143 (aSeek xc_143 85) [aR 99, aU, aU, aU] [] (SH L) M o := by
      subst h
      exact ⟨3, rfl⟩
    exact aX_seg 4 (fun n g => in_ cc (g)) t2
/- TypeLock$LineFiller.giveShare(II)I -/
set_option maxRecDepth 100000 in
theorem en_144 {L : Nat} {a1 a2 : Int} {M : aM} {o : aO} (h : (aK (SH L) ((aSet (aSet M 99 2 0) 99 3 0) 99 7) = 19) ∧ (0 ≤ a1 ∧ a1 < aLn (SH L) 1 (aF (SH L) ((aSet (aSet M 99 2 0) 99 3 0) 99 7) 6)) ∧ (aK (SH L) ((aSet (aSet M 99 2 0) 99 3 0) 99 7) = 19) ∧ (0 ≤ a1 ∧ a1 < aLn (SH L) 1 (aF (SH L) ((aSet (aSet M 99 2 0) 99 3 0) 99 7) 7)) ∧ ((a2 < 0 → o = ([aI a2], (SH L), aSet (aSet M 99 2 0) 99 3 0)) ∧ (¬ (a2 < 0) → ((a2 ≤ 240 → (0 ≤ a1 ∧ a1 < aLn (SH L) 1 117) ∧ (0 ≤ a1 ∧ a1 < aLn (SH L) 6 100) ∧ (0 ≤ a2 ∧ a2 < aLn (SH L) 1 (aF (SH L) 100 (a1).toNat)) ∧ aX xc_144 (aSeek xc_144 63) [aR 99, aI a1, aI a2, aI ((aSet (aSet M 99 2 0) 99 3 0) (aF (SH L) ((aSet (aSet M 99 2 0) 99 3 0) 99 7) 6) a1), aI ((aSet (aSet M 99 2 0) 99 3 0) (aF (SH L) ((aSet (aSet M 99 2 0) 99 3 0) 99 7) 7) a1), aI (min ((aSet (aSet M 99 2 0) 99 3 0) 117 a1) ((aSet (aSet M 99 2 0) 99 3 0) (aF (SH L) 100 (a1).toNat) a2)), aU, aU] [] (SH L) (aSet (aSet M 99 2 0) 99 3 0) o) ∧ (¬ (a2 ≤ 240) → o = ([aI a2], (SH L), aSet (aSet M 99 2 0) 99 3 0)))))) : aE 144 [aR 99, aI a1, aI a2] (SH L) M o := by
  have q : aX xc_144 (aSeek xc_144 0) [aR 99, aI a1, aI a2, aU, aU, aU, aU, aU] [] (SH L) M o := by
    obtain ⟨c1, h⟩ := h
    obtain ⟨c2, h⟩ := h
    obtain ⟨c3, h⟩ := h
    obtain ⟨c4, h⟩ := h
    by_cases cc : a2 < 0
    · replace h := h.1 cc
      have t5 : aX xc_144 (aSeek xc_144 42) [aR 99, aI a1, aI a2, aI ((aSet (aSet M 99 2 0) 99 3 0) (aF (SH L) ((aSet (aSet M 99 2 0) 99 3 0) 99 7) 6) a1), aI ((aSet (aSet M 99 2 0) 99 3 0) (aF (SH L) ((aSet (aSet M 99 2 0) 99 3 0) 99 7) 7) a1), aU, aU, aU] [] (SH L) (aSet (aSet M 99 2 0) 99 3 0) o := by
        subst h
        exact ⟨2, rfl⟩
      exact aX_seg 20 (fun n g => ip c1 (ip c2 (ip c3 (ip c4 (ip cc (g)))))) t5
    · replace h := h.2 cc
      have t6 : aX xc_144 (aSeek xc_144 35) [aR 99, aI a1, aI a2, aI ((aSet (aSet M 99 2 0) 99 3 0) (aF (SH L) ((aSet (aSet M 99 2 0) 99 3 0) 99 7) 6) a1), aI ((aSet (aSet M 99 2 0) 99 3 0) (aF (SH L) ((aSet (aSet M 99 2 0) 99 3 0) 99 7) 7) a1), aU, aU, aU] [] (SH L) (aSet (aSet M 99 2 0) 99 3 0) o := by
        by_cases cc : a2 ≤ 240
        · replace h := h.1 cc
          have t7 : aX xc_144 (aSeek xc_144 44) [aR 99, aI a1, aI a2, aI ((aSet (aSet M 99 2 0) 99 3 0) (aF (SH L) ((aSet (aSet M 99 2 0) 99 3 0) 99 7) 6) a1), aI ((aSet (aSet M 99 2 0) 99 3 0) (aF (SH L) ((aSet (aSet M 99 2 0) 99 3 0) 99 7) 7) a1), aU, aU, aU] [] (SH L) (aSet (aSet M 99 2 0) 99 3 0) o := by
            obtain ⟨c8, h⟩ := h
            obtain ⟨c9, h⟩ := h
            obtain ⟨c10, h⟩ := h
            exact aX_seg 12 (fun n g => ip c8 (ip c9 (ip c10 (g)))) (h)
          exact aX_seg 3 (fun n g => ip cc (g)) t7
        · replace h := h.2 cc
          have t11 : aX xc_144 (aSeek xc_144 42) [aR 99, aI a1, aI a2, aI ((aSet (aSet M 99 2 0) 99 3 0) (aF (SH L) ((aSet (aSet M 99 2 0) 99 3 0) 99 7) 6) a1), aI ((aSet (aSet M 99 2 0) 99 3 0) (aF (SH L) ((aSet (aSet M 99 2 0) 99 3 0) 99 7) 7) a1), aU, aU, aU] [] (SH L) (aSet (aSet M 99 2 0) 99 3 0) o := by
            subst h
            exact ⟨2, rfl⟩
          exact aX_seg 3 (fun n g => in_ cc (g)) t11
      exact aX_seg 20 (fun n g => ip c1 (ip c2 (ip c3 (ip c4 (in_ cc (g)))))) t6
  exact q
set_option maxRecDepth 100000 in
theorem bl_144_63 {L : Nat} {a1 a2 a3 a4 a5 : Int} {M : aM} {o : aO} (h : ((a5 ≤ 0 → o = ([aI a2], (SH L), M)) ∧ (¬ (a5 ≤ 0) → aX xc_144 (aSeek xc_144 72) [aR 99, aI a1, aI a2, aI a3, aI a4, aI a5, aI a5, aU] [] (SH L) M o))) : aX xc_144 (aSeek xc_144 63) [aR 99, aI a1, aI a2, aI a3, aI a4, aI a5, aU, aU] [] (SH L) M o := by
  by_cases cc : a5 ≤ 0
  · replace h := h.1 cc
    have t1 : aX xc_144 (aSeek xc_144 160) [aR 99, aI a1, aI a2, aI a3, aI a4, aI a5, aU, aU] [] (SH L) M o := by
      subst h
      exact ⟨2, rfl⟩
    exact aX_seg 2 (fun n g => ip cc (g)) t1
  · replace h := h.2 cc
    have t2 : aX xc_144 (aSeek xc_144 68) [aR 99, aI a1, aI a2, aI a3, aI a4, aI a5, aU, aU] [] (SH L) M o := by
      exact aX_seg 2 (fun n g => g) (h)
    exact aX_seg 2 (fun n g => in_ cc (g)) t2
set_option maxRecDepth 100000 in
theorem bl_144_72 {L : Nat} {a1 a2 a3 a4 a5 a6 : Int} {M : aM} {o : aO} (h : ((a6 < 0 → aX xc_144 (aSeek xc_144 63) [aR 99, aI a1, aI a2, aI a3, aI a4, aI (aW (a5 + (-1))), aU, aU] [] (SH L) M o) ∧ (¬ (a6 < 0) → (((aW ((aW (a2 - (aW (a6 * a3)))) - (aW ((aW (a5 - a6)) * a4)))) < 0 → aX xc_144 (aSeek xc_144 148) [aR 99, aI a1, aI a2, aI a3, aI a4, aI a5, aI a6, aU] [] (SH L) M o) ∧ (¬ ((aW ((aW (a2 - (aW (a6 * a3)))) - (aW ((aW (a5 - a6)) * a4)))) < 0) → ((a2 < (aW ((aW (a2 - (aW (a6 * a3)))) - (aW ((aW (a5 - a6)) * a4)))) → aX xc_144 (aSeek xc_144 148) [aR 99, aI a1, aI a2, aI a3, aI a4, aI a5, aI a6, aU] [] (SH L) M o) ∧ (¬ (a2 < (aW ((aW (a2 - (aW (a6 * a3)))) - (aW ((aW (a5 - a6)) * a4))))) → (0 ≤ aW (a1 + 1) ∧ aW (a1 + 1) < aLn (SH L) 6 100) ∧ (0 ≤ aW ((aW (a2 - (aW (a6 * a3)))) - (aW ((aW (a5 - a6)) * a4))) ∧ aW ((aW (a2 - (aW (a6 * a3)))) - (aW ((aW (a5 - a6)) * a4))) < aLn (SH L) 1 (aF (SH L) 100 (aW (a1 + 1)).toNat)) ∧ (0 ≤ a1 ∧ a1 < aLn (SH L) 6 100) ∧ (0 ≤ a2 ∧ a2 < aLn (SH L) 1 (aF (SH L) 100 (a1).toNat)) ∧ ((¬ (aW ((M (aF (SH L) 100 (aW (a1 + 1)).toNat) (aW ((aW (a2 - (aW (a6 * a3)))) - (aW ((aW (a5 - a6)) * a4))))) + a5)) = (M (aF (SH L) 100 (a1).toNat) a2) → aX xc_144 (aSeek xc_144 148) [aR 99, aI a1, aI a2, aI a3, aI a4, aI a5, aI a6, aU] [] (SH L) M o) ∧ (¬ (¬ (aW ((M (aF (SH L) 100 (aW (a1 + 1)).toNat) (aW ((aW (a2 - (aW (a6 * a3)))) - (aW ((aW (a5 - a6)) * a4))))) + a5)) = (M (aF (SH L) 100 (a1).toNat) a2)) → o = ([aI (aW ((aW (a2 - (aW (a6 * a3)))) - (aW ((aW (a5 - a6)) * a4))))], (SH L), aSet (aSet M 99 2 a6) 99 3 (aW (a5 - a6)))))))))))) : aX xc_144 (aSeek xc_144 72) [aR 99, aI a1, aI a2, aI a3, aI a4, aI a5, aI a6, aU] [] (SH L) M o := by
  by_cases cc : a6 < 0
  · replace h := h.1 cc
    have t1 : aX xc_144 (aSeek xc_144 154) [aR 99, aI a1, aI a2, aI a3, aI a4, aI a5, aI a6, aU] [] (SH L) M o := by
      exact aX_seg 2 (fun n g => g) (aX_le (ls := [aR 99, aI a1, aI a2, aI a3, aI a4, aI (aW (a5 + (-1))), aU, aU]) (ls1 := [aR 99, aI a1, aI a2, aI a3, aI a4, aI (aW (a5 + (-1))), aI a6, aU]) (⟨Or.inr rfl, ⟨Or.inr rfl, ⟨Or.inr rfl, ⟨Or.inr rfl, ⟨Or.inr rfl, ⟨Or.inr rfl, ⟨Or.inl rfl, ⟨Or.inl rfl, trivial⟩⟩⟩⟩⟩⟩⟩⟩) h)
    exact aX_seg 2 (fun n g => ip cc (g)) t1
  · replace h := h.2 cc
    have t2 : aX xc_144 (aSeek xc_144 77) [aR 99, aI a1, aI a2, aI a3, aI a4, aI a5, aI a6, aU] [] (SH L) M o := by
      by_cases cc : (aW ((aW (a2 - (aW (a6 * a3)))) - (aW ((aW (a5 - a6)) * a4)))) < 0
      · replace h := h.1 cc
        have t3 : aX xc_144 (aSeek xc_144 148) [aR 99, aI a1, aI a2, aI a3, aI a4, aI a5, aI a6, aI (aW ((aW (a2 - (aW (a6 * a3)))) - (aW ((aW (a5 - a6)) * a4))))] [] (SH L) M o := by
          exact aX_le (ls := [aR 99, aI a1, aI a2, aI a3, aI a4, aI a5, aI a6, aU]) (ls1 := [aR 99, aI a1, aI a2, aI a3, aI a4, aI a5, aI a6, aI (aW ((aW (a2 - (aW (a6 * a3)))) - (aW ((aW (a5 - a6)) * a4))))]) (⟨Or.inr rfl, ⟨Or.inr rfl, ⟨Or.inr rfl, ⟨Or.inr rfl, ⟨Or.inr rfl, ⟨Or.inr rfl, ⟨Or.inr rfl, ⟨Or.inl rfl, trivial⟩⟩⟩⟩⟩⟩⟩⟩) h
        exact aX_seg 14 (fun n g => ip cc (g)) t3
      · replace h := h.2 cc
        have t4 : aX xc_144 (aSeek xc_144 99) [aR 99, aI a1, aI a2, aI a3, aI a4, aI a5, aI a6, aI (aW ((aW (a2 - (aW (a6 * a3)))) - (aW ((aW (a5 - a6)) * a4))))] [] (SH L) M o := by
          by_cases cc : a2 < (aW ((aW (a2 - (aW (a6 * a3)))) - (aW ((aW (a5 - a6)) * a4))))
          · replace h := h.1 cc
            have t5 : aX xc_144 (aSeek xc_144 148) [aR 99, aI a1, aI a2, aI a3, aI a4, aI a5, aI a6, aI (aW ((aW (a2 - (aW (a6 * a3)))) - (aW ((aW (a5 - a6)) * a4))))] [] (SH L) M o := by
              exact aX_le (ls := [aR 99, aI a1, aI a2, aI a3, aI a4, aI a5, aI a6, aU]) (ls1 := [aR 99, aI a1, aI a2, aI a3, aI a4, aI a5, aI a6, aI (aW ((aW (a2 - (aW (a6 * a3)))) - (aW ((aW (a5 - a6)) * a4))))]) (⟨Or.inr rfl, ⟨Or.inr rfl, ⟨Or.inr rfl, ⟨Or.inr rfl, ⟨Or.inr rfl, ⟨Or.inr rfl, ⟨Or.inr rfl, ⟨Or.inl rfl, trivial⟩⟩⟩⟩⟩⟩⟩⟩) h
            exact aX_seg 3 (fun n g => ip cc (g)) t5
          · replace h := h.2 cc
            have t6 : aX xc_144 (aSeek xc_144 105) [aR 99, aI a1, aI a2, aI a3, aI a4, aI a5, aI a6, aI (aW ((aW (a2 - (aW (a6 * a3)))) - (aW ((aW (a5 - a6)) * a4))))] [] (SH L) M o := by
              obtain ⟨c7, h⟩ := h
              obtain ⟨c8, h⟩ := h
              obtain ⟨c9, h⟩ := h
              obtain ⟨c10, h⟩ := h
              by_cases cc : ¬ (aW ((M (aF (SH L) 100 (aW (a1 + 1)).toNat) (aW ((aW (a2 - (aW (a6 * a3)))) - (aW ((aW (a5 - a6)) * a4))))) + a5)) = (M (aF (SH L) 100 (a1).toNat) a2)
              · replace h := h.1 cc
                have t11 : aX xc_144 (aSeek xc_144 148) [aR 99, aI a1, aI a2, aI a3, aI a4, aI a5, aI a6, aI (aW ((aW (a2 - (aW (a6 * a3)))) - (aW ((aW (a5 - a6)) * a4))))] [] (SH L) M o := by
                  exact aX_le (ls := [aR 99, aI a1, aI a2, aI a3, aI a4, aI a5, aI a6, aU]) (ls1 := [aR 99, aI a1, aI a2, aI a3, aI a4, aI a5, aI a6, aI (aW ((aW (a2 - (aW (a6 * a3)))) - (aW ((aW (a5 - a6)) * a4))))]) (⟨Or.inr rfl, ⟨Or.inr rfl, ⟨Or.inr rfl, ⟨Or.inr rfl, ⟨Or.inr rfl, ⟨Or.inr rfl, ⟨Or.inr rfl, ⟨Or.inl rfl, trivial⟩⟩⟩⟩⟩⟩⟩⟩) h
                exact aX_seg 17 (fun n g => ip c7 (ip c8 (ip c9 (ip c10 (ip cc (g)))))) t11
              · replace h := h.2 cc
                have t12 : aX xc_144 (aSeek xc_144 130) [aR 99, aI a1, aI a2, aI a3, aI a4, aI a5, aI a6, aI (aW ((aW (a2 - (aW (a6 * a3)))) - (aW ((aW (a5 - a6)) * a4))))] [] (SH L) M o := by
                  subst h
                  exact ⟨10, rfl⟩
                exact aX_seg 17 (fun n g => ip c7 (ip c8 (ip c9 (ip c10 (in_ cc (g)))))) t12
            exact aX_seg 3 (fun n g => in_ cc (g)) t6
        exact aX_seg 14 (fun n g => in_ cc (g)) t4
    exact aX_seg 2 (fun n g => in_ cc (g)) t2
set_option maxRecDepth 100000 in
theorem bl_144_148 {L : Nat} {a1 a2 a3 a4 a5 a6 : Int} {M : aM} {o : aO} (h : aX xc_144 (aSeek xc_144 72) [aR 99, aI a1, aI a2, aI a3, aI a4, aI a5, aI (aW (a6 + (-1))), aU] [] (SH L) M o) : aX xc_144 (aSeek xc_144 148) [aR 99, aI a1, aI a2, aI a3, aI a4, aI a5, aI a6, aU] [] (SH L) M o := by
  exact aX_seg 2 (fun n g => g) (h)
/- TypeLock$LineFiller.shareOut(II)V -/
set_option maxRecDepth 100000 in
theorem en_145 {L : Nat} {a1 a2 : Int} {M : aM} {o : aO} (h : aX xc_145 (aSeek xc_145 5) [aR 99, aU, aI a2, aI a1, aI 0] [] (SH L) M o) : aE 145 [aR 99, aI a1, aI a2] (SH L) M o := by
  have q : aX xc_145 (aSeek xc_145 0) [aR 99, aI a1, aI a2, aU, aU] [] (SH L) M o := by
    exact aX_seg 4 (fun n g => g) (aX_le (ls := [aR 99, aU, aI a2, aI a1, aI 0]) (ls1 := [aR 99, aI a1, aI a2, aI a1, aI 0]) (⟨Or.inr rfl, ⟨Or.inl rfl, ⟨Or.inr rfl, ⟨Or.inr rfl, ⟨Or.inr rfl, trivial⟩⟩⟩⟩⟩) h)
  exact q
set_option maxRecDepth 100000 in
theorem bl_145_5 {L : Nat} {a2 a3 a4 : Int} {M : aM} {o : aO} (h : ((a2 < a4 → o = ([], (SH L), M)) ∧ (¬ (a2 < a4) → (aK (SH L) (M 99 7) = 19) ∧ (((M (M 99 7) 3) ≤ a4 → o = ([], (SH L), M)) ∧ (¬ ((M (M 99 7) 3) ≤ a4) → (∃ (M1 : aM) (v2 : Int), aE 144 [aR 99, aI a4, aI a3] (SH L) M ([aI v2], (SH L), M1) ∧ aX xc_145 (aSeek xc_145 5) [aR 99, aU, aI a2, aI v2, aI (aW (a4 + 1))] [] (SH L) M1 o)))))) : aX xc_145 (aSeek xc_145 5) [aR 99, aU, aI a2, aI a3, aI a4] [] (SH L) M o := by
  by_cases cc : a2 < a4
  · replace h := h.1 cc
    have t3 : aX xc_145 (aSeek xc_145 37) [aR 99, aU, aI a2, aI a3, aI a4] [] (SH L) M o := by
      subst h
      exact ⟨1, rfl⟩
    exact aX_seg 3 (fun n g => ip cc (g)) t3
  · replace h := h.2 cc
    have t4 : aX xc_145 (aSeek xc_145 11) [aR 99, aU, aI a2, aI a3, aI a4] [] (SH L) M o := by
      obtain ⟨c5, h⟩ := h
      by_cases cc : (M (M 99 7) 3) ≤ a4
      · replace h := h.1 cc
        have t6 : aX xc_145 (aSeek xc_145 37) [aR 99, aU, aI a2, aI a3, aI a4] [] (SH L) M o := by
          subst h
          exact ⟨1, rfl⟩
        exact aX_seg 5 (fun n g => ip c5 (ip cc (g))) t6
      · replace h := h.2 cc
        have t7 : aX xc_145 (aSeek xc_145 23) [aR 99, aU, aI a2, aI a3, aI a4] [] (SH L) M o := by
          obtain ⟨M1, v2, k8, h⟩ := h
          have h2 : aX xc_145 (aSeek xc_145 30) [aR 99, aU, aI a2, aI a3, aI a4] [aI v2] (SH L) M1 o := by
            exact aX_seg 3 (fun n g => g) (h)
          exact aX_seg 3 (fun n g => g) (aX_callv (rfl) rfl rfl rfl k8 h2)
        exact aX_seg 5 (fun n g => ip c5 (in_ cc (g))) t7
    exact aX_seg 3 (fun n g => in_ cc (g)) t4
/- TypeLock.line(III)I -/
set_option maxRecDepth 100000 in
theorem en_146 {L : Nat} {a1 a2 a3 : Int} {M : aM} {o : aO} (h : (∃ (M1 : aM) (v2 : Int), aE 138 [aI a1, aI a2] (SH L) M ([aI v2], (SH L), M1) ∧ ((v2 = 0 → o = ([aI ((-1))], (SH L), M1)) ∧ (¬ (v2 = 0) → ((a3 = 0 → aX xc_146 (aSeek xc_146 27) [aR 1, aI a1, aI a2, aI a3] [] (SH L) M1 o) ∧ (¬ (a3 = 0) → ((a3 = 1 → aX xc_146 (aSeek xc_146 27) [aR 1, aI a1, aI a2, aI a3] [] (SH L) M1 o) ∧ (¬ (a3 = 1) → (∃ (M3 : aM) (v4 : Int), aE 140 [aR 1, aI a3] (SH L) M1 ([aI v4], (SH L), M3) ∧ ((¬ v4 = 0 → aX xc_146 (aSeek xc_146 27) [aR 1, aI a1, aI a2, aI a3] [] (SH L) M3 o) ∧ (¬ (¬ v4 = 0) → o = ([aI ((-1))], (SH L), M3)))))))))))) : aE 146 [aR 1, aI a1, aI a2, aI a3] (SH L) M o := by
  have q : aX xc_146 (aSeek xc_146 0) [aR 1, aI a1, aI a2, aI a3] [] (SH L) M o := by
    obtain ⟨M1, v2, k5, h⟩ := h
    have h2 : aX xc_146 (aSeek xc_146 5) [aR 1, aI a1, aI a2, aI a3] [aI v2] (SH L) M1 o := by
      by_cases cc : v2 = 0
      · replace h := h.1 cc
        have t6 : aX xc_146 (aSeek xc_146 25) [aR 1, aI a1, aI a2, aI a3] [] (SH L) M1 o := by
          subst h
          exact ⟨2, rfl⟩
        exact aX_seg 1 (fun n g => ip cc (g)) t6
      · replace h := h.2 cc
        have t7 : aX xc_146 (aSeek xc_146 8) [aR 1, aI a1, aI a2, aI a3] [] (SH L) M1 o := by
          by_cases cc : a3 = 0
          · replace h := h.1 cc
            have t8 : aX xc_146 (aSeek xc_146 27) [aR 1, aI a1, aI a2, aI a3] [] (SH L) M1 o := by
              exact h
            exact aX_seg 2 (fun n g => ip cc (g)) t8
          · replace h := h.2 cc
            have t9 : aX xc_146 (aSeek xc_146 12) [aR 1, aI a1, aI a2, aI a3] [] (SH L) M1 o := by
              by_cases cc : a3 = 1
              · replace h := h.1 cc
                have t10 : aX xc_146 (aSeek xc_146 27) [aR 1, aI a1, aI a2, aI a3] [] (SH L) M1 o := by
                  exact h
                exact aX_seg 3 (fun n g => ip cc (g)) t10
              · replace h := h.2 cc
                have t11 : aX xc_146 (aSeek xc_146 17) [aR 1, aI a1, aI a2, aI a3] [] (SH L) M1 o := by
                  obtain ⟨M3, v4, k12, h⟩ := h
                  have h2 : aX xc_146 (aSeek xc_146 22) [aR 1, aI a1, aI a2, aI a3] [aI v4] (SH L) M3 o := by
                    by_cases cc : ¬ v4 = 0
                    · replace h := h.1 cc
                      have t13 : aX xc_146 (aSeek xc_146 27) [aR 1, aI a1, aI a2, aI a3] [] (SH L) M3 o := by
                        exact h
                      exact aX_seg 1 (fun n g => ip cc (g)) t13
                    · replace h := h.2 cc
                      have t14 : aX xc_146 (aSeek xc_146 25) [aR 1, aI a1, aI a2, aI a3] [] (SH L) M3 o := by
                        subst h
                        exact ⟨2, rfl⟩
                      exact aX_seg 1 (fun n g => in_ cc (g)) t14
                  exact aX_seg 2 (fun n g => g) (aX_callv (rfl) rfl rfl rfl k12 h2)
                exact aX_seg 3 (fun n g => in_ cc (g)) t11
            exact aX_seg 2 (fun n g => in_ cc (g)) t9
        exact aX_seg 1 (fun n g => in_ cc (g)) t7
    exact aX_seg 2 (fun n g => g) (aX_calls rfl rfl rfl k5 h2)
  exact q
set_option maxRecDepth 100000 in
theorem bl_146_27 {L : Nat} {a1 a2 a3 : Int} {M : aM} {o : aO} (h : (∃ (M1 : aM), aE 142 [aR 99, aR (M 1 3), aR 31, aI (M 1 9)] (SH L) M ([], (SH L), M1) ∧ (∃ (M2 : aM) (v3 : Int), aE 143 [aR 99, aI a1, aI a2] (SH L) M1 ([aI v3], (SH L), M2) ∧ ((¬ v3 = 0 → ((10 ≤ a3 → (∃ (M4 : aM), aE 145 [aR 99, aI (aW (a1 - (M2 99 1))), aI (aDiv (aW (a3 - 10)) 2)] (SH L) M2 ([], (SH L), M4) ∧ ((¬ (aRem a3 2) = 0 → o = ([aI (M4 99 3)], (SH L), M4)) ∧ (¬ (¬ (aRem a3 2) = 0) → o = ([aI (M4 99 2)], (SH L), M4))))) ∧ (¬ (10 ≤ a3) → ((¬ a3 = 0 → o = ([aI (M2 99 1)], (SH L), M2)) ∧ (¬ (¬ a3 = 0) → o = ([aI (M2 99 0)], (SH L), M2)))))) ∧ (¬ (¬ v3 = 0) → o = ([aI ((-2))], (SH L), M2)))))) : aX xc_146 (aSeek xc_146 27) [aR 1, aI a1, aI a2, aI a3] [] (SH L) M o := by
  obtain ⟨M1, k5, h⟩ := h
  have h2 : aX xc_146 (aSeek xc_146 46) [aR 1, aI a1, aI a2, aI a3] [] (SH L) M1 o := by
    obtain ⟨M2, v3, k6, h⟩ := h
    have h2 : aX xc_146 (aSeek xc_146 55) [aR 1, aI a1, aI a2, aI a3] [aI v3] (SH L) M2 o := by
      by_cases cc : ¬ v3 = 0
      · replace h := h.1 cc
        have t7 : aX xc_146 (aSeek xc_146 61) [aR 1, aI a1, aI a2, aI a3] [] (SH L) M2 o := by
          by_cases cc : 10 ≤ a3
          · replace h := h.1 cc
            have t8 : aX xc_146 (aSeek xc_146 89) [aR 1, aI a1, aI a2, aI a3] [] (SH L) M2 o := by
              obtain ⟨M4, k9, h⟩ := h
              have h2 : aX xc_146 (aSeek xc_146 111) [aR 1, aI a1, aI a2, aI a3] [] (SH L) M4 o := by
                by_cases cc : ¬ (aRem a3 2) = 0
                · replace h := h.1 cc
                  have t10 : aX xc_146 (aSeek xc_146 127) [aR 1, aI a1, aI a2, aI a3] [] (SH L) M4 o := by
                    subst h
                    exact ⟨4, rfl⟩
                  exact aX_seg 4 (fun n g => ip cc (g)) t10
                · replace h := h.2 cc
                  have t11 : aX xc_146 (aSeek xc_146 117) [aR 1, aI a1, aI a2, aI a3] [] (SH L) M4 o := by
                    subst h
                    exact ⟨5, rfl⟩
                  exact aX_seg 4 (fun n g => in_ cc (g)) t11
              exact aX_seg 12 (fun n g => g) (aX_callv (rfl) rfl rfl rfl k9 h2)
            exact aX_seg 3 (fun n g => ip cc (g)) t8
          · replace h := h.2 cc
            have t12 : aX xc_146 (aSeek xc_146 67) [aR 1, aI a1, aI a2, aI a3] [] (SH L) M2 o := by
              by_cases cc : ¬ a3 = 0
              · replace h := h.1 cc
                have t13 : aX xc_146 (aSeek xc_146 81) [aR 1, aI a1, aI a2, aI a3] [] (SH L) M2 o := by
                  subst h
                  exact ⟨4, rfl⟩
                exact aX_seg 2 (fun n g => ip cc (g)) t13
              · replace h := h.2 cc
                have t14 : aX xc_146 (aSeek xc_146 71) [aR 1, aI a1, aI a2, aI a3] [] (SH L) M2 o := by
                  subst h
                  exact ⟨5, rfl⟩
                exact aX_seg 2 (fun n g => in_ cc (g)) t14
            exact aX_seg 3 (fun n g => in_ cc (g)) t12
        exact aX_seg 1 (fun n g => ip cc (g)) t7
      · replace h := h.2 cc
        have t15 : aX xc_146 (aSeek xc_146 58) [aR 1, aI a1, aI a2, aI a3] [] (SH L) M2 o := by
          subst h
          exact ⟨2, rfl⟩
        exact aX_seg 1 (fun n g => in_ cc (g)) t15
    exact aX_seg 4 (fun n g => g) (aX_callv (rfl) rfl rfl rfl k6 h2)
  exact aX_seg 8 (fun n g => g) (aX_callv (rfl) rfl rfl rfl k5 h2)
/- TypeLock$LineFiller.greatestTo(II)I -/
set_option maxRecDepth 100000 in
theorem en_147 {L : Nat} {a1 a2 : Int} {M : aM} {o : aO} (h : aX xc_147 (aSeek xc_147 8) [aR 99, aI a1, aI a2, aI (min a1 240)] [] (SH L) M o) : aE 147 [aR 99, aI a1, aI a2] (SH L) M o := by
  have q : aX xc_147 (aSeek xc_147 0) [aR 99, aI a1, aI a2, aU] [] (SH L) M o := by
    exact aX_seg 4 (fun n g => g) (h)
  exact q
set_option maxRecDepth 100000 in
theorem bl_147_8 {L : Nat} {a1 a2 a3 : Int} {M : aM} {o : aO} (h : ((a3 ≤ 0 → o = ([aI (min a1 a2)], (SH L), M)) ∧ (¬ (a3 ≤ 0) → (0 ≤ a3 ∧ a3 < aLn (SH L) 1 101) ∧ ((1000000 ≤ (M 101 a3) → aX xc_147 (aSeek xc_147 8) [aR 99, aI a1, aI a2, aI (aW (a3 + (-1)))] [] (SH L) M o) ∧ (¬ (1000000 ≤ (M 101 a3)) → o = ([aI (min a1 (aW (a3 + a2)))], (SH L), M)))))) : aX xc_147 (aSeek xc_147 8) [aR 99, aI a1, aI a2, aI a3] [] (SH L) M o := by
  by_cases cc : a3 ≤ 0
  · replace h := h.1 cc
    have t1 : aX xc_147 (aSeek xc_147 39) [aR 99, aI a1, aI a2, aI a3] [] (SH L) M o := by
      subst h
      exact ⟨4, rfl⟩
    exact aX_seg 2 (fun n g => ip cc (g)) t1
  · replace h := h.2 cc
    have t2 : aX xc_147 (aSeek xc_147 12) [aR 99, aI a1, aI a2, aI a3] [] (SH L) M o := by
      obtain ⟨c3, h⟩ := h
      by_cases cc : 1000000 ≤ (M 101 a3)
      · replace h := h.1 cc
        have t4 : aX xc_147 (aSeek xc_147 33) [aR 99, aI a1, aI a2, aI a3] [] (SH L) M o := by
          exact aX_seg 2 (fun n g => g) (h)
        exact aX_seg 8 (fun n g => ip c3 (ip cc (g))) t4
      · replace h := h.2 cc
        have t5 : aX xc_147 (aSeek xc_147 25) [aR 99, aI a1, aI a2, aI a3] [] (SH L) M o := by
          subst h
          exact ⟨6, rfl⟩
        exact aX_seg 8 (fun n g => ip c3 (in_ cc (g))) t5
    exact aX_seg 2 (fun n g => in_ cc (g)) t2
/- TypeLock.nearest(II)I -/
set_option maxRecDepth 100000 in
theorem en_148 {L : Nat} {a1 a2 : Int} {M : aM} {o : aO} (h : (∃ (M1 : aM) (v2 : Int), aE 138 [aI a1, aI a2] (SH L) M ([aI v2], (SH L), M1) ∧ ((¬ v2 = 0 → (∃ (M3 : aM), aE 142 [aR 99, aR (M1 1 3), aR 31, aI (M1 1 9)] (SH L) M1 ([], (SH L), M3) ∧ (∃ (M4 : aM) (v5 : Int), aE 147 [aR 99, aI a1, aI a2] (SH L) M3 ([aI v5], (SH L), M4) ∧ o = ([aI v5], (SH L), M4)))) ∧ (¬ (¬ v2 = 0) → o = ([aI ((-1))], (SH L), M1))))) : aE 148 [aR 1, aI a1, aI a2] (SH L) M o := by
  have q : aX xc_148 (aSeek xc_148 0) [aR 1, aI a1, aI a2] [] (SH L) M o := by
    obtain ⟨M1, v2, k6, h⟩ := h
    have h2 : aX xc_148 (aSeek xc_148 5) [aR 1, aI a1, aI a2] [aI v2] (SH L) M1 o := by
      by_cases cc : ¬ v2 = 0
      · replace h := h.1 cc
        have t7 : aX xc_148 (aSeek xc_148 10) [aR 1, aI a1, aI a2] [] (SH L) M1 o := by
          obtain ⟨M3, k8, h⟩ := h
          have h2 : aX xc_148 (aSeek xc_148 29) [aR 1, aI a1, aI a2] [] (SH L) M3 o := by
            obtain ⟨M4, v5, k9, h⟩ := h
            have h2 : aX xc_148 (aSeek xc_148 38) [aR 1, aI a1, aI a2] [aI v5] (SH L) M4 o := by
              subst h
              exact ⟨1, rfl⟩
            exact aX_seg 4 (fun n g => g) (aX_callv (rfl) rfl rfl rfl k9 h2)
          exact aX_seg 8 (fun n g => g) (aX_callv (rfl) rfl rfl rfl k8 h2)
        exact aX_seg 1 (fun n g => ip cc (g)) t7
      · replace h := h.2 cc
        have t10 : aX xc_148 (aSeek xc_148 8) [aR 1, aI a1, aI a2] [] (SH L) M1 o := by
          subst h
          exact ⟨2, rfl⟩
        exact aX_seg 1 (fun n g => in_ cc (g)) t10
    exact aX_seg 2 (fun n g => g) (aX_calls rfl rfl rfl k6 h2)
  exact q
/- TypeLock$GapFiller.rowOf(II)I -/
set_option maxRecDepth 100000 in
theorem en_149 {L : Nat} {a0 a1 : Int} {M : aM} {o : aO} (h : ((a1 ≤ 0 → o = ([aI 0], (SH L), M)) ∧ (¬ (a1 ≤ 0) → (¬ (a1 : Int) = 0) ∧ ((¬ (aRem a0 a1) = 0 → o = ([aI 0], (SH L), M)) ∧ (¬ (¬ (aRem a0 a1) = 0) → (¬ (a1 : Int) = 0) ∧ o = ([aI (aDiv a0 a1)], (SH L), M)))))) : aE 149 [aI a0, aI a1] (SH L) M o := by
  have q : aX xc_149 (aSeek xc_149 0) [aI a0, aI a1] [] (SH L) M o := by
    by_cases cc : a1 ≤ 0
    · replace h := h.1 cc
      have t1 : aX xc_149 (aSeek xc_149 16) [aI a0, aI a1] [] (SH L) M o := by
        subst h
        exact ⟨2, rfl⟩
      exact aX_seg 2 (fun n g => ip cc (g)) t1
    · replace h := h.2 cc
      have t2 : aX xc_149 (aSeek xc_149 4) [aI a0, aI a1] [] (SH L) M o := by
        obtain ⟨c3, h⟩ := h
        by_cases cc : ¬ (aRem a0 a1) = 0
        · replace h := h.1 cc
          have t4 : aX xc_149 (aSeek xc_149 16) [aI a0, aI a1] [] (SH L) M o := by
            subst h
            exact ⟨2, rfl⟩
          exact aX_seg 4 (fun n g => ip c3 (ip cc (g))) t4
        · replace h := h.2 cc
          have t5 : aX xc_149 (aSeek xc_149 10) [aI a0, aI a1] [] (SH L) M o := by
            obtain ⟨c6, h⟩ := h
            subst h
            exact ⟨5, ip c6 (rfl)⟩
          exact aX_seg 4 (fun n g => ip c3 (in_ cc (g))) t5
      exact aX_seg 2 (fun n g => in_ cc (g)) t2
  exact q
/- TypeLock$GapFiller.rowsIn(IIII)I -/
set_option maxRecDepth 100000 in
theorem en_150 {L : Nat} {a0 a1 a2 a3 : Int} {M : aM} {o : aO} (h : ((a1 ≤ 0 → o = ([aI 0], (SH L), M)) ∧ (¬ (a1 ≤ 0) → ((a3 ≤ 0 → o = ([aI 0], (SH L), M)) ∧ (¬ (a3 ≤ 0) → (¬ (a1 : Int) = 0) ∧ (¬ (a3 : Int) = 0) ∧ o = ([aI (min (aDiv a0 a1) (aDiv a2 a3))], (SH L), M)))))) : aE 150 [aI a0, aI a1, aI a2, aI a3] (SH L) M o := by
  have q : aX xc_150 (aSeek xc_150 0) [aI a0, aI a1, aI a2, aI a3] [] (SH L) M o := by
    by_cases cc : a1 ≤ 0
    · replace h := h.1 cc
      have t1 : aX xc_150 (aSeek xc_150 20) [aI a0, aI a1, aI a2, aI a3] [] (SH L) M o := by
        subst h
        exact ⟨2, rfl⟩
      exact aX_seg 2 (fun n g => ip cc (g)) t1
    · replace h := h.2 cc
      have t2 : aX xc_150 (aSeek xc_150 4) [aI a0, aI a1, aI a2, aI a3] [] (SH L) M o := by
        by_cases cc : a3 ≤ 0
        · replace h := h.1 cc
          have t3 : aX xc_150 (aSeek xc_150 20) [aI a0, aI a1, aI a2, aI a3] [] (SH L) M o := by
            subst h
            exact ⟨2, rfl⟩
          exact aX_seg 2 (fun n g => ip cc (g)) t3
        · replace h := h.2 cc
          have t4 : aX xc_150 (aSeek xc_150 8) [aI a0, aI a1, aI a2, aI a3] [] (SH L) M o := by
            obtain ⟨c5, h⟩ := h
            obtain ⟨c6, h⟩ := h
            subst h
            exact ⟨9, ip c5 (ip c6 (rfl))⟩
          exact aX_seg 2 (fun n g => in_ cc (g)) t4
      exact aX_seg 2 (fun n g => in_ cc (g)) t2
  exact q
/- TypeLock$GapFiller.giveShare(IIZ)I -/
set_option maxRecDepth 100000 in
theorem en_151 {L : Nat} {a1 a2 a3 : Int} {M : aM} {o : aO} (h : (aK (SH L) ((aSet (aSet M 118 0 0) 118 1 0) 118 6) = 19) ∧ (0 ≤ a1 ∧ a1 < aLn (SH L) 1 (aF (SH L) ((aSet (aSet M 118 0 0) 118 1 0) 118 6) 7)) ∧ (aK (SH L) ((aSet (aSet M 118 0 0) 118 1 0) 118 6) = 19) ∧ (0 ≤ a1 ∧ a1 < aLn (SH L) 1 (aF (SH L) ((aSet (aSet M 118 0 0) 118 1 0) 118 6) 6)) ∧ (0 ≤ a1 ∧ a1 < aLn (SH L) 1 135) ∧ (0 ≤ a1 ∧ a1 < aLn (SH L) 1 136) ∧ (∃ (M1 : aM) (v2 : Int), aE 150 [aI ((aSet (aSet M 118 0 0) 118 1 0) 135 a1), aI ((aSet (aSet M 118 0 0) 118 1 0) 136 a1), aI a2, aI ((aSet (aSet M 118 0 0) 118 1 0) (aF (SH L) ((aSet (aSet M 118 0 0) 118 1 0) 118 6) 7) a1)] (SH L) (aSet (aSet M 118 0 0) 118 1 0) ([aI v2], (SH L), M1) ∧ aX xc_151 (aSeek xc_151 52) [aR 118, aI a1, aI a2, aI a3, aI ((aSet (aSet M 118 0 0) 118 1 0) (aF (SH L) ((aSet (aSet M 118 0 0) 118 1 0) 118 6) 7) a1), aI ((aSet (aSet M 118 0 0) 118 1 0) (aF (SH L) ((aSet (aSet M 118 0 0) 118 1 0) 118 6) 6) a1), aI v2, aU, aU, aU, aU, aU] [] (SH L) M1 o)) : aE 151 [aR 118, aI a1, aI a2, aI a3] (SH L) M o := by
  have q : aX xc_151 (aSeek xc_151 0) [aR 118, aI a1, aI a2, aI a3, aU, aU, aU, aU, aU, aU, aU, aU] [] (SH L) M o := by
    obtain ⟨c3, h⟩ := h
    obtain ⟨c4, h⟩ := h
    obtain ⟨c5, h⟩ := h
    obtain ⟨c6, h⟩ := h
    obtain ⟨c7, h⟩ := h
    obtain ⟨c8, h⟩ := h
    obtain ⟨M1, v2, k9, h⟩ := h
    have h2 : aX xc_151 (aSeek xc_151 50) [aR 118, aI a1, aI a2, aI a3, aI ((aSet (aSet M 118 0 0) 118 1 0) (aF (SH L) ((aSet (aSet M 118 0 0) 118 1 0) 118 6) 7) a1), aI ((aSet (aSet M 118 0 0) 118 1 0) (aF (SH L) ((aSet (aSet M 118 0 0) 118 1 0) 118 6) 6) a1), aU, aU, aU, aU, aU, aU] [aI v2] (SH L) M1 o := by
      exact aX_seg 1 (fun n g => g) (h)
    exact aX_seg 28 (fun n g => ip c3 (ip c4 (ip c5 (ip c6 (ip c7 (ip c8 (g))))))) (aX_calls rfl rfl rfl k9 h2)
  exact q
set_option maxRecDepth 100000 in
theorem bl_151_52 {L : Nat} {a1 a2 a3 a4 a5 a6 : Int} {M : aM} {o : aO} (h : ((a6 < 0 → o = ([aI a2], (SH L), M)) ∧ (¬ (a6 < 0) → (0 ≤ a1 ∧ a1 < aLn (SH L) 1 135) ∧ (0 ≤ a1 ∧ a1 < aLn (SH L) 1 136) ∧ (0 ≤ a1 ∧ a1 < aLn (SH L) 1 137) ∧ (∃ (M1 : aM) (v2 : Int), aE 150 [aI (aW ((M 135 a1) - (aW (a6 * (M 136 a1))))), aI (M 137 a1), aI (aW (a2 - (aW (a6 * a4)))), aI a5] (SH L) M ([aI v2], (SH L), M1) ∧ aX xc_151 (aSeek xc_151 101) [aR 118, aI a1, aI a2, aI a3, aI a4, aI a5, aI a6, aU, aI (aW (a2 - (aW (a6 * a4)))), aI v2, aU, aU] [] (SH L) M1 o)))) : aX xc_151 (aSeek xc_151 52) [aR 118, aI a1, aI a2, aI a3, aI a4, aI a5, aI a6, aU, aU, aU, aU, aU] [] (SH L) M o := by
  by_cases cc : a6 < 0
  · replace h := h.1 cc
    have t3 : aX xc_151 (aSeek xc_151 232) [aR 118, aI a1, aI a2, aI a3, aI a4, aI a5, aI a6, aU, aU, aU, aU, aU] [] (SH L) M o := by
      subst h
      exact ⟨2, rfl⟩
    exact aX_seg 2 (fun n g => ip cc (g)) t3
  · replace h := h.2 cc
    have t4 : aX xc_151 (aSeek xc_151 57) [aR 118, aI a1, aI a2, aI a3, aI a4, aI a5, aI a6, aU, aU, aU, aU, aU] [] (SH L) M o := by
      obtain ⟨c5, h⟩ := h
      obtain ⟨c6, h⟩ := h
      obtain ⟨c7, h⟩ := h
      obtain ⟨M1, v2, k8, h⟩ := h
      have h2 : aX xc_151 (aSeek xc_151 99) [aR 118, aI a1, aI a2, aI a3, aI a4, aI a5, aI a6, aI (aW ((M 135 a1) - (aW (a6 * (M 136 a1))))), aI (aW (a2 - (aW (a6 * a4)))), aU, aU, aU] [aI v2] (SH L) M1 o := by
        exact aX_seg 1 (fun n g => g) (aX_le (ls := [aR 118, aI a1, aI a2, aI a3, aI a4, aI a5, aI a6, aU, aI (aW (a2 - (aW (a6 * a4)))), aI v2, aU, aU]) (ls1 := [aR 118, aI a1, aI a2, aI a3, aI a4, aI a5, aI a6, aI (aW ((M 135 a1) - (aW (a6 * (M 136 a1))))), aI (aW (a2 - (aW (a6 * a4)))), aI v2, aU, aU]) (⟨Or.inr rfl, ⟨Or.inr rfl, ⟨Or.inr rfl, ⟨Or.inr rfl, ⟨Or.inr rfl, ⟨Or.inr rfl, ⟨Or.inr rfl, ⟨Or.inl rfl, ⟨Or.inr rfl, ⟨Or.inr rfl, ⟨Or.inl rfl, ⟨Or.inl rfl, trivial⟩⟩⟩⟩⟩⟩⟩⟩⟩⟩⟩⟩) h)
      exact aX_seg 25 (fun n g => ip c5 (ip c6 (ip c7 (g)))) (aX_calls rfl rfl rfl k8 h2)
    exact aX_seg 2 (fun n g => in_ cc (g)) t4
set_option maxRecDepth 100000 in
theorem bl_151_101 {L : Nat} {a1 a2 a3 a4 a5 a6 a8 a9 : Int} {M : aM} {o : aO} (h : ((a9 < 0 → aX xc_151 (aSeek xc_151 52) [aR 118, aI a1, aI a2, aI a3, aI a4, aI a5, aI (aW (a6 + (-1))), aU, aU, aU, aU, aU] [] (SH L) M o) ∧ (¬ (a9 < 0) → (((aW (a8 - (aW (a9 * a5)))) < 0 → aX xc_151 (aSeek xc_151 220) [aR 118, aI a1, aI a2, aI a3, aI a4, aI a5, aI a6, aU, aI a8, aI a9, aU, aU] [] (SH L) M o) ∧ (¬ ((aW (a8 - (aW (a9 * a5)))) < 0) → (((aW (a8 - (aW (a9 * a5)))) ≤ 60 → (0 ≤ a1 ∧ a1 < aLn (SH L) 1 136) ∧ (0 ≤ a1 ∧ a1 < aLn (SH L) 1 137) ∧ (0 ≤ aW (a1 + 1) ∧ aW (a1 + 1) < aLn (SH L) 6 119) ∧ (0 ≤ aW (a8 - (aW (a9 * a5))) ∧ aW (a8 - (aW (a9 * a5))) < aLn (SH L) 1 (aF (SH L) 119 (aW (a1 + 1)).toNat)) ∧ ((a3 = 0 → (0 ≤ a1 ∧ a1 < aLn (SH L) 6 119) ∧ (0 ≤ a2 ∧ a2 < aLn (SH L) 1 (aF (SH L) 119 (a1).toNat)) ∧ ((¬ (aW ((aW ((aW (a6 * (M 136 a1))) + (aW (a9 * (M 137 a1))))) + (M (aF (SH L) 119 (aW (a1 + 1)).toNat) (aW (a8 - (aW (a9 * a5))))))) = (M (aF (SH L) 119 (a1).toNat) a2) → aX xc_151 (aSeek xc_151 220) [aR 118, aI a1, aI a2, aI a3, aI a4, aI a5, aI a6, aU, aI a8, aI a9, aU, aU] [] (SH L) M o) ∧ (¬ (¬ (aW ((aW ((aW (a6 * (M 136 a1))) + (aW (a9 * (M 137 a1))))) + (M (aF (SH L) 119 (aW (a1 + 1)).toNat) (aW (a8 - (aW (a9 * a5))))))) = (M (aF (SH L) 119 (a1).toNat) a2)) → o = ([aI (aW (a8 - (aW (a9 * a5))))], (SH L), aSet (aSet M 118 0 a6) 118 1 a9)))) ∧ (¬ (a3 = 0) → (0 ≤ a1 ∧ a1 < aLn (SH L) 6 119) ∧ (0 ≤ a1 ∧ a1 < aLn (SH L) 6 119) ∧ (0 ≤ a2 ∧ a2 < aLn (SH L) 1 (aF (SH L) 119 (a1).toNat)) ∧ (0 ≤ a2 ∧ a2 < aLn (SH L) 1 (aF (SH L) 119 (a1).toNat)) ∧ aX xc_151 (aSeek xc_151 220) [aR 118, aI a1, aI a2, aI a3, aI a4, aI a5, aI a6, aU, aI a8, aI a9, aU, aU] [] (SH L) (aSet M (aF (SH L) 119 (a1).toNat) a2 (min (M (aF (SH L) 119 (a1).toNat) a2) (aW ((aW ((aW (a6 * (M 136 a1))) + (aW (a9 * (M 137 a1))))) + (M (aF (SH L) 119 (aW (a1 + 1)).toNat) (aW (a8 - (aW (a9 * a5))))))))) o))) ∧ (¬ ((aW (a8 - (aW (a9 * a5)))) ≤ 60) → aX xc_151 (aSeek xc_151 220) [aR 118, aI a1, aI a2, aI a3, aI a4, aI a5, aI a6, aU, aI a8, aI a9, aU, aU] [] (SH L) M o))))))) : aX xc_151 (aSeek xc_151 101) [aR 118, aI a1, aI a2, aI a3, aI a4, aI a5, aI a6, aU, aI a8, aI a9, aU, aU] [] (SH L) M o := by
  by_cases cc : a9 < 0
  · replace h := h.1 cc
    have t1 : aX xc_151 (aSeek xc_151 226) [aR 118, aI a1, aI a2, aI a3, aI a4, aI a5, aI a6, aU, aI a8, aI a9, aU, aU] [] (SH L) M o := by
      exact aX_seg 2 (fun n g => g) (aX_le (ls := [aR 118, aI a1, aI a2, aI a3, aI a4, aI a5, aI (aW (a6 + (-1))), aU, aU, aU, aU, aU]) (ls1 := [aR 118, aI a1, aI a2, aI a3, aI a4, aI a5, aI (aW (a6 + (-1))), aU, aI a8, aI a9, aU, aU]) (⟨Or.inr rfl, ⟨Or.inr rfl, ⟨Or.inr rfl, ⟨Or.inr rfl, ⟨Or.inr rfl, ⟨Or.inr rfl, ⟨Or.inr rfl, ⟨Or.inl rfl, ⟨Or.inl rfl, ⟨Or.inl rfl, ⟨Or.inl rfl, ⟨Or.inl rfl, trivial⟩⟩⟩⟩⟩⟩⟩⟩⟩⟩⟩⟩) h)
    exact aX_seg 2 (fun n g => ip cc (g)) t1
  · replace h := h.2 cc
    have t2 : aX xc_151 (aSeek xc_151 106) [aR 118, aI a1, aI a2, aI a3, aI a4, aI a5, aI a6, aU, aI a8, aI a9, aU, aU] [] (SH L) M o := by
      by_cases cc : (aW (a8 - (aW (a9 * a5)))) < 0
      · replace h := h.1 cc
        have t3 : aX xc_151 (aSeek xc_151 220) [aR 118, aI a1, aI a2, aI a3, aI a4, aI a5, aI a6, aU, aI a8, aI a9, aI (aW (a8 - (aW (a9 * a5)))), aU] [] (SH L) M o := by
          exact aX_le (ls := [aR 118, aI a1, aI a2, aI a3, aI a4, aI a5, aI a6, aU, aI a8, aI a9, aU, aU]) (ls1 := [aR 118, aI a1, aI a2, aI a3, aI a4, aI a5, aI a6, aU, aI a8, aI a9, aI (aW (a8 - (aW (a9 * a5)))), aU]) (⟨Or.inr rfl, ⟨Or.inr rfl, ⟨Or.inr rfl, ⟨Or.inr rfl, ⟨Or.inr rfl, ⟨Or.inr rfl, ⟨Or.inr rfl, ⟨Or.inl rfl, ⟨Or.inr rfl, ⟨Or.inr rfl, ⟨Or.inl rfl, ⟨Or.inl rfl, trivial⟩⟩⟩⟩⟩⟩⟩⟩⟩⟩⟩⟩) h
        exact aX_seg 8 (fun n g => ip cc (g)) t3
      · replace h := h.2 cc
        have t4 : aX xc_151 (aSeek xc_151 121) [aR 118, aI a1, aI a2, aI a3, aI a4, aI a5, aI a6, aU, aI a8, aI a9, aI (aW (a8 - (aW (a9 * a5)))), aU] [] (SH L) M o := by
          by_cases cc : (aW (a8 - (aW (a9 * a5)))) ≤ 60
          · replace h := h.1 cc
            have t5 : aX xc_151 (aSeek xc_151 131) [aR 118, aI a1, aI a2, aI a3, aI a4, aI a5, aI a6, aU, aI a8, aI a9, aI (aW (a8 - (aW (a9 * a5)))), aU] [] (SH L) M o := by
              obtain ⟨c6, h⟩ := h
              obtain ⟨c7, h⟩ := h
              obtain ⟨c8, h⟩ := h
              obtain ⟨c9, h⟩ := h
              by_cases cc : a3 = 0
              · replace h := h.1 cc
                have t10 : aX xc_151 (aSeek xc_151 192) [aR 118, aI a1, aI a2, aI a3, aI a4, aI a5, aI a6, aU, aI a8, aI a9, aI (aW (a8 - (aW (a9 * a5)))), aI (aW ((aW ((aW (a6 * (M 136 a1))) + (aW (a9 * (M 137 a1))))) + (M (aF (SH L) 119 (aW (a1 + 1)).toNat) (aW (a8 - (aW (a9 * a5)))))))] [] (SH L) M o := by
                  obtain ⟨c11, h⟩ := h
                  obtain ⟨c12, h⟩ := h
                  by_cases cc : ¬ (aW ((aW ((aW (a6 * (M 136 a1))) + (aW (a9 * (M 137 a1))))) + (M (aF (SH L) 119 (aW (a1 + 1)).toNat) (aW (a8 - (aW (a9 * a5))))))) = (M (aF (SH L) 119 (a1).toNat) a2)
                  · replace h := h.1 cc
                    have t13 : aX xc_151 (aSeek xc_151 220) [aR 118, aI a1, aI a2, aI a3, aI a4, aI a5, aI a6, aU, aI a8, aI a9, aI (aW (a8 - (aW (a9 * a5)))), aI (aW ((aW ((aW (a6 * (M 136 a1))) + (aW (a9 * (M 137 a1))))) + (M (aF (SH L) 119 (aW (a1 + 1)).toNat) (aW (a8 - (aW (a9 * a5)))))))] [] (SH L) M o := by
                      exact aX_le (ls := [aR 118, aI a1, aI a2, aI a3, aI a4, aI a5, aI a6, aU, aI a8, aI a9, aU, aU]) (ls1 := [aR 118, aI a1, aI a2, aI a3, aI a4, aI a5, aI a6, aU, aI a8, aI a9, aI (aW (a8 - (aW (a9 * a5)))), aI (aW ((aW ((aW (a6 * (M 136 a1))) + (aW (a9 * (M 137 a1))))) + (M (aF (SH L) 119 (aW (a1 + 1)).toNat) (aW (a8 - (aW (a9 * a5)))))))]) (⟨Or.inr rfl, ⟨Or.inr rfl, ⟨Or.inr rfl, ⟨Or.inr rfl, ⟨Or.inr rfl, ⟨Or.inr rfl, ⟨Or.inr rfl, ⟨Or.inl rfl, ⟨Or.inr rfl, ⟨Or.inr rfl, ⟨Or.inl rfl, ⟨Or.inl rfl, trivial⟩⟩⟩⟩⟩⟩⟩⟩⟩⟩⟩⟩) h
                    exact aX_seg 8 (fun n g => ip c11 (ip c12 (ip cc (g)))) t13
                  · replace h := h.2 cc
                    have t14 : aX xc_151 (aSeek xc_151 205) [aR 118, aI a1, aI a2, aI a3, aI a4, aI a5, aI a6, aU, aI a8, aI a9, aI (aW (a8 - (aW (a9 * a5)))), aI (aW ((aW ((aW (a6 * (M 136 a1))) + (aW (a9 * (M 137 a1))))) + (M (aF (SH L) 119 (aW (a1 + 1)).toNat) (aW (a8 - (aW (a9 * a5)))))))] [] (SH L) M o := by
                      subst h
                      exact ⟨8, rfl⟩
                    exact aX_seg 8 (fun n g => ip c11 (ip c12 (in_ cc (g)))) t14
                exact aX_seg 25 (fun n g => ip c6 (ip c7 (ip c8 (ip c9 (ip cc (g)))))) t10
              · replace h := h.2 cc
                have t15 : aX xc_151 (aSeek xc_151 168) [aR 118, aI a1, aI a2, aI a3, aI a4, aI a5, aI a6, aU, aI a8, aI a9, aI (aW (a8 - (aW (a9 * a5)))), aI (aW ((aW ((aW (a6 * (M 136 a1))) + (aW (a9 * (M 137 a1))))) + (M (aF (SH L) 119 (aW (a1 + 1)).toNat) (aW (a8 - (aW (a9 * a5)))))))] [] (SH L) M o := by
                  obtain ⟨c16, h⟩ := h
                  obtain ⟨c17, h⟩ := h
                  obtain ⟨c18, h⟩ := h
                  obtain ⟨c19, h⟩ := h
                  exact aX_seg 15 (fun n g => ip c16 (ip c17 (ip c18 (ip c19 (g))))) (aX_le (ls := [aR 118, aI a1, aI a2, aI a3, aI a4, aI a5, aI a6, aU, aI a8, aI a9, aU, aU]) (ls1 := [aR 118, aI a1, aI a2, aI a3, aI a4, aI a5, aI a6, aU, aI a8, aI a9, aI (aW (a8 - (aW (a9 * a5)))), aI (aW ((aW ((aW (a6 * (M 136 a1))) + (aW (a9 * (M 137 a1))))) + (M (aF (SH L) 119 (aW (a1 + 1)).toNat) (aW (a8 - (aW (a9 * a5)))))))]) (⟨Or.inr rfl, ⟨Or.inr rfl, ⟨Or.inr rfl, ⟨Or.inr rfl, ⟨Or.inr rfl, ⟨Or.inr rfl, ⟨Or.inr rfl, ⟨Or.inl rfl, ⟨Or.inr rfl, ⟨Or.inr rfl, ⟨Or.inl rfl, ⟨Or.inl rfl, trivial⟩⟩⟩⟩⟩⟩⟩⟩⟩⟩⟩⟩) h)
                exact aX_seg 25 (fun n g => ip c6 (ip c7 (ip c8 (ip c9 (in_ cc (g)))))) t15
            exact aX_seg 3 (fun n g => ip cc (g)) t5
          · replace h := h.2 cc
            have t20 : aX xc_151 (aSeek xc_151 128) [aR 118, aI a1, aI a2, aI a3, aI a4, aI a5, aI a6, aU, aI a8, aI a9, aI (aW (a8 - (aW (a9 * a5)))), aU] [] (SH L) M o := by
              exact aX_seg 1 (fun n g => g) (aX_le (ls := [aR 118, aI a1, aI a2, aI a3, aI a4, aI a5, aI a6, aU, aI a8, aI a9, aU, aU]) (ls1 := [aR 118, aI a1, aI a2, aI a3, aI a4, aI a5, aI a6, aU, aI a8, aI a9, aI (aW (a8 - (aW (a9 * a5)))), aU]) (⟨Or.inr rfl, ⟨Or.inr rfl, ⟨Or.inr rfl, ⟨Or.inr rfl, ⟨Or.inr rfl, ⟨Or.inr rfl, ⟨Or.inr rfl, ⟨Or.inl rfl, ⟨Or.inr rfl, ⟨Or.inr rfl, ⟨Or.inl rfl, ⟨Or.inl rfl, trivial⟩⟩⟩⟩⟩⟩⟩⟩⟩⟩⟩⟩) h)
            exact aX_seg 3 (fun n g => in_ cc (g)) t20
        exact aX_seg 8 (fun n g => in_ cc (g)) t4
    exact aX_seg 2 (fun n g => in_ cc (g)) t2
set_option maxRecDepth 100000 in
theorem bl_151_220 {L : Nat} {a1 a2 a3 a4 a5 a6 a8 a9 : Int} {M : aM} {o : aO} (h : aX xc_151 (aSeek xc_151 101) [aR 118, aI a1, aI a2, aI a3, aI a4, aI a5, aI a6, aU, aI a8, aI (aW (a9 + (-1))), aU, aU] [] (SH L) M o) : aX xc_151 (aSeek xc_151 220) [aR 118, aI a1, aI a2, aI a3, aI a4, aI a5, aI a6, aU, aI a8, aI a9, aU, aU] [] (SH L) M o := by
  exact aX_seg 2 (fun n g => g) (h)
/- TypeLock$GapFiller.prepare(LTypeLock$Text;LTypeLock$Bed;II)V -/
set_option maxRecDepth 100000 in
theorem en_152 {L : Nat} {a1 a2 a3 a4 : Int} {M : aM} {o : aO} (h : ((¬ (M 118 7) = a3 → aX xc_152 (aSeek xc_152 18) [aR 118, aR a1, aR a2, aI a3, aI a4, aU, aU, aU] [] (SH L) M o) ∧ (¬ (¬ (M 118 7) = a3) → ((¬ (M 118 8) = a4 → aX xc_152 (aSeek xc_152 18) [aR 118, aR a1, aR a2, aI a3, aI a4, aU, aU, aU] [] (SH L) M o) ∧ (¬ (¬ (M 118 8) = a4) → o = ([], (SH L), M)))))) : aE 152 [aR 118, aR a1, aR a2, aI a3, aI a4] (SH L) M o := by
  have q : aX xc_152 (aSeek xc_152 0) [aR 118, aR a1, aR a2, aI a3, aI a4, aU, aU, aU] [] (SH L) M o := by
    by_cases cc : ¬ (M 118 7) = a3
    · replace h := h.1 cc
      have t1 : aX xc_152 (aSeek xc_152 18) [aR 118, aR a1, aR a2, aI a3, aI a4, aU, aU, aU] [] (SH L) M o := by
        exact h
      exact aX_seg 4 (fun n g => ip cc (g)) t1
    · replace h := h.2 cc
      have t2 : aX xc_152 (aSeek xc_152 8) [aR 118, aR a1, aR a2, aI a3, aI a4, aU, aU, aU] [] (SH L) M o := by
        by_cases cc : ¬ (M 118 8) = a4
        · replace h := h.1 cc
          have t3 : aX xc_152 (aSeek xc_152 18) [aR 118, aR a1, aR a2, aI a3, aI a4, aU, aU, aU] [] (SH L) M o := by
            exact h
          exact aX_seg 4 (fun n g => ip cc (g)) t3
        · replace h := h.2 cc
          have t4 : aX xc_152 (aSeek xc_152 17) [aR 118, aR a1, aR a2, aI a3, aI a4, aU, aU, aU] [] (SH L) M o := by
            subst h
            exact ⟨1, rfl⟩
          exact aX_seg 4 (fun n g => in_ cc (g)) t4
      exact aX_seg 4 (fun n g => in_ cc (g)) t2
  exact q
set_option maxRecDepth 100000 in
theorem bl_152_18 {L : Nat} {a1 a2 a3 a4 : Int} {M : aM} {o : aO} (h : (aK (SH L) 118 = 12 ∧ -1 ≤ (a1 : Int)) ∧ (aK (SH L) ((aSet (aSet (aSet M 118 7 a3) 118 8 a4) 118 6 a1) 118 6) = 19) ∧ (0 ≤ (aSet (aSet (aSet M 118 7 a3) 118 8 a4) 118 6 a1) ((aSet (aSet (aSet M 118 7 a3) 118 8 a4) 118 6 a1) 118 6) 3 ∧ (aSet (aSet (aSet M 118 7 a3) 118 8 a4) 118 6 a1) ((aSet (aSet (aSet M 118 7 a3) 118 8 a4) 118 6 a1) 118 6) 3 < aLn (SH L) 6 119) ∧ (∃ (M1 : aM), aE 78 [aR (aF (SH L) 119 ((aSet (aSet (aSet M 118 7 a3) 118 8 a4) 118 6 a1) ((aSet (aSet (aSet M 118 7 a3) 118 8 a4) 118 6 a1) 118 6) 3).toNat), aI 1000000] (SH L) (aSet (aSet (aSet M 118 7 a3) 118 8 a4) 118 6 a1) ([], (SH L), M1) ∧ (aK (SH L) (M1 118 6) = 19) ∧ (0 ≤ M1 (M1 118 6) 3 ∧ M1 (M1 118 6) 3 < aLn (SH L) 6 119) ∧ ((0 : Int) ≤ 0 ∧ (0 : Int) < aLn (SH L) 1 (aF (SH L) 119 (M1 (M1 118 6) 3).toNat)) ∧ (aK (SH L) ((aSet M1 (aF (SH L) 119 (M1 (M1 118 6) 3).toNat) 0 0) 118 6) = 19) ∧ aX xc_152 (aSeek xc_152 77) [aR 118, aU, aR a2, aU, aI a4, aI (aW (((aSet M1 (aF (SH L) 119 (M1 (M1 118 6) 3).toNat) 0 0) ((aSet M1 (aF (SH L) 119 (M1 (M1 118 6) 3).toNat) 0 0) 118 6) 3) - 1)), aU, aU] [] (SH L) (aSet M1 (aF (SH L) 119 (M1 (M1 118 6) 3).toNat) 0 0) o)) : aX xc_152 (aSeek xc_152 18) [aR 118, aR a1, aR a2, aI a3, aI a4, aU, aU, aU] [] (SH L) M o := by
  obtain ⟨c2, h⟩ := h
  obtain ⟨c3, h⟩ := h
  obtain ⟨c4, h⟩ := h
  obtain ⟨M1, k5, h⟩ := h
  have h2 : aX xc_152 (aSeek xc_152 51) [aR 118, aR a1, aR a2, aI a3, aI a4, aU, aU, aU] [] (SH L) M1 o := by
    obtain ⟨c6, h⟩ := h
    obtain ⟨c7, h⟩ := h
    obtain ⟨c8, h⟩ := h
    obtain ⟨c9, h⟩ := h
    exact aX_seg 15 (fun n g => ip c6 (ip c7 (ip c8 (ip c9 (g))))) (aX_le (ls := [aR 118, aU, aR a2, aU, aI a4, aI (aW (((aSet M1 (aF (SH L) 119 (M1 (M1 118 6) 3).toNat) 0 0) ((aSet M1 (aF (SH L) 119 (M1 (M1 118 6) 3).toNat) 0 0) 118 6) 3) - 1)), aU, aU]) (ls1 := [aR 118, aR a1, aR a2, aI a3, aI a4, aI (aW (((aSet M1 (aF (SH L) 119 (M1 (M1 118 6) 3).toNat) 0 0) ((aSet M1 (aF (SH L) 119 (M1 (M1 118 6) 3).toNat) 0 0) 118 6) 3) - 1)), aU, aU]) (⟨Or.inr rfl, ⟨Or.inl rfl, ⟨Or.inr rfl, ⟨Or.inl rfl, ⟨Or.inr rfl, ⟨Or.inr rfl, ⟨Or.inl rfl, ⟨Or.inl rfl, trivial⟩⟩⟩⟩⟩⟩⟩⟩) h)
  exact aX_seg 16 (fun n g => ip c2 (ip c3 (ip c4 (g)))) (aX_calls rfl rfl rfl k5 h2)
set_option maxRecDepth 100000 in
theorem bl_152_77 {L : Nat} {a2 a4 a5 : Int} {M : aM} {o : aO} (h : ((a5 < 0 → o = ([], (SH L), M)) ∧ (¬ (a5 < 0) → (aK (SH L) (M 118 6) = 19) ∧ (0 ≤ a5 ∧ a5 < aLn (SH L) 1 (aF (SH L) (M 118 6) 6)) ∧ (aK (SH L) (M 118 6) = 19) ∧ (0 ≤ a5 ∧ a5 < aLn (SH L) 1 (aF (SH L) (M 118 6) 7)) ∧ ((¬ (M (aF (SH L) (M 118 6) 6) a5) = (M (aF (SH L) (M 118 6) 7) a5) → aX xc_152 (aSeek xc_152 110) [aR 118, aU, aR a2, aU, aI a4, aI a5, aU, aU] [aI 0] (SH L) M o) ∧ (¬ (¬ (M (aF (SH L) (M 118 6) 6) a5) = (M (aF (SH L) (M 118 6) 7) a5)) → aX xc_152 (aSeek xc_152 110) [aR 118, aU, aR a2, aU, aI a4, aI a5, aU, aU] [aI 1] (SH L) M o))))) : aX xc_152 (aSeek xc_152 77) [aR 118, aU, aR a2, aU, aI a4, aI a5, aU, aU] [] (SH L) M o := by
  by_cases cc : a5 < 0
  · replace h := h.1 cc
    have t1 : aX xc_152 (aSeek xc_152 242) [aR 118, aU, aR a2, aU, aI a4, aI a5, aU, aU] [] (SH L) M o := by
      subst h
      exact ⟨1, rfl⟩
    exact aX_seg 2 (fun n g => ip cc (g)) t1
  · replace h := h.2 cc
    have t2 : aX xc_152 (aSeek xc_152 82) [aR 118, aU, aR a2, aU, aI a4, aI a5, aU, aU] [] (SH L) M o := by
      obtain ⟨c3, h⟩ := h
      obtain ⟨c4, h⟩ := h
      obtain ⟨c5, h⟩ := h
      obtain ⟨c6, h⟩ := h
      by_cases cc : ¬ (M (aF (SH L) (M 118 6) 6) a5) = (M (aF (SH L) (M 118 6) 7) a5)
      · replace h := h.1 cc
        have t7 : aX xc_152 (aSeek xc_152 109) [aR 118, aU, aR a2, aU, aI a4, aI a5, aU, aU] [] (SH L) M o := by
          exact aX_seg 1 (fun n g => g) (h)
        exact aX_seg 11 (fun n g => ip c3 (ip c4 (ip c5 (ip c6 (ip cc (g)))))) t7
      · replace h := h.2 cc
        have t8 : aX xc_152 (aSeek xc_152 105) [aR 118, aU, aR a2, aU, aI a4, aI a5, aU, aU] [] (SH L) M o := by
          exact aX_seg 2 (fun n g => g) (h)
        exact aX_seg 11 (fun n g => ip c3 (ip c4 (ip c5 (ip c6 (in_ cc (g)))))) t8
    exact aX_seg 2 (fun n g => in_ cc (g)) t2
set_option maxRecDepth 100000 in
theorem bl_152_110 {L : Nat} {a2 a4 a5 b0 : Int} {M : aM} {o : aO} (h : (aK (SH L) (M 118 6) = 19 ∧ ∃ (M1 : aM) (v2 : Int), aE 139 [aR (M 118 6), aI a5] (SH L) M ([aI v2], (SH L), M1) ∧ ((v2 = 0 → aX xc_152 (aSeek xc_152 144) [aR 118, aU, aR a2, aU, aI a4, aI a5, aI b0, aU] [aI 0, aI a5, aR 135] (SH L) M1 o) ∧ (¬ (v2 = 0) → (aK (SH L) a2 = 10 ∧ ∃ (M3 : aM) (v4 : Int), aE 60 [aR a2, aR (M1 118 6), aI a5] (SH L) M1 ([aI v4], (SH L), M3) ∧ aX xc_152 (aSeek xc_152 144) [aR 118, aU, aR a2, aU, aI a4, aI a5, aI b0, aU] [aI v4, aI a5, aR 135] (SH L) M3 o))))) : aX xc_152 (aSeek xc_152 110) [aR 118, aU, aR a2, aU, aI a4, aI a5, aU, aU] [aI b0] (SH L) M o := by
  obtain ⟨c5, h⟩ := h
  obtain ⟨M1, v2, k6, h⟩ := h
  have h2 : aX xc_152 (aSeek xc_152 127) [aR 118, aU, aR a2, aU, aI a4, aI a5, aI b0, aU] [aI v2, aI a5, aR 135] (SH L) M1 o := by
    by_cases cc : v2 = 0
    · replace h := h.1 cc
      have t7 : aX xc_152 (aSeek xc_152 143) [aR 118, aU, aR a2, aU, aI a4, aI a5, aI b0, aU] [aI a5, aR 135] (SH L) M1 o := by
        exact aX_seg 1 (fun n g => g) (h)
      exact aX_seg 1 (fun n g => ip cc (g)) t7
    · replace h := h.2 cc
      have t8 : aX xc_152 (aSeek xc_152 130) [aR 118, aU, aR a2, aU, aI a4, aI a5, aI b0, aU] [aI a5, aR 135] (SH L) M1 o := by
        obtain ⟨c9, h⟩ := h
        obtain ⟨M3, v4, k10, h⟩ := h
        have h2 : aX xc_152 (aSeek xc_152 140) [aR 118, aU, aR a2, aU, aI a4, aI a5, aI b0, aU] [aI v4, aI a5, aR 135] (SH L) M3 o := by
          exact aX_seg 1 (fun n g => g) (h)
        exact aX_seg 4 (fun n g => g) (aX_callv (c9) rfl rfl rfl k10 h2)
      exact aX_seg 1 (fun n g => in_ cc (g)) t8
  exact aX_seg 7 (fun n g => g) (aX_callv (c5) rfl rfl rfl k6 h2)
set_option maxRecDepth 100000 in
theorem bl_152_144 {L : Nat} {a2 a4 a5 a6 b0 b1 b2 : Int} {M : aM} {o : aO} (h : (0 ≤ b1 ∧ b1 < aLn (SH L) 1 b0) ∧ (aK (SH L) ((aSet M b0 b1 b2) 118 6) = 19) ∧ (0 ≤ a5 ∧ a5 < aLn (SH L) 1 (aF (SH L) ((aSet M b0 b1 b2) 118 6) 6)) ∧ (∃ (M1 : aM) (v2 : Int), aE 149 [aI a4, aI ((aSet M b0 b1 b2) (aF (SH L) ((aSet M b0 b1 b2) 118 6) 6) a5)] (SH L) (aSet M b0 b1 b2) ([aI v2], (SH L), M1) ∧ (0 ≤ a5 ∧ a5 < aLn (SH L) 1 136) ∧ ((a6 = 0 → (aK (SH L) ((aSet M1 136 a5 v2) 118 6) = 19) ∧ (0 ≤ a5 ∧ a5 < aLn (SH L) 1 (aF (SH L) ((aSet M1 136 a5 v2) 118 6) 7)) ∧ (∃ (M3 : aM) (v4 : Int), aE 149 [aI a4, aI ((aSet M1 136 a5 v2) (aF (SH L) ((aSet M1 136 a5 v2) 118 6) 7) a5)] (SH L) (aSet M1 136 a5 v2) ([aI v4], (SH L), M3) ∧ aX xc_152 (aSeek xc_152 197) [aR 118, aU, aR a2, aU, aI a4, aI a5, aU, aU] [aI v4, aI a5, aR 137] (SH L) M3 o)) ∧ (¬ (a6 = 0) → aX xc_152 (aSeek xc_152 197) [aR 118, aU, aR a2, aU, aI a4, aI a5, aU, aU] [aI 0, aI a5, aR 137] (SH L) (aSet M1 136 a5 v2) o)))) : aX xc_152 (aSeek xc_152 144) [aR 118, aU, aR a2, aU, aI a4, aI a5, aI a6, aU] [aI b2, aI b1, aR b0] (SH L) M o := by
  obtain ⟨c5, h⟩ := h
  obtain ⟨c6, h⟩ := h
  obtain ⟨c7, h⟩ := h
  obtain ⟨M1, v2, k8, h⟩ := h
  have h2 : aX xc_152 (aSeek xc_152 166) [aR 118, aU, aR a2, aU, aI a4, aI a5, aI a6, aU] [aI v2, aI a5, aR 136] (SH L) M1 o := by
    obtain ⟨c9, h⟩ := h
    by_cases cc : a6 = 0
    · replace h := h.1 cc
      have t10 : aX xc_152 (aSeek xc_152 182) [aR 118, aU, aR a2, aU, aI a4, aI a5, aI a6, aU] [aI a5, aR 137] (SH L) (aSet M1 136 a5 v2) o := by
        obtain ⟨c11, h⟩ := h
        obtain ⟨c12, h⟩ := h
        obtain ⟨M3, v4, k13, h⟩ := h
        have h2 : aX xc_152 (aSeek xc_152 197) [aR 118, aU, aR a2, aU, aI a4, aI a5, aI a6, aU] [aI v4, aI a5, aR 137] (SH L) M3 o := by
          exact aX_le (ls := [aR 118, aU, aR a2, aU, aI a4, aI a5, aU, aU]) (ls1 := [aR 118, aU, aR a2, aU, aI a4, aI a5, aI a6, aU]) (⟨Or.inr rfl, ⟨Or.inl rfl, ⟨Or.inr rfl, ⟨Or.inl rfl, ⟨Or.inr rfl, ⟨Or.inr rfl, ⟨Or.inl rfl, ⟨Or.inl rfl, trivial⟩⟩⟩⟩⟩⟩⟩⟩) h
        exact aX_seg 6 (fun n g => ip c11 (ip c12 (g))) (aX_calls rfl rfl rfl k13 h2)
      exact aX_seg 6 (fun n g => ip c9 (ip cc (g))) t10
    · replace h := h.2 cc
      have t14 : aX xc_152 (aSeek xc_152 178) [aR 118, aU, aR a2, aU, aI a4, aI a5, aI a6, aU] [aI a5, aR 137] (SH L) (aSet M1 136 a5 v2) o := by
        exact aX_seg 2 (fun n g => g) (aX_le (ls := [aR 118, aU, aR a2, aU, aI a4, aI a5, aU, aU]) (ls1 := [aR 118, aU, aR a2, aU, aI a4, aI a5, aI a6, aU]) (⟨Or.inr rfl, ⟨Or.inl rfl, ⟨Or.inr rfl, ⟨Or.inl rfl, ⟨Or.inr rfl, ⟨Or.inr rfl, ⟨Or.inl rfl, ⟨Or.inl rfl, trivial⟩⟩⟩⟩⟩⟩⟩⟩) h)
      exact aX_seg 6 (fun n g => ip c9 (in_ cc (g))) t14
  exact aX_seg 10 (fun n g => ip c5 (ip c6 (ip c7 (g)))) (aX_calls rfl rfl rfl k8 h2)
set_option maxRecDepth 100000 in
theorem bl_152_197 {L : Nat} {a2 a4 a5 b0 b1 b2 : Int} {M : aM} {o : aO} (h : (0 ≤ b1 ∧ b1 < aLn (SH L) 1 b0) ∧ aX xc_152 (aSeek xc_152 201) [aR 118, aU, aR a2, aU, aI a4, aI a5, aU, aI 0] [] (SH L) (aSet M b0 b1 b2) o) : aX xc_152 (aSeek xc_152 197) [aR 118, aU, aR a2, aU, aI a4, aI a5, aU, aU] [aI b2, aI b1, aR b0] (SH L) M o := by
  obtain ⟨c1, h⟩ := h
  exact aX_seg 3 (fun n g => ip c1 (g)) (h)
set_option maxRecDepth 100000 in
theorem bl_152_201 {L : Nat} {a2 a4 a5 a7 : Int} {M : aM} {o : aO} (h : ((60 < a7 → aX xc_152 (aSeek xc_152 77) [aR 118, aU, aR a2, aU, aI a4, aI (aW (a5 + (-1))), aU, aU] [] (SH L) M o) ∧ (¬ (60 < a7) → (0 ≤ a5 ∧ a5 < aLn (SH L) 6 119) ∧ (0 ≤ a7 ∧ a7 < aLn (SH L) 1 (aF (SH L) 119 (a5).toNat)) ∧ (∃ (M1 : aM) (v2 : Int), aE 151 [aR 118, aI a5, aI a7, aI 1] (SH L) (aSet M (aF (SH L) 119 (a5).toNat) a7 1000000) ([aI v2], (SH L), M1) ∧ aX xc_152 (aSeek xc_152 201) [aR 118, aU, aR a2, aU, aI a4, aI a5, aU, aI (aW (a7 + 1))] [] (SH L) M1 o)))) : aX xc_152 (aSeek xc_152 201) [aR 118, aU, aR a2, aU, aI a4, aI a5, aU, aI a7] [] (SH L) M o := by
  by_cases cc : 60 < a7
  · replace h := h.1 cc
    have t3 : aX xc_152 (aSeek xc_152 236) [aR 118, aU, aR a2, aU, aI a4, aI a5, aU, aI a7] [] (SH L) M o := by
      exact aX_seg 2 (fun n g => g) (aX_le (ls := [aR 118, aU, aR a2, aU, aI a4, aI (aW (a5 + (-1))), aU, aU]) (ls1 := [aR 118, aU, aR a2, aU, aI a4, aI (aW (a5 + (-1))), aU, aI a7]) (⟨Or.inr rfl, ⟨Or.inl rfl, ⟨Or.inr rfl, ⟨Or.inl rfl, ⟨Or.inr rfl, ⟨Or.inr rfl, ⟨Or.inl rfl, ⟨Or.inl rfl, trivial⟩⟩⟩⟩⟩⟩⟩⟩) h)
    exact aX_seg 3 (fun n g => ip cc (g)) t3
  · replace h := h.2 cc
    have t4 : aX xc_152 (aSeek xc_152 208) [aR 118, aU, aR a2, aU, aI a4, aI a5, aU, aI a7] [] (SH L) M o := by
      obtain ⟨c5, h⟩ := h
      obtain ⟨c6, h⟩ := h
      obtain ⟨M1, v2, k7, h⟩ := h
      have h2 : aX xc_152 (aSeek xc_152 229) [aR 118, aU, aR a2, aU, aI a4, aI a5, aU, aI a7] [aI v2] (SH L) M1 o := by
        exact aX_seg 3 (fun n g => g) (h)
      exact aX_seg 11 (fun n g => ip c5 (ip c6 (g))) (aX_callv (rfl) rfl rfl rfl k7 h2)
    exact aX_seg 3 (fun n g => in_ cc (g)) t4
/- TypeLock$GapFiller.canFill(I)Z -/
set_option maxRecDepth 100000 in
theorem en_153 {L : Nat} {a1 : Int} {M : aM} {o : aO} (h : ((a1 < 0 → o = ([aI 0], (SH L), M)) ∧ (¬ (a1 < 0) → ((60 < a1 → o = ([aI 0], (SH L), M)) ∧ (¬ (60 < a1) → (0 ≤ a1 ∧ a1 < aLn (SH L) 1 120) ∧ ((1000000 ≤ (M 120 a1) → o = ([aI 0], (SH L), M)) ∧ (¬ (1000000 ≤ (M 120 a1)) → o = ([aI 1], (SH L), M)))))))) : aE 153 [aR 118, aI a1] (SH L) M o := by
  have q : aX xc_153 (aSeek xc_153 0) [aR 118, aI a1] [] (SH L) M o := by
    by_cases cc : a1 < 0
    · replace h := h.1 cc
      have t1 : aX xc_153 (aSeek xc_153 27) [aR 118, aI a1] [] (SH L) M o := by
        subst h
        exact ⟨2, rfl⟩
      exact aX_seg 2 (fun n g => ip cc (g)) t1
    · replace h := h.2 cc
      have t2 : aX xc_153 (aSeek xc_153 4) [aR 118, aI a1] [] (SH L) M o := by
        by_cases cc : 60 < a1
        · replace h := h.1 cc
          have t3 : aX xc_153 (aSeek xc_153 27) [aR 118, aI a1] [] (SH L) M o := by
            subst h
            exact ⟨2, rfl⟩
          exact aX_seg 3 (fun n g => ip cc (g)) t3
        · replace h := h.2 cc
          have t4 : aX xc_153 (aSeek xc_153 10) [aR 118, aI a1] [] (SH L) M o := by
            obtain ⟨c5, h⟩ := h
            by_cases cc : 1000000 ≤ (M 120 a1)
            · replace h := h.1 cc
              have t6 : aX xc_153 (aSeek xc_153 27) [aR 118, aI a1] [] (SH L) M o := by
                subst h
                exact ⟨2, rfl⟩
              exact aX_seg 8 (fun n g => ip c5 (ip cc (g))) t6
            · replace h := h.2 cc
              have t7 : aX xc_153 (aSeek xc_153 23) [aR 118, aI a1] [] (SH L) M o := by
                subst h
                exact ⟨3, rfl⟩
              exact aX_seg 8 (fun n g => ip c5 (in_ cc (g))) t7
          exact aX_seg 3 (fun n g => in_ cc (g)) t4
      exact aX_seg 2 (fun n g => in_ cc (g)) t2
  exact q
/- TypeLock$GapFiller.piecesFor(I)I -/
set_option maxRecDepth 100000 in
theorem en_154 {L : Nat} {a1 : Int} {M : aM} {o : aO} (h : ((a1 < 0 → o = ([aI 1000000], (SH L), M)) ∧ (¬ (a1 < 0) → ((60 < a1 → o = ([aI 1000000], (SH L), M)) ∧ (¬ (60 < a1) → (0 ≤ a1 ∧ a1 < aLn (SH L) 1 120) ∧ o = ([aI (M 120 a1)], (SH L), M)))))) : aE 154 [aR 118, aI a1] (SH L) M o := by
  have q : aX xc_154 (aSeek xc_154 0) [aR 118, aI a1] [] (SH L) M o := by
    by_cases cc : a1 < 0
    · replace h := h.1 cc
      have t1 : aX xc_154 (aSeek xc_154 21) [aR 118, aI a1] [] (SH L) M o := by
        subst h
        exact ⟨2, rfl⟩
      exact aX_seg 2 (fun n g => ip cc (g)) t1
    · replace h := h.2 cc
      have t2 : aX xc_154 (aSeek xc_154 4) [aR 118, aI a1] [] (SH L) M o := by
        by_cases cc : 60 < a1
        · replace h := h.1 cc
          have t3 : aX xc_154 (aSeek xc_154 21) [aR 118, aI a1] [] (SH L) M o := by
            subst h
            exact ⟨2, rfl⟩
          exact aX_seg 3 (fun n g => ip cc (g)) t3
        · replace h := h.2 cc
          have t4 : aX xc_154 (aSeek xc_154 10) [aR 118, aI a1] [] (SH L) M o := by
            obtain ⟨c5, h⟩ := h
            subst h
            exact ⟨8, ip c5 (rfl)⟩
          exact aX_seg 3 (fun n g => in_ cc (g)) t4
      exact aX_seg 2 (fun n g => in_ cc (g)) t2
  exact q
/- TypeLock$GapFiller.shareOut(II)V -/
set_option maxRecDepth 100000 in
theorem en_155 {L : Nat} {a1 a2 : Int} {M : aM} {o : aO} (h : aX xc_155 (aSeek xc_155 5) [aR 118, aU, aI a2, aI a1, aI 0] [] (SH L) M o) : aE 155 [aR 118, aI a1, aI a2] (SH L) M o := by
  have q : aX xc_155 (aSeek xc_155 0) [aR 118, aI a1, aI a2, aU, aU] [] (SH L) M o := by
    exact aX_seg 4 (fun n g => g) (aX_le (ls := [aR 118, aU, aI a2, aI a1, aI 0]) (ls1 := [aR 118, aI a1, aI a2, aI a1, aI 0]) (⟨Or.inr rfl, ⟨Or.inl rfl, ⟨Or.inr rfl, ⟨Or.inr rfl, ⟨Or.inr rfl, trivial⟩⟩⟩⟩⟩) h)
  exact q
set_option maxRecDepth 100000 in
theorem bl_155_5 {L : Nat} {a2 a3 a4 : Int} {M : aM} {o : aO} (h : ((a2 < a4 → o = ([], (SH L), M)) ∧ (¬ (a2 < a4) → (aK (SH L) (M 118 6) = 19) ∧ (((M (M 118 6) 3) ≤ a4 → o = ([], (SH L), M)) ∧ (¬ ((M (M 118 6) 3) ≤ a4) → (∃ (M1 : aM) (v2 : Int), aE 151 [aR 118, aI a4, aI a3, aI 0] (SH L) M ([aI v2], (SH L), M1) ∧ aX xc_155 (aSeek xc_155 5) [aR 118, aU, aI a2, aI v2, aI (aW (a4 + 1))] [] (SH L) M1 o)))))) : aX xc_155 (aSeek xc_155 5) [aR 118, aU, aI a2, aI a3, aI a4] [] (SH L) M o := by
  by_cases cc : a2 < a4
  · replace h := h.1 cc
    have t3 : aX xc_155 (aSeek xc_155 38) [aR 118, aU, aI a2, aI a3, aI a4] [] (SH L) M o := by
      subst h
      exact ⟨1, rfl⟩
    exact aX_seg 3 (fun n g => ip cc (g)) t3
  · replace h := h.2 cc
    have t4 : aX xc_155 (aSeek xc_155 11) [aR 118, aU, aI a2, aI a3, aI a4] [] (SH L) M o := by
      obtain ⟨c5, h⟩ := h
      by_cases cc : (M (M 118 6) 3) ≤ a4
      · replace h := h.1 cc
        have t6 : aX xc_155 (aSeek xc_155 38) [aR 118, aU, aI a2, aI a3, aI a4] [] (SH L) M o := by
          subst h
          exact ⟨1, rfl⟩
        exact aX_seg 5 (fun n g => ip c5 (ip cc (g))) t6
      · replace h := h.2 cc
        have t7 : aX xc_155 (aSeek xc_155 23) [aR 118, aU, aI a2, aI a3, aI a4] [] (SH L) M o := by
          obtain ⟨M1, v2, k8, h⟩ := h
          have h2 : aX xc_155 (aSeek xc_155 31) [aR 118, aU, aI a2, aI a3, aI a4] [aI v2] (SH L) M1 o := by
            exact aX_seg 3 (fun n g => g) (h)
          exact aX_seg 4 (fun n g => g) (aX_callv (rfl) rfl rfl rfl k8 h2)
        exact aX_seg 5 (fun n g => ip c5 (in_ cc (g))) t7
    exact aX_seg 3 (fun n g => in_ cc (g)) t4
/- TypeLock.gap(III)I -/
set_option maxRecDepth 100000 in
theorem en_156 {L : Nat} {a1 a2 a3 : Int} {M : aM} {o : aO} (h : ((a1 < 1 → o = ([aI ((-1))], (SH L), M)) ∧ (¬ (a1 < 1) → ((60 < a1 → o = ([aI ((-1))], (SH L), M)) ∧ (¬ (60 < a1) → ((a2 < 1 → o = ([aI ((-1))], (SH L), M)) ∧ (¬ (a2 < 1) → ((60 < a2 → o = ([aI ((-1))], (SH L), M)) ∧ (¬ (60 < a2) → ((a3 = 0 → aX xc_156 (aSeek xc_156 36) [aR 1, aI a1, aI a2, aI a3] [] (SH L) M o) ∧ (¬ (a3 = 0) → (∃ (M1 : aM) (v2 : Int), aE 140 [aR 1, aI a3] (SH L) M ([aI v2], (SH L), M1) ∧ ((¬ v2 = 0 → aX xc_156 (aSeek xc_156 36) [aR 1, aI a1, aI a2, aI a3] [] (SH L) M1 o) ∧ (¬ (¬ v2 = 0) → o = ([aI ((-1))], (SH L), M1))))))))))))))) : aE 156 [aR 1, aI a1, aI a2, aI a3] (SH L) M o := by
  have q : aX xc_156 (aSeek xc_156 0) [aR 1, aI a1, aI a2, aI a3] [] (SH L) M o := by
    by_cases cc : a1 < 1
    · replace h := h.1 cc
      have t3 : aX xc_156 (aSeek xc_156 34) [aR 1, aI a1, aI a2, aI a3] [] (SH L) M o := by
        subst h
        exact ⟨2, rfl⟩
      exact aX_seg 3 (fun n g => ip cc (g)) t3
    · replace h := h.2 cc
      have t4 : aX xc_156 (aSeek xc_156 5) [aR 1, aI a1, aI a2, aI a3] [] (SH L) M o := by
        by_cases cc : 60 < a1
        · replace h := h.1 cc
          have t5 : aX xc_156 (aSeek xc_156 34) [aR 1, aI a1, aI a2, aI a3] [] (SH L) M o := by
            subst h
            exact ⟨2, rfl⟩
          exact aX_seg 3 (fun n g => ip cc (g)) t5
        · replace h := h.2 cc
          have t6 : aX xc_156 (aSeek xc_156 11) [aR 1, aI a1, aI a2, aI a3] [] (SH L) M o := by
            by_cases cc : a2 < 1
            · replace h := h.1 cc
              have t7 : aX xc_156 (aSeek xc_156 34) [aR 1, aI a1, aI a2, aI a3] [] (SH L) M o := by
                subst h
                exact ⟨2, rfl⟩
              exact aX_seg 3 (fun n g => ip cc (g)) t7
            · replace h := h.2 cc
              have t8 : aX xc_156 (aSeek xc_156 16) [aR 1, aI a1, aI a2, aI a3] [] (SH L) M o := by
                by_cases cc : 60 < a2
                · replace h := h.1 cc
                  have t9 : aX xc_156 (aSeek xc_156 34) [aR 1, aI a1, aI a2, aI a3] [] (SH L) M o := by
                    subst h
                    exact ⟨2, rfl⟩
                  exact aX_seg 3 (fun n g => ip cc (g)) t9
                · replace h := h.2 cc
                  have t10 : aX xc_156 (aSeek xc_156 22) [aR 1, aI a1, aI a2, aI a3] [] (SH L) M o := by
                    by_cases cc : a3 = 0
                    · replace h := h.1 cc
                      have t11 : aX xc_156 (aSeek xc_156 36) [aR 1, aI a1, aI a2, aI a3] [] (SH L) M o := by
                        exact h
                      exact aX_seg 2 (fun n g => ip cc (g)) t11
                    · replace h := h.2 cc
                      have t12 : aX xc_156 (aSeek xc_156 26) [aR 1, aI a1, aI a2, aI a3] [] (SH L) M o := by
                        obtain ⟨M1, v2, k13, h⟩ := h
                        have h2 : aX xc_156 (aSeek xc_156 31) [aR 1, aI a1, aI a2, aI a3] [aI v2] (SH L) M1 o := by
                          by_cases cc : ¬ v2 = 0
                          · replace h := h.1 cc
                            have t14 : aX xc_156 (aSeek xc_156 36) [aR 1, aI a1, aI a2, aI a3] [] (SH L) M1 o := by
                              exact h
                            exact aX_seg 1 (fun n g => ip cc (g)) t14
                          · replace h := h.2 cc
                            have t15 : aX xc_156 (aSeek xc_156 34) [aR 1, aI a1, aI a2, aI a3] [] (SH L) M1 o := by
                              subst h
                              exact ⟨2, rfl⟩
                            exact aX_seg 1 (fun n g => in_ cc (g)) t15
                        exact aX_seg 2 (fun n g => g) (aX_callv (rfl) rfl rfl rfl k13 h2)
                      exact aX_seg 2 (fun n g => in_ cc (g)) t12
                  exact aX_seg 3 (fun n g => in_ cc (g)) t10
              exact aX_seg 3 (fun n g => in_ cc (g)) t8
          exact aX_seg 3 (fun n g => in_ cc (g)) t6
      exact aX_seg 3 (fun n g => in_ cc (g)) t4
  exact q
set_option maxRecDepth 100000 in
theorem bl_156_36 {L : Nat} {a1 a2 a3 : Int} {M : aM} {o : aO} (h : (∃ (M1 : aM), aE 152 [aR 118, aR (M 1 3), aR 31, aI (M 1 9), aI a1] (SH L) M ([], (SH L), M1) ∧ (∃ (M2 : aM) (v3 : Int), aE 153 [aR 118, aI a2] (SH L) M1 ([aI v3], (SH L), M2) ∧ ((¬ v3 = 0 → ((¬ a3 = 0 → (∃ (M4 : aM), aE 155 [aR 118, aI a2, aI (aDiv (aW (a3 - 10)) 2)] (SH L) M2 ([], (SH L), M4) ∧ ((¬ (aRem a3 2) = 0 → o = ([aI (M4 118 1)], (SH L), M4)) ∧ (¬ (¬ (aRem a3 2) = 0) → o = ([aI (M4 118 0)], (SH L), M4))))) ∧ (¬ (¬ a3 = 0) → (∃ (M5 : aM) (v6 : Int), aE 154 [aR 118, aI a2] (SH L) M2 ([aI v6], (SH L), M5) ∧ o = ([aI v6], (SH L), M5))))) ∧ (¬ (¬ v3 = 0) → o = ([aI ((-2))], (SH L), M2)))))) : aX xc_156 (aSeek xc_156 36) [aR 1, aI a1, aI a2, aI a3] [] (SH L) M o := by
  obtain ⟨M1, k7, h⟩ := h
  have h2 : aX xc_156 (aSeek xc_156 56) [aR 1, aI a1, aI a2, aI a3] [] (SH L) M1 o := by
    obtain ⟨M2, v3, k8, h⟩ := h
    have h2 : aX xc_156 (aSeek xc_156 64) [aR 1, aI a1, aI a2, aI a3] [aI v3] (SH L) M2 o := by
      by_cases cc : ¬ v3 = 0
      · replace h := h.1 cc
        have t9 : aX xc_156 (aSeek xc_156 70) [aR 1, aI a1, aI a2, aI a3] [] (SH L) M2 o := by
          by_cases cc : ¬ a3 = 0
          · replace h := h.1 cc
            have t10 : aX xc_156 (aSeek xc_156 83) [aR 1, aI a1, aI a2, aI a3] [] (SH L) M2 o := by
              obtain ⟨M4, k11, h⟩ := h
              have h2 : aX xc_156 (aSeek xc_156 97) [aR 1, aI a1, aI a2, aI a3] [] (SH L) M4 o := by
                by_cases cc : ¬ (aRem a3 2) = 0
                · replace h := h.1 cc
                  have t12 : aX xc_156 (aSeek xc_156 113) [aR 1, aI a1, aI a2, aI a3] [] (SH L) M4 o := by
                    subst h
                    exact ⟨4, rfl⟩
                  exact aX_seg 4 (fun n g => ip cc (g)) t12
                · replace h := h.2 cc
                  have t13 : aX xc_156 (aSeek xc_156 103) [aR 1, aI a1, aI a2, aI a3] [] (SH L) M4 o := by
                    subst h
                    exact ⟨5, rfl⟩
                  exact aX_seg 4 (fun n g => in_ cc (g)) t13
              exact aX_seg 8 (fun n g => g) (aX_callv (rfl) rfl rfl rfl k11 h2)
            exact aX_seg 2 (fun n g => ip cc (g)) t10
          · replace h := h.2 cc
            have t14 : aX xc_156 (aSeek xc_156 74) [aR 1, aI a1, aI a2, aI a3] [] (SH L) M2 o := by
              obtain ⟨M5, v6, k15, h⟩ := h
              have h2 : aX xc_156 (aSeek xc_156 82) [aR 1, aI a1, aI a2, aI a3] [aI v6] (SH L) M5 o := by
                subst h
                exact ⟨1, rfl⟩
              exact aX_seg 3 (fun n g => g) (aX_callv (rfl) rfl rfl rfl k15 h2)
            exact aX_seg 2 (fun n g => in_ cc (g)) t14
        exact aX_seg 1 (fun n g => ip cc (g)) t9
      · replace h := h.2 cc
        have t16 : aX xc_156 (aSeek xc_156 67) [aR 1, aI a1, aI a2, aI a3] [] (SH L) M2 o := by
          subst h
          exact ⟨2, rfl⟩
        exact aX_seg 1 (fun n g => in_ cc (g)) t16
    exact aX_seg 3 (fun n g => g) (aX_callv (rfl) rfl rfl rfl k8 h2)
  exact aX_seg 9 (fun n g => g) (aX_callv (rfl) rfl rfl rfl k7 h2)
/- TypeLock$Logs.add(IIII)I -/
set_option maxRecDepth 100000 in
theorem en_157 {L : Nat} {a1 a2 a3 a4 : Int} {M : aM} {o : aO} (h : (((M 138 0) < 60 → (0 ≤ M 138 0 ∧ M 138 0 < aLn (SH L) 1 139) ∧ (0 ≤ (aSet M 139 (M 138 0) a1) 138 0 ∧ (aSet M 139 (M 138 0) a1) 138 0 < aLn (SH L) 1 140) ∧ (0 ≤ (aSet (aSet M 139 (M 138 0) a1) 140 ((aSet M 139 (M 138 0) a1) 138 0) a2) 138 0 ∧ (aSet (aSet M 139 (M 138 0) a1) 140 ((aSet M 139 (M 138 0) a1) 138 0) a2) 138 0 < aLn (SH L) 1 141) ∧ (0 ≤ (aSet (aSet (aSet M 139 (M 138 0) a1) 140 ((aSet M 139 (M 138 0) a1) 138 0) a2) 141 ((aSet (aSet M 139 (M 138 0) a1) 140 ((aSet M 139 (M 138 0) a1) 138 0) a2) 138 0) a3) 138 0 ∧ (aSet (aSet (aSet M 139 (M 138 0) a1) 140 ((aSet M 139 (M 138 0) a1) 138 0) a2) 141 ((aSet (aSet M 139 (M 138 0) a1) 140 ((aSet M 139 (M 138 0) a1) 138 0) a2) 138 0) a3) 138 0 < aLn (SH L) 1 142) ∧ o = ([aI (aW (((aSet (aSet (aSet (aSet (aSet M 139 (M 138 0) a1) 140 ((aSet M 139 (M 138 0) a1) 138 0) a2) 141 ((aSet (aSet M 139 (M 138 0) a1) 140 ((aSet M 139 (M 138 0) a1) 138 0) a2) 138 0) a3) 142 ((aSet (aSet (aSet M 139 (M 138 0) a1) 140 ((aSet M 139 (M 138 0) a1) 138 0) a2) 141 ((aSet (aSet M 139 (M 138 0) a1) 140 ((aSet M 139 (M 138 0) a1) 138 0) a2) 138 0) a3) 138 0) a4) 138 0 (aW (((aSet (aSet (aSet (aSet M 139 (M 138 0) a1) 140 ((aSet M 139 (M 138 0) a1) 138 0) a2) 141 ((aSet (aSet M 139 (M 138 0) a1) 140 ((aSet M 139 (M 138 0) a1) 138 0) a2) 138 0) a3) 142 ((aSet (aSet (aSet M 139 (M 138 0) a1) 140 ((aSet M 139 (M 138 0) a1) 138 0) a2) 141 ((aSet (aSet M 139 (M 138 0) a1) 140 ((aSet M 139 (M 138 0) a1) 138 0) a2) 138 0) a3) 138 0) a4) 138 0) + 1))) 138 0) - 1))], (SH L), aSet (aSet (aSet (aSet (aSet M 139 (M 138 0) a1) 140 ((aSet M 139 (M 138 0) a1) 138 0) a2) 141 ((aSet (aSet M 139 (M 138 0) a1) 140 ((aSet M 139 (M 138 0) a1) 138 0) a2) 138 0) a3) 142 ((aSet (aSet (aSet M 139 (M 138 0) a1) 140 ((aSet M 139 (M 138 0) a1) 138 0) a2) 141 ((aSet (aSet M 139 (M 138 0) a1) 140 ((aSet M 139 (M 138 0) a1) 138 0) a2) 138 0) a3) 138 0) a4) 138 0 (aW (((aSet (aSet (aSet (aSet M 139 (M 138 0) a1) 140 ((aSet M 139 (M 138 0) a1) 138 0) a2) 141 ((aSet (aSet M 139 (M 138 0) a1) 140 ((aSet M 139 (M 138 0) a1) 138 0) a2) 138 0) a3) 142 ((aSet (aSet (aSet M 139 (M 138 0) a1) 140 ((aSet M 139 (M 138 0) a1) 138 0) a2) 141 ((aSet (aSet M 139 (M 138 0) a1) 140 ((aSet M 139 (M 138 0) a1) 138 0) a2) 138 0) a3) 138 0) a4) 138 0) + 1)))) ∧ (¬ ((M 138 0) < 60) → o = ([aI ((-1))], (SH L), M)))) : aE 157 [aR 138, aI a1, aI a2, aI a3, aI a4] (SH L) M o := by
  have q : aX xc_157 (aSeek xc_157 0) [aR 138, aI a1, aI a2, aI a3, aI a4] [] (SH L) M o := by
    by_cases cc : (M 138 0) < 60
    · replace h := h.1 cc
      have t1 : aX xc_157 (aSeek xc_157 11) [aR 138, aI a1, aI a2, aI a3, aI a4] [] (SH L) M o := by
        obtain ⟨c2, h⟩ := h
        obtain ⟨c3, h⟩ := h
        obtain ⟨c4, h⟩ := h
        obtain ⟨c5, h⟩ := h
        subst h
        exact ⟨35, ip c2 (ip c3 (ip c4 (ip c5 (rfl))))⟩
      exact aX_seg 4 (fun n g => ip cc (g)) t1
    · replace h := h.2 cc
      have t6 : aX xc_157 (aSeek xc_157 9) [aR 138, aI a1, aI a2, aI a3, aI a4] [] (SH L) M o := by
        subst h
        exact ⟨2, rfl⟩
      exact aX_seg 4 (fun n g => in_ cc (g)) t6
  exact q
/- TypeLock.log(IIIZ)I -/
set_option maxRecDepth 100000 in
theorem en_158 {L : Nat} {a1 a2 a3 a4 : Int} {M : aM} {o : aO} (h : ((a1 < 0 → o = ([aI ((-1))], (SH L), M)) ∧ (¬ (a1 < 0) → ((100 ≤ a1 → o = ([aI ((-1))], (SH L), M)) ∧ (¬ (100 ≤ a1) → ((a2 < 0 → o = ([aI ((-1))], (SH L), M)) ∧ (¬ (a2 < 0) → ((14 ≤ a2 → o = ([aI ((-1))], (SH L), M)) ∧ (¬ (14 ≤ a2) → ((a3 < 0 → o = ([aI ((-1))], (SH L), M)) ∧ (¬ (a3 < 0) → ((a3 ≤ 99 → ((a4 = 0 → aX xc_158 (aSeek xc_158 46) [aU, aI a1, aI a2, aI a3, aU] [aI 0, aR 138] (SH L) M o) ∧ (¬ (a4 = 0) → aX xc_158 (aSeek xc_158 46) [aU, aI a1, aI a2, aI a3, aU] [aI 1, aR 138] (SH L) M o))) ∧ (¬ (a3 ≤ 99) → o = ([aI ((-1))], (SH L), M)))))))))))))) : aE 158 [aR 1, aI a1, aI a2, aI a3, aI a4] (SH L) M o := by
  have q : aX xc_158 (aSeek xc_158 0) [aR 1, aI a1, aI a2, aI a3, aI a4] [] (SH L) M o := by
    by_cases cc : a1 < 0
    · replace h := h.1 cc
      have t1 : aX xc_158 (aSeek xc_158 30) [aR 1, aI a1, aI a2, aI a3, aI a4] [] (SH L) M o := by
        subst h
        exact ⟨2, rfl⟩
      exact aX_seg 2 (fun n g => ip cc (g)) t1
    · replace h := h.2 cc
      have t2 : aX xc_158 (aSeek xc_158 4) [aR 1, aI a1, aI a2, aI a3, aI a4] [] (SH L) M o := by
        by_cases cc : 100 ≤ a1
        · replace h := h.1 cc
          have t3 : aX xc_158 (aSeek xc_158 30) [aR 1, aI a1, aI a2, aI a3, aI a4] [] (SH L) M o := by
            subst h
            exact ⟨2, rfl⟩
          exact aX_seg 3 (fun n g => ip cc (g)) t3
        · replace h := h.2 cc
          have t4 : aX xc_158 (aSeek xc_158 10) [aR 1, aI a1, aI a2, aI a3, aI a4] [] (SH L) M o := by
            by_cases cc : a2 < 0
            · replace h := h.1 cc
              have t5 : aX xc_158 (aSeek xc_158 30) [aR 1, aI a1, aI a2, aI a3, aI a4] [] (SH L) M o := by
                subst h
                exact ⟨2, rfl⟩
              exact aX_seg 2 (fun n g => ip cc (g)) t5
            · replace h := h.2 cc
              have t6 : aX xc_158 (aSeek xc_158 14) [aR 1, aI a1, aI a2, aI a3, aI a4] [] (SH L) M o := by
                by_cases cc : 14 ≤ a2
                · replace h := h.1 cc
                  have t7 : aX xc_158 (aSeek xc_158 30) [aR 1, aI a1, aI a2, aI a3, aI a4] [] (SH L) M o := by
                    subst h
                    exact ⟨2, rfl⟩
                  exact aX_seg 3 (fun n g => ip cc (g)) t7
                · replace h := h.2 cc
                  have t8 : aX xc_158 (aSeek xc_158 20) [aR 1, aI a1, aI a2, aI a3, aI a4] [] (SH L) M o := by
                    by_cases cc : a3 < 0
                    · replace h := h.1 cc
                      have t9 : aX xc_158 (aSeek xc_158 30) [aR 1, aI a1, aI a2, aI a3, aI a4] [] (SH L) M o := by
                        subst h
                        exact ⟨2, rfl⟩
                      exact aX_seg 2 (fun n g => ip cc (g)) t9
                    · replace h := h.2 cc
                      have t10 : aX xc_158 (aSeek xc_158 24) [aR 1, aI a1, aI a2, aI a3, aI a4] [] (SH L) M o := by
                        by_cases cc : a3 ≤ 99
                        · replace h := h.1 cc
                          have t11 : aX xc_158 (aSeek xc_158 32) [aR 1, aI a1, aI a2, aI a3, aI a4] [] (SH L) M o := by
                            by_cases cc : a4 = 0
                            · replace h := h.1 cc
                              have t12 : aX xc_158 (aSeek xc_158 45) [aR 1, aI a1, aI a2, aI a3, aI a4] [aR 138] (SH L) M o := by
                                exact aX_seg 1 (fun n g => g) (aX_le (ls := [aU, aI a1, aI a2, aI a3, aU]) (ls1 := [aR 1, aI a1, aI a2, aI a3, aI a4]) (⟨Or.inl rfl, ⟨Or.inr rfl, ⟨Or.inr rfl, ⟨Or.inr rfl, ⟨Or.inl rfl, trivial⟩⟩⟩⟩⟩) h)
                              exact aX_seg 4 (fun n g => ip cc (g)) t12
                            · replace h := h.2 cc
                              have t13 : aX xc_158 (aSeek xc_158 41) [aR 1, aI a1, aI a2, aI a3, aI a4] [aR 138] (SH L) M o := by
                                exact aX_seg 2 (fun n g => g) (aX_le (ls := [aU, aI a1, aI a2, aI a3, aU]) (ls1 := [aR 1, aI a1, aI a2, aI a3, aI a4]) (⟨Or.inl rfl, ⟨Or.inr rfl, ⟨Or.inr rfl, ⟨Or.inr rfl, ⟨Or.inl rfl, trivial⟩⟩⟩⟩⟩) h)
                              exact aX_seg 4 (fun n g => in_ cc (g)) t13
                          exact aX_seg 3 (fun n g => ip cc (g)) t11
                        · replace h := h.2 cc
                          have t14 : aX xc_158 (aSeek xc_158 30) [aR 1, aI a1, aI a2, aI a3, aI a4] [] (SH L) M o := by
                            subst h
                            exact ⟨2, rfl⟩
                          exact aX_seg 3 (fun n g => in_ cc (g)) t14
                      exact aX_seg 2 (fun n g => in_ cc (g)) t10
                  exact aX_seg 3 (fun n g => in_ cc (g)) t8
              exact aX_seg 2 (fun n g => in_ cc (g)) t6
          exact aX_seg 3 (fun n g => in_ cc (g)) t4
      exact aX_seg 2 (fun n g => in_ cc (g)) t2
  exact q
set_option maxRecDepth 100000 in
theorem bl_158_46 {L : Nat} {a1 a2 a3 b0 b1 : Int} {M : aM} {o : aO} (h : (aK (SH L) b0 = 15 ∧ ∃ (M1 : aM) (v2 : Int), aE 157 [aR b0, aI b1, aI a1, aI a2, aI a3] (SH L) M ([aI v2], (SH L), M1) ∧ o = ([aI v2], (SH L), M1))) : aX xc_158 (aSeek xc_158 46) [aU, aI a1, aI a2, aI a3, aU] [aI b1, aR b0] (SH L) M o := by
  obtain ⟨c3, h⟩ := h
  obtain ⟨M1, v2, k4, h⟩ := h
  have h2 : aX xc_158 (aSeek xc_158 52) [aU, aI a1, aI a2, aI a3, aU] [aI v2] (SH L) M1 o := by
    subst h
    exact ⟨1, rfl⟩
  exact aX_seg 3 (fun n g => g) (aX_callv (c3) rfl rfl rfl k4 h2)
/- TypeLock$Logs.canVoid(I)Z -/
set_option maxRecDepth 100000 in
theorem en_159 {L : Nat} {a1 : Int} {M : aM} {o : aO} (h : ((a1 < 0 → o = ([aI 0], (SH L), M)) ∧ (¬ (a1 < 0) → (((M 138 0) ≤ a1 → o = ([aI 0], (SH L), M)) ∧ (¬ ((M 138 0) ≤ a1) → (0 ≤ a1 ∧ a1 < aLn (SH L) 1 139) ∧ (((M 139 a1) = 2 → o = ([aI 0], (SH L), M)) ∧ (¬ ((M 139 a1) = 2) → o = ([aI 1], (SH L), M)))))))) : aE 159 [aR 138, aI a1] (SH L) M o := by
  have q : aX xc_159 (aSeek xc_159 0) [aR 138, aI a1] [] (SH L) M o := by
    by_cases cc : a1 < 0
    · replace h := h.1 cc
      have t1 : aX xc_159 (aSeek xc_159 26) [aR 138, aI a1] [] (SH L) M o := by
        subst h
        exact ⟨2, rfl⟩
      exact aX_seg 2 (fun n g => ip cc (g)) t1
    · replace h := h.2 cc
      have t2 : aX xc_159 (aSeek xc_159 4) [aR 138, aI a1] [] (SH L) M o := by
        by_cases cc : (M 138 0) ≤ a1
        · replace h := h.1 cc
          have t3 : aX xc_159 (aSeek xc_159 26) [aR 138, aI a1] [] (SH L) M o := by
            subst h
            exact ⟨2, rfl⟩
          exact aX_seg 4 (fun n g => ip cc (g)) t3
        · replace h := h.2 cc
          have t4 : aX xc_159 (aSeek xc_159 12) [aR 138, aI a1] [] (SH L) M o := by
            obtain ⟨c5, h⟩ := h
            by_cases cc : (M 139 a1) = 2
            · replace h := h.1 cc
              have t6 : aX xc_159 (aSeek xc_159 26) [aR 138, aI a1] [] (SH L) M o := by
                subst h
                exact ⟨2, rfl⟩
              exact aX_seg 6 (fun n g => ip c5 (ip cc (g))) t6
            · replace h := h.2 cc
              have t7 : aX xc_159 (aSeek xc_159 22) [aR 138, aI a1] [] (SH L) M o := by
                subst h
                exact ⟨3, rfl⟩
              exact aX_seg 6 (fun n g => ip c5 (in_ cc (g))) t7
          exact aX_seg 4 (fun n g => in_ cc (g)) t4
      exact aX_seg 2 (fun n g => in_ cc (g)) t2
  exact q
/- TypeLock.annul(I)I -/
set_option maxRecDepth 100000 in
theorem en_160 {L : Nat} {a1 : Int} {M : aM} {o : aO} (h : (∃ (M1 : aM) (v2 : Int), aE 159 [aR 138, aI a1] (SH L) M ([aI v2], (SH L), M1) ∧ ((¬ v2 = 0 → (∃ (M3 : aM) (v4 : Int), aE 157 [aR 138, aI 2, aI 0, aI a1, aI 0] (SH L) M1 ([aI v4], (SH L), M3) ∧ o = ([aI v4], (SH L), M3))) ∧ (¬ (¬ v2 = 0) → o = ([aI ((-1))], (SH L), M1))))) : aE 160 [aR 1, aI a1] (SH L) M o := by
  have q : aX xc_160 (aSeek xc_160 0) [aR 1, aI a1] [] (SH L) M o := by
    obtain ⟨M1, v2, k5, h⟩ := h
    have h2 : aX xc_160 (aSeek xc_160 8) [aR 1, aI a1] [aI v2] (SH L) M1 o := by
      by_cases cc : ¬ v2 = 0
      · replace h := h.1 cc
        have t6 : aX xc_160 (aSeek xc_160 13) [aR 1, aI a1] [] (SH L) M1 o := by
          obtain ⟨M3, v4, k7, h⟩ := h
          have h2 : aX xc_160 (aSeek xc_160 24) [aR 1, aI a1] [aI v4] (SH L) M3 o := by
            subst h
            exact ⟨1, rfl⟩
          exact aX_seg 6 (fun n g => g) (aX_callv (rfl) rfl rfl rfl k7 h2)
        exact aX_seg 1 (fun n g => ip cc (g)) t6
      · replace h := h.2 cc
        have t8 : aX xc_160 (aSeek xc_160 11) [aR 1, aI a1] [] (SH L) M1 o := by
          subst h
          exact ⟨2, rfl⟩
        exact aX_seg 1 (fun n g => in_ cc (g)) t8
    exact aX_seg 3 (fun n g => g) (aX_callv (rfl) rfl rfl rfl k5 h2)
  exact q
/- TypeLock$Logs.know(I)V -/
set_option maxRecDepth 100000 in
theorem en_161 {L : Nat} {a1 : Int} {M : aM} {o : aO} (h : aX xc_161 (aSeek xc_161 10) [aR 138, aI a1, aJ 0, aU, aI 0] [] (SH L) (aSet M 138 5 0) o) : aE 161 [aR 138, aI a1] (SH L) M o := by
  have q : aX xc_161 (aSeek xc_161 0) [aR 138, aI a1, aU, aU, aU] [] (SH L) M o := by
    exact aX_seg 7 (fun n g => g) (h)
  exact q
set_option maxRecDepth 100000 in
theorem bl_161_10 {L : Nat} {a1 a2 a4 : Int} {M : aM} {o : aO} (h : ((a1 ≤ a4 → aX xc_161 (aSeek xc_161 70) [aR 138, aU, aJ a2, aU, aU] [] (SH L) M o) ∧ (¬ (a1 ≤ a4) → (((M 138 0) ≤ a4 → aX xc_161 (aSeek xc_161 70) [aR 138, aU, aJ a2, aU, aU] [] (SH L) M o) ∧ (¬ ((M 138 0) ≤ a4) → (0 ≤ a4 ∧ a4 < aLn (SH L) 1 139) ∧ ((¬ (M 139 a4) = 2 → aX xc_161 (aSeek xc_161 64) [aR 138, aI a1, aJ a2, aU, aI a4] [] (SH L) (aSet M 138 5 (aLor (M 138 5) (aLsl 1 a4))) o) ∧ (¬ (¬ (M 139 a4) = 2) → (0 ≤ a4 ∧ a4 < aLn (SH L) 1 141) ∧ aX xc_161 (aSeek xc_161 64) [aR 138, aI a1, aJ (aLor a2 (aLsl 1 (M 141 a4))), aU, aI a4] [] (SH L) M o))))))) : aX xc_161 (aSeek xc_161 10) [aR 138, aI a1, aJ a2, aU, aI a4] [] (SH L) M o := by
  by_cases cc : a1 ≤ a4
  · replace h := h.1 cc
    have t1 : aX xc_161 (aSeek xc_161 70) [aR 138, aI a1, aJ a2, aU, aI a4] [] (SH L) M o := by
      exact aX_le (ls := [aR 138, aU, aJ a2, aU, aU]) (ls1 := [aR 138, aI a1, aJ a2, aU, aI a4]) (⟨Or.inr rfl, ⟨Or.inl rfl, ⟨Or.inr rfl, ⟨Or.inl rfl, ⟨Or.inl rfl, trivial⟩⟩⟩⟩⟩) h
    exact aX_seg 3 (fun n g => ip cc (g)) t1
  · replace h := h.2 cc
    have t2 : aX xc_161 (aSeek xc_161 16) [aR 138, aI a1, aJ a2, aU, aI a4] [] (SH L) M o := by
      by_cases cc : (M 138 0) ≤ a4
      · replace h := h.1 cc
        have t3 : aX xc_161 (aSeek xc_161 70) [aR 138, aI a1, aJ a2, aU, aI a4] [] (SH L) M o := by
          exact aX_le (ls := [aR 138, aU, aJ a2, aU, aU]) (ls1 := [aR 138, aI a1, aJ a2, aU, aI a4]) (⟨Or.inr rfl, ⟨Or.inl rfl, ⟨Or.inr rfl, ⟨Or.inl rfl, ⟨Or.inl rfl, trivial⟩⟩⟩⟩⟩) h
        exact aX_seg 4 (fun n g => ip cc (g)) t3
      · replace h := h.2 cc
        have t4 : aX xc_161 (aSeek xc_161 25) [aR 138, aI a1, aJ a2, aU, aI a4] [] (SH L) M o := by
          obtain ⟨c5, h⟩ := h
          by_cases cc : ¬ (M 139 a4) = 2
          · replace h := h.1 cc
            have t6 : aX xc_161 (aSeek xc_161 51) [aR 138, aI a1, aJ a2, aU, aI a4] [] (SH L) M o := by
              exact aX_seg 8 (fun n g => g) (h)
            exact aX_seg 6 (fun n g => ip c5 (ip cc (g))) t6
          · replace h := h.2 cc
            have t7 : aX xc_161 (aSeek xc_161 36) [aR 138, aI a1, aJ a2, aU, aI a4] [] (SH L) M o := by
              obtain ⟨c8, h⟩ := h
              exact aX_seg 10 (fun n g => ip c8 (g)) (h)
            exact aX_seg 6 (fun n g => ip c5 (in_ cc (g))) t7
        exact aX_seg 4 (fun n g => in_ cc (g)) t4
    exact aX_seg 3 (fun n g => in_ cc (g)) t2
set_option maxRecDepth 100000 in
theorem bl_161_64 {L : Nat} {a1 a2 a4 : Int} {M : aM} {o : aO} (h : aX xc_161 (aSeek xc_161 10) [aR 138, aI a1, aJ a2, aU, aI (aW (a4 + 1))] [] (SH L) M o) : aX xc_161 (aSeek xc_161 64) [aR 138, aI a1, aJ a2, aU, aI a4] [] (SH L) M o := by
  exact aX_seg 2 (fun n g => g) (h)
set_option maxRecDepth 100000 in
theorem bl_161_70 {L : Nat} {a2 : Int} {M : aM} {o : aO} (h : o = ([], (SH L), aSet M 138 5 (aLand (M 138 5) (aLxor a2 ((-1)))))) : aX xc_161 (aSeek xc_161 70) [aR 138, aU, aJ a2, aU, aU] [] (SH L) M o := by
  subst h
  exact ⟨9, rfl⟩
/- TypeLock$Logs.tally(I)V -/
set_option maxRecDepth 100000 in
theorem en_162 {L : Nat} {a1 : Int} {M : aM} {o : aO} (h : (∃ (M1 : aM), aE 78 [aR 143, aI 0] (SH L) M ([], (SH L), M1) ∧ (∃ (M2 : aM), aE 78 [aR 144, aI 0] (SH L) M1 ([], (SH L), M2) ∧ aX xc_162 (aSeek xc_162 18) [aR 138, aI a1, aI 0] [] (SH L) M2 o))) : aE 162 [aR 138, aI a1] (SH L) M o := by
  have q : aX xc_162 (aSeek xc_162 0) [aR 138, aI a1, aU] [] (SH L) M o := by
    obtain ⟨M1, k3, h⟩ := h
    have h2 : aX xc_162 (aSeek xc_162 8) [aR 138, aI a1, aU] [] (SH L) M1 o := by
      obtain ⟨M2, k4, h⟩ := h
      have h2 : aX xc_162 (aSeek xc_162 16) [aR 138, aI a1, aU] [] (SH L) M2 o := by
        exact aX_seg 2 (fun n g => g) (h)
      exact aX_seg 3 (fun n g => g) (aX_calls rfl rfl rfl k4 h2)
    exact aX_seg 3 (fun n g => g) (aX_calls rfl rfl rfl k3 h2)
  exact q
set_option maxRecDepth 100000 in
theorem bl_162_18 {L : Nat} {a1 a2 : Int} {M : aM} {o : aO} (h : (((M 138 0) ≤ a2 → aX xc_162 (aSeek xc_162 108) [aR 138, aU, aI 1] [] (SH L) M o) ∧ (¬ ((M 138 0) ≤ a2) → (∃ (M1 : aM) (v2 : Int), aE 84 [aJ (M 138 5), aI a2] (SH L) M ([aI v2], (SH L), M1) ∧ ((¬ v2 = 1 → aX xc_162 (aSeek xc_162 100) [aR 138, aI a1, aI a2] [] (SH L) M1 o) ∧ (¬ (¬ v2 = 1) → (0 ≤ a2 ∧ a2 < aLn (SH L) 1 141) ∧ ((¬ (M1 141 a2) = a1 → aX xc_162 (aSeek xc_162 100) [aR 138, aI a1, aI a2] [] (SH L) M1 o) ∧ (¬ (¬ (M1 141 a2) = a1) → (0 ≤ a2 ∧ a2 < aLn (SH L) 1 139) ∧ ((¬ (M1 139 a2) = 0 → (0 ≤ a2 ∧ a2 < aLn (SH L) 1 140) ∧ (0 ≤ M1 140 a2 ∧ M1 140 a2 < aLn (SH L) 1 144) ∧ (0 ≤ a2 ∧ a2 < aLn (SH L) 1 142) ∧ (0 ≤ M1 140 a2 ∧ M1 140 a2 < aLn (SH L) 1 144) ∧ aX xc_162 (aSeek xc_162 100) [aR 138, aI a1, aI a2] [] (SH L) (aSet M1 144 (M1 140 a2) (aW ((M1 144 (M1 140 a2)) + (M1 142 a2)))) o) ∧ (¬ (¬ (M1 139 a2) = 0) → (0 ≤ a2 ∧ a2 < aLn (SH L) 1 140) ∧ (0 ≤ M1 140 a2 ∧ M1 140 a2 < aLn (SH L) 1 143) ∧ (0 ≤ a2 ∧ a2 < aLn (SH L) 1 142) ∧ (0 ≤ M1 140 a2 ∧ M1 140 a2 < aLn (SH L) 1 143) ∧ aX xc_162 (aSeek xc_162 100) [aR 138, aI a1, aI a2] [] (SH L) (aSet M1 143 (M1 140 a2) (aW ((M1 143 (M1 140 a2)) + (M1 142 a2)))) o)))))))))) : aX xc_162 (aSeek xc_162 18) [aR 138, aI a1, aI a2] [] (SH L) M o := by
  by_cases cc : (M 138 0) ≤ a2
  · replace h := h.1 cc
    have t3 : aX xc_162 (aSeek xc_162 106) [aR 138, aI a1, aI a2] [] (SH L) M o := by
      exact aX_seg 2 (fun n g => g) (aX_le (ls := [aR 138, aU, aI 1]) (ls1 := [aR 138, aI a1, aI 1]) (⟨Or.inr rfl, ⟨Or.inl rfl, ⟨Or.inr rfl, trivial⟩⟩⟩) h)
    exact aX_seg 4 (fun n g => ip cc (g)) t3
  · replace h := h.2 cc
    have t4 : aX xc_162 (aSeek xc_162 26) [aR 138, aI a1, aI a2] [] (SH L) M o := by
      obtain ⟨M1, v2, k5, h⟩ := h
      have h2 : aX xc_162 (aSeek xc_162 34) [aR 138, aI a1, aI a2] [aI v2] (SH L) M1 o := by
        by_cases cc : ¬ v2 = 1
        · replace h := h.1 cc
          have t6 : aX xc_162 (aSeek xc_162 100) [aR 138, aI a1, aI a2] [] (SH L) M1 o := by
            exact h
          exact aX_seg 2 (fun n g => ip cc (g)) t6
        · replace h := h.2 cc
          have t7 : aX xc_162 (aSeek xc_162 38) [aR 138, aI a1, aI a2] [] (SH L) M1 o := by
            obtain ⟨c8, h⟩ := h
            by_cases cc : ¬ (M1 141 a2) = a1
            · replace h := h.1 cc
              have t9 : aX xc_162 (aSeek xc_162 100) [aR 138, aI a1, aI a2] [] (SH L) M1 o := by
                exact h
              exact aX_seg 6 (fun n g => ip c8 (ip cc (g))) t9
            · replace h := h.2 cc
              have t10 : aX xc_162 (aSeek xc_162 48) [aR 138, aI a1, aI a2] [] (SH L) M1 o := by
                obtain ⟨c11, h⟩ := h
                by_cases cc : ¬ (M1 139 a2) = 0
                · replace h := h.1 cc
                  have t12 : aX xc_162 (aSeek xc_162 80) [aR 138, aI a1, aI a2] [] (SH L) M1 o := by
                    obtain ⟨c13, h⟩ := h
                    obtain ⟨c14, h⟩ := h
                    obtain ⟨c15, h⟩ := h
                    obtain ⟨c16, h⟩ := h
                    exact aX_seg 14 (fun n g => ip c13 (ip c14 (ip c15 (ip c16 (g))))) (h)
                  exact aX_seg 5 (fun n g => ip c11 (ip cc (g))) t12
                · replace h := h.2 cc
                  have t17 : aX xc_162 (aSeek xc_162 57) [aR 138, aI a1, aI a2] [] (SH L) M1 o := by
                    obtain ⟨c18, h⟩ := h
                    obtain ⟨c19, h⟩ := h
                    obtain ⟨c20, h⟩ := h
                    obtain ⟨c21, h⟩ := h
                    exact aX_seg 15 (fun n g => ip c18 (ip c19 (ip c20 (ip c21 (g))))) (h)
                  exact aX_seg 5 (fun n g => ip c11 (in_ cc (g))) t17
              exact aX_seg 6 (fun n g => ip c8 (in_ cc (g))) t10
          exact aX_seg 2 (fun n g => in_ cc (g)) t7
      exact aX_seg 3 (fun n g => g) (aX_calls rfl rfl rfl k5 h2)
    exact aX_seg 4 (fun n g => in_ cc (g)) t4
set_option maxRecDepth 100000 in
theorem bl_162_100 {L : Nat} {a1 a2 : Int} {M : aM} {o : aO} (h : aX xc_162 (aSeek xc_162 18) [aR 138, aI a1, aI (aW (a2 + 1))] [] (SH L) M o) : aX xc_162 (aSeek xc_162 100) [aR 138, aI a1, aI a2] [] (SH L) M o := by
  exact aX_seg 2 (fun n g => g) (h)
set_option maxRecDepth 100000 in
theorem bl_162_108 {L : Nat} {a2 : Int} {M : aM} {o : aO} (h : ((100 ≤ a2 → o = ([], (SH L), M)) ∧ (¬ (100 ≤ a2) → (0 ≤ a2 ∧ a2 < aLn (SH L) 1 144) ∧ (0 ≤ aW (a2 - 1) ∧ aW (a2 - 1) < aLn (SH L) 1 144) ∧ (0 ≤ a2 ∧ a2 < aLn (SH L) 1 144) ∧ aX xc_162 (aSeek xc_162 108) [aR 138, aU, aI (aW (a2 + 1))] [] (SH L) (aSet M 144 a2 (aW ((M 144 a2) + (M 144 (aW (a2 - 1)))))) o))) : aX xc_162 (aSeek xc_162 108) [aR 138, aU, aI a2] [] (SH L) M o := by
  by_cases cc : 100 ≤ a2
  · replace h := h.1 cc
    have t1 : aX xc_162 (aSeek xc_162 137) [aR 138, aU, aI a2] [] (SH L) M o := by
      subst h
      exact ⟨1, rfl⟩
    exact aX_seg 3 (fun n g => ip cc (g)) t1
  · replace h := h.2 cc
    have t2 : aX xc_162 (aSeek xc_162 114) [aR 138, aU, aI a2] [] (SH L) M o := by
      obtain ⟨c3, h⟩ := h
      obtain ⟨c4, h⟩ := h
      obtain ⟨c5, h⟩ := h
      exact aX_seg 15 (fun n g => ip c3 (ip c4 (ip c5 (g)))) (h)
    exact aX_seg 3 (fun n g => in_ cc (g)) t2
/- TypeLock$Logs.lackOn(II)I -/
set_option maxRecDepth 100000 in
theorem en_163 {L : Nat} {a1 a2 : Int} {M : aM} {o : aO} (h : ((a1 < 0 → o = ([aI 0], (SH L), M)) ∧ (¬ (a1 < 0) → ((a1 < 100 → (0 ≤ a1 ∧ a1 < aLn (SH L) 1 143) ∧ (0 ≤ a1 ∧ a1 < aLn (SH L) 1 144) ∧ o = ([aI (max 0 (aW ((aW ((M 143 a1) - a2)) - (M 144 a1))))], (SH L), M)) ∧ (¬ (a1 < 100) → o = ([aI 0], (SH L), M)))))) : aE 163 [aR 138, aI a1, aI a2] (SH L) M o := by
  have q : aX xc_163 (aSeek xc_163 0) [aR 138, aI a1, aI a2] [] (SH L) M o := by
    by_cases cc : a1 < 0
    · replace h := h.1 cc
      have t1 : aX xc_163 (aSeek xc_163 10) [aR 138, aI a1, aI a2] [] (SH L) M o := by
        subst h
        exact ⟨2, rfl⟩
      exact aX_seg 2 (fun n g => ip cc (g)) t1
    · replace h := h.2 cc
      have t2 : aX xc_163 (aSeek xc_163 4) [aR 138, aI a1, aI a2] [] (SH L) M o := by
        by_cases cc : a1 < 100
        · replace h := h.1 cc
          have t3 : aX xc_163 (aSeek xc_163 12) [aR 138, aI a1, aI a2] [] (SH L) M o := by
            obtain ⟨c4, h⟩ := h
            obtain ⟨c5, h⟩ := h
            subst h
            exact ⟨14, ip c4 (ip c5 (rfl))⟩
          exact aX_seg 3 (fun n g => ip cc (g)) t3
        · replace h := h.2 cc
          have t6 : aX xc_163 (aSeek xc_163 10) [aR 138, aI a1, aI a2] [] (SH L) M o := by
            subst h
            exact ⟨2, rfl⟩
          exact aX_seg 3 (fun n g => in_ cc (g)) t6
      exact aX_seg 2 (fun n g => in_ cc (g)) t2
  exact q
/- TypeLock.lack(III)I -/
set_option maxRecDepth 100000 in
theorem en_164 {L : Nat} {a1 a2 a3 : Int} {M : aM} {o : aO} (h : ((a1 < 0 → o = ([aI ((-1))], (SH L), M)) ∧ (¬ (a1 < 0) → ((100 ≤ a1 → o = ([aI ((-1))], (SH L), M)) ∧ (¬ (100 ≤ a1) → (aK (SH L) (M 1 3) = 19 ∧ ∃ (M1 : aM) (v2 : Int), aE 55 [aR (M 1 3), aI a2] (SH L) M ([aI v2], (SH L), M1) ∧ ((v2 = 0 → o = ([aI ((-1))], (SH L), M1)) ∧ (¬ (v2 = 0) → ((a3 < 0 → o = ([aI ((-1))], (SH L), M1)) ∧ (¬ (a3 < 0) → ((a3 ≤ (M1 138 0) → (∃ (M3 : aM), aE 161 [aR 138, aI a3] (SH L) M1 ([], (SH L), M3) ∧ (∃ (M4 : aM), aE 162 [aR 138, aI a2] (SH L) M3 ([], (SH L), M4) ∧ (aK (SH L) (M4 1 3) = 19) ∧ (0 ≤ a2 ∧ a2 < aLn (SH L) 1 (aF (SH L) (M4 1 3) 8)) ∧ (∃ (M5 : aM) (v6 : Int), aE 163 [aR 138, aI a1, aI (M4 (aF (SH L) (M4 1 3) 8) a2)] (SH L) M4 ([aI v6], (SH L), M5) ∧ o = ([aI v6], (SH L), M5))))) ∧ (¬ (a3 ≤ (M1 138 0)) → o = ([aI ((-1))], (SH L), M1))))))))))))) : aE 164 [aR 1, aI a1, aI a2, aI a3] (SH L) M o := by
  have q : aX xc_164 (aSeek xc_164 0) [aR 1, aI a1, aI a2, aI a3] [] (SH L) M o := by
    by_cases cc : a1 < 0
    · replace h := h.1 cc
      have t7 : aX xc_164 (aSeek xc_164 36) [aR 1, aI a1, aI a2, aI a3] [] (SH L) M o := by
        subst h
        exact ⟨2, rfl⟩
      exact aX_seg 2 (fun n g => ip cc (g)) t7
    · replace h := h.2 cc
      have t8 : aX xc_164 (aSeek xc_164 4) [aR 1, aI a1, aI a2, aI a3] [] (SH L) M o := by
        by_cases cc : 100 ≤ a1
        · replace h := h.1 cc
          have t9 : aX xc_164 (aSeek xc_164 36) [aR 1, aI a1, aI a2, aI a3] [] (SH L) M o := by
            subst h
            exact ⟨2, rfl⟩
          exact aX_seg 3 (fun n g => ip cc (g)) t9
        · replace h := h.2 cc
          have t10 : aX xc_164 (aSeek xc_164 10) [aR 1, aI a1, aI a2, aI a3] [] (SH L) M o := by
            obtain ⟨c11, h⟩ := h
            obtain ⟨M1, v2, k12, h⟩ := h
            have h2 : aX xc_164 (aSeek xc_164 18) [aR 1, aI a1, aI a2, aI a3] [aI v2] (SH L) M1 o := by
              by_cases cc : v2 = 0
              · replace h := h.1 cc
                have t13 : aX xc_164 (aSeek xc_164 36) [aR 1, aI a1, aI a2, aI a3] [] (SH L) M1 o := by
                  subst h
                  exact ⟨2, rfl⟩
                exact aX_seg 1 (fun n g => ip cc (g)) t13
              · replace h := h.2 cc
                have t14 : aX xc_164 (aSeek xc_164 21) [aR 1, aI a1, aI a2, aI a3] [] (SH L) M1 o := by
                  by_cases cc : a3 < 0
                  · replace h := h.1 cc
                    have t15 : aX xc_164 (aSeek xc_164 36) [aR 1, aI a1, aI a2, aI a3] [] (SH L) M1 o := by
                      subst h
                      exact ⟨2, rfl⟩
                    exact aX_seg 2 (fun n g => ip cc (g)) t15
                  · replace h := h.2 cc
                    have t16 : aX xc_164 (aSeek xc_164 25) [aR 1, aI a1, aI a2, aI a3] [] (SH L) M1 o := by
                      by_cases cc : a3 ≤ (M1 138 0)
                      · replace h := h.1 cc
                        have t17 : aX xc_164 (aSeek xc_164 38) [aR 1, aI a1, aI a2, aI a3] [] (SH L) M1 o := by
                          obtain ⟨M3, k18, h⟩ := h
                          have h2 : aX xc_164 (aSeek xc_164 46) [aR 1, aI a1, aI a2, aI a3] [] (SH L) M3 o := by
                            obtain ⟨M4, k19, h⟩ := h
                            have h2 : aX xc_164 (aSeek xc_164 54) [aR 1, aI a1, aI a2, aI a3] [] (SH L) M4 o := by
                              obtain ⟨c20, h⟩ := h
                              obtain ⟨c21, h⟩ := h
                              obtain ⟨M5, v6, k22, h⟩ := h
                              have h2 : aX xc_164 (aSeek xc_164 71) [aR 1, aI a1, aI a2, aI a3] [aI v6] (SH L) M5 o := by
                                subst h
                                exact ⟨1, rfl⟩
                              exact aX_seg 8 (fun n g => ip c20 (ip c21 (g))) (aX_callv (rfl) rfl rfl rfl k22 h2)
                            exact aX_seg 3 (fun n g => g) (aX_callv (rfl) rfl rfl rfl k19 h2)
                          exact aX_seg 3 (fun n g => g) (aX_callv (rfl) rfl rfl rfl k18 h2)
                        exact aX_seg 5 (fun n g => ip cc (g)) t17
                      · replace h := h.2 cc
                        have t23 : aX xc_164 (aSeek xc_164 36) [aR 1, aI a1, aI a2, aI a3] [] (SH L) M1 o := by
                          subst h
                          exact ⟨2, rfl⟩
                        exact aX_seg 5 (fun n g => in_ cc (g)) t23
                    exact aX_seg 2 (fun n g => in_ cc (g)) t16
                exact aX_seg 1 (fun n g => in_ cc (g)) t14
            exact aX_seg 3 (fun n g => g) (aX_callv (c11) rfl rfl rfl k12 h2)
          exact aX_seg 3 (fun n g => in_ cc (g)) t10
      exact aX_seg 2 (fun n g => in_ cc (g)) t8
  exact q
/- TypeLock.worst(I)I -/
set_option maxRecDepth 100000 in
theorem en_165 {L : Nat} {a1 : Int} {M : aM} {o : aO} (h : ((a1 < 0 → o = ([aI ((-1))], (SH L), M)) ∧ (¬ (a1 < 0) → ((a1 ≤ (M 138 0) → (∃ (M1 : aM), aE 161 [aR 138, aI a1] (SH L) M ([], (SH L), M1) ∧ aX xc_165 (aSeek xc_165 33) [aR 1, aU, aI 0, aI ((-2)), aI 0, aU, aU] [] (SH L) M1 o)) ∧ (¬ (a1 ≤ (M 138 0)) → o = ([aI ((-1))], (SH L), M)))))) : aE 165 [aR 1, aI a1] (SH L) M o := by
  have q : aX xc_165 (aSeek xc_165 0) [aR 1, aI a1, aU, aU, aU, aU, aU] [] (SH L) M o := by
    by_cases cc : a1 < 0
    · replace h := h.1 cc
      have t2 : aX xc_165 (aSeek xc_165 15) [aR 1, aI a1, aU, aU, aU, aU, aU] [] (SH L) M o := by
        subst h
        exact ⟨2, rfl⟩
      exact aX_seg 2 (fun n g => ip cc (g)) t2
    · replace h := h.2 cc
      have t3 : aX xc_165 (aSeek xc_165 4) [aR 1, aI a1, aU, aU, aU, aU, aU] [] (SH L) M o := by
        by_cases cc : a1 ≤ (M 138 0)
        · replace h := h.1 cc
          have t4 : aX xc_165 (aSeek xc_165 17) [aR 1, aI a1, aU, aU, aU, aU, aU] [] (SH L) M o := by
            obtain ⟨M1, k5, h⟩ := h
            have h2 : aX xc_165 (aSeek xc_165 25) [aR 1, aI a1, aU, aU, aU, aU, aU] [] (SH L) M1 o := by
              exact aX_seg 6 (fun n g => g) (aX_le (ls := [aR 1, aU, aI 0, aI ((-2)), aI 0, aU, aU]) (ls1 := [aR 1, aI a1, aI 0, aI ((-2)), aI 0, aU, aU]) (⟨Or.inr rfl, ⟨Or.inl rfl, ⟨Or.inr rfl, ⟨Or.inr rfl, ⟨Or.inr rfl, ⟨Or.inl rfl, ⟨Or.inl rfl, trivial⟩⟩⟩⟩⟩⟩⟩) h)
            exact aX_seg 3 (fun n g => g) (aX_callv (rfl) rfl rfl rfl k5 h2)
          exact aX_seg 5 (fun n g => ip cc (g)) t4
        · replace h := h.2 cc
          have t6 : aX xc_165 (aSeek xc_165 15) [aR 1, aI a1, aU, aU, aU, aU, aU] [] (SH L) M o := by
            subst h
            exact ⟨2, rfl⟩
          exact aX_seg 5 (fun n g => in_ cc (g)) t6
      exact aX_seg 2 (fun n g => in_ cc (g)) t3
  exact q
set_option maxRecDepth 100000 in
theorem bl_165_33 {L : Nat} {a2 a3 a4 : Int} {M : aM} {o : aO} (h : (aK (SH L) (M 1 3) = 19) ∧ (((M (M 1 3) 3) ≤ a4 → o = ([aI a3], (SH L), M)) ∧ (¬ ((M (M 1 3) 3) ≤ a4) → (∃ (M1 : aM), aE 162 [aR 138, aI a4] (SH L) M ([], (SH L), M1) ∧ aX xc_165 (aSeek xc_165 60) [aR 1, aU, aI a2, aI a3, aI a4, aI 0, aI 0] [] (SH L) M1 o)))) : aX xc_165 (aSeek xc_165 33) [aR 1, aU, aI a2, aI a3, aI a4, aU, aU] [] (SH L) M o := by
  obtain ⟨c2, h⟩ := h
  by_cases cc : (M (M 1 3) 3) ≤ a4
  · replace h := h.1 cc
    have t3 : aX xc_165 (aSeek xc_165 115) [aR 1, aU, aI a2, aI a3, aI a4, aU, aU] [] (SH L) M o := by
      subst h
      exact ⟨2, rfl⟩
    exact aX_seg 5 (fun n g => ip c2 (ip cc (g))) t3
  · replace h := h.2 cc
    have t4 : aX xc_165 (aSeek xc_165 45) [aR 1, aU, aI a2, aI a3, aI a4, aU, aU] [] (SH L) M o := by
      obtain ⟨M1, k5, h⟩ := h
      have h2 : aX xc_165 (aSeek xc_165 54) [aR 1, aU, aI a2, aI a3, aI a4, aU, aU] [] (SH L) M1 o := by
        exact aX_seg 4 (fun n g => g) (h)
      exact aX_seg 3 (fun n g => g) (aX_callv (rfl) rfl rfl rfl k5 h2)
    exact aX_seg 5 (fun n g => ip c2 (in_ cc (g))) t4
set_option maxRecDepth 100000 in
theorem bl_165_60 {L : Nat} {a2 a3 a4 a5 a6 : Int} {M : aM} {o : aO} (h : ((100 ≤ a6 → ((a5 ≤ a2 → aX xc_165 (aSeek xc_165 109) [aR 1, aU, aI a2, aI a3, aI a4, aU, aU] [] (SH L) M o) ∧ (¬ (a5 ≤ a2) → aX xc_165 (aSeek xc_165 109) [aR 1, aU, aI a5, aI a4, aI a4, aU, aU] [] (SH L) M o))) ∧ (¬ (100 ≤ a6) → (aK (SH L) (M 1 3) = 19) ∧ (0 ≤ a4 ∧ a4 < aLn (SH L) 1 (aF (SH L) (M 1 3) 8)) ∧ (∃ (M1 : aM) (v2 : Int), aE 163 [aR 138, aI a6, aI (M (aF (SH L) (M 1 3) 8) a4)] (SH L) M ([aI v2], (SH L), M1) ∧ aX xc_165 (aSeek xc_165 60) [aR 1, aU, aI a2, aI a3, aI a4, aI (aW (a5 + v2)), aI (aW (a6 + 1))] [] (SH L) M1 o)))) : aX xc_165 (aSeek xc_165 60) [aR 1, aU, aI a2, aI a3, aI a4, aI a5, aI a6] [] (SH L) M o := by
  by_cases cc : 100 ≤ a6
  · replace h := h.1 cc
    have t3 : aX xc_165 (aSeek xc_165 97) [aR 1, aU, aI a2, aI a3, aI a4, aI a5, aI a6] [] (SH L) M o := by
      by_cases cc : a5 ≤ a2
      · replace h := h.1 cc
        have t4 : aX xc_165 (aSeek xc_165 109) [aR 1, aU, aI a2, aI a3, aI a4, aI a5, aI a6] [] (SH L) M o := by
          exact aX_le (ls := [aR 1, aU, aI a2, aI a3, aI a4, aU, aU]) (ls1 := [aR 1, aU, aI a2, aI a3, aI a4, aI a5, aI a6]) (⟨Or.inr rfl, ⟨Or.inl rfl, ⟨Or.inr rfl, ⟨Or.inr rfl, ⟨Or.inr rfl, ⟨Or.inl rfl, ⟨Or.inl rfl, trivial⟩⟩⟩⟩⟩⟩⟩) h
        exact aX_seg 3 (fun n g => ip cc (g)) t4
      · replace h := h.2 cc
        have t5 : aX xc_165 (aSeek xc_165 103) [aR 1, aU, aI a2, aI a3, aI a4, aI a5, aI a6] [] (SH L) M o := by
          exact aX_seg 4 (fun n g => g) (aX_le (ls := [aR 1, aU, aI a5, aI a4, aI a4, aU, aU]) (ls1 := [aR 1, aU, aI a5, aI a4, aI a4, aI a5, aI a6]) (⟨Or.inr rfl, ⟨Or.inl rfl, ⟨Or.inr rfl, ⟨Or.inr rfl, ⟨Or.inr rfl, ⟨Or.inl rfl, ⟨Or.inl rfl, trivial⟩⟩⟩⟩⟩⟩⟩) h)
        exact aX_seg 3 (fun n g => in_ cc (g)) t5
    exact aX_seg 3 (fun n g => ip cc (g)) t3
  · replace h := h.2 cc
    have t6 : aX xc_165 (aSeek xc_165 67) [aR 1, aU, aI a2, aI a3, aI a4, aI a5, aI a6] [] (SH L) M o := by
      obtain ⟨c7, h⟩ := h
      obtain ⟨c8, h⟩ := h
      obtain ⟨M1, v2, k9, h⟩ := h
      have h2 : aX xc_165 (aSeek xc_165 88) [aR 1, aU, aI a2, aI a3, aI a4, aI a5, aI a6] [aI v2, aI a5] (SH L) M1 o := by
        exact aX_seg 4 (fun n g => g) (h)
      exact aX_seg 9 (fun n g => ip c7 (ip c8 (g))) (aX_callv (rfl) rfl rfl rfl k9 h2)
    exact aX_seg 3 (fun n g => in_ cc (g)) t6
set_option maxRecDepth 100000 in
theorem bl_165_109 {L : Nat} {a2 a3 a4 : Int} {M : aM} {o : aO} (h : aX xc_165 (aSeek xc_165 33) [aR 1, aU, aI a2, aI a3, aI (aW (a4 + 1)), aU, aU] [] (SH L) M o) : aX xc_165 (aSeek xc_165 109) [aR 1, aU, aI a2, aI a3, aI a4, aU, aU] [] (SH L) M o := by
  exact aX_seg 2 (fun n g => g) (h)
/- TypeLock.spotOf(II)I -/
set_option maxRecDepth 100000 in
theorem en_166 {L : Nat} {a0 a1 : Int} {M : aM} {o : aO} (h : aX xc_166 (aSeek xc_166 26) [aU, aU, aI (aDiv a1 2), aI 0, aI 0, aI 1, aI 1, aI (aRem a1 2), aI 0, aI a0, aU, aU] [] (SH L) M o) : aE 166 [aI a0, aI a1] (SH L) M o := by
  have q : aX xc_166 (aSeek xc_166 0) [aI a0, aI a1, aU, aU, aU, aU, aU, aU, aU, aU, aU, aU] [] (SH L) M o := by
    exact aX_seg 20 (fun n g => g) (aX_le (ls := [aU, aU, aI (aDiv a1 2), aI 0, aI 0, aI 1, aI 1, aI (aRem a1 2), aI 0, aI a0, aU, aU]) (ls1 := [aI a0, aI a1, aI (aDiv a1 2), aI 0, aI 0, aI 1, aI 1, aI (aRem a1 2), aI 0, aI a0, aU, aU]) (⟨Or.inl rfl, ⟨Or.inl rfl, ⟨Or.inr rfl, ⟨Or.inr rfl, ⟨Or.inr rfl, ⟨Or.inr rfl, ⟨Or.inr rfl, ⟨Or.inr rfl, ⟨Or.inr rfl, ⟨Or.inr rfl, ⟨Or.inl rfl, ⟨Or.inl rfl, trivial⟩⟩⟩⟩⟩⟩⟩⟩⟩⟩⟩⟩) h)
  exact q
set_option maxRecDepth 100000 in
theorem bl_166_26 {L : Nat} {a2 a3 a4 a5 a6 a7 a8 a9 : Int} {M : aM} {o : aO} (h : ((a9 < 1 → o = ([aI (aW ((aW ((aW (a3 + (aW (8 * a4)))) + (aW (64 * a7)))) + (aW (128 * a8))))], (SH L), M)) ∧ (¬ (a9 < 1) → ((¬ (aRem a9 2) = 1 → aX xc_166 (aSeek xc_166 45) [aU, aU, aI a2, aI a3, aI a4, aI a5, aI a6, aI a7, aI a8, aI a9, aU, aU] [aI 0] (SH L) M o) ∧ (¬ (¬ (aRem a9 2) = 1) → aX xc_166 (aSeek xc_166 45) [aU, aU, aI a2, aI a3, aI a4, aI a5, aI a6, aI a7, aI a8, aI a9, aU, aU] [aI 1] (SH L) M o))))) : aX xc_166 (aSeek xc_166 26) [aU, aU, aI a2, aI a3, aI a4, aI a5, aI a6, aI a7, aI a8, aI a9, aU, aU] [] (SH L) M o := by
  by_cases cc : a9 < 1
  · replace h := h.1 cc
    have t1 : aX xc_166 (aSeek xc_166 142) [aU, aU, aI a2, aI a3, aI a4, aI a5, aI a6, aI a7, aI a8, aI a9, aU, aU] [] (SH L) M o := by
      subst h
      exact ⟨14, rfl⟩
    exact aX_seg 3 (fun n g => ip cc (g)) t1
  · replace h := h.2 cc
    have t2 : aX xc_166 (aSeek xc_166 32) [aU, aU, aI a2, aI a3, aI a4, aI a5, aI a6, aI a7, aI a8, aI a9, aU, aU] [] (SH L) M o := by
      by_cases cc : ¬ (aRem a9 2) = 1
      · replace h := h.1 cc
        have t3 : aX xc_166 (aSeek xc_166 44) [aU, aU, aI a2, aI a3, aI a4, aI a5, aI a6, aI a7, aI a8, aI a9, aU, aU] [] (SH L) M o := by
          exact aX_seg 1 (fun n g => g) (h)
        exact aX_seg 5 (fun n g => ip cc (g)) t3
      · replace h := h.2 cc
        have t4 : aX xc_166 (aSeek xc_166 40) [aU, aU, aI a2, aI a3, aI a4, aI a5, aI a6, aI a7, aI a8, aI a9, aU, aU] [] (SH L) M o := by
          exact aX_seg 2 (fun n g => g) (h)
        exact aX_seg 5 (fun n g => in_ cc (g)) t4
    exact aX_seg 3 (fun n g => in_ cc (g)) t2
set_option maxRecDepth 100000 in
theorem bl_166_45 {L : Nat} {a2 a3 a4 a5 a6 a7 a8 a9 b0 : Int} {M : aM} {o : aO} (h : ((b0 = 0 → aX xc_166 (aSeek xc_166 61) [aU, aU, aI a2, aI a3, aI a4, aU, aI a6, aI a7, aI a8, aI a9, aI b0, aU] [aI a5] (SH L) M o) ∧ (¬ (b0 = 0) → aX xc_166 (aSeek xc_166 61) [aU, aU, aI a2, aI a3, aI a4, aU, aI a6, aI a7, aI a8, aI a9, aI b0, aU] [aI (aW (2 * a5))] (SH L) M o))) : aX xc_166 (aSeek xc_166 45) [aU, aU, aI a2, aI a3, aI a4, aI a5, aI a6, aI a7, aI a8, aI a9, aU, aU] [aI b0] (SH L) M o := by
  by_cases cc : b0 = 0
  · replace h := h.1 cc
    have t1 : aX xc_166 (aSeek xc_166 59) [aU, aU, aI a2, aI a3, aI a4, aI a5, aI a6, aI a7, aI a8, aI a9, aI b0, aU] [] (SH L) M o := by
      exact aX_seg 1 (fun n g => g) (aX_le (ls := [aU, aU, aI a2, aI a3, aI a4, aU, aI a6, aI a7, aI a8, aI a9, aI b0, aU]) (ls1 := [aU, aU, aI a2, aI a3, aI a4, aI a5, aI a6, aI a7, aI a8, aI a9, aI b0, aU]) (⟨Or.inl rfl, ⟨Or.inl rfl, ⟨Or.inr rfl, ⟨Or.inr rfl, ⟨Or.inr rfl, ⟨Or.inl rfl, ⟨Or.inr rfl, ⟨Or.inr rfl, ⟨Or.inr rfl, ⟨Or.inr rfl, ⟨Or.inr rfl, ⟨Or.inl rfl, trivial⟩⟩⟩⟩⟩⟩⟩⟩⟩⟩⟩⟩) h)
    exact aX_seg 3 (fun n g => ip cc (g)) t1
  · replace h := h.2 cc
    have t2 : aX xc_166 (aSeek xc_166 52) [aU, aU, aI a2, aI a3, aI a4, aI a5, aI a6, aI a7, aI a8, aI a9, aI b0, aU] [] (SH L) M o := by
      exact aX_seg 4 (fun n g => g) (aX_le (ls := [aU, aU, aI a2, aI a3, aI a4, aU, aI a6, aI a7, aI a8, aI a9, aI b0, aU]) (ls1 := [aU, aU, aI a2, aI a3, aI a4, aI a5, aI a6, aI a7, aI a8, aI a9, aI b0, aU]) (⟨Or.inl rfl, ⟨Or.inl rfl, ⟨Or.inr rfl, ⟨Or.inr rfl, ⟨Or.inr rfl, ⟨Or.inl rfl, ⟨Or.inr rfl, ⟨Or.inr rfl, ⟨Or.inr rfl, ⟨Or.inr rfl, ⟨Or.inr rfl, ⟨Or.inl rfl, trivial⟩⟩⟩⟩⟩⟩⟩⟩⟩⟩⟩⟩) h)
    exact aX_seg 3 (fun n g => in_ cc (g)) t2
set_option maxRecDepth 100000 in
theorem bl_166_61 {L : Nat} {a2 a3 a4 a6 a7 a8 a9 a10 b0 : Int} {M : aM} {o : aO} (h : ((a10 = 0 → aX xc_166 (aSeek xc_166 77) [aU, aU, aI a2, aI a3, aI a4, aI b0, aU, aI a7, aI a8, aI a9, aI a10, aU] [aI (aW (2 * a6))] (SH L) M o) ∧ (¬ (a10 = 0) → aX xc_166 (aSeek xc_166 77) [aU, aU, aI a2, aI a3, aI a4, aI b0, aU, aI a7, aI a8, aI a9, aI a10, aU] [aI a6] (SH L) M o))) : aX xc_166 (aSeek xc_166 61) [aU, aU, aI a2, aI a3, aI a4, aU, aI a6, aI a7, aI a8, aI a9, aI a10, aU] [aI b0] (SH L) M o := by
  by_cases cc : a10 = 0
  · replace h := h.1 cc
    have t1 : aX xc_166 (aSeek xc_166 73) [aU, aU, aI a2, aI a3, aI a4, aI b0, aI a6, aI a7, aI a8, aI a9, aI a10, aU] [] (SH L) M o := by
      exact aX_seg 3 (fun n g => g) (aX_le (ls := [aU, aU, aI a2, aI a3, aI a4, aI b0, aU, aI a7, aI a8, aI a9, aI a10, aU]) (ls1 := [aU, aU, aI a2, aI a3, aI a4, aI b0, aI a6, aI a7, aI a8, aI a9, aI a10, aU]) (⟨Or.inl rfl, ⟨Or.inl rfl, ⟨Or.inr rfl, ⟨Or.inr rfl, ⟨Or.inr rfl, ⟨Or.inr rfl, ⟨Or.inl rfl, ⟨Or.inr rfl, ⟨Or.inr rfl, ⟨Or.inr rfl, ⟨Or.inr rfl, ⟨Or.inl rfl, trivial⟩⟩⟩⟩⟩⟩⟩⟩⟩⟩⟩⟩) h)
    exact aX_seg 3 (fun n g => ip cc (g)) t1
  · replace h := h.2 cc
    have t2 : aX xc_166 (aSeek xc_166 68) [aU, aU, aI a2, aI a3, aI a4, aI b0, aI a6, aI a7, aI a8, aI a9, aI a10, aU] [] (SH L) M o := by
      exact aX_seg 2 (fun n g => g) (aX_le (ls := [aU, aU, aI a2, aI a3, aI a4, aI b0, aU, aI a7, aI a8, aI a9, aI a10, aU]) (ls1 := [aU, aU, aI a2, aI a3, aI a4, aI b0, aI a6, aI a7, aI a8, aI a9, aI a10, aU]) (⟨Or.inl rfl, ⟨Or.inl rfl, ⟨Or.inr rfl, ⟨Or.inr rfl, ⟨Or.inr rfl, ⟨Or.inr rfl, ⟨Or.inl rfl, ⟨Or.inr rfl, ⟨Or.inr rfl, ⟨Or.inr rfl, ⟨Or.inr rfl, ⟨Or.inl rfl, trivial⟩⟩⟩⟩⟩⟩⟩⟩⟩⟩⟩⟩) h)
    exact aX_seg 3 (fun n g => in_ cc (g)) t2
set_option maxRecDepth 100000 in
theorem bl_166_77 {L : Nat} {a2 a3 a4 a5 a7 a8 a9 a10 b0 : Int} {M : aM} {o : aO} (h : ((a2 < (aDiv (aShl 1 a9) 2) → aX xc_166 (aSeek xc_166 136) [aU, aU, aI a2, aI a3, aI a4, aI a5, aI b0, aI a7, aI a8, aI a9, aU, aU] [] (SH L) M o) ∧ (¬ (a2 < (aDiv (aShl 1 a9) 2)) → ((a10 = 0 → aX xc_166 (aSeek xc_166 136) [aU, aU, aI (aW ((aW ((aShl 1 a9) - 1)) - a2)), aI a3, aI (aW ((aW (b0 - 1)) - a4)), aI a5, aI b0, aI (aW (1 - a7)), aI (aW (1 - a8)), aI a9, aU, aU] [] (SH L) M o) ∧ (¬ (a10 = 0) → aX xc_166 (aSeek xc_166 136) [aU, aU, aI (aW ((aW ((aShl 1 a9) - 1)) - a2)), aI (aW ((aW (a5 - 1)) - a3)), aI a4, aI a5, aI b0, aI (aW (1 - a7)), aI a8, aI a9, aU, aU] [] (SH L) M o))))) : aX xc_166 (aSeek xc_166 77) [aU, aU, aI a2, aI a3, aI a4, aI a5, aU, aI a7, aI a8, aI a9, aI a10, aU] [aI b0] (SH L) M o := by
  by_cases cc : a2 < (aDiv (aShl 1 a9) 2)
  · replace h := h.1 cc
    have t1 : aX xc_166 (aSeek xc_166 136) [aU, aU, aI a2, aI a3, aI a4, aI a5, aI b0, aI a7, aI a8, aI a9, aI a10, aI (aShl 1 a9)] [] (SH L) M o := by
      exact aX_le (ls := [aU, aU, aI a2, aI a3, aI a4, aI a5, aI b0, aI a7, aI a8, aI a9, aU, aU]) (ls1 := [aU, aU, aI a2, aI a3, aI a4, aI a5, aI b0, aI a7, aI a8, aI a9, aI a10, aI (aShl 1 a9)]) (⟨Or.inl rfl, ⟨Or.inl rfl, ⟨Or.inr rfl, ⟨Or.inr rfl, ⟨Or.inr rfl, ⟨Or.inr rfl, ⟨Or.inr rfl, ⟨Or.inr rfl, ⟨Or.inr rfl, ⟨Or.inr rfl, ⟨Or.inl rfl, ⟨Or.inl rfl, trivial⟩⟩⟩⟩⟩⟩⟩⟩⟩⟩⟩⟩) h
    exact aX_seg 10 (fun n g => ip cc (g)) t1
  · replace h := h.2 cc
    have t2 : aX xc_166 (aSeek xc_166 93) [aU, aU, aI a2, aI a3, aI a4, aI a5, aI b0, aI a7, aI a8, aI a9, aI a10, aI (aShl 1 a9)] [] (SH L) M o := by
      by_cases cc : a10 = 0
      · replace h := h.1 cc
        have t3 : aX xc_166 (aSeek xc_166 121) [aU, aU, aI (aW ((aW ((aShl 1 a9) - 1)) - a2)), aI a3, aI a4, aI a5, aI b0, aI (aW (1 - a7)), aI a8, aI a9, aI a10, aI (aShl 1 a9)] [] (SH L) M o := by
          exact aX_seg 10 (fun n g => g) (aX_le (ls := [aU, aU, aI (aW ((aW ((aShl 1 a9) - 1)) - a2)), aI a3, aI (aW ((aW (b0 - 1)) - a4)), aI a5, aI b0, aI (aW (1 - a7)), aI (aW (1 - a8)), aI a9, aU, aU]) (ls1 := [aU, aU, aI (aW ((aW ((aShl 1 a9) - 1)) - a2)), aI a3, aI (aW ((aW (b0 - 1)) - a4)), aI a5, aI b0, aI (aW (1 - a7)), aI (aW (1 - a8)), aI a9, aI a10, aI (aShl 1 a9)]) (⟨Or.inl rfl, ⟨Or.inl rfl, ⟨Or.inr rfl, ⟨Or.inr rfl, ⟨Or.inr rfl, ⟨Or.inr rfl, ⟨Or.inr rfl, ⟨Or.inr rfl, ⟨Or.inr rfl, ⟨Or.inr rfl, ⟨Or.inl rfl, ⟨Or.inl rfl, trivial⟩⟩⟩⟩⟩⟩⟩⟩⟩⟩⟩⟩) h)
        exact aX_seg 12 (fun n g => ip cc (g)) t3
      · replace h := h.2 cc
        have t4 : aX xc_166 (aSeek xc_166 111) [aU, aU, aI (aW ((aW ((aShl 1 a9) - 1)) - a2)), aI a3, aI a4, aI a5, aI b0, aI (aW (1 - a7)), aI a8, aI a9, aI a10, aI (aShl 1 a9)] [] (SH L) M o := by
          exact aX_seg 7 (fun n g => g) (aX_le (ls := [aU, aU, aI (aW ((aW ((aShl 1 a9) - 1)) - a2)), aI (aW ((aW (a5 - 1)) - a3)), aI a4, aI a5, aI b0, aI (aW (1 - a7)), aI a8, aI a9, aU, aU]) (ls1 := [aU, aU, aI (aW ((aW ((aShl 1 a9) - 1)) - a2)), aI (aW ((aW (a5 - 1)) - a3)), aI a4, aI a5, aI b0, aI (aW (1 - a7)), aI a8, aI a9, aI a10, aI (aShl 1 a9)]) (⟨Or.inl rfl, ⟨Or.inl rfl, ⟨Or.inr rfl, ⟨Or.inr rfl, ⟨Or.inr rfl, ⟨Or.inr rfl, ⟨Or.inr rfl, ⟨Or.inr rfl, ⟨Or.inr rfl, ⟨Or.inr rfl, ⟨Or.inl rfl, ⟨Or.inl rfl, trivial⟩⟩⟩⟩⟩⟩⟩⟩⟩⟩⟩⟩) h)
        exact aX_seg 12 (fun n g => in_ cc (g)) t4
    exact aX_seg 10 (fun n g => in_ cc (g)) t2
set_option maxRecDepth 100000 in
theorem bl_166_136 {L : Nat} {a2 a3 a4 a5 a6 a7 a8 a9 : Int} {M : aM} {o : aO} (h : aX xc_166 (aSeek xc_166 26) [aU, aU, aI a2, aI a3, aI a4, aI a5, aI a6, aI a7, aI a8, aI (aW (a9 + (-1))), aU, aU] [] (SH L) M o) : aX xc_166 (aSeek xc_166 136) [aU, aU, aI a2, aI a3, aI a4, aI a5, aI a6, aI a7, aI a8, aI a9, aU, aU] [] (SH L) M o := by
  exact aX_seg 2 (fun n g => g) (h)
/- TypeLock.page(III)I -/
set_option maxRecDepth 100000 in
theorem en_167 {L : Nat} {a1 a2 a3 : Int} {M : aM} {o : aO} (h : ((a1 < 0 → o = ([aI ((-1))], (SH L), M)) ∧ (¬ (a1 < 0) → ((4 < a1 → o = ([aI ((-1))], (SH L), M)) ∧ (¬ (4 < a1) → ((a2 < 0 → o = ([aI ((-1))], (SH L), M)) ∧ (¬ (a2 < 0) → ((a2 < (aShl 2 a1) → (∃ (M1 : aM) (v2 : Int), aE 166 [aI a1, aI a2] (SH L) M ([aI v2], (SH L), M1) ∧ ((a3 = 0 → o = ([aI (aAnd v2 7)], (SH L), M1)) ∧ (a3 = 1 → o = ([aI (aAnd (aShr v2 3) 7)], (SH L), M1)) ∧ (a3 = 2 → o = ([aI (aAnd (aShr v2 6) 1)], (SH L), M1)) ∧ (a3 = 3 → o = ([aI (aShr v2 7)], (SH L), M1)) ∧ (¬ a3 = 0 → ¬ a3 = 1 → ¬ a3 = 2 → ¬ a3 = 3 → o = ([aI ((-1))], (SH L), M1))))) ∧ (¬ (a2 < (aShl 2 a1)) → o = ([aI ((-1))], (SH L), M)))))))))) : aE 167 [aR 1, aI a1, aI a2, aI a3] (SH L) M o := by
  have q : aX xc_167 (aSeek xc_167 0) [aR 1, aI a1, aI a2, aI a3, aU] [] (SH L) M o := by
    by_cases cc : a1 < 0
    · replace h := h.1 cc
      have t3 : aX xc_167 (aSeek xc_167 20) [aR 1, aI a1, aI a2, aI a3, aU] [] (SH L) M o := by
        subst h
        exact ⟨2, rfl⟩
      exact aX_seg 2 (fun n g => ip cc (g)) t3
    · replace h := h.2 cc
      have t4 : aX xc_167 (aSeek xc_167 4) [aR 1, aI a1, aI a2, aI a3, aU] [] (SH L) M o := by
        by_cases cc : 4 < a1
        · replace h := h.1 cc
          have t5 : aX xc_167 (aSeek xc_167 20) [aR 1, aI a1, aI a2, aI a3, aU] [] (SH L) M o := by
            subst h
            exact ⟨2, rfl⟩
          exact aX_seg 3 (fun n g => ip cc (g)) t5
        · replace h := h.2 cc
          have t6 : aX xc_167 (aSeek xc_167 9) [aR 1, aI a1, aI a2, aI a3, aU] [] (SH L) M o := by
            by_cases cc : a2 < 0
            · replace h := h.1 cc
              have t7 : aX xc_167 (aSeek xc_167 20) [aR 1, aI a1, aI a2, aI a3, aU] [] (SH L) M o := by
                subst h
                exact ⟨2, rfl⟩
              exact aX_seg 2 (fun n g => ip cc (g)) t7
            · replace h := h.2 cc
              have t8 : aX xc_167 (aSeek xc_167 13) [aR 1, aI a1, aI a2, aI a3, aU] [] (SH L) M o := by
                by_cases cc : a2 < (aShl 2 a1)
                · replace h := h.1 cc
                  have t9 : aX xc_167 (aSeek xc_167 22) [aR 1, aI a1, aI a2, aI a3, aU] [] (SH L) M o := by
                    obtain ⟨M1, v2, k10, h⟩ := h
                    have h2 : aX xc_167 (aSeek xc_167 27) [aR 1, aI a1, aI a2, aI a3, aU] [aI v2] (SH L) M1 o := by
                      by_cases cc0 : a3 = 0
                      · replace h := h.1 cc0
                        have ee : aTab 0 3 58 #[30, 36, 44, 52] a3 = 30 := by rw [cc0]; rfl
                        have t11 : aX xc_167 (aSeek xc_167 60) [aR 1, aI a1, aI a2, aI a3, aI v2] [] (SH L) M1 o := by
                          subst h
                          exact ⟨4, rfl⟩
                        exact aX_seg 3 (fun n g => (congrArg (fun tt => aRun tgT gP n xc_167 (aSeek xc_167 (aTo 30 tt)) [aR 1, aI a1, aI a2, aI a3, aI v2] [] (SH L) M1) ee).trans g) t11
                      by_cases cc1 : a3 = 1
                      · replace h := h.2.1 cc1
                        have ee : aTab 0 3 58 #[30, 36, 44, 52] a3 = 36 := by rw [cc1]; rfl
                        have t12 : aX xc_167 (aSeek xc_167 66) [aR 1, aI a1, aI a2, aI a3, aI v2] [] (SH L) M1 o := by
                          subst h
                          exact ⟨6, rfl⟩
                        exact aX_seg 3 (fun n g => (congrArg (fun tt => aRun tgT gP n xc_167 (aSeek xc_167 (aTo 30 tt)) [aR 1, aI a1, aI a2, aI a3, aI v2] [] (SH L) M1) ee).trans g) t12
                      by_cases cc2 : a3 = 2
                      · replace h := h.2.2.1 cc2
                        have ee : aTab 0 3 58 #[30, 36, 44, 52] a3 = 44 := by rw [cc2]; rfl
                        have t13 : aX xc_167 (aSeek xc_167 74) [aR 1, aI a1, aI a2, aI a3, aI v2] [] (SH L) M1 o := by
                          subst h
                          exact ⟨6, rfl⟩
                        exact aX_seg 3 (fun n g => (congrArg (fun tt => aRun tgT gP n xc_167 (aSeek xc_167 (aTo 30 tt)) [aR 1, aI a1, aI a2, aI a3, aI v2] [] (SH L) M1) ee).trans g) t13
                      by_cases cc3 : a3 = 3
                      · replace h := h.2.2.2.1 cc3
                        have ee : aTab 0 3 58 #[30, 36, 44, 52] a3 = 52 := by rw [cc3]; rfl
                        have t14 : aX xc_167 (aSeek xc_167 82) [aR 1, aI a1, aI a2, aI a3, aI v2] [] (SH L) M1 o := by
                          subst h
                          exact ⟨4, rfl⟩
                        exact aX_seg 3 (fun n g => (congrArg (fun tt => aRun tgT gP n xc_167 (aSeek xc_167 (aTo 30 tt)) [aR 1, aI a1, aI a2, aI a3, aI v2] [] (SH L) M1) ee).trans g) t14
                      replace h := h.2.2.2.2 cc0 cc1 cc2 cc3
                      have ee : aTab 0 3 58 #[30, 36, 44, 52] a3 = 58 := by unfold aTab; rw [if_pos (by omega)]
                      have t15 : aX xc_167 (aSeek xc_167 88) [aR 1, aI a1, aI a2, aI a3, aI v2] [] (SH L) M1 o := by
                        subst h
                        exact ⟨2, rfl⟩
                      exact aX_seg 3 (fun n g => (congrArg (fun tt => aRun tgT gP n xc_167 (aSeek xc_167 (aTo 30 tt)) [aR 1, aI a1, aI a2, aI a3, aI v2] [] (SH L) M1) ee).trans g) t15
                    exact aX_seg 2 (fun n g => g) (aX_calls rfl rfl rfl k10 h2)
                  exact aX_seg 5 (fun n g => ip cc (g)) t9
                · replace h := h.2 cc
                  have t16 : aX xc_167 (aSeek xc_167 20) [aR 1, aI a1, aI a2, aI a3, aU] [] (SH L) M o := by
                    subst h
                    exact ⟨2, rfl⟩
                  exact aX_seg 5 (fun n g => in_ cc (g)) t16
              exact aX_seg 2 (fun n g => in_ cc (g)) t8
          exact aX_seg 3 (fun n g => in_ cc (g)) t6
      exact aX_seg 2 (fun n g => in_ cc (g)) t4
  exact q
/- TypeLock.lies(IIII)I -/
set_option maxRecDepth 100000 in
theorem en_168 {L : Nat} {a1 a2 a3 a4 : Int} {M : aM} {o : aO} (h : ((a1 < 0 → o = ([aI ((-1))], (SH L), M)) ∧ (¬ (a1 < 0) → ((4 < a1 → o = ([aI ((-1))], (SH L), M)) ∧ (¬ (4 < a1) → ((a2 < 0 → o = ([aI ((-1))], (SH L), M)) ∧ (¬ (a2 < 0) → ((a3 < 0 → o = ([aI ((-1))], (SH L), M)) ∧ (¬ (a3 < 0) → ((a4 < 0 → o = ([aI ((-1))], (SH L), M)) ∧ (¬ (a4 < 0) → ((1 < a4 → o = ([aI ((-1))], (SH L), M)) ∧ (¬ (1 < a4) → (((aShl 1 (aDiv (aW (a1 + 1)) 2)) ≤ a2 → o = ([aI ((-1))], (SH L), M)) ∧ (¬ ((aShl 1 (aDiv (aW (a1 + 1)) 2)) ≤ a2) → ((a3 < (aShl 1 (aDiv a1 2)) → aX xc_168 (aSeek xc_168 53) [aU, aI a1, aI a2, aI a3, aI a4, aI 0] [] (SH L) M o) ∧ (¬ (a3 < (aShl 1 (aDiv a1 2))) → o = ([aI ((-1))], (SH L), M)))))))))))))))))) : aE 168 [aR 1, aI a1, aI a2, aI a3, aI a4] (SH L) M o := by
  have q : aX xc_168 (aSeek xc_168 0) [aR 1, aI a1, aI a2, aI a3, aI a4, aU] [] (SH L) M o := by
    by_cases cc : a1 < 0
    · replace h := h.1 cc
      have t1 : aX xc_168 (aSeek xc_168 48) [aR 1, aI a1, aI a2, aI a3, aI a4, aU] [] (SH L) M o := by
        subst h
        exact ⟨2, rfl⟩
      exact aX_seg 2 (fun n g => ip cc (g)) t1
    · replace h := h.2 cc
      have t2 : aX xc_168 (aSeek xc_168 4) [aR 1, aI a1, aI a2, aI a3, aI a4, aU] [] (SH L) M o := by
        by_cases cc : 4 < a1
        · replace h := h.1 cc
          have t3 : aX xc_168 (aSeek xc_168 48) [aR 1, aI a1, aI a2, aI a3, aI a4, aU] [] (SH L) M o := by
            subst h
            exact ⟨2, rfl⟩
          exact aX_seg 3 (fun n g => ip cc (g)) t3
        · replace h := h.2 cc
          have t4 : aX xc_168 (aSeek xc_168 9) [aR 1, aI a1, aI a2, aI a3, aI a4, aU] [] (SH L) M o := by
            by_cases cc : a2 < 0
            · replace h := h.1 cc
              have t5 : aX xc_168 (aSeek xc_168 48) [aR 1, aI a1, aI a2, aI a3, aI a4, aU] [] (SH L) M o := by
                subst h
                exact ⟨2, rfl⟩
              exact aX_seg 2 (fun n g => ip cc (g)) t5
            · replace h := h.2 cc
              have t6 : aX xc_168 (aSeek xc_168 13) [aR 1, aI a1, aI a2, aI a3, aI a4, aU] [] (SH L) M o := by
                by_cases cc : a3 < 0
                · replace h := h.1 cc
                  have t7 : aX xc_168 (aSeek xc_168 48) [aR 1, aI a1, aI a2, aI a3, aI a4, aU] [] (SH L) M o := by
                    subst h
                    exact ⟨2, rfl⟩
                  exact aX_seg 2 (fun n g => ip cc (g)) t7
                · replace h := h.2 cc
                  have t8 : aX xc_168 (aSeek xc_168 17) [aR 1, aI a1, aI a2, aI a3, aI a4, aU] [] (SH L) M o := by
                    by_cases cc : a4 < 0
                    · replace h := h.1 cc
                      have t9 : aX xc_168 (aSeek xc_168 48) [aR 1, aI a1, aI a2, aI a3, aI a4, aU] [] (SH L) M o := by
                        subst h
                        exact ⟨2, rfl⟩
                      exact aX_seg 2 (fun n g => ip cc (g)) t9
                    · replace h := h.2 cc
                      have t10 : aX xc_168 (aSeek xc_168 22) [aR 1, aI a1, aI a2, aI a3, aI a4, aU] [] (SH L) M o := by
                        by_cases cc : 1 < a4
                        · replace h := h.1 cc
                          have t11 : aX xc_168 (aSeek xc_168 48) [aR 1, aI a1, aI a2, aI a3, aI a4, aU] [] (SH L) M o := by
                            subst h
                            exact ⟨2, rfl⟩
                          exact aX_seg 3 (fun n g => ip cc (g)) t11
                        · replace h := h.2 cc
                          have t12 : aX xc_168 (aSeek xc_168 28) [aR 1, aI a1, aI a2, aI a3, aI a4, aU] [] (SH L) M o := by
                            by_cases cc : (aShl 1 (aDiv (aW (a1 + 1)) 2)) ≤ a2
                            · replace h := h.1 cc
                              have t13 : aX xc_168 (aSeek xc_168 48) [aR 1, aI a1, aI a2, aI a3, aI a4, aU] [] (SH L) M o := by
                                subst h
                                exact ⟨2, rfl⟩
                              exact aX_seg 9 (fun n g => ip cc (g)) t13
                            · replace h := h.2 cc
                              have t14 : aX xc_168 (aSeek xc_168 39) [aR 1, aI a1, aI a2, aI a3, aI a4, aU] [] (SH L) M o := by
                                by_cases cc : a3 < (aShl 1 (aDiv a1 2))
                                · replace h := h.1 cc
                                  have t15 : aX xc_168 (aSeek xc_168 50) [aR 1, aI a1, aI a2, aI a3, aI a4, aU] [] (SH L) M o := by
                                    exact aX_seg 2 (fun n g => g) (aX_le (ls := [aU, aI a1, aI a2, aI a3, aI a4, aI 0]) (ls1 := [aR 1, aI a1, aI a2, aI a3, aI a4, aI 0]) (⟨Or.inl rfl, ⟨Or.inr rfl, ⟨Or.inr rfl, ⟨Or.inr rfl, ⟨Or.inr rfl, ⟨Or.inr rfl, trivial⟩⟩⟩⟩⟩⟩) h)
                                  exact aX_seg 7 (fun n g => ip cc (g)) t15
                                · replace h := h.2 cc
                                  have t16 : aX xc_168 (aSeek xc_168 48) [aR 1, aI a1, aI a2, aI a3, aI a4, aU] [] (SH L) M o := by
                                    subst h
                                    exact ⟨2, rfl⟩
                                  exact aX_seg 7 (fun n g => in_ cc (g)) t16
                              exact aX_seg 9 (fun n g => in_ cc (g)) t14
                          exact aX_seg 3 (fun n g => in_ cc (g)) t12
                      exact aX_seg 2 (fun n g => in_ cc (g)) t10
                  exact aX_seg 2 (fun n g => in_ cc (g)) t8
              exact aX_seg 2 (fun n g => in_ cc (g)) t6
          exact aX_seg 3 (fun n g => in_ cc (g)) t4
      exact aX_seg 2 (fun n g => in_ cc (g)) t2
  exact q
set_option maxRecDepth 100000 in
theorem bl_168_53 {L : Nat} {a1 a2 a3 a4 a5 : Int} {M : aM} {o : aO} (h : (((aShl 2 a1) ≤ a5 → o = ([aI ((-1))], (SH L), M)) ∧ (¬ ((aShl 2 a1) ≤ a5) → (∃ (M1 : aM) (v2 : Int), aE 166 [aI a1, aI a5] (SH L) M ([aI v2], (SH L), M1) ∧ ((¬ (aAnd v2 127) = (aW ((aW (a2 + (aW (8 * a3)))) + (aW (64 * a4)))) → aX xc_168 (aSeek xc_168 53) [aU, aI a1, aI a2, aI a3, aI a4, aI (aW (a5 + 1))] [] (SH L) M1 o) ∧ (¬ (¬ (aAnd v2 127) = (aW ((aW (a2 + (aW (8 * a3)))) + (aW (64 * a4))))) → o = ([aI a5], (SH L), M1))))))) : aX xc_168 (aSeek xc_168 53) [aU, aI a1, aI a2, aI a3, aI a4, aI a5] [] (SH L) M o := by
  by_cases cc : (aShl 2 a1) ≤ a5
  · replace h := h.1 cc
    have t3 : aX xc_168 (aSeek xc_168 94) [aU, aI a1, aI a2, aI a3, aI a4, aI a5] [] (SH L) M o := by
      subst h
      exact ⟨2, rfl⟩
    exact aX_seg 5 (fun n g => ip cc (g)) t3
  · replace h := h.2 cc
    have t4 : aX xc_168 (aSeek xc_168 61) [aU, aI a1, aI a2, aI a3, aI a4, aI a5] [] (SH L) M o := by
      obtain ⟨M1, v2, k5, h⟩ := h
      have h2 : aX xc_168 (aSeek xc_168 67) [aU, aI a1, aI a2, aI a3, aI a4, aI a5] [aI v2] (SH L) M1 o := by
        by_cases cc : ¬ (aAnd v2 127) = (aW ((aW (a2 + (aW (8 * a3)))) + (aW (64 * a4))))
        · replace h := h.1 cc
          have t6 : aX xc_168 (aSeek xc_168 88) [aU, aI a1, aI a2, aI a3, aI a4, aI a5] [] (SH L) M1 o := by
            exact aX_seg 2 (fun n g => g) (h)
          exact aX_seg 12 (fun n g => ip cc (g)) t6
        · replace h := h.2 cc
          have t7 : aX xc_168 (aSeek xc_168 85) [aU, aI a1, aI a2, aI a3, aI a4, aI a5] [] (SH L) M1 o := by
            subst h
            exact ⟨2, rfl⟩
          exact aX_seg 12 (fun n g => in_ cc (g)) t7
      exact aX_seg 2 (fun n g => g) (aX_calls rfl rfl rfl k5 h2)
    exact aX_seg 5 (fun n g => in_ cc (g)) t4
/- TypeLock.isSlot(I)Z -/
set_option maxRecDepth 100000 in
theorem en_169 {L : Nat} {a0 : Int} {M : aM} {o : aO} (h : ((a0 < 0 → o = ([aI 0], (SH L), M)) ∧ (¬ (a0 < 0) → ((3 ≤ a0 → o = ([aI 0], (SH L), M)) ∧ (¬ (3 ≤ a0) → o = ([aI 1], (SH L), M)))))) : aE 169 [aI a0] (SH L) M o := by
  have q : aX xc_169 (aSeek xc_169 0) [aI a0] [] (SH L) M o := by
    by_cases cc : a0 < 0
    · replace h := h.1 cc
      have t1 : aX xc_169 (aSeek xc_169 13) [aI a0] [] (SH L) M o := by
        subst h
        exact ⟨2, rfl⟩
      exact aX_seg 2 (fun n g => ip cc (g)) t1
    · replace h := h.2 cc
      have t2 : aX xc_169 (aSeek xc_169 4) [aI a0] [] (SH L) M o := by
        by_cases cc : 3 ≤ a0
        · replace h := h.1 cc
          have t3 : aX xc_169 (aSeek xc_169 13) [aI a0] [] (SH L) M o := by
            subst h
            exact ⟨2, rfl⟩
          exact aX_seg 3 (fun n g => ip cc (g)) t3
        · replace h := h.2 cc
          have t4 : aX xc_169 (aSeek xc_169 9) [aI a0] [] (SH L) M o := by
            subst h
            exact ⟨3, rfl⟩
          exact aX_seg 3 (fun n g => in_ cc (g)) t4
      exact aX_seg 2 (fun n g => in_ cc (g)) t2
  exact q
/- TypeLock$Bed.hasAlike(IIIZ)Z -/
set_option maxRecDepth 100000 in
theorem en_170 {L : Nat} {a0 a1 a2 a3 a4 : Int} {M : aM} {o : aO} (h : aX xc_170 (aSeek xc_170 3) [aR a0, aI a1, aI a2, aI a3, aI a4, aI 0] [] (SH L) M o) : aE 170 [aR a0, aI a1, aI a2, aI a3, aI a4] (SH L) M o := by
  have q : aX xc_170 (aSeek xc_170 0) [aR a0, aI a1, aI a2, aI a3, aI a4, aU] [] (SH L) M o := by
    exact aX_seg 2 (fun n g => g) (h)
  exact q
set_option maxRecDepth 100000 in
theorem bl_170_3 {L : Nat} {a0 a1 a2 a3 a4 a5 : Int} {M : aM} {o : aO} (h : (aK (SH L) a0 = 10) ∧ (((M a0 0) ≤ a5 → o = ([aI 0], (SH L), M)) ∧ (¬ ((M a0 0) ≤ a5) → (aK (SH L) a0 = 10) ∧ (0 ≤ a5 ∧ a5 < aLn (SH L) 1 (aF (SH L) a0 1)) ∧ ((¬ (M (aF (SH L) a0 1) a5) = a1 → aX xc_170 (aSeek xc_170 59) [aR a0, aI a1, aI a2, aI a3, aI a4, aI a5] [] (SH L) M o) ∧ (¬ (¬ (M (aF (SH L) a0 1) a5) = a1) → (aK (SH L) a0 = 10) ∧ (0 ≤ a5 ∧ a5 < aLn (SH L) 1 (aF (SH L) a0 3)) ∧ ((¬ (M (aF (SH L) a0 3) a5) = a2 → aX xc_170 (aSeek xc_170 59) [aR a0, aI a1, aI a2, aI a3, aI a4, aI a5] [] (SH L) M o) ∧ (¬ (¬ (M (aF (SH L) a0 3) a5) = a2) → (aK (SH L) a0 = 10) ∧ (0 ≤ a5 ∧ a5 < aLn (SH L) 1 (aF (SH L) a0 4)) ∧ ((¬ (M (aF (SH L) a0 4) a5) = a3 → aX xc_170 (aSeek xc_170 59) [aR a0, aI a1, aI a2, aI a3, aI a4, aI a5] [] (SH L) M o) ∧ (¬ (¬ (M (aF (SH L) a0 4) a5) = a3) → (aK (SH L) a0 = 10) ∧ (0 ≤ a5 ∧ a5 < aLn (SH L) 4 (aF (SH L) a0 7)) ∧ ((¬ (M (aF (SH L) a0 7) a5) = a4 → aX xc_170 (aSeek xc_170 59) [aR a0, aI a1, aI a2, aI a3, aI a4, aI a5] [] (SH L) M o) ∧ (¬ (¬ (M (aF (SH L) a0 7) a5) = a4) → o = ([aI 1], (SH L), M)))))))))))) : aX xc_170 (aSeek xc_170 3) [aR a0, aI a1, aI a2, aI a3, aI a4, aI a5] [] (SH L) M o := by
  obtain ⟨c1, h⟩ := h
  by_cases cc : (M a0 0) ≤ a5
  · replace h := h.1 cc
    have t2 : aX xc_170 (aSeek xc_170 65) [aR a0, aI a1, aI a2, aI a3, aI a4, aI a5] [] (SH L) M o := by
      subst h
      exact ⟨2, rfl⟩
    exact aX_seg 4 (fun n g => ip c1 (ip cc (g))) t2
  · replace h := h.2 cc
    have t3 : aX xc_170 (aSeek xc_170 12) [aR a0, aI a1, aI a2, aI a3, aI a4, aI a5] [] (SH L) M o := by
      obtain ⟨c4, h⟩ := h
      obtain ⟨c5, h⟩ := h
      by_cases cc : ¬ (M (aF (SH L) a0 1) a5) = a1
      · replace h := h.1 cc
        have t6 : aX xc_170 (aSeek xc_170 59) [aR a0, aI a1, aI a2, aI a3, aI a4, aI a5] [] (SH L) M o := by
          exact h
        exact aX_seg 6 (fun n g => ip c4 (ip c5 (ip cc (g)))) t6
      · replace h := h.2 cc
        have t7 : aX xc_170 (aSeek xc_170 23) [aR a0, aI a1, aI a2, aI a3, aI a4, aI a5] [] (SH L) M o := by
          obtain ⟨c8, h⟩ := h
          obtain ⟨c9, h⟩ := h
          by_cases cc : ¬ (M (aF (SH L) a0 3) a5) = a2
          · replace h := h.1 cc
            have t10 : aX xc_170 (aSeek xc_170 59) [aR a0, aI a1, aI a2, aI a3, aI a4, aI a5] [] (SH L) M o := by
              exact h
            exact aX_seg 6 (fun n g => ip c8 (ip c9 (ip cc (g)))) t10
          · replace h := h.2 cc
            have t11 : aX xc_170 (aSeek xc_170 34) [aR a0, aI a1, aI a2, aI a3, aI a4, aI a5] [] (SH L) M o := by
              obtain ⟨c12, h⟩ := h
              obtain ⟨c13, h⟩ := h
              by_cases cc : ¬ (M (aF (SH L) a0 4) a5) = a3
              · replace h := h.1 cc
                have t14 : aX xc_170 (aSeek xc_170 59) [aR a0, aI a1, aI a2, aI a3, aI a4, aI a5] [] (SH L) M o := by
                  exact h
                exact aX_seg 6 (fun n g => ip c12 (ip c13 (ip cc (g)))) t14
              · replace h := h.2 cc
                have t15 : aX xc_170 (aSeek xc_170 45) [aR a0, aI a1, aI a2, aI a3, aI a4, aI a5] [] (SH L) M o := by
                  obtain ⟨c16, h⟩ := h
                  obtain ⟨c17, h⟩ := h
                  by_cases cc : ¬ (M (aF (SH L) a0 7) a5) = a4
                  · replace h := h.1 cc
                    have t18 : aX xc_170 (aSeek xc_170 59) [aR a0, aI a1, aI a2, aI a3, aI a4, aI a5] [] (SH L) M o := by
                      exact h
                    exact aX_seg 6 (fun n g => ip c16 (ip c17 (ip cc (g)))) t18
                  · replace h := h.2 cc
                    have t19 : aX xc_170 (aSeek xc_170 57) [aR a0, aI a1, aI a2, aI a3, aI a4, aI a5] [] (SH L) M o := by
                      subst h
                      exact ⟨2, rfl⟩
                    exact aX_seg 6 (fun n g => ip c16 (ip c17 (in_ cc (g)))) t19
                exact aX_seg 6 (fun n g => ip c12 (ip c13 (in_ cc (g)))) t15
            exact aX_seg 6 (fun n g => ip c8 (ip c9 (in_ cc (g)))) t11
        exact aX_seg 6 (fun n g => ip c4 (ip c5 (in_ cc (g)))) t7
    exact aX_seg 4 (fun n g => ip c1 (in_ cc (g))) t3
set_option maxRecDepth 100000 in
theorem bl_170_59 {L : Nat} {a0 a1 a2 a3 a4 a5 : Int} {M : aM} {o : aO} (h : aX xc_170 (aSeek xc_170 3) [aR a0, aI a1, aI a2, aI a3, aI a4, aI (aW (a5 + 1))] [] (SH L) M o) : aX xc_170 (aSeek xc_170 59) [aR a0, aI a1, aI a2, aI a3, aI a4, aI a5] [] (SH L) M o := by
  exact aX_seg 2 (fun n g => g) (h)
/- TypeLock$Bed.alikeIn(LTypeLock$Bed;I)I -/
set_option maxRecDepth 100000 in
theorem en_171 {L : Nat} {a0 a1 a2 : Int} {M : aM} {o : aO} (h : aX xc_171 (aSeek xc_171 5) [aR a0, aR a1, aI a2, aI 0, aI 0] [] (SH L) M o) : aE 171 [aR a0, aR a1, aI a2] (SH L) M o := by
  have q : aX xc_171 (aSeek xc_171 0) [aR a0, aR a1, aI a2, aU, aU] [] (SH L) M o := by
    exact aX_seg 4 (fun n g => g) (h)
  exact q
set_option maxRecDepth 100000 in
theorem bl_171_5 {L : Nat} {a0 a1 a2 a3 a4 : Int} {M : aM} {o : aO} (h : (aK (SH L) a0 = 10) ∧ (((M a0 0) ≤ a4 → o = ([aI a3], (SH L), M)) ∧ (¬ ((M a0 0) ≤ a4) → ((a2 = ((-1)) → aX xc_171 (aSeek xc_171 30) [aR a0, aR a1, aI a2, aI a3, aI a4] [] (SH L) M o) ∧ (¬ (a2 = ((-1))) → (aK (SH L) a0 = 10) ∧ (0 ≤ a4 ∧ a4 < aLn (SH L) 1 (aF (SH L) a0 1)) ∧ ((¬ (M (aF (SH L) a0 1) a4) = a2 → aX xc_171 (aSeek xc_171 68) [aR a0, aR a1, aI a2, aI a3, aI a4] [] (SH L) M o) ∧ (¬ (¬ (M (aF (SH L) a0 1) a4) = a2) → aX xc_171 (aSeek xc_171 30) [aR a0, aR a1, aI a2, aI a3, aI a4] [] (SH L) M o))))))) : aX xc_171 (aSeek xc_171 5) [aR a0, aR a1, aI a2, aI a3, aI a4] [] (SH L) M o := by
  obtain ⟨c1, h⟩ := h
  by_cases cc : (M a0 0) ≤ a4
  · replace h := h.1 cc
    have t2 : aX xc_171 (aSeek xc_171 74) [aR a0, aR a1, aI a2, aI a3, aI a4] [] (SH L) M o := by
      subst h
      exact ⟨2, rfl⟩
    exact aX_seg 4 (fun n g => ip c1 (ip cc (g))) t2
  · replace h := h.2 cc
    have t3 : aX xc_171 (aSeek xc_171 14) [aR a0, aR a1, aI a2, aI a3, aI a4] [] (SH L) M o := by
      by_cases cc : a2 = ((-1))
      · replace h := h.1 cc
        have t4 : aX xc_171 (aSeek xc_171 30) [aR a0, aR a1, aI a2, aI a3, aI a4] [] (SH L) M o := by
          exact h
        exact aX_seg 3 (fun n g => ip cc (g)) t4
      · replace h := h.2 cc
        have t5 : aX xc_171 (aSeek xc_171 19) [aR a0, aR a1, aI a2, aI a3, aI a4] [] (SH L) M o := by
          obtain ⟨c6, h⟩ := h
          obtain ⟨c7, h⟩ := h
          by_cases cc : ¬ (M (aF (SH L) a0 1) a4) = a2
          · replace h := h.1 cc
            have t8 : aX xc_171 (aSeek xc_171 68) [aR a0, aR a1, aI a2, aI a3, aI a4] [] (SH L) M o := by
              exact h
            exact aX_seg 6 (fun n g => ip c6 (ip c7 (ip cc (g)))) t8
          · replace h := h.2 cc
            have t9 : aX xc_171 (aSeek xc_171 30) [aR a0, aR a1, aI a2, aI a3, aI a4] [] (SH L) M o := by
              exact h
            exact aX_seg 6 (fun n g => ip c6 (ip c7 (in_ cc (g)))) t9
        exact aX_seg 3 (fun n g => in_ cc (g)) t5
    exact aX_seg 4 (fun n g => ip c1 (in_ cc (g))) t3
set_option maxRecDepth 100000 in
theorem bl_171_30 {L : Nat} {a0 a1 a2 a3 a4 : Int} {M : aM} {o : aO} (h : (aK (SH L) a0 = 10) ∧ (0 ≤ a4 ∧ a4 < aLn (SH L) 1 (aF (SH L) a0 1)) ∧ (aK (SH L) a0 = 10) ∧ (0 ≤ a4 ∧ a4 < aLn (SH L) 1 (aF (SH L) a0 3)) ∧ (aK (SH L) a0 = 10) ∧ (0 ≤ a4 ∧ a4 < aLn (SH L) 1 (aF (SH L) a0 4)) ∧ (aK (SH L) a0 = 10) ∧ (0 ≤ a4 ∧ a4 < aLn (SH L) 4 (aF (SH L) a0 7)) ∧ (aK (SH L) a1 = 10 ∧ ∃ (M1 : aM) (v2 : Int), aE 170 [aR a1, aI (M (aF (SH L) a0 1) a4), aI (M (aF (SH L) a0 3) a4), aI (M (aF (SH L) a0 4) a4), aI (M (aF (SH L) a0 7) a4)] (SH L) M ([aI v2], (SH L), M1) ∧ ((v2 = 0 → aX xc_171 (aSeek xc_171 68) [aR a0, aR a1, aI a2, aI a3, aI a4] [] (SH L) M1 o) ∧ (¬ (v2 = 0) → aX xc_171 (aSeek xc_171 68) [aR a0, aR a1, aI a2, aI (aW (a3 + 1)), aI a4] [] (SH L) M1 o)))) : aX xc_171 (aSeek xc_171 30) [aR a0, aR a1, aI a2, aI a3, aI a4] [] (SH L) M o := by
  obtain ⟨c3, h⟩ := h
  obtain ⟨c4, h⟩ := h
  obtain ⟨c5, h⟩ := h
  obtain ⟨c6, h⟩ := h
  obtain ⟨c7, h⟩ := h
  obtain ⟨c8, h⟩ := h
  obtain ⟨c9, h⟩ := h
  obtain ⟨c10, h⟩ := h
  obtain ⟨c11, h⟩ := h
  obtain ⟨M1, v2, k12, h⟩ := h
  have h2 : aX xc_171 (aSeek xc_171 62) [aR a0, aR a1, aI a2, aI a3, aI a4] [aI v2] (SH L) M1 o := by
    by_cases cc : v2 = 0
    · replace h := h.1 cc
      have t13 : aX xc_171 (aSeek xc_171 68) [aR a0, aR a1, aI a2, aI a3, aI a4] [] (SH L) M1 o := by
        exact h
      exact aX_seg 1 (fun n g => ip cc (g)) t13
    · replace h := h.2 cc
      have t14 : aX xc_171 (aSeek xc_171 65) [aR a0, aR a1, aI a2, aI a3, aI a4] [] (SH L) M1 o := by
        exact aX_seg 1 (fun n g => g) (h)
      exact aX_seg 1 (fun n g => in_ cc (g)) t14
  exact aX_seg 17 (fun n g => ip c3 (ip c4 (ip c5 (ip c6 (ip c7 (ip c8 (ip c9 (ip c10 (g))))))))) (aX_callv (c11) rfl rfl rfl k12 h2)
set_option maxRecDepth 100000 in
theorem bl_171_68 {L : Nat} {a0 a1 a2 a3 a4 : Int} {M : aM} {o : aO} (h : aX xc_171 (aSeek xc_171 5) [aR a0, aR a1, aI a2, aI a3, aI (aW (a4 + 1))] [] (SH L) M o) : aX xc_171 (aSeek xc_171 68) [aR a0, aR a1, aI a2, aI a3, aI a4] [] (SH L) M o := by
  exact aX_seg 2 (fun n g => g) (h)
/- TypeLock.tuesday(II)I -/
set_option maxRecDepth 100000 in
theorem en_172 {L : Nat} {a1 a2 : Int} {M : aM} {o : aO} (h : (∃ (M1 : aM) (v2 : Int), aE 169 [aI a1] (SH L) M ([aI v2], (SH L), M1) ∧ ((v2 = 0 → o = ([aI ((-1))], (SH L), M1)) ∧ (¬ (v2 = 0) → ((a2 < 0 → o = ([aI ((-1))], (SH L), M1)) ∧ (¬ (a2 < 0) → ((2 < a2 → o = ([aI ((-1))], (SH L), M1)) ∧ (¬ (2 < a2) → (0 ≤ a1 ∧ a1 < aLn (SH L) 5 39) ∧ (aK (SH L) (aF (SH L) 39 (a1).toNat) = 10) ∧ ((¬ (M1 (aF (SH L) 39 (a1).toNat) 9) = 0 → (0 ≤ a1 ∧ a1 < aLn (SH L) 5 39) ∧ (∃ (M3 : aM) (v4 : Int), aE 171 [aR 31, aR (aF (SH L) 39 (a1).toNat), aI ((-1))] (SH L) M1 ([aI v4], (SH L), M3) ∧ ((¬ a2 = 0 → aX xc_172 (aSeek xc_172 57) [aR 1, aI a1, aI a2, aI v4, aI 0, aI 0] [] (SH L) M3 o) ∧ (¬ (¬ a2 = 0) → o = ([aI v4], (SH L), M3))))) ∧ (¬ (¬ (M1 (aF (SH L) 39 (a1).toNat) 9) = 0) → o = ([aI ((-1))], (SH L), M1))))))))))) : aE 172 [aR 1, aI a1, aI a2] (SH L) M o := by
  have q : aX xc_172 (aSeek xc_172 0) [aR 1, aI a1, aI a2, aU, aU, aU] [] (SH L) M o := by
    obtain ⟨M1, v2, k5, h⟩ := h
    have h2 : aX xc_172 (aSeek xc_172 4) [aR 1, aI a1, aI a2, aU, aU, aU] [aI v2] (SH L) M1 o := by
      by_cases cc : v2 = 0
      · replace h := h.1 cc
        have t6 : aX xc_172 (aSeek xc_172 28) [aR 1, aI a1, aI a2, aU, aU, aU] [] (SH L) M1 o := by
          subst h
          exact ⟨2, rfl⟩
        exact aX_seg 1 (fun n g => ip cc (g)) t6
      · replace h := h.2 cc
        have t7 : aX xc_172 (aSeek xc_172 7) [aR 1, aI a1, aI a2, aU, aU, aU] [] (SH L) M1 o := by
          by_cases cc : a2 < 0
          · replace h := h.1 cc
            have t8 : aX xc_172 (aSeek xc_172 28) [aR 1, aI a1, aI a2, aU, aU, aU] [] (SH L) M1 o := by
              subst h
              exact ⟨2, rfl⟩
            exact aX_seg 2 (fun n g => ip cc (g)) t8
          · replace h := h.2 cc
            have t9 : aX xc_172 (aSeek xc_172 11) [aR 1, aI a1, aI a2, aU, aU, aU] [] (SH L) M1 o := by
              by_cases cc : 2 < a2
              · replace h := h.1 cc
                have t10 : aX xc_172 (aSeek xc_172 28) [aR 1, aI a1, aI a2, aU, aU, aU] [] (SH L) M1 o := by
                  subst h
                  exact ⟨2, rfl⟩
                exact aX_seg 3 (fun n g => ip cc (g)) t10
              · replace h := h.2 cc
                have t11 : aX xc_172 (aSeek xc_172 16) [aR 1, aI a1, aI a2, aU, aU, aU] [] (SH L) M1 o := by
                  obtain ⟨c12, h⟩ := h
                  obtain ⟨c13, h⟩ := h
                  by_cases cc : ¬ (M1 (aF (SH L) 39 (a1).toNat) 9) = 0
                  · replace h := h.1 cc
                    have t14 : aX xc_172 (aSeek xc_172 30) [aR 1, aI a1, aI a2, aU, aU, aU] [] (SH L) M1 o := by
                      obtain ⟨c15, h⟩ := h
                      obtain ⟨M3, v4, k16, h⟩ := h
                      have h2 : aX xc_172 (aSeek xc_172 44) [aR 1, aI a1, aI a2, aU, aU, aU] [aI v4] (SH L) M3 o := by
                        by_cases cc : ¬ a2 = 0
                        · replace h := h.1 cc
                          have t17 : aX xc_172 (aSeek xc_172 51) [aR 1, aI a1, aI a2, aI v4, aU, aU] [] (SH L) M3 o := by
                            exact aX_seg 4 (fun n g => g) (h)
                          exact aX_seg 3 (fun n g => ip cc (g)) t17
                        · replace h := h.2 cc
                          have t18 : aX xc_172 (aSeek xc_172 49) [aR 1, aI a1, aI a2, aI v4, aU, aU] [] (SH L) M3 o := by
                            subst h
                            exact ⟨2, rfl⟩
                          exact aX_seg 3 (fun n g => in_ cc (g)) t18
                      exact aX_seg 7 (fun n g => ip c15 (g)) (aX_callv (rfl) rfl rfl rfl k16 h2)
                    exact aX_seg 6 (fun n g => ip c12 (ip c13 (ip cc (g)))) t14
                  · replace h := h.2 cc
                    have t19 : aX xc_172 (aSeek xc_172 28) [aR 1, aI a1, aI a2, aU, aU, aU] [] (SH L) M1 o := by
                      subst h
                      exact ⟨2, rfl⟩
                    exact aX_seg 6 (fun n g => ip c12 (ip c13 (in_ cc (g)))) t19
                exact aX_seg 3 (fun n g => in_ cc (g)) t11
            exact aX_seg 2 (fun n g => in_ cc (g)) t9
        exact aX_seg 1 (fun n g => in_ cc (g)) t7
    exact aX_seg 1 (fun n g => g) (aX_calls rfl rfl rfl k5 h2)
  exact q
set_option maxRecDepth 100000 in
theorem bl_172_57 {L : Nat} {a1 a2 a3 a4 a5 : Int} {M : aM} {o : aO} (h : ((14 ≤ a5 → ((¬ a2 = 1 → (0 ≤ a1 ∧ a1 < aLn (SH L) 5 39) ∧ (aK (SH L) (aF (SH L) 39 (a1).toNat) = 10) ∧ o = ([aI (aW ((aW ((M (aF (SH L) 39 (a1).toNat) 0) - a3)) - a4))], (SH L), M)) ∧ (¬ (¬ a2 = 1) → o = ([aI a4], (SH L), M)))) ∧ (¬ (14 ≤ a5) → (∃ (M1 : aM) (v2 : Int), aE 59 [aR 31, aI a5] (SH L) M ([aI v2], (SH L), M1) ∧ (0 ≤ a1 ∧ a1 < aLn (SH L) 5 39) ∧ (aK (SH L) (aF (SH L) 39 (a1).toNat) = 10 ∧ ∃ (M3 : aM) (v4 : Int), aE 59 [aR (aF (SH L) 39 (a1).toNat), aI a5] (SH L) M1 ([aI v4], (SH L), M3) ∧ (0 ≤ a1 ∧ a1 < aLn (SH L) 5 39) ∧ (∃ (M5 : aM) (v6 : Int), aE 171 [aR 31, aR (aF (SH L) 39 (a1).toNat), aI a5] (SH L) M3 ([aI v6], (SH L), M5) ∧ aX xc_172 (aSeek xc_172 57) [aR 1, aI a1, aI a2, aI a3, aI (aW (a4 + (aW ((min v2 v4) - v6)))), aI (aW (a5 + 1))] [] (SH L) M5 o)))))) : aX xc_172 (aSeek xc_172 57) [aR 1, aI a1, aI a2, aI a3, aI a4, aI a5] [] (SH L) M o := by
  by_cases cc : 14 ≤ a5
  · replace h := h.1 cc
    have t7 : aX xc_172 (aSeek xc_172 114) [aR 1, aI a1, aI a2, aI a3, aI a4, aI a5] [] (SH L) M o := by
      by_cases cc : ¬ a2 = 1
      · replace h := h.1 cc
        have t8 : aX xc_172 (aSeek xc_172 124) [aR 1, aI a1, aI a2, aI a3, aI a4, aI a5] [] (SH L) M o := by
          obtain ⟨c9, h⟩ := h
          obtain ⟨c10, h⟩ := h
          subst h
          exact ⟨10, ip c9 (ip c10 (rfl))⟩
        exact aX_seg 3 (fun n g => ip cc (g)) t8
      · replace h := h.2 cc
        have t11 : aX xc_172 (aSeek xc_172 119) [aR 1, aI a1, aI a2, aI a3, aI a4, aI a5] [] (SH L) M o := by
          subst h
          exact ⟨3, rfl⟩
        exact aX_seg 3 (fun n g => in_ cc (g)) t11
    exact aX_seg 3 (fun n g => ip cc (g)) t7
  · replace h := h.2 cc
    have t12 : aX xc_172 (aSeek xc_172 64) [aR 1, aI a1, aI a2, aI a3, aI a4, aI a5] [] (SH L) M o := by
      obtain ⟨M1, v2, k13, h⟩ := h
      have h2 : aX xc_172 (aSeek xc_172 75) [aR 1, aI a1, aI a2, aI a3, aI a4, aI a5] [aI v2, aI a4] (SH L) M1 o := by
        obtain ⟨c14, h⟩ := h
        obtain ⟨c15, h⟩ := h
        obtain ⟨M3, v4, k16, h⟩ := h
        have h2 : aX xc_172 (aSeek xc_172 86) [aR 1, aI a1, aI a2, aI a3, aI a4, aI a5] [aI v4, aI v2, aI a4] (SH L) M3 o := by
          obtain ⟨c17, h⟩ := h
          obtain ⟨M5, v6, k18, h⟩ := h
          have h2 : aX xc_172 (aSeek xc_172 104) [aR 1, aI a1, aI a2, aI a3, aI a4, aI a5] [aI v6, aI (min v2 v4), aI a4] (SH L) M5 o := by
            exact aX_seg 5 (fun n g => g) (h)
          exact aX_seg 8 (fun n g => ip c17 (g)) (aX_callv (rfl) rfl rfl rfl k18 h2)
        exact aX_seg 5 (fun n g => ip c14 (g)) (aX_callv (c15) rfl rfl rfl k16 h2)
      exact aX_seg 4 (fun n g => g) (aX_callv (rfl) rfl rfl rfl k13 h2)
    exact aX_seg 3 (fun n g => in_ cc (g)) t12
/- TypeLock$Bed.copyFrom(LTypeLock$Bed;)V -/
set_option maxRecDepth 100000 in
theorem en_173 {L : Nat} {a0 a1 : Int} {M : aM} {o : aO} (h : (aK (SH L) a0 = 10) ∧ aX xc_173 (aSeek xc_173 7) [aR a0, aR a1, aI 0] [] (SH L) (aSet M a0 0 0) o) : aE 173 [aR a0, aR a1] (SH L) M o := by
  have q : aX xc_173 (aSeek xc_173 0) [aR a0, aR a1, aU] [] (SH L) M o := by
    obtain ⟨c1, h⟩ := h
    exact aX_seg 5 (fun n g => ip c1 (g)) (h)
  exact q
set_option maxRecDepth 100000 in
theorem bl_173_7 {L : Nat} {a0 a1 a2 : Int} {M : aM} {o : aO} (h : (aK (SH L) a1 = 10) ∧ (((M a1 0) ≤ a2 → (aK (SH L) a1 = 10) ∧ (aK (SH L) a0 = 10) ∧ o = ([], (SH L), aSet M a0 8 (M a1 8))) ∧ (¬ ((M a1 0) ≤ a2) → (aK (SH L) a1 = 10) ∧ (0 ≤ a2 ∧ a2 < aLn (SH L) 1 (aF (SH L) a1 1)) ∧ (aK (SH L) a1 = 10) ∧ (0 ≤ a2 ∧ a2 < aLn (SH L) 1 (aF (SH L) a1 2)) ∧ (aK (SH L) a1 = 10) ∧ (0 ≤ a2 ∧ a2 < aLn (SH L) 1 (aF (SH L) a1 3)) ∧ (aK (SH L) a1 = 10) ∧ (0 ≤ a2 ∧ a2 < aLn (SH L) 1 (aF (SH L) a1 4)) ∧ (aK (SH L) a1 = 10) ∧ (0 ≤ a2 ∧ a2 < aLn (SH L) 1 (aF (SH L) a1 5)) ∧ (aK (SH L) a1 = 10) ∧ (0 ≤ a2 ∧ a2 < aLn (SH L) 1 (aF (SH L) a1 6)) ∧ (aK (SH L) a1 = 10) ∧ (0 ≤ a2 ∧ a2 < aLn (SH L) 4 (aF (SH L) a1 7)) ∧ (aK (SH L) a0 = 10 ∧ ∃ (M1 : aM), aE 61 [aR a0, aI (M (aF (SH L) a1 1) a2), aI (M (aF (SH L) a1 2) a2), aI (M (aF (SH L) a1 3) a2), aI (M (aF (SH L) a1 4) a2), aI (M (aF (SH L) a1 5) a2), aI (M (aF (SH L) a1 6) a2), aI (M (aF (SH L) a1 7) a2)] (SH L) M ([], (SH L), M1) ∧ aX xc_173 (aSeek xc_173 7) [aR a0, aR a1, aI (aW (a2 + 1))] [] (SH L) M1 o)))) : aX xc_173 (aSeek xc_173 7) [aR a0, aR a1, aI a2] [] (SH L) M o := by
  obtain ⟨c2, h⟩ := h
  by_cases cc : (M a1 0) ≤ a2
  · replace h := h.1 cc
    have t3 : aX xc_173 (aSeek xc_173 67) [aR a0, aR a1, aI a2] [] (SH L) M o := by
      obtain ⟨c4, h⟩ := h
      obtain ⟨c5, h⟩ := h
      subst h
      exact ⟨5, ip c4 (ip c5 (rfl))⟩
    exact aX_seg 4 (fun n g => ip c2 (ip cc (g))) t3
  · replace h := h.2 cc
    have t6 : aX xc_173 (aSeek xc_173 15) [aR a0, aR a1, aI a2] [] (SH L) M o := by
      obtain ⟨c7, h⟩ := h
      obtain ⟨c8, h⟩ := h
      obtain ⟨c9, h⟩ := h
      obtain ⟨c10, h⟩ := h
      obtain ⟨c11, h⟩ := h
      obtain ⟨c12, h⟩ := h
      obtain ⟨c13, h⟩ := h
      obtain ⟨c14, h⟩ := h
      obtain ⟨c15, h⟩ := h
      obtain ⟨c16, h⟩ := h
      obtain ⟨c17, h⟩ := h
      obtain ⟨c18, h⟩ := h
      obtain ⟨c19, h⟩ := h
      obtain ⟨c20, h⟩ := h
      obtain ⟨c21, h⟩ := h
      obtain ⟨M1, k22, h⟩ := h
      have h2 : aX xc_173 (aSeek xc_173 61) [aR a0, aR a1, aI a2] [] (SH L) M1 o := by
        exact aX_seg 2 (fun n g => g) (h)
      exact aX_seg 29 (fun n g => ip c7 (ip c8 (ip c9 (ip c10 (ip c11 (ip c12 (ip c13 (ip c14 (ip c15 (ip c16 (ip c17 (ip c18 (ip c19 (ip c20 (g))))))))))))))) (aX_callv (c21) rfl rfl rfl k22 h2)
    exact aX_seg 4 (fun n g => ip c2 (in_ cc (g))) t6
/- TypeLock.hold(I)Z -/
set_option maxRecDepth 100000 in
theorem en_174 {L : Nat} {a1 : Int} {M : aM} {o : aO} (h : (∃ (M1 : aM) (v2 : Int), aE 169 [aI a1] (SH L) M ([aI v2], (SH L), M1) ∧ ((¬ v2 = 0 → (0 ≤ a1 ∧ a1 < aLn (SH L) 5 39) ∧ (aK (SH L) (aF (SH L) 39 (a1).toNat) = 10 ∧ ∃ (M3 : aM), aE 173 [aR (aF (SH L) 39 (a1).toNat), aR 31] (SH L) M1 ([], (SH L), M3) ∧ (0 ≤ a1 ∧ a1 < aLn (SH L) 5 39) ∧ (aK (SH L) (aF (SH L) 39 (a1).toNat) = 10 ∧ ((1 : Int) = 0 ∨ (1 : Int) = 1)) ∧ (0 ≤ a1 ∧ a1 < aLn (SH L) 5 39) ∧ (aK (SH L) (aF (SH L) 39 (a1).toNat) = 10) ∧ o = ([aI 1], (SH L), aSet (aSet M3 (aF (SH L) 39 (a1).toNat) 9 1) (aF (SH L) 39 (a1).toNat) 10 ((aSet M3 (aF (SH L) 39 (a1).toNat) 9 1) 1 5)))) ∧ (¬ (¬ v2 = 0) → o = ([aI 0], (SH L), M1))))) : aE 174 [aR 1, aI a1] (SH L) M o := by
  have q : aX xc_174 (aSeek xc_174 0) [aR 1, aI a1] [] (SH L) M o := by
    obtain ⟨M1, v2, k4, h⟩ := h
    have h2 : aX xc_174 (aSeek xc_174 4) [aR 1, aI a1] [aI v2] (SH L) M1 o := by
      by_cases cc : ¬ v2 = 0
      · replace h := h.1 cc
        have t5 : aX xc_174 (aSeek xc_174 9) [aR 1, aI a1] [] (SH L) M1 o := by
          obtain ⟨c6, h⟩ := h
          obtain ⟨c7, h⟩ := h
          obtain ⟨M3, k8, h⟩ := h
          have h2 : aX xc_174 (aSeek xc_174 22) [aR 1, aI a1] [] (SH L) M3 o := by
            obtain ⟨c9, h⟩ := h
            obtain ⟨c10, h⟩ := h
            obtain ⟨c11, h⟩ := h
            obtain ⟨c12, h⟩ := h
            subst h
            exact ⟨15, ip c9 (ip c10 (ip c11 (ip c12 (rfl))))⟩
          exact aX_seg 6 (fun n g => ip c6 (g)) (aX_callv (c7) rfl rfl rfl k8 h2)
        exact aX_seg 1 (fun n g => ip cc (g)) t5
      · replace h := h.2 cc
        have t13 : aX xc_174 (aSeek xc_174 7) [aR 1, aI a1] [] (SH L) M1 o := by
          subst h
          exact ⟨2, rfl⟩
        exact aX_seg 1 (fun n g => in_ cc (g)) t13
    exact aX_seg 1 (fun n g => g) (aX_calls rfl rfl rfl k4 h2)
  exact q
/- TypeLock.again(I)Z -/
set_option maxRecDepth 100000 in
theorem en_175 {L : Nat} {a1 : Int} {M : aM} {o : aO} (h : (∃ (M1 : aM) (v2 : Int), aE 169 [aI a1] (SH L) M ([aI v2], (SH L), M1) ∧ ((v2 = 0 → o = ([aI 0], (SH L), M1)) ∧ (¬ (v2 = 0) → (0 ≤ a1 ∧ a1 < aLn (SH L) 5 39) ∧ (aK (SH L) (aF (SH L) 39 (a1).toNat) = 10) ∧ (((M1 (aF (SH L) 39 (a1).toNat) 9) = 0 → o = ([aI 0], (SH L), M1)) ∧ (¬ ((M1 (aF (SH L) 39 (a1).toNat) 9) = 0) → (0 ≤ a1 ∧ a1 < aLn (SH L) 5 39) ∧ (aK (SH L) (aF (SH L) 39 (a1).toNat) = 10) ∧ (((M1 (aF (SH L) 39 (a1).toNat) 10) = (M1 1 5) → (0 ≤ a1 ∧ a1 < aLn (SH L) 5 39) ∧ (∃ (M3 : aM), aE 173 [aR 31, aR (aF (SH L) 39 (a1).toNat)] (SH L) M1 ([], (SH L), M3) ∧ (∃ (M4 : aM), aE 51 [aR 1] (SH L) M3 ([], (SH L), M4) ∧ o = ([aI 1], (SH L), M4)))) ∧ (¬ ((M1 (aF (SH L) 39 (a1).toNat) 10) = (M1 1 5)) → o = ([aI 0], (SH L), M1))))))))) : aE 175 [aR 1, aI a1] (SH L) M o := by
  have q : aX xc_175 (aSeek xc_175 0) [aR 1, aI a1] [] (SH L) M o := by
    obtain ⟨M1, v2, k5, h⟩ := h
    have h2 : aX xc_175 (aSeek xc_175 4) [aR 1, aI a1] [aI v2] (SH L) M1 o := by
      by_cases cc : v2 = 0
      · replace h := h.1 cc
        have t6 : aX xc_175 (aSeek xc_175 35) [aR 1, aI a1] [] (SH L) M1 o := by
          subst h
          exact ⟨2, rfl⟩
        exact aX_seg 1 (fun n g => ip cc (g)) t6
      · replace h := h.2 cc
        have t7 : aX xc_175 (aSeek xc_175 7) [aR 1, aI a1] [] (SH L) M1 o := by
          obtain ⟨c8, h⟩ := h
          obtain ⟨c9, h⟩ := h
          by_cases cc : (M1 (aF (SH L) 39 (a1).toNat) 9) = 0
          · replace h := h.1 cc
            have t10 : aX xc_175 (aSeek xc_175 35) [aR 1, aI a1] [] (SH L) M1 o := by
              subst h
              exact ⟨2, rfl⟩
            exact aX_seg 6 (fun n g => ip c8 (ip c9 (ip cc (g)))) t10
          · replace h := h.2 cc
            have t11 : aX xc_175 (aSeek xc_175 19) [aR 1, aI a1] [] (SH L) M1 o := by
              obtain ⟨c12, h⟩ := h
              obtain ⟨c13, h⟩ := h
              by_cases cc : (M1 (aF (SH L) 39 (a1).toNat) 10) = (M1 1 5)
              · replace h := h.1 cc
                have t14 : aX xc_175 (aSeek xc_175 37) [aR 1, aI a1] [] (SH L) M1 o := by
                  obtain ⟨c15, h⟩ := h
                  obtain ⟨M3, k16, h⟩ := h
                  have h2 : aX xc_175 (aSeek xc_175 50) [aR 1, aI a1] [] (SH L) M3 o := by
                    obtain ⟨M4, k17, h⟩ := h
                    have h2 : aX xc_175 (aSeek xc_175 54) [aR 1, aI a1] [] (SH L) M4 o := by
                      subst h
                      exact ⟨2, rfl⟩
                    exact aX_seg 1 (fun n g => g) (aX_callv (rfl) rfl rfl rfl k17 h2)
                  exact aX_seg 6 (fun n g => ip c15 (g)) (aX_callv (rfl) rfl rfl rfl k16 h2)
                exact aX_seg 8 (fun n g => ip c12 (ip c13 (ip cc (g)))) t14
              · replace h := h.2 cc
                have t18 : aX xc_175 (aSeek xc_175 35) [aR 1, aI a1] [] (SH L) M1 o := by
                  subst h
                  exact ⟨2, rfl⟩
                exact aX_seg 8 (fun n g => ip c12 (ip c13 (in_ cc (g)))) t18
            exact aX_seg 6 (fun n g => ip c8 (ip c9 (in_ cc (g)))) t11
        exact aX_seg 1 (fun n g => in_ cc (g)) t7
    exact aX_seg 1 (fun n g => g) (aX_calls rfl rfl rfl k5 h2)
  exact q
/- TypeLock.heldSlots()I -/
set_option maxRecDepth 100000 in
theorem en_176 {L : Nat} {M : aM} {o : aO} (h : aX xc_176 (aSeek xc_176 4) [aR 1, aI 0, aI 0] [] (SH L) M o) : aE 176 [aR 1] (SH L) M o := by
  have q : aX xc_176 (aSeek xc_176 0) [aR 1, aU, aU] [] (SH L) M o := by
    exact aX_seg 4 (fun n g => g) (h)
  exact q
set_option maxRecDepth 100000 in
theorem bl_176_4 {L : Nat} {a1 a2 : Int} {M : aM} {o : aO} (h : ((3 ≤ a2 → o = ([aI a1], (SH L), M)) ∧ (¬ (3 ≤ a2) → (0 ≤ a2 ∧ a2 < aLn (SH L) 5 39) ∧ (aK (SH L) (aF (SH L) 39 (a2).toNat) = 10) ∧ (((M (aF (SH L) 39 (a2).toNat) 9) = 0 → aX xc_176 (aSeek xc_176 24) [aR 1, aI a1, aI a2] [] (SH L) M o) ∧ (¬ ((M (aF (SH L) 39 (a2).toNat) 9) = 0) → aX xc_176 (aSeek xc_176 24) [aR 1, aI (aW (a1 + 1)), aI a2] [] (SH L) M o))))) : aX xc_176 (aSeek xc_176 4) [aR 1, aI a1, aI a2] [] (SH L) M o := by
  by_cases cc : 3 ≤ a2
  · replace h := h.1 cc
    have t1 : aX xc_176 (aSeek xc_176 30) [aR 1, aI a1, aI a2] [] (SH L) M o := by
      subst h
      exact ⟨2, rfl⟩
    exact aX_seg 3 (fun n g => ip cc (g)) t1
  · replace h := h.2 cc
    have t2 : aX xc_176 (aSeek xc_176 9) [aR 1, aI a1, aI a2] [] (SH L) M o := by
      obtain ⟨c3, h⟩ := h
      obtain ⟨c4, h⟩ := h
      by_cases cc : (M (aF (SH L) 39 (a2).toNat) 9) = 0
      · replace h := h.1 cc
        have t5 : aX xc_176 (aSeek xc_176 24) [aR 1, aI a1, aI a2] [] (SH L) M o := by
          exact h
        exact aX_seg 6 (fun n g => ip c3 (ip c4 (ip cc (g)))) t5
      · replace h := h.2 cc
        have t6 : aX xc_176 (aSeek xc_176 21) [aR 1, aI a1, aI a2] [] (SH L) M o := by
          exact aX_seg 1 (fun n g => g) (h)
        exact aX_seg 6 (fun n g => ip c3 (ip c4 (in_ cc (g)))) t6
    exact aX_seg 3 (fun n g => in_ cc (g)) t2
set_option maxRecDepth 100000 in
theorem bl_176_24 {L : Nat} {a1 a2 : Int} {M : aM} {o : aO} (h : aX xc_176 (aSeek xc_176 4) [aR 1, aI a1, aI (aW (a2 + 1))] [] (SH L) M o) : aX xc_176 (aSeek xc_176 24) [aR 1, aI a1, aI a2] [] (SH L) M o := by
  exact aX_seg 2 (fun n g => g) (h)
/- TypeLock.count(I)I -/
set_option maxRecDepth 100000 in
theorem en_177 {L : Nat} {a1 : Int} {M : aM} {o : aO} (h : ((a1 = 0 → (aK (SH L) (M 1 3) = 19) ∧ o = ([aI (M (M 1 3) 3)], (SH L), M)) ∧ (a1 = 1 → (aK (SH L) (M 1 3) = 19) ∧ o = ([aI (M (M 1 3) 9)], (SH L), M)) ∧ (a1 = 2 → (aK (SH L) (M 1 3) = 19) ∧ o = ([aI (M (M 1 3) 16)], (SH L), M)) ∧ (a1 = 3 → o = ([aI (M 31 0)], (SH L), M)) ∧ (a1 = 4 → o = ([aI (M 138 0)], (SH L), M)) ∧ (a1 = 5 → o = ([aI (M 1 1)], (SH L), M)) ∧ (a1 = 6 → (∃ (M1 : aM) (v2 : Int), aE 114 [aI (M 31 8)] (SH L) M ([aI v2], (SH L), M1) ∧ o = ([aI v2], (SH L), M1))) ∧ (a1 = 7 → (∃ (M3 : aM) (v4 : Int), aE 176 [aR 1] (SH L) M ([aI v4], (SH L), M3) ∧ o = ([aI v4], (SH L), M3))) ∧ (a1 = 8 → (aK (SH L) (M 1 3) = 19) ∧ o = ([aI (M (M 1 3) 0)], (SH L), M)) ∧ (a1 = 9 → (aK (SH L) (M 1 3) = 19) ∧ o = ([aI (M (M 1 3) 1)], (SH L), M)) ∧ (a1 = 10 → (aK (SH L) (M 1 3) = 19) ∧ o = ([aI (M (M 1 3) 2)], (SH L), M)) ∧ (¬ a1 = 0 → ¬ a1 = 1 → ¬ a1 = 2 → ¬ a1 = 3 → ¬ a1 = 4 → ¬ a1 = 5 → ¬ a1 = 6 → ¬ a1 = 7 → ¬ a1 = 8 → ¬ a1 = 9 → ¬ a1 = 10 → ((a1 < 20 → o = ([aI ((-1))], (SH L), M)) ∧ (¬ (a1 < 20) → (aK (SH L) (M 1 3) = 19 ∧ ∃ (M5 : aM) (v6 : Int), aE 55 [aR (M 1 3), aI (aW (a1 - 20))] (SH L) M ([aI v6], (SH L), M5) ∧ ((v6 = 0 → o = ([aI ((-1))], (SH L), M5)) ∧ (¬ (v6 = 0) → (∃ (M7 : aM) (v8 : Int), aE 60 [aR 31, aR (M5 1 3), aI (aW (a1 - 20))] (SH L) M5 ([aI v8], (SH L), M7) ∧ o = ([aI v8], (SH L), M7)))))))))) : aE 177 [aR 1, aI a1] (SH L) M o := by
  have q : aX xc_177 (aSeek xc_177 0) [aR 1, aI a1] [] (SH L) M o := by
    by_cases cc0 : a1 = 0
    · replace h := h.1 cc0
      have ee : aTab 0 10 144 #[59, 67, 75, 83, 91, 99, 104, 115, 120, 128, 136] a1 = 59 := by rw [cc0]; rfl
      have t9 : aX xc_177 (aSeek xc_177 60) [aR 1, aI a1] [] (SH L) M o := by
        obtain ⟨c10, h⟩ := h
        subst h
        exact ⟨4, ip c10 (rfl)⟩
      exact aX_seg 2 (fun n g => (congrArg (fun tt => aRun tgT gP n xc_177 (aSeek xc_177 (aTo 1 tt)) [aR 1, aI a1] [] (SH L) M) ee).trans g) t9
    by_cases cc1 : a1 = 1
    · replace h := h.2.1 cc1
      have ee : aTab 0 10 144 #[59, 67, 75, 83, 91, 99, 104, 115, 120, 128, 136] a1 = 67 := by rw [cc1]; rfl
      have t11 : aX xc_177 (aSeek xc_177 68) [aR 1, aI a1] [] (SH L) M o := by
        obtain ⟨c12, h⟩ := h
        subst h
        exact ⟨4, ip c12 (rfl)⟩
      exact aX_seg 2 (fun n g => (congrArg (fun tt => aRun tgT gP n xc_177 (aSeek xc_177 (aTo 1 tt)) [aR 1, aI a1] [] (SH L) M) ee).trans g) t11
    by_cases cc2 : a1 = 2
    · replace h := h.2.2.1 cc2
      have ee : aTab 0 10 144 #[59, 67, 75, 83, 91, 99, 104, 115, 120, 128, 136] a1 = 75 := by rw [cc2]; rfl
      have t13 : aX xc_177 (aSeek xc_177 76) [aR 1, aI a1] [] (SH L) M o := by
        obtain ⟨c14, h⟩ := h
        subst h
        exact ⟨4, ip c14 (rfl)⟩
      exact aX_seg 2 (fun n g => (congrArg (fun tt => aRun tgT gP n xc_177 (aSeek xc_177 (aTo 1 tt)) [aR 1, aI a1] [] (SH L) M) ee).trans g) t13
    by_cases cc3 : a1 = 3
    · replace h := h.2.2.2.1 cc3
      have ee : aTab 0 10 144 #[59, 67, 75, 83, 91, 99, 104, 115, 120, 128, 136] a1 = 83 := by rw [cc3]; rfl
      have t15 : aX xc_177 (aSeek xc_177 84) [aR 1, aI a1] [] (SH L) M o := by
        subst h
        exact ⟨4, rfl⟩
      exact aX_seg 2 (fun n g => (congrArg (fun tt => aRun tgT gP n xc_177 (aSeek xc_177 (aTo 1 tt)) [aR 1, aI a1] [] (SH L) M) ee).trans g) t15
    by_cases cc4 : a1 = 4
    · replace h := h.2.2.2.2.1 cc4
      have ee : aTab 0 10 144 #[59, 67, 75, 83, 91, 99, 104, 115, 120, 128, 136] a1 = 91 := by rw [cc4]; rfl
      have t16 : aX xc_177 (aSeek xc_177 92) [aR 1, aI a1] [] (SH L) M o := by
        subst h
        exact ⟨4, rfl⟩
      exact aX_seg 2 (fun n g => (congrArg (fun tt => aRun tgT gP n xc_177 (aSeek xc_177 (aTo 1 tt)) [aR 1, aI a1] [] (SH L) M) ee).trans g) t16
    by_cases cc5 : a1 = 5
    · replace h := h.2.2.2.2.2.1 cc5
      have ee : aTab 0 10 144 #[59, 67, 75, 83, 91, 99, 104, 115, 120, 128, 136] a1 = 99 := by rw [cc5]; rfl
      have t17 : aX xc_177 (aSeek xc_177 100) [aR 1, aI a1] [] (SH L) M o := by
        subst h
        exact ⟨3, rfl⟩
      exact aX_seg 2 (fun n g => (congrArg (fun tt => aRun tgT gP n xc_177 (aSeek xc_177 (aTo 1 tt)) [aR 1, aI a1] [] (SH L) M) ee).trans g) t17
    by_cases cc6 : a1 = 6
    · replace h := h.2.2.2.2.2.2.1 cc6
      have ee : aTab 0 10 144 #[59, 67, 75, 83, 91, 99, 104, 115, 120, 128, 136] a1 = 104 := by rw [cc6]; rfl
      have t18 : aX xc_177 (aSeek xc_177 105) [aR 1, aI a1] [] (SH L) M o := by
        obtain ⟨M1, v2, k19, h⟩ := h
        have h2 : aX xc_177 (aSeek xc_177 115) [aR 1, aI a1] [aI v2] (SH L) M1 o := by
          subst h
          exact ⟨1, rfl⟩
        exact aX_seg 3 (fun n g => g) (aX_calls rfl rfl rfl k19 h2)
      exact aX_seg 2 (fun n g => (congrArg (fun tt => aRun tgT gP n xc_177 (aSeek xc_177 (aTo 1 tt)) [aR 1, aI a1] [] (SH L) M) ee).trans g) t18
    by_cases cc7 : a1 = 7
    · replace h := h.2.2.2.2.2.2.2.1 cc7
      have ee : aTab 0 10 144 #[59, 67, 75, 83, 91, 99, 104, 115, 120, 128, 136] a1 = 115 := by rw [cc7]; rfl
      have t20 : aX xc_177 (aSeek xc_177 116) [aR 1, aI a1] [] (SH L) M o := by
        obtain ⟨M3, v4, k21, h⟩ := h
        have h2 : aX xc_177 (aSeek xc_177 120) [aR 1, aI a1] [aI v4] (SH L) M3 o := by
          subst h
          exact ⟨1, rfl⟩
        exact aX_seg 1 (fun n g => g) (aX_callv (rfl) rfl rfl rfl k21 h2)
      exact aX_seg 2 (fun n g => (congrArg (fun tt => aRun tgT gP n xc_177 (aSeek xc_177 (aTo 1 tt)) [aR 1, aI a1] [] (SH L) M) ee).trans g) t20
    by_cases cc8 : a1 = 8
    · replace h := h.2.2.2.2.2.2.2.2.1 cc8
      have ee : aTab 0 10 144 #[59, 67, 75, 83, 91, 99, 104, 115, 120, 128, 136] a1 = 120 := by rw [cc8]; rfl
      have t22 : aX xc_177 (aSeek xc_177 121) [aR 1, aI a1] [] (SH L) M o := by
        obtain ⟨c23, h⟩ := h
        subst h
        exact ⟨4, ip c23 (rfl)⟩
      exact aX_seg 2 (fun n g => (congrArg (fun tt => aRun tgT gP n xc_177 (aSeek xc_177 (aTo 1 tt)) [aR 1, aI a1] [] (SH L) M) ee).trans g) t22
    by_cases cc9 : a1 = 9
    · replace h := h.2.2.2.2.2.2.2.2.2.1 cc9
      have ee : aTab 0 10 144 #[59, 67, 75, 83, 91, 99, 104, 115, 120, 128, 136] a1 = 128 := by rw [cc9]; rfl
      have t24 : aX xc_177 (aSeek xc_177 129) [aR 1, aI a1] [] (SH L) M o := by
        obtain ⟨c25, h⟩ := h
        subst h
        exact ⟨4, ip c25 (rfl)⟩
      exact aX_seg 2 (fun n g => (congrArg (fun tt => aRun tgT gP n xc_177 (aSeek xc_177 (aTo 1 tt)) [aR 1, aI a1] [] (SH L) M) ee).trans g) t24
    by_cases cc10 : a1 = 10
    · replace h := h.2.2.2.2.2.2.2.2.2.2.1 cc10
      have ee : aTab 0 10 144 #[59, 67, 75, 83, 91, 99, 104, 115, 120, 128, 136] a1 = 136 := by rw [cc10]; rfl
      have t26 : aX xc_177 (aSeek xc_177 137) [aR 1, aI a1] [] (SH L) M o := by
        obtain ⟨c27, h⟩ := h
        subst h
        exact ⟨4, ip c27 (rfl)⟩
      exact aX_seg 2 (fun n g => (congrArg (fun tt => aRun tgT gP n xc_177 (aSeek xc_177 (aTo 1 tt)) [aR 1, aI a1] [] (SH L) M) ee).trans g) t26
    replace h := h.2.2.2.2.2.2.2.2.2.2.2 cc0 cc1 cc2 cc3 cc4 cc5 cc6 cc7 cc8 cc9 cc10
    have ee : aTab 0 10 144 #[59, 67, 75, 83, 91, 99, 104, 115, 120, 128, 136] a1 = 144 := by unfold aTab; rw [if_pos (by omega)]
    have t28 : aX xc_177 (aSeek xc_177 145) [aR 1, aI a1] [] (SH L) M o := by
      by_cases cc : a1 < 20
      · replace h := h.1 cc
        have t29 : aX xc_177 (aSeek xc_177 183) [aR 1, aI a1] [] (SH L) M o := by
          subst h
          exact ⟨2, rfl⟩
        exact aX_seg 3 (fun n g => ip cc (g)) t29
      · replace h := h.2 cc
        have t30 : aX xc_177 (aSeek xc_177 151) [aR 1, aI a1] [] (SH L) M o := by
          obtain ⟨c31, h⟩ := h
          obtain ⟨M5, v6, k32, h⟩ := h
          have h2 : aX xc_177 (aSeek xc_177 162) [aR 1, aI a1] [aI v6] (SH L) M5 o := by
            by_cases cc : v6 = 0
            · replace h := h.1 cc
              have t33 : aX xc_177 (aSeek xc_177 183) [aR 1, aI a1] [] (SH L) M5 o := by
                subst h
                exact ⟨2, rfl⟩
              exact aX_seg 1 (fun n g => ip cc (g)) t33
            · replace h := h.2 cc
              have t34 : aX xc_177 (aSeek xc_177 165) [aR 1, aI a1] [] (SH L) M5 o := by
                obtain ⟨M7, v8, k35, h⟩ := h
                have h2 : aX xc_177 (aSeek xc_177 180) [aR 1, aI a1] [aI v8] (SH L) M7 o := by
                  subst h
                  exact ⟨2, rfl⟩
                exact aX_seg 7 (fun n g => g) (aX_callv (rfl) rfl rfl rfl k35 h2)
              exact aX_seg 1 (fun n g => in_ cc (g)) t34
          exact aX_seg 5 (fun n g => g) (aX_callv (c31) rfl rfl rfl k32 h2)
        exact aX_seg 3 (fun n g => in_ cc (g)) t30
    exact aX_seg 2 (fun n g => (congrArg (fun tt => aRun tgT gP n xc_177 (aSeek xc_177 (aTo 1 tt)) [aR 1, aI a1] [] (SH L) M) ee).trans g) t28
  exact q
/- TypeLockModel.begin(I)V -/
set_option maxRecDepth 100000 in
theorem en_178 {L : Nat} {a1 : Int} {M : aM} {o : aO} (h : (0 ≤ a1 ∧ a1 < aLn (SH L) 1 151) ∧ (0 ≤ a1 ∧ a1 < aLn (SH L) 1 152) ∧ (0 ≤ a1 ∧ a1 < aLn (SH L) 1 153) ∧ (0 ≤ a1 ∧ a1 < aLn (SH L) 1 159) ∧ (0 ≤ a1 ∧ a1 < aLn (SH L) 1 163) ∧ (0 ≤ a1 ∧ a1 < aLn (SH L) 1 164) ∧ (0 ≤ a1 ∧ a1 < aLn (SH L) 1 166) ∧ (0 ≤ a1 ∧ a1 < aLn (SH L) 1 169) ∧ (0 ≤ a1 ∧ a1 < aLn (SH L) 1 172) ∧ o = ([], (SH L), aSet (aSet (aSet (aSet (aSet (aSet (aSet (aSet (aSet M 151 a1 60) 152 a1 60) 153 a1 0) 159 a1 0) 163 a1 50) 164 a1 ((-1))) 166 a1 0) 169 a1 0) 172 a1 0)) : aE 178 [aR 145, aI a1] (SH L) M o := by
  have q : aX xc_178 (aSeek xc_178 0) [aR 145, aI a1] [] (SH L) M o := by
    obtain ⟨c1, h⟩ := h
    obtain ⟨c2, h⟩ := h
    obtain ⟨c3, h⟩ := h
    obtain ⟨c4, h⟩ := h
    obtain ⟨c5, h⟩ := h
    obtain ⟨c6, h⟩ := h
    obtain ⟨c7, h⟩ := h
    obtain ⟨c8, h⟩ := h
    obtain ⟨c9, h⟩ := h
    subst h
    exact ⟨46, ip c1 (ip c2 (ip c3 (ip c4 (ip c5 (ip c6 (ip c7 (ip c8 (ip c9 (rfl)))))))))⟩
  exact q
end BLK
