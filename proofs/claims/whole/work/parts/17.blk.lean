/-! block rows, written by a program: from one cut of a method to the next ones -/
section BLK
/- TypeLock.holding()I -/
set_option maxRecDepth 100000 in
theorem en_100 {L : Nat} {M : aM} {o : aO} (h : (∃ (M1 : aM), aE 80 [aR 1] (SH L) M ([], (SH L), M1) ∧ (∃ (M2 : aM) (v3 : Int), aE 81 [aR 31] (SH L) M1 ([aJ v3], (SH L), M2) ∧ (∃ (M4 : aM) (v5 : Int), aE 98 [aR 64, aJ v3, aI (M2 31 8)] (SH L) M2 ([aJ v5], (SH L), M4) ∧ (∃ (M6 : aM) (v7 : Int), aE 86 [aJ v5] (SH L) M4 ([aI v7], (SH L), M6) ∧ o = ([aI v7], (SH L), M6)))))) : aE 100 [aR 1] (SH L) M o := by
  have q : aX xc_100 (aSeek xc_100 0) [aR 1] [] (SH L) M o := by
    obtain ⟨M1, k8, h⟩ := h
    have h2 : aX xc_100 (aSeek xc_100 4) [aR 1] [] (SH L) M1 o := by
      obtain ⟨M2, v3, k9, h⟩ := h
      have h2 : aX xc_100 (aSeek xc_100 15) [aR 1] [aJ v3, aR 64] (SH L) M2 o := by
        obtain ⟨M4, v5, k10, h⟩ := h
        have h2 : aX xc_100 (aSeek xc_100 25) [aR 1] [aJ v5] (SH L) M4 o := by
          obtain ⟨M6, v7, k11, h⟩ := h
          have h2 : aX xc_100 (aSeek xc_100 28) [aR 1] [aI v7] (SH L) M6 o := by
            subst h
            exact ⟨1, rfl⟩
          exact aX_calls rfl rfl rfl k11 h2
        exact aX_seg 3 (fun n g => g) (aX_callv (rfl) rfl rfl rfl k10 h2)
      exact aX_seg 4 (fun n g => g) (aX_callv (rfl) rfl rfl rfl k9 h2)
    exact aX_seg 1 (fun n g => g) (aX_callv (rfl) rfl rfl rfl k8 h2)
  exact q
/- TypeLock$Pushes.lift()V -/
set_option maxRecDepth 100000 in
theorem en_101 {L : Nat} {M : aM} {o : aO} (h : (((M 64 12) = 0 → (∃ (M1 : aM), aE 78 [aR 65, aI 0] (SH L) (aSet M 64 12 1) ([], (SH L), M1) ∧ (∃ (M2 : aM), aE 78 [aR 66, aI 0] (SH L) M1 ([], (SH L), M2) ∧ (aK (SH L) (M2 64 5) = 10 ∧ ∃ (M3 : aM) (v4 : Int), aE 81 [aR (M2 64 5)] (SH L) M2 ([aJ v4], (SH L), M3) ∧ aX xc_101 (aSeek xc_101 39) [aR 64, aJ v4, aU, aI 1, aU, aU, aU] [] (SH L) M3 o)))) ∧ (¬ ((M 64 12) = 0) → o = ([], (SH L), M)))) : aE 101 [aR 64] (SH L) M o := by
  have q : aX xc_101 (aSeek xc_101 0) [aR 64, aU, aU, aU, aU, aU, aU] [] (SH L) M o := by
    by_cases cc : (M 64 12) = 0
    · replace h := h.1 cc
      have t5 : aX xc_101 (aSeek xc_101 8) [aR 64, aU, aU, aU, aU, aU, aU] [] (SH L) M o := by
        obtain ⟨M1, k6, h⟩ := h
        have h2 : aX xc_101 (aSeek xc_101 21) [aR 64, aU, aU, aU, aU, aU, aU] [] (SH L) M1 o := by
          obtain ⟨M2, k7, h⟩ := h
          have h2 : aX xc_101 (aSeek xc_101 29) [aR 64, aU, aU, aU, aU, aU, aU] [] (SH L) M2 o := by
            obtain ⟨c8, h⟩ := h
            obtain ⟨M3, v4, k9, h⟩ := h
            have h2 : aX xc_101 (aSeek xc_101 36) [aR 64, aU, aU, aU, aU, aU, aU] [aJ v4] (SH L) M3 o := by
              exact aX_seg 3 (fun n g => g) (h)
            exact aX_seg 2 (fun n g => g) (aX_callv (c8) rfl rfl rfl k9 h2)
          exact aX_seg 3 (fun n g => g) (aX_calls rfl rfl rfl k7 h2)
        exact aX_seg 6 (fun n g => g) (aX_calls rfl rfl rfl k6 h2)
      exact aX_seg 3 (fun n g => ip cc (g)) t5
    · replace h := h.2 cc
      have t10 : aX xc_101 (aSeek xc_101 7) [aR 64, aU, aU, aU, aU, aU, aU] [] (SH L) M o := by
        subst h
        exact ⟨1, rfl⟩
      exact aX_seg 3 (fun n g => in_ cc (g)) t10
  exact q
set_option maxRecDepth 100000 in
theorem bl_101_39 {L : Nat} {a1 a3 : Int} {M : aM} {o : aO} (h : ((40 < a3 → o = ([], (SH L), M)) ∧ (¬ (40 < a3) → (((aCmp a1 0) = 0 → o = ([], (SH L), M)) ∧ (¬ ((aCmp a1 0) = 0) → (aK (SH L) (M 64 5) = 10) ∧ (∃ (M1 : aM) (v2 : Int), aE 98 [aR 64, aJ a1, aI (M (M 64 5) 8)] (SH L) M ([aJ v2], (SH L), M1) ∧ aX xc_101 (aSeek xc_101 74) [aR 64, aJ a1, aU, aI a3, aJ (aLand a1 (aLxor v2 ((-1)))), aU, aI 0] [] (SH L) M1 o)))))) : aX xc_101 (aSeek xc_101 39) [aR 64, aJ a1, aU, aI a3, aU, aU, aU] [] (SH L) M o := by
  by_cases cc : 40 < a3
  · replace h := h.1 cc
    have t3 : aX xc_101 (aSeek xc_101 160) [aR 64, aJ a1, aU, aI a3, aU, aU, aU] [] (SH L) M o := by
      subst h
      exact ⟨1, rfl⟩
    exact aX_seg 3 (fun n g => ip cc (g)) t3
  · replace h := h.2 cc
    have t4 : aX xc_101 (aSeek xc_101 45) [aR 64, aJ a1, aU, aI a3, aU, aU, aU] [] (SH L) M o := by
      by_cases cc : (aCmp a1 0) = 0
      · replace h := h.1 cc
        have t5 : aX xc_101 (aSeek xc_101 160) [aR 64, aJ a1, aU, aI a3, aU, aU, aU] [] (SH L) M o := by
          subst h
          exact ⟨1, rfl⟩
        exact aX_seg 4 (fun n g => ip cc (g)) t5
      · replace h := h.2 cc
        have t6 : aX xc_101 (aSeek xc_101 51) [aR 64, aJ a1, aU, aI a3, aU, aU, aU] [] (SH L) M o := by
          obtain ⟨c7, h⟩ := h
          obtain ⟨M1, v2, k8, h⟩ := h
          have h2 : aX xc_101 (aSeek xc_101 64) [aR 64, aJ a1, aU, aI a3, aU, aU, aU] [aJ v2, aJ a1] (SH L) M1 o := by
            exact aX_seg 6 (fun n g => g) (h)
          exact aX_seg 6 (fun n g => ip c7 (g)) (aX_callv (rfl) rfl rfl rfl k8 h2)
        exact aX_seg 4 (fun n g => in_ cc (g)) t6
    exact aX_seg 3 (fun n g => in_ cc (g)) t4
set_option maxRecDepth 100000 in
theorem bl_101_74 {L : Nat} {a1 a3 a4 a6 : Int} {M : aM} {o : aO} (h : (aK (SH L) (M 64 5) = 10) ∧ (((M (M 64 5) 0) ≤ a6 → (∃ (M1 : aM) (v2 : Int), aE 86 [aJ a4] (SH L) M ([aI v2], (SH L), M1) ∧ (0 ≤ a3 ∧ a3 < aLn (SH L) 1 66) ∧ (0 ≤ a3 ∧ a3 < aLn (SH L) 1 66) ∧ ((¬ (aCmp a4 0) = 0 → aX xc_101 (aSeek xc_101 39) [aR 64, aJ (aLand a1 (aLxor a4 ((-1)))), aU, aI (aW (a3 + 1)), aU, aU, aU] [] (SH L) (aSet (aSet M1 66 a3 v2) 66 0 (aW (((aSet M1 66 a3 v2) 66 0) + ((aSet M1 66 a3 v2) 66 a3)))) o) ∧ (¬ (¬ (aCmp a4 0) = 0) → o = ([], (SH L), aSet (aSet M1 66 a3 v2) 66 0 (aW (((aSet M1 66 a3 v2) 66 0) + ((aSet M1 66 a3 v2) 66 a3)))))))) ∧ (¬ ((M (M 64 5) 0) ≤ a6) → (∃ (M3 : aM) (v4 : Int), aE 84 [aJ a4, aI a6] (SH L) M ([aI v4], (SH L), M3) ∧ ((¬ v4 = 1 → aX xc_101 (aSeek xc_101 105) [aR 64, aJ a1, aU, aI a3, aJ a4, aU, aI a6] [] (SH L) M3 o) ∧ (¬ (¬ v4 = 1) → (0 ≤ a6 ∧ a6 < aLn (SH L) 1 65) ∧ aX xc_101 (aSeek xc_101 105) [aR 64, aJ a1, aU, aI a3, aJ a4, aU, aI a6] [] (SH L) (aSet M3 65 a6 a3) o)))))) : aX xc_101 (aSeek xc_101 74) [aR 64, aJ a1, aU, aI a3, aJ a4, aU, aI a6] [] (SH L) M o := by
  obtain ⟨c5, h⟩ := h
  by_cases cc : (M (M 64 5) 0) ≤ a6
  · replace h := h.1 cc
    have t6 : aX xc_101 (aSeek xc_101 111) [aR 64, aJ a1, aU, aI a3, aJ a4, aU, aI a6] [] (SH L) M o := by
      obtain ⟨M1, v2, k7, h⟩ := h
      have h2 : aX xc_101 (aSeek xc_101 121) [aR 64, aJ a1, aU, aI a3, aJ a4, aU, aI a6] [aI v2, aI a3, aR 66] (SH L) M1 o := by
        obtain ⟨c8, h⟩ := h
        obtain ⟨c9, h⟩ := h
        by_cases cc : ¬ (aCmp a4 0) = 0
        · replace h := h.1 cc
          have t10 : aX xc_101 (aSeek xc_101 154) [aR 64, aJ (aLand a1 (aLxor a4 ((-1)))), aU, aI a3, aJ a4, aU, aI a6] [] (SH L) (aSet (aSet M1 66 a3 v2) 66 0 (aW (((aSet M1 66 a3 v2) 66 0) + ((aSet M1 66 a3 v2) 66 a3)))) o := by
            exact aX_seg 2 (fun n g => g) (aX_le (ls := [aR 64, aJ (aLand a1 (aLxor a4 ((-1)))), aU, aI (aW (a3 + 1)), aU, aU, aU]) (ls1 := [aR 64, aJ (aLand a1 (aLxor a4 ((-1)))), aU, aI (aW (a3 + 1)), aJ a4, aU, aI a6]) (⟨Or.inr rfl, ⟨Or.inr rfl, ⟨Or.inl rfl, ⟨Or.inr rfl, ⟨Or.inl rfl, ⟨Or.inl rfl, ⟨Or.inl rfl, trivial⟩⟩⟩⟩⟩⟩⟩) h)
          exact aX_seg 22 (fun n g => ip c8 (ip c9 (ip cc (g)))) t10
        · replace h := h.2 cc
          have t11 : aX xc_101 (aSeek xc_101 153) [aR 64, aJ (aLand a1 (aLxor a4 ((-1)))), aU, aI a3, aJ a4, aU, aI a6] [] (SH L) (aSet (aSet M1 66 a3 v2) 66 0 (aW (((aSet M1 66 a3 v2) 66 0) + ((aSet M1 66 a3 v2) 66 a3)))) o := by
            subst h
            exact ⟨1, rfl⟩
          exact aX_seg 22 (fun n g => ip c8 (ip c9 (in_ cc (g)))) t11
      exact aX_seg 4 (fun n g => g) (aX_calls rfl rfl rfl k7 h2)
    exact aX_seg 5 (fun n g => ip c5 (ip cc (g))) t6
  · replace h := h.2 cc
    have t12 : aX xc_101 (aSeek xc_101 86) [aR 64, aJ a1, aU, aI a3, aJ a4, aU, aI a6] [] (SH L) M o := by
      obtain ⟨M3, v4, k13, h⟩ := h
      have h2 : aX xc_101 (aSeek xc_101 93) [aR 64, aJ a1, aU, aI a3, aJ a4, aU, aI a6] [aI v4] (SH L) M3 o := by
        by_cases cc : ¬ v4 = 1
        · replace h := h.1 cc
          have t14 : aX xc_101 (aSeek xc_101 105) [aR 64, aJ a1, aU, aI a3, aJ a4, aU, aI a6] [] (SH L) M3 o := by
            exact h
          exact aX_seg 2 (fun n g => ip cc (g)) t14
        · replace h := h.2 cc
          have t15 : aX xc_101 (aSeek xc_101 97) [aR 64, aJ a1, aU, aI a3, aJ a4, aU, aI a6] [] (SH L) M3 o := by
            obtain ⟨c16, h⟩ := h
            exact aX_seg 5 (fun n g => ip c16 (g)) (h)
          exact aX_seg 2 (fun n g => in_ cc (g)) t15
      exact aX_seg 2 (fun n g => g) (aX_calls rfl rfl rfl k13 h2)
    exact aX_seg 5 (fun n g => ip c5 (in_ cc (g))) t12
set_option maxRecDepth 100000 in
theorem bl_101_105 {L : Nat} {a1 a3 a4 a6 : Int} {M : aM} {o : aO} (h : aX xc_101 (aSeek xc_101 74) [aR 64, aJ a1, aU, aI a3, aJ a4, aU, aI (aW (a6 + 1))] [] (SH L) M o) : aX xc_101 (aSeek xc_101 105) [aR 64, aJ a1, aU, aI a3, aJ a4, aU, aI a6] [] (SH L) M o := by
  exact aX_seg 2 (fun n g => g) (h)
/- TypeLock.drops(I)I -/
set_option maxRecDepth 100000 in
theorem en_102 {L : Nat} {a1 : Int} {M : aM} {o : aO} (h : (∃ (M1 : aM) (v2 : Int), aE 63 [aR 31, aI a1] (SH L) M ([aI v2], (SH L), M1) ∧ ((¬ v2 = 0 → (∃ (M3 : aM), aE 80 [aR 1] (SH L) M1 ([], (SH L), M3) ∧ (∃ (M4 : aM), aE 101 [aR 64] (SH L) M3 ([], (SH L), M4) ∧ (0 ≤ a1 ∧ a1 < aLn (SH L) 1 65) ∧ o = ([aI (M4 65 a1)], (SH L), M4)))) ∧ (¬ (¬ v2 = 0) → o = ([aI ((-1))], (SH L), M1))))) : aE 102 [aR 1, aI a1] (SH L) M o := by
  have q : aX xc_102 (aSeek xc_102 0) [aR 1, aI a1] [] (SH L) M o := by
    obtain ⟨M1, v2, k5, h⟩ := h
    have h2 : aX xc_102 (aSeek xc_102 8) [aR 1, aI a1] [aI v2] (SH L) M1 o := by
      by_cases cc : ¬ v2 = 0
      · replace h := h.1 cc
        have t6 : aX xc_102 (aSeek xc_102 13) [aR 1, aI a1] [] (SH L) M1 o := by
          obtain ⟨M3, k7, h⟩ := h
          have h2 : aX xc_102 (aSeek xc_102 17) [aR 1, aI a1] [] (SH L) M3 o := by
            obtain ⟨M4, k8, h⟩ := h
            have h2 : aX xc_102 (aSeek xc_102 24) [aR 1, aI a1] [] (SH L) M4 o := by
              obtain ⟨c9, h⟩ := h
              subst h
              exact ⟨6, ip c9 (rfl)⟩
            exact aX_seg 2 (fun n g => g) (aX_callv (rfl) rfl rfl rfl k8 h2)
          exact aX_seg 1 (fun n g => g) (aX_callv (rfl) rfl rfl rfl k7 h2)
        exact aX_seg 1 (fun n g => ip cc (g)) t6
      · replace h := h.2 cc
        have t10 : aX xc_102 (aSeek xc_102 11) [aR 1, aI a1] [] (SH L) M1 o := by
          subst h
          exact ⟨2, rfl⟩
        exact aX_seg 1 (fun n g => in_ cc (g)) t10
    exact aX_seg 3 (fun n g => g) (aX_callv (rfl) rfl rfl rfl k5 h2)
  exact q
/- TypeLock.round(I)I -/
set_option maxRecDepth 100000 in
theorem en_103 {L : Nat} {a1 : Int} {M : aM} {o : aO} (h : ((0 ≤ a1 → (∃ (M1 : aM), aE 80 [aR 1] (SH L) M ([], (SH L), M1) ∧ (∃ (M2 : aM), aE 101 [aR 64] (SH L) M1 ([], (SH L), M2) ∧ ((40 < a1 → o = ([aI 0], (SH L), M2)) ∧ (¬ (40 < a1) → (0 ≤ a1 ∧ a1 < aLn (SH L) 1 66) ∧ o = ([aI (M2 66 a1)], (SH L), M2)))))) ∧ (¬ (0 ≤ a1) → o = ([aI ((-1))], (SH L), M)))) : aE 103 [aR 1, aI a1] (SH L) M o := by
  have q : aX xc_103 (aSeek xc_103 0) [aR 1, aI a1] [] (SH L) M o := by
    by_cases cc : 0 ≤ a1
    · replace h := h.1 cc
      have t3 : aX xc_103 (aSeek xc_103 6) [aR 1, aI a1] [] (SH L) M o := by
        obtain ⟨M1, k4, h⟩ := h
        have h2 : aX xc_103 (aSeek xc_103 10) [aR 1, aI a1] [] (SH L) M1 o := by
          obtain ⟨M2, k5, h⟩ := h
          have h2 : aX xc_103 (aSeek xc_103 17) [aR 1, aI a1] [] (SH L) M2 o := by
            by_cases cc : 40 < a1
            · replace h := h.1 cc
              have t6 : aX xc_103 (aSeek xc_103 35) [aR 1, aI a1] [] (SH L) M2 o := by
                subst h
                exact ⟨2, rfl⟩
              exact aX_seg 3 (fun n g => ip cc (g)) t6
            · replace h := h.2 cc
              have t7 : aX xc_103 (aSeek xc_103 23) [aR 1, aI a1] [] (SH L) M2 o := by
                obtain ⟨c8, h⟩ := h
                subst h
                exact ⟨7, ip c8 (rfl)⟩
              exact aX_seg 3 (fun n g => in_ cc (g)) t7
          exact aX_seg 2 (fun n g => g) (aX_callv (rfl) rfl rfl rfl k5 h2)
        exact aX_seg 1 (fun n g => g) (aX_callv (rfl) rfl rfl rfl k4 h2)
      exact aX_seg 2 (fun n g => ip cc (g)) t3
    · replace h := h.2 cc
      have t9 : aX xc_103 (aSeek xc_103 4) [aR 1, aI a1] [] (SH L) M o := by
        subst h
        exact ⟨2, rfl⟩
      exact aX_seg 2 (fun n g => in_ cc (g)) t9
  exact q
/- TypeLock$Pushes.keptBy(I)I -/
set_option maxRecDepth 100000 in
theorem en_104 {L : Nat} {a1 : Int} {M : aM} {o : aO} (h : (aK (SH L) (M 64 5) = 10 ∧ ∃ (M1 : aM) (v2 : Int), aE 63 [aR (M 64 5), aI a1] (SH L) M ([aI v2], (SH L), M1) ∧ ((¬ v2 = 0 → (0 ≤ a1 ∧ a1 < aLn (SH L) 1 83) ∧ ((¬ (M1 83 a1) = ((-1)) → (0 ≤ a1 ∧ a1 < aLn (SH L) 1 83) ∧ o = ([aI (M1 83 a1)], (SH L), M1)) ∧ (¬ (¬ (M1 83 a1) = ((-1))) → (aK (SH L) (M1 64 5) = 10 ∧ ∃ (M3 : aM) (v4 : Int), aE 81 [aR (M1 64 5)] (SH L) M1 ([aJ v4], (SH L), M3) ∧ (aK (SH L) (M3 64 5) = 10 ∧ ∃ (M5 : aM) (v6 : Int), aE 81 [aR (M3 64 5)] (SH L) M3 ([aJ v6], (SH L), M5) ∧ (aK (SH L) (M5 64 5) = 10) ∧ (∃ (M7 : aM) (v8 : Int), aE 98 [aR 64, aJ v6, aI (M5 (M5 64 5) 8)] (SH L) M5 ([aJ v8], (SH L), M7) ∧ (aK (SH L) (M7 64 5) = 10) ∧ (∃ (M9 : aM) (v10 : Int), aE 98 [aR 64, aJ (aLand v4 (aLxor (aLsl 1 a1) ((-1)))), aI (M7 (M7 64 5) 8)] (SH L) M7 ([aJ v10], (SH L), M9) ∧ (∃ (M11 : aM) (v12 : Int), aE 86 [aJ (aLand (aLand v8 (aLand v4 (aLxor (aLsl 1 a1) ((-1))))) (aLxor v10 ((-1))))] (SH L) M9 ([aI v12], (SH L), M11) ∧ (0 ≤ a1 ∧ a1 < aLn (SH L) 1 83) ∧ (0 ≤ a1 ∧ a1 < aLn (SH L) 1 83) ∧ o = ([aI ((aSet M11 83 a1 v12) 83 a1)], (SH L), aSet M11 83 a1 v12))))))))) ∧ (¬ (¬ v2 = 0) → o = ([aI 0], (SH L), M1))))) : aE 104 [aR 64, aI a1] (SH L) M o := by
  have q : aX xc_104 (aSeek xc_104 0) [aR 64, aI a1, aU, aU, aU, aU] [] (SH L) M o := by
    obtain ⟨c13, h⟩ := h
    obtain ⟨M1, v2, k14, h⟩ := h
    have h2 : aX xc_104 (aSeek xc_104 8) [aR 64, aI a1, aU, aU, aU, aU] [aI v2] (SH L) M1 o := by
      by_cases cc : ¬ v2 = 0
      · replace h := h.1 cc
        have t15 : aX xc_104 (aSeek xc_104 13) [aR 64, aI a1, aU, aU, aU, aU] [] (SH L) M1 o := by
          obtain ⟨c16, h⟩ := h
          by_cases cc : ¬ (M1 83 a1) = ((-1))
          · replace h := h.1 cc
            have t17 : aX xc_104 (aSeek xc_104 89) [aR 64, aI a1, aU, aU, aU, aU] [] (SH L) M1 o := by
              obtain ⟨c18, h⟩ := h
              subst h
              exact ⟨5, ip c18 (rfl)⟩
            exact aX_seg 6 (fun n g => ip c16 (ip cc (g))) t17
          · replace h := h.2 cc
            have t19 : aX xc_104 (aSeek xc_104 23) [aR 64, aI a1, aU, aU, aU, aU] [] (SH L) M1 o := by
              obtain ⟨c20, h⟩ := h
              obtain ⟨M3, v4, k21, h⟩ := h
              have h2 : aX xc_104 (aSeek xc_104 30) [aR 64, aI a1, aU, aU, aU, aU] [aJ v4] (SH L) M3 o := by
                obtain ⟨c22, h⟩ := h
                obtain ⟨M5, v6, k23, h⟩ := h
                have h2 : aX xc_104 (aSeek xc_104 47) [aR 64, aI a1, aJ (aLand v4 (aLxor (aLsl 1 a1) ((-1)))), aU, aU, aU] [aJ v6, aR 64] (SH L) M5 o := by
                  obtain ⟨c24, h⟩ := h
                  obtain ⟨M7, v8, k25, h⟩ := h
                  have h2 : aX xc_104 (aSeek xc_104 57) [aR 64, aI a1, aJ (aLand v4 (aLxor (aLsl 1 a1) ((-1)))), aU, aU, aU] [aJ v8] (SH L) M7 o := by
                    obtain ⟨c26, h⟩ := h
                    obtain ⟨M9, v10, k27, h⟩ := h
                    have h2 : aX xc_104 (aSeek xc_104 80) [aR 64, aI a1, aJ (aLand v4 (aLxor (aLsl 1 a1) ((-1)))), aU, aJ v8, aU] [aJ v10, aJ (aLand v8 (aLand v4 (aLxor (aLsl 1 a1) ((-1))))), aI a1, aR 83] (SH L) M9 o := by
                      obtain ⟨M11, v12, k28, h⟩ := h
                      have h2 : aX xc_104 (aSeek xc_104 88) [aR 64, aI a1, aJ (aLand v4 (aLxor (aLsl 1 a1) ((-1)))), aU, aJ v8, aU] [aI v12, aI a1, aR 83] (SH L) M11 o := by
                        obtain ⟨c29, h⟩ := h
                        obtain ⟨c30, h⟩ := h
                        subst h
                        exact ⟨6, ip c29 (ip c30 (rfl))⟩
                      exact aX_seg 3 (fun n g => g) (aX_calls rfl rfl rfl k28 h2)
                    exact aX_seg 12 (fun n g => ip c26 (g)) (aX_callv (rfl) rfl rfl rfl k27 h2)
                  exact aX_seg 3 (fun n g => ip c24 (g)) (aX_callv (rfl) rfl rfl rfl k25 h2)
                exact aX_seg 10 (fun n g => g) (aX_callv (c22) rfl rfl rfl k23 h2)
              exact aX_seg 2 (fun n g => g) (aX_callv (c20) rfl rfl rfl k21 h2)
            exact aX_seg 6 (fun n g => ip c16 (in_ cc (g))) t19
        exact aX_seg 1 (fun n g => ip cc (g)) t15
      · replace h := h.2 cc
        have t31 : aX xc_104 (aSeek xc_104 11) [aR 64, aI a1, aU, aU, aU, aU] [] (SH L) M1 o := by
          subst h
          exact ⟨2, rfl⟩
        exact aX_seg 1 (fun n g => in_ cc (g)) t31
    exact aX_seg 3 (fun n g => g) (aX_callv (c13) rfl rfl rfl k14 h2)
  exact q
/- TypeLock.keeps(I)I -/
set_option maxRecDepth 100000 in
theorem en_105 {L : Nat} {a1 : Int} {M : aM} {o : aO} (h : (∃ (M1 : aM) (v2 : Int), aE 63 [aR 31, aI a1] (SH L) M ([aI v2], (SH L), M1) ∧ ((¬ v2 = 0 → (∃ (M3 : aM), aE 80 [aR 1] (SH L) M1 ([], (SH L), M3) ∧ (∃ (M4 : aM) (v5 : Int), aE 104 [aR 64, aI a1] (SH L) M3 ([aI v5], (SH L), M4) ∧ o = ([aI v5], (SH L), M4)))) ∧ (¬ (¬ v2 = 0) → o = ([aI ((-1))], (SH L), M1))))) : aE 105 [aR 1, aI a1] (SH L) M o := by
  have q : aX xc_105 (aSeek xc_105 0) [aR 1, aI a1] [] (SH L) M o := by
    obtain ⟨M1, v2, k6, h⟩ := h
    have h2 : aX xc_105 (aSeek xc_105 8) [aR 1, aI a1] [aI v2] (SH L) M1 o := by
      by_cases cc : ¬ v2 = 0
      · replace h := h.1 cc
        have t7 : aX xc_105 (aSeek xc_105 13) [aR 1, aI a1] [] (SH L) M1 o := by
          obtain ⟨M3, k8, h⟩ := h
          have h2 : aX xc_105 (aSeek xc_105 17) [aR 1, aI a1] [] (SH L) M3 o := by
            obtain ⟨M4, v5, k9, h⟩ := h
            have h2 : aX xc_105 (aSeek xc_105 25) [aR 1, aI a1] [aI v5] (SH L) M4 o := by
              subst h
              exact ⟨1, rfl⟩
            exact aX_seg 3 (fun n g => g) (aX_callv (rfl) rfl rfl rfl k9 h2)
          exact aX_seg 1 (fun n g => g) (aX_callv (rfl) rfl rfl rfl k8 h2)
        exact aX_seg 1 (fun n g => ip cc (g)) t7
      · replace h := h.2 cc
        have t10 : aX xc_105 (aSeek xc_105 11) [aR 1, aI a1] [] (SH L) M1 o := by
          subst h
          exact ⟨2, rfl⟩
        exact aX_seg 1 (fun n g => in_ cc (g)) t10
    exact aX_seg 3 (fun n g => g) (aX_callv (rfl) rfl rfl rfl k6 h2)
  exact q
/- TypeLock.key()I -/
set_option maxRecDepth 100000 in
theorem en_106 {L : Nat} {M : aM} {o : aO} (h : ((¬ (M 31 0) = 0 → (∃ (M1 : aM), aE 80 [aR 1] (SH L) M ([], (SH L), M1) ∧ aX xc_106 (aSeek xc_106 21) [aR 1, aI 0, aI 1] [] (SH L) M1 o)) ∧ (¬ (¬ (M 31 0) = 0) → o = ([aI ((-2))], (SH L), M)))) : aE 106 [aR 1] (SH L) M o := by
  have q : aX xc_106 (aSeek xc_106 0) [aR 1, aU, aU] [] (SH L) M o := by
    by_cases cc : ¬ (M 31 0) = 0
    · replace h := h.1 cc
      have t2 : aX xc_106 (aSeek xc_106 13) [aR 1, aU, aU] [] (SH L) M o := by
        obtain ⟨M1, k3, h⟩ := h
        have h2 : aX xc_106 (aSeek xc_106 17) [aR 1, aU, aU] [] (SH L) M1 o := by
          exact aX_seg 4 (fun n g => g) (h)
        exact aX_seg 1 (fun n g => g) (aX_callv (rfl) rfl rfl rfl k3 h2)
      exact aX_seg 4 (fun n g => ip cc (g)) t2
    · replace h := h.2 cc
      have t4 : aX xc_106 (aSeek xc_106 10) [aR 1, aU, aU] [] (SH L) M o := by
        subst h
        exact ⟨2, rfl⟩
      exact aX_seg 4 (fun n g => in_ cc (g)) t4
  exact q
set_option maxRecDepth 100000 in
theorem bl_106_21 {L : Nat} {a1 a2 : Int} {M : aM} {o : aO} (h : (((M 31 0) ≤ a2 → o = ([aI a1], (SH L), M)) ∧ (¬ ((M 31 0) ≤ a2) → (∃ (M1 : aM) (v2 : Int), aE 104 [aR 64, aI a2] (SH L) M ([aI v2], (SH L), M1) ∧ (∃ (M3 : aM) (v4 : Int), aE 104 [aR 64, aI a1] (SH L) M1 ([aI v4], (SH L), M3) ∧ ((v2 ≤ v4 → aX xc_106 (aSeek xc_106 53) [aR 1, aI a1, aI a2] [] (SH L) M3 o) ∧ (¬ (v2 ≤ v4) → aX xc_106 (aSeek xc_106 53) [aR 1, aI a2, aI a2] [] (SH L) M3 o))))))) : aX xc_106 (aSeek xc_106 21) [aR 1, aI a1, aI a2] [] (SH L) M o := by
  by_cases cc : (M 31 0) ≤ a2
  · replace h := h.1 cc
    have t5 : aX xc_106 (aSeek xc_106 59) [aR 1, aI a1, aI a2] [] (SH L) M o := by
      subst h
      exact ⟨2, rfl⟩
    exact aX_seg 5 (fun n g => ip cc (g)) t5
  · replace h := h.2 cc
    have t6 : aX xc_106 (aSeek xc_106 32) [aR 1, aI a1, aI a2] [] (SH L) M o := by
      obtain ⟨M1, v2, k7, h⟩ := h
      have h2 : aX xc_106 (aSeek xc_106 40) [aR 1, aI a1, aI a2] [aI v2] (SH L) M1 o := by
        obtain ⟨M3, v4, k8, h⟩ := h
        have h2 : aX xc_106 (aSeek xc_106 48) [aR 1, aI a1, aI a2] [aI v4, aI v2] (SH L) M3 o := by
          by_cases cc : v2 ≤ v4
          · replace h := h.1 cc
            have t9 : aX xc_106 (aSeek xc_106 53) [aR 1, aI a1, aI a2] [] (SH L) M3 o := by
              exact h
            exact aX_seg 1 (fun n g => ip cc (g)) t9
          · replace h := h.2 cc
            have t10 : aX xc_106 (aSeek xc_106 51) [aR 1, aI a1, aI a2] [] (SH L) M3 o := by
              exact aX_seg 2 (fun n g => g) (h)
            exact aX_seg 1 (fun n g => in_ cc (g)) t10
        exact aX_seg 3 (fun n g => g) (aX_callv (rfl) rfl rfl rfl k8 h2)
      exact aX_seg 3 (fun n g => g) (aX_callv (rfl) rfl rfl rfl k7 h2)
    exact aX_seg 5 (fun n g => in_ cc (g)) t6
set_option maxRecDepth 100000 in
theorem bl_106_53 {L : Nat} {a1 a2 : Int} {M : aM} {o : aO} (h : aX xc_106 (aSeek xc_106 21) [aR 1, aI a1, aI (aW (a2 + 1))] [] (SH L) M o) : aX xc_106 (aSeek xc_106 53) [aR 1, aI a1, aI a2] [] (SH L) M o := by
  exact aX_seg 2 (fun n g => g) (h)
/- TypeLock.seeming(I)I -/
set_option maxRecDepth 100000 in
theorem en_107 {L : Nat} {a1 : Int} {M : aM} {o : aO} (h : (∃ (M1 : aM), aE 80 [aR 1] (SH L) M ([], (SH L), M1) ∧ (∃ (M2 : aM) (v3 : Int), aE 81 [aR 31] (SH L) M1 ([aJ v3], (SH L), M2) ∧ (∃ (M4 : aM) (v5 : Int), aE 81 [aR 31] (SH L) M2 ([aJ v5], (SH L), M4) ∧ (∃ (M6 : aM) (v7 : Int), aE 98 [aR 64, aJ v5, aI (M4 31 8)] (SH L) M4 ([aJ v7], (SH L), M6) ∧ aX xc_107 (aSeek xc_107 44) [aR 1, aU, aJ (aLand v3 (aLxor v7 ((-1)))), aU, aI a1, aI 0] [] (SH L) M6 o))))) : aE 107 [aR 1, aI a1] (SH L) M o := by
  have q : aX xc_107 (aSeek xc_107 0) [aR 1, aI a1, aU, aU, aU, aU] [] (SH L) M o := by
    obtain ⟨M1, k8, h⟩ := h
    have h2 : aX xc_107 (aSeek xc_107 4) [aR 1, aI a1, aU, aU, aU, aU] [] (SH L) M1 o := by
      obtain ⟨M2, v3, k9, h⟩ := h
      have h2 : aX xc_107 (aSeek xc_107 11) [aR 1, aI a1, aU, aU, aU, aU] [aJ v3] (SH L) M2 o := by
        obtain ⟨M4, v5, k10, h⟩ := h
        have h2 : aX xc_107 (aSeek xc_107 22) [aR 1, aI a1, aU, aU, aU, aU] [aJ v5, aR 64, aJ v3] (SH L) M4 o := by
          obtain ⟨M6, v7, k11, h⟩ := h
          have h2 : aX xc_107 (aSeek xc_107 32) [aR 1, aI a1, aU, aU, aU, aU] [aJ v7, aJ v3] (SH L) M6 o := by
            exact aX_seg 8 (fun n g => g) (aX_le (ls := [aR 1, aU, aJ (aLand v3 (aLxor v7 ((-1)))), aU, aI a1, aI 0]) (ls1 := [aR 1, aI a1, aJ (aLand v3 (aLxor v7 ((-1)))), aU, aI a1, aI 0]) (⟨Or.inr rfl, ⟨Or.inl rfl, ⟨Or.inr rfl, ⟨Or.inl rfl, ⟨Or.inr rfl, ⟨Or.inr rfl, trivial⟩⟩⟩⟩⟩⟩) h)
          exact aX_seg 3 (fun n g => g) (aX_callv (rfl) rfl rfl rfl k11 h2)
        exact aX_seg 4 (fun n g => g) (aX_callv (rfl) rfl rfl rfl k10 h2)
      exact aX_seg 2 (fun n g => g) (aX_callv (rfl) rfl rfl rfl k9 h2)
    exact aX_seg 1 (fun n g => g) (aX_callv (rfl) rfl rfl rfl k8 h2)
  exact q
set_option maxRecDepth 100000 in
theorem bl_107_44 {L : Nat} {a2 a4 a5 : Int} {M : aM} {o : aO} (h : (((M 31 0) ≤ a5 → o = ([aI ((-1))], (SH L), M)) ∧ (¬ ((M 31 0) ≤ a5) → ((a4 < 0 → o = ([aI ((-1))], (SH L), M)) ∧ (¬ (a4 < 0) → (∃ (M1 : aM) (v2 : Int), aE 84 [aJ a2, aI a5] (SH L) M ([aI v2], (SH L), M1) ∧ ((¬ v2 = 1 → aX xc_107 (aSeek xc_107 94) [aR 1, aU, aJ a2, aU, aI a4, aI a5] [] (SH L) M1 o) ∧ (¬ (¬ v2 = 1) → (∃ (M3 : aM) (v4 : Int), aE 104 [aR 64, aI a5] (SH L) M1 ([aI v4], (SH L), M3) ∧ ((v4 ≤ 0 → aX xc_107 (aSeek xc_107 94) [aR 1, aU, aJ a2, aU, aI a4, aI a5] [] (SH L) M3 o) ∧ (¬ (v4 ≤ 0) → ((¬ a4 = 0 → aX xc_107 (aSeek xc_107 94) [aR 1, aU, aJ a2, aU, aI (aW (a4 + (-1))), aI a5] [] (SH L) M3 o) ∧ (¬ (¬ a4 = 0) → o = ([aI a5], (SH L), M3)))))))))))))) : aX xc_107 (aSeek xc_107 44) [aR 1, aU, aJ a2, aU, aI a4, aI a5] [] (SH L) M o := by
  by_cases cc : (M 31 0) ≤ a5
  · replace h := h.1 cc
    have t5 : aX xc_107 (aSeek xc_107 100) [aR 1, aU, aJ a2, aU, aI a4, aI a5] [] (SH L) M o := by
      subst h
      exact ⟨2, rfl⟩
    exact aX_seg 5 (fun n g => ip cc (g)) t5
  · replace h := h.2 cc
    have t6 : aX xc_107 (aSeek xc_107 56) [aR 1, aU, aJ a2, aU, aI a4, aI a5] [] (SH L) M o := by
      by_cases cc : a4 < 0
      · replace h := h.1 cc
        have t7 : aX xc_107 (aSeek xc_107 100) [aR 1, aU, aJ a2, aU, aI a4, aI a5] [] (SH L) M o := by
          subst h
          exact ⟨2, rfl⟩
        exact aX_seg 2 (fun n g => ip cc (g)) t7
      · replace h := h.2 cc
        have t8 : aX xc_107 (aSeek xc_107 61) [aR 1, aU, aJ a2, aU, aI a4, aI a5] [] (SH L) M o := by
          obtain ⟨M1, v2, k9, h⟩ := h
          have h2 : aX xc_107 (aSeek xc_107 67) [aR 1, aU, aJ a2, aU, aI a4, aI a5] [aI v2] (SH L) M1 o := by
            by_cases cc : ¬ v2 = 1
            · replace h := h.1 cc
              have t10 : aX xc_107 (aSeek xc_107 94) [aR 1, aU, aJ a2, aU, aI a4, aI a5] [] (SH L) M1 o := by
                exact h
              exact aX_seg 2 (fun n g => ip cc (g)) t10
            · replace h := h.2 cc
              have t11 : aX xc_107 (aSeek xc_107 71) [aR 1, aU, aJ a2, aU, aI a4, aI a5] [] (SH L) M1 o := by
                obtain ⟨M3, v4, k12, h⟩ := h
                have h2 : aX xc_107 (aSeek xc_107 80) [aR 1, aU, aJ a2, aU, aI a4, aI a5] [aI v4] (SH L) M3 o := by
                  by_cases cc : v4 ≤ 0
                  · replace h := h.1 cc
                    have t13 : aX xc_107 (aSeek xc_107 94) [aR 1, aU, aJ a2, aU, aI a4, aI a5] [] (SH L) M3 o := by
                      exact h
                    exact aX_seg 1 (fun n g => ip cc (g)) t13
                  · replace h := h.2 cc
                    have t14 : aX xc_107 (aSeek xc_107 83) [aR 1, aU, aJ a2, aU, aI a4, aI a5] [] (SH L) M3 o := by
                      by_cases cc : ¬ a4 = 0
                      · replace h := h.1 cc
                        have t15 : aX xc_107 (aSeek xc_107 91) [aR 1, aU, aJ a2, aU, aI a4, aI a5] [] (SH L) M3 o := by
                          exact aX_seg 1 (fun n g => g) (h)
                        exact aX_seg 2 (fun n g => ip cc (g)) t15
                      · replace h := h.2 cc
                        have t16 : aX xc_107 (aSeek xc_107 88) [aR 1, aU, aJ a2, aU, aI a4, aI a5] [] (SH L) M3 o := by
                          subst h
                          exact ⟨2, rfl⟩
                        exact aX_seg 2 (fun n g => in_ cc (g)) t16
                    exact aX_seg 1 (fun n g => in_ cc (g)) t14
                exact aX_seg 3 (fun n g => g) (aX_callv (rfl) rfl rfl rfl k12 h2)
              exact aX_seg 2 (fun n g => in_ cc (g)) t11
          exact aX_seg 2 (fun n g => g) (aX_calls rfl rfl rfl k9 h2)
        exact aX_seg 2 (fun n g => in_ cc (g)) t8
    exact aX_seg 5 (fun n g => in_ cc (g)) t6
set_option maxRecDepth 100000 in
theorem bl_107_94 {L : Nat} {a2 a4 a5 : Int} {M : aM} {o : aO} (h : aX xc_107 (aSeek xc_107 44) [aR 1, aU, aJ a2, aU, aI a4, aI (aW (a5 + 1))] [] (SH L) M o) : aX xc_107 (aSeek xc_107 94) [aR 1, aU, aJ a2, aU, aI a4, aI a5] [] (SH L) M o := by
  exact aX_seg 2 (fun n g => g) (h)
/- TypeLock$Bed.sidesOn(ZI)J -/
set_option maxRecDepth 100000 in
theorem en_108 {L : Nat} {a0 a1 a2 : Int} {M : aM} {o : aO} (h : aX xc_108 (aSeek xc_108 5) [aR a0, aI a1, aI a2, aJ 0, aU, aI 0] [] (SH L) M o) : aE 108 [aR a0, aI a1, aI a2] (SH L) M o := by
  have q : aX xc_108 (aSeek xc_108 0) [aR a0, aI a1, aI a2, aU, aU, aU] [] (SH L) M o := by
    exact aX_seg 4 (fun n g => g) (h)
  exact q
set_option maxRecDepth 100000 in
theorem bl_108_5 {L : Nat} {a0 a1 a2 a3 a5 : Int} {M : aM} {o : aO} (h : (aK (SH L) a0 = 10) ∧ (((M a0 0) ≤ a5 → o = ([aJ a3], (SH L), M)) ∧ (¬ ((M a0 0) ≤ a5) → ((a1 = 0 → aX xc_108 (aSeek xc_108 76) [aR a0, aI a1, aI a2, aJ a3, aU, aI a5] [] (SH L) M o) ∧ (¬ (a1 = 0) → (aK (SH L) a0 = 10) ∧ (0 ≤ a5 ∧ a5 < aLn (SH L) 1 (aF (SH L) a0 3)) ∧ (((M (aF (SH L) a0 3) a5) = a2 → aX xc_108 (aSeek xc_108 48) [aR a0, aI a1, aI a2, aJ a3, aU, aI a5] [] (SH L) M o) ∧ (¬ ((M (aF (SH L) a0 3) a5) = a2) → (aK (SH L) a0 = 10) ∧ (0 ≤ a5 ∧ a5 < aLn (SH L) 1 (aF (SH L) a0 3)) ∧ (aK (SH L) a0 = 10) ∧ (0 ≤ a5 ∧ a5 < aLn (SH L) 1 (aF (SH L) a0 5)) ∧ ((¬ (aW ((M (aF (SH L) a0 3) a5) + (M (aF (SH L) a0 5) a5))) = a2 → aX xc_108 (aSeek xc_108 76) [aR a0, aI a1, aI a2, aJ a3, aU, aI a5] [] (SH L) M o) ∧ (¬ (¬ (aW ((M (aF (SH L) a0 3) a5) + (M (aF (SH L) a0 5) a5))) = a2) → aX xc_108 (aSeek xc_108 48) [aR a0, aI a1, aI a2, aJ a3, aU, aI a5] [] (SH L) M o))))))))) : aX xc_108 (aSeek xc_108 5) [aR a0, aI a1, aI a2, aJ a3, aU, aI a5] [] (SH L) M o := by
  obtain ⟨c1, h⟩ := h
  by_cases cc : (M a0 0) ≤ a5
  · replace h := h.1 cc
    have t2 : aX xc_108 (aSeek xc_108 144) [aR a0, aI a1, aI a2, aJ a3, aU, aI a5] [] (SH L) M o := by
      subst h
      exact ⟨2, rfl⟩
    exact aX_seg 4 (fun n g => ip c1 (ip cc (g))) t2
  · replace h := h.2 cc
    have t3 : aX xc_108 (aSeek xc_108 14) [aR a0, aI a1, aI a2, aJ a3, aU, aI a5] [] (SH L) M o := by
      by_cases cc : a1 = 0
      · replace h := h.1 cc
        have t4 : aX xc_108 (aSeek xc_108 76) [aR a0, aI a1, aI a2, aJ a3, aU, aI a5] [] (SH L) M o := by
          exact h
        exact aX_seg 2 (fun n g => ip cc (g)) t4
      · replace h := h.2 cc
        have t5 : aX xc_108 (aSeek xc_108 18) [aR a0, aI a1, aI a2, aJ a3, aU, aI a5] [] (SH L) M o := by
          obtain ⟨c6, h⟩ := h
          obtain ⟨c7, h⟩ := h
          by_cases cc : (M (aF (SH L) a0 3) a5) = a2
          · replace h := h.1 cc
            have t8 : aX xc_108 (aSeek xc_108 48) [aR a0, aI a1, aI a2, aJ a3, aU, aI a5] [] (SH L) M o := by
              exact h
            exact aX_seg 6 (fun n g => ip c6 (ip c7 (ip cc (g)))) t8
          · replace h := h.2 cc
            have t9 : aX xc_108 (aSeek xc_108 29) [aR a0, aI a1, aI a2, aJ a3, aU, aI a5] [] (SH L) M o := by
              obtain ⟨c10, h⟩ := h
              obtain ⟨c11, h⟩ := h
              obtain ⟨c12, h⟩ := h
              obtain ⟨c13, h⟩ := h
              by_cases cc : ¬ (aW ((M (aF (SH L) a0 3) a5) + (M (aF (SH L) a0 5) a5))) = a2
              · replace h := h.1 cc
                have t14 : aX xc_108 (aSeek xc_108 76) [aR a0, aI a1, aI a2, aJ a3, aU, aI a5] [] (SH L) M o := by
                  exact h
                exact aX_seg 11 (fun n g => ip c10 (ip c11 (ip c12 (ip c13 (ip cc (g)))))) t14
              · replace h := h.2 cc
                have t15 : aX xc_108 (aSeek xc_108 48) [aR a0, aI a1, aI a2, aJ a3, aU, aI a5] [] (SH L) M o := by
                  exact h
                exact aX_seg 11 (fun n g => ip c10 (ip c11 (ip c12 (ip c13 (in_ cc (g)))))) t15
            exact aX_seg 6 (fun n g => ip c6 (ip c7 (in_ cc (g)))) t9
        exact aX_seg 2 (fun n g => in_ cc (g)) t5
    exact aX_seg 4 (fun n g => ip c1 (in_ cc (g))) t3
set_option maxRecDepth 100000 in
theorem bl_108_48 {L : Nat} {a0 a1 a2 a3 a5 : Int} {M : aM} {o : aO} (h : (aK (SH L) a0 = 10) ∧ (0 ≤ a5 ∧ a5 < aLn (SH L) 1 (aF (SH L) a0 4)) ∧ (aK (SH L) a0 = 10) ∧ (0 ≤ a5 ∧ a5 < aLn (SH L) 1 (aF (SH L) a0 4)) ∧ (aK (SH L) a0 = 10) ∧ (0 ≤ a5 ∧ a5 < aLn (SH L) 1 (aF (SH L) a0 6)) ∧ (∃ (M1 : aM) (v2 : Int), aE 37 [aI (M (aF (SH L) a0 4) a5), aI (aW ((M (aF (SH L) a0 4) a5) + (M (aF (SH L) a0 6) a5)))] (SH L) M ([aJ v2], (SH L), M1) ∧ aX xc_108 (aSeek xc_108 76) [aR a0, aI a1, aI a2, aJ (aLor a3 v2), aU, aI a5] [] (SH L) M1 o)) : aX xc_108 (aSeek xc_108 48) [aR a0, aI a1, aI a2, aJ a3, aU, aI a5] [] (SH L) M o := by
  obtain ⟨c3, h⟩ := h
  obtain ⟨c4, h⟩ := h
  obtain ⟨c5, h⟩ := h
  obtain ⟨c6, h⟩ := h
  obtain ⟨c7, h⟩ := h
  obtain ⟨c8, h⟩ := h
  obtain ⟨M1, v2, k9, h⟩ := h
  have h2 : aX xc_108 (aSeek xc_108 74) [aR a0, aI a1, aI a2, aJ a3, aU, aI a5] [aJ v2, aJ a3] (SH L) M1 o := by
    exact aX_seg 2 (fun n g => g) (h)
  exact aX_seg 14 (fun n g => ip c3 (ip c4 (ip c5 (ip c6 (ip c7 (ip c8 (g))))))) (aX_calls rfl rfl rfl k9 h2)
set_option maxRecDepth 100000 in
theorem bl_108_76 {L : Nat} {a0 a1 a2 a3 a5 : Int} {M : aM} {o : aO} (h : ((¬ a1 = 0 → aX xc_108 (aSeek xc_108 138) [aR a0, aI a1, aI a2, aJ a3, aU, aI a5] [] (SH L) M o) ∧ (¬ (¬ a1 = 0) → (aK (SH L) a0 = 10) ∧ (0 ≤ a5 ∧ a5 < aLn (SH L) 1 (aF (SH L) a0 4)) ∧ (((M (aF (SH L) a0 4) a5) = a2 → aX xc_108 (aSeek xc_108 110) [aR a0, aI a1, aI a2, aJ a3, aU, aI a5] [] (SH L) M o) ∧ (¬ ((M (aF (SH L) a0 4) a5) = a2) → (aK (SH L) a0 = 10) ∧ (0 ≤ a5 ∧ a5 < aLn (SH L) 1 (aF (SH L) a0 4)) ∧ (aK (SH L) a0 = 10) ∧ (0 ≤ a5 ∧ a5 < aLn (SH L) 1 (aF (SH L) a0 6)) ∧ ((¬ (aW ((M (aF (SH L) a0 4) a5) + (M (aF (SH L) a0 6) a5))) = a2 → aX xc_108 (aSeek xc_108 138) [aR a0, aI a1, aI a2, aJ a3, aU, aI a5] [] (SH L) M o) ∧ (¬ (¬ (aW ((M (aF (SH L) a0 4) a5) + (M (aF (SH L) a0 6) a5))) = a2) → aX xc_108 (aSeek xc_108 110) [aR a0, aI a1, aI a2, aJ a3, aU, aI a5] [] (SH L) M o))))))) : aX xc_108 (aSeek xc_108 76) [aR a0, aI a1, aI a2, aJ a3, aU, aI a5] [] (SH L) M o := by
  by_cases cc : ¬ a1 = 0
  · replace h := h.1 cc
    have t1 : aX xc_108 (aSeek xc_108 138) [aR a0, aI a1, aI a2, aJ a3, aU, aI a5] [] (SH L) M o := by
      exact h
    exact aX_seg 2 (fun n g => ip cc (g)) t1
  · replace h := h.2 cc
    have t2 : aX xc_108 (aSeek xc_108 80) [aR a0, aI a1, aI a2, aJ a3, aU, aI a5] [] (SH L) M o := by
      obtain ⟨c3, h⟩ := h
      obtain ⟨c4, h⟩ := h
      by_cases cc : (M (aF (SH L) a0 4) a5) = a2
      · replace h := h.1 cc
        have t5 : aX xc_108 (aSeek xc_108 110) [aR a0, aI a1, aI a2, aJ a3, aU, aI a5] [] (SH L) M o := by
          exact h
        exact aX_seg 6 (fun n g => ip c3 (ip c4 (ip cc (g)))) t5
      · replace h := h.2 cc
        have t6 : aX xc_108 (aSeek xc_108 91) [aR a0, aI a1, aI a2, aJ a3, aU, aI a5] [] (SH L) M o := by
          obtain ⟨c7, h⟩ := h
          obtain ⟨c8, h⟩ := h
          obtain ⟨c9, h⟩ := h
          obtain ⟨c10, h⟩ := h
          by_cases cc : ¬ (aW ((M (aF (SH L) a0 4) a5) + (M (aF (SH L) a0 6) a5))) = a2
          · replace h := h.1 cc
            have t11 : aX xc_108 (aSeek xc_108 138) [aR a0, aI a1, aI a2, aJ a3, aU, aI a5] [] (SH L) M o := by
              exact h
            exact aX_seg 11 (fun n g => ip c7 (ip c8 (ip c9 (ip c10 (ip cc (g)))))) t11
          · replace h := h.2 cc
            have t12 : aX xc_108 (aSeek xc_108 110) [aR a0, aI a1, aI a2, aJ a3, aU, aI a5] [] (SH L) M o := by
              exact h
            exact aX_seg 11 (fun n g => ip c7 (ip c8 (ip c9 (ip c10 (in_ cc (g)))))) t12
        exact aX_seg 6 (fun n g => ip c3 (ip c4 (in_ cc (g)))) t6
    exact aX_seg 2 (fun n g => in_ cc (g)) t2
set_option maxRecDepth 100000 in
theorem bl_108_110 {L : Nat} {a0 a1 a2 a3 a5 : Int} {M : aM} {o : aO} (h : (aK (SH L) a0 = 10) ∧ (0 ≤ a5 ∧ a5 < aLn (SH L) 1 (aF (SH L) a0 3)) ∧ (aK (SH L) a0 = 10) ∧ (0 ≤ a5 ∧ a5 < aLn (SH L) 1 (aF (SH L) a0 3)) ∧ (aK (SH L) a0 = 10) ∧ (0 ≤ a5 ∧ a5 < aLn (SH L) 1 (aF (SH L) a0 5)) ∧ (∃ (M1 : aM) (v2 : Int), aE 37 [aI (M (aF (SH L) a0 3) a5), aI (aW ((M (aF (SH L) a0 3) a5) + (M (aF (SH L) a0 5) a5)))] (SH L) M ([aJ v2], (SH L), M1) ∧ aX xc_108 (aSeek xc_108 138) [aR a0, aI a1, aI a2, aJ (aLor a3 v2), aU, aI a5] [] (SH L) M1 o)) : aX xc_108 (aSeek xc_108 110) [aR a0, aI a1, aI a2, aJ a3, aU, aI a5] [] (SH L) M o := by
  obtain ⟨c3, h⟩ := h
  obtain ⟨c4, h⟩ := h
  obtain ⟨c5, h⟩ := h
  obtain ⟨c6, h⟩ := h
  obtain ⟨c7, h⟩ := h
  obtain ⟨c8, h⟩ := h
  obtain ⟨M1, v2, k9, h⟩ := h
  have h2 : aX xc_108 (aSeek xc_108 136) [aR a0, aI a1, aI a2, aJ a3, aU, aI a5] [aJ v2, aJ a3] (SH L) M1 o := by
    exact aX_seg 2 (fun n g => g) (h)
  exact aX_seg 14 (fun n g => ip c3 (ip c4 (ip c5 (ip c6 (ip c7 (ip c8 (g))))))) (aX_calls rfl rfl rfl k9 h2)
set_option maxRecDepth 100000 in
theorem bl_108_138 {L : Nat} {a0 a1 a2 a3 a5 : Int} {M : aM} {o : aO} (h : aX xc_108 (aSeek xc_108 5) [aR a0, aI a1, aI a2, aJ a3, aU, aI (aW (a5 + 1))] [] (SH L) M o) : aX xc_108 (aSeek xc_108 138) [aR a0, aI a1, aI a2, aJ a3, aU, aI a5] [] (SH L) M o := by
  exact aX_seg 2 (fun n g => g) (h)
/- TypeLock.longestRun(J)I -/
set_option maxRecDepth 100000 in
theorem en_109 {L : Nat} {a0 : Int} {M : aM} {o : aO} (h : aX xc_109 (aSeek xc_109 5) [aU, aU, aJ a0, aU, aI 0] [] (SH L) M o) : aE 109 [aJ a0] (SH L) M o := by
  have q : aX xc_109 (aSeek xc_109 0) [aJ a0, aU, aU, aU, aU] [] (SH L) M o := by
    exact aX_seg 4 (fun n g => g) (aX_le (ls := [aU, aU, aJ a0, aU, aI 0]) (ls1 := [aJ a0, aU, aJ a0, aU, aI 0]) (⟨Or.inl rfl, ⟨Or.inl rfl, ⟨Or.inr rfl, ⟨Or.inl rfl, ⟨Or.inr rfl, trivial⟩⟩⟩⟩⟩) h)
  exact q
set_option maxRecDepth 100000 in
theorem bl_109_5 {L : Nat} {a2 a4 : Int} {M : aM} {o : aO} (h : (((aCmp a2 0) = 0 → o = ([aI a4], (SH L), M)) ∧ (¬ ((aCmp a2 0) = 0) → ((60 ≤ a4 → o = ([aI a4], (SH L), M)) ∧ (¬ (60 ≤ a4) → aX xc_109 (aSeek xc_109 5) [aU, aU, aJ (aLand a2 (aLsl a2 1)), aU, aI (aW (a4 + 1))] [] (SH L) M o))))) : aX xc_109 (aSeek xc_109 5) [aU, aU, aJ a2, aU, aI a4] [] (SH L) M o := by
  by_cases cc : (aCmp a2 0) = 0
  · replace h := h.1 cc
    have t1 : aX xc_109 (aSeek xc_109 30) [aU, aU, aJ a2, aU, aI a4] [] (SH L) M o := by
      subst h
      exact ⟨2, rfl⟩
    exact aX_seg 4 (fun n g => ip cc (g)) t1
  · replace h := h.2 cc
    have t2 : aX xc_109 (aSeek xc_109 11) [aU, aU, aJ a2, aU, aI a4] [] (SH L) M o := by
      by_cases cc : 60 ≤ a4
      · replace h := h.1 cc
        have t3 : aX xc_109 (aSeek xc_109 30) [aU, aU, aJ a2, aU, aI a4] [] (SH L) M o := by
          subst h
          exact ⟨2, rfl⟩
        exact aX_seg 3 (fun n g => ip cc (g)) t3
      · replace h := h.2 cc
        have t4 : aX xc_109 (aSeek xc_109 18) [aU, aU, aJ a2, aU, aI a4] [] (SH L) M o := by
          exact aX_seg 8 (fun n g => g) (h)
        exact aX_seg 3 (fun n g => in_ cc (g)) t4
    exact aX_seg 4 (fun n g => in_ cc (g)) t2
/- TypeLock.joint(ZI)I -/
set_option maxRecDepth 100000 in
theorem en_110 {L : Nat} {a1 a2 : Int} {M : aM} {o : aO} (h : ((a2 < 1 → o = ([aI ((-1))], (SH L), M)) ∧ (¬ (a2 < 1) → ((a1 = 0 → (aK (SH L) (M 1 3) = 19) ∧ aX xc_110 (aSeek xc_110 27) [aR 1, aI a1, aI a2] [aI (M (M 1 3) 1), aI a2] (SH L) M o) ∧ (¬ (a1 = 0) → (aK (SH L) (M 1 3) = 19) ∧ aX xc_110 (aSeek xc_110 27) [aR 1, aI a1, aI a2] [aI (M (M 1 3) 0), aI a2] (SH L) M o))))) : aE 110 [aR 1, aI a1, aI a2] (SH L) M o := by
  have q : aX xc_110 (aSeek xc_110 0) [aR 1, aI a1, aI a2] [] (SH L) M o := by
    by_cases cc : a2 < 1
    · replace h := h.1 cc
      have t1 : aX xc_110 (aSeek xc_110 30) [aR 1, aI a1, aI a2] [] (SH L) M o := by
        subst h
        exact ⟨2, rfl⟩
      exact aX_seg 3 (fun n g => ip cc (g)) t1
    · replace h := h.2 cc
      have t2 : aX xc_110 (aSeek xc_110 5) [aR 1, aI a1, aI a2] [] (SH L) M o := by
        by_cases cc : a1 = 0
        · replace h := h.1 cc
          have t3 : aX xc_110 (aSeek xc_110 20) [aR 1, aI a1, aI a2] [aI a2] (SH L) M o := by
            obtain ⟨c4, h⟩ := h
            exact aX_seg 3 (fun n g => ip c4 (g)) (h)
          exact aX_seg 3 (fun n g => ip cc (g)) t3
        · replace h := h.2 cc
          have t5 : aX xc_110 (aSeek xc_110 10) [aR 1, aI a1, aI a2] [aI a2] (SH L) M o := by
            obtain ⟨c6, h⟩ := h
            exact aX_seg 4 (fun n g => ip c6 (g)) (h)
          exact aX_seg 3 (fun n g => in_ cc (g)) t5
      exact aX_seg 3 (fun n g => in_ cc (g)) t2
  exact q
set_option maxRecDepth 100000 in
theorem bl_110_27 {L : Nat} {a1 a2 b0 b1 : Int} {M : aM} {o : aO} (h : ((b0 < b1 → (∃ (M1 : aM) (v2 : Int), aE 108 [aR 31, aI a1, aI a2] (SH L) M ([aJ v2], (SH L), M1) ∧ (∃ (M3 : aM) (v4 : Int), aE 109 [aJ v2] (SH L) M1 ([aI v4], (SH L), M3) ∧ o = ([aI v4], (SH L), M3)))) ∧ (¬ (b0 < b1) → o = ([aI ((-1))], (SH L), M)))) : aX xc_110 (aSeek xc_110 27) [aR 1, aI a1, aI a2] [aI b1, aI b0] (SH L) M o := by
  by_cases cc : b0 < b1
  · replace h := h.1 cc
    have t5 : aX xc_110 (aSeek xc_110 32) [aR 1, aI a1, aI a2] [] (SH L) M o := by
      obtain ⟨M1, v2, k6, h⟩ := h
      have h2 : aX xc_110 (aSeek xc_110 41) [aR 1, aI a1, aI a2] [aJ v2] (SH L) M1 o := by
        obtain ⟨M3, v4, k7, h⟩ := h
        have h2 : aX xc_110 (aSeek xc_110 44) [aR 1, aI a1, aI a2] [aI v4] (SH L) M3 o := by
          subst h
          exact ⟨1, rfl⟩
        exact aX_calls rfl rfl rfl k7 h2
      exact aX_seg 4 (fun n g => g) (aX_callv (rfl) rfl rfl rfl k6 h2)
    exact aX_seg 1 (fun n g => ip cc (g)) t5
  · replace h := h.2 cc
    have t8 : aX xc_110 (aSeek xc_110 30) [aR 1, aI a1, aI a2] [] (SH L) M o := by
      subst h
      exact ⟨2, rfl⟩
    exact aX_seg 1 (fun n g => in_ cc (g)) t8
/- TypeLock.longest()I -/
set_option maxRecDepth 100000 in
theorem en_111 {L : Nat} {M : aM} {o : aO} (h : aX xc_111 (aSeek xc_111 6) [aR 1, aI 0, aI 0, aI 1, aU] [] (SH L) M o) : aE 111 [aR 1] (SH L) M o := by
  have q : aX xc_111 (aSeek xc_111 0) [aR 1, aU, aU, aU, aU] [] (SH L) M o := by
    exact aX_seg 6 (fun n g => g) (h)
  exact q
set_option maxRecDepth 100000 in
theorem bl_111_6 {L : Nat} {a1 a2 a3 : Int} {M : aM} {o : aO} (h : (aK (SH L) (M 1 3) = 19) ∧ (((M (M 1 3) 1) ≤ a3 → aX xc_111 (aSeek xc_111 56) [aR 1, aI a1, aI a2, aI 1, aU] [] (SH L) M o) ∧ (¬ ((M (M 1 3) 1) ≤ a3) → (∃ (M1 : aM) (v2 : Int), aE 108 [aR 31, aI 0, aI a3] (SH L) M ([aJ v2], (SH L), M1) ∧ (∃ (M3 : aM) (v4 : Int), aE 109 [aJ v2] (SH L) M1 ([aI v4], (SH L), M3) ∧ ((v4 ≤ a1 → aX xc_111 (aSeek xc_111 48) [aR 1, aI a1, aI a2, aI a3, aU] [] (SH L) M3 o) ∧ (¬ (v4 ≤ a1) → aX xc_111 (aSeek xc_111 48) [aR 1, aI v4, aI (aW ((aW (100 * v4)) + a3)), aI a3, aU] [] (SH L) M3 o))))))) : aX xc_111 (aSeek xc_111 6) [aR 1, aI a1, aI a2, aI a3, aU] [] (SH L) M o := by
  obtain ⟨c5, h⟩ := h
  by_cases cc : (M (M 1 3) 1) ≤ a3
  · replace h := h.1 cc
    have t6 : aX xc_111 (aSeek xc_111 54) [aR 1, aI a1, aI a2, aI a3, aU] [] (SH L) M o := by
      exact aX_seg 2 (fun n g => g) (h)
    exact aX_seg 5 (fun n g => ip c5 (ip cc (g))) t6
  · replace h := h.2 cc
    have t7 : aX xc_111 (aSeek xc_111 17) [aR 1, aI a1, aI a2, aI a3, aU] [] (SH L) M o := by
      obtain ⟨M1, v2, k8, h⟩ := h
      have h2 : aX xc_111 (aSeek xc_111 26) [aR 1, aI a1, aI a2, aI a3, aU] [aJ v2] (SH L) M1 o := by
        obtain ⟨M3, v4, k9, h⟩ := h
        have h2 : aX xc_111 (aSeek xc_111 29) [aR 1, aI a1, aI a2, aI a3, aU] [aI v4] (SH L) M3 o := by
          by_cases cc : v4 ≤ a1
          · replace h := h.1 cc
            have t10 : aX xc_111 (aSeek xc_111 48) [aR 1, aI a1, aI a2, aI a3, aI v4] [] (SH L) M3 o := by
              exact aX_le (ls := [aR 1, aI a1, aI a2, aI a3, aU]) (ls1 := [aR 1, aI a1, aI a2, aI a3, aI v4]) (⟨Or.inr rfl, ⟨Or.inr rfl, ⟨Or.inr rfl, ⟨Or.inr rfl, ⟨Or.inl rfl, trivial⟩⟩⟩⟩⟩) h
            exact aX_seg 4 (fun n g => ip cc (g)) t10
          · replace h := h.2 cc
            have t11 : aX xc_111 (aSeek xc_111 37) [aR 1, aI a1, aI a2, aI a3, aI v4] [] (SH L) M3 o := by
              exact aX_seg 8 (fun n g => g) (aX_le (ls := [aR 1, aI v4, aI (aW ((aW (100 * v4)) + a3)), aI a3, aU]) (ls1 := [aR 1, aI v4, aI (aW ((aW (100 * v4)) + a3)), aI a3, aI v4]) (⟨Or.inr rfl, ⟨Or.inr rfl, ⟨Or.inr rfl, ⟨Or.inr rfl, ⟨Or.inl rfl, trivial⟩⟩⟩⟩⟩) h)
            exact aX_seg 4 (fun n g => in_ cc (g)) t11
        exact aX_calls rfl rfl rfl k9 h2
      exact aX_seg 4 (fun n g => g) (aX_callv (rfl) rfl rfl rfl k8 h2)
    exact aX_seg 5 (fun n g => ip c5 (in_ cc (g))) t7
set_option maxRecDepth 100000 in
theorem bl_111_48 {L : Nat} {a1 a2 a3 : Int} {M : aM} {o : aO} (h : aX xc_111 (aSeek xc_111 6) [aR 1, aI a1, aI a2, aI (aW (a3 + 1)), aU] [] (SH L) M o) : aX xc_111 (aSeek xc_111 48) [aR 1, aI a1, aI a2, aI a3, aU] [] (SH L) M o := by
  exact aX_seg 2 (fun n g => g) (h)
set_option maxRecDepth 100000 in
theorem bl_111_56 {L : Nat} {a1 a2 a3 : Int} {M : aM} {o : aO} (h : (aK (SH L) (M 1 3) = 19) ∧ (((M (M 1 3) 0) ≤ a3 → o = ([aI a2], (SH L), M)) ∧ (¬ ((M (M 1 3) 0) ≤ a3) → (∃ (M1 : aM) (v2 : Int), aE 108 [aR 31, aI 1, aI a3] (SH L) M ([aJ v2], (SH L), M1) ∧ (∃ (M3 : aM) (v4 : Int), aE 109 [aJ v2] (SH L) M1 ([aI v4], (SH L), M3) ∧ ((v4 ≤ a1 → aX xc_111 (aSeek xc_111 102) [aR 1, aI a1, aI a2, aI a3, aU] [] (SH L) M3 o) ∧ (¬ (v4 ≤ a1) → aX xc_111 (aSeek xc_111 102) [aR 1, aI v4, aI (aW ((aW ((aW (100 * v4)) + a3)) + 10000)), aI a3, aU] [] (SH L) M3 o))))))) : aX xc_111 (aSeek xc_111 56) [aR 1, aI a1, aI a2, aI a3, aU] [] (SH L) M o := by
  obtain ⟨c5, h⟩ := h
  by_cases cc : (M (M 1 3) 0) ≤ a3
  · replace h := h.1 cc
    have t6 : aX xc_111 (aSeek xc_111 108) [aR 1, aI a1, aI a2, aI a3, aU] [] (SH L) M o := by
      subst h
      exact ⟨2, rfl⟩
    exact aX_seg 5 (fun n g => ip c5 (ip cc (g))) t6
  · replace h := h.2 cc
    have t7 : aX xc_111 (aSeek xc_111 67) [aR 1, aI a1, aI a2, aI a3, aU] [] (SH L) M o := by
      obtain ⟨M1, v2, k8, h⟩ := h
      have h2 : aX xc_111 (aSeek xc_111 76) [aR 1, aI a1, aI a2, aI a3, aU] [aJ v2] (SH L) M1 o := by
        obtain ⟨M3, v4, k9, h⟩ := h
        have h2 : aX xc_111 (aSeek xc_111 79) [aR 1, aI a1, aI a2, aI a3, aU] [aI v4] (SH L) M3 o := by
          by_cases cc : v4 ≤ a1
          · replace h := h.1 cc
            have t10 : aX xc_111 (aSeek xc_111 102) [aR 1, aI a1, aI a2, aI a3, aI v4] [] (SH L) M3 o := by
              exact aX_le (ls := [aR 1, aI a1, aI a2, aI a3, aU]) (ls1 := [aR 1, aI a1, aI a2, aI a3, aI v4]) (⟨Or.inr rfl, ⟨Or.inr rfl, ⟨Or.inr rfl, ⟨Or.inr rfl, ⟨Or.inl rfl, trivial⟩⟩⟩⟩⟩) h
            exact aX_seg 4 (fun n g => ip cc (g)) t10
          · replace h := h.2 cc
            have t11 : aX xc_111 (aSeek xc_111 87) [aR 1, aI a1, aI a2, aI a3, aI v4] [] (SH L) M3 o := by
              exact aX_seg 10 (fun n g => g) (aX_le (ls := [aR 1, aI v4, aI (aW ((aW ((aW (100 * v4)) + a3)) + 10000)), aI a3, aU]) (ls1 := [aR 1, aI v4, aI (aW ((aW ((aW (100 * v4)) + a3)) + 10000)), aI a3, aI v4]) (⟨Or.inr rfl, ⟨Or.inr rfl, ⟨Or.inr rfl, ⟨Or.inr rfl, ⟨Or.inl rfl, trivial⟩⟩⟩⟩⟩) h)
            exact aX_seg 4 (fun n g => in_ cc (g)) t11
        exact aX_calls rfl rfl rfl k9 h2
      exact aX_seg 4 (fun n g => g) (aX_callv (rfl) rfl rfl rfl k8 h2)
    exact aX_seg 5 (fun n g => ip c5 (in_ cc (g))) t7
set_option maxRecDepth 100000 in
theorem bl_111_102 {L : Nat} {a1 a2 a3 : Int} {M : aM} {o : aO} (h : aX xc_111 (aSeek xc_111 56) [aR 1, aI a1, aI a2, aI (aW (a3 + 1)), aU] [] (SH L) M o) : aX xc_111 (aSeek xc_111 102) [aR 1, aI a1, aI a2, aI a3, aU] [] (SH L) M o := by
  exact aX_seg 2 (fun n g => g) (h)
/- TypeLock$Text.wedgesAt(I)I -/
set_option maxRecDepth 100000 in
theorem en_112 {L : Nat} {a0 a1 : Int} {M : aM} {o : aO} (h : aX xc_112 (aSeek xc_112 4) [aR a0, aI a1, aI 0, aI 0] [] (SH L) M o) : aE 112 [aR a0, aI a1] (SH L) M o := by
  have q : aX xc_112 (aSeek xc_112 0) [aR a0, aI a1, aU, aU] [] (SH L) M o := by
    exact aX_seg 4 (fun n g => g) (h)
  exact q
set_option maxRecDepth 100000 in
theorem bl_112_4 {L : Nat} {a0 a1 a2 a3 : Int} {M : aM} {o : aO} (h : (aK (SH L) a0 = 19) ∧ (((M a0 9) ≤ a3 → o = ([aI a2], (SH L), M)) ∧ (¬ ((M a0 9) ≤ a3) → (aK (SH L) a0 = 19) ∧ (0 ≤ a3 ∧ a3 < aLn (SH L) 1 (aF (SH L) a0 10)) ∧ ((¬ (M (aF (SH L) a0 10) a3) = a1 → aX xc_112 (aSeek xc_112 28) [aR a0, aI a1, aI a2, aI a3] [] (SH L) M o) ∧ (¬ (¬ (M (aF (SH L) a0 10) a3) = a1) → aX xc_112 (aSeek xc_112 28) [aR a0, aI a1, aI (aOr a2 (aShl 1 a3)), aI a3] [] (SH L) M o))))) : aX xc_112 (aSeek xc_112 4) [aR a0, aI a1, aI a2, aI a3] [] (SH L) M o := by
  obtain ⟨c1, h⟩ := h
  by_cases cc : (M a0 9) ≤ a3
  · replace h := h.1 cc
    have t2 : aX xc_112 (aSeek xc_112 34) [aR a0, aI a1, aI a2, aI a3] [] (SH L) M o := by
      subst h
      exact ⟨2, rfl⟩
    exact aX_seg 4 (fun n g => ip c1 (ip cc (g))) t2
  · replace h := h.2 cc
    have t3 : aX xc_112 (aSeek xc_112 12) [aR a0, aI a1, aI a2, aI a3] [] (SH L) M o := by
      obtain ⟨c4, h⟩ := h
      obtain ⟨c5, h⟩ := h
      by_cases cc : ¬ (M (aF (SH L) a0 10) a3) = a1
      · replace h := h.1 cc
        have t6 : aX xc_112 (aSeek xc_112 28) [aR a0, aI a1, aI a2, aI a3] [] (SH L) M o := by
          exact h
        exact aX_seg 6 (fun n g => ip c4 (ip c5 (ip cc (g)))) t6
      · replace h := h.2 cc
        have t7 : aX xc_112 (aSeek xc_112 22) [aR a0, aI a1, aI a2, aI a3] [] (SH L) M o := by
          exact aX_seg 6 (fun n g => g) (h)
        exact aX_seg 6 (fun n g => ip c4 (ip c5 (in_ cc (g)))) t7
    exact aX_seg 4 (fun n g => ip c1 (in_ cc (g))) t3
set_option maxRecDepth 100000 in
theorem bl_112_28 {L : Nat} {a0 a1 a2 a3 : Int} {M : aM} {o : aO} (h : aX xc_112 (aSeek xc_112 4) [aR a0, aI a1, aI a2, aI (aW (a3 + 1))] [] (SH L) M o) : aX xc_112 (aSeek xc_112 28) [aR a0, aI a1, aI a2, aI a3] [] (SH L) M o := by
  exact aX_seg 2 (fun n g => g) (h)
/- TypeLock$Pushes.countHeldBySet([I)V -/
set_option maxRecDepth 100000 in
theorem en_113 {L : Nat} {a1 : Int} {M : aM} {o : aO} (h : (aK (SH L) (M 64 4) = 19) ∧ (aK (SH L) a1 = 1) ∧ (aK (SH L) (M 64 5) = 10 ∧ ∃ (M1 : aM) (v2 : Int), aE 81 [aR (M 64 5)] (SH L) M ([aJ v2], (SH L), M1) ∧ aX xc_113 (aSeek xc_113 26) [aR 64, aR a1, aI (min (aShl 1 (M (M 64 4) 9)) (aL (SH L) a1)), aJ v2, aU, aI 0, aU, aU, aU, aU, aU, aU, aU, aU] [] (SH L) M1 o)) : aE 113 [aR 64, aR a1] (SH L) M o := by
  have q : aX xc_113 (aSeek xc_113 0) [aR 64, aR a1, aU, aU, aU, aU, aU, aU, aU, aU, aU, aU, aU, aU] [] (SH L) M o := by
    obtain ⟨c3, h⟩ := h
    obtain ⟨c4, h⟩ := h
    obtain ⟨c5, h⟩ := h
    obtain ⟨M1, v2, k6, h⟩ := h
    have h2 : aX xc_113 (aSeek xc_113 22) [aR 64, aR a1, aI (min (aShl 1 (M (M 64 4) 9)) (aL (SH L) a1)), aU, aU, aU, aU, aU, aU, aU, aU, aU, aU, aU] [aJ v2] (SH L) M1 o := by
      exact aX_seg 3 (fun n g => g) (h)
    exact aX_seg 11 (fun n g => ip c3 (ip c4 (g))) (aX_callv (c5) rfl rfl rfl k6 h2)
  exact q
set_option maxRecDepth 100000 in
theorem bl_113_26 {L : Nat} {a1 a2 a3 a5 : Int} {M : aM} {o : aO} (h : ((4 ≤ a5 → (∃ (M1 : aM) (v2 : Int), aE 95 [aR 64, aI 0, aJ a3] (SH L) M ([aJ v2], (SH L), M1) ∧ (∃ (M3 : aM) (v4 : Int), aE 95 [aR 64, aI 1, aJ a3] (SH L) M1 ([aJ v4], (SH L), M3) ∧ (∃ (M5 : aM) (v6 : Int), aE 95 [aR 64, aI 2, aJ a3] (SH L) M3 ([aJ v6], (SH L), M5) ∧ (∃ (M7 : aM) (v8 : Int), aE 95 [aR 64, aI 3, aJ a3] (SH L) M5 ([aJ v8], (SH L), M7) ∧ aX xc_113 (aSeek xc_113 146) [aR 64, aR a1, aI a2, aU, aU, aJ v2, aU, aJ v4, aU, aJ v6, aU, aJ v8, aU, aI 0] [] (SH L) M7 o))))) ∧ (¬ (4 ≤ a5) → (aK (SH L) (M 64 4) = 19 ∧ ∃ (M9 : aM) (v10 : Int), aE 112 [aR (M 64 4), aI a5] (SH L) M ([aI v10], (SH L), M9) ∧ aX xc_113 (aSeek xc_113 48) [aR 64, aR a1, aI a2, aJ a3, aU, aI a5, aI (aXor v10 ((-1))), aI 0, aU, aU, aU, aU, aU, aU] [] (SH L) M9 o)))) : aX xc_113 (aSeek xc_113 26) [aR 64, aR a1, aI a2, aJ a3, aU, aI a5, aU, aU, aU, aU, aU, aU, aU, aU] [] (SH L) M o := by
  by_cases cc : 4 ≤ a5
  · replace h := h.1 cc
    have t11 : aX xc_113 (aSeek xc_113 111) [aR 64, aR a1, aI a2, aJ a3, aU, aI a5, aU, aU, aU, aU, aU, aU, aU, aU] [] (SH L) M o := by
      obtain ⟨M1, v2, k12, h⟩ := h
      have h2 : aX xc_113 (aSeek xc_113 117) [aR 64, aR a1, aI a2, aJ a3, aU, aI a5, aU, aU, aU, aU, aU, aU, aU, aU] [aJ v2] (SH L) M1 o := by
        obtain ⟨M3, v4, k13, h⟩ := h
        have h2 : aX xc_113 (aSeek xc_113 125) [aR 64, aR a1, aI a2, aJ a3, aU, aJ v2, aU, aU, aU, aU, aU, aU, aU, aU] [aJ v4] (SH L) M3 o := by
          obtain ⟨M5, v6, k14, h⟩ := h
          have h2 : aX xc_113 (aSeek xc_113 133) [aR 64, aR a1, aI a2, aJ a3, aU, aJ v2, aU, aJ v4, aU, aU, aU, aU, aU, aU] [aJ v6] (SH L) M5 o := by
            obtain ⟨M7, v8, k15, h⟩ := h
            have h2 : aX xc_113 (aSeek xc_113 141) [aR 64, aR a1, aI a2, aJ a3, aU, aJ v2, aU, aJ v4, aU, aJ v6, aU, aU, aU, aU] [aJ v8] (SH L) M7 o := by
              exact aX_seg 3 (fun n g => g) (aX_le (ls := [aR 64, aR a1, aI a2, aU, aU, aJ v2, aU, aJ v4, aU, aJ v6, aU, aJ v8, aU, aI 0]) (ls1 := [aR 64, aR a1, aI a2, aJ a3, aU, aJ v2, aU, aJ v4, aU, aJ v6, aU, aJ v8, aU, aI 0]) (⟨Or.inr rfl, ⟨Or.inr rfl, ⟨Or.inr rfl, ⟨Or.inl rfl, ⟨Or.inl rfl, ⟨Or.inr rfl, ⟨Or.inl rfl, ⟨Or.inr rfl, ⟨Or.inl rfl, ⟨Or.inr rfl, ⟨Or.inl rfl, ⟨Or.inr rfl, ⟨Or.inl rfl, ⟨Or.inr rfl, trivial⟩⟩⟩⟩⟩⟩⟩⟩⟩⟩⟩⟩⟩⟩) h)
            exact aX_seg 4 (fun n g => g) (aX_callv (rfl) rfl rfl rfl k15 h2)
          exact aX_seg 4 (fun n g => g) (aX_callv (rfl) rfl rfl rfl k14 h2)
        exact aX_seg 4 (fun n g => g) (aX_callv (rfl) rfl rfl rfl k13 h2)
      exact aX_seg 3 (fun n g => g) (aX_callv (rfl) rfl rfl rfl k12 h2)
    exact aX_seg 3 (fun n g => ip cc (g)) t11
  · replace h := h.2 cc
    have t16 : aX xc_113 (aSeek xc_113 32) [aR 64, aR a1, aI a2, aJ a3, aU, aI a5, aU, aU, aU, aU, aU, aU, aU, aU] [] (SH L) M o := by
      obtain ⟨c17, h⟩ := h
      obtain ⟨M9, v10, k18, h⟩ := h
      have h2 : aX xc_113 (aSeek xc_113 41) [aR 64, aR a1, aI a2, aJ a3, aU, aI a5, aU, aU, aU, aU, aU, aU, aU, aU] [aI v10] (SH L) M9 o := by
        exact aX_seg 5 (fun n g => g) (h)
      exact aX_seg 3 (fun n g => g) (aX_callv (c17) rfl rfl rfl k18 h2)
    exact aX_seg 3 (fun n g => in_ cc (g)) t16
set_option maxRecDepth 100000 in
theorem bl_113_48 {L : Nat} {a1 a2 a3 a5 a6 a7 : Int} {M : aM} {o : aO} (h : ((a2 ≤ a7 → aX xc_113 (aSeek xc_113 26) [aR 64, aR a1, aI a2, aJ a3, aU, aI (aW (a5 + 1)), aU, aU, aU, aU, aU, aU, aU, aU] [] (SH L) M o) ∧ (¬ (a2 ≤ a7) → (0 ≤ a5 ∧ a5 < aLn (SH L) 7 78) ∧ ((¬ (aAnd a7 a6) = 0 → (0 ≤ a5 ∧ a5 < aLn (SH L) 7 78) ∧ (0 ≤ aAnd a7 (aXor a6 ((-1))) ∧ aAnd a7 (aXor a6 ((-1))) < aLn (SH L) 2 (aF (SH L) 78 (a5).toNat)) ∧ aX xc_113 (aSeek xc_113 98) [aR 64, aR a1, aI a2, aJ a3, aU, aI a5, aI a6, aI a7, aU, aU, aU, aU, aU, aU] [aJ (M (aF (SH L) 78 (a5).toNat) (aAnd a7 (aXor a6 ((-1))))), aI a7, aR (aF (SH L) 78 (a5).toNat)] (SH L) M o) ∧ (¬ (¬ (aAnd a7 a6) = 0) → (∃ (M1 : aM) (v2 : Int), aE 93 [aR 64, aI a5, aJ a3, aI a7] (SH L) M ([aJ v2], (SH L), M1) ∧ aX xc_113 (aSeek xc_113 98) [aR 64, aR a1, aI a2, aJ a3, aU, aI a5, aI a6, aI a7, aU, aU, aU, aU, aU, aU] [aJ v2, aI a7, aR (aF (SH L) 78 (a5).toNat)] (SH L) M1 o)))))) : aX xc_113 (aSeek xc_113 48) [aR 64, aR a1, aI a2, aJ a3, aU, aI a5, aI a6, aI a7, aU, aU, aU, aU, aU, aU] [] (SH L) M o := by
  by_cases cc : a2 ≤ a7
  · replace h := h.1 cc
    have t3 : aX xc_113 (aSeek xc_113 105) [aR 64, aR a1, aI a2, aJ a3, aU, aI a5, aI a6, aI a7, aU, aU, aU, aU, aU, aU] [] (SH L) M o := by
      exact aX_seg 2 (fun n g => g) (aX_le (ls := [aR 64, aR a1, aI a2, aJ a3, aU, aI (aW (a5 + 1)), aU, aU, aU, aU, aU, aU, aU, aU]) (ls1 := [aR 64, aR a1, aI a2, aJ a3, aU, aI (aW (a5 + 1)), aI a6, aI a7, aU, aU, aU, aU, aU, aU]) (⟨Or.inr rfl, ⟨Or.inr rfl, ⟨Or.inr rfl, ⟨Or.inr rfl, ⟨Or.inl rfl, ⟨Or.inr rfl, ⟨Or.inl rfl, ⟨Or.inl rfl, ⟨Or.inl rfl, ⟨Or.inl rfl, ⟨Or.inl rfl, ⟨Or.inl rfl, ⟨Or.inl rfl, ⟨Or.inl rfl, trivial⟩⟩⟩⟩⟩⟩⟩⟩⟩⟩⟩⟩⟩⟩) h)
    exact aX_seg 3 (fun n g => ip cc (g)) t3
  · replace h := h.2 cc
    have t4 : aX xc_113 (aSeek xc_113 54) [aR 64, aR a1, aI a2, aJ a3, aU, aI a5, aI a6, aI a7, aU, aU, aU, aU, aU, aU] [] (SH L) M o := by
      obtain ⟨c5, h⟩ := h
      by_cases cc : ¬ (aAnd a7 a6) = 0
      · replace h := h.1 cc
        have t6 : aX xc_113 (aSeek xc_113 83) [aR 64, aR a1, aI a2, aJ a3, aU, aI a5, aI a6, aI a7, aU, aU, aU, aU, aU, aU] [aI a7, aR (aF (SH L) 78 (a5).toNat)] (SH L) M o := by
          obtain ⟨c7, h⟩ := h
          obtain ⟨c8, h⟩ := h
          exact aX_seg 10 (fun n g => ip c7 (ip c8 (g))) (h)
        exact aX_seg 9 (fun n g => ip c5 (ip cc (g))) t6
      · replace h := h.2 cc
        have t9 : aX xc_113 (aSeek xc_113 71) [aR 64, aR a1, aI a2, aJ a3, aU, aI a5, aI a6, aI a7, aU, aU, aU, aU, aU, aU] [aI a7, aR (aF (SH L) 78 (a5).toNat)] (SH L) M o := by
          obtain ⟨M1, v2, k10, h⟩ := h
          have h2 : aX xc_113 (aSeek xc_113 80) [aR 64, aR a1, aI a2, aJ a3, aU, aI a5, aI a6, aI a7, aU, aU, aU, aU, aU, aU] [aJ v2, aI a7, aR (aF (SH L) 78 (a5).toNat)] (SH L) M1 o := by
            exact aX_seg 1 (fun n g => g) (h)
          exact aX_seg 4 (fun n g => g) (aX_callv (rfl) rfl rfl rfl k10 h2)
        exact aX_seg 9 (fun n g => ip c5 (in_ cc (g))) t9
    exact aX_seg 3 (fun n g => in_ cc (g)) t4
set_option maxRecDepth 100000 in
theorem bl_113_98 {L : Nat} {a1 a2 a3 a5 a6 a7 b0 b1 b2 : Int} {M : aM} {o : aO} (h : (0 ≤ b1 ∧ b1 < aLn (SH L) 2 b0) ∧ aX xc_113 (aSeek xc_113 48) [aR 64, aR a1, aI a2, aJ a3, aU, aI a5, aI a6, aI (aW (a7 + 1)), aU, aU, aU, aU, aU, aU] [] (SH L) (aSet M b0 b1 b2) o) : aX xc_113 (aSeek xc_113 98) [aR 64, aR a1, aI a2, aJ a3, aU, aI a5, aI a6, aI a7, aU, aU, aU, aU, aU, aU] [aJ b2, aI b1, aR b0] (SH L) M o := by
  obtain ⟨c1, h⟩ := h
  exact aX_seg 3 (fun n g => ip c1 (g)) (h)
set_option maxRecDepth 100000 in
theorem bl_113_146 {L : Nat} {a1 a2 a5 a7 a9 a11 a13 : Int} {M : aM} {o : aO} (h : ((a2 ≤ a13 → o = ([], (SH L), M)) ∧ (¬ (a2 ≤ a13) → (0 ≤ a13 ∧ a13 < aLn (SH L) 2 82) ∧ (0 ≤ a13 ∧ a13 < aLn (SH L) 2 80) ∧ (0 ≤ a13 ∧ a13 < aLn (SH L) 2 79) ∧ (0 ≤ a13 ∧ a13 < aLn (SH L) 2 81) ∧ (∃ (M1 : aM) (v2 : Int), aE 97 [aR 64, aJ (aLor (aLand (M 82 a13) a7) (aLand (M 80 a13) a11)), aJ (aLor (aLand (M 79 a13) a9) (aLand (M 81 a13) a5))] (SH L) M ([aJ v2], (SH L), M1) ∧ (∃ (M3 : aM) (v4 : Int), aE 86 [aJ v2] (SH L) M1 ([aI v4], (SH L), M3) ∧ (0 ≤ a13 ∧ a13 < aLn (SH L) 1 a1) ∧ aX xc_113 (aSeek xc_113 146) [aR 64, aR a1, aI a2, aU, aU, aJ a5, aU, aJ a7, aU, aJ a9, aU, aJ a11, aU, aI (aW (a13 + 1))] [] (SH L) (aSet M3 a1 a13 v4) o))))) : aX xc_113 (aSeek xc_113 146) [aR 64, aR a1, aI a2, aU, aU, aJ a5, aU, aJ a7, aU, aJ a9, aU, aJ a11, aU, aI a13] [] (SH L) M o := by
  by_cases cc : a2 ≤ a13
  · replace h := h.1 cc
    have t5 : aX xc_113 (aSeek xc_113 219) [aR 64, aR a1, aI a2, aU, aU, aJ a5, aU, aJ a7, aU, aJ a9, aU, aJ a11, aU, aI a13] [] (SH L) M o := by
      subst h
      exact ⟨1, rfl⟩
    exact aX_seg 3 (fun n g => ip cc (g)) t5
  · replace h := h.2 cc
    have t6 : aX xc_113 (aSeek xc_113 152) [aR 64, aR a1, aI a2, aU, aU, aJ a5, aU, aJ a7, aU, aJ a9, aU, aJ a11, aU, aI a13] [] (SH L) M o := by
      obtain ⟨c7, h⟩ := h
      obtain ⟨c8, h⟩ := h
      obtain ⟨c9, h⟩ := h
      obtain ⟨c10, h⟩ := h
      obtain ⟨M1, v2, k11, h⟩ := h
      have h2 : aX xc_113 (aSeek xc_113 209) [aR 64, aR a1, aI a2, aU, aU, aJ a5, aU, aJ a7, aU, aJ a9, aU, aJ a11, aU, aI a13] [aJ v2, aI a13, aR a1] (SH L) M1 o := by
        obtain ⟨M3, v4, k12, h⟩ := h
        have h2 : aX xc_113 (aSeek xc_113 212) [aR 64, aR a1, aI a2, aU, aU, aJ a5, aU, aJ a7, aU, aJ a9, aU, aJ a11, aU, aI a13] [aI v4, aI a13, aR a1] (SH L) M3 o := by
          obtain ⟨c13, h⟩ := h
          exact aX_seg 3 (fun n g => ip c13 (g)) (h)
        exact aX_calls rfl rfl rfl k12 h2
      exact aX_seg 37 (fun n g => ip c7 (ip c8 (ip c9 (ip c10 (g))))) (aX_callv (rfl) rfl rfl rfl k11 h2)
    exact aX_seg 3 (fun n g => in_ cc (g)) t6
/- java/lang/Integer.bitCount(I)I -/
set_option maxRecDepth 100000 in
theorem en_114 {L : Nat} {a0 : Int} {M : aM} {o : aO} (h : o = ([aI (aAnd (aW ((aW ((aAnd (aW ((aW ((aAnd (aW (a0 - (aAnd (aUsh a0 1) 1431655765))) 858993459) + (aAnd (aUsh (aW (a0 - (aAnd (aUsh a0 1) 1431655765))) 2) 858993459))) + (aUsh (aW ((aAnd (aW (a0 - (aAnd (aUsh a0 1) 1431655765))) 858993459) + (aAnd (aUsh (aW (a0 - (aAnd (aUsh a0 1) 1431655765))) 2) 858993459))) 4))) 252645135) + (aUsh (aAnd (aW ((aW ((aAnd (aW (a0 - (aAnd (aUsh a0 1) 1431655765))) 858993459) + (aAnd (aUsh (aW (a0 - (aAnd (aUsh a0 1) 1431655765))) 2) 858993459))) + (aUsh (aW ((aAnd (aW (a0 - (aAnd (aUsh a0 1) 1431655765))) 858993459) + (aAnd (aUsh (aW (a0 - (aAnd (aUsh a0 1) 1431655765))) 2) 858993459))) 4))) 252645135) 8))) + (aUsh (aW ((aAnd (aW ((aW ((aAnd (aW (a0 - (aAnd (aUsh a0 1) 1431655765))) 858993459) + (aAnd (aUsh (aW (a0 - (aAnd (aUsh a0 1) 1431655765))) 2) 858993459))) + (aUsh (aW ((aAnd (aW (a0 - (aAnd (aUsh a0 1) 1431655765))) 858993459) + (aAnd (aUsh (aW (a0 - (aAnd (aUsh a0 1) 1431655765))) 2) 858993459))) 4))) 252645135) + (aUsh (aAnd (aW ((aW ((aAnd (aW (a0 - (aAnd (aUsh a0 1) 1431655765))) 858993459) + (aAnd (aUsh (aW (a0 - (aAnd (aUsh a0 1) 1431655765))) 2) 858993459))) + (aUsh (aW ((aAnd (aW (a0 - (aAnd (aUsh a0 1) 1431655765))) 858993459) + (aAnd (aUsh (aW (a0 - (aAnd (aUsh a0 1) 1431655765))) 2) 858993459))) 4))) 252645135) 8))) 16))) 63)], (SH L), M)) : aE 114 [aI a0] (SH L) M o := by
  have q : aX xc_114 (aSeek xc_114 0) [aI a0] [] (SH L) M o := by
    subst h
    exact ⟨42, rfl⟩
  exact q
/- TypeLock$Orders.chooseNext(II)V -/
set_option maxRecDepth 100000 in
theorem en_115 {L : Nat} {a1 a2 : Int} {M : aM} {o : aO} (h : (∃ (M1 : aM) (v2 : Int), aE 114 [aI a1] (SH L) M ([aI v2], (SH L), M1) ∧ aX xc_115 (aSeek xc_115 10) [aR 84, aI a1, aI a2, aJ 1, aU, aI (aW (v2 + 1)), aU, aU, aU] [] (SH L) M1 o)) : aE 115 [aR 84, aI a1, aI a2] (SH L) M o := by
  have q : aX xc_115 (aSeek xc_115 0) [aR 84, aI a1, aI a2, aU, aU, aU, aU, aU, aU] [] (SH L) M o := by
    obtain ⟨M1, v2, k3, h⟩ := h
    have h2 : aX xc_115 (aSeek xc_115 6) [aR 84, aI a1, aI a2, aJ 1, aU, aU, aU, aU, aU] [aI v2] (SH L) M1 o := by
      exact aX_seg 3 (fun n g => g) (h)
    exact aX_seg 3 (fun n g => g) (aX_calls rfl rfl rfl k3 h2)
  exact q
set_option maxRecDepth 100000 in
theorem bl_115_10 {L : Nat} {a1 a2 a3 a5 : Int} {M : aM} {o : aO} (h : ((a2 ≤ a5 → (0 ≤ a1 ∧ a1 < aLn (SH L) 2 88) ∧ aX xc_115 (aSeek xc_115 40) [aR 84, aI a1, aI a2, aJ a3, aU, aI 0, aU, aU, aU] [] (SH L) (aSet M 88 a1 ((-1))) o) ∧ (¬ (a2 ≤ a5) → aX xc_115 (aSeek xc_115 10) [aR 84, aI a1, aI a2, aJ (aWL (a3 * 64)), aU, aI (aW (a5 + 1)), aU, aU, aU] [] (SH L) M o))) : aX xc_115 (aSeek xc_115 10) [aR 84, aI a1, aI a2, aJ a3, aU, aI a5, aU, aU, aU] [] (SH L) M o := by
  by_cases cc : a2 ≤ a5
  · replace h := h.1 cc
    have t1 : aX xc_115 (aSeek xc_115 28) [aR 84, aI a1, aI a2, aJ a3, aU, aI a5, aU, aU, aU] [] (SH L) M o := by
      obtain ⟨c2, h⟩ := h
      exact aX_seg 7 (fun n g => ip c2 (g)) (h)
    exact aX_seg 3 (fun n g => ip cc (g)) t1
  · replace h := h.2 cc
    have t3 : aX xc_115 (aSeek xc_115 16) [aR 84, aI a1, aI a2, aJ a3, aU, aI a5, aU, aU, aU] [] (SH L) M o := by
      exact aX_seg 6 (fun n g => g) (h)
    exact aX_seg 3 (fun n g => in_ cc (g)) t3
set_option maxRecDepth 100000 in
theorem bl_115_40 {L : Nat} {a1 a2 a3 a5 : Int} {M : aM} {o : aO} (h : ((a2 ≤ a5 → o = ([], (SH L), M)) ∧ (¬ (a2 ≤ a5) → ((6 ≤ a5 → o = ([], (SH L), M)) ∧ (¬ (6 ≤ a5) → (((aOr a1 (aShl 1 a5)) = a1 → aX xc_115 (aSeek xc_115 115) [aR 84, aI a1, aI a2, aJ a3, aU, aI a5, aU, aU, aU] [] (SH L) M o) ∧ (¬ ((aOr a1 (aShl 1 a5)) = a1) → (0 ≤ aOr a1 (aShl 1 a5) ∧ aOr a1 (aShl 1 a5) < aLn (SH L) 1 87) ∧ (0 ≤ aOr a1 (aShl 1 a5) ∧ aOr a1 (aShl 1 a5) < aLn (SH L) 2 88) ∧ (0 ≤ a1 ∧ a1 < aLn (SH L) 2 88) ∧ (((aCmp (aWL ((aWL (a3 * (M 87 (aOr a1 (aShl 1 a5))))) + (M 88 (aOr a1 (aShl 1 a5))))) (M 88 a1)) ≤ 0 → aX xc_115 (aSeek xc_115 115) [aR 84, aI a1, aI a2, aJ a3, aU, aI a5, aU, aU, aU] [] (SH L) M o) ∧ (¬ ((aCmp (aWL ((aWL (a3 * (M 87 (aOr a1 (aShl 1 a5))))) + (M 88 (aOr a1 (aShl 1 a5))))) (M 88 a1)) ≤ 0) → (0 ≤ a1 ∧ a1 < aLn (SH L) 2 88) ∧ (0 ≤ a1 ∧ a1 < aLn (SH L) 1 89) ∧ aX xc_115 (aSeek xc_115 115) [aR 84, aI a1, aI a2, aJ a3, aU, aI a5, aU, aU, aU] [] (SH L) (aSet (aSet M 88 a1 (aWL ((aWL (a3 * (M 87 (aOr a1 (aShl 1 a5))))) + (M 88 (aOr a1 (aShl 1 a5)))))) 89 a1 a5) o))))))))) : aX xc_115 (aSeek xc_115 40) [aR 84, aI a1, aI a2, aJ a3, aU, aI a5, aU, aU, aU] [] (SH L) M o := by
  by_cases cc : a2 ≤ a5
  · replace h := h.1 cc
    have t1 : aX xc_115 (aSeek xc_115 121) [aR 84, aI a1, aI a2, aJ a3, aU, aI a5, aU, aU, aU] [] (SH L) M o := by
      subst h
      exact ⟨1, rfl⟩
    exact aX_seg 3 (fun n g => ip cc (g)) t1
  · replace h := h.2 cc
    have t2 : aX xc_115 (aSeek xc_115 46) [aR 84, aI a1, aI a2, aJ a3, aU, aI a5, aU, aU, aU] [] (SH L) M o := by
      by_cases cc : 6 ≤ a5
      · replace h := h.1 cc
        have t3 : aX xc_115 (aSeek xc_115 121) [aR 84, aI a1, aI a2, aJ a3, aU, aI a5, aU, aU, aU] [] (SH L) M o := by
          subst h
          exact ⟨1, rfl⟩
        exact aX_seg 3 (fun n g => ip cc (g)) t3
      · replace h := h.2 cc
        have t4 : aX xc_115 (aSeek xc_115 53) [aR 84, aI a1, aI a2, aJ a3, aU, aI a5, aU, aU, aU] [] (SH L) M o := by
          by_cases cc : (aOr a1 (aShl 1 a5)) = a1
          · replace h := h.1 cc
            have t5 : aX xc_115 (aSeek xc_115 115) [aR 84, aI a1, aI a2, aJ a3, aU, aI a5, aI (aOr a1 (aShl 1 a5)), aU, aU] [] (SH L) M o := by
              exact aX_le (ls := [aR 84, aI a1, aI a2, aJ a3, aU, aI a5, aU, aU, aU]) (ls1 := [aR 84, aI a1, aI a2, aJ a3, aU, aI a5, aI (aOr a1 (aShl 1 a5)), aU, aU]) (⟨Or.inr rfl, ⟨Or.inr rfl, ⟨Or.inr rfl, ⟨Or.inr rfl, ⟨Or.inl rfl, ⟨Or.inr rfl, ⟨Or.inl rfl, ⟨Or.inl rfl, ⟨Or.inl rfl, trivial⟩⟩⟩⟩⟩⟩⟩⟩⟩) h
            exact aX_seg 9 (fun n g => ip cc (g)) t5
          · replace h := h.2 cc
            have t6 : aX xc_115 (aSeek xc_115 67) [aR 84, aI a1, aI a2, aJ a3, aU, aI a5, aI (aOr a1 (aShl 1 a5)), aU, aU] [] (SH L) M o := by
              obtain ⟨c7, h⟩ := h
              obtain ⟨c8, h⟩ := h
              obtain ⟨c9, h⟩ := h
              by_cases cc : (aCmp (aWL ((aWL (a3 * (M 87 (aOr a1 (aShl 1 a5))))) + (M 88 (aOr a1 (aShl 1 a5))))) (M 88 a1)) ≤ 0
              · replace h := h.1 cc
                have t10 : aX xc_115 (aSeek xc_115 115) [aR 84, aI a1, aI a2, aJ a3, aU, aI a5, aI (aOr a1 (aShl 1 a5)), aJ (aWL ((aWL (a3 * (M 87 (aOr a1 (aShl 1 a5))))) + (M 88 (aOr a1 (aShl 1 a5))))), aU] [] (SH L) M o := by
                  exact aX_le (ls := [aR 84, aI a1, aI a2, aJ a3, aU, aI a5, aU, aU, aU]) (ls1 := [aR 84, aI a1, aI a2, aJ a3, aU, aI a5, aI (aOr a1 (aShl 1 a5)), aJ (aWL ((aWL (a3 * (M 87 (aOr a1 (aShl 1 a5))))) + (M 88 (aOr a1 (aShl 1 a5))))), aU]) (⟨Or.inr rfl, ⟨Or.inr rfl, ⟨Or.inr rfl, ⟨Or.inr rfl, ⟨Or.inl rfl, ⟨Or.inr rfl, ⟨Or.inl rfl, ⟨Or.inl rfl, ⟨Or.inl rfl, trivial⟩⟩⟩⟩⟩⟩⟩⟩⟩) h
                exact aX_seg 20 (fun n g => ip c7 (ip c8 (ip c9 (ip cc (g))))) t10
              · replace h := h.2 cc
                have t11 : aX xc_115 (aSeek xc_115 99) [aR 84, aI a1, aI a2, aJ a3, aU, aI a5, aI (aOr a1 (aShl 1 a5)), aJ (aWL ((aWL (a3 * (M 87 (aOr a1 (aShl 1 a5))))) + (M 88 (aOr a1 (aShl 1 a5))))), aU] [] (SH L) M o := by
                  obtain ⟨c12, h⟩ := h
                  obtain ⟨c13, h⟩ := h
                  exact aX_seg 10 (fun n g => ip c12 (ip c13 (g))) (aX_le (ls := [aR 84, aI a1, aI a2, aJ a3, aU, aI a5, aU, aU, aU]) (ls1 := [aR 84, aI a1, aI a2, aJ a3, aU, aI a5, aI (aOr a1 (aShl 1 a5)), aJ (aWL ((aWL (a3 * (M 87 (aOr a1 (aShl 1 a5))))) + (M 88 (aOr a1 (aShl 1 a5))))), aU]) (⟨Or.inr rfl, ⟨Or.inr rfl, ⟨Or.inr rfl, ⟨Or.inr rfl, ⟨Or.inl rfl, ⟨Or.inr rfl, ⟨Or.inl rfl, ⟨Or.inl rfl, ⟨Or.inl rfl, trivial⟩⟩⟩⟩⟩⟩⟩⟩⟩) h)
                exact aX_seg 20 (fun n g => ip c7 (ip c8 (ip c9 (in_ cc (g))))) t11
            exact aX_seg 9 (fun n g => in_ cc (g)) t6
        exact aX_seg 3 (fun n g => in_ cc (g)) t4
    exact aX_seg 3 (fun n g => in_ cc (g)) t2
set_option maxRecDepth 100000 in
theorem bl_115_115 {L : Nat} {a1 a2 a3 a5 : Int} {M : aM} {o : aO} (h : aX xc_115 (aSeek xc_115 40) [aR 84, aI a1, aI a2, aJ a3, aU, aI (aW (a5 + 1)), aU, aU, aU] [] (SH L) M o) : aX xc_115 (aSeek xc_115 115) [aR 84, aI a1, aI a2, aJ a3, aU, aI a5, aU, aU, aU] [] (SH L) M o := by
  exact aX_seg 2 (fun n g => g) (h)
/- TypeLock$Orders.find(LTypeLock$Pushes;II)V -/
set_option maxRecDepth 100000 in
theorem en_116 {L : Nat} {a1 a2 a3 : Int} {M : aM} {o : aO} (h : ((¬ (M 84 5) = a3 → (aK (SH L) a1 = 17 ∧ ∃ (M1 : aM), aE 113 [aR a1, aR 87] (SH L) (aSet M 84 5 a3) ([], (SH L), M1) ∧ (0 ≤ aW ((aShl 1 (min a2 6)) - 1) ∧ aW ((aShl 1 (min a2 6)) - 1) < aLn (SH L) 2 88) ∧ aX xc_116 (aSeek xc_116 48) [aR 84, aU, aI a2, aU, aU, aI (aW ((aW ((aShl 1 (min a2 6)) - 1)) - 1)), aU] [] (SH L) (aSet M1 88 (aW ((aShl 1 (min a2 6)) - 1)) 0) o)) ∧ (¬ (¬ (M 84 5) = a3) → o = ([], (SH L), M)))) : aE 116 [aR 84, aR a1, aI a2, aI a3] (SH L) M o := by
  have q : aX xc_116 (aSeek xc_116 0) [aR 84, aR a1, aI a2, aI a3, aU, aU, aU] [] (SH L) M o := by
    by_cases cc : ¬ (M 84 5) = a3
    · replace h := h.1 cc
      have t2 : aX xc_116 (aSeek xc_116 9) [aR 84, aR a1, aI a2, aI a3, aU, aU, aU] [] (SH L) M o := by
        obtain ⟨c3, h⟩ := h
        obtain ⟨M1, k4, h⟩ := h
        have h2 : aX xc_116 (aSeek xc_116 22) [aR 84, aR a1, aI a2, aI a3, aU, aU, aU] [] (SH L) M1 o := by
          obtain ⟨c5, h⟩ := h
          exact aX_seg 17 (fun n g => ip c5 (g)) (aX_le (ls := [aR 84, aU, aI a2, aU, aU, aI (aW ((aW ((aShl 1 (min a2 6)) - 1)) - 1)), aU]) (ls1 := [aR 84, aR a1, aI a2, aI a3, aI (aW ((aShl 1 (min a2 6)) - 1)), aI (aW ((aW ((aShl 1 (min a2 6)) - 1)) - 1)), aU]) (⟨Or.inr rfl, ⟨Or.inl rfl, ⟨Or.inr rfl, ⟨Or.inl rfl, ⟨Or.inl rfl, ⟨Or.inr rfl, ⟨Or.inl rfl, trivial⟩⟩⟩⟩⟩⟩⟩) h)
        exact aX_seg 6 (fun n g => g) (aX_callv (c3) rfl rfl rfl k4 h2)
      exact aX_seg 4 (fun n g => ip cc (g)) t2
    · replace h := h.2 cc
      have t6 : aX xc_116 (aSeek xc_116 8) [aR 84, aR a1, aI a2, aI a3, aU, aU, aU] [] (SH L) M o := by
        subst h
        exact ⟨1, rfl⟩
      exact aX_seg 4 (fun n g => in_ cc (g)) t6
  exact q
set_option maxRecDepth 100000 in
theorem bl_116_48 {L : Nat} {a2 a5 : Int} {M : aM} {o : aO} (h : ((a5 < 0 → aX xc_116 (aSeek xc_116 72) [aR 84, aU, aI a2, aU, aU, aI 0, aI 0] [] (SH L) M o) ∧ (¬ (a5 < 0) → (∃ (M1 : aM), aE 115 [aR 84, aI a5, aI a2] (SH L) M ([], (SH L), M1) ∧ aX xc_116 (aSeek xc_116 48) [aR 84, aU, aI a2, aU, aU, aI (aW (a5 + (-1))), aU] [] (SH L) M1 o)))) : aX xc_116 (aSeek xc_116 48) [aR 84, aU, aI a2, aU, aU, aI a5, aU] [] (SH L) M o := by
  by_cases cc : a5 < 0
  · replace h := h.1 cc
    have t2 : aX xc_116 (aSeek xc_116 66) [aR 84, aU, aI a2, aU, aU, aI a5, aU] [] (SH L) M o := by
      exact aX_seg 4 (fun n g => g) (h)
    exact aX_seg 2 (fun n g => ip cc (g)) t2
  · replace h := h.2 cc
    have t3 : aX xc_116 (aSeek xc_116 53) [aR 84, aU, aI a2, aU, aU, aI a5, aU] [] (SH L) M o := by
      obtain ⟨M1, k4, h⟩ := h
      have h2 : aX xc_116 (aSeek xc_116 60) [aR 84, aU, aI a2, aU, aU, aI a5, aU] [] (SH L) M1 o := by
        exact aX_seg 2 (fun n g => g) (h)
      exact aX_seg 3 (fun n g => g) (aX_callv (rfl) rfl rfl rfl k4 h2)
    exact aX_seg 2 (fun n g => in_ cc (g)) t3
set_option maxRecDepth 100000 in
theorem bl_116_72 {L : Nat} {a2 a5 a6 : Int} {M : aM} {o : aO} (h : ((a2 ≤ a6 → o = ([], (SH L), M)) ∧ (¬ (a2 ≤ a6) → ((6 ≤ a6 → o = ([], (SH L), M)) ∧ (¬ (6 ≤ a6) → (0 ≤ a5 ∧ a5 < aLn (SH L) 1 89) ∧ (0 ≤ a6 ∧ a6 < aLn (SH L) 1 85) ∧ (0 ≤ a5 ∧ a5 < aLn (SH L) 1 89) ∧ (0 ≤ aOr a5 (aShl 1 ((aSet M 85 a6 (M 89 a5)) 89 a5)) ∧ aOr a5 (aShl 1 ((aSet M 85 a6 (M 89 a5)) 89 a5)) < aLn (SH L) 1 87) ∧ (0 ≤ a6 ∧ a6 < aLn (SH L) 1 86) ∧ aX xc_116 (aSeek xc_116 72) [aR 84, aU, aI a2, aU, aU, aI (aOr a5 (aShl 1 ((aSet M 85 a6 (M 89 a5)) 89 a5))), aI (aW (a6 + 1))] [] (SH L) (aSet (aSet M 85 a6 (M 89 a5)) 86 a6 ((aSet M 85 a6 (M 89 a5)) 87 (aOr a5 (aShl 1 ((aSet M 85 a6 (M 89 a5)) 89 a5))))) o))))) : aX xc_116 (aSeek xc_116 72) [aR 84, aU, aI a2, aU, aU, aI a5, aI a6] [] (SH L) M o := by
  by_cases cc : a2 ≤ a6
  · replace h := h.1 cc
    have t1 : aX xc_116 (aSeek xc_116 133) [aR 84, aU, aI a2, aU, aU, aI a5, aI a6] [] (SH L) M o := by
      subst h
      exact ⟨1, rfl⟩
    exact aX_seg 3 (fun n g => ip cc (g)) t1
  · replace h := h.2 cc
    have t2 : aX xc_116 (aSeek xc_116 78) [aR 84, aU, aI a2, aU, aU, aI a5, aI a6] [] (SH L) M o := by
      by_cases cc : 6 ≤ a6
      · replace h := h.1 cc
        have t3 : aX xc_116 (aSeek xc_116 133) [aR 84, aU, aI a2, aU, aU, aI a5, aI a6] [] (SH L) M o := by
          subst h
          exact ⟨1, rfl⟩
        exact aX_seg 3 (fun n g => ip cc (g)) t3
      · replace h := h.2 cc
        have t4 : aX xc_116 (aSeek xc_116 85) [aR 84, aU, aI a2, aU, aU, aI a5, aI a6] [] (SH L) M o := by
          obtain ⟨c5, h⟩ := h
          obtain ⟨c6, h⟩ := h
          obtain ⟨c7, h⟩ := h
          obtain ⟨c8, h⟩ := h
          obtain ⟨c9, h⟩ := h
          exact aX_seg 27 (fun n g => ip c5 (ip c6 (ip c7 (ip c8 (ip c9 (g)))))) (h)
        exact aX_seg 3 (fun n g => in_ cc (g)) t4
    exact aX_seg 3 (fun n g => in_ cc (g)) t2
/- TypeLock.order(I)I -/
set_option maxRecDepth 100000 in
theorem en_117 {L : Nat} {a1 : Int} {M : aM} {o : aO} (h : ((a1 < 0 → o = ([aI ((-1))], (SH L), M)) ∧ (¬ (a1 < 0) → (aK (SH L) (M 1 3) = 19) ∧ ((a1 < (M (M 1 3) 9) → (∃ (M1 : aM), aE 80 [aR 1] (SH L) M ([], (SH L), M1) ∧ (aK (SH L) (M1 1 3) = 19) ∧ (∃ (M2 : aM), aE 116 [aR 84, aR 64, aI (M1 (M1 1 3) 9), aI (M1 1 9)] (SH L) M1 ([], (SH L), M2) ∧ (0 ≤ a1 ∧ a1 < aLn (SH L) 1 85) ∧ o = ([aI (M2 85 a1)], (SH L), M2)))) ∧ (¬ (a1 < (M (M 1 3) 9)) → o = ([aI ((-1))], (SH L), M)))))) : aE 117 [aR 1, aI a1] (SH L) M o := by
  have q : aX xc_117 (aSeek xc_117 0) [aR 1, aI a1] [] (SH L) M o := by
    by_cases cc : a1 < 0
    · replace h := h.1 cc
      have t3 : aX xc_117 (aSeek xc_117 15) [aR 1, aI a1] [] (SH L) M o := by
        subst h
        exact ⟨2, rfl⟩
      exact aX_seg 2 (fun n g => ip cc (g)) t3
    · replace h := h.2 cc
      have t4 : aX xc_117 (aSeek xc_117 4) [aR 1, aI a1] [] (SH L) M o := by
        obtain ⟨c5, h⟩ := h
        by_cases cc : a1 < (M (M 1 3) 9)
        · replace h := h.1 cc
          have t6 : aX xc_117 (aSeek xc_117 17) [aR 1, aI a1] [] (SH L) M o := by
            obtain ⟨M1, k7, h⟩ := h
            have h2 : aX xc_117 (aSeek xc_117 21) [aR 1, aI a1] [] (SH L) M1 o := by
              obtain ⟨c8, h⟩ := h
              obtain ⟨M2, k9, h⟩ := h
              have h2 : aX xc_117 (aSeek xc_117 43) [aR 1, aI a1] [] (SH L) M2 o := by
                obtain ⟨c10, h⟩ := h
                subst h
                exact ⟨6, ip c10 (rfl)⟩
              exact aX_seg 9 (fun n g => ip c8 (g)) (aX_callv (rfl) rfl rfl rfl k9 h2)
            exact aX_seg 1 (fun n g => g) (aX_callv (rfl) rfl rfl rfl k7 h2)
          exact aX_seg 5 (fun n g => ip c5 (ip cc (g))) t6
        · replace h := h.2 cc
          have t11 : aX xc_117 (aSeek xc_117 15) [aR 1, aI a1] [] (SH L) M o := by
            subst h
            exact ⟨2, rfl⟩
          exact aX_seg 5 (fun n g => ip c5 (in_ cc (g))) t11
      exact aX_seg 2 (fun n g => in_ cc (g)) t4
  exact q
/- TypeLock.ordered(I)I -/
set_option maxRecDepth 100000 in
theorem en_118 {L : Nat} {a1 : Int} {M : aM} {o : aO} (h : ((a1 < 0 → o = ([aI ((-1))], (SH L), M)) ∧ (¬ (a1 < 0) → (aK (SH L) (M 1 3) = 19) ∧ ((a1 < (M (M 1 3) 9) → (∃ (M1 : aM), aE 80 [aR 1] (SH L) M ([], (SH L), M1) ∧ (aK (SH L) (M1 1 3) = 19) ∧ (∃ (M2 : aM), aE 116 [aR 84, aR 64, aI (M1 (M1 1 3) 9), aI (M1 1 9)] (SH L) M1 ([], (SH L), M2) ∧ (0 ≤ a1 ∧ a1 < aLn (SH L) 1 86) ∧ o = ([aI (M2 86 a1)], (SH L), M2)))) ∧ (¬ (a1 < (M (M 1 3) 9)) → o = ([aI ((-1))], (SH L), M)))))) : aE 118 [aR 1, aI a1] (SH L) M o := by
  have q : aX xc_118 (aSeek xc_118 0) [aR 1, aI a1] [] (SH L) M o := by
    by_cases cc : a1 < 0
    · replace h := h.1 cc
      have t3 : aX xc_118 (aSeek xc_118 15) [aR 1, aI a1] [] (SH L) M o := by
        subst h
        exact ⟨2, rfl⟩
      exact aX_seg 2 (fun n g => ip cc (g)) t3
    · replace h := h.2 cc
      have t4 : aX xc_118 (aSeek xc_118 4) [aR 1, aI a1] [] (SH L) M o := by
        obtain ⟨c5, h⟩ := h
        by_cases cc : a1 < (M (M 1 3) 9)
        · replace h := h.1 cc
          have t6 : aX xc_118 (aSeek xc_118 17) [aR 1, aI a1] [] (SH L) M o := by
            obtain ⟨M1, k7, h⟩ := h
            have h2 : aX xc_118 (aSeek xc_118 21) [aR 1, aI a1] [] (SH L) M1 o := by
              obtain ⟨c8, h⟩ := h
              obtain ⟨M2, k9, h⟩ := h
              have h2 : aX xc_118 (aSeek xc_118 43) [aR 1, aI a1] [] (SH L) M2 o := by
                obtain ⟨c10, h⟩ := h
                subst h
                exact ⟨6, ip c10 (rfl)⟩
              exact aX_seg 9 (fun n g => ip c8 (g)) (aX_callv (rfl) rfl rfl rfl k9 h2)
            exact aX_seg 1 (fun n g => g) (aX_callv (rfl) rfl rfl rfl k7 h2)
          exact aX_seg 5 (fun n g => ip c5 (ip cc (g))) t6
        · replace h := h.2 cc
          have t11 : aX xc_118 (aSeek xc_118 15) [aR 1, aI a1] [] (SH L) M o := by
            subst h
            exact ⟨2, rfl⟩
          exact aX_seg 5 (fun n g => ip c5 (in_ cc (g))) t11
      exact aX_seg 2 (fun n g => in_ cc (g)) t4
  exact q
/- TypeLock$Laws.measure(I)V -/
set_option maxRecDepth 100000 in
theorem en_119 {L : Nat} {a1 : Int} {M : aM} {o : aO} (h : (aK (SH L) (M 90 3) = 10) ∧ (0 ≤ a1 ∧ a1 < aLn (SH L) 1 (aF (SH L) (M 90 3) 3)) ∧ (aK (SH L) ((aSet M 97 0 (M (aF (SH L) (M 90 3) 3) a1)) 90 3) = 10) ∧ (0 ≤ a1 ∧ a1 < aLn (SH L) 1 (aF (SH L) ((aSet M 97 0 (M (aF (SH L) (M 90 3) 3) a1)) 90 3) 4)) ∧ (aK (SH L) ((aSet (aSet M 97 0 (M (aF (SH L) (M 90 3) 3) a1)) 97 1 ((aSet M 97 0 (M (aF (SH L) (M 90 3) 3) a1)) (aF (SH L) ((aSet M 97 0 (M (aF (SH L) (M 90 3) 3) a1)) 90 3) 4) a1)) 90 3) = 10) ∧ (0 ≤ a1 ∧ a1 < aLn (SH L) 1 (aF (SH L) ((aSet (aSet M 97 0 (M (aF (SH L) (M 90 3) 3) a1)) 97 1 ((aSet M 97 0 (M (aF (SH L) (M 90 3) 3) a1)) (aF (SH L) ((aSet M 97 0 (M (aF (SH L) (M 90 3) 3) a1)) 90 3) 4) a1)) 90 3) 5)) ∧ (aK (SH L) ((aSet (aSet (aSet M 97 0 (M (aF (SH L) (M 90 3) 3) a1)) 97 1 ((aSet M 97 0 (M (aF (SH L) (M 90 3) 3) a1)) (aF (SH L) ((aSet M 97 0 (M (aF (SH L) (M 90 3) 3) a1)) 90 3) 4) a1)) 97 2 ((aSet (aSet M 97 0 (M (aF (SH L) (M 90 3) 3) a1)) 97 1 ((aSet M 97 0 (M (aF (SH L) (M 90 3) 3) a1)) (aF (SH L) ((aSet M 97 0 (M (aF (SH L) (M 90 3) 3) a1)) 90 3) 4) a1)) (aF (SH L) ((aSet (aSet M 97 0 (M (aF (SH L) (M 90 3) 3) a1)) 97 1 ((aSet M 97 0 (M (aF (SH L) (M 90 3) 3) a1)) (aF (SH L) ((aSet M 97 0 (M (aF (SH L) (M 90 3) 3) a1)) 90 3) 4) a1)) 90 3) 5) a1)) 90 3) = 10) ∧ (0 ≤ a1 ∧ a1 < aLn (SH L) 1 (aF (SH L) ((aSet (aSet (aSet M 97 0 (M (aF (SH L) (M 90 3) 3) a1)) 97 1 ((aSet M 97 0 (M (aF (SH L) (M 90 3) 3) a1)) (aF (SH L) ((aSet M 97 0 (M (aF (SH L) (M 90 3) 3) a1)) 90 3) 4) a1)) 97 2 ((aSet (aSet M 97 0 (M (aF (SH L) (M 90 3) 3) a1)) 97 1 ((aSet M 97 0 (M (aF (SH L) (M 90 3) 3) a1)) (aF (SH L) ((aSet M 97 0 (M (aF (SH L) (M 90 3) 3) a1)) 90 3) 4) a1)) (aF (SH L) ((aSet (aSet M 97 0 (M (aF (SH L) (M 90 3) 3) a1)) 97 1 ((aSet M 97 0 (M (aF (SH L) (M 90 3) 3) a1)) (aF (SH L) ((aSet M 97 0 (M (aF (SH L) (M 90 3) 3) a1)) 90 3) 4) a1)) 90 3) 5) a1)) 90 3) 6)) ∧ (aK (SH L) ((aSet (aSet (aSet (aSet (aSet (aSet M 97 0 (M (aF (SH L) (M 90 3) 3) a1)) 97 1 ((aSet M 97 0 (M (aF (SH L) (M 90 3) 3) a1)) (aF (SH L) ((aSet M 97 0 (M (aF (SH L) (M 90 3) 3) a1)) 90 3) 4) a1)) 97 2 ((aSet (aSet M 97 0 (M (aF (SH L) (M 90 3) 3) a1)) 97 1 ((aSet M 97 0 (M (aF (SH L) (M 90 3) 3) a1)) (aF (SH L) ((aSet M 97 0 (M (aF (SH L) (M 90 3) 3) a1)) 90 3) 4) a1)) (aF (SH L) ((aSet (aSet M 97 0 (M (aF (SH L) (M 90 3) 3) a1)) 97 1 ((aSet M 97 0 (M (aF (SH L) (M 90 3) 3) a1)) (aF (SH L) ((aSet M 97 0 (M (aF (SH L) (M 90 3) 3) a1)) 90 3) 4) a1)) 90 3) 5) a1)) 97 3 ((aSet (aSet (aSet M 97 0 (M (aF (SH L) (M 90 3) 3) a1)) 97 1 ((aSet M 97 0 (M (aF (SH L) (M 90 3) 3) a1)) (aF (SH L) ((aSet M 97 0 (M (aF (SH L) (M 90 3) 3) a1)) 90 3) 4) a1)) 97 2 ((aSet (aSet M 97 0 (M (aF (SH L) (M 90 3) 3) a1)) 97 1 ((aSet M 97 0 (M (aF (SH L) (M 90 3) 3) a1)) (aF (SH L) ((aSet M 97 0 (M (aF (SH L) (M 90 3) 3) a1)) 90 3) 4) a1)) (aF (SH L) ((aSet (aSet M 97 0 (M (aF (SH L) (M 90 3) 3) a1)) 97 1 ((aSet M 97 0 (M (aF (SH L) (M 90 3) 3) a1)) (aF (SH L) ((aSet M 97 0 (M (aF (SH L) (M 90 3) 3) a1)) 90 3) 4) a1)) 90 3) 5) a1)) (aF (SH L) ((aSet (aSet (aSet M 97 0 (M (aF (SH L) (M 90 3) 3) a1)) 97 1 ((aSet M 97 0 (M (aF (SH L) (M 90 3) 3) a1)) (aF (SH L) ((aSet M 97 0 (M (aF (SH L) (M 90 3) 3) a1)) 90 3) 4) a1)) 97 2 ((aSet (aSet M 97 0 (M (aF (SH L) (M 90 3) 3) a1)) 97 1 ((aSet M 97 0 (M (aF (SH L) (M 90 3) 3) a1)) (aF (SH L) ((aSet M 97 0 (M (aF (SH L) (M 90 3) 3) a1)) 90 3) 4) a1)) (aF (SH L) ((aSet (aSet M 97 0 (M (aF (SH L) (M 90 3) 3) a1)) 97 1 ((aSet M 97 0 (M (aF (SH L) (M 90 3) 3) a1)) (aF (SH L) ((aSet M 97 0 (M (aF (SH L) (M 90 3) 3) a1)) 90 3) 4) a1)) 90 3) 5) a1)) 90 3) 6) a1)) 97 4 0) 97 5 0) 90 3) = 10) ∧ (∃ (M1 : aM) (v2 : Int), aE 114 [aI ((aSet (aSet (aSet (aSet (aSet (aSet M 97 0 (M (aF (SH L) (M 90 3) 3) a1)) 97 1 ((aSet M 97 0 (M (aF (SH L) (M 90 3) 3) a1)) (aF (SH L) ((aSet M 97 0 (M (aF (SH L) (M 90 3) 3) a1)) 90 3) 4) a1)) 97 2 ((aSet (aSet M 97 0 (M (aF (SH L) (M 90 3) 3) a1)) 97 1 ((aSet M 97 0 (M (aF (SH L) (M 90 3) 3) a1)) (aF (SH L) ((aSet M 97 0 (M (aF (SH L) (M 90 3) 3) a1)) 90 3) 4) a1)) (aF (SH L) ((aSet (aSet M 97 0 (M (aF (SH L) (M 90 3) 3) a1)) 97 1 ((aSet M 97 0 (M (aF (SH L) (M 90 3) 3) a1)) (aF (SH L) ((aSet M 97 0 (M (aF (SH L) (M 90 3) 3) a1)) 90 3) 4) a1)) 90 3) 5) a1)) 97 3 ((aSet (aSet (aSet M 97 0 (M (aF (SH L) (M 90 3) 3) a1)) 97 1 ((aSet M 97 0 (M (aF (SH L) (M 90 3) 3) a1)) (aF (SH L) ((aSet M 97 0 (M (aF (SH L) (M 90 3) 3) a1)) 90 3) 4) a1)) 97 2 ((aSet (aSet M 97 0 (M (aF (SH L) (M 90 3) 3) a1)) 97 1 ((aSet M 97 0 (M (aF (SH L) (M 90 3) 3) a1)) (aF (SH L) ((aSet M 97 0 (M (aF (SH L) (M 90 3) 3) a1)) 90 3) 4) a1)) (aF (SH L) ((aSet (aSet M 97 0 (M (aF (SH L) (M 90 3) 3) a1)) 97 1 ((aSet M 97 0 (M (aF (SH L) (M 90 3) 3) a1)) (aF (SH L) ((aSet M 97 0 (M (aF (SH L) (M 90 3) 3) a1)) 90 3) 4) a1)) 90 3) 5) a1)) (aF (SH L) ((aSet (aSet (aSet M 97 0 (M (aF (SH L) (M 90 3) 3) a1)) 97 1 ((aSet M 97 0 (M (aF (SH L) (M 90 3) 3) a1)) (aF (SH L) ((aSet M 97 0 (M (aF (SH L) (M 90 3) 3) a1)) 90 3) 4) a1)) 97 2 ((aSet (aSet M 97 0 (M (aF (SH L) (M 90 3) 3) a1)) 97 1 ((aSet M 97 0 (M (aF (SH L) (M 90 3) 3) a1)) (aF (SH L) ((aSet M 97 0 (M (aF (SH L) (M 90 3) 3) a1)) 90 3) 4) a1)) (aF (SH L) ((aSet (aSet M 97 0 (M (aF (SH L) (M 90 3) 3) a1)) 97 1 ((aSet M 97 0 (M (aF (SH L) (M 90 3) 3) a1)) (aF (SH L) ((aSet M 97 0 (M (aF (SH L) (M 90 3) 3) a1)) 90 3) 4) a1)) 90 3) 5) a1)) 90 3) 6) a1)) 97 4 0) 97 5 0) ((aSet (aSet (aSet (aSet (aSet (aSet M 97 0 (M (aF (SH L) (M 90 3) 3) a1)) 97 1 ((aSet M 97 0 (M (aF (SH L) (M 90 3) 3) a1)) (aF (SH L) ((aSet M 97 0 (M (aF (SH L) (M 90 3) 3) a1)) 90 3) 4) a1)) 97 2 ((aSet (aSet M 97 0 (M (aF (SH L) (M 90 3) 3) a1)) 97 1 ((aSet M 97 0 (M (aF (SH L) (M 90 3) 3) a1)) (aF (SH L) ((aSet M 97 0 (M (aF (SH L) (M 90 3) 3) a1)) 90 3) 4) a1)) (aF (SH L) ((aSet (aSet M 97 0 (M (aF (SH L) (M 90 3) 3) a1)) 97 1 ((aSet M 97 0 (M (aF (SH L) (M 90 3) 3) a1)) (aF (SH L) ((aSet M 97 0 (M (aF (SH L) (M 90 3) 3) a1)) 90 3) 4) a1)) 90 3) 5) a1)) 97 3 ((aSet (aSet (aSet M 97 0 (M (aF (SH L) (M 90 3) 3) a1)) 97 1 ((aSet M 97 0 (M (aF (SH L) (M 90 3) 3) a1)) (aF (SH L) ((aSet M 97 0 (M (aF (SH L) (M 90 3) 3) a1)) 90 3) 4) a1)) 97 2 ((aSet (aSet M 97 0 (M (aF (SH L) (M 90 3) 3) a1)) 97 1 ((aSet M 97 0 (M (aF (SH L) (M 90 3) 3) a1)) (aF (SH L) ((aSet M 97 0 (M (aF (SH L) (M 90 3) 3) a1)) 90 3) 4) a1)) (aF (SH L) ((aSet (aSet M 97 0 (M (aF (SH L) (M 90 3) 3) a1)) 97 1 ((aSet M 97 0 (M (aF (SH L) (M 90 3) 3) a1)) (aF (SH L) ((aSet M 97 0 (M (aF (SH L) (M 90 3) 3) a1)) 90 3) 4) a1)) 90 3) 5) a1)) (aF (SH L) ((aSet (aSet (aSet M 97 0 (M (aF (SH L) (M 90 3) 3) a1)) 97 1 ((aSet M 97 0 (M (aF (SH L) (M 90 3) 3) a1)) (aF (SH L) ((aSet M 97 0 (M (aF (SH L) (M 90 3) 3) a1)) 90 3) 4) a1)) 97 2 ((aSet (aSet M 97 0 (M (aF (SH L) (M 90 3) 3) a1)) 97 1 ((aSet M 97 0 (M (aF (SH L) (M 90 3) 3) a1)) (aF (SH L) ((aSet M 97 0 (M (aF (SH L) (M 90 3) 3) a1)) 90 3) 4) a1)) (aF (SH L) ((aSet (aSet M 97 0 (M (aF (SH L) (M 90 3) 3) a1)) 97 1 ((aSet M 97 0 (M (aF (SH L) (M 90 3) 3) a1)) (aF (SH L) ((aSet M 97 0 (M (aF (SH L) (M 90 3) 3) a1)) 90 3) 4) a1)) 90 3) 5) a1)) 90 3) 6) a1)) 97 4 0) 97 5 0) 90 3) 8)] (SH L) (aSet (aSet (aSet (aSet (aSet (aSet M 97 0 (M (aF (SH L) (M 90 3) 3) a1)) 97 1 ((aSet M 97 0 (M (aF (SH L) (M 90 3) 3) a1)) (aF (SH L) ((aSet M 97 0 (M (aF (SH L) (M 90 3) 3) a1)) 90 3) 4) a1)) 97 2 ((aSet (aSet M 97 0 (M (aF (SH L) (M 90 3) 3) a1)) 97 1 ((aSet M 97 0 (M (aF (SH L) (M 90 3) 3) a1)) (aF (SH L) ((aSet M 97 0 (M (aF (SH L) (M 90 3) 3) a1)) 90 3) 4) a1)) (aF (SH L) ((aSet (aSet M 97 0 (M (aF (SH L) (M 90 3) 3) a1)) 97 1 ((aSet M 97 0 (M (aF (SH L) (M 90 3) 3) a1)) (aF (SH L) ((aSet M 97 0 (M (aF (SH L) (M 90 3) 3) a1)) 90 3) 4) a1)) 90 3) 5) a1)) 97 3 ((aSet (aSet (aSet M 97 0 (M (aF (SH L) (M 90 3) 3) a1)) 97 1 ((aSet M 97 0 (M (aF (SH L) (M 90 3) 3) a1)) (aF (SH L) ((aSet M 97 0 (M (aF (SH L) (M 90 3) 3) a1)) 90 3) 4) a1)) 97 2 ((aSet (aSet M 97 0 (M (aF (SH L) (M 90 3) 3) a1)) 97 1 ((aSet M 97 0 (M (aF (SH L) (M 90 3) 3) a1)) (aF (SH L) ((aSet M 97 0 (M (aF (SH L) (M 90 3) 3) a1)) 90 3) 4) a1)) (aF (SH L) ((aSet (aSet M 97 0 (M (aF (SH L) (M 90 3) 3) a1)) 97 1 ((aSet M 97 0 (M (aF (SH L) (M 90 3) 3) a1)) (aF (SH L) ((aSet M 97 0 (M (aF (SH L) (M 90 3) 3) a1)) 90 3) 4) a1)) 90 3) 5) a1)) (aF (SH L) ((aSet (aSet (aSet M 97 0 (M (aF (SH L) (M 90 3) 3) a1)) 97 1 ((aSet M 97 0 (M (aF (SH L) (M 90 3) 3) a1)) (aF (SH L) ((aSet M 97 0 (M (aF (SH L) (M 90 3) 3) a1)) 90 3) 4) a1)) 97 2 ((aSet (aSet M 97 0 (M (aF (SH L) (M 90 3) 3) a1)) 97 1 ((aSet M 97 0 (M (aF (SH L) (M 90 3) 3) a1)) (aF (SH L) ((aSet M 97 0 (M (aF (SH L) (M 90 3) 3) a1)) 90 3) 4) a1)) (aF (SH L) ((aSet (aSet M 97 0 (M (aF (SH L) (M 90 3) 3) a1)) 97 1 ((aSet M 97 0 (M (aF (SH L) (M 90 3) 3) a1)) (aF (SH L) ((aSet M 97 0 (M (aF (SH L) (M 90 3) 3) a1)) 90 3) 4) a1)) 90 3) 5) a1)) 90 3) 6) a1)) 97 4 0) 97 5 0) ([aI v2], (SH L), M1) ∧ (aK (SH L) ((aSet M1 97 6 v2) 90 3) = 10) ∧ (0 ≤ a1 ∧ a1 < aLn (SH L) 1 (aF (SH L) ((aSet M1 97 6 v2) 90 3) 2)) ∧ ((¬ ((aSet M1 97 6 v2) (aF (SH L) ((aSet M1 97 6 v2) 90 3) 2) a1) = 2 → aX xc_119 (aSeek xc_119 115) [aR 90, aI a1] [aI 0, aI 7, aR 97] (SH L) (aSet M1 97 6 v2) o) ∧ (¬ (¬ ((aSet M1 97 6 v2) (aF (SH L) ((aSet M1 97 6 v2) 90 3) 2) a1) = 2) → aX xc_119 (aSeek xc_119 115) [aR 90, aI a1] [aI 1, aI 7, aR 97] (SH L) (aSet M1 97 6 v2) o)))) : aE 119 [aR 90, aI a1] (SH L) M o := by
  have q : aX xc_119 (aSeek xc_119 0) [aR 90, aI a1] [] (SH L) M o := by
    obtain ⟨c3, h⟩ := h
    obtain ⟨c4, h⟩ := h
    obtain ⟨c5, h⟩ := h
    obtain ⟨c6, h⟩ := h
    obtain ⟨c7, h⟩ := h
    obtain ⟨c8, h⟩ := h
    obtain ⟨c9, h⟩ := h
    obtain ⟨c10, h⟩ := h
    obtain ⟨c11, h⟩ := h
    obtain ⟨M1, v2, k12, h⟩ := h
    have h2 : aX xc_119 (aSeek xc_119 90) [aR 90, aI a1] [aI v2, aI 6, aR 97] (SH L) M1 o := by
      obtain ⟨c13, h⟩ := h
      obtain ⟨c14, h⟩ := h
      by_cases cc : ¬ ((aSet M1 97 6 v2) (aF (SH L) ((aSet M1 97 6 v2) 90 3) 2) a1) = 2
      · replace h := h.1 cc
        have t15 : aX xc_119 (aSeek xc_119 114) [aR 90, aI a1] [aI 7, aR 97] (SH L) (aSet M1 97 6 v2) o := by
          exact aX_seg 1 (fun n g => g) (h)
        exact aX_seg 11 (fun n g => ip c13 (ip c14 (ip cc (g)))) t15
      · replace h := h.2 cc
        have t16 : aX xc_119 (aSeek xc_119 110) [aR 90, aI a1] [aI 7, aR 97] (SH L) (aSet M1 97 6 v2) o := by
          exact aX_seg 2 (fun n g => g) (h)
        exact aX_seg 11 (fun n g => ip c13 (ip c14 (in_ cc (g)))) t16
    exact aX_seg 52 (fun n g => ip c3 (ip c4 (ip c5 (ip c6 (ip c7 (ip c8 (ip c9 (ip c10 (ip c11 (g)))))))))) (aX_calls rfl rfl rfl k12 h2)
  exact q
set_option maxRecDepth 100000 in
theorem bl_119_115 {L : Nat} {a1 b0 b1 b2 : Int} {M : aM} {o : aO} (h : (0 ≤ b1 ∧ b1 < aLn (SH L) 1 b0) ∧ (aK (SH L) ((aSet M b0 b1 b2) 90 3) = 10) ∧ (0 ≤ a1 ∧ a1 < aLn (SH L) 1 (aF (SH L) ((aSet M b0 b1 b2) 90 3) 2)) ∧ ((¬ ((aSet M b0 b1 b2) (aF (SH L) ((aSet M b0 b1 b2) 90 3) 2) a1) = 3 → o = ([], (SH L), aSet (aSet M b0 b1 b2) 97 8 0)) ∧ (¬ (¬ ((aSet M b0 b1 b2) (aF (SH L) ((aSet M b0 b1 b2) 90 3) 2) a1) = 3) → o = ([], (SH L), aSet (aSet M b0 b1 b2) 97 8 1)))) : aX xc_119 (aSeek xc_119 115) [aR 90, aI a1] [aI b2, aI b1, aR b0] (SH L) M o := by
  obtain ⟨c1, h⟩ := h
  obtain ⟨c2, h⟩ := h
  obtain ⟨c3, h⟩ := h
  by_cases cc : ¬ ((aSet M b0 b1 b2) (aF (SH L) ((aSet M b0 b1 b2) 90 3) 2) a1) = 3
  · replace h := h.1 cc
    have t4 : aX xc_119 (aSeek xc_119 139) [aR 90, aI a1] [aI 8, aR 97] (SH L) (aSet M b0 b1 b2) o := by
      subst h
      exact ⟨3, rfl⟩
    exact aX_seg 11 (fun n g => ip c1 (ip c2 (ip c3 (ip cc (g))))) t4
  · replace h := h.2 cc
    have t5 : aX xc_119 (aSeek xc_119 135) [aR 90, aI a1] [aI 8, aR 97] (SH L) (aSet M b0 b1 b2) o := by
      subst h
      exact ⟨4, rfl⟩
    exact aX_seg 11 (fun n g => ip c1 (ip c2 (ip c3 (in_ cc (g))))) t5
/- TypeLock$Laws.push(I)V -/
set_option maxRecDepth 100000 in
theorem en_120 {L : Nat} {a1 : Int} {M : aM} {o : aO} (h : (((M 90 7) < 0 → o = ([], (SH L), M)) ∧ (¬ ((M 90 7) < 0) → (((aL (SH L) 98) ≤ (M 90 7) → o = ([], (SH L), M)) ∧ (¬ ((aL (SH L) 98) ≤ (M 90 7)) → (0 ≤ M 90 7 ∧ M 90 7 < aLn (SH L) 1 98) ∧ o = ([], (SH L), aSet (aSet M 98 (M 90 7) a1) 90 7 (aW (((aSet M 98 (M 90 7) a1) 90 7) + 1)))))))) : aE 120 [aR 90, aI a1] (SH L) M o := by
  have q : aX xc_120 (aSeek xc_120 0) [aR 90, aI a1] [] (SH L) M o := by
    by_cases cc : (M 90 7) < 0
    · replace h := h.1 cc
      have t1 : aX xc_120 (aSeek xc_120 39) [aR 90, aI a1] [] (SH L) M o := by
        subst h
        exact ⟨1, rfl⟩
      exact aX_seg 3 (fun n g => ip cc (g)) t1
    · replace h := h.2 cc
      have t2 : aX xc_120 (aSeek xc_120 7) [aR 90, aI a1] [] (SH L) M o := by
        by_cases cc : (aL (SH L) 98) ≤ (M 90 7)
        · replace h := h.1 cc
          have t3 : aX xc_120 (aSeek xc_120 39) [aR 90, aI a1] [] (SH L) M o := by
            subst h
            exact ⟨1, rfl⟩
          exact aX_seg 6 (fun n g => ip cc (g)) t3
        · replace h := h.2 cc
          have t4 : aX xc_120 (aSeek xc_120 19) [aR 90, aI a1] [] (SH L) M o := by
            obtain ⟨c5, h⟩ := h
            subst h
            exact ⟨13, ip c5 (rfl)⟩
          exact aX_seg 6 (fun n g => in_ cc (g)) t4
      exact aX_seg 3 (fun n g => in_ cc (g)) t2
  exact q
/- TypeLock$Laws.pop()I -/
set_option maxRecDepth 100000 in
theorem en_121 {L : Nat} {M : aM} {o : aO} (h : (((M 90 7) ≤ 0 → o = ([aI 0], (SH L), M)) ∧ (¬ ((M 90 7) ≤ 0) → (((M 90 7) ≤ (aL (SH L) 98) → (0 ≤ (aSet M 90 7 (aW ((M 90 7) - 1))) 90 7 ∧ (aSet M 90 7 (aW ((M 90 7) - 1))) 90 7 < aLn (SH L) 1 98) ∧ o = ([aI ((aSet M 90 7 (aW ((M 90 7) - 1))) 98 ((aSet M 90 7 (aW ((M 90 7) - 1))) 90 7))], (SH L), aSet M 90 7 (aW ((M 90 7) - 1)))) ∧ (¬ ((M 90 7) ≤ (aL (SH L) 98)) → o = ([aI 0], (SH L), M)))))) : aE 121 [aR 90] (SH L) M o := by
  have q : aX xc_121 (aSeek xc_121 0) [aR 90] [] (SH L) M o := by
    by_cases cc : (M 90 7) ≤ 0
    · replace h := h.1 cc
      have t1 : aX xc_121 (aSeek xc_121 19) [aR 90] [] (SH L) M o := by
        subst h
        exact ⟨2, rfl⟩
      exact aX_seg 3 (fun n g => ip cc (g)) t1
    · replace h := h.2 cc
      have t2 : aX xc_121 (aSeek xc_121 7) [aR 90] [] (SH L) M o := by
        by_cases cc : (M 90 7) ≤ (aL (SH L) 98)
        · replace h := h.1 cc
          have t3 : aX xc_121 (aSeek xc_121 21) [aR 90] [] (SH L) M o := by
            obtain ⟨c4, h⟩ := h
            subst h
            exact ⟨12, ip c4 (rfl)⟩
          exact aX_seg 6 (fun n g => ip cc (g)) t3
        · replace h := h.2 cc
          have t5 : aX xc_121 (aSeek xc_121 19) [aR 90] [] (SH L) M o := by
            subst h
            exact ⟨2, rfl⟩
          exact aX_seg 6 (fun n g => in_ cc (g)) t5
      exact aX_seg 3 (fun n g => in_ cc (g)) t2
  exact q
/- TypeLock$Laws.compares(III)Z -/
set_option maxRecDepth 100000 in
theorem en_122 {L : Nat} {a0 a1 a2 : Int} {M : aM} {o : aO} (h : ((a0 = 10 → ((¬ a1 = a2 → o = ([aI 0], (SH L), M)) ∧ (¬ (¬ a1 = a2) → o = ([aI 1], (SH L), M)))) ∧ (a0 = 11 → ((a1 = a2 → o = ([aI 0], (SH L), M)) ∧ (¬ (a1 = a2) → o = ([aI 1], (SH L), M)))) ∧ (a0 = 12 → ((a2 ≤ a1 → o = ([aI 0], (SH L), M)) ∧ (¬ (a2 ≤ a1) → o = ([aI 1], (SH L), M)))) ∧ (¬ a0 = 10 → ¬ a0 = 11 → ¬ a0 = 12 → ((a2 < a1 → o = ([aI 0], (SH L), M)) ∧ (¬ (a2 < a1) → o = ([aI 1], (SH L), M)))))) : aE 122 [aI a0, aI a1, aI a2] (SH L) M o := by
  have q : aX xc_122 (aSeek xc_122 0) [aI a0, aI a1, aI a2] [] (SH L) M o := by
    by_cases cc0 : a0 = 10
    · replace h := h.1 cc0
      have ee : aTab 10 12 60 #[27, 38, 49] a0 = 27 := by rw [cc0]; rfl
      have t1 : aX xc_122 (aSeek xc_122 28) [aI a0, aI a1, aI a2] [] (SH L) M o := by
        by_cases cc : ¬ a1 = a2
        · replace h := h.1 cc
          have t2 : aX xc_122 (aSeek xc_122 37) [aI a0, aI a1, aI a2] [] (SH L) M o := by
            subst h
            exact ⟨2, rfl⟩
          exact aX_seg 3 (fun n g => ip cc (g)) t2
        · replace h := h.2 cc
          have t3 : aX xc_122 (aSeek xc_122 33) [aI a0, aI a1, aI a2] [] (SH L) M o := by
            subst h
            exact ⟨3, rfl⟩
          exact aX_seg 3 (fun n g => in_ cc (g)) t3
      exact aX_seg 2 (fun n g => (congrArg (fun tt => aRun tgT gP n xc_122 (aSeek xc_122 (aTo 1 tt)) [aI a0, aI a1, aI a2] [] (SH L) M) ee).trans g) t1
    by_cases cc1 : a0 = 11
    · replace h := h.2.1 cc1
      have ee : aTab 10 12 60 #[27, 38, 49] a0 = 38 := by rw [cc1]; rfl
      have t4 : aX xc_122 (aSeek xc_122 39) [aI a0, aI a1, aI a2] [] (SH L) M o := by
        by_cases cc : a1 = a2
        · replace h := h.1 cc
          have t5 : aX xc_122 (aSeek xc_122 48) [aI a0, aI a1, aI a2] [] (SH L) M o := by
            subst h
            exact ⟨2, rfl⟩
          exact aX_seg 3 (fun n g => ip cc (g)) t5
        · replace h := h.2 cc
          have t6 : aX xc_122 (aSeek xc_122 44) [aI a0, aI a1, aI a2] [] (SH L) M o := by
            subst h
            exact ⟨3, rfl⟩
          exact aX_seg 3 (fun n g => in_ cc (g)) t6
      exact aX_seg 2 (fun n g => (congrArg (fun tt => aRun tgT gP n xc_122 (aSeek xc_122 (aTo 1 tt)) [aI a0, aI a1, aI a2] [] (SH L) M) ee).trans g) t4
    by_cases cc2 : a0 = 12
    · replace h := h.2.2.1 cc2
      have ee : aTab 10 12 60 #[27, 38, 49] a0 = 49 := by rw [cc2]; rfl
      have t7 : aX xc_122 (aSeek xc_122 50) [aI a0, aI a1, aI a2] [] (SH L) M o := by
        by_cases cc : a2 ≤ a1
        · replace h := h.1 cc
          have t8 : aX xc_122 (aSeek xc_122 59) [aI a0, aI a1, aI a2] [] (SH L) M o := by
            subst h
            exact ⟨2, rfl⟩
          exact aX_seg 3 (fun n g => ip cc (g)) t8
        · replace h := h.2 cc
          have t9 : aX xc_122 (aSeek xc_122 55) [aI a0, aI a1, aI a2] [] (SH L) M o := by
            subst h
            exact ⟨3, rfl⟩
          exact aX_seg 3 (fun n g => in_ cc (g)) t9
      exact aX_seg 2 (fun n g => (congrArg (fun tt => aRun tgT gP n xc_122 (aSeek xc_122 (aTo 1 tt)) [aI a0, aI a1, aI a2] [] (SH L) M) ee).trans g) t7
    replace h := h.2.2.2 cc0 cc1 cc2
    have ee : aTab 10 12 60 #[27, 38, 49] a0 = 60 := by unfold aTab; rw [if_pos (by omega)]
    have t10 : aX xc_122 (aSeek xc_122 61) [aI a0, aI a1, aI a2] [] (SH L) M o := by
      by_cases cc : a2 < a1
      · replace h := h.1 cc
        have t11 : aX xc_122 (aSeek xc_122 70) [aI a0, aI a1, aI a2] [] (SH L) M o := by
          subst h
          exact ⟨2, rfl⟩
        exact aX_seg 3 (fun n g => ip cc (g)) t11
      · replace h := h.2 cc
        have t12 : aX xc_122 (aSeek xc_122 66) [aI a0, aI a1, aI a2] [] (SH L) M o := by
          subst h
          exact ⟨3, rfl⟩
        exact aX_seg 3 (fun n g => in_ cc (g)) t12
    exact aX_seg 2 (fun n g => (congrArg (fun tt => aRun tgT gP n xc_122 (aSeek xc_122 (aTo 1 tt)) [aI a0, aI a1, aI a2] [] (SH L) M) ee).trans g) t10
  exact q
/- TypeLock$Laws.combine(III)I -/
set_option maxRecDepth 100000 in
theorem en_123 {L : Nat} {a1 a2 a3 : Int} {M : aM} {o : aO} (h : ((a1 = 6 → o = ([aI (aW (a2 + a3))], (SH L), M)) ∧ (a1 = 7 → o = ([aI (aW (a2 - a3))], (SH L), M)) ∧ (a1 = 8 → o = ([aI (aW (a2 * a3))], (SH L), M)) ∧ (a1 = 37 → o = ([aI (aOr a2 a3)], (SH L), M)) ∧ (a1 = 38 → o = ([aI (aAnd a2 a3)], (SH L), M)) ∧ (¬ a1 = 6 → ¬ a1 = 7 → ¬ a1 = 8 → ¬ a1 = 37 → ¬ a1 = 38 → ((¬ a3 = 0 → (¬ (a3 : Int) = 0) ∧ o = ([aI (aDiv a2 a3)], (SH L), M)) ∧ (¬ (¬ a3 = 0) → o = ([aI 0], (SH L), aSet M 90 8 1)))))) : aE 123 [aR 90, aI a1, aI a2, aI a3] (SH L) M o := by
  have q : aX xc_123 (aSeek xc_123 0) [aR 90, aI a1, aI a2, aI a3] [] (SH L) M o := by
    by_cases cc0 : a1 = 6
    · replace h := h.1 cc0
      have ee : aSwi 71 #[(6, 51), (7, 55), (8, 59), (37, 67), (38, 63)] a1 = 51 := by rw [cc0]; rfl
      have t1 : aX xc_123 (aSeek xc_123 52) [aR 90, aI a1, aI a2, aI a3] [] (SH L) M o := by
        subst h
        exact ⟨4, rfl⟩
      exact aX_seg 2 (fun n g => (congrArg (fun tt => aRun tgT gP n xc_123 (aSeek xc_123 (aTo 1 tt)) [aR 90, aI a1, aI a2, aI a3] [] (SH L) M) ee).trans g) t1
    by_cases cc1 : a1 = 7
    · replace h := h.2.1 cc1
      have ee : aSwi 71 #[(6, 51), (7, 55), (8, 59), (37, 67), (38, 63)] a1 = 55 := by rw [cc1]; rfl
      have t2 : aX xc_123 (aSeek xc_123 56) [aR 90, aI a1, aI a2, aI a3] [] (SH L) M o := by
        subst h
        exact ⟨4, rfl⟩
      exact aX_seg 2 (fun n g => (congrArg (fun tt => aRun tgT gP n xc_123 (aSeek xc_123 (aTo 1 tt)) [aR 90, aI a1, aI a2, aI a3] [] (SH L) M) ee).trans g) t2
    by_cases cc2 : a1 = 8
    · replace h := h.2.2.1 cc2
      have ee : aSwi 71 #[(6, 51), (7, 55), (8, 59), (37, 67), (38, 63)] a1 = 59 := by rw [cc2]; rfl
      have t3 : aX xc_123 (aSeek xc_123 60) [aR 90, aI a1, aI a2, aI a3] [] (SH L) M o := by
        subst h
        exact ⟨4, rfl⟩
      exact aX_seg 2 (fun n g => (congrArg (fun tt => aRun tgT gP n xc_123 (aSeek xc_123 (aTo 1 tt)) [aR 90, aI a1, aI a2, aI a3] [] (SH L) M) ee).trans g) t3
    by_cases cc3 : a1 = 37
    · replace h := h.2.2.2.1 cc3
      have ee : aSwi 71 #[(6, 51), (7, 55), (8, 59), (37, 67), (38, 63)] a1 = 67 := by rw [cc3]; rfl
      have t4 : aX xc_123 (aSeek xc_123 68) [aR 90, aI a1, aI a2, aI a3] [] (SH L) M o := by
        subst h
        exact ⟨4, rfl⟩
      exact aX_seg 2 (fun n g => (congrArg (fun tt => aRun tgT gP n xc_123 (aSeek xc_123 (aTo 1 tt)) [aR 90, aI a1, aI a2, aI a3] [] (SH L) M) ee).trans g) t4
    by_cases cc4 : a1 = 38
    · replace h := h.2.2.2.2.1 cc4
      have ee : aSwi 71 #[(6, 51), (7, 55), (8, 59), (37, 67), (38, 63)] a1 = 63 := by rw [cc4]; rfl
      have t5 : aX xc_123 (aSeek xc_123 64) [aR 90, aI a1, aI a2, aI a3] [] (SH L) M o := by
        subst h
        exact ⟨4, rfl⟩
      exact aX_seg 2 (fun n g => (congrArg (fun tt => aRun tgT gP n xc_123 (aSeek xc_123 (aTo 1 tt)) [aR 90, aI a1, aI a2, aI a3] [] (SH L) M) ee).trans g) t5
    replace h := h.2.2.2.2.2 cc0 cc1 cc2 cc3 cc4
    have ee : aSwi 71 #[(6, 51), (7, 55), (8, 59), (37, 67), (38, 63)] a1 = 71 := aSwi_d (by simp [cc0, cc1, cc2, cc3, cc4])
    have t6 : aX xc_123 (aSeek xc_123 72) [aR 90, aI a1, aI a2, aI a3] [] (SH L) M o := by
      by_cases cc : ¬ a3 = 0
      · replace h := h.1 cc
        have t7 : aX xc_123 (aSeek xc_123 83) [aR 90, aI a1, aI a2, aI a3] [] (SH L) M o := by
          obtain ⟨c8, h⟩ := h
          subst h
          exact ⟨4, ip c8 (rfl)⟩
        exact aX_seg 2 (fun n g => ip cc (g)) t7
      · replace h := h.2 cc
        have t9 : aX xc_123 (aSeek xc_123 76) [aR 90, aI a1, aI a2, aI a3] [] (SH L) M o := by
          subst h
          exact ⟨5, rfl⟩
        exact aX_seg 2 (fun n g => in_ cc (g)) t9
    exact aX_seg 2 (fun n g => (congrArg (fun tt => aRun tgT gP n xc_123 (aSeek xc_123 (aTo 1 tt)) [aR 90, aI a1, aI a2, aI a3] [] (SH L) M) ee).trans g) t6
  exact q
/- TypeLock$Laws.run(I)V -/
set_option maxRecDepth 100000 in
theorem en_124 {L : Nat} {a1 : Int} {M : aM} {o : aO} (h : ((a1 < 1000 → ((a1 < 16 → aX xc_124 (aSeek xc_124 47) [aR 90, aI a1, aU, aU] [] (SH L) M o) ∧ (¬ (a1 < 16) → ((25 ≤ a1 → aX xc_124 (aSeek xc_124 47) [aR 90, aI a1, aU, aU] [] (SH L) M o) ∧ (¬ (25 ≤ a1) → (0 ≤ aW (a1 - 16) ∧ aW (a1 - 16) < aLn (SH L) 1 97) ∧ (∃ (M1 : aM), aE 120 [aR 90, aI (M 97 (aW (a1 - 16)))] (SH L) M ([], (SH L), M1) ∧ o = ([], (SH L), M1))))))) ∧ (¬ (a1 < 1000) → (∃ (M2 : aM), aE 120 [aR 90, aI (aW (a1 - 1000))] (SH L) M ([], (SH L), M2) ∧ o = ([], (SH L), M2))))) : aE 124 [aR 90, aI a1] (SH L) M o := by
  have q : aX xc_124 (aSeek xc_124 0) [aR 90, aI a1, aU, aU] [] (SH L) M o := by
    by_cases cc : a1 < 1000
    · replace h := h.1 cc
      have t3 : aX xc_124 (aSeek xc_124 19) [aR 90, aI a1, aU, aU] [] (SH L) M o := by
        by_cases cc : a1 < 16
        · replace h := h.1 cc
          have t4 : aX xc_124 (aSeek xc_124 47) [aR 90, aI a1, aU, aU] [] (SH L) M o := by
            exact h
          exact aX_seg 3 (fun n g => ip cc (g)) t4
        · replace h := h.2 cc
          have t5 : aX xc_124 (aSeek xc_124 25) [aR 90, aI a1, aU, aU] [] (SH L) M o := by
            by_cases cc : 25 ≤ a1
            · replace h := h.1 cc
              have t6 : aX xc_124 (aSeek xc_124 47) [aR 90, aI a1, aU, aU] [] (SH L) M o := by
                exact h
              exact aX_seg 3 (fun n g => ip cc (g)) t6
            · replace h := h.2 cc
              have t7 : aX xc_124 (aSeek xc_124 31) [aR 90, aI a1, aU, aU] [] (SH L) M o := by
                obtain ⟨c8, h⟩ := h
                obtain ⟨M1, k9, h⟩ := h
                have h2 : aX xc_124 (aSeek xc_124 44) [aR 90, aI a1, aU, aU] [] (SH L) M1 o := by
                  subst h
                  exact ⟨2, rfl⟩
                exact aX_seg 7 (fun n g => ip c8 (g)) (aX_callv (rfl) rfl rfl rfl k9 h2)
              exact aX_seg 3 (fun n g => in_ cc (g)) t7
          exact aX_seg 3 (fun n g => in_ cc (g)) t5
      exact aX_seg 3 (fun n g => ip cc (g)) t3
    · replace h := h.2 cc
      have t10 : aX xc_124 (aSeek xc_124 7) [aR 90, aI a1, aU, aU] [] (SH L) M o := by
        obtain ⟨M2, k11, h⟩ := h
        have h2 : aX xc_124 (aSeek xc_124 16) [aR 90, aI a1, aU, aU] [] (SH L) M2 o := by
          subst h
          exact ⟨2, rfl⟩
        exact aX_seg 4 (fun n g => g) (aX_callv (rfl) rfl rfl rfl k11 h2)
      exact aX_seg 3 (fun n g => in_ cc (g)) t10
  exact q
set_option maxRecDepth 100000 in
theorem bl_124_47 {L : Nat} {a1 : Int} {M : aM} {o : aO} (h : ((¬ a1 = 39 → (∃ (M1 : aM) (v2 : Int), aE 121 [aR 90] (SH L) M ([aI v2], (SH L), M1) ∧ (∃ (M3 : aM) (v4 : Int), aE 121 [aR 90] (SH L) M1 ([aI v4], (SH L), M3) ∧ ((a1 < 10 → aX xc_124 (aSeek xc_124 121) [aR 90, aI a1, aI v2, aI v4] [] (SH L) M3 o) ∧ (¬ (a1 < 10) → ((13 < a1 → aX xc_124 (aSeek xc_124 121) [aR 90, aI a1, aI v2, aI v4] [] (SH L) M3 o) ∧ (¬ (13 < a1) → (∃ (M5 : aM) (v6 : Int), aE 122 [aI a1, aI v4, aI v2] (SH L) M3 ([aI v6], (SH L), M5) ∧ ((v6 = 0 → aX xc_124 (aSeek xc_124 109) [aR 90, aU, aU, aU] [aR 90] (SH L) M5 o) ∧ (¬ (v6 = 0) → ((¬ (M5 90 8) = 0 → aX xc_124 (aSeek xc_124 109) [aR 90, aU, aU, aU] [aR 90] (SH L) M5 o) ∧ (¬ (¬ (M5 90 8) = 0) → aX xc_124 (aSeek xc_124 110) [aR 90, aU, aU, aU] [aI 1, aR 90] (SH L) M5 o)))))))))))) ∧ (¬ (¬ a1 = 39) → (∃ (M7 : aM) (v8 : Int), aE 121 [aR 90] (SH L) M ([aI v8], (SH L), M7) ∧ (∃ (M9 : aM), aE 120 [aR 90, aI (aW (1 - v8))] (SH L) M7 ([], (SH L), M9) ∧ o = ([], (SH L), M9)))))) : aX xc_124 (aSeek xc_124 47) [aR 90, aI a1, aU, aU] [] (SH L) M o := by
  by_cases cc : ¬ a1 = 39
  · replace h := h.1 cc
    have t10 : aX xc_124 (aSeek xc_124 66) [aR 90, aI a1, aU, aU] [] (SH L) M o := by
      obtain ⟨M1, v2, k11, h⟩ := h
      have h2 : aX xc_124 (aSeek xc_124 70) [aR 90, aI a1, aU, aU] [aI v2] (SH L) M1 o := by
        obtain ⟨M3, v4, k12, h⟩ := h
        have h2 : aX xc_124 (aSeek xc_124 75) [aR 90, aI a1, aI v2, aU] [aI v4] (SH L) M3 o := by
          by_cases cc : a1 < 10
          · replace h := h.1 cc
            have t13 : aX xc_124 (aSeek xc_124 121) [aR 90, aI a1, aI v2, aI v4] [] (SH L) M3 o := by
              exact h
            exact aX_seg 4 (fun n g => ip cc (g)) t13
          · replace h := h.2 cc
            have t14 : aX xc_124 (aSeek xc_124 82) [aR 90, aI a1, aI v2, aI v4] [] (SH L) M3 o := by
              by_cases cc : 13 < a1
              · replace h := h.1 cc
                have t15 : aX xc_124 (aSeek xc_124 121) [aR 90, aI a1, aI v2, aI v4] [] (SH L) M3 o := by
                  exact h
                exact aX_seg 3 (fun n g => ip cc (g)) t15
              · replace h := h.2 cc
                have t16 : aX xc_124 (aSeek xc_124 88) [aR 90, aI a1, aI v2, aI v4] [] (SH L) M3 o := by
                  obtain ⟨M5, v6, k17, h⟩ := h
                  have h2 : aX xc_124 (aSeek xc_124 95) [aR 90, aI a1, aI v2, aI v4] [aI v6, aR 90] (SH L) M5 o := by
                    by_cases cc : v6 = 0
                    · replace h := h.1 cc
                      have t18 : aX xc_124 (aSeek xc_124 109) [aR 90, aI a1, aI v2, aI v4] [aR 90] (SH L) M5 o := by
                        exact aX_le (ls := [aR 90, aU, aU, aU]) (ls1 := [aR 90, aI a1, aI v2, aI v4]) (⟨Or.inr rfl, ⟨Or.inl rfl, ⟨Or.inl rfl, ⟨Or.inl rfl, trivial⟩⟩⟩⟩) h
                      exact aX_seg 1 (fun n g => ip cc (g)) t18
                    · replace h := h.2 cc
                      have t19 : aX xc_124 (aSeek xc_124 98) [aR 90, aI a1, aI v2, aI v4] [aR 90] (SH L) M5 o := by
                        by_cases cc : ¬ (M5 90 8) = 0
                        · replace h := h.1 cc
                          have t20 : aX xc_124 (aSeek xc_124 109) [aR 90, aI a1, aI v2, aI v4] [aR 90] (SH L) M5 o := by
                            exact aX_le (ls := [aR 90, aU, aU, aU]) (ls1 := [aR 90, aI a1, aI v2, aI v4]) (⟨Or.inr rfl, ⟨Or.inl rfl, ⟨Or.inl rfl, ⟨Or.inl rfl, trivial⟩⟩⟩⟩) h
                          exact aX_seg 3 (fun n g => ip cc (g)) t20
                        · replace h := h.2 cc
                          have t21 : aX xc_124 (aSeek xc_124 105) [aR 90, aI a1, aI v2, aI v4] [aR 90] (SH L) M5 o := by
                            exact aX_seg 2 (fun n g => g) (aX_le (ls := [aR 90, aU, aU, aU]) (ls1 := [aR 90, aI a1, aI v2, aI v4]) (⟨Or.inr rfl, ⟨Or.inl rfl, ⟨Or.inl rfl, ⟨Or.inl rfl, trivial⟩⟩⟩⟩) h)
                          exact aX_seg 3 (fun n g => in_ cc (g)) t21
                      exact aX_seg 1 (fun n g => in_ cc (g)) t19
                  exact aX_seg 4 (fun n g => g) (aX_calls rfl rfl rfl k17 h2)
                exact aX_seg 3 (fun n g => in_ cc (g)) t16
            exact aX_seg 4 (fun n g => in_ cc (g)) t14
        exact aX_seg 2 (fun n g => g) (aX_callv (rfl) rfl rfl rfl k12 h2)
      exact aX_seg 1 (fun n g => g) (aX_callv (rfl) rfl rfl rfl k11 h2)
    exact aX_seg 3 (fun n g => ip cc (g)) t10
  · replace h := h.2 cc
    have t22 : aX xc_124 (aSeek xc_124 53) [aR 90, aI a1, aU, aU] [] (SH L) M o := by
      obtain ⟨M7, v8, k23, h⟩ := h
      have h2 : aX xc_124 (aSeek xc_124 59) [aR 90, aI a1, aU, aU] [aI v8, aI 1, aR 90] (SH L) M7 o := by
        obtain ⟨M9, k24, h⟩ := h
        have h2 : aX xc_124 (aSeek xc_124 63) [aR 90, aI a1, aU, aU] [] (SH L) M9 o := by
          subst h
          exact ⟨2, rfl⟩
        exact aX_seg 1 (fun n g => g) (aX_callv (rfl) rfl rfl rfl k24 h2)
      exact aX_seg 3 (fun n g => g) (aX_callv (rfl) rfl rfl rfl k23 h2)
    exact aX_seg 3 (fun n g => in_ cc (g)) t22
set_option maxRecDepth 100000 in
theorem bl_124_109 {L : Nat} {b0 : Int} {M : aM} {o : aO} (h : aX xc_124 (aSeek xc_124 110) [aR 90, aU, aU, aU] [aI 0, aR b0] (SH L) M o) : aX xc_124 (aSeek xc_124 109) [aR 90, aU, aU, aU] [aR b0] (SH L) M o := by
  exact aX_seg 1 (fun n g => g) (h)
set_option maxRecDepth 100000 in
theorem bl_124_110 {L : Nat} {b0 b1 : Int} {M : aM} {o : aO} (h : (aK (SH L) b0 = 13 ∧ ∃ (M1 : aM), aE 120 [aR b0, aI b1] (SH L) M ([], (SH L), M1) ∧ o = ([], (SH L), aSet M1 90 8 0))) : aX xc_124 (aSeek xc_124 110) [aR 90, aU, aU, aU] [aI b1, aR b0] (SH L) M o := by
  obtain ⟨c2, h⟩ := h
  obtain ⟨M1, k3, h⟩ := h
  have h2 : aX xc_124 (aSeek xc_124 113) [aR 90, aU, aU, aU] [] (SH L) M1 o := by
    subst h
    exact ⟨5, rfl⟩
  exact aX_callv (c2) rfl rfl rfl k3 h2
set_option maxRecDepth 100000 in
theorem bl_124_121 {L : Nat} {a1 a2 a3 : Int} {M : aM} {o : aO} (h : (∃ (M1 : aM) (v2 : Int), aE 123 [aR 90, aI a1, aI a3, aI a2] (SH L) M ([aI v2], (SH L), M1) ∧ (∃ (M3 : aM), aE 120 [aR 90, aI v2] (SH L) M1 ([], (SH L), M3) ∧ o = ([], (SH L), M3)))) : aX xc_124 (aSeek xc_124 121) [aR 90, aI a1, aI a2, aI a3] [] (SH L) M o := by
  obtain ⟨M1, v2, k4, h⟩ := h
  have h2 : aX xc_124 (aSeek xc_124 129) [aR 90, aI a1, aI a2, aI a3] [aI v2, aR 90] (SH L) M1 o := by
    obtain ⟨M3, k5, h⟩ := h
    have h2 : aX xc_124 (aSeek xc_124 132) [aR 90, aI a1, aI a2, aI a3] [] (SH L) M3 o := by
      subst h
      exact ⟨1, rfl⟩
    exact aX_callv (rfl) rfl rfl rfl k5 h2
  exact aX_seg 5 (fun n g => g) (aX_callv (rfl) rfl rfl rfl k4 h2)
/- TypeLock$Laws.evaluate(II)I -/
set_option maxRecDepth 100000 in
theorem en_125 {L : Nat} {a1 a2 : Int} {M : aM} {o : aO} (h : aX xc_125 (aSeek xc_125 12) [aR 90, aU, aI a2, aI a1] [] (SH L) (aSet (aSet M 90 7 0) 90 8 0) o) : aE 125 [aR 90, aI a1, aI a2] (SH L) M o := by
  have q : aX xc_125 (aSeek xc_125 0) [aR 90, aI a1, aI a2, aU] [] (SH L) M o := by
    exact aX_seg 8 (fun n g => g) (aX_le (ls := [aR 90, aU, aI a2, aI a1]) (ls1 := [aR 90, aI a1, aI a2, aI a1]) (⟨Or.inr rfl, ⟨Or.inl rfl, ⟨Or.inr rfl, ⟨Or.inr rfl, trivial⟩⟩⟩⟩) h)
  exact q
set_option maxRecDepth 100000 in
theorem bl_125_12 {L : Nat} {a2 a3 : Int} {M : aM} {o : aO} (h : ((a2 ≤ a3 → aX xc_125 (aSeek xc_125 48) [aR 90, aU, aU, aU] [] (SH L) M o) ∧ (¬ (a2 ≤ a3) → (aK (SH L) (M 90 2) = 19) ∧ (aK (SH L) (aF (SH L) (M 90 2) 12) = 1) ∧ (((aL (SH L) (aF (SH L) (M 90 2) 12)) ≤ a3 → aX xc_125 (aSeek xc_125 48) [aR 90, aU, aU, aU] [] (SH L) M o) ∧ (¬ ((aL (SH L) (aF (SH L) (M 90 2) 12)) ≤ a3) → (aK (SH L) (M 90 2) = 19) ∧ (0 ≤ a3 ∧ a3 < aLn (SH L) 1 (aF (SH L) (M 90 2) 12)) ∧ (∃ (M1 : aM), aE 124 [aR 90, aI (M (aF (SH L) (M 90 2) 12) a3)] (SH L) M ([], (SH L), M1) ∧ aX xc_125 (aSeek xc_125 12) [aR 90, aU, aI a2, aI (aW (a3 + 1))] [] (SH L) M1 o)))))) : aX xc_125 (aSeek xc_125 12) [aR 90, aU, aI a2, aI a3] [] (SH L) M o := by
  by_cases cc : a2 ≤ a3
  · replace h := h.1 cc
    have t2 : aX xc_125 (aSeek xc_125 48) [aR 90, aU, aI a2, aI a3] [] (SH L) M o := by
      exact aX_le (ls := [aR 90, aU, aU, aU]) (ls1 := [aR 90, aU, aI a2, aI a3]) (⟨Or.inr rfl, ⟨Or.inl rfl, ⟨Or.inl rfl, ⟨Or.inl rfl, trivial⟩⟩⟩⟩) h
    exact aX_seg 3 (fun n g => ip cc (g)) t2
  · replace h := h.2 cc
    have t3 : aX xc_125 (aSeek xc_125 17) [aR 90, aU, aI a2, aI a3] [] (SH L) M o := by
      obtain ⟨c4, h⟩ := h
      obtain ⟨c5, h⟩ := h
      by_cases cc : (aL (SH L) (aF (SH L) (M 90 2) 12)) ≤ a3
      · replace h := h.1 cc
        have t6 : aX xc_125 (aSeek xc_125 48) [aR 90, aU, aI a2, aI a3] [] (SH L) M o := by
          exact aX_le (ls := [aR 90, aU, aU, aU]) (ls1 := [aR 90, aU, aI a2, aI a3]) (⟨Or.inr rfl, ⟨Or.inl rfl, ⟨Or.inl rfl, ⟨Or.inl rfl, trivial⟩⟩⟩⟩) h
        exact aX_seg 6 (fun n g => ip c4 (ip c5 (ip cc (g)))) t6
      · replace h := h.2 cc
        have t7 : aX xc_125 (aSeek xc_125 29) [aR 90, aU, aI a2, aI a3] [] (SH L) M o := by
          obtain ⟨c8, h⟩ := h
          obtain ⟨c9, h⟩ := h
          obtain ⟨M1, k10, h⟩ := h
          have h2 : aX xc_125 (aSeek xc_125 42) [aR 90, aU, aI a2, aI a3] [] (SH L) M1 o := by
            exact aX_seg 2 (fun n g => g) (h)
          exact aX_seg 6 (fun n g => ip c8 (ip c9 (g))) (aX_callv (rfl) rfl rfl rfl k10 h2)
        exact aX_seg 6 (fun n g => ip c4 (ip c5 (in_ cc (g)))) t7
    exact aX_seg 3 (fun n g => in_ cc (g)) t3
set_option maxRecDepth 100000 in
theorem bl_125_48 {L : Nat} {M : aM} {o : aO} (h : (∃ (M1 : aM) (v2 : Int), aE 121 [aR 90] (SH L) M ([aI v2], (SH L), M1) ∧ o = ([aI v2], (SH L), M1))) : aX xc_125 (aSeek xc_125 48) [aR 90, aU, aU, aU] [] (SH L) M o := by
  obtain ⟨M1, v2, k3, h⟩ := h
  have h2 : aX xc_125 (aSeek xc_125 52) [aR 90, aU, aU, aU] [aI v2] (SH L) M1 o := by
    subst h
    exact ⟨1, rfl⟩
  exact aX_seg 1 (fun n g => g) (aX_callv (rfl) rfl rfl rfl k3 h2)
/- TypeLock$Laws.addUpShifts(I)V -/
set_option maxRecDepth 100000 in
theorem en_126 {L : Nat} {a1 : Int} {M : aM} {o : aO} (h : (0 ≤ a1 ∧ a1 < aLn (SH L) 6 92) ∧ (∃ (M1 : aM), aE 78 [aR (aF (SH L) 92 (a1).toNat), aI 0] (SH L) M ([], (SH L), M1) ∧ (aK (SH L) (M1 90 4) = 17 ∧ ∃ (M2 : aM) (v3 : Int), aE 83 [aR (M1 90 4), aI a1] (SH L) M1 ([aR v3], (SH L), M2) ∧ aX xc_126 (aSeek xc_126 24) [aR 90, aI a1, aR (aF (SH L) 92 (a1).toNat), aR v3, aI 0, aU, aU, aU] [] (SH L) M2 o))) : aE 126 [aR 90, aI a1] (SH L) M o := by
  have q : aX xc_126 (aSeek xc_126 0) [aR 90, aI a1, aU, aU, aU, aU, aU, aU] [] (SH L) M o := by
    obtain ⟨c4, h⟩ := h
    obtain ⟨M1, k5, h⟩ := h
    have h2 : aX xc_126 (aSeek xc_126 12) [aR 90, aI a1, aR (aF (SH L) 92 (a1).toNat), aU, aU, aU, aU, aU] [] (SH L) M1 o := by
      obtain ⟨c6, h⟩ := h
      obtain ⟨M2, v3, k7, h⟩ := h
      have h2 : aX xc_126 (aSeek xc_126 20) [aR 90, aI a1, aR (aF (SH L) 92 (a1).toNat), aU, aU, aU, aU, aU] [aR v3] (SH L) M2 o := by
        exact aX_seg 3 (fun n g => g) (h)
      exact aX_seg 3 (fun n g => g) (aX_callv (c6) rfl rfl rfl k7 h2)
    exact aX_seg 7 (fun n g => ip c4 (g)) (aX_calls rfl rfl rfl k5 h2)
  exact q
set_option maxRecDepth 100000 in
theorem bl_126_24 {L : Nat} {a1 a2 a3 a4 : Int} {M : aM} {o : aO} (h : (aK (SH L) a3 = 11) ∧ (((M a3 0) ≤ a4 → o = ([], (SH L), M)) ∧ (¬ ((M a3 0) ≤ a4) → (aK (SH L) a3 = 11 ∧ ∃ (M1 : aM) (v2 : Int), aE 88 [aR a3, aI a1, aI a4] (SH L) M ([aI v2], (SH L), M1) ∧ (aK (SH L) a3 = 11 ∧ ∃ (M3 : aM) (v4 : Int), aE 89 [aR a3, aI a1, aI v2] (SH L) M1 ([aI v4], (SH L), M3) ∧ (aK (SH L) a3 = 11 ∧ ∃ (M5 : aM) (v6 : Int), aE 91 [aR a3, aI a1, aI v2] (SH L) M3 ([aI v6], (SH L), M5) ∧ (0 ≤ v6 ∧ v6 < aLn (SH L) 1 a2) ∧ (0 ≤ v4 ∧ v4 < aLn (SH L) 1 a2) ∧ (0 ≤ v4 ∧ v4 < aLn (SH L) 1 91) ∧ (0 ≤ v6 ∧ v6 < aLn (SH L) 1 a2) ∧ aX xc_126 (aSeek xc_126 24) [aR 90, aI a1, aR a2, aR a3, aI (aW (a4 + 1)), aU, aU, aU] [] (SH L) (aSet M5 a2 v6 (max (M5 a2 v6) (aW ((M5 a2 v4) + (M5 91 v4))))) o)))))) : aX xc_126 (aSeek xc_126 24) [aR 90, aI a1, aR a2, aR a3, aI a4, aU, aU, aU] [] (SH L) M o := by
  obtain ⟨c7, h⟩ := h
  by_cases cc : (M a3 0) ≤ a4
  · replace h := h.1 cc
    have t8 : aX xc_126 (aSeek xc_126 89) [aR 90, aI a1, aR a2, aR a3, aI a4, aU, aU, aU] [] (SH L) M o := by
      subst h
      exact ⟨1, rfl⟩
    exact aX_seg 4 (fun n g => ip c7 (ip cc (g))) t8
  · replace h := h.2 cc
    have t9 : aX xc_126 (aSeek xc_126 33) [aR 90, aI a1, aR a2, aR a3, aI a4, aU, aU, aU] [] (SH L) M o := by
      obtain ⟨c10, h⟩ := h
      obtain ⟨M1, v2, k11, h⟩ := h
      have h2 : aX xc_126 (aSeek xc_126 40) [aR 90, aI a1, aR a2, aR a3, aI a4, aU, aU, aU] [aI v2] (SH L) M1 o := by
        obtain ⟨c12, h⟩ := h
        obtain ⟨M3, v4, k13, h⟩ := h
        have h2 : aX xc_126 (aSeek xc_126 49) [aR 90, aI a1, aR a2, aR a3, aI a4, aI v2, aU, aU] [aI v4] (SH L) M3 o := by
          obtain ⟨c14, h⟩ := h
          obtain ⟨M5, v6, k15, h⟩ := h
          have h2 : aX xc_126 (aSeek xc_126 58) [aR 90, aI a1, aR a2, aR a3, aI a4, aI v2, aI v4, aU] [aI v6] (SH L) M5 o := by
            obtain ⟨c16, h⟩ := h
            obtain ⟨c17, h⟩ := h
            obtain ⟨c18, h⟩ := h
            obtain ⟨c19, h⟩ := h
            exact aX_seg 18 (fun n g => ip c16 (ip c17 (ip c18 (ip c19 (g))))) (aX_le (ls := [aR 90, aI a1, aR a2, aR a3, aI (aW (a4 + 1)), aU, aU, aU]) (ls1 := [aR 90, aI a1, aR a2, aR a3, aI (aW (a4 + 1)), aI v2, aI v4, aI v6]) (⟨Or.inr rfl, ⟨Or.inr rfl, ⟨Or.inr rfl, ⟨Or.inr rfl, ⟨Or.inr rfl, ⟨Or.inl rfl, ⟨Or.inl rfl, ⟨Or.inl rfl, trivial⟩⟩⟩⟩⟩⟩⟩⟩) h)
          exact aX_seg 4 (fun n g => g) (aX_callv (c14) rfl rfl rfl k15 h2)
        exact aX_seg 4 (fun n g => g) (aX_callv (c12) rfl rfl rfl k13 h2)
      exact aX_seg 3 (fun n g => g) (aX_callv (c10) rfl rfl rfl k11 h2)
    exact aX_seg 4 (fun n g => ip c7 (in_ cc (g))) t9
/- TypeLock$Laws.weigh(LTypeLock$Text;LTypeLock$Bed;LTypeLock$Pushes;I)V -/
set_option maxRecDepth 100000 in
theorem en_127 {L : Nat} {a1 a2 a3 a4 : Int} {M : aM} {o : aO} (h : ((¬ (M 90 9) = a4 → (aK (SH L) 90 = 13 ∧ -1 ≤ (a1 : Int)) ∧ (aK (SH L) 90 = 13 ∧ -1 ≤ (a2 : Int)) ∧ (aK (SH L) 90 = 13 ∧ -1 ≤ (a3 : Int)) ∧ aX xc_127 (aSeek xc_127 34) [aR 90, aU, aU, aU, aU, aI 0, aU] [] (SH L) (aSet (aSet (aSet (aSet M 90 9 a4) 90 2 a1) 90 3 a2) 90 4 a3) o) ∧ (¬ (¬ (M 90 9) = a4) → o = ([], (SH L), M)))) : aE 127 [aR 90, aR a1, aR a2, aR a3, aI a4] (SH L) M o := by
  have q : aX xc_127 (aSeek xc_127 0) [aR 90, aR a1, aR a2, aR a3, aI a4, aU, aU] [] (SH L) M o := by
    by_cases cc : ¬ (M 90 9) = a4
    · replace h := h.1 cc
      have t1 : aX xc_127 (aSeek xc_127 10) [aR 90, aR a1, aR a2, aR a3, aI a4, aU, aU] [] (SH L) M o := by
        obtain ⟨c2, h⟩ := h
        obtain ⟨c3, h⟩ := h
        obtain ⟨c4, h⟩ := h
        exact aX_seg 14 (fun n g => ip c2 (ip c3 (ip c4 (g)))) (aX_le (ls := [aR 90, aU, aU, aU, aU, aI 0, aU]) (ls1 := [aR 90, aR a1, aR a2, aR a3, aI a4, aI 0, aU]) (⟨Or.inr rfl, ⟨Or.inl rfl, ⟨Or.inl rfl, ⟨Or.inl rfl, ⟨Or.inl rfl, ⟨Or.inr rfl, ⟨Or.inl rfl, trivial⟩⟩⟩⟩⟩⟩⟩) h)
      exact aX_seg 4 (fun n g => ip cc (g)) t1
    · replace h := h.2 cc
      have t5 : aX xc_127 (aSeek xc_127 9) [aR 90, aR a1, aR a2, aR a3, aI a4, aU, aU] [] (SH L) M o := by
        subst h
        exact ⟨1, rfl⟩
      exact aX_seg 4 (fun n g => in_ cc (g)) t5
  exact q
set_option maxRecDepth 100000 in
theorem bl_127_34 {L : Nat} {a5 : Int} {M : aM} {o : aO} (h : (aK (SH L) (M 90 3) = 10) ∧ (((M (M 90 3) 0) ≤ a5 → aX xc_127 (aSeek xc_127 110) [aR 90, aU, aU, aU, aU, aI 0, aU] [] (SH L) M o) ∧ (¬ ((M (M 90 3) 0) ≤ a5) → (∃ (M1 : aM), aE 119 [aR 90, aI a5] (SH L) M ([], (SH L), M1) ∧ (aK (SH L) (M1 90 2) = 19) ∧ (aK (SH L) (M1 90 2) = 19) ∧ (∃ (M2 : aM) (v3 : Int), aE 125 [aR 90, aI (M1 (M1 90 2) 14), aI (M1 (M1 90 2) 15)] (SH L) M1 ([aI v3], (SH L), M2) ∧ (((M2 90 8) = 0 → aX xc_127 (aSeek xc_127 100) [aR 90, aU, aU, aU, aU, aI a5, aU] [aI (max 0 (min 9 v3)), aI a5, aR 91] (SH L) M2 o) ∧ (¬ ((M2 90 8) = 0) → aX xc_127 (aSeek xc_127 100) [aR 90, aU, aU, aU, aU, aI a5, aU] [aI 0, aI a5, aR 91] (SH L) M2 o))))))) : aX xc_127 (aSeek xc_127 34) [aR 90, aU, aU, aU, aU, aI a5, aU] [] (SH L) M o := by
  obtain ⟨c4, h⟩ := h
  by_cases cc : (M (M 90 3) 0) ≤ a5
  · replace h := h.1 cc
    have t5 : aX xc_127 (aSeek xc_127 107) [aR 90, aU, aU, aU, aU, aI a5, aU] [] (SH L) M o := by
      exact aX_seg 2 (fun n g => g) (h)
    exact aX_seg 5 (fun n g => ip c4 (ip cc (g))) t5
  · replace h := h.2 cc
    have t6 : aX xc_127 (aSeek xc_127 46) [aR 90, aU, aU, aU, aU, aI a5, aU] [] (SH L) M o := by
      obtain ⟨M1, k7, h⟩ := h
      have h2 : aX xc_127 (aSeek xc_127 52) [aR 90, aU, aU, aU, aU, aI a5, aU] [] (SH L) M1 o := by
        obtain ⟨c8, h⟩ := h
        obtain ⟨c9, h⟩ := h
        obtain ⟨M2, v3, k10, h⟩ := h
        have h2 : aX xc_127 (aSeek xc_127 70) [aR 90, aU, aU, aU, aU, aI a5, aU] [aI v3] (SH L) M2 o := by
          by_cases cc : (M2 90 8) = 0
          · replace h := h.1 cc
            have t11 : aX xc_127 (aSeek xc_127 89) [aR 90, aU, aU, aU, aU, aI a5, aI v3] [aI a5, aR 91] (SH L) M2 o := by
              exact aX_seg 5 (fun n g => g) (aX_le (ls := [aR 90, aU, aU, aU, aU, aI a5, aU]) (ls1 := [aR 90, aU, aU, aU, aU, aI a5, aI v3]) (⟨Or.inr rfl, ⟨Or.inl rfl, ⟨Or.inl rfl, ⟨Or.inl rfl, ⟨Or.inl rfl, ⟨Or.inr rfl, ⟨Or.inl rfl, trivial⟩⟩⟩⟩⟩⟩⟩) h)
            exact aX_seg 7 (fun n g => ip cc (g)) t11
          · replace h := h.2 cc
            have t12 : aX xc_127 (aSeek xc_127 85) [aR 90, aU, aU, aU, aU, aI a5, aI v3] [aI a5, aR 91] (SH L) M2 o := by
              exact aX_seg 2 (fun n g => g) (aX_le (ls := [aR 90, aU, aU, aU, aU, aI a5, aU]) (ls1 := [aR 90, aU, aU, aU, aU, aI a5, aI v3]) (⟨Or.inr rfl, ⟨Or.inl rfl, ⟨Or.inl rfl, ⟨Or.inl rfl, ⟨Or.inl rfl, ⟨Or.inr rfl, ⟨Or.inl rfl, trivial⟩⟩⟩⟩⟩⟩⟩) h)
            exact aX_seg 7 (fun n g => in_ cc (g)) t12
        exact aX_seg 7 (fun n g => ip c8 (ip c9 (g))) (aX_callv (rfl) rfl rfl rfl k10 h2)
      exact aX_seg 2 (fun n g => g) (aX_callv (rfl) rfl rfl rfl k7 h2)
    exact aX_seg 5 (fun n g => ip c4 (in_ cc (g))) t6
set_option maxRecDepth 100000 in
theorem bl_127_100 {L : Nat} {a5 b0 b1 b2 : Int} {M : aM} {o : aO} (h : (0 ≤ b1 ∧ b1 < aLn (SH L) 1 b0) ∧ aX xc_127 (aSeek xc_127 34) [aR 90, aU, aU, aU, aU, aI (aW (a5 + 1)), aU] [] (SH L) (aSet M b0 b1 b2) o) : aX xc_127 (aSeek xc_127 100) [aR 90, aU, aU, aU, aU, aI a5, aU] [aI b2, aI b1, aR b0] (SH L) M o := by
  obtain ⟨c1, h⟩ := h
  exact aX_seg 3 (fun n g => ip c1 (g)) (h)
set_option maxRecDepth 100000 in
theorem bl_127_110 {L : Nat} {a5 : Int} {M : aM} {o : aO} (h : ((4 ≤ a5 → o = ([], (SH L), M)) ∧ (¬ (4 ≤ a5) → (∃ (M1 : aM), aE 126 [aR 90, aI a5] (SH L) M ([], (SH L), M1) ∧ aX xc_127 (aSeek xc_127 110) [aR 90, aU, aU, aU, aU, aI (aW (a5 + 1)), aU] [] (SH L) M1 o)))) : aX xc_127 (aSeek xc_127 110) [aR 90, aU, aU, aU, aU, aI a5, aU] [] (SH L) M o := by
  by_cases cc : 4 ≤ a5
  · replace h := h.1 cc
    have t2 : aX xc_127 (aSeek xc_127 128) [aR 90, aU, aU, aU, aU, aI a5, aU] [] (SH L) M o := by
      subst h
      exact ⟨1, rfl⟩
    exact aX_seg 3 (fun n g => ip cc (g)) t2
  · replace h := h.2 cc
    have t3 : aX xc_127 (aSeek xc_127 116) [aR 90, aU, aU, aU, aU, aI a5, aU] [] (SH L) M o := by
      obtain ⟨M1, k4, h⟩ := h
      have h2 : aX xc_127 (aSeek xc_127 122) [aR 90, aU, aU, aU, aU, aI a5, aU] [] (SH L) M1 o := by
        exact aX_seg 2 (fun n g => g) (h)
      exact aX_seg 2 (fun n g => g) (aX_callv (rfl) rfl rfl rfl k4 h2)
    exact aX_seg 3 (fun n g => in_ cc (g)) t3
/- TypeLock.weighLaws()V -/
set_option maxRecDepth 100000 in
theorem en_128 {L : Nat} {M : aM} {o : aO} (h : (∃ (M1 : aM), aE 80 [aR 1] (SH L) M ([], (SH L), M1) ∧ (∃ (M2 : aM), aE 127 [aR 90, aR (M1 1 3), aR 31, aR 64, aI (M1 1 10)] (SH L) M1 ([], (SH L), M2) ∧ o = ([], (SH L), M2)))) : aE 128 [aR 1] (SH L) M o := by
  have q : aX xc_128 (aSeek xc_128 0) [aR 1] [] (SH L) M o := by
    obtain ⟨M1, k3, h⟩ := h
    have h2 : aX xc_128 (aSeek xc_128 4) [aR 1] [] (SH L) M1 o := by
      obtain ⟨M2, k4, h⟩ := h
      have h2 : aX xc_128 (aSeek xc_128 27) [aR 1] [] (SH L) M2 o := by
        subst h
        exact ⟨1, rfl⟩
      exact aX_seg 10 (fun n g => g) (aX_callv (rfl) rfl rfl rfl k4 h2)
    exact aX_seg 1 (fun n g => g) (aX_callv (rfl) rfl rfl rfl k3 h2)
  exact q
/- TypeLock.gives(I)I -/
set_option maxRecDepth 100000 in
theorem en_129 {L : Nat} {a1 : Int} {M : aM} {o : aO} (h : (∃ (M1 : aM) (v2 : Int), aE 63 [aR 31, aI a1] (SH L) M ([aI v2], (SH L), M1) ∧ ((¬ v2 = 0 → (∃ (M3 : aM), aE 128 [aR 1] (SH L) M1 ([], (SH L), M3) ∧ (0 ≤ a1 ∧ a1 < aLn (SH L) 1 91) ∧ o = ([aI (M3 91 a1)], (SH L), M3))) ∧ (¬ (¬ v2 = 0) → o = ([aI ((-1))], (SH L), M1))))) : aE 129 [aR 1, aI a1] (SH L) M o := by
  have q : aX xc_129 (aSeek xc_129 0) [aR 1, aI a1] [] (SH L) M o := by
    obtain ⟨M1, v2, k4, h⟩ := h
    have h2 : aX xc_129 (aSeek xc_129 8) [aR 1, aI a1] [aI v2] (SH L) M1 o := by
      by_cases cc : ¬ v2 = 0
      · replace h := h.1 cc
        have t5 : aX xc_129 (aSeek xc_129 13) [aR 1, aI a1] [] (SH L) M1 o := by
          obtain ⟨M3, k6, h⟩ := h
          have h2 : aX xc_129 (aSeek xc_129 17) [aR 1, aI a1] [] (SH L) M3 o := by
            obtain ⟨c7, h⟩ := h
            subst h
            exact ⟨6, ip c7 (rfl)⟩
          exact aX_seg 1 (fun n g => g) (aX_callv (rfl) rfl rfl rfl k6 h2)
        exact aX_seg 1 (fun n g => ip cc (g)) t5
      · replace h := h.2 cc
        have t8 : aX xc_129 (aSeek xc_129 11) [aR 1, aI a1] [] (SH L) M1 o := by
          subst h
          exact ⟨2, rfl⟩
        exact aX_seg 1 (fun n g => in_ cc (g)) t8
    exact aX_seg 3 (fun n g => g) (aX_callv (rfl) rfl rfl rfl k4 h2)
  exact q
/- TypeLock.shift(II)I -/
set_option maxRecDepth 100000 in
theorem en_130 {L : Nat} {a1 a2 : Int} {M : aM} {o : aO} (h : (∃ (M1 : aM) (v2 : Int), aE 63 [aR 31, aI a1] (SH L) M ([aI v2], (SH L), M1) ∧ ((v2 = 0 → o = ([aI ((-1))], (SH L), M1)) ∧ (¬ (v2 = 0) → (∃ (M3 : aM) (v4 : Int), aE 36 [aI a2] (SH L) M1 ([aI v4], (SH L), M3) ∧ ((¬ v4 = 0 → (∃ (M5 : aM), aE 128 [aR 1] (SH L) M3 ([], (SH L), M5) ∧ (0 ≤ a2 ∧ a2 < aLn (SH L) 6 92) ∧ (0 ≤ a1 ∧ a1 < aLn (SH L) 1 (aF (SH L) 92 (a2).toNat)) ∧ o = ([aI (M5 (aF (SH L) 92 (a2).toNat) a1)], (SH L), M5))) ∧ (¬ (¬ v4 = 0) → o = ([aI ((-1))], (SH L), M3)))))))) : aE 130 [aR 1, aI a1, aI a2] (SH L) M o := by
  have q : aX xc_130 (aSeek xc_130 0) [aR 1, aI a1, aI a2] [] (SH L) M o := by
    obtain ⟨M1, v2, k6, h⟩ := h
    have h2 : aX xc_130 (aSeek xc_130 8) [aR 1, aI a1, aI a2] [aI v2] (SH L) M1 o := by
      by_cases cc : v2 = 0
      · replace h := h.1 cc
        have t7 : aX xc_130 (aSeek xc_130 18) [aR 1, aI a1, aI a2] [] (SH L) M1 o := by
          subst h
          exact ⟨2, rfl⟩
        exact aX_seg 1 (fun n g => ip cc (g)) t7
      · replace h := h.2 cc
        have t8 : aX xc_130 (aSeek xc_130 11) [aR 1, aI a1, aI a2] [] (SH L) M1 o := by
          obtain ⟨M3, v4, k9, h⟩ := h
          have h2 : aX xc_130 (aSeek xc_130 15) [aR 1, aI a1, aI a2] [aI v4] (SH L) M3 o := by
            by_cases cc : ¬ v4 = 0
            · replace h := h.1 cc
              have t10 : aX xc_130 (aSeek xc_130 20) [aR 1, aI a1, aI a2] [] (SH L) M3 o := by
                obtain ⟨M5, k11, h⟩ := h
                have h2 : aX xc_130 (aSeek xc_130 24) [aR 1, aI a1, aI a2] [] (SH L) M5 o := by
                  obtain ⟨c12, h⟩ := h
                  obtain ⟨c13, h⟩ := h
                  subst h
                  exact ⟨8, ip c12 (ip c13 (rfl))⟩
                exact aX_seg 1 (fun n g => g) (aX_callv (rfl) rfl rfl rfl k11 h2)
              exact aX_seg 1 (fun n g => ip cc (g)) t10
            · replace h := h.2 cc
              have t14 : aX xc_130 (aSeek xc_130 18) [aR 1, aI a1, aI a2] [] (SH L) M3 o := by
                subst h
                exact ⟨2, rfl⟩
              exact aX_seg 1 (fun n g => in_ cc (g)) t14
          exact aX_seg 1 (fun n g => g) (aX_calls rfl rfl rfl k9 h2)
        exact aX_seg 1 (fun n g => in_ cc (g)) t8
    exact aX_seg 3 (fun n g => g) (aX_callv (rfl) rfl rfl rfl k6 h2)
  exact q
/- TypeLock$Laws.bowOf(II)I -/
set_option maxRecDepth 100000 in
theorem en_131 {L : Nat} {a1 a2 : Int} {M : aM} {o : aO} (h : (aK (SH L) (M 90 4) = 17 ∧ ∃ (M1 : aM) (v2 : Int), aE 83 [aR (M 90 4), aI a2] (SH L) M ([aR v2], (SH L), M1) ∧ aX xc_131 (aSeek xc_131 28) [aR 90, aI a1, aI a2, aI (aRem (aW (a2 + 2)) 4), aR v2, aI 0, aI 0, aI 1, aI 0, aU] [] (SH L) M1 o)) : aE 131 [aR 90, aI a1, aI a2] (SH L) M o := by
  have q : aX xc_131 (aSeek xc_131 0) [aR 90, aI a1, aI a2, aU, aU, aU, aU, aU, aU, aU] [] (SH L) M o := by
    obtain ⟨c3, h⟩ := h
    obtain ⟨M1, v2, k4, h⟩ := h
    have h2 : aX xc_131 (aSeek xc_131 14) [aR 90, aI a1, aI a2, aI (aRem (aW (a2 + 2)) 4), aU, aU, aU, aU, aU, aU] [aR v2] (SH L) M1 o := by
      exact aX_seg 9 (fun n g => g) (h)
    exact aX_seg 9 (fun n g => g) (aX_callv (c3) rfl rfl rfl k4 h2)
  exact q
set_option maxRecDepth 100000 in
theorem bl_131_28 {L : Nat} {a1 a2 a3 a4 a5 a6 a7 a8 : Int} {M : aM} {o : aO} (h : (aK (SH L) a4 = 11) ∧ (((M a4 0) ≤ a8 → o = ([aI (aW (a6 - a5))], (SH L), M)) ∧ (¬ ((M a4 0) ≤ a8) → (aK (SH L) a4 = 11 ∧ ∃ (M1 : aM) (v2 : Int), aE 91 [aR a4, aI a3, aI a8] (SH L) M ([aI v2], (SH L), M1) ∧ ((¬ v2 = a1 → aX xc_131 (aSeek xc_131 108) [aR 90, aI a1, aI a2, aI a3, aR a4, aI a5, aI a6, aI a7, aI a8, aU] [] (SH L) M1 o) ∧ (¬ (¬ v2 = a1) → (0 ≤ a2 ∧ a2 < aLn (SH L) 6 92) ∧ (aK (SH L) a4 = 11 ∧ ∃ (M3 : aM) (v4 : Int), aE 89 [aR a4, aI a3, aI a8] (SH L) M1 ([aI v4], (SH L), M3) ∧ (0 ≤ v4 ∧ v4 < aLn (SH L) 1 (aF (SH L) 92 (a2).toNat)) ∧ ((a7 = 0 → aX xc_131 (aSeek xc_131 84) [aR 90, aI a1, aI a2, aI a3, aR a4, aU, aI a6, aI a7, aI a8, aI (M3 (aF (SH L) 92 (a2).toNat) v4)] [aI (min a5 (M3 (aF (SH L) 92 (a2).toNat) v4))] (SH L) M3 o) ∧ (¬ (a7 = 0) → aX xc_131 (aSeek xc_131 84) [aR 90, aI a1, aI a2, aI a3, aR a4, aU, aI a6, aI a7, aI a8, aI (M3 (aF (SH L) 92 (a2).toNat) v4)] [aI (M3 (aF (SH L) 92 (a2).toNat) v4)] (SH L) M3 o))))))))) : aX xc_131 (aSeek xc_131 28) [aR 90, aI a1, aI a2, aI a3, aR a4, aI a5, aI a6, aI a7, aI a8, aU] [] (SH L) M o := by
  obtain ⟨c5, h⟩ := h
  by_cases cc : (M a4 0) ≤ a8
  · replace h := h.1 cc
    have t6 : aX xc_131 (aSeek xc_131 114) [aR 90, aI a1, aI a2, aI a3, aR a4, aI a5, aI a6, aI a7, aI a8, aU] [] (SH L) M o := by
      subst h
      exact ⟨4, rfl⟩
    exact aX_seg 4 (fun n g => ip c5 (ip cc (g))) t6
  · replace h := h.2 cc
    have t7 : aX xc_131 (aSeek xc_131 38) [aR 90, aI a1, aI a2, aI a3, aR a4, aI a5, aI a6, aI a7, aI a8, aU] [] (SH L) M o := by
      obtain ⟨c8, h⟩ := h
      obtain ⟨M1, v2, k9, h⟩ := h
      have h2 : aX xc_131 (aSeek xc_131 46) [aR 90, aI a1, aI a2, aI a3, aR a4, aI a5, aI a6, aI a7, aI a8, aU] [aI v2] (SH L) M1 o := by
        by_cases cc : ¬ v2 = a1
        · replace h := h.1 cc
          have t10 : aX xc_131 (aSeek xc_131 108) [aR 90, aI a1, aI a2, aI a3, aR a4, aI a5, aI a6, aI a7, aI a8, aU] [] (SH L) M1 o := by
            exact h
          exact aX_seg 2 (fun n g => ip cc (g)) t10
        · replace h := h.2 cc
          have t11 : aX xc_131 (aSeek xc_131 50) [aR 90, aI a1, aI a2, aI a3, aR a4, aI a5, aI a6, aI a7, aI a8, aU] [] (SH L) M1 o := by
            obtain ⟨c12, h⟩ := h
            obtain ⟨c13, h⟩ := h
            obtain ⟨M3, v4, k14, h⟩ := h
            have h2 : aX xc_131 (aSeek xc_131 64) [aR 90, aI a1, aI a2, aI a3, aR a4, aI a5, aI a6, aI a7, aI a8, aU] [aI v4, aR (aF (SH L) 92 (a2).toNat)] (SH L) M3 o := by
              obtain ⟨c15, h⟩ := h
              by_cases cc : a7 = 0
              · replace h := h.1 cc
                have t16 : aX xc_131 (aSeek xc_131 77) [aR 90, aI a1, aI a2, aI a3, aR a4, aI a5, aI a6, aI a7, aI a8, aI (M3 (aF (SH L) 92 (a2).toNat) v4)] [] (SH L) M3 o := by
                  exact aX_seg 3 (fun n g => g) (aX_le (ls := [aR 90, aI a1, aI a2, aI a3, aR a4, aU, aI a6, aI a7, aI a8, aI (M3 (aF (SH L) 92 (a2).toNat) v4)]) (ls1 := [aR 90, aI a1, aI a2, aI a3, aR a4, aI a5, aI a6, aI a7, aI a8, aI (M3 (aF (SH L) 92 (a2).toNat) v4)]) (⟨Or.inr rfl, ⟨Or.inr rfl, ⟨Or.inr rfl, ⟨Or.inr rfl, ⟨Or.inr rfl, ⟨Or.inl rfl, ⟨Or.inr rfl, ⟨Or.inr rfl, ⟨Or.inr rfl, ⟨Or.inr rfl, trivial⟩⟩⟩⟩⟩⟩⟩⟩⟩⟩) h)
                exact aX_seg 4 (fun n g => ip c15 (ip cc (g))) t16
              · replace h := h.2 cc
                have t17 : aX xc_131 (aSeek xc_131 72) [aR 90, aI a1, aI a2, aI a3, aR a4, aI a5, aI a6, aI a7, aI a8, aI (M3 (aF (SH L) 92 (a2).toNat) v4)] [] (SH L) M3 o := by
                  exact aX_seg 2 (fun n g => g) (aX_le (ls := [aR 90, aI a1, aI a2, aI a3, aR a4, aU, aI a6, aI a7, aI a8, aI (M3 (aF (SH L) 92 (a2).toNat) v4)]) (ls1 := [aR 90, aI a1, aI a2, aI a3, aR a4, aI a5, aI a6, aI a7, aI a8, aI (M3 (aF (SH L) 92 (a2).toNat) v4)]) (⟨Or.inr rfl, ⟨Or.inr rfl, ⟨Or.inr rfl, ⟨Or.inr rfl, ⟨Or.inr rfl, ⟨Or.inl rfl, ⟨Or.inr rfl, ⟨Or.inr rfl, ⟨Or.inr rfl, ⟨Or.inr rfl, trivial⟩⟩⟩⟩⟩⟩⟩⟩⟩⟩) h)
                exact aX_seg 4 (fun n g => ip c15 (in_ cc (g))) t17
            exact aX_seg 7 (fun n g => ip c12 (g)) (aX_callv (c13) rfl rfl rfl k14 h2)
          exact aX_seg 2 (fun n g => in_ cc (g)) t11
      exact aX_seg 3 (fun n g => g) (aX_callv (c8) rfl rfl rfl k9 h2)
    exact aX_seg 4 (fun n g => ip c5 (in_ cc (g))) t7
set_option maxRecDepth 100000 in
theorem bl_131_84 {L : Nat} {a1 a2 a3 a4 a6 a7 a8 a9 b0 : Int} {M : aM} {o : aO} (h : ((a7 = 0 → aX xc_131 (aSeek xc_131 103) [aR 90, aI a1, aI a2, aI a3, aR a4, aI b0, aU, aU, aI a8, aU] [aI (max a6 a9)] (SH L) M o) ∧ (¬ (a7 = 0) → aX xc_131 (aSeek xc_131 103) [aR 90, aI a1, aI a2, aI a3, aR a4, aI b0, aU, aU, aI a8, aU] [aI a9] (SH L) M o))) : aX xc_131 (aSeek xc_131 84) [aR 90, aI a1, aI a2, aI a3, aR a4, aU, aI a6, aI a7, aI a8, aI a9] [aI b0] (SH L) M o := by
  by_cases cc : a7 = 0
  · replace h := h.1 cc
    have t1 : aX xc_131 (aSeek xc_131 96) [aR 90, aI a1, aI a2, aI a3, aR a4, aI b0, aI a6, aI a7, aI a8, aI a9] [] (SH L) M o := by
      exact aX_seg 3 (fun n g => g) (aX_le (ls := [aR 90, aI a1, aI a2, aI a3, aR a4, aI b0, aU, aU, aI a8, aU]) (ls1 := [aR 90, aI a1, aI a2, aI a3, aR a4, aI b0, aI a6, aI a7, aI a8, aI a9]) (⟨Or.inr rfl, ⟨Or.inr rfl, ⟨Or.inr rfl, ⟨Or.inr rfl, ⟨Or.inr rfl, ⟨Or.inr rfl, ⟨Or.inl rfl, ⟨Or.inl rfl, ⟨Or.inr rfl, ⟨Or.inl rfl, trivial⟩⟩⟩⟩⟩⟩⟩⟩⟩⟩) h)
    exact aX_seg 3 (fun n g => ip cc (g)) t1
  · replace h := h.2 cc
    have t2 : aX xc_131 (aSeek xc_131 91) [aR 90, aI a1, aI a2, aI a3, aR a4, aI b0, aI a6, aI a7, aI a8, aI a9] [] (SH L) M o := by
      exact aX_seg 2 (fun n g => g) (aX_le (ls := [aR 90, aI a1, aI a2, aI a3, aR a4, aI b0, aU, aU, aI a8, aU]) (ls1 := [aR 90, aI a1, aI a2, aI a3, aR a4, aI b0, aI a6, aI a7, aI a8, aI a9]) (⟨Or.inr rfl, ⟨Or.inr rfl, ⟨Or.inr rfl, ⟨Or.inr rfl, ⟨Or.inr rfl, ⟨Or.inr rfl, ⟨Or.inl rfl, ⟨Or.inl rfl, ⟨Or.inr rfl, ⟨Or.inl rfl, trivial⟩⟩⟩⟩⟩⟩⟩⟩⟩⟩) h)
    exact aX_seg 3 (fun n g => in_ cc (g)) t2
set_option maxRecDepth 100000 in
theorem bl_131_103 {L : Nat} {a1 a2 a3 a4 a5 a8 b0 : Int} {M : aM} {o : aO} (h : aX xc_131 (aSeek xc_131 108) [aR 90, aI a1, aI a2, aI a3, aR a4, aI a5, aI b0, aI 0, aI a8, aU] [] (SH L) M o) : aX xc_131 (aSeek xc_131 103) [aR 90, aI a1, aI a2, aI a3, aR a4, aI a5, aU, aU, aI a8, aU] [aI b0] (SH L) M o := by
  exact aX_seg 3 (fun n g => g) (h)
set_option maxRecDepth 100000 in
theorem bl_131_108 {L : Nat} {a1 a2 a3 a4 a5 a6 a7 a8 : Int} {M : aM} {o : aO} (h : aX xc_131 (aSeek xc_131 28) [aR 90, aI a1, aI a2, aI a3, aR a4, aI a5, aI a6, aI a7, aI (aW (a8 + 1)), aU] [] (SH L) M o) : aX xc_131 (aSeek xc_131 108) [aR 90, aI a1, aI a2, aI a3, aR a4, aI a5, aI a6, aI a7, aI a8, aU] [] (SH L) M o := by
  exact aX_seg 2 (fun n g => g) (h)
/- TypeLock.bow(II)I -/
set_option maxRecDepth 100000 in
theorem en_132 {L : Nat} {a1 a2 : Int} {M : aM} {o : aO} (h : (∃ (M1 : aM) (v2 : Int), aE 63 [aR 31, aI a1] (SH L) M ([aI v2], (SH L), M1) ∧ ((v2 = 0 → o = ([aI ((-1))], (SH L), M1)) ∧ (¬ (v2 = 0) → (∃ (M3 : aM) (v4 : Int), aE 36 [aI a2] (SH L) M1 ([aI v4], (SH L), M3) ∧ ((¬ v4 = 0 → (∃ (M5 : aM), aE 128 [aR 1] (SH L) M3 ([], (SH L), M5) ∧ (∃ (M6 : aM) (v7 : Int), aE 131 [aR 90, aI a1, aI a2] (SH L) M5 ([aI v7], (SH L), M6) ∧ o = ([aI v7], (SH L), M6)))) ∧ (¬ (¬ v4 = 0) → o = ([aI ((-1))], (SH L), M3)))))))) : aE 132 [aR 1, aI a1, aI a2] (SH L) M o := by
  have q : aX xc_132 (aSeek xc_132 0) [aR 1, aI a1, aI a2] [] (SH L) M o := by
    obtain ⟨M1, v2, k8, h⟩ := h
    have h2 : aX xc_132 (aSeek xc_132 8) [aR 1, aI a1, aI a2] [aI v2] (SH L) M1 o := by
      by_cases cc : v2 = 0
      · replace h := h.1 cc
        have t9 : aX xc_132 (aSeek xc_132 18) [aR 1, aI a1, aI a2] [] (SH L) M1 o := by
          subst h
          exact ⟨2, rfl⟩
        exact aX_seg 1 (fun n g => ip cc (g)) t9
      · replace h := h.2 cc
        have t10 : aX xc_132 (aSeek xc_132 11) [aR 1, aI a1, aI a2] [] (SH L) M1 o := by
          obtain ⟨M3, v4, k11, h⟩ := h
          have h2 : aX xc_132 (aSeek xc_132 15) [aR 1, aI a1, aI a2] [aI v4] (SH L) M3 o := by
            by_cases cc : ¬ v4 = 0
            · replace h := h.1 cc
              have t12 : aX xc_132 (aSeek xc_132 20) [aR 1, aI a1, aI a2] [] (SH L) M3 o := by
                obtain ⟨M5, k13, h⟩ := h
                have h2 : aX xc_132 (aSeek xc_132 24) [aR 1, aI a1, aI a2] [] (SH L) M5 o := by
                  obtain ⟨M6, v7, k14, h⟩ := h
                  have h2 : aX xc_132 (aSeek xc_132 33) [aR 1, aI a1, aI a2] [aI v7] (SH L) M6 o := by
                    subst h
                    exact ⟨1, rfl⟩
                  exact aX_seg 4 (fun n g => g) (aX_callv (rfl) rfl rfl rfl k14 h2)
                exact aX_seg 1 (fun n g => g) (aX_callv (rfl) rfl rfl rfl k13 h2)
              exact aX_seg 1 (fun n g => ip cc (g)) t12
            · replace h := h.2 cc
              have t15 : aX xc_132 (aSeek xc_132 18) [aR 1, aI a1, aI a2] [] (SH L) M3 o := by
                subst h
                exact ⟨2, rfl⟩
              exact aX_seg 1 (fun n g => in_ cc (g)) t15
          exact aX_seg 1 (fun n g => g) (aX_calls rfl rfl rfl k11 h2)
        exact aX_seg 1 (fun n g => in_ cc (g)) t10
    exact aX_seg 3 (fun n g => g) (aX_callv (rfl) rfl rfl rfl k8 h2)
  exact q
/- TypeLock$Pushes.touchOf(I)I -/
set_option maxRecDepth 100000 in
theorem en_133 {L : Nat} {a1 : Int} {M : aM} {o : aO} (h : aX xc_133 (aSeek xc_133 4) [aR 64, aI a1, aI 0, aI 0, aU, aU] [] (SH L) M o) : aE 133 [aR 64, aI a1] (SH L) M o := by
  have q : aX xc_133 (aSeek xc_133 0) [aR 64, aI a1, aU, aU, aU, aU] [] (SH L) M o := by
    exact aX_seg 4 (fun n g => g) (h)
  exact q
set_option maxRecDepth 100000 in
theorem bl_133_4 {L : Nat} {a1 a2 a3 : Int} {M : aM} {o : aO} (h : ((4 ≤ a3 → o = ([aI a2], (SH L), M)) ∧ (¬ (4 ≤ a3) → (∃ (M1 : aM) (v2 : Int), aE 37 [aI 0, aI 60] (SH L) M ([aJ v2], (SH L), M1) ∧ (aK (SH L) (M 64 5) = 10 ∧ ∃ (M3 : aM) (v4 : Int), aE 87 [aR (M 64 5), aR (M 64 4), aI a1, aI a3, aJ v2] (SH L) M1 ([aI v4], (SH L), M3) ∧ (∃ (M5 : aM) (v6 : Int), aE 83 [aR 64, aI a3] (SH L) M3 ([aR v6], (SH L), M5) ∧ aX xc_133 (aSeek xc_133 41) [aR 64, aI a1, aI (aW (a2 + v4)), aI a3, aR v6, aI 0] [] (SH L) M5 o)))))) : aX xc_133 (aSeek xc_133 4) [aR 64, aI a1, aI a2, aI a3, aU, aU] [] (SH L) M o := by
  by_cases cc : 4 ≤ a3
  · replace h := h.1 cc
    have t7 : aX xc_133 (aSeek xc_133 86) [aR 64, aI a1, aI a2, aI a3, aU, aU] [] (SH L) M o := by
      subst h
      exact ⟨2, rfl⟩
    exact aX_seg 3 (fun n g => ip cc (g)) t7
  · replace h := h.2 cc
    have t8 : aX xc_133 (aSeek xc_133 9) [aR 64, aI a1, aI a2, aI a3, aU, aU] [] (SH L) M o := by
      obtain ⟨M1, v2, k9, h⟩ := h
      have h2 : aX xc_133 (aSeek xc_133 26) [aR 64, aI a1, aI a2, aI a3, aU, aU] [aJ v2, aI a3, aI a1, aR (M 64 4), aR (M 64 5), aI a2] (SH L) M1 o := by
        obtain ⟨c10, h⟩ := h
        obtain ⟨M3, v4, k11, h⟩ := h
        have h2 : aX xc_133 (aSeek xc_133 29) [aR 64, aI a1, aI a2, aI a3, aU, aU] [aI v4, aI a2] (SH L) M3 o := by
          obtain ⟨M5, v6, k12, h⟩ := h
          have h2 : aX xc_133 (aSeek xc_133 36) [aR 64, aI a1, aI (aW (a2 + v4)), aI a3, aU, aU] [aR v6] (SH L) M5 o := by
            exact aX_seg 3 (fun n g => g) (h)
          exact aX_seg 4 (fun n g => g) (aX_callv (rfl) rfl rfl rfl k12 h2)
        exact aX_callv (c10) rfl rfl rfl k11 h2
      exact aX_seg 9 (fun n g => g) (aX_calls rfl rfl rfl k9 h2)
    exact aX_seg 3 (fun n g => in_ cc (g)) t8
set_option maxRecDepth 100000 in
theorem bl_133_41 {L : Nat} {a1 a2 a3 a4 a5 : Int} {M : aM} {o : aO} (h : (aK (SH L) a4 = 11) ∧ (((M a4 0) ≤ a5 → aX xc_133 (aSeek xc_133 4) [aR 64, aI a1, aI a2, aI (aW (a3 + 1)), aU, aU] [] (SH L) M o) ∧ (¬ ((M a4 0) ≤ a5) → (aK (SH L) a4 = 11 ∧ ∃ (M1 : aM) (v2 : Int), aE 91 [aR a4, aI a3, aI a5] (SH L) M ([aI v2], (SH L), M1) ∧ ((¬ v2 = a1 → aX xc_133 (aSeek xc_133 74) [aR 64, aI a1, aI a2, aI a3, aR a4, aI a5] [] (SH L) M1 o) ∧ (¬ (¬ v2 = a1) → (aK (SH L) a4 = 11) ∧ (0 ≤ a5 ∧ a5 < aLn (SH L) 1 (aF (SH L) a4 3)) ∧ aX xc_133 (aSeek xc_133 74) [aR 64, aI a1, aI (aW (a2 + (M1 (aF (SH L) a4 3) a5))), aI a3, aR a4, aI a5] [] (SH L) M1 o)))))) : aX xc_133 (aSeek xc_133 41) [aR 64, aI a1, aI a2, aI a3, aR a4, aI a5] [] (SH L) M o := by
  obtain ⟨c3, h⟩ := h
  by_cases cc : (M a4 0) ≤ a5
  · replace h := h.1 cc
    have t4 : aX xc_133 (aSeek xc_133 80) [aR 64, aI a1, aI a2, aI a3, aR a4, aI a5] [] (SH L) M o := by
      exact aX_seg 2 (fun n g => g) (aX_le (ls := [aR 64, aI a1, aI a2, aI (aW (a3 + 1)), aU, aU]) (ls1 := [aR 64, aI a1, aI a2, aI (aW (a3 + 1)), aR a4, aI a5]) (⟨Or.inr rfl, ⟨Or.inr rfl, ⟨Or.inr rfl, ⟨Or.inr rfl, ⟨Or.inl rfl, ⟨Or.inl rfl, trivial⟩⟩⟩⟩⟩⟩) h)
    exact aX_seg 4 (fun n g => ip c3 (ip cc (g))) t4
  · replace h := h.2 cc
    have t5 : aX xc_133 (aSeek xc_133 51) [aR 64, aI a1, aI a2, aI a3, aR a4, aI a5] [] (SH L) M o := by
      obtain ⟨c6, h⟩ := h
      obtain ⟨M1, v2, k7, h⟩ := h
      have h2 : aX xc_133 (aSeek xc_133 59) [aR 64, aI a1, aI a2, aI a3, aR a4, aI a5] [aI v2] (SH L) M1 o := by
        by_cases cc : ¬ v2 = a1
        · replace h := h.1 cc
          have t8 : aX xc_133 (aSeek xc_133 74) [aR 64, aI a1, aI a2, aI a3, aR a4, aI a5] [] (SH L) M1 o := by
            exact h
          exact aX_seg 2 (fun n g => ip cc (g)) t8
        · replace h := h.2 cc
          have t9 : aX xc_133 (aSeek xc_133 63) [aR 64, aI a1, aI a2, aI a3, aR a4, aI a5] [] (SH L) M1 o := by
            obtain ⟨c10, h⟩ := h
            obtain ⟨c11, h⟩ := h
            exact aX_seg 7 (fun n g => ip c10 (ip c11 (g))) (h)
          exact aX_seg 2 (fun n g => in_ cc (g)) t9
      exact aX_seg 3 (fun n g => g) (aX_callv (c6) rfl rfl rfl k7 h2)
    exact aX_seg 4 (fun n g => ip c3 (in_ cc (g))) t5
set_option maxRecDepth 100000 in
theorem bl_133_74 {L : Nat} {a1 a2 a3 a4 a5 : Int} {M : aM} {o : aO} (h : aX xc_133 (aSeek xc_133 41) [aR 64, aI a1, aI a2, aI a3, aR a4, aI (aW (a5 + 1))] [] (SH L) M o) : aX xc_133 (aSeek xc_133 74) [aR 64, aI a1, aI a2, aI a3, aR a4, aI a5] [] (SH L) M o := by
  exact aX_seg 2 (fun n g => g) (h)
/- TypeLock$Laws.describe(II)V -/
set_option maxRecDepth 100000 in
theorem en_134 {L : Nat} {a1 a2 : Int} {M : aM} {o : aO} (h : (∃ (M1 : aM), aE 119 [aR 90, aI a1] (SH L) M ([], (SH L), M1) ∧ (aK (SH L) (M1 90 4) = 17 ∧ ∃ (M2 : aM) (v3 : Int), aE 133 [aR (M1 90 4), aI a1] (SH L) M1 ([aI v3], (SH L), M2) ∧ o = ([], (SH L), aSet (aSet M2 97 4 v3) 97 5 a2)))) : aE 134 [aR 90, aI a1, aI a2] (SH L) M o := by
  have q : aX xc_134 (aSeek xc_134 0) [aR 90, aI a1, aI a2] [] (SH L) M o := by
    obtain ⟨M1, k4, h⟩ := h
    have h2 : aX xc_134 (aSeek xc_134 5) [aR 90, aI a1, aI a2] [] (SH L) M1 o := by
      obtain ⟨c5, h⟩ := h
      obtain ⟨M2, v3, k6, h⟩ := h
      have h2 : aX xc_134 (aSeek xc_134 18) [aR 90, aI a1, aI a2] [aI v3, aI 4, aR 97] (SH L) M2 o := by
        subst h
        exact ⟨7, rfl⟩
      exact aX_seg 6 (fun n g => g) (aX_callv (c5) rfl rfl rfl k6 h2)
    exact aX_seg 2 (fun n g => g) (aX_callv (rfl) rfl rfl rfl k4 h2)
  exact q
/- TypeLock$Laws.applies(I)Z -/
set_option maxRecDepth 100000 in
theorem en_135 {L : Nat} {a1 : Int} {M : aM} {o : aO} (h : (aK (SH L) (M 90 2) = 19) ∧ (0 ≤ a1 ∧ a1 < aLn (SH L) 1 (aF (SH L) (M 90 2) 17)) ∧ (aK (SH L) (M 90 2) = 19) ∧ (0 ≤ a1 ∧ a1 < aLn (SH L) 1 (aF (SH L) (M 90 2) 18)) ∧ (∃ (M1 : aM) (v2 : Int), aE 125 [aR 90, aI (M (aF (SH L) (M 90 2) 17) a1), aI (M (aF (SH L) (M 90 2) 18) a1)] (SH L) M ([aI v2], (SH L), M1) ∧ ((¬ v2 = 1 → o = ([aI 0], (SH L), M1)) ∧ (¬ (¬ v2 = 1) → o = ([aI 1], (SH L), M1))))) : aE 135 [aR 90, aI a1] (SH L) M o := by
  have q : aX xc_135 (aSeek xc_135 0) [aR 90, aI a1] [] (SH L) M o := by
    obtain ⟨c3, h⟩ := h
    obtain ⟨c4, h⟩ := h
    obtain ⟨c5, h⟩ := h
    obtain ⟨c6, h⟩ := h
    obtain ⟨M1, v2, k7, h⟩ := h
    have h2 : aX xc_135 (aSeek xc_135 22) [aR 90, aI a1] [aI v2] (SH L) M1 o := by
      by_cases cc : ¬ v2 = 1
      · replace h := h.1 cc
        have t8 : aX xc_135 (aSeek xc_135 30) [aR 90, aI a1] [] (SH L) M1 o := by
          subst h
          exact ⟨2, rfl⟩
        exact aX_seg 2 (fun n g => ip cc (g)) t8
      · replace h := h.2 cc
        have t9 : aX xc_135 (aSeek xc_135 26) [aR 90, aI a1] [] (SH L) M1 o := by
          subst h
          exact ⟨3, rfl⟩
        exact aX_seg 2 (fun n g => in_ cc (g)) t9
    exact aX_seg 11 (fun n g => ip c3 (ip c4 (ip c5 (ip c6 (g))))) (aX_callv (rfl) rfl rfl rfl k7 h2)
  exact q
/- TypeLock.judge()I -/
set_option maxRecDepth 100000 in
theorem en_136 {L : Nat} {M : aM} {o : aO} (h : (∃ (M1 : aM), aE 128 [aR 1] (SH L) M ([], (SH L), M1) ∧ (∃ (M2 : aM) (v3 : Int), aE 81 [aR 31] (SH L) M1 ([aJ v3], (SH L), M2) ∧ (∃ (M4 : aM) (v5 : Int), aE 98 [aR 64, aJ v3, aI (M2 31 8)] (SH L) M2 ([aJ v5], (SH L), M4) ∧ aX xc_136 (aSeek xc_136 28) [aR 1, aJ v5, aU, aI 0, aU] [] (SH L) M4 o)))) : aE 136 [aR 1] (SH L) M o := by
  have q : aX xc_136 (aSeek xc_136 0) [aR 1, aU, aU, aU, aU] [] (SH L) M o := by
    obtain ⟨M1, k6, h⟩ := h
    have h2 : aX xc_136 (aSeek xc_136 4) [aR 1, aU, aU, aU, aU] [] (SH L) M1 o := by
      obtain ⟨M2, v3, k7, h⟩ := h
      have h2 : aX xc_136 (aSeek xc_136 15) [aR 1, aU, aU, aU, aU] [aJ v3, aR 64] (SH L) M2 o := by
        obtain ⟨M4, v5, k8, h⟩ := h
        have h2 : aX xc_136 (aSeek xc_136 25) [aR 1, aU, aU, aU, aU] [aJ v5] (SH L) M4 o := by
          exact aX_seg 3 (fun n g => g) (h)
        exact aX_seg 3 (fun n g => g) (aX_callv (rfl) rfl rfl rfl k8 h2)
      exact aX_seg 4 (fun n g => g) (aX_callv (rfl) rfl rfl rfl k7 h2)
    exact aX_seg 1 (fun n g => g) (aX_callv (rfl) rfl rfl rfl k6 h2)
  exact q
set_option maxRecDepth 100000 in
theorem bl_136_28 {L : Nat} {a1 a3 : Int} {M : aM} {o : aO} (h : (((M 31 0) ≤ a3 → o = ([aI ((-2))], (SH L), M)) ∧ (¬ ((M 31 0) ≤ a3) → (∃ (M1 : aM) (v2 : Int), aE 84 [aJ a1, aI a3] (SH L) M ([aI v2], (SH L), M1) ∧ (∃ (M3 : aM), aE 134 [aR 90, aI a3, aI v2] (SH L) M1 ([], (SH L), M3) ∧ aX xc_136 (aSeek xc_136 55) [aR 1, aJ a1, aU, aI a3, aI 0] [] (SH L) M3 o))))) : aX xc_136 (aSeek xc_136 28) [aR 1, aJ a1, aU, aI a3, aU] [] (SH L) M o := by
  by_cases cc : (M 31 0) ≤ a3
  · replace h := h.1 cc
    have t4 : aX xc_136 (aSeek xc_136 99) [aR 1, aJ a1, aU, aI a3, aU] [] (SH L) M o := by
      subst h
      exact ⟨2, rfl⟩
    exact aX_seg 5 (fun n g => ip cc (g)) t4
  · replace h := h.2 cc
    have t5 : aX xc_136 (aSeek xc_136 39) [aR 1, aJ a1, aU, aI a3, aU] [] (SH L) M o := by
      obtain ⟨M1, v2, k6, h⟩ := h
      have h2 : aX xc_136 (aSeek xc_136 49) [aR 1, aJ a1, aU, aI a3, aU] [aI v2, aI a3, aR 90] (SH L) M1 o := by
        obtain ⟨M3, k7, h⟩ := h
        have h2 : aX xc_136 (aSeek xc_136 52) [aR 1, aJ a1, aU, aI a3, aU] [] (SH L) M3 o := by
          exact aX_seg 2 (fun n g => g) (h)
        exact aX_callv (rfl) rfl rfl rfl k7 h2
      exact aX_seg 5 (fun n g => g) (aX_calls rfl rfl rfl k6 h2)
    exact aX_seg 5 (fun n g => in_ cc (g)) t5
set_option maxRecDepth 100000 in
theorem bl_136_55 {L : Nat} {a1 a3 a4 : Int} {M : aM} {o : aO} (h : (aK (SH L) (M 1 3) = 19) ∧ (((M (M 1 3) 16) ≤ a4 → aX xc_136 (aSeek xc_136 28) [aR 1, aJ a1, aU, aI (aW (a3 + 1)), aU] [] (SH L) M o) ∧ (¬ ((M (M 1 3) 16) ≤ a4) → (∃ (M1 : aM) (v2 : Int), aE 135 [aR 90, aI a4] (SH L) M ([aI v2], (SH L), M1) ∧ ((v2 = 0 → aX xc_136 (aSeek xc_136 55) [aR 1, aJ a1, aU, aI a3, aI (aW (a4 + 1))] [] (SH L) M1 o) ∧ (¬ (v2 = 0) → o = ([aI (aW ((aW (10 * a3)) + a4))], (SH L), M1))))))) : aX xc_136 (aSeek xc_136 55) [aR 1, aJ a1, aU, aI a3, aI a4] [] (SH L) M o := by
  obtain ⟨c3, h⟩ := h
  by_cases cc : (M (M 1 3) 16) ≤ a4
  · replace h := h.1 cc
    have t4 : aX xc_136 (aSeek xc_136 93) [aR 1, aJ a1, aU, aI a3, aI a4] [] (SH L) M o := by
      exact aX_seg 2 (fun n g => g) (aX_le (ls := [aR 1, aJ a1, aU, aI (aW (a3 + 1)), aU]) (ls1 := [aR 1, aJ a1, aU, aI (aW (a3 + 1)), aI a4]) (⟨Or.inr rfl, ⟨Or.inr rfl, ⟨Or.inl rfl, ⟨Or.inr rfl, ⟨Or.inl rfl, trivial⟩⟩⟩⟩⟩) h)
    exact aX_seg 5 (fun n g => ip c3 (ip cc (g))) t4
  · replace h := h.2 cc
    have t5 : aX xc_136 (aSeek xc_136 67) [aR 1, aJ a1, aU, aI a3, aI a4] [] (SH L) M o := by
      obtain ⟨M1, v2, k6, h⟩ := h
      have h2 : aX xc_136 (aSeek xc_136 76) [aR 1, aJ a1, aU, aI a3, aI a4] [aI v2] (SH L) M1 o := by
        by_cases cc : v2 = 0
        · replace h := h.1 cc
          have t7 : aX xc_136 (aSeek xc_136 87) [aR 1, aJ a1, aU, aI a3, aI a4] [] (SH L) M1 o := by
            exact aX_seg 2 (fun n g => g) (h)
          exact aX_seg 1 (fun n g => ip cc (g)) t7
        · replace h := h.2 cc
          have t8 : aX xc_136 (aSeek xc_136 79) [aR 1, aJ a1, aU, aI a3, aI a4] [] (SH L) M1 o := by
            subst h
            exact ⟨6, rfl⟩
          exact aX_seg 1 (fun n g => in_ cc (g)) t8
      exact aX_seg 3 (fun n g => g) (aX_callv (rfl) rfl rfl rfl k6 h2)
    exact aX_seg 5 (fun n g => ip c3 (in_ cc (g))) t5
/- TypeLock.breaks(I)I -/
set_option maxRecDepth 100000 in
theorem en_137 {L : Nat} {a1 : Int} {M : aM} {o : aO} (h : ((a1 < 0 → o = ([aI ((-1))], (SH L), M)) ∧ (¬ (a1 < 0) → (aK (SH L) (M 1 3) = 19) ∧ ((a1 < (M (M 1 3) 16) → (∃ (M1 : aM), aE 128 [aR 1] (SH L) M ([], (SH L), M1) ∧ (∃ (M2 : aM) (v3 : Int), aE 81 [aR 31] (SH L) M1 ([aJ v3], (SH L), M2) ∧ (∃ (M4 : aM) (v5 : Int), aE 98 [aR 64, aJ v3, aI (M2 31 8)] (SH L) M2 ([aJ v5], (SH L), M4) ∧ aX xc_137 (aSeek xc_137 49) [aR 1, aI a1, aJ v5, aU, aI 0, aI 0] [] (SH L) M4 o)))) ∧ (¬ (a1 < (M (M 1 3) 16)) → o = ([aI ((-1))], (SH L), M)))))) : aE 137 [aR 1, aI a1] (SH L) M o := by
  have q : aX xc_137 (aSeek xc_137 0) [aR 1, aI a1, aU, aU, aU, aU] [] (SH L) M o := by
    by_cases cc : a1 < 0
    · replace h := h.1 cc
      have t6 : aX xc_137 (aSeek xc_137 15) [aR 1, aI a1, aU, aU, aU, aU] [] (SH L) M o := by
        subst h
        exact ⟨2, rfl⟩
      exact aX_seg 2 (fun n g => ip cc (g)) t6
    · replace h := h.2 cc
      have t7 : aX xc_137 (aSeek xc_137 4) [aR 1, aI a1, aU, aU, aU, aU] [] (SH L) M o := by
        obtain ⟨c8, h⟩ := h
        by_cases cc : a1 < (M (M 1 3) 16)
        · replace h := h.1 cc
          have t9 : aX xc_137 (aSeek xc_137 17) [aR 1, aI a1, aU, aU, aU, aU] [] (SH L) M o := by
            obtain ⟨M1, k10, h⟩ := h
            have h2 : aX xc_137 (aSeek xc_137 21) [aR 1, aI a1, aU, aU, aU, aU] [] (SH L) M1 o := by
              obtain ⟨M2, v3, k11, h⟩ := h
              have h2 : aX xc_137 (aSeek xc_137 32) [aR 1, aI a1, aU, aU, aU, aU] [aJ v3, aR 64] (SH L) M2 o := by
                obtain ⟨M4, v5, k12, h⟩ := h
                have h2 : aX xc_137 (aSeek xc_137 42) [aR 1, aI a1, aU, aU, aU, aU] [aJ v5] (SH L) M4 o := by
                  exact aX_seg 5 (fun n g => g) (h)
                exact aX_seg 3 (fun n g => g) (aX_callv (rfl) rfl rfl rfl k12 h2)
              exact aX_seg 4 (fun n g => g) (aX_callv (rfl) rfl rfl rfl k11 h2)
            exact aX_seg 1 (fun n g => g) (aX_callv (rfl) rfl rfl rfl k10 h2)
          exact aX_seg 5 (fun n g => ip c8 (ip cc (g))) t9
        · replace h := h.2 cc
          have t13 : aX xc_137 (aSeek xc_137 15) [aR 1, aI a1, aU, aU, aU, aU] [] (SH L) M o := by
            subst h
            exact ⟨2, rfl⟩
          exact aX_seg 5 (fun n g => ip c8 (in_ cc (g))) t13
      exact aX_seg 2 (fun n g => in_ cc (g)) t7
  exact q
set_option maxRecDepth 100000 in
theorem bl_137_49 {L : Nat} {a1 a2 a4 a5 : Int} {M : aM} {o : aO} (h : (((M 31 0) ≤ a5 → o = ([aI a4], (SH L), M)) ∧ (¬ ((M 31 0) ≤ a5) → (∃ (M1 : aM) (v2 : Int), aE 84 [aJ a2, aI a5] (SH L) M ([aI v2], (SH L), M1) ∧ (∃ (M3 : aM), aE 134 [aR 90, aI a5, aI v2] (SH L) M1 ([], (SH L), M3) ∧ (∃ (M4 : aM) (v5 : Int), aE 135 [aR 90, aI a1] (SH L) M3 ([aI v5], (SH L), M4) ∧ ((v5 = 0 → aX xc_137 (aSeek xc_137 90) [aR 1, aI a1, aJ a2, aU, aI a4, aI a5] [] (SH L) M4 o) ∧ (¬ (v5 = 0) → aX xc_137 (aSeek xc_137 90) [aR 1, aI a1, aJ a2, aU, aI (aW (a4 + 1)), aI a5] [] (SH L) M4 o)))))))) : aX xc_137 (aSeek xc_137 49) [aR 1, aI a1, aJ a2, aU, aI a4, aI a5] [] (SH L) M o := by
  by_cases cc : (M 31 0) ≤ a5
  · replace h := h.1 cc
    have t6 : aX xc_137 (aSeek xc_137 96) [aR 1, aI a1, aJ a2, aU, aI a4, aI a5] [] (SH L) M o := by
      subst h
      exact ⟨2, rfl⟩
    exact aX_seg 5 (fun n g => ip cc (g)) t6
  · replace h := h.2 cc
    have t7 : aX xc_137 (aSeek xc_137 61) [aR 1, aI a1, aJ a2, aU, aI a4, aI a5] [] (SH L) M o := by
      obtain ⟨M1, v2, k8, h⟩ := h
      have h2 : aX xc_137 (aSeek xc_137 73) [aR 1, aI a1, aJ a2, aU, aI a4, aI a5] [aI v2, aI a5, aR 90] (SH L) M1 o := by
        obtain ⟨M3, k9, h⟩ := h
        have h2 : aX xc_137 (aSeek xc_137 76) [aR 1, aI a1, aJ a2, aU, aI a4, aI a5] [] (SH L) M3 o := by
          obtain ⟨M4, v5, k10, h⟩ := h
          have h2 : aX xc_137 (aSeek xc_137 84) [aR 1, aI a1, aJ a2, aU, aI a4, aI a5] [aI v5] (SH L) M4 o := by
            by_cases cc : v5 = 0
            · replace h := h.1 cc
              have t11 : aX xc_137 (aSeek xc_137 90) [aR 1, aI a1, aJ a2, aU, aI a4, aI a5] [] (SH L) M4 o := by
                exact h
              exact aX_seg 1 (fun n g => ip cc (g)) t11
            · replace h := h.2 cc
              have t12 : aX xc_137 (aSeek xc_137 87) [aR 1, aI a1, aJ a2, aU, aI a4, aI a5] [] (SH L) M4 o := by
                exact aX_seg 1 (fun n g => g) (h)
              exact aX_seg 1 (fun n g => in_ cc (g)) t12
          exact aX_seg 3 (fun n g => g) (aX_callv (rfl) rfl rfl rfl k10 h2)
        exact aX_callv (rfl) rfl rfl rfl k9 h2
      exact aX_seg 5 (fun n g => g) (aX_calls rfl rfl rfl k8 h2)
    exact aX_seg 5 (fun n g => in_ cc (g)) t7
set_option maxRecDepth 100000 in
theorem bl_137_90 {L : Nat} {a1 a2 a4 a5 : Int} {M : aM} {o : aO} (h : aX xc_137 (aSeek xc_137 49) [aR 1, aI a1, aJ a2, aU, aI a4, aI (aW (a5 + 1))] [] (SH L) M o) : aX xc_137 (aSeek xc_137 90) [aR 1, aI a1, aJ a2, aU, aI a4, aI a5] [] (SH L) M o := by
  exact aX_seg 2 (fun n g => g) (h)
/- TypeLock.isLine(II)Z -/
set_option maxRecDepth 100000 in
theorem en_138 {L : Nat} {a0 a1 : Int} {M : aM} {o : aO} (h : ((a0 < 1 → o = ([aI 0], (SH L), M)) ∧ (¬ (a0 < 1) → ((240 < a0 → o = ([aI 0], (SH L), M)) ∧ (¬ (240 < a0) → ((a1 < 0 → o = ([aI 0], (SH L), M)) ∧ (¬ (a1 < 0) → ((99 < a1 → o = ([aI 0], (SH L), M)) ∧ (¬ (99 < a1) → o = ([aI 1], (SH L), M)))))))))) : aE 138 [aI a0, aI a1] (SH L) M o := by
  have q : aX xc_138 (aSeek xc_138 0) [aI a0, aI a1] [] (SH L) M o := by
    by_cases cc : a0 < 1
    · replace h := h.1 cc
      have t1 : aX xc_138 (aSeek xc_138 26) [aI a0, aI a1] [] (SH L) M o := by
        subst h
        exact ⟨2, rfl⟩
      exact aX_seg 3 (fun n g => ip cc (g)) t1
    · replace h := h.2 cc
      have t2 : aX xc_138 (aSeek xc_138 5) [aI a0, aI a1] [] (SH L) M o := by
        by_cases cc : 240 < a0
        · replace h := h.1 cc
          have t3 : aX xc_138 (aSeek xc_138 26) [aI a0, aI a1] [] (SH L) M o := by
            subst h
            exact ⟨2, rfl⟩
          exact aX_seg 3 (fun n g => ip cc (g)) t3
        · replace h := h.2 cc
          have t4 : aX xc_138 (aSeek xc_138 12) [aI a0, aI a1] [] (SH L) M o := by
            by_cases cc : a1 < 0
            · replace h := h.1 cc
              have t5 : aX xc_138 (aSeek xc_138 26) [aI a0, aI a1] [] (SH L) M o := by
                subst h
                exact ⟨2, rfl⟩
              exact aX_seg 2 (fun n g => ip cc (g)) t5
            · replace h := h.2 cc
              have t6 : aX xc_138 (aSeek xc_138 16) [aI a0, aI a1] [] (SH L) M o := by
                by_cases cc : 99 < a1
                · replace h := h.1 cc
                  have t7 : aX xc_138 (aSeek xc_138 26) [aI a0, aI a1] [] (SH L) M o := by
                    subst h
                    exact ⟨2, rfl⟩
                  exact aX_seg 3 (fun n g => ip cc (g)) t7
                · replace h := h.2 cc
                  have t8 : aX xc_138 (aSeek xc_138 22) [aI a0, aI a1] [] (SH L) M o := by
                    subst h
                    exact ⟨3, rfl⟩
                  exact aX_seg 3 (fun n g => in_ cc (g)) t8
              exact aX_seg 2 (fun n g => in_ cc (g)) t6
          exact aX_seg 3 (fun n g => in_ cc (g)) t4
      exact aX_seg 3 (fun n g => in_ cc (g)) t2
  exact q
/- TypeLock$Text.isPiece(I)Z -/
set_option maxRecDepth 100000 in
theorem en_139 {L : Nat} {a0 a1 : Int} {M : aM} {o : aO} (h : (aK (SH L) a0 = 19 ∧ ∃ (M1 : aM) (v2 : Int), aE 55 [aR a0, aI a1] (SH L) M ([aI v2], (SH L), M1) ∧ ((v2 = 0 → o = ([aI 0], (SH L), M1)) ∧ (¬ (v2 = 0) → (aK (SH L) a0 = 19) ∧ (0 ≤ a1 ∧ a1 < aLn (SH L) 1 (aF (SH L) a0 5)) ∧ (((M1 (aF (SH L) a0 5) a1) = 0 → o = ([aI 0], (SH L), M1)) ∧ (¬ ((M1 (aF (SH L) a0 5) a1) = 0) → o = ([aI 1], (SH L), M1))))))) : aE 139 [aR a0, aI a1] (SH L) M o := by
  have q : aX xc_139 (aSeek xc_139 0) [aR a0, aI a1] [] (SH L) M o := by
    obtain ⟨c3, h⟩ := h
    obtain ⟨M1, v2, k4, h⟩ := h
    have h2 : aX xc_139 (aSeek xc_139 5) [aR a0, aI a1] [aI v2] (SH L) M1 o := by
      by_cases cc : v2 = 0
      · replace h := h.1 cc
        have t5 : aX xc_139 (aSeek xc_139 21) [aR a0, aI a1] [] (SH L) M1 o := by
          subst h
          exact ⟨2, rfl⟩
        exact aX_seg 1 (fun n g => ip cc (g)) t5
      · replace h := h.2 cc
        have t6 : aX xc_139 (aSeek xc_139 8) [aR a0, aI a1] [] (SH L) M1 o := by
          obtain ⟨c7, h⟩ := h
          obtain ⟨c8, h⟩ := h
          by_cases cc : (M1 (aF (SH L) a0 5) a1) = 0
          · replace h := h.1 cc
            have t9 : aX xc_139 (aSeek xc_139 21) [aR a0, aI a1] [] (SH L) M1 o := by
              subst h
              exact ⟨2, rfl⟩
            exact aX_seg 5 (fun n g => ip c7 (ip c8 (ip cc (g)))) t9
          · replace h := h.2 cc
            have t10 : aX xc_139 (aSeek xc_139 17) [aR a0, aI a1] [] (SH L) M1 o := by
              subst h
              exact ⟨3, rfl⟩
            exact aX_seg 5 (fun n g => ip c7 (ip c8 (in_ cc (g)))) t10
        exact aX_seg 1 (fun n g => in_ cc (g)) t6
    exact aX_seg 2 (fun n g => g) (aX_callv (c3) rfl rfl rfl k4 h2)
  exact q
end BLK
