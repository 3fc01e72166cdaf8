/-! block rows, written by a program: from one cut of a method to the next ones -/
section BLK
/- TypeLock$Text.clear()V -/
set_option maxRecDepth 100000 in
theorem en_2 {L : Nat} {a0 : Int} {M : aM} {o : aO} (h : (aK (SH L) a0 = 19) ∧ (aK (SH L) a0 = 19) ∧ (aK (SH L) a0 = 19) ∧ (aK (SH L) a0 = 19) ∧ (aK (SH L) a0 = 19) ∧ (aK (SH L) a0 = 19) ∧ (aK (SH L) a0 = 19) ∧ (aK (SH L) a0 = 19) ∧ (aK (SH L) a0 = 19) ∧ o = ([], (SH L), aSet (aSet (aSet (aSet (aSet (aSet (aSet (aSet (aSet M a0 0 60) a0 1 60) a0 2 50) a0 3 0) a0 9 0) a0 13 0) a0 14 0) a0 15 0) a0 16 0)) : aE 2 [aR a0] (SH L) M o := by
  have q : aX xc_2 (aSeek xc_2 0) [aR a0] [] (SH L) M o := by
    obtain ⟨c1, h⟩ := h
    obtain ⟨c2, h⟩ := h
    obtain ⟨c3, h⟩ := h
    obtain ⟨c4, h⟩ := h
    obtain ⟨c5, h⟩ := h
    obtain ⟨c6, h⟩ := h
    obtain ⟨c7, h⟩ := h
    obtain ⟨c8, h⟩ := h
    obtain ⟨c9, h⟩ := h
    subst h
    exact ⟨28, ip c1 (ip c2 (ip c3 (ip c4 (ip c5 (ip c6 (ip c7 (ip c8 (ip c9 (rfl)))))))))⟩
  exact q
/- TypeLock.tapeFour(I)V -/
set_option maxRecDepth 100000 in
theorem en_13 {L : Nat} {a1 : Int} {M : aM} {o : aO} (h : aX xc_13 (aSeek xc_13 3) [aR 1, aI a1, aI 24] [] (SH L) M o) : aE 13 [aR 1, aI a1] (SH L) M o := by
  have q : aX xc_13 (aSeek xc_13 0) [aR 1, aI a1, aU] [] (SH L) M o := by
    exact aX_seg 2 (fun n g => g) (h)
  exact q
set_option maxRecDepth 100000 in
theorem bl_13_3 {L : Nat} {a1 a2 : Int} {M : aM} {o : aO} (h : ((a2 < 0 → o = ([], (SH L), M)) ∧ (¬ (a2 < 0) → (((aL (SH L) 2) ≤ (M 1 1) → aX xc_13 (aSeek xc_13 42) [aR 1, aI a1, aI a2] [] (SH L) M o) ∧ (¬ ((aL (SH L) 2) ≤ (M 1 1)) → (0 ≤ M 1 1 ∧ M 1 1 < aLn (SH L) 3 2) ∧ aX xc_13 (aSeek xc_13 32) [aR 1, aI a1, aI a2] [] (SH L) (aSet M 2 (M 1 1) (aB8 (aB8 (aShr a1 a2)))) o))))) : aX xc_13 (aSeek xc_13 3) [aR 1, aI a1, aI a2] [] (SH L) M o := by
  by_cases cc : a2 < 0
  · replace h := h.1 cc
    have t1 : aX xc_13 (aSeek xc_13 48) [aR 1, aI a1, aI a2] [] (SH L) M o := by
      subst h
      exact ⟨1, rfl⟩
    exact aX_seg 2 (fun n g => ip cc (g)) t1
  · replace h := h.2 cc
    have t2 : aX xc_13 (aSeek xc_13 7) [aR 1, aI a1, aI a2] [] (SH L) M o := by
      by_cases cc : (aL (SH L) 2) ≤ (M 1 1)
      · replace h := h.1 cc
        have t3 : aX xc_13 (aSeek xc_13 42) [aR 1, aI a1, aI a2] [] (SH L) M o := by
          exact h
        exact aX_seg 6 (fun n g => ip cc (g)) t3
      · replace h := h.2 cc
        have t4 : aX xc_13 (aSeek xc_13 19) [aR 1, aI a1, aI a2] [] (SH L) M o := by
          obtain ⟨c5, h⟩ := h
          exact aX_seg 9 (fun n g => ip c5 (g)) (h)
        exact aX_seg 6 (fun n g => in_ cc (g)) t4
    exact aX_seg 2 (fun n g => in_ cc (g)) t2
set_option maxRecDepth 100000 in
theorem bl_13_32 {L : Nat} {a1 a2 : Int} {M : aM} {o : aO} (h : aX xc_13 (aSeek xc_13 42) [aR 1, aI a1, aI a2] [] (SH L) (aSet M 1 1 (aW ((M 1 1) + 1))) o) : aX xc_13 (aSeek xc_13 32) [aR 1, aI a1, aI a2] [] (SH L) M o := by
  exact aX_seg 6 (fun n g => g) (h)
set_option maxRecDepth 100000 in
theorem bl_13_42 {L : Nat} {a1 a2 : Int} {M : aM} {o : aO} (h : aX xc_13 (aSeek xc_13 3) [aR 1, aI a1, aI (aW (a2 + (-8)))] [] (SH L) M o) : aX xc_13 (aSeek xc_13 42) [aR 1, aI a1, aI a2] [] (SH L) M o := by
  exact aX_seg 2 (fun n g => g) (h)
/- TypeLock.feed(IIIII)I -/
set_option maxRecDepth 100000 in
theorem en_14 {L : Nat} {a1 a2 a3 a4 a5 : Int} {M : aM} {o : aO} (h : (((M 1 1) ≤ 1980 → (∃ (M1 : aM), aE 13 [aR 1, aI a1] (SH L) M ([], (SH L), M1) ∧ (∃ (M2 : aM), aE 13 [aR 1, aI a2] (SH L) M1 ([], (SH L), M2) ∧ (∃ (M3 : aM), aE 13 [aR 1, aI a3] (SH L) M2 ([], (SH L), M3) ∧ (∃ (M4 : aM), aE 13 [aR 1, aI a4] (SH L) M3 ([], (SH L), M4) ∧ (∃ (M5 : aM), aE 13 [aR 1, aI a5] (SH L) M4 ([], (SH L), M5) ∧ o = ([aI (M5 1 1)], (SH L), M5))))))) ∧ (¬ ((M 1 1) ≤ 1980) → o = ([aI ((-1))], (SH L), M)))) : aE 14 [aR 1, aI a1, aI a2, aI a3, aI a4, aI a5] (SH L) M o := by
  have q : aX xc_14 (aSeek xc_14 0) [aR 1, aI a1, aI a2, aI a3, aI a4, aI a5] [] (SH L) M o := by
    by_cases cc : (M 1 1) ≤ 1980
    · replace h := h.1 cc
      have t6 : aX xc_14 (aSeek xc_14 12) [aR 1, aI a1, aI a2, aI a3, aI a4, aI a5] [] (SH L) M o := by
        obtain ⟨M1, k7, h⟩ := h
        have h2 : aX xc_14 (aSeek xc_14 17) [aR 1, aI a1, aI a2, aI a3, aI a4, aI a5] [] (SH L) M1 o := by
          obtain ⟨M2, k8, h⟩ := h
          have h2 : aX xc_14 (aSeek xc_14 22) [aR 1, aI a1, aI a2, aI a3, aI a4, aI a5] [] (SH L) M2 o := by
            obtain ⟨M3, k9, h⟩ := h
            have h2 : aX xc_14 (aSeek xc_14 27) [aR 1, aI a1, aI a2, aI a3, aI a4, aI a5] [] (SH L) M3 o := by
              obtain ⟨M4, k10, h⟩ := h
              have h2 : aX xc_14 (aSeek xc_14 33) [aR 1, aI a1, aI a2, aI a3, aI a4, aI a5] [] (SH L) M4 o := by
                obtain ⟨M5, k11, h⟩ := h
                have h2 : aX xc_14 (aSeek xc_14 39) [aR 1, aI a1, aI a2, aI a3, aI a4, aI a5] [] (SH L) M5 o := by
                  subst h
                  exact ⟨3, rfl⟩
                exact aX_seg 2 (fun n g => g) (aX_callv (rfl) rfl rfl rfl k11 h2)
              exact aX_seg 2 (fun n g => g) (aX_callv (rfl) rfl rfl rfl k10 h2)
            exact aX_seg 2 (fun n g => g) (aX_callv (rfl) rfl rfl rfl k9 h2)
          exact aX_seg 2 (fun n g => g) (aX_callv (rfl) rfl rfl rfl k8 h2)
        exact aX_seg 2 (fun n g => g) (aX_callv (rfl) rfl rfl rfl k7 h2)
      exact aX_seg 4 (fun n g => ip cc (g)) t6
    · replace h := h.2 cc
      have t12 : aX xc_14 (aSeek xc_14 10) [aR 1, aI a1, aI a2, aI a3, aI a4, aI a5] [] (SH L) M o := by
        subst h
        exact ⟨2, rfl⟩
      exact aX_seg 4 (fun n g => in_ cc (g)) t12
  exact q
/- TypeLock.back(I)I -/
set_option maxRecDepth 100000 in
theorem en_15 {L : Nat} {a1 : Int} {M : aM} {o : aO} (h : ((a1 < 0 → o = ([aI ((-1))], (SH L), M)) ∧ (¬ (a1 < 0) → ((a1 ≤ (M 1 1) → o = ([aI ((aSet M 1 1 (aW ((M 1 1) - a1))) 1 1)], (SH L), aSet M 1 1 (aW ((M 1 1) - a1)))) ∧ (¬ (a1 ≤ (M 1 1)) → o = ([aI ((-1))], (SH L), M)))))) : aE 15 [aR 1, aI a1] (SH L) M o := by
  have q : aX xc_15 (aSeek xc_15 0) [aR 1, aI a1] [] (SH L) M o := by
    by_cases cc : a1 < 0
    · replace h := h.1 cc
      have t1 : aX xc_15 (aSeek xc_15 12) [aR 1, aI a1] [] (SH L) M o := by
        subst h
        exact ⟨2, rfl⟩
      exact aX_seg 2 (fun n g => ip cc (g)) t1
    · replace h := h.2 cc
      have t2 : aX xc_15 (aSeek xc_15 4) [aR 1, aI a1] [] (SH L) M o := by
        by_cases cc : a1 ≤ (M 1 1)
        · replace h := h.1 cc
          have t3 : aX xc_15 (aSeek xc_15 14) [aR 1, aI a1] [] (SH L) M o := by
            subst h
            exact ⟨9, rfl⟩
          exact aX_seg 4 (fun n g => ip cc (g)) t3
        · replace h := h.2 cc
          have t4 : aX xc_15 (aSeek xc_15 12) [aR 1, aI a1] [] (SH L) M o := by
            subst h
            exact ⟨2, rfl⟩
          exact aX_seg 4 (fun n g => in_ cc (g)) t4
      exact aX_seg 2 (fun n g => in_ cc (g)) t2
  exact q
/- TypeLock$Tokens.isBlank(I)Z -/
set_option maxRecDepth 100000 in
theorem en_16 {L : Nat} {a0 : Int} {M : aM} {o : aO} (h : ((a0 = 9 → o = ([aI 1], (SH L), M)) ∧ (¬ (a0 = 9) → ((a0 = 10 → o = ([aI 1], (SH L), M)) ∧ (¬ (a0 = 10) → ((a0 = 13 → o = ([aI 1], (SH L), M)) ∧ (¬ (a0 = 13) → ((¬ a0 = 32 → o = ([aI 0], (SH L), M)) ∧ (¬ (¬ a0 = 32) → o = ([aI 1], (SH L), M)))))))))) : aE 16 [aI a0] (SH L) M o := by
  have q : aX xc_16 (aSeek xc_16 0) [aI a0] [] (SH L) M o := by
    by_cases cc : a0 = 9
    · replace h := h.1 cc
      have t1 : aX xc_16 (aSeek xc_16 24) [aI a0] [] (SH L) M o := by
        subst h
        exact ⟨3, rfl⟩
      exact aX_seg 3 (fun n g => ip cc (g)) t1
    · replace h := h.2 cc
      have t2 : aX xc_16 (aSeek xc_16 6) [aI a0] [] (SH L) M o := by
        by_cases cc : a0 = 10
        · replace h := h.1 cc
          have t3 : aX xc_16 (aSeek xc_16 24) [aI a0] [] (SH L) M o := by
            subst h
            exact ⟨3, rfl⟩
          exact aX_seg 3 (fun n g => ip cc (g)) t3
        · replace h := h.2 cc
          have t4 : aX xc_16 (aSeek xc_16 12) [aI a0] [] (SH L) M o := by
            by_cases cc : a0 = 13
            · replace h := h.1 cc
              have t5 : aX xc_16 (aSeek xc_16 24) [aI a0] [] (SH L) M o := by
                subst h
                exact ⟨3, rfl⟩
              exact aX_seg 3 (fun n g => ip cc (g)) t5
            · replace h := h.2 cc
              have t6 : aX xc_16 (aSeek xc_16 18) [aI a0] [] (SH L) M o := by
                by_cases cc : ¬ a0 = 32
                · replace h := h.1 cc
                  have t7 : aX xc_16 (aSeek xc_16 28) [aI a0] [] (SH L) M o := by
                    subst h
                    exact ⟨2, rfl⟩
                  exact aX_seg 3 (fun n g => ip cc (g)) t7
                · replace h := h.2 cc
                  have t8 : aX xc_16 (aSeek xc_16 24) [aI a0] [] (SH L) M o := by
                    subst h
                    exact ⟨3, rfl⟩
                  exact aX_seg 3 (fun n g => in_ cc (g)) t8
              exact aX_seg 3 (fun n g => in_ cc (g)) t6
          exact aX_seg 3 (fun n g => in_ cc (g)) t4
      exact aX_seg 3 (fun n g => in_ cc (g)) t2
  exact q
/- TypeLock$Tokens.behindBlanks(I)I -/
set_option maxRecDepth 100000 in
theorem en_17 {L : Nat} {a1 : Int} {M : aM} {o : aO} (h : aX xc_17 (aSeek xc_17 2) [aR 4, aU, aI a1] [] (SH L) M o) : aE 17 [aR 4, aI a1] (SH L) M o := by
  have q : aX xc_17 (aSeek xc_17 0) [aR 4, aI a1, aU] [] (SH L) M o := by
    exact aX_seg 2 (fun n g => g) (aX_le (ls := [aR 4, aU, aI a1]) (ls1 := [aR 4, aI a1, aI a1]) (⟨Or.inr rfl, ⟨Or.inl rfl, ⟨Or.inr rfl, trivial⟩⟩⟩) h)
  exact q
set_option maxRecDepth 100000 in
theorem bl_17_2 {L : Nat} {a2 : Int} {M : aM} {o : aO} (h : (((M 4 4) ≤ a2 → o = ([aI a2], (SH L), M)) ∧ (¬ ((M 4 4) ≤ a2) → (0 ≤ a2 ∧ a2 < aLn (SH L) 3 (M 4 3)) ∧ (∃ (M1 : aM) (v2 : Int), aE 16 [aI (M (M 4 3) a2)] (SH L) M ([aI v2], (SH L), M1) ∧ ((v2 = 0 → o = ([aI a2], (SH L), M1)) ∧ (¬ (v2 = 0) → aX xc_17 (aSeek xc_17 2) [aR 4, aU, aI (aW (a2 + 1))] [] (SH L) M1 o)))))) : aX xc_17 (aSeek xc_17 2) [aR 4, aU, aI a2] [] (SH L) M o := by
  by_cases cc : (M 4 4) ≤ a2
  · replace h := h.1 cc
    have t3 : aX xc_17 (aSeek xc_17 28) [aR 4, aU, aI a2] [] (SH L) M o := by
      subst h
      exact ⟨2, rfl⟩
    exact aX_seg 4 (fun n g => ip cc (g)) t3
  · replace h := h.2 cc
    have t4 : aX xc_17 (aSeek xc_17 10) [aR 4, aU, aI a2] [] (SH L) M o := by
      obtain ⟨c5, h⟩ := h
      obtain ⟨M1, v2, k6, h⟩ := h
      have h2 : aX xc_17 (aSeek xc_17 19) [aR 4, aU, aI a2] [aI v2] (SH L) M1 o := by
        by_cases cc : v2 = 0
        · replace h := h.1 cc
          have t7 : aX xc_17 (aSeek xc_17 28) [aR 4, aU, aI a2] [] (SH L) M1 o := by
            subst h
            exact ⟨2, rfl⟩
          exact aX_seg 1 (fun n g => ip cc (g)) t7
        · replace h := h.2 cc
          have t8 : aX xc_17 (aSeek xc_17 22) [aR 4, aU, aI a2] [] (SH L) M1 o := by
            exact aX_seg 2 (fun n g => g) (h)
          exact aX_seg 1 (fun n g => in_ cc (g)) t8
      exact aX_seg 4 (fun n g => ip c5 (g)) (aX_calls rfl rfl rfl k6 h2)
    exact aX_seg 4 (fun n g => in_ cc (g)) t4
/- TypeLock$Tokens.isLetter(I)Z -/
set_option maxRecDepth 100000 in
theorem en_18 {L : Nat} {a0 : Int} {M : aM} {o : aO} (h : ((a0 < 97 → o = ([aI 0], (SH L), M)) ∧ (¬ (a0 < 97) → ((122 < a0 → o = ([aI 0], (SH L), M)) ∧ (¬ (122 < a0) → o = ([aI 1], (SH L), M)))))) : aE 18 [aI a0] (SH L) M o := by
  have q : aX xc_18 (aSeek xc_18 0) [aI a0] [] (SH L) M o := by
    by_cases cc : a0 < 97
    · replace h := h.1 cc
      have t1 : aX xc_18 (aSeek xc_18 16) [aI a0] [] (SH L) M o := by
        subst h
        exact ⟨2, rfl⟩
      exact aX_seg 3 (fun n g => ip cc (g)) t1
    · replace h := h.2 cc
      have t2 : aX xc_18 (aSeek xc_18 6) [aI a0] [] (SH L) M o := by
        by_cases cc : 122 < a0
        · replace h := h.1 cc
          have t3 : aX xc_18 (aSeek xc_18 16) [aI a0] [] (SH L) M o := by
            subst h
            exact ⟨2, rfl⟩
          exact aX_seg 3 (fun n g => ip cc (g)) t3
        · replace h := h.2 cc
          have t4 : aX xc_18 (aSeek xc_18 12) [aI a0] [] (SH L) M o := by
            subst h
            exact ⟨3, rfl⟩
          exact aX_seg 3 (fun n g => in_ cc (g)) t4
      exact aX_seg 3 (fun n g => in_ cc (g)) t2
  exact q
/- TypeLock$Tokens.wordOf(II)I -/
set_option maxRecDepth 100000 in
theorem en_19 {L : Nat} {a1 a2 : Int} {M : aM} {o : aO} (h : aX xc_19 (aSeek xc_19 11) [aR 4, aI a1, aI a2, aI 0, aI a1, aI 1, aI 0, aU] [] (SH L) M o) : aE 19 [aR 4, aI a1, aI a2] (SH L) M o := by
  have q : aX xc_19 (aSeek xc_19 0) [aR 4, aI a1, aI a2, aU, aU, aU, aU, aU] [] (SH L) M o := by
    exact aX_seg 8 (fun n g => g) (h)
  exact q
set_option maxRecDepth 100000 in
theorem bl_19_11 {L : Nat} {a1 a2 a3 a4 a5 a6 : Int} {M : aM} {o : aO} (h : ((((aTxt.length : Int)) ≤ a6 → o = ([aI ((-1))], (SH L), M)) ∧ (¬ (((aTxt.length : Int)) ≤ a6) → ((-2 : Int) = -2 ∧ 0 ≤ a6 ∧ a6 < (aTxt.length : Int)) ∧ (((((aTxt.getD (a6).toNat 0 : Nat) : Int)) = 32 → ((a5 = 0 → aX xc_19 (aSeek xc_19 95) [aR 4, aI a1, aI a2, aI a3, aU, aU, aI a6, aU] [] (SH L) M o) ∧ (¬ (a5 = 0) → ((¬ a4 = a2 → aX xc_19 (aSeek xc_19 95) [aR 4, aI a1, aI a2, aI a3, aU, aU, aI a6, aU] [] (SH L) M o) ∧ (¬ (¬ a4 = a2) → o = ([aI a3], (SH L), M)))))) ∧ (¬ ((((aTxt.getD (a6).toNat 0 : Nat) : Int)) = 32) → ((a5 = 0 → aX xc_19 (aSeek xc_19 73) [aR 4, aI a1, aI a2, aI a3, aI a4, aU, aI a6, aU] [] (SH L) M o) ∧ (¬ (a5 = 0) → ((a2 ≤ a4 → aX xc_19 (aSeek xc_19 73) [aR 4, aI a1, aI a2, aI a3, aI a4, aU, aI a6, aU] [] (SH L) M o) ∧ (¬ (a2 ≤ a4) → (((M 4 4) ≤ a4 → aX xc_19 (aSeek xc_19 73) [aR 4, aI a1, aI a2, aI a3, aI a4, aU, aI a6, aU] [] (SH L) M o) ∧ (¬ ((M 4 4) ≤ a4) → (0 ≤ a4 ∧ a4 < aLn (SH L) 3 (M 4 3)) ∧ ((¬ (M (M 4 3) a4) = (((aTxt.getD (a6).toNat 0 : Nat) : Int)) → aX xc_19 (aSeek xc_19 73) [aR 4, aI a1, aI a2, aI a3, aI a4, aU, aI a6, aU] [] (SH L) M o) ∧ (¬ (¬ (M (M 4 3) a4) = (((aTxt.getD (a6).toNat 0 : Nat) : Int))) → aX xc_19 (aSeek xc_19 74) [aR 4, aI a1, aI a2, aI a3, aI a4, aU, aI a6, aU] [aI 1] (SH L) M o))))))))))))) : aX xc_19 (aSeek xc_19 11) [aR 4, aI a1, aI a2, aI a3, aI a4, aI a5, aI a6, aU] [] (SH L) M o := by
  by_cases cc : ((aTxt.length : Int)) ≤ a6
  · replace h := h.1 cc
    have t1 : aX xc_19 (aSeek xc_19 110) [aR 4, aI a1, aI a2, aI a3, aI a4, aI a5, aI a6, aU] [] (SH L) M o := by
      subst h
      exact ⟨2, rfl⟩
    exact aX_seg 4 (fun n g => ip cc (g)) t1
  · replace h := h.2 cc
    have t2 : aX xc_19 (aSeek xc_19 21) [aR 4, aI a1, aI a2, aI a3, aI a4, aI a5, aI a6, aU] [] (SH L) M o := by
      obtain ⟨c3, h⟩ := h
      by_cases cc : (((aTxt.getD (a6).toNat 0 : Nat) : Int)) = 32
      · replace h := h.1 cc
        have t4 : aX xc_19 (aSeek xc_19 82) [aR 4, aI a1, aI a2, aI a3, aI a4, aI a5, aI a6, aI (((aTxt.getD (a6).toNat 0 : Nat) : Int))] [] (SH L) M o := by
          by_cases cc : a5 = 0
          · replace h := h.1 cc
            have t5 : aX xc_19 (aSeek xc_19 95) [aR 4, aI a1, aI a2, aI a3, aI a4, aI a5, aI a6, aI (((aTxt.getD (a6).toNat 0 : Nat) : Int))] [] (SH L) M o := by
              exact aX_le (ls := [aR 4, aI a1, aI a2, aI a3, aU, aU, aI a6, aU]) (ls1 := [aR 4, aI a1, aI a2, aI a3, aI a4, aI a5, aI a6, aI (((aTxt.getD (a6).toNat 0 : Nat) : Int))]) (⟨Or.inr rfl, ⟨Or.inr rfl, ⟨Or.inr rfl, ⟨Or.inr rfl, ⟨Or.inl rfl, ⟨Or.inl rfl, ⟨Or.inr rfl, ⟨Or.inl rfl, trivial⟩⟩⟩⟩⟩⟩⟩⟩) h
            exact aX_seg 2 (fun n g => ip cc (g)) t5
          · replace h := h.2 cc
            have t6 : aX xc_19 (aSeek xc_19 87) [aR 4, aI a1, aI a2, aI a3, aI a4, aI a5, aI a6, aI (((aTxt.getD (a6).toNat 0 : Nat) : Int))] [] (SH L) M o := by
              by_cases cc : ¬ a4 = a2
              · replace h := h.1 cc
                have t7 : aX xc_19 (aSeek xc_19 95) [aR 4, aI a1, aI a2, aI a3, aI a4, aI a5, aI a6, aI (((aTxt.getD (a6).toNat 0 : Nat) : Int))] [] (SH L) M o := by
                  exact aX_le (ls := [aR 4, aI a1, aI a2, aI a3, aU, aU, aI a6, aU]) (ls1 := [aR 4, aI a1, aI a2, aI a3, aI a4, aI a5, aI a6, aI (((aTxt.getD (a6).toNat 0 : Nat) : Int))]) (⟨Or.inr rfl, ⟨Or.inr rfl, ⟨Or.inr rfl, ⟨Or.inr rfl, ⟨Or.inl rfl, ⟨Or.inl rfl, ⟨Or.inr rfl, ⟨Or.inl rfl, trivial⟩⟩⟩⟩⟩⟩⟩⟩) h
                exact aX_seg 3 (fun n g => ip cc (g)) t7
              · replace h := h.2 cc
                have t8 : aX xc_19 (aSeek xc_19 93) [aR 4, aI a1, aI a2, aI a3, aI a4, aI a5, aI a6, aI (((aTxt.getD (a6).toNat 0 : Nat) : Int))] [] (SH L) M o := by
                  subst h
                  exact ⟨2, rfl⟩
                exact aX_seg 3 (fun n g => in_ cc (g)) t8
            exact aX_seg 2 (fun n g => in_ cc (g)) t6
        exact aX_seg 7 (fun n g => ip c3 (ip cc (g))) t4
      · replace h := h.2 cc
        have t9 : aX xc_19 (aSeek xc_19 37) [aR 4, aI a1, aI a2, aI a3, aI a4, aI a5, aI a6, aI (((aTxt.getD (a6).toNat 0 : Nat) : Int))] [] (SH L) M o := by
          by_cases cc : a5 = 0
          · replace h := h.1 cc
            have t10 : aX xc_19 (aSeek xc_19 73) [aR 4, aI a1, aI a2, aI a3, aI a4, aI a5, aI a6, aI (((aTxt.getD (a6).toNat 0 : Nat) : Int))] [] (SH L) M o := by
              exact aX_le (ls := [aR 4, aI a1, aI a2, aI a3, aI a4, aU, aI a6, aU]) (ls1 := [aR 4, aI a1, aI a2, aI a3, aI a4, aI a5, aI a6, aI (((aTxt.getD (a6).toNat 0 : Nat) : Int))]) (⟨Or.inr rfl, ⟨Or.inr rfl, ⟨Or.inr rfl, ⟨Or.inr rfl, ⟨Or.inr rfl, ⟨Or.inl rfl, ⟨Or.inr rfl, ⟨Or.inl rfl, trivial⟩⟩⟩⟩⟩⟩⟩⟩) h
            exact aX_seg 2 (fun n g => ip cc (g)) t10
          · replace h := h.2 cc
            have t11 : aX xc_19 (aSeek xc_19 42) [aR 4, aI a1, aI a2, aI a3, aI a4, aI a5, aI a6, aI (((aTxt.getD (a6).toNat 0 : Nat) : Int))] [] (SH L) M o := by
              by_cases cc : a2 ≤ a4
              · replace h := h.1 cc
                have t12 : aX xc_19 (aSeek xc_19 73) [aR 4, aI a1, aI a2, aI a3, aI a4, aI a5, aI a6, aI (((aTxt.getD (a6).toNat 0 : Nat) : Int))] [] (SH L) M o := by
                  exact aX_le (ls := [aR 4, aI a1, aI a2, aI a3, aI a4, aU, aI a6, aU]) (ls1 := [aR 4, aI a1, aI a2, aI a3, aI a4, aI a5, aI a6, aI (((aTxt.getD (a6).toNat 0 : Nat) : Int))]) (⟨Or.inr rfl, ⟨Or.inr rfl, ⟨Or.inr rfl, ⟨Or.inr rfl, ⟨Or.inr rfl, ⟨Or.inl rfl, ⟨Or.inr rfl, ⟨Or.inl rfl, trivial⟩⟩⟩⟩⟩⟩⟩⟩) h
                exact aX_seg 3 (fun n g => ip cc (g)) t12
              · replace h := h.2 cc
                have t13 : aX xc_19 (aSeek xc_19 48) [aR 4, aI a1, aI a2, aI a3, aI a4, aI a5, aI a6, aI (((aTxt.getD (a6).toNat 0 : Nat) : Int))] [] (SH L) M o := by
                  by_cases cc : (M 4 4) ≤ a4
                  · replace h := h.1 cc
                    have t14 : aX xc_19 (aSeek xc_19 73) [aR 4, aI a1, aI a2, aI a3, aI a4, aI a5, aI a6, aI (((aTxt.getD (a6).toNat 0 : Nat) : Int))] [] (SH L) M o := by
                      exact aX_le (ls := [aR 4, aI a1, aI a2, aI a3, aI a4, aU, aI a6, aU]) (ls1 := [aR 4, aI a1, aI a2, aI a3, aI a4, aI a5, aI a6, aI (((aTxt.getD (a6).toNat 0 : Nat) : Int))]) (⟨Or.inr rfl, ⟨Or.inr rfl, ⟨Or.inr rfl, ⟨Or.inr rfl, ⟨Or.inr rfl, ⟨Or.inl rfl, ⟨Or.inr rfl, ⟨Or.inl rfl, trivial⟩⟩⟩⟩⟩⟩⟩⟩) h
                    exact aX_seg 4 (fun n g => ip cc (g)) t14
                  · replace h := h.2 cc
                    have t15 : aX xc_19 (aSeek xc_19 57) [aR 4, aI a1, aI a2, aI a3, aI a4, aI a5, aI a6, aI (((aTxt.getD (a6).toNat 0 : Nat) : Int))] [] (SH L) M o := by
                      obtain ⟨c16, h⟩ := h
                      by_cases cc : ¬ (M (M 4 3) a4) = (((aTxt.getD (a6).toNat 0 : Nat) : Int))
                      · replace h := h.1 cc
                        have t17 : aX xc_19 (aSeek xc_19 73) [aR 4, aI a1, aI a2, aI a3, aI a4, aI a5, aI a6, aI (((aTxt.getD (a6).toNat 0 : Nat) : Int))] [] (SH L) M o := by
                          exact aX_le (ls := [aR 4, aI a1, aI a2, aI a3, aI a4, aU, aI a6, aU]) (ls1 := [aR 4, aI a1, aI a2, aI a3, aI a4, aI a5, aI a6, aI (((aTxt.getD (a6).toNat 0 : Nat) : Int))]) (⟨Or.inr rfl, ⟨Or.inr rfl, ⟨Or.inr rfl, ⟨Or.inr rfl, ⟨Or.inr rfl, ⟨Or.inl rfl, ⟨Or.inr rfl, ⟨Or.inl rfl, trivial⟩⟩⟩⟩⟩⟩⟩⟩) h
                        exact aX_seg 6 (fun n g => ip c16 (ip cc (g))) t17
                      · replace h := h.2 cc
                        have t18 : aX xc_19 (aSeek xc_19 69) [aR 4, aI a1, aI a2, aI a3, aI a4, aI a5, aI a6, aI (((aTxt.getD (a6).toNat 0 : Nat) : Int))] [] (SH L) M o := by
                          exact aX_seg 2 (fun n g => g) (aX_le (ls := [aR 4, aI a1, aI a2, aI a3, aI a4, aU, aI a6, aU]) (ls1 := [aR 4, aI a1, aI a2, aI a3, aI a4, aI a5, aI a6, aI (((aTxt.getD (a6).toNat 0 : Nat) : Int))]) (⟨Or.inr rfl, ⟨Or.inr rfl, ⟨Or.inr rfl, ⟨Or.inr rfl, ⟨Or.inr rfl, ⟨Or.inl rfl, ⟨Or.inr rfl, ⟨Or.inl rfl, trivial⟩⟩⟩⟩⟩⟩⟩⟩) h)
                        exact aX_seg 6 (fun n g => ip c16 (in_ cc (g))) t18
                    exact aX_seg 4 (fun n g => in_ cc (g)) t15
                exact aX_seg 3 (fun n g => in_ cc (g)) t13
            exact aX_seg 2 (fun n g => in_ cc (g)) t11
        exact aX_seg 7 (fun n g => ip c3 (in_ cc (g))) t9
    exact aX_seg 4 (fun n g => in_ cc (g)) t2
set_option maxRecDepth 100000 in
theorem bl_19_73 {L : Nat} {a1 a2 a3 a4 a6 : Int} {M : aM} {o : aO} (h : aX xc_19 (aSeek xc_19 74) [aR 4, aI a1, aI a2, aI a3, aI a4, aU, aI a6, aU] [aI 0] (SH L) M o) : aX xc_19 (aSeek xc_19 73) [aR 4, aI a1, aI a2, aI a3, aI a4, aU, aI a6, aU] [] (SH L) M o := by
  exact aX_seg 1 (fun n g => g) (h)
set_option maxRecDepth 100000 in
theorem bl_19_74 {L : Nat} {a1 a2 a3 a4 a6 b0 : Int} {M : aM} {o : aO} (h : aX xc_19 (aSeek xc_19 104) [aR 4, aI a1, aI a2, aI a3, aI (aW (a4 + 1)), aI b0, aI a6, aU] [] (SH L) M o) : aX xc_19 (aSeek xc_19 74) [aR 4, aI a1, aI a2, aI a3, aI a4, aU, aI a6, aU] [aI b0] (SH L) M o := by
  exact aX_seg 3 (fun n g => g) (h)
set_option maxRecDepth 100000 in
theorem bl_19_95 {L : Nat} {a1 a2 a3 a6 : Int} {M : aM} {o : aO} (h : aX xc_19 (aSeek xc_19 104) [aR 4, aI a1, aI a2, aI (aW (a3 + 1)), aI a1, aI 1, aI a6, aU] [] (SH L) M o) : aX xc_19 (aSeek xc_19 95) [aR 4, aI a1, aI a2, aI a3, aU, aU, aI a6, aU] [] (SH L) M o := by
  exact aX_seg 5 (fun n g => g) (h)
set_option maxRecDepth 100000 in
theorem bl_19_104 {L : Nat} {a1 a2 a3 a4 a5 a6 : Int} {M : aM} {o : aO} (h : aX xc_19 (aSeek xc_19 11) [aR 4, aI a1, aI a2, aI a3, aI a4, aI a5, aI (aW (a6 + 1)), aU] [] (SH L) M o) : aX xc_19 (aSeek xc_19 104) [aR 4, aI a1, aI a2, aI a3, aI a4, aI a5, aI a6, aU] [] (SH L) M o := by
  exact aX_seg 2 (fun n g => g) (h)
/- TypeLock$Tokens.scanWord(II)I -/
set_option maxRecDepth 100000 in
theorem en_20 {L : Nat} {a1 a2 : Int} {M : aM} {o : aO} (h : aX xc_20 (aSeek xc_20 2) [aR 4, aI a1, aI a2, aI a2, aU] [] (SH L) M o) : aE 20 [aR 4, aI a1, aI a2] (SH L) M o := by
  have q : aX xc_20 (aSeek xc_20 0) [aR 4, aI a1, aI a2, aU, aU] [] (SH L) M o := by
    exact aX_seg 2 (fun n g => g) (h)
  exact q
set_option maxRecDepth 100000 in
theorem bl_20_2 {L : Nat} {a1 a2 a3 : Int} {M : aM} {o : aO} (h : (((M 4 4) ≤ a3 → aX xc_20 (aSeek xc_20 55) [aR 4, aI a1, aI a2, aI a3, aU] [] (SH L) M o) ∧ (¬ ((M 4 4) ≤ a3) → (0 ≤ a3 ∧ a3 < aLn (SH L) 3 (M 4 3)) ∧ (∃ (M1 : aM) (v2 : Int), aE 18 [aI (M (M 4 3) a3)] (SH L) M ([aI v2], (SH L), M1) ∧ ((v2 = 0 → aX xc_20 (aSeek xc_20 55) [aR 4, aI a1, aI a2, aI a3, aU] [] (SH L) M1 o) ∧ (¬ (v2 = 0) → (0 ≤ a1 ∧ a1 < aLn (SH L) 2 7) ∧ (0 ≤ a3 ∧ a3 < aLn (SH L) 3 (M1 4 3)) ∧ (0 ≤ a1 ∧ a1 < aLn (SH L) 2 7) ∧ aX xc_20 (aSeek xc_20 2) [aR 4, aI a1, aI a2, aI (aW (a3 + 1)), aU] [] (SH L) (aSet M1 7 a1 (aLor (aLsl (M1 7 a1) 5) (aW ((aW ((M1 (M1 4 3) a3) - 97)) + 1)))) o)))))) : aX xc_20 (aSeek xc_20 2) [aR 4, aI a1, aI a2, aI a3, aU] [] (SH L) M o := by
  by_cases cc : (M 4 4) ≤ a3
  · replace h := h.1 cc
    have t3 : aX xc_20 (aSeek xc_20 55) [aR 4, aI a1, aI a2, aI a3, aU] [] (SH L) M o := by
      exact h
    exact aX_seg 4 (fun n g => ip cc (g)) t3
  · replace h := h.2 cc
    have t4 : aX xc_20 (aSeek xc_20 10) [aR 4, aI a1, aI a2, aI a3, aU] [] (SH L) M o := by
      obtain ⟨c5, h⟩ := h
      obtain ⟨M1, v2, k6, h⟩ := h
      have h2 : aX xc_20 (aSeek xc_20 19) [aR 4, aI a1, aI a2, aI a3, aU] [aI v2] (SH L) M1 o := by
        by_cases cc : v2 = 0
        · replace h := h.1 cc
          have t7 : aX xc_20 (aSeek xc_20 55) [aR 4, aI a1, aI a2, aI a3, aU] [] (SH L) M1 o := by
            exact h
          exact aX_seg 1 (fun n g => ip cc (g)) t7
        · replace h := h.2 cc
          have t8 : aX xc_20 (aSeek xc_20 22) [aR 4, aI a1, aI a2, aI a3, aU] [] (SH L) M1 o := by
            obtain ⟨c9, h⟩ := h
            obtain ⟨c10, h⟩ := h
            obtain ⟨c11, h⟩ := h
            exact aX_seg 22 (fun n g => ip c9 (ip c10 (ip c11 (g)))) (h)
          exact aX_seg 1 (fun n g => in_ cc (g)) t8
      exact aX_seg 4 (fun n g => ip c5 (g)) (aX_calls rfl rfl rfl k6 h2)
    exact aX_seg 4 (fun n g => in_ cc (g)) t4
set_option maxRecDepth 100000 in
theorem bl_20_55 {L : Nat} {a1 a2 a3 : Int} {M : aM} {o : aO} (h : (((aW (a3 - a2)) ≤ 8 → (∃ (M1 : aM) (v2 : Int), aE 19 [aR 4, aI a2, aI a3] (SH L) M ([aI v2], (SH L), M1) ∧ ((¬ v2 = ((-1)) → (0 ≤ a1 ∧ a1 < aLn (SH L) 1 5) ∧ o = ([aI a3], (SH L), aSet M1 5 a1 (aW (16 + v2)))) ∧ (¬ (¬ v2 = ((-1))) → (0 ≤ a1 ∧ a1 < aLn (SH L) 1 5) ∧ o = ([aI a3], (SH L), aSet M1 5 a1 2))))) ∧ (¬ ((aW (a3 - a2)) ≤ 8) → (0 ≤ a1 ∧ a1 < aLn (SH L) 1 5) ∧ o = ([aI a3], (SH L), aSet M 5 a1 1)))) : aX xc_20 (aSeek xc_20 55) [aR 4, aI a1, aI a2, aI a3, aU] [] (SH L) M o := by
  by_cases cc : (aW (a3 - a2)) ≤ 8
  · replace h := h.1 cc
    have t3 : aX xc_20 (aSeek xc_20 72) [aR 4, aI a1, aI a2, aI a3, aU] [] (SH L) M o := by
      obtain ⟨M1, v2, k4, h⟩ := h
      have h2 : aX xc_20 (aSeek xc_20 78) [aR 4, aI a1, aI a2, aI a3, aU] [aI v2] (SH L) M1 o := by
        by_cases cc : ¬ v2 = ((-1))
        · replace h := h.1 cc
          have t5 : aX xc_20 (aSeek xc_20 95) [aR 4, aI a1, aI a2, aI a3, aI v2] [aI a1, aR 5] (SH L) M1 o := by
            obtain ⟨c6, h⟩ := h
            subst h
            exact ⟨6, ip c6 (rfl)⟩
          exact aX_seg 7 (fun n g => ip cc (g)) t5
        · replace h := h.2 cc
          have t7 : aX xc_20 (aSeek xc_20 91) [aR 4, aI a1, aI a2, aI a3, aI v2] [aI a1, aR 5] (SH L) M1 o := by
            obtain ⟨c8, h⟩ := h
            subst h
            exact ⟨5, ip c8 (rfl)⟩
          exact aX_seg 7 (fun n g => in_ cc (g)) t7
      exact aX_seg 3 (fun n g => g) (aX_callv (rfl) rfl rfl rfl k4 h2)
    exact aX_seg 5 (fun n g => ip cc (g)) t3
  · replace h := h.2 cc
    have t9 : aX xc_20 (aSeek xc_20 63) [aR 4, aI a1, aI a2, aI a3, aU] [] (SH L) M o := by
      obtain ⟨c10, h⟩ := h
      subst h
      exact ⟨7, ip c10 (rfl)⟩
    exact aX_seg 5 (fun n g => in_ cc (g)) t9
/- TypeLock$Tokens.isDigit(I)Z -/
set_option maxRecDepth 100000 in
theorem en_21 {L : Nat} {a0 : Int} {M : aM} {o : aO} (h : ((a0 < 48 → o = ([aI 0], (SH L), M)) ∧ (¬ (a0 < 48) → ((57 < a0 → o = ([aI 0], (SH L), M)) ∧ (¬ (57 < a0) → o = ([aI 1], (SH L), M)))))) : aE 21 [aI a0] (SH L) M o := by
  have q : aX xc_21 (aSeek xc_21 0) [aI a0] [] (SH L) M o := by
    by_cases cc : a0 < 48
    · replace h := h.1 cc
      have t1 : aX xc_21 (aSeek xc_21 16) [aI a0] [] (SH L) M o := by
        subst h
        exact ⟨2, rfl⟩
      exact aX_seg 3 (fun n g => ip cc (g)) t1
    · replace h := h.2 cc
      have t2 : aX xc_21 (aSeek xc_21 6) [aI a0] [] (SH L) M o := by
        by_cases cc : 57 < a0
        · replace h := h.1 cc
          have t3 : aX xc_21 (aSeek xc_21 16) [aI a0] [] (SH L) M o := by
            subst h
            exact ⟨2, rfl⟩
          exact aX_seg 3 (fun n g => ip cc (g)) t3
        · replace h := h.2 cc
          have t4 : aX xc_21 (aSeek xc_21 12) [aI a0] [] (SH L) M o := by
            subst h
            exact ⟨3, rfl⟩
          exact aX_seg 3 (fun n g => in_ cc (g)) t4
      exact aX_seg 3 (fun n g => in_ cc (g)) t2
  exact q
/- TypeLock$Tokens.scanInt(II)I -/
set_option maxRecDepth 100000 in
theorem en_22 {L : Nat} {a1 a2 : Int} {M : aM} {o : aO} (h : aX xc_22 (aSeek xc_22 2) [aR 4, aI a1, aI a2, aI a2] [] (SH L) M o) : aE 22 [aR 4, aI a1, aI a2] (SH L) M o := by
  have q : aX xc_22 (aSeek xc_22 0) [aR 4, aI a1, aI a2, aU] [] (SH L) M o := by
    exact aX_seg 2 (fun n g => g) (h)
  exact q
set_option maxRecDepth 100000 in
theorem bl_22_2 {L : Nat} {a1 a2 a3 : Int} {M : aM} {o : aO} (h : (((M 4 4) ≤ a3 → aX xc_22 (aSeek xc_22 56) [aR 4, aI a1, aI a2, aI a3] [] (SH L) M o) ∧ (¬ ((M 4 4) ≤ a3) → (0 ≤ a3 ∧ a3 < aLn (SH L) 3 (M 4 3)) ∧ (∃ (M1 : aM) (v2 : Int), aE 21 [aI (M (M 4 3) a3)] (SH L) M ([aI v2], (SH L), M1) ∧ ((v2 = 0 → aX xc_22 (aSeek xc_22 56) [aR 4, aI a1, aI a2, aI a3] [] (SH L) M1 o) ∧ (¬ (v2 = 0) → (0 ≤ a1 ∧ a1 < aLn (SH L) 2 7) ∧ (0 ≤ a3 ∧ a3 < aLn (SH L) 3 (M1 4 3)) ∧ (0 ≤ a1 ∧ a1 < aLn (SH L) 2 7) ∧ aX xc_22 (aSeek xc_22 2) [aR 4, aI a1, aI a2, aI (aW (a3 + 1))] [] (SH L) (aSet M1 7 a1 (aWL ((aWL ((aWL (10 * (M1 7 a1))) + (M1 (M1 4 3) a3))) - 48))) o)))))) : aX xc_22 (aSeek xc_22 2) [aR 4, aI a1, aI a2, aI a3] [] (SH L) M o := by
  by_cases cc : (M 4 4) ≤ a3
  · replace h := h.1 cc
    have t3 : aX xc_22 (aSeek xc_22 56) [aR 4, aI a1, aI a2, aI a3] [] (SH L) M o := by
      exact h
    exact aX_seg 4 (fun n g => ip cc (g)) t3
  · replace h := h.2 cc
    have t4 : aX xc_22 (aSeek xc_22 10) [aR 4, aI a1, aI a2, aI a3] [] (SH L) M o := by
      obtain ⟨c5, h⟩ := h
      obtain ⟨M1, v2, k6, h⟩ := h
      have h2 : aX xc_22 (aSeek xc_22 19) [aR 4, aI a1, aI a2, aI a3] [aI v2] (SH L) M1 o := by
        by_cases cc : v2 = 0
        · replace h := h.1 cc
          have t7 : aX xc_22 (aSeek xc_22 56) [aR 4, aI a1, aI a2, aI a3] [] (SH L) M1 o := by
            exact h
          exact aX_seg 1 (fun n g => ip cc (g)) t7
        · replace h := h.2 cc
          have t8 : aX xc_22 (aSeek xc_22 22) [aR 4, aI a1, aI a2, aI a3] [] (SH L) M1 o := by
            obtain ⟨c9, h⟩ := h
            obtain ⟨c10, h⟩ := h
            obtain ⟨c11, h⟩ := h
            exact aX_seg 20 (fun n g => ip c9 (ip c10 (ip c11 (g)))) (h)
          exact aX_seg 1 (fun n g => in_ cc (g)) t8
      exact aX_seg 4 (fun n g => ip c5 (g)) (aX_calls rfl rfl rfl k6 h2)
    exact aX_seg 4 (fun n g => in_ cc (g)) t4
set_option maxRecDepth 100000 in
theorem bl_22_56 {L : Nat} {a1 a2 a3 : Int} {M : aM} {o : aO} (h : (((aW (a3 - a2)) ≤ 4 → (0 ≤ a1 ∧ a1 < aLn (SH L) 1 5) ∧ o = ([aI a3], (SH L), aSet M 5 a1 3)) ∧ (¬ ((aW (a3 - a2)) ≤ 4) → (0 ≤ a1 ∧ a1 < aLn (SH L) 1 5) ∧ o = ([aI a3], (SH L), aSet M 5 a1 1)))) : aX xc_22 (aSeek xc_22 56) [aR 4, aI a1, aI a2, aI a3] [] (SH L) M o := by
  by_cases cc : (aW (a3 - a2)) ≤ 4
  · replace h := h.1 cc
    have t1 : aX xc_22 (aSeek xc_22 72) [aR 4, aI a1, aI a2, aI a3] [aI a1, aR 5] (SH L) M o := by
      obtain ⟨c2, h⟩ := h
      subst h
      exact ⟨4, ip c2 (rfl)⟩
    exact aX_seg 8 (fun n g => ip cc (g)) t1
  · replace h := h.2 cc
    have t3 : aX xc_22 (aSeek xc_22 68) [aR 4, aI a1, aI a2, aI a3] [aI a1, aR 5] (SH L) M o := by
      obtain ⟨c4, h⟩ := h
      subst h
      exact ⟨5, ip c4 (rfl)⟩
    exact aX_seg 8 (fun n g => in_ cc (g)) t3
/- TypeLock$Tokens.signOf(IZ)I -/
set_option maxRecDepth 100000 in
theorem en_23 {L : Nat} {a0 a1 : Int} {M : aM} {o : aO} (h : ((a0 = 33 → ((a1 = 0 → o = ([aI 1], (SH L), M)) ∧ (¬ (a1 = 0) → o = ([aI 11], (SH L), M)))) ∧ (a0 = 34 → o = ([aI 1], (SH L), M)) ∧ (a0 = 35 → o = ([aI 1], (SH L), M)) ∧ (a0 = 36 → o = ([aI 1], (SH L), M)) ∧ (a0 = 37 → o = ([aI 1], (SH L), M)) ∧ (a0 = 38 → o = ([aI 1], (SH L), M)) ∧ (a0 = 39 → o = ([aI 1], (SH L), M)) ∧ (a0 = 40 → o = ([aI 14], (SH L), M)) ∧ (a0 = 41 → o = ([aI 15], (SH L), M)) ∧ (a0 = 42 → o = ([aI 8], (SH L), M)) ∧ (a0 = 43 → o = ([aI 6], (SH L), M)) ∧ (a0 = 44 → o = ([aI 1], (SH L), M)) ∧ (a0 = 45 → o = ([aI 7], (SH L), M)) ∧ (a0 = 46 → o = ([aI 1], (SH L), M)) ∧ (a0 = 47 → o = ([aI 9], (SH L), M)) ∧ (a0 = 48 → o = ([aI 1], (SH L), M)) ∧ (a0 = 49 → o = ([aI 1], (SH L), M)) ∧ (a0 = 50 → o = ([aI 1], (SH L), M)) ∧ (a0 = 51 → o = ([aI 1], (SH L), M)) ∧ (a0 = 52 → o = ([aI 1], (SH L), M)) ∧ (a0 = 53 → o = ([aI 1], (SH L), M)) ∧ (a0 = 54 → o = ([aI 1], (SH L), M)) ∧ (a0 = 55 → o = ([aI 1], (SH L), M)) ∧ (a0 = 56 → o = ([aI 1], (SH L), M)) ∧ (a0 = 57 → o = ([aI 1], (SH L), M)) ∧ (a0 = 58 → o = ([aI 1], (SH L), M)) ∧ (a0 = 59 → o = ([aI 4], (SH L), M)) ∧ (a0 = 60 → ((a1 = 0 → o = ([aI 12], (SH L), M)) ∧ (¬ (a1 = 0) → o = ([aI 13], (SH L), M)))) ∧ (a0 = 61 → ((a1 = 0 → o = ([aI 5], (SH L), M)) ∧ (¬ (a1 = 0) → o = ([aI 10], (SH L), M)))) ∧ (¬ a0 = 33 → ¬ a0 = 34 → ¬ a0 = 35 → ¬ a0 = 36 → ¬ a0 = 37 → ¬ a0 = 38 → ¬ a0 = 39 → ¬ a0 = 40 → ¬ a0 = 41 → ¬ a0 = 42 → ¬ a0 = 43 → ¬ a0 = 44 → ¬ a0 = 45 → ¬ a0 = 46 → ¬ a0 = 47 → ¬ a0 = 48 → ¬ a0 = 49 → ¬ a0 = 50 → ¬ a0 = 51 → ¬ a0 = 52 → ¬ a0 = 53 → ¬ a0 = 54 → ¬ a0 = 55 → ¬ a0 = 56 → ¬ a0 = 57 → ¬ a0 = 58 → ¬ a0 = 59 → ¬ a0 = 60 → ¬ a0 = 61 → o = ([aI 1], (SH L), M)))) : aE 23 [aI a0, aI a1] (SH L) M o := by
  have q : aX xc_23 (aSeek xc_23 0) [aI a0, aI a1] [] (SH L) M o := by
    by_cases cc0 : a0 = 33
    · replace h := h.1 cc0
      have ee : aTab 33 61 185 #[162, 185, 185, 185, 185, 185, 185, 145, 148, 139, 133, 185, 136, 185, 142, 185, 185, 185, 185, 185, 185, 185, 185, 185, 185, 185, 131, 173, 151] a0 = 162 := by rw [cc0]; rfl
      have t1 : aX xc_23 (aSeek xc_23 163) [aI a0, aI a1] [] (SH L) M o := by
        by_cases cc : a1 = 0
        · replace h := h.1 cc
          have t2 : aX xc_23 (aSeek xc_23 172) [aI a0, aI a1] [] (SH L) M o := by
            subst h
            exact ⟨2, rfl⟩
          exact aX_seg 2 (fun n g => ip cc (g)) t2
        · replace h := h.2 cc
          have t3 : aX xc_23 (aSeek xc_23 167) [aI a0, aI a1] [] (SH L) M o := by
            subst h
            exact ⟨3, rfl⟩
          exact aX_seg 2 (fun n g => in_ cc (g)) t3
      exact aX_seg 2 (fun n g => (congrArg (fun tt => aRun tgT gP n xc_23 (aSeek xc_23 (aTo 1 tt)) [aI a0, aI a1] [] (SH L) M) ee).trans g) t1
    by_cases cc1 : a0 = 34
    · replace h := h.2.1 cc1
      have ee : aTab 33 61 185 #[162, 185, 185, 185, 185, 185, 185, 145, 148, 139, 133, 185, 136, 185, 142, 185, 185, 185, 185, 185, 185, 185, 185, 185, 185, 185, 131, 173, 151] a0 = 185 := by rw [cc1]; rfl
      have t4 : aX xc_23 (aSeek xc_23 186) [aI a0, aI a1] [] (SH L) M o := by
        subst h
        exact ⟨2, rfl⟩
      exact aX_seg 2 (fun n g => (congrArg (fun tt => aRun tgT gP n xc_23 (aSeek xc_23 (aTo 1 tt)) [aI a0, aI a1] [] (SH L) M) ee).trans g) t4
    by_cases cc2 : a0 = 35
    · replace h := h.2.2.1 cc2
      have ee : aTab 33 61 185 #[162, 185, 185, 185, 185, 185, 185, 145, 148, 139, 133, 185, 136, 185, 142, 185, 185, 185, 185, 185, 185, 185, 185, 185, 185, 185, 131, 173, 151] a0 = 185 := by rw [cc2]; rfl
      have t5 : aX xc_23 (aSeek xc_23 186) [aI a0, aI a1] [] (SH L) M o := by
        subst h
        exact ⟨2, rfl⟩
      exact aX_seg 2 (fun n g => (congrArg (fun tt => aRun tgT gP n xc_23 (aSeek xc_23 (aTo 1 tt)) [aI a0, aI a1] [] (SH L) M) ee).trans g) t5
    by_cases cc3 : a0 = 36
    · replace h := h.2.2.2.1 cc3
      have ee : aTab 33 61 185 #[162, 185, 185, 185, 185, 185, 185, 145, 148, 139, 133, 185, 136, 185, 142, 185, 185, 185, 185, 185, 185, 185, 185, 185, 185, 185, 131, 173, 151] a0 = 185 := by rw [cc3]; rfl
      have t6 : aX xc_23 (aSeek xc_23 186) [aI a0, aI a1] [] (SH L) M o := by
        subst h
        exact ⟨2, rfl⟩
      exact aX_seg 2 (fun n g => (congrArg (fun tt => aRun tgT gP n xc_23 (aSeek xc_23 (aTo 1 tt)) [aI a0, aI a1] [] (SH L) M) ee).trans g) t6
    by_cases cc4 : a0 = 37
    · replace h := h.2.2.2.2.1 cc4
      have ee : aTab 33 61 185 #[162, 185, 185, 185, 185, 185, 185, 145, 148, 139, 133, 185, 136, 185, 142, 185, 185, 185, 185, 185, 185, 185, 185, 185, 185, 185, 131, 173, 151] a0 = 185 := by rw [cc4]; rfl
      have t7 : aX xc_23 (aSeek xc_23 186) [aI a0, aI a1] [] (SH L) M o := by
        subst h
        exact ⟨2, rfl⟩
      exact aX_seg 2 (fun n g => (congrArg (fun tt => aRun tgT gP n xc_23 (aSeek xc_23 (aTo 1 tt)) [aI a0, aI a1] [] (SH L) M) ee).trans g) t7
    by_cases cc5 : a0 = 38
    · replace h := h.2.2.2.2.2.1 cc5
      have ee : aTab 33 61 185 #[162, 185, 185, 185, 185, 185, 185, 145, 148, 139, 133, 185, 136, 185, 142, 185, 185, 185, 185, 185, 185, 185, 185, 185, 185, 185, 131, 173, 151] a0 = 185 := by rw [cc5]; rfl
      have t8 : aX xc_23 (aSeek xc_23 186) [aI a0, aI a1] [] (SH L) M o := by
        subst h
        exact ⟨2, rfl⟩
      exact aX_seg 2 (fun n g => (congrArg (fun tt => aRun tgT gP n xc_23 (aSeek xc_23 (aTo 1 tt)) [aI a0, aI a1] [] (SH L) M) ee).trans g) t8
    by_cases cc6 : a0 = 39
    · replace h := h.2.2.2.2.2.2.1 cc6
      have ee : aTab 33 61 185 #[162, 185, 185, 185, 185, 185, 185, 145, 148, 139, 133, 185, 136, 185, 142, 185, 185, 185, 185, 185, 185, 185, 185, 185, 185, 185, 131, 173, 151] a0 = 185 := by rw [cc6]; rfl
      have t9 : aX xc_23 (aSeek xc_23 186) [aI a0, aI a1] [] (SH L) M o := by
        subst h
        exact ⟨2, rfl⟩
      exact aX_seg 2 (fun n g => (congrArg (fun tt => aRun tgT gP n xc_23 (aSeek xc_23 (aTo 1 tt)) [aI a0, aI a1] [] (SH L) M) ee).trans g) t9
    by_cases cc7 : a0 = 40
    · replace h := h.2.2.2.2.2.2.2.1 cc7
      have ee : aTab 33 61 185 #[162, 185, 185, 185, 185, 185, 185, 145, 148, 139, 133, 185, 136, 185, 142, 185, 185, 185, 185, 185, 185, 185, 185, 185, 185, 185, 131, 173, 151] a0 = 145 := by rw [cc7]; rfl
      have t10 : aX xc_23 (aSeek xc_23 146) [aI a0, aI a1] [] (SH L) M o := by
        subst h
        exact ⟨2, rfl⟩
      exact aX_seg 2 (fun n g => (congrArg (fun tt => aRun tgT gP n xc_23 (aSeek xc_23 (aTo 1 tt)) [aI a0, aI a1] [] (SH L) M) ee).trans g) t10
    by_cases cc8 : a0 = 41
    · replace h := h.2.2.2.2.2.2.2.2.1 cc8
      have ee : aTab 33 61 185 #[162, 185, 185, 185, 185, 185, 185, 145, 148, 139, 133, 185, 136, 185, 142, 185, 185, 185, 185, 185, 185, 185, 185, 185, 185, 185, 131, 173, 151] a0 = 148 := by rw [cc8]; rfl
      have t11 : aX xc_23 (aSeek xc_23 149) [aI a0, aI a1] [] (SH L) M o := by
        subst h
        exact ⟨2, rfl⟩
      exact aX_seg 2 (fun n g => (congrArg (fun tt => aRun tgT gP n xc_23 (aSeek xc_23 (aTo 1 tt)) [aI a0, aI a1] [] (SH L) M) ee).trans g) t11
    by_cases cc9 : a0 = 42
    · replace h := h.2.2.2.2.2.2.2.2.2.1 cc9
      have ee : aTab 33 61 185 #[162, 185, 185, 185, 185, 185, 185, 145, 148, 139, 133, 185, 136, 185, 142, 185, 185, 185, 185, 185, 185, 185, 185, 185, 185, 185, 131, 173, 151] a0 = 139 := by rw [cc9]; rfl
      have t12 : aX xc_23 (aSeek xc_23 140) [aI a0, aI a1] [] (SH L) M o := by
        subst h
        exact ⟨2, rfl⟩
      exact aX_seg 2 (fun n g => (congrArg (fun tt => aRun tgT gP n xc_23 (aSeek xc_23 (aTo 1 tt)) [aI a0, aI a1] [] (SH L) M) ee).trans g) t12
    by_cases cc10 : a0 = 43
    · replace h := h.2.2.2.2.2.2.2.2.2.2.1 cc10
      have ee : aTab 33 61 185 #[162, 185, 185, 185, 185, 185, 185, 145, 148, 139, 133, 185, 136, 185, 142, 185, 185, 185, 185, 185, 185, 185, 185, 185, 185, 185, 131, 173, 151] a0 = 133 := by rw [cc10]; rfl
      have t13 : aX xc_23 (aSeek xc_23 134) [aI a0, aI a1] [] (SH L) M o := by
        subst h
        exact ⟨2, rfl⟩
      exact aX_seg 2 (fun n g => (congrArg (fun tt => aRun tgT gP n xc_23 (aSeek xc_23 (aTo 1 tt)) [aI a0, aI a1] [] (SH L) M) ee).trans g) t13
    by_cases cc11 : a0 = 44
    · replace h := h.2.2.2.2.2.2.2.2.2.2.2.1 cc11
      have ee : aTab 33 61 185 #[162, 185, 185, 185, 185, 185, 185, 145, 148, 139, 133, 185, 136, 185, 142, 185, 185, 185, 185, 185, 185, 185, 185, 185, 185, 185, 131, 173, 151] a0 = 185 := by rw [cc11]; rfl
      have t14 : aX xc_23 (aSeek xc_23 186) [aI a0, aI a1] [] (SH L) M o := by
        subst h
        exact ⟨2, rfl⟩
      exact aX_seg 2 (fun n g => (congrArg (fun tt => aRun tgT gP n xc_23 (aSeek xc_23 (aTo 1 tt)) [aI a0, aI a1] [] (SH L) M) ee).trans g) t14
    by_cases cc12 : a0 = 45
    · replace h := h.2.2.2.2.2.2.2.2.2.2.2.2.1 cc12
      have ee : aTab 33 61 185 #[162, 185, 185, 185, 185, 185, 185, 145, 148, 139, 133, 185, 136, 185, 142, 185, 185, 185, 185, 185, 185, 185, 185, 185, 185, 185, 131, 173, 151] a0 = 136 := by rw [cc12]; rfl
      have t15 : aX xc_23 (aSeek xc_23 137) [aI a0, aI a1] [] (SH L) M o := by
        subst h
        exact ⟨2, rfl⟩
      exact aX_seg 2 (fun n g => (congrArg (fun tt => aRun tgT gP n xc_23 (aSeek xc_23 (aTo 1 tt)) [aI a0, aI a1] [] (SH L) M) ee).trans g) t15
    by_cases cc13 : a0 = 46
    · replace h := h.2.2.2.2.2.2.2.2.2.2.2.2.2.1 cc13
      have ee : aTab 33 61 185 #[162, 185, 185, 185, 185, 185, 185, 145, 148, 139, 133, 185, 136, 185, 142, 185, 185, 185, 185, 185, 185, 185, 185, 185, 185, 185, 131, 173, 151] a0 = 185 := by rw [cc13]; rfl
      have t16 : aX xc_23 (aSeek xc_23 186) [aI a0, aI a1] [] (SH L) M o := by
        subst h
        exact ⟨2, rfl⟩
      exact aX_seg 2 (fun n g => (congrArg (fun tt => aRun tgT gP n xc_23 (aSeek xc_23 (aTo 1 tt)) [aI a0, aI a1] [] (SH L) M) ee).trans g) t16
    by_cases cc14 : a0 = 47
    · replace h := h.2.2.2.2.2.2.2.2.2.2.2.2.2.2.1 cc14
      have ee : aTab 33 61 185 #[162, 185, 185, 185, 185, 185, 185, 145, 148, 139, 133, 185, 136, 185, 142, 185, 185, 185, 185, 185, 185, 185, 185, 185, 185, 185, 131, 173, 151] a0 = 142 := by rw [cc14]; rfl
      have t17 : aX xc_23 (aSeek xc_23 143) [aI a0, aI a1] [] (SH L) M o := by
        subst h
        exact ⟨2, rfl⟩
      exact aX_seg 2 (fun n g => (congrArg (fun tt => aRun tgT gP n xc_23 (aSeek xc_23 (aTo 1 tt)) [aI a0, aI a1] [] (SH L) M) ee).trans g) t17
    by_cases cc15 : a0 = 48
    · replace h := h.2.2.2.2.2.2.2.2.2.2.2.2.2.2.2.1 cc15
      have ee : aTab 33 61 185 #[162, 185, 185, 185, 185, 185, 185, 145, 148, 139, 133, 185, 136, 185, 142, 185, 185, 185, 185, 185, 185, 185, 185, 185, 185, 185, 131, 173, 151] a0 = 185 := by rw [cc15]; rfl
      have t18 : aX xc_23 (aSeek xc_23 186) [aI a0, aI a1] [] (SH L) M o := by
        subst h
        exact ⟨2, rfl⟩
      exact aX_seg 2 (fun n g => (congrArg (fun tt => aRun tgT gP n xc_23 (aSeek xc_23 (aTo 1 tt)) [aI a0, aI a1] [] (SH L) M) ee).trans g) t18
    by_cases cc16 : a0 = 49
    · replace h := h.2.2.2.2.2.2.2.2.2.2.2.2.2.2.2.2.1 cc16
      have ee : aTab 33 61 185 #[162, 185, 185, 185, 185, 185, 185, 145, 148, 139, 133, 185, 136, 185, 142, 185, 185, 185, 185, 185, 185, 185, 185, 185, 185, 185, 131, 173, 151] a0 = 185 := by rw [cc16]; rfl
      have t19 : aX xc_23 (aSeek xc_23 186) [aI a0, aI a1] [] (SH L) M o := by
        subst h
        exact ⟨2, rfl⟩
      exact aX_seg 2 (fun n g => (congrArg (fun tt => aRun tgT gP n xc_23 (aSeek xc_23 (aTo 1 tt)) [aI a0, aI a1] [] (SH L) M) ee).trans g) t19
    by_cases cc17 : a0 = 50
    · replace h := h.2.2.2.2.2.2.2.2.2.2.2.2.2.2.2.2.2.1 cc17
      have ee : aTab 33 61 185 #[162, 185, 185, 185, 185, 185, 185, 145, 148, 139, 133, 185, 136, 185, 142, 185, 185, 185, 185, 185, 185, 185, 185, 185, 185, 185, 131, 173, 151] a0 = 185 := by rw [cc17]; rfl
      have t20 : aX xc_23 (aSeek xc_23 186) [aI a0, aI a1] [] (SH L) M o := by
        subst h
        exact ⟨2, rfl⟩
      exact aX_seg 2 (fun n g => (congrArg (fun tt => aRun tgT gP n xc_23 (aSeek xc_23 (aTo 1 tt)) [aI a0, aI a1] [] (SH L) M) ee).trans g) t20
    by_cases cc18 : a0 = 51
    · replace h := h.2.2.2.2.2.2.2.2.2.2.2.2.2.2.2.2.2.2.1 cc18
      have ee : aTab 33 61 185 #[162, 185, 185, 185, 185, 185, 185, 145, 148, 139, 133, 185, 136, 185, 142, 185, 185, 185, 185, 185, 185, 185, 185, 185, 185, 185, 131, 173, 151] a0 = 185 := by rw [cc18]; rfl
      have t21 : aX xc_23 (aSeek xc_23 186) [aI a0, aI a1] [] (SH L) M o := by
        subst h
        exact ⟨2, rfl⟩
      exact aX_seg 2 (fun n g => (congrArg (fun tt => aRun tgT gP n xc_23 (aSeek xc_23 (aTo 1 tt)) [aI a0, aI a1] [] (SH L) M) ee).trans g) t21
    by_cases cc19 : a0 = 52
    · replace h := h.2.2.2.2.2.2.2.2.2.2.2.2.2.2.2.2.2.2.2.1 cc19
      have ee : aTab 33 61 185 #[162, 185, 185, 185, 185, 185, 185, 145, 148, 139, 133, 185, 136, 185, 142, 185, 185, 185, 185, 185, 185, 185, 185, 185, 185, 185, 131, 173, 151] a0 = 185 := by rw [cc19]; rfl
      have t22 : aX xc_23 (aSeek xc_23 186) [aI a0, aI a1] [] (SH L) M o := by
        subst h
        exact ⟨2, rfl⟩
      exact aX_seg 2 (fun n g => (congrArg (fun tt => aRun tgT gP n xc_23 (aSeek xc_23 (aTo 1 tt)) [aI a0, aI a1] [] (SH L) M) ee).trans g) t22
    by_cases cc20 : a0 = 53
    · replace h := h.2.2.2.2.2.2.2.2.2.2.2.2.2.2.2.2.2.2.2.2.1 cc20
      have ee : aTab 33 61 185 #[162, 185, 185, 185, 185, 185, 185, 145, 148, 139, 133, 185, 136, 185, 142, 185, 185, 185, 185, 185, 185, 185, 185, 185, 185, 185, 131, 173, 151] a0 = 185 := by rw [cc20]; rfl
      have t23 : aX xc_23 (aSeek xc_23 186) [aI a0, aI a1] [] (SH L) M o := by
        subst h
        exact ⟨2, rfl⟩
      exact aX_seg 2 (fun n g => (congrArg (fun tt => aRun tgT gP n xc_23 (aSeek xc_23 (aTo 1 tt)) [aI a0, aI a1] [] (SH L) M) ee).trans g) t23
    by_cases cc21 : a0 = 54
    · replace h := h.2.2.2.2.2.2.2.2.2.2.2.2.2.2.2.2.2.2.2.2.2.1 cc21
      have ee : aTab 33 61 185 #[162, 185, 185, 185, 185, 185, 185, 145, 148, 139, 133, 185, 136, 185, 142, 185, 185, 185, 185, 185, 185, 185, 185, 185, 185, 185, 131, 173, 151] a0 = 185 := by rw [cc21]; rfl
      have t24 : aX xc_23 (aSeek xc_23 186) [aI a0, aI a1] [] (SH L) M o := by
        subst h
        exact ⟨2, rfl⟩
      exact aX_seg 2 (fun n g => (congrArg (fun tt => aRun tgT gP n xc_23 (aSeek xc_23 (aTo 1 tt)) [aI a0, aI a1] [] (SH L) M) ee).trans g) t24
    by_cases cc22 : a0 = 55
    · replace h := h.2.2.2.2.2.2.2.2.2.2.2.2.2.2.2.2.2.2.2.2.2.2.1 cc22
      have ee : aTab 33 61 185 #[162, 185, 185, 185, 185, 185, 185, 145, 148, 139, 133, 185, 136, 185, 142, 185, 185, 185, 185, 185, 185, 185, 185, 185, 185, 185, 131, 173, 151] a0 = 185 := by rw [cc22]; rfl
      have t25 : aX xc_23 (aSeek xc_23 186) [aI a0, aI a1] [] (SH L) M o := by
        subst h
        exact ⟨2, rfl⟩
      exact aX_seg 2 (fun n g => (congrArg (fun tt => aRun tgT gP n xc_23 (aSeek xc_23 (aTo 1 tt)) [aI a0, aI a1] [] (SH L) M) ee).trans g) t25
    by_cases cc23 : a0 = 56
    · replace h := h.2.2.2.2.2.2.2.2.2.2.2.2.2.2.2.2.2.2.2.2.2.2.2.1 cc23
      have ee : aTab 33 61 185 #[162, 185, 185, 185, 185, 185, 185, 145, 148, 139, 133, 185, 136, 185, 142, 185, 185, 185, 185, 185, 185, 185, 185, 185, 185, 185, 131, 173, 151] a0 = 185 := by rw [cc23]; rfl
      have t26 : aX xc_23 (aSeek xc_23 186) [aI a0, aI a1] [] (SH L) M o := by
        subst h
        exact ⟨2, rfl⟩
      exact aX_seg 2 (fun n g => (congrArg (fun tt => aRun tgT gP n xc_23 (aSeek xc_23 (aTo 1 tt)) [aI a0, aI a1] [] (SH L) M) ee).trans g) t26
    by_cases cc24 : a0 = 57
    · replace h := h.2.2.2.2.2.2.2.2.2.2.2.2.2.2.2.2.2.2.2.2.2.2.2.2.1 cc24
      have ee : aTab 33 61 185 #[162, 185, 185, 185, 185, 185, 185, 145, 148, 139, 133, 185, 136, 185, 142, 185, 185, 185, 185, 185, 185, 185, 185, 185, 185, 185, 131, 173, 151] a0 = 185 := by rw [cc24]; rfl
      have t27 : aX xc_23 (aSeek xc_23 186) [aI a0, aI a1] [] (SH L) M o := by
        subst h
        exact ⟨2, rfl⟩
      exact aX_seg 2 (fun n g => (congrArg (fun tt => aRun tgT gP n xc_23 (aSeek xc_23 (aTo 1 tt)) [aI a0, aI a1] [] (SH L) M) ee).trans g) t27
    by_cases cc25 : a0 = 58
    · replace h := h.2.2.2.2.2.2.2.2.2.2.2.2.2.2.2.2.2.2.2.2.2.2.2.2.2.1 cc25
      have ee : aTab 33 61 185 #[162, 185, 185, 185, 185, 185, 185, 145, 148, 139, 133, 185, 136, 185, 142, 185, 185, 185, 185, 185, 185, 185, 185, 185, 185, 185, 131, 173, 151] a0 = 185 := by rw [cc25]; rfl
      have t28 : aX xc_23 (aSeek xc_23 186) [aI a0, aI a1] [] (SH L) M o := by
        subst h
        exact ⟨2, rfl⟩
      exact aX_seg 2 (fun n g => (congrArg (fun tt => aRun tgT gP n xc_23 (aSeek xc_23 (aTo 1 tt)) [aI a0, aI a1] [] (SH L) M) ee).trans g) t28
    by_cases cc26 : a0 = 59
    · replace h := h.2.2.2.2.2.2.2.2.2.2.2.2.2.2.2.2.2.2.2.2.2.2.2.2.2.2.1 cc26
      have ee : aTab 33 61 185 #[162, 185, 185, 185, 185, 185, 185, 145, 148, 139, 133, 185, 136, 185, 142, 185, 185, 185, 185, 185, 185, 185, 185, 185, 185, 185, 131, 173, 151] a0 = 131 := by rw [cc26]; rfl
      have t29 : aX xc_23 (aSeek xc_23 132) [aI a0, aI a1] [] (SH L) M o := by
        subst h
        exact ⟨2, rfl⟩
      exact aX_seg 2 (fun n g => (congrArg (fun tt => aRun tgT gP n xc_23 (aSeek xc_23 (aTo 1 tt)) [aI a0, aI a1] [] (SH L) M) ee).trans g) t29
    by_cases cc27 : a0 = 60
    · replace h := h.2.2.2.2.2.2.2.2.2.2.2.2.2.2.2.2.2.2.2.2.2.2.2.2.2.2.2.1 cc27
      have ee : aTab 33 61 185 #[162, 185, 185, 185, 185, 185, 185, 145, 148, 139, 133, 185, 136, 185, 142, 185, 185, 185, 185, 185, 185, 185, 185, 185, 185, 185, 131, 173, 151] a0 = 173 := by rw [cc27]; rfl
      have t30 : aX xc_23 (aSeek xc_23 174) [aI a0, aI a1] [] (SH L) M o := by
        by_cases cc : a1 = 0
        · replace h := h.1 cc
          have t31 : aX xc_23 (aSeek xc_23 183) [aI a0, aI a1] [] (SH L) M o := by
            subst h
            exact ⟨2, rfl⟩
          exact aX_seg 2 (fun n g => ip cc (g)) t31
        · replace h := h.2 cc
          have t32 : aX xc_23 (aSeek xc_23 178) [aI a0, aI a1] [] (SH L) M o := by
            subst h
            exact ⟨3, rfl⟩
          exact aX_seg 2 (fun n g => in_ cc (g)) t32
      exact aX_seg 2 (fun n g => (congrArg (fun tt => aRun tgT gP n xc_23 (aSeek xc_23 (aTo 1 tt)) [aI a0, aI a1] [] (SH L) M) ee).trans g) t30
    by_cases cc28 : a0 = 61
    · replace h := h.2.2.2.2.2.2.2.2.2.2.2.2.2.2.2.2.2.2.2.2.2.2.2.2.2.2.2.2.1 cc28
      have ee : aTab 33 61 185 #[162, 185, 185, 185, 185, 185, 185, 145, 148, 139, 133, 185, 136, 185, 142, 185, 185, 185, 185, 185, 185, 185, 185, 185, 185, 185, 131, 173, 151] a0 = 151 := by rw [cc28]; rfl
      have t33 : aX xc_23 (aSeek xc_23 152) [aI a0, aI a1] [] (SH L) M o := by
        by_cases cc : a1 = 0
        · replace h := h.1 cc
          have t34 : aX xc_23 (aSeek xc_23 161) [aI a0, aI a1] [] (SH L) M o := by
            subst h
            exact ⟨2, rfl⟩
          exact aX_seg 2 (fun n g => ip cc (g)) t34
        · replace h := h.2 cc
          have t35 : aX xc_23 (aSeek xc_23 156) [aI a0, aI a1] [] (SH L) M o := by
            subst h
            exact ⟨3, rfl⟩
          exact aX_seg 2 (fun n g => in_ cc (g)) t35
      exact aX_seg 2 (fun n g => (congrArg (fun tt => aRun tgT gP n xc_23 (aSeek xc_23 (aTo 1 tt)) [aI a0, aI a1] [] (SH L) M) ee).trans g) t33
    replace h := h.2.2.2.2.2.2.2.2.2.2.2.2.2.2.2.2.2.2.2.2.2.2.2.2.2.2.2.2.2 cc0 cc1 cc2 cc3 cc4 cc5 cc6 cc7 cc8 cc9 cc10 cc11 cc12 cc13 cc14 cc15 cc16 cc17 cc18 cc19 cc20 cc21 cc22 cc23 cc24 cc25 cc26 cc27 cc28
    have ee : aTab 33 61 185 #[162, 185, 185, 185, 185, 185, 185, 145, 148, 139, 133, 185, 136, 185, 142, 185, 185, 185, 185, 185, 185, 185, 185, 185, 185, 185, 131, 173, 151] a0 = 185 := by unfold aTab; rw [if_pos (by omega)]
    have t36 : aX xc_23 (aSeek xc_23 186) [aI a0, aI a1] [] (SH L) M o := by
      subst h
      exact ⟨2, rfl⟩
    exact aX_seg 2 (fun n g => (congrArg (fun tt => aRun tgT gP n xc_23 (aSeek xc_23 (aTo 1 tt)) [aI a0, aI a1] [] (SH L) M) ee).trans g) t36
  exact q
/- TypeLock$Tokens.scanOne(II)I -/
set_option maxRecDepth 100000 in
theorem en_24 {L : Nat} {a1 a2 : Int} {M : aM} {o : aO} (h : ((a2 < 0 → aX xc_24 (aSeek xc_24 12) [aR 4, aI a1, aI a2, aU] [] (SH L) M o) ∧ (¬ (a2 < 0) → ((a2 < (M 4 4) → (0 ≤ a2 ∧ a2 < aLn (SH L) 3 (M 4 3)) ∧ (∃ (M1 : aM) (v2 : Int), aE 18 [aI (M (M 4 3) a2)] (SH L) M ([aI v2], (SH L), M1) ∧ ((v2 = 0 → (0 ≤ a2 ∧ a2 < aLn (SH L) 3 (M1 4 3)) ∧ (∃ (M3 : aM) (v4 : Int), aE 21 [aI (M1 (M1 4 3) a2)] (SH L) M1 ([aI v4], (SH L), M3) ∧ ((v4 = 0 → (((M3 4 4) ≤ (aW (a2 + 1)) → aX xc_24 (aSeek xc_24 86) [aR 4, aI a1, aI a2, aU] [] (SH L) M3 o) ∧ (¬ ((M3 4 4) ≤ (aW (a2 + 1))) → (0 ≤ aW (a2 + 1) ∧ aW (a2 + 1) < aLn (SH L) 3 (M3 4 3)) ∧ ((¬ (M3 (M3 4 3) (aW (a2 + 1))) = 61 → aX xc_24 (aSeek xc_24 86) [aR 4, aI a1, aI a2, aU] [] (SH L) M3 o) ∧ (¬ (¬ (M3 (M3 4 3) (aW (a2 + 1))) = 61) → aX xc_24 (aSeek xc_24 87) [aR 4, aI a1, aI a2, aU] [aI 1] (SH L) M3 o))))) ∧ (¬ (v4 = 0) → (∃ (M5 : aM) (v6 : Int), aE 22 [aR 4, aI a1, aI a2] (SH L) M3 ([aI v6], (SH L), M5) ∧ o = ([aI v6], (SH L), M5)))))) ∧ (¬ (v2 = 0) → (∃ (M7 : aM) (v8 : Int), aE 20 [aR 4, aI a1, aI a2] (SH L) M1 ([aI v8], (SH L), M7) ∧ o = ([aI v8], (SH L), M7)))))) ∧ (¬ (a2 < (M 4 4)) → aX xc_24 (aSeek xc_24 12) [aR 4, aI a1, aI a2, aU] [] (SH L) M o))))) : aE 24 [aR 4, aI a1, aI a2] (SH L) M o := by
  have q : aX xc_24 (aSeek xc_24 0) [aR 4, aI a1, aI a2, aU] [] (SH L) M o := by
    by_cases cc : a2 < 0
    · replace h := h.1 cc
      have t9 : aX xc_24 (aSeek xc_24 12) [aR 4, aI a1, aI a2, aU] [] (SH L) M o := by
        exact h
      exact aX_seg 2 (fun n g => ip cc (g)) t9
    · replace h := h.2 cc
      have t10 : aX xc_24 (aSeek xc_24 4) [aR 4, aI a1, aI a2, aU] [] (SH L) M o := by
        by_cases cc : a2 < (M 4 4)
        · replace h := h.1 cc
          have t11 : aX xc_24 (aSeek xc_24 21) [aR 4, aI a1, aI a2, aU] [] (SH L) M o := by
            obtain ⟨c12, h⟩ := h
            obtain ⟨M1, v2, k13, h⟩ := h
            have h2 : aX xc_24 (aSeek xc_24 30) [aR 4, aI a1, aI a2, aU] [aI v2] (SH L) M1 o := by
              by_cases cc : v2 = 0
              · replace h := h.1 cc
                have t14 : aX xc_24 (aSeek xc_24 40) [aR 4, aI a1, aI a2, aU] [] (SH L) M1 o := by
                  obtain ⟨c15, h⟩ := h
                  obtain ⟨M3, v4, k16, h⟩ := h
                  have h2 : aX xc_24 (aSeek xc_24 49) [aR 4, aI a1, aI a2, aU] [aI v4] (SH L) M3 o := by
                    by_cases cc : v4 = 0
                    · replace h := h.1 cc
                      have t17 : aX xc_24 (aSeek xc_24 59) [aR 4, aI a1, aI a2, aU] [] (SH L) M3 o := by
                        by_cases cc : (M3 4 4) ≤ (aW (a2 + 1))
                        · replace h := h.1 cc
                          have t18 : aX xc_24 (aSeek xc_24 86) [aR 4, aI a1, aI a2, aU] [] (SH L) M3 o := by
                            exact h
                          exact aX_seg 6 (fun n g => ip cc (g)) t18
                        · replace h := h.2 cc
                          have t19 : aX xc_24 (aSeek xc_24 69) [aR 4, aI a1, aI a2, aU] [] (SH L) M3 o := by
                            obtain ⟨c20, h⟩ := h
                            by_cases cc : ¬ (M3 (M3 4 3) (aW (a2 + 1))) = 61
                            · replace h := h.1 cc
                              have t21 : aX xc_24 (aSeek xc_24 86) [aR 4, aI a1, aI a2, aU] [] (SH L) M3 o := by
                                exact h
                              exact aX_seg 8 (fun n g => ip c20 (ip cc (g))) t21
                            · replace h := h.2 cc
                              have t22 : aX xc_24 (aSeek xc_24 82) [aR 4, aI a1, aI a2, aU] [] (SH L) M3 o := by
                                exact aX_seg 2 (fun n g => g) (h)
                              exact aX_seg 8 (fun n g => ip c20 (in_ cc (g))) t22
                          exact aX_seg 6 (fun n g => in_ cc (g)) t19
                      exact aX_seg 1 (fun n g => ip cc (g)) t17
                    · replace h := h.2 cc
                      have t23 : aX xc_24 (aSeek xc_24 52) [aR 4, aI a1, aI a2, aU] [] (SH L) M3 o := by
                        obtain ⟨M5, v6, k24, h⟩ := h
                        have h2 : aX xc_24 (aSeek xc_24 58) [aR 4, aI a1, aI a2, aU] [aI v6] (SH L) M5 o := by
                          subst h
                          exact ⟨1, rfl⟩
                        exact aX_seg 3 (fun n g => g) (aX_callv (rfl) rfl rfl rfl k24 h2)
                      exact aX_seg 1 (fun n g => in_ cc (g)) t23
                  exact aX_seg 4 (fun n g => ip c15 (g)) (aX_calls rfl rfl rfl k16 h2)
                exact aX_seg 1 (fun n g => ip cc (g)) t14
              · replace h := h.2 cc
                have t25 : aX xc_24 (aSeek xc_24 33) [aR 4, aI a1, aI a2, aU] [] (SH L) M1 o := by
                  obtain ⟨M7, v8, k26, h⟩ := h
                  have h2 : aX xc_24 (aSeek xc_24 39) [aR 4, aI a1, aI a2, aU] [aI v8] (SH L) M7 o := by
                    subst h
                    exact ⟨1, rfl⟩
                  exact aX_seg 3 (fun n g => g) (aX_callv (rfl) rfl rfl rfl k26 h2)
                exact aX_seg 1 (fun n g => in_ cc (g)) t25
            exact aX_seg 4 (fun n g => ip c12 (g)) (aX_calls rfl rfl rfl k13 h2)
          exact aX_seg 4 (fun n g => ip cc (g)) t11
        · replace h := h.2 cc
          have t27 : aX xc_24 (aSeek xc_24 12) [aR 4, aI a1, aI a2, aU] [] (SH L) M o := by
            exact h
          exact aX_seg 4 (fun n g => in_ cc (g)) t27
      exact aX_seg 2 (fun n g => in_ cc (g)) t10
  exact q
set_option maxRecDepth 100000 in
theorem bl_24_12 {L : Nat} {a1 a2 : Int} {M : aM} {o : aO} (h : (0 ≤ a1 ∧ a1 < aLn (SH L) 1 5) ∧ o = ([aI a2], (SH L), aSet M 5 a1 0)) : aX xc_24 (aSeek xc_24 12) [aR 4, aI a1, aI a2, aU] [] (SH L) M o := by
  obtain ⟨c1, h⟩ := h
  subst h
  exact ⟨7, ip c1 (rfl)⟩
set_option maxRecDepth 100000 in
theorem bl_24_86 {L : Nat} {a1 a2 : Int} {M : aM} {o : aO} (h : aX xc_24 (aSeek xc_24 87) [aR 4, aI a1, aI a2, aU] [aI 0] (SH L) M o) : aX xc_24 (aSeek xc_24 86) [aR 4, aI a1, aI a2, aU] [] (SH L) M o := by
  exact aX_seg 1 (fun n g => g) (h)
set_option maxRecDepth 100000 in
theorem bl_24_87 {L : Nat} {a1 a2 b0 : Int} {M : aM} {o : aO} (h : (0 ≤ a2 ∧ a2 < aLn (SH L) 3 (M 4 3)) ∧ (∃ (M1 : aM) (v2 : Int), aE 23 [aI (M (M 4 3) a2), aI b0] (SH L) M ([aI v2], (SH L), M1) ∧ (0 ≤ a1 ∧ a1 < aLn (SH L) 1 5) ∧ (0 ≤ a1 ∧ a1 < aLn (SH L) 1 5) ∧ ((((aSet M1 5 a1 v2) 5 a1) < 10 → o = ([aI (aW (a2 + 1))], (SH L), aSet M1 5 a1 v2)) ∧ (¬ (((aSet M1 5 a1 v2) 5 a1) < 10) → (0 ≤ a1 ∧ a1 < aLn (SH L) 1 5) ∧ ((13 < ((aSet M1 5 a1 v2) 5 a1) → o = ([aI (aW (a2 + 1))], (SH L), aSet M1 5 a1 v2)) ∧ (¬ (13 < ((aSet M1 5 a1 v2) 5 a1)) → (0 ≤ a1 ∧ a1 < aLn (SH L) 1 5) ∧ ((((aSet M1 5 a1 v2) 5 a1) = 12 → o = ([aI (aW (a2 + 1))], (SH L), aSet M1 5 a1 v2)) ∧ (¬ (((aSet M1 5 a1 v2) 5 a1) = 12) → o = ([aI (aW (a2 + 2))], (SH L), aSet M1 5 a1 v2))))))))) : aX xc_24 (aSeek xc_24 87) [aR 4, aI a1, aI a2, aU] [aI b0] (SH L) M o := by
  obtain ⟨c3, h⟩ := h
  obtain ⟨M1, v2, k4, h⟩ := h
  have h2 : aX xc_24 (aSeek xc_24 103) [aR 4, aI a1, aI a2, aI b0] [aI v2, aI a1, aR 5] (SH L) M1 o := by
    obtain ⟨c5, h⟩ := h
    obtain ⟨c6, h⟩ := h
    by_cases cc : ((aSet M1 5 a1 v2) 5 a1) < 10
    · replace h := h.1 cc
      have t7 : aX xc_24 (aSeek xc_24 143) [aR 4, aI a1, aI a2, aI b0] [] (SH L) (aSet M1 5 a1 v2) o := by
        subst h
        exact ⟨4, rfl⟩
      exact aX_seg 7 (fun n g => ip c5 (ip c6 (ip cc (g)))) t7
    · replace h := h.2 cc
      have t8 : aX xc_24 (aSeek xc_24 115) [aR 4, aI a1, aI a2, aI b0] [] (SH L) (aSet M1 5 a1 v2) o := by
        obtain ⟨c9, h⟩ := h
        by_cases cc : 13 < ((aSet M1 5 a1 v2) 5 a1)
        · replace h := h.1 cc
          have t10 : aX xc_24 (aSeek xc_24 143) [aR 4, aI a1, aI a2, aI b0] [] (SH L) (aSet M1 5 a1 v2) o := by
            subst h
            exact ⟨4, rfl⟩
          exact aX_seg 6 (fun n g => ip c9 (ip cc (g))) t10
        · replace h := h.2 cc
          have t11 : aX xc_24 (aSeek xc_24 126) [aR 4, aI a1, aI a2, aI b0] [] (SH L) (aSet M1 5 a1 v2) o := by
            obtain ⟨c12, h⟩ := h
            by_cases cc : ((aSet M1 5 a1 v2) 5 a1) = 12
            · replace h := h.1 cc
              have t13 : aX xc_24 (aSeek xc_24 143) [aR 4, aI a1, aI a2, aI b0] [] (SH L) (aSet M1 5 a1 v2) o := by
                subst h
                exact ⟨4, rfl⟩
              exact aX_seg 6 (fun n g => ip c12 (ip cc (g))) t13
            · replace h := h.2 cc
              have t14 : aX xc_24 (aSeek xc_24 137) [aR 4, aI a1, aI a2, aI b0] [] (SH L) (aSet M1 5 a1 v2) o := by
                subst h
                exact ⟨5, rfl⟩
              exact aX_seg 6 (fun n g => ip c12 (in_ cc (g))) t14
          exact aX_seg 6 (fun n g => ip c9 (in_ cc (g))) t11
      exact aX_seg 7 (fun n g => ip c5 (ip c6 (in_ cc (g)))) t8
  exact aX_seg 9 (fun n g => ip c3 (g)) (aX_calls rfl rfl rfl k4 h2)
/- TypeLock$Tokens.scan([BI)V -/
set_option maxRecDepth 100000 in
theorem en_25 {L : Nat} {a1 a2 : Int} {M : aM} {o : aO} (h : (aK (SH L) 4 = 20 ∧ -1 ≤ (a1 : Int)) ∧ (aK (SH L) a1 = 3) ∧ aX xc_25 (aSeek xc_25 20) [aR 4, aU, aU, aI 0, aI 0] [] (SH L) (aSet (aSet M 4 3 a1) 4 4 (min a2 (aL (SH L) a1))) o) : aE 25 [aR 4, aR a1, aI a2] (SH L) M o := by
  have q : aX xc_25 (aSeek xc_25 0) [aR 4, aR a1, aI a2, aU, aU] [] (SH L) M o := by
    obtain ⟨c1, h⟩ := h
    obtain ⟨c2, h⟩ := h
    exact aX_seg 13 (fun n g => ip c1 (ip c2 (g))) (aX_le (ls := [aR 4, aU, aU, aI 0, aI 0]) (ls1 := [aR 4, aR a1, aI a2, aI 0, aI 0]) (⟨Or.inr rfl, ⟨Or.inl rfl, ⟨Or.inl rfl, ⟨Or.inr rfl, ⟨Or.inr rfl, trivial⟩⟩⟩⟩⟩) h)
  exact q
set_option maxRecDepth 100000 in
theorem bl_25_20 {L : Nat} {a3 a4 : Int} {M : aM} {o : aO} (h : ((400 < a4 → o = ([], (SH L), M)) ∧ (¬ (400 < a4) → (∃ (M1 : aM) (v2 : Int), aE 17 [aR 4, aI a3] (SH L) M ([aI v2], (SH L), M1) ∧ (0 ≤ a4 ∧ a4 < aLn (SH L) 1 6) ∧ (0 ≤ a4 ∧ a4 < aLn (SH L) 2 7) ∧ (∃ (M3 : aM) (v4 : Int), aE 24 [aR 4, aI a4, aI v2] (SH L) (aSet (aSet M1 6 a4 v2) 7 a4 0) ([aI v4], (SH L), M3) ∧ (0 ≤ a4 ∧ a4 < aLn (SH L) 1 5) ∧ (((M3 5 a4) = 0 → o = ([], (SH L), M3)) ∧ (¬ ((M3 5 a4) = 0) → (0 ≤ a4 ∧ a4 < aLn (SH L) 1 5) ∧ ((¬ (M3 5 a4) = 1 → aX xc_25 (aSeek xc_25 20) [aR 4, aU, aU, aI v4, aI (aW (a4 + 1))] [] (SH L) M3 o) ∧ (¬ (¬ (M3 5 a4) = 1) → o = ([], (SH L), M3)))))))))) : aX xc_25 (aSeek xc_25 20) [aR 4, aU, aU, aI a3, aI a4] [] (SH L) M o := by
  by_cases cc : 400 < a4
  · replace h := h.1 cc
    have t5 : aX xc_25 (aSeek xc_25 86) [aR 4, aU, aU, aI a3, aI a4] [] (SH L) M o := by
      subst h
      exact ⟨1, rfl⟩
    exact aX_seg 3 (fun n g => ip cc (g)) t5
  · replace h := h.2 cc
    have t6 : aX xc_25 (aSeek xc_25 28) [aR 4, aU, aU, aI a3, aI a4] [] (SH L) M o := by
      obtain ⟨M1, v2, k7, h⟩ := h
      have h2 : aX xc_25 (aSeek xc_25 33) [aR 4, aU, aU, aI a3, aI a4] [aI v2] (SH L) M1 o := by
        obtain ⟨c8, h⟩ := h
        obtain ⟨c9, h⟩ := h
        obtain ⟨M3, v4, k10, h⟩ := h
        have h2 : aX xc_25 (aSeek xc_25 57) [aR 4, aU, aU, aI v2, aI a4] [aI v4] (SH L) M3 o := by
          obtain ⟨c11, h⟩ := h
          by_cases cc : (M3 5 a4) = 0
          · replace h := h.1 cc
            have t12 : aX xc_25 (aSeek xc_25 79) [aR 4, aU, aU, aI v4, aI a4] [] (SH L) M3 o := by
              subst h
              exact ⟨1, rfl⟩
            exact aX_seg 6 (fun n g => ip c11 (ip cc (g))) t12
          · replace h := h.2 cc
            have t13 : aX xc_25 (aSeek xc_25 68) [aR 4, aU, aU, aI v4, aI a4] [] (SH L) M3 o := by
              obtain ⟨c14, h⟩ := h
              by_cases cc : ¬ (M3 5 a4) = 1
              · replace h := h.1 cc
                have t15 : aX xc_25 (aSeek xc_25 80) [aR 4, aU, aU, aI v4, aI a4] [] (SH L) M3 o := by
                  exact aX_seg 2 (fun n g => g) (h)
                exact aX_seg 6 (fun n g => ip c14 (ip cc (g))) t15
              · replace h := h.2 cc
                have t16 : aX xc_25 (aSeek xc_25 79) [aR 4, aU, aU, aI v4, aI a4] [] (SH L) M3 o := by
                  subst h
                  exact ⟨1, rfl⟩
                exact aX_seg 6 (fun n g => ip c14 (in_ cc (g))) t16
            exact aX_seg 6 (fun n g => ip c11 (in_ cc (g))) t13
        exact aX_seg 14 (fun n g => ip c8 (ip c9 (g))) (aX_callv (rfl) rfl rfl rfl k10 h2)
      exact aX_seg 2 (fun n g => g) (aX_callv (rfl) rfl rfl rfl k7 h2)
    exact aX_seg 3 (fun n g => in_ cc (g)) t6
/- TypeLock$Reader.type()I -/
set_option maxRecDepth 100000 in
theorem en_26 {L : Nat} {M : aM} {o : aO} (h : (((aL (SH L) 5) ≤ (M 3 4) → o = ([aI 0], (SH L), M)) ∧ (¬ ((aL (SH L) 5) ≤ (M 3 4)) → (0 ≤ M 3 4 ∧ M 3 4 < aLn (SH L) 1 5) ∧ o = ([aI (M 5 (M 3 4))], (SH L), M)))) : aE 26 [aR 3] (SH L) M o := by
  have q : aX xc_26 (aSeek xc_26 0) [aR 3] [] (SH L) M o := by
    by_cases cc : (aL (SH L) 5) ≤ (M 3 4)
    · replace h := h.1 cc
      have t1 : aX xc_26 (aSeek xc_26 30) [aR 3] [] (SH L) M o := by
        subst h
        exact ⟨2, rfl⟩
      exact aX_seg 7 (fun n g => ip cc (g)) t1
    · replace h := h.2 cc
      have t2 : aX xc_26 (aSeek xc_26 15) [aR 3] [] (SH L) M o := by
        obtain ⟨c3, h⟩ := h
        subst h
        exact ⟨8, ip c3 (rfl)⟩
      exact aX_seg 7 (fun n g => in_ cc (g)) t2
  exact q
/- TypeLock$Reader.placeOfNext()I -/
set_option maxRecDepth 100000 in
theorem en_27 {L : Nat} {M : aM} {o : aO} (h : (((aL (SH L) 6) ≤ (M 3 4) → o = ([aI 0], (SH L), M)) ∧ (¬ ((aL (SH L) 6) ≤ (M 3 4)) → (0 ≤ M 3 4 ∧ M 3 4 < aLn (SH L) 1 6) ∧ o = ([aI (M 6 (M 3 4))], (SH L), M)))) : aE 27 [aR 3] (SH L) M o := by
  have q : aX xc_27 (aSeek xc_27 0) [aR 3] [] (SH L) M o := by
    by_cases cc : (aL (SH L) 6) ≤ (M 3 4)
    · replace h := h.1 cc
      have t1 : aX xc_27 (aSeek xc_27 30) [aR 3] [] (SH L) M o := by
        subst h
        exact ⟨2, rfl⟩
      exact aX_seg 7 (fun n g => ip cc (g)) t1
    · replace h := h.2 cc
      have t2 : aX xc_27 (aSeek xc_27 15) [aR 3] [] (SH L) M o := by
        obtain ⟨c3, h⟩ := h
        subst h
        exact ⟨8, ip c3 (rfl)⟩
      exact aX_seg 7 (fun n g => in_ cc (g)) t2
  exact q
/- TypeLock$Reader.fail(II)V -/
set_option maxRecDepth 100000 in
theorem en_28 {L : Nat} {a1 a2 : Int} {M : aM} {o : aO} (h : ((¬ (M 3 0) = 0 → o = ([], (SH L), M)) ∧ (¬ (¬ (M 3 0) = 0) → o = ([], (SH L), aSet (aSet M 3 0 a1) 3 1 a2)))) : aE 28 [aR 3, aI a1, aI a2] (SH L) M o := by
  have q : aX xc_28 (aSeek xc_28 0) [aR 3, aI a1, aI a2] [] (SH L) M o := by
    by_cases cc : ¬ (M 3 0) = 0
    · replace h := h.1 cc
      have t1 : aX xc_28 (aSeek xc_28 17) [aR 3, aI a1, aI a2] [] (SH L) M o := by
        subst h
        exact ⟨1, rfl⟩
      exact aX_seg 3 (fun n g => ip cc (g)) t1
    · replace h := h.2 cc
      have t2 : aX xc_28 (aSeek xc_28 7) [aR 3, aI a1, aI a2] [] (SH L) M o := by
        subst h
        exact ⟨7, rfl⟩
      exact aX_seg 3 (fun n g => in_ cc (g)) t2
  exact q
/- TypeLock$Reader.pass(I)Z -/
set_option maxRecDepth 100000 in
theorem en_29 {L : Nat} {a1 : Int} {M : aM} {o : aO} (h : (((M 3 0) = 0 → (∃ (M1 : aM) (v2 : Int), aE 26 [aR 3] (SH L) M ([aI v2], (SH L), M1) ∧ ((v2 = a1 → (((M1 3 4) < 400 → o = ([aI 1], (SH L), aSet M1 3 4 (aW ((M1 3 4) + 1)))) ∧ (¬ ((M1 3 4) < 400) → (∃ (M3 : aM) (v4 : Int), aE 27 [aR 3] (SH L) M1 ([aI v4], (SH L), M3) ∧ (∃ (M5 : aM), aE 28 [aR 3, aI 2, aI v4] (SH L) M3 ([], (SH L), M5) ∧ o = ([aI 0], (SH L), M5)))))) ∧ (¬ (v2 = a1) → (∃ (M6 : aM) (v7 : Int), aE 27 [aR 3] (SH L) M1 ([aI v7], (SH L), M6) ∧ (∃ (M8 : aM), aE 28 [aR 3, aI 1, aI v7] (SH L) M6 ([], (SH L), M8) ∧ o = ([aI 0], (SH L), M8))))))) ∧ (¬ ((M 3 0) = 0) → o = ([aI 0], (SH L), M)))) : aE 29 [aR 3, aI a1] (SH L) M o := by
  have q : aX xc_29 (aSeek xc_29 0) [aR 3, aI a1] [] (SH L) M o := by
    by_cases cc : (M 3 0) = 0
    · replace h := h.1 cc
      have t9 : aX xc_29 (aSeek xc_29 9) [aR 3, aI a1] [] (SH L) M o := by
        obtain ⟨M1, v2, k10, h⟩ := h
        have h2 : aX xc_29 (aSeek xc_29 13) [aR 3, aI a1] [aI v2] (SH L) M1 o := by
          by_cases cc : v2 = a1
          · replace h := h.1 cc
            have t11 : aX xc_29 (aSeek xc_29 28) [aR 3, aI a1] [] (SH L) M1 o := by
              by_cases cc : (M1 3 4) < 400
              · replace h := h.1 cc
                have t12 : aX xc_29 (aSeek xc_29 49) [aR 3, aI a1] [] (SH L) M1 o := by
                  subst h
                  exact ⟨8, rfl⟩
                exact aX_seg 4 (fun n g => ip cc (g)) t12
              · replace h := h.2 cc
                have t13 : aX xc_29 (aSeek xc_29 38) [aR 3, aI a1] [] (SH L) M1 o := by
                  obtain ⟨M3, v4, k14, h⟩ := h
                  have h2 : aX xc_29 (aSeek xc_29 44) [aR 3, aI a1] [aI v4, aI 2, aR 3] (SH L) M3 o := by
                    obtain ⟨M5, k15, h⟩ := h
                    have h2 : aX xc_29 (aSeek xc_29 47) [aR 3, aI a1] [] (SH L) M5 o := by
                      subst h
                      exact ⟨2, rfl⟩
                    exact aX_callv (rfl) rfl rfl rfl k15 h2
                  exact aX_seg 3 (fun n g => g) (aX_callv (rfl) rfl rfl rfl k14 h2)
                exact aX_seg 4 (fun n g => in_ cc (g)) t13
            exact aX_seg 2 (fun n g => ip cc (g)) t11
          · replace h := h.2 cc
            have t16 : aX xc_29 (aSeek xc_29 17) [aR 3, aI a1] [] (SH L) M1 o := by
              obtain ⟨M6, v7, k17, h⟩ := h
              have h2 : aX xc_29 (aSeek xc_29 23) [aR 3, aI a1] [aI v7, aI 1, aR 3] (SH L) M6 o := by
                obtain ⟨M8, k18, h⟩ := h
                have h2 : aX xc_29 (aSeek xc_29 26) [aR 3, aI a1] [] (SH L) M8 o := by
                  subst h
                  exact ⟨2, rfl⟩
                exact aX_callv (rfl) rfl rfl rfl k18 h2
              exact aX_seg 3 (fun n g => g) (aX_callv (rfl) rfl rfl rfl k17 h2)
            exact aX_seg 2 (fun n g => in_ cc (g)) t16
        exact aX_seg 1 (fun n g => g) (aX_callv (rfl) rfl rfl rfl k10 h2)
      exact aX_seg 3 (fun n g => ip cc (g)) t9
    · replace h := h.2 cc
      have t19 : aX xc_29 (aSeek xc_29 7) [aR 3, aI a1] [] (SH L) M o := by
        subst h
        exact ⟨2, rfl⟩
      exact aX_seg 3 (fun n g => in_ cc (g)) t19
  exact q
/- TypeLock$Reader.value()J -/
set_option maxRecDepth 100000 in
theorem en_30 {L : Nat} {M : aM} {o : aO} (h : (((aL (SH L) 7) ≤ (M 3 4) → o = ([aJ 0], (SH L), M)) ∧ (¬ ((aL (SH L) 7) ≤ (M 3 4)) → (0 ≤ M 3 4 ∧ M 3 4 < aLn (SH L) 2 7) ∧ o = ([aJ (M 7 (M 3 4))], (SH L), M)))) : aE 30 [aR 3] (SH L) M o := by
  have q : aX xc_30 (aSeek xc_30 0) [aR 3] [] (SH L) M o := by
    by_cases cc : (aL (SH L) 7) ≤ (M 3 4)
    · replace h := h.1 cc
      have t1 : aX xc_30 (aSeek xc_30 30) [aR 3] [] (SH L) M o := by
        subst h
        exact ⟨2, rfl⟩
      exact aX_seg 7 (fun n g => ip cc (g)) t1
    · replace h := h.2 cc
      have t2 : aX xc_30 (aSeek xc_30 15) [aR 3] [] (SH L) M o := by
        obtain ⟨c3, h⟩ := h
        subst h
        exact ⟨8, ip c3 (rfl)⟩
      exact aX_seg 7 (fun n g => in_ cc (g)) t2
  exact q
/- TypeLock$Reader.blame(II)V -/
set_option maxRecDepth 100000 in
theorem en_31 {L : Nat} {a1 a2 : Int} {M : aM} {o : aO} (h : ((¬ (M 3 5) = 0 → o = ([], (SH L), M)) ∧ (¬ (¬ (M 3 5) = 0) → o = ([], (SH L), aSet (aSet M 3 5 a1) 3 6 a2)))) : aE 31 [aR 3, aI a1, aI a2] (SH L) M o := by
  have q : aX xc_31 (aSeek xc_31 0) [aR 3, aI a1, aI a2] [] (SH L) M o := by
    by_cases cc : ¬ (M 3 5) = 0
    · replace h := h.1 cc
      have t1 : aX xc_31 (aSeek xc_31 17) [aR 3, aI a1, aI a2] [] (SH L) M o := by
        subst h
        exact ⟨1, rfl⟩
      exact aX_seg 3 (fun n g => ip cc (g)) t1
    · replace h := h.2 cc
      have t2 : aX xc_31 (aSeek xc_31 7) [aR 3, aI a1, aI a2] [] (SH L) M o := by
        subst h
        exact ⟨7, rfl⟩
      exact aX_seg 3 (fun n g => in_ cc (g)) t2
  exact q
/- TypeLock$Reader.parseInt(II)I -/
set_option maxRecDepth 100000 in
theorem en_32 {L : Nat} {a1 a2 : Int} {M : aM} {o : aO} (h : (∃ (M1 : aM) (v2 : Int), aE 30 [aR 3] (SH L) M ([aJ v2], (SH L), M1) ∧ (∃ (M3 : aM) (v4 : Int), aE 27 [aR 3] (SH L) M1 ([aI v4], (SH L), M3) ∧ (∃ (M5 : aM) (v6 : Int), aE 29 [aR 3, aI 3] (SH L) M3 ([aI v6], (SH L), M5) ∧ ((v6 = 0 → o = ([aI (aW v2)], (SH L), M5)) ∧ (¬ (v6 = 0) → (((aW v2) < a1 → aX xc_32 (aSeek xc_32 30) [aR 3, aU, aU, aI (aW v2), aI v4] [] (SH L) M5 o) ∧ (¬ ((aW v2) < a1) → (((aW v2) ≤ a2 → o = ([aI (aW v2)], (SH L), M5)) ∧ (¬ ((aW v2) ≤ a2) → aX xc_32 (aSeek xc_32 30) [aR 3, aU, aU, aI (aW v2), aI v4] [] (SH L) M5 o)))))))))) : aE 32 [aR 3, aI a1, aI a2] (SH L) M o := by
  have q : aX xc_32 (aSeek xc_32 0) [aR 3, aI a1, aI a2, aU, aU] [] (SH L) M o := by
    obtain ⟨M1, v2, k7, h⟩ := h
    have h2 : aX xc_32 (aSeek xc_32 4) [aR 3, aI a1, aI a2, aU, aU] [aJ v2] (SH L) M1 o := by
      obtain ⟨M3, v4, k8, h⟩ := h
      have h2 : aX xc_32 (aSeek xc_32 10) [aR 3, aI a1, aI a2, aI (aW v2), aU] [aI v4] (SH L) M3 o := by
        obtain ⟨M5, v6, k9, h⟩ := h
        have h2 : aX xc_32 (aSeek xc_32 17) [aR 3, aI a1, aI a2, aI (aW v2), aI v4] [aI v6] (SH L) M5 o := by
          by_cases cc : v6 = 0
          · replace h := h.1 cc
            have t10 : aX xc_32 (aSeek xc_32 37) [aR 3, aI a1, aI a2, aI (aW v2), aI v4] [] (SH L) M5 o := by
              subst h
              exact ⟨2, rfl⟩
            exact aX_seg 1 (fun n g => ip cc (g)) t10
          · replace h := h.2 cc
            have t11 : aX xc_32 (aSeek xc_32 20) [aR 3, aI a1, aI a2, aI (aW v2), aI v4] [] (SH L) M5 o := by
              by_cases cc : (aW v2) < a1
              · replace h := h.1 cc
                have t12 : aX xc_32 (aSeek xc_32 30) [aR 3, aI a1, aI a2, aI (aW v2), aI v4] [] (SH L) M5 o := by
                  exact aX_le (ls := [aR 3, aU, aU, aI (aW v2), aI v4]) (ls1 := [aR 3, aI a1, aI a2, aI (aW v2), aI v4]) (⟨Or.inr rfl, ⟨Or.inl rfl, ⟨Or.inl rfl, ⟨Or.inr rfl, ⟨Or.inr rfl, trivial⟩⟩⟩⟩⟩) h
                exact aX_seg 3 (fun n g => ip cc (g)) t12
              · replace h := h.2 cc
                have t13 : aX xc_32 (aSeek xc_32 25) [aR 3, aI a1, aI a2, aI (aW v2), aI v4] [] (SH L) M5 o := by
                  by_cases cc : (aW v2) ≤ a2
                  · replace h := h.1 cc
                    have t14 : aX xc_32 (aSeek xc_32 37) [aR 3, aI a1, aI a2, aI (aW v2), aI v4] [] (SH L) M5 o := by
                      subst h
                      exact ⟨2, rfl⟩
                    exact aX_seg 3 (fun n g => ip cc (g)) t14
                  · replace h := h.2 cc
                    have t15 : aX xc_32 (aSeek xc_32 30) [aR 3, aI a1, aI a2, aI (aW v2), aI v4] [] (SH L) M5 o := by
                      exact aX_le (ls := [aR 3, aU, aU, aI (aW v2), aI v4]) (ls1 := [aR 3, aI a1, aI a2, aI (aW v2), aI v4]) (⟨Or.inr rfl, ⟨Or.inl rfl, ⟨Or.inl rfl, ⟨Or.inr rfl, ⟨Or.inr rfl, trivial⟩⟩⟩⟩⟩) h
                    exact aX_seg 3 (fun n g => in_ cc (g)) t15
                exact aX_seg 3 (fun n g => in_ cc (g)) t13
            exact aX_seg 1 (fun n g => in_ cc (g)) t11
        exact aX_seg 3 (fun n g => g) (aX_callv (rfl) rfl rfl rfl k9 h2)
      exact aX_seg 3 (fun n g => g) (aX_callv (rfl) rfl rfl rfl k8 h2)
    exact aX_seg 1 (fun n g => g) (aX_callv (rfl) rfl rfl rfl k7 h2)
  exact q
set_option maxRecDepth 100000 in
theorem bl_32_30 {L : Nat} {a3 a4 : Int} {M : aM} {o : aO} (h : (∃ (M1 : aM), aE 31 [aR 3, aI 5, aI a4] (SH L) M ([], (SH L), M1) ∧ o = ([aI a3], (SH L), M1))) : aX xc_32 (aSeek xc_32 30) [aR 3, aU, aU, aI a3, aI a4] [] (SH L) M o := by
  obtain ⟨M1, k2, h⟩ := h
  have h2 : aX xc_32 (aSeek xc_32 37) [aR 3, aU, aU, aI a3, aI a4] [] (SH L) M1 o := by
    subst h
    exact ⟨2, rfl⟩
  exact aX_seg 3 (fun n g => g) (aX_callv (rfl) rfl rfl rfl k2 h2)
/- TypeLock$Reader.parseFrame()V -/
set_option maxRecDepth 100000 in
theorem en_33 {L : Nat} {M : aM} {o : aO} (h : (∃ (M1 : aM) (v2 : Int), aE 29 [aR 3, aI 25] (SH L) M ([aI v2], (SH L), M1) ∧ (∃ (M3 : aM) (v4 : Int), aE 32 [aR 3, aI 1, aI 60] (SH L) M1 ([aI v4], (SH L), M3) ∧ (aK (SH L) (M1 3 3) = 19) ∧ (∃ (M5 : aM) (v6 : Int), aE 32 [aR 3, aI 1, aI 60] (SH L) (aSet M3 (M1 3 3) 0 v4) ([aI v6], (SH L), M5) ∧ (aK (SH L) ((aSet M3 (M1 3 3) 0 v4) 3 3) = 19) ∧ o = ([], (SH L), aSet M5 ((aSet M3 (M1 3 3) 0 v4) 3 3) 1 v6))))) : aE 33 [aR 3] (SH L) M o := by
  have q : aX xc_33 (aSeek xc_33 0) [aR 3] [] (SH L) M o := by
    obtain ⟨M1, v2, k7, h⟩ := h
    have h2 : aX xc_33 (aSeek xc_33 6) [aR 3] [aI v2] (SH L) M1 o := by
      obtain ⟨M3, v4, k8, h⟩ := h
      have h2 : aX xc_33 (aSeek xc_33 18) [aR 3] [aI v4, aR (M1 3 3)] (SH L) M3 o := by
        obtain ⟨c9, h⟩ := h
        obtain ⟨M5, v6, k10, h⟩ := h
        have h2 : aX xc_33 (aSeek xc_33 32) [aR 3] [aI v6, aR ((aSet M3 (M1 3 3) 0 v4) 3 3)] (SH L) M5 o := by
          obtain ⟨c11, h⟩ := h
          subst h
          exact ⟨2, ip c11 (rfl)⟩
        exact aX_seg 6 (fun n g => ip c9 (g)) (aX_callv (rfl) rfl rfl rfl k10 h2)
      exact aX_seg 6 (fun n g => g) (aX_callv (rfl) rfl rfl rfl k8 h2)
    exact aX_seg 2 (fun n g => g) (aX_callv (rfl) rfl rfl rfl k7 h2)
  exact q
/- TypeLock$Reader.parseName()V -/
set_option maxRecDepth 100000 in
theorem en_34 {L : Nat} {M : aM} {o : aO} (h : (∃ (M1 : aM) (v2 : Int), aE 27 [aR 3] (SH L) M ([aI v2], (SH L), M1) ∧ (∃ (M3 : aM) (v4 : Int), aE 30 [aR 3] (SH L) M1 ([aJ v4], (SH L), M3) ∧ (∃ (M5 : aM) (v6 : Int), aE 29 [aR 3, aI 2] (SH L) M3 ([aI v6], (SH L), M5) ∧ ((v6 = 0 → o = ([], (SH L), M5)) ∧ (¬ (v6 = 0) → (aK (SH L) (M5 3 3) = 19) ∧ (((M5 (M5 3 3) 3) < 14 → aX xc_34 (aSeek xc_34 34) [aR 3, aI v2, aJ v4, aU, aI 0] [] (SH L) M5 o) ∧ (¬ ((M5 (M5 3 3) 3) < 14) → o = ([], (SH L), M5))))))))) : aE 34 [aR 3] (SH L) M o := by
  have q : aX xc_34 (aSeek xc_34 0) [aR 3, aU, aU, aU, aU] [] (SH L) M o := by
    obtain ⟨M1, v2, k7, h⟩ := h
    have h2 : aX xc_34 (aSeek xc_34 4) [aR 3, aU, aU, aU, aU] [aI v2] (SH L) M1 o := by
      obtain ⟨M3, v4, k8, h⟩ := h
      have h2 : aX xc_34 (aSeek xc_34 9) [aR 3, aI v2, aU, aU, aU] [aJ v4] (SH L) M3 o := by
        obtain ⟨M5, v6, k9, h⟩ := h
        have h2 : aX xc_34 (aSeek xc_34 15) [aR 3, aI v2, aJ v4, aU, aU] [aI v6] (SH L) M5 o := by
          by_cases cc : v6 = 0
          · replace h := h.1 cc
            have t10 : aX xc_34 (aSeek xc_34 30) [aR 3, aI v2, aJ v4, aU, aU] [] (SH L) M5 o := by
              subst h
              exact ⟨1, rfl⟩
            exact aX_seg 1 (fun n g => ip cc (g)) t10
          · replace h := h.2 cc
            have t11 : aX xc_34 (aSeek xc_34 18) [aR 3, aI v2, aJ v4, aU, aU] [] (SH L) M5 o := by
              obtain ⟨c12, h⟩ := h
              by_cases cc : (M5 (M5 3 3) 3) < 14
              · replace h := h.1 cc
                have t13 : aX xc_34 (aSeek xc_34 31) [aR 3, aI v2, aJ v4, aU, aU] [] (SH L) M5 o := by
                  exact aX_seg 2 (fun n g => g) (h)
                exact aX_seg 5 (fun n g => ip c12 (ip cc (g))) t13
              · replace h := h.2 cc
                have t14 : aX xc_34 (aSeek xc_34 30) [aR 3, aI v2, aJ v4, aU, aU] [] (SH L) M5 o := by
                  subst h
                  exact ⟨1, rfl⟩
                exact aX_seg 5 (fun n g => ip c12 (in_ cc (g))) t14
            exact aX_seg 1 (fun n g => in_ cc (g)) t11
        exact aX_seg 3 (fun n g => g) (aX_callv (rfl) rfl rfl rfl k9 h2)
      exact aX_seg 2 (fun n g => g) (aX_callv (rfl) rfl rfl rfl k8 h2)
    exact aX_seg 1 (fun n g => g) (aX_callv (rfl) rfl rfl rfl k7 h2)
  exact q
set_option maxRecDepth 100000 in
theorem bl_34_34 {L : Nat} {a1 a2 a4 : Int} {M : aM} {o : aO} (h : (aK (SH L) (M 3 3) = 19) ∧ (((M (M 3 3) 3) ≤ a4 → (aK (SH L) (M 3 3) = 19) ∧ (aK (SH L) (M 3 3) = 19) ∧ (0 ≤ M (M 3 3) 3 ∧ M (M 3 3) 3 < aLn (SH L) 2 (aF (SH L) (M 3 3) 4)) ∧ o = ([], (SH L), aSet M (aF (SH L) (M 3 3) 4) (M (M 3 3) 3) a2)) ∧ (¬ ((M (M 3 3) 3) ≤ a4) → (aK (SH L) (M 3 3) = 19) ∧ (0 ≤ a4 ∧ a4 < aLn (SH L) 2 (aF (SH L) (M 3 3) 4)) ∧ ((¬ (aCmp (M (aF (SH L) (M 3 3) 4) a4) a2) = 0 → aX xc_34 (aSeek xc_34 67) [aR 3, aI a1, aJ a2, aU, aI a4] [] (SH L) M o) ∧ (¬ (¬ (aCmp (M (aF (SH L) (M 3 3) 4) a4) a2) = 0) → (∃ (M1 : aM), aE 31 [aR 3, aI 3, aI a1] (SH L) M ([], (SH L), M1) ∧ aX xc_34 (aSeek xc_34 67) [aR 3, aI a1, aJ a2, aU, aI a4] [] (SH L) M1 o)))))) : aX xc_34 (aSeek xc_34 34) [aR 3, aI a1, aJ a2, aU, aI a4] [] (SH L) M o := by
  obtain ⟨c2, h⟩ := h
  by_cases cc : (M (M 3 3) 3) ≤ a4
  · replace h := h.1 cc
    have t3 : aX xc_34 (aSeek xc_34 73) [aR 3, aI a1, aJ a2, aU, aI a4] [] (SH L) M o := by
      obtain ⟨c4, h⟩ := h
      obtain ⟨c5, h⟩ := h
      obtain ⟨c6, h⟩ := h
      subst h
      exact ⟨9, ip c4 (ip c5 (ip c6 (rfl)))⟩
    exact aX_seg 5 (fun n g => ip c2 (ip cc (g))) t3
  · replace h := h.2 cc
    have t7 : aX xc_34 (aSeek xc_34 46) [aR 3, aI a1, aJ a2, aU, aI a4] [] (SH L) M o := by
      obtain ⟨c8, h⟩ := h
      obtain ⟨c9, h⟩ := h
      by_cases cc : ¬ (aCmp (M (aF (SH L) (M 3 3) 4) a4) a2) = 0
      · replace h := h.1 cc
        have t10 : aX xc_34 (aSeek xc_34 67) [aR 3, aI a1, aJ a2, aU, aI a4] [] (SH L) M o := by
          exact h
        exact aX_seg 8 (fun n g => ip c8 (ip c9 (ip cc (g)))) t10
      · replace h := h.2 cc
        have t11 : aX xc_34 (aSeek xc_34 61) [aR 3, aI a1, aJ a2, aU, aI a4] [] (SH L) M o := by
          obtain ⟨M1, k12, h⟩ := h
          have h2 : aX xc_34 (aSeek xc_34 67) [aR 3, aI a1, aJ a2, aU, aI a4] [] (SH L) M1 o := by
            exact h
          exact aX_seg 3 (fun n g => g) (aX_callv (rfl) rfl rfl rfl k12 h2)
        exact aX_seg 8 (fun n g => ip c8 (ip c9 (in_ cc (g)))) t11
    exact aX_seg 5 (fun n g => ip c2 (in_ cc (g))) t7
set_option maxRecDepth 100000 in
theorem bl_34_67 {L : Nat} {a1 a2 a4 : Int} {M : aM} {o : aO} (h : aX xc_34 (aSeek xc_34 34) [aR 3, aI a1, aJ a2, aU, aI (aW (a4 + 1))] [] (SH L) M o) : aX xc_34 (aSeek xc_34 67) [aR 3, aI a1, aJ a2, aU, aI a4] [] (SH L) M o := by
  exact aX_seg 2 (fun n g => g) (h)
/- TypeLock$Reader.parseKind(I)V -/
set_option maxRecDepth 100000 in
theorem en_35 {L : Nat} {a1 : Int} {M : aM} {o : aO} (h : (aK (SH L) (M 3 3) = 19) ∧ (((M (M 3 3) 3) < 14 → (∃ (M1 : aM) (v2 : Int), aE 29 [aR 3, aI a1] (SH L) M ([aI v2], (SH L), M1) ∧ (aK (SH L) (M1 3 3) = 19) ∧ ((¬ a1 = 26 → aX xc_35 (aSeek xc_35 49) [aR 3, aI a1, aI (M (M 3 3) 3)] [aI 1, aI (M (M 3 3) 3), aR (aF (SH L) (M1 3 3) 5)] (SH L) M1 o) ∧ (¬ (¬ a1 = 26) → aX xc_35 (aSeek xc_35 49) [aR 3, aI a1, aI (M (M 3 3) 3)] [aI 0, aI (M (M 3 3) 3), aR (aF (SH L) (M1 3 3) 5)] (SH L) M1 o)))) ∧ (¬ ((M (M 3 3) 3) < 14) → (∃ (M3 : aM) (v4 : Int), aE 27 [aR 3] (SH L) M ([aI v4], (SH L), M3) ∧ (∃ (M5 : aM), aE 28 [aR 3, aI 2, aI v4] (SH L) M3 ([], (SH L), M5) ∧ o = ([], (SH L), M5)))))) : aE 35 [aR 3, aI a1] (SH L) M o := by
  have q : aX xc_35 (aSeek xc_35 0) [aR 3, aI a1, aU] [] (SH L) M o := by
    obtain ⟨c6, h⟩ := h
    by_cases cc : (M (M 3 3) 3) < 14
    · replace h := h.1 cc
      have t7 : aX xc_35 (aSeek xc_35 24) [aR 3, aI a1, aI (M (M 3 3) 3)] [] (SH L) M o := by
        obtain ⟨M1, v2, k8, h⟩ := h
        have h2 : aX xc_35 (aSeek xc_35 29) [aR 3, aI a1, aI (M (M 3 3) 3)] [aI v2] (SH L) M1 o := by
          obtain ⟨c9, h⟩ := h
          by_cases cc : ¬ a1 = 26
          · replace h := h.1 cc
            have t10 : aX xc_35 (aSeek xc_35 48) [aR 3, aI a1, aI (M (M 3 3) 3)] [aI (M (M 3 3) 3), aR (aF (SH L) (M1 3 3) 5)] (SH L) M1 o := by
              exact aX_seg 1 (fun n g => g) (h)
            exact aX_seg 8 (fun n g => ip c9 (ip cc (g))) t10
          · replace h := h.2 cc
            have t11 : aX xc_35 (aSeek xc_35 44) [aR 3, aI a1, aI (M (M 3 3) 3)] [aI (M (M 3 3) 3), aR (aF (SH L) (M1 3 3) 5)] (SH L) M1 o := by
              exact aX_seg 2 (fun n g => g) (h)
            exact aX_seg 8 (fun n g => ip c9 (in_ cc (g))) t11
        exact aX_seg 2 (fun n g => g) (aX_callv (rfl) rfl rfl rfl k8 h2)
      exact aX_seg 7 (fun n g => ip c6 (ip cc (g))) t7
    · replace h := h.2 cc
      have t12 : aX xc_35 (aSeek xc_35 14) [aR 3, aI a1, aI (M (M 3 3) 3)] [] (SH L) M o := by
        obtain ⟨M3, v4, k13, h⟩ := h
        have h2 : aX xc_35 (aSeek xc_35 20) [aR 3, aI a1, aI (M (M 3 3) 3)] [aI v4, aI 2, aR 3] (SH L) M3 o := by
          obtain ⟨M5, k14, h⟩ := h
          have h2 : aX xc_35 (aSeek xc_35 23) [aR 3, aI a1, aI (M (M 3 3) 3)] [] (SH L) M5 o := by
            subst h
            exact ⟨1, rfl⟩
          exact aX_callv (rfl) rfl rfl rfl k14 h2
        exact aX_seg 3 (fun n g => g) (aX_callv (rfl) rfl rfl rfl k13 h2)
      exact aX_seg 7 (fun n g => ip c6 (in_ cc (g))) t12
  exact q
set_option maxRecDepth 100000 in
theorem bl_35_49 {L : Nat} {a1 a2 b0 b1 b2 : Int} {M : aM} {o : aO} (h : (0 ≤ b1 ∧ b1 < aLn (SH L) 1 b0) ∧ ((¬ a1 = 27 → aX xc_35 (aSeek xc_35 106) [aR 3, aI a1, aI a2] [] (SH L) (aSet M b0 b1 b2) o) ∧ (¬ (¬ a1 = 27) → (∃ (M1 : aM) (v2 : Int), aE 26 [aR 3] (SH L) (aSet M b0 b1 b2) ([aI v2], (SH L), M1) ∧ ((v2 = 23 → aX xc_35 (aSeek xc_35 74) [aR 3, aI a1, aI a2] [] (SH L) M1 o) ∧ (¬ (v2 = 23) → (∃ (M3 : aM) (v4 : Int), aE 26 [aR 3] (SH L) M1 ([aI v4], (SH L), M3) ∧ ((¬ v4 = 24 → aX xc_35 (aSeek xc_35 106) [aR 3, aI a1, aI a2] [] (SH L) M3 o) ∧ (¬ (¬ v4 = 24) → aX xc_35 (aSeek xc_35 74) [aR 3, aI a1, aI a2] [] (SH L) M3 o))))))))) : aX xc_35 (aSeek xc_35 49) [aR 3, aI a1, aI a2] [aI b2, aI b1, aR b0] (SH L) M o := by
  obtain ⟨c5, h⟩ := h
  by_cases cc : ¬ a1 = 27
  · replace h := h.1 cc
    have t6 : aX xc_35 (aSeek xc_35 106) [aR 3, aI a1, aI a2] [] (SH L) (aSet M b0 b1 b2) o := by
      exact h
    exact aX_seg 4 (fun n g => ip c5 (ip cc (g))) t6
  · replace h := h.2 cc
    have t7 : aX xc_35 (aSeek xc_35 56) [aR 3, aI a1, aI a2] [] (SH L) (aSet M b0 b1 b2) o := by
      obtain ⟨M1, v2, k8, h⟩ := h
      have h2 : aX xc_35 (aSeek xc_35 60) [aR 3, aI a1, aI a2] [aI v2] (SH L) M1 o := by
        by_cases cc : v2 = 23
        · replace h := h.1 cc
          have t9 : aX xc_35 (aSeek xc_35 74) [aR 3, aI a1, aI a2] [] (SH L) M1 o := by
            exact h
          exact aX_seg 2 (fun n g => ip cc (g)) t9
        · replace h := h.2 cc
          have t10 : aX xc_35 (aSeek xc_35 65) [aR 3, aI a1, aI a2] [] (SH L) M1 o := by
            obtain ⟨M3, v4, k11, h⟩ := h
            have h2 : aX xc_35 (aSeek xc_35 69) [aR 3, aI a1, aI a2] [aI v4] (SH L) M3 o := by
              by_cases cc : ¬ v4 = 24
              · replace h := h.1 cc
                have t12 : aX xc_35 (aSeek xc_35 106) [aR 3, aI a1, aI a2] [] (SH L) M3 o := by
                  exact h
                exact aX_seg 2 (fun n g => ip cc (g)) t12
              · replace h := h.2 cc
                have t13 : aX xc_35 (aSeek xc_35 74) [aR 3, aI a1, aI a2] [] (SH L) M3 o := by
                  exact h
                exact aX_seg 2 (fun n g => in_ cc (g)) t13
            exact aX_seg 1 (fun n g => g) (aX_callv (rfl) rfl rfl rfl k11 h2)
          exact aX_seg 2 (fun n g => in_ cc (g)) t10
      exact aX_seg 1 (fun n g => g) (aX_callv (rfl) rfl rfl rfl k8 h2)
    exact aX_seg 4 (fun n g => ip c5 (in_ cc (g))) t7
set_option maxRecDepth 100000 in
theorem bl_35_74 {L : Nat} {a1 a2 : Int} {M : aM} {o : aO} (h : (aK (SH L) (M 3 3) = 19) ∧ (∃ (M1 : aM) (v2 : Int), aE 26 [aR 3] (SH L) M ([aI v2], (SH L), M1) ∧ ((¬ v2 = 23 → aX xc_35 (aSeek xc_35 96) [aR 3, aI a1, aI a2] [aI 3, aI a2, aR (aF (SH L) (M 3 3) 5)] (SH L) M1 o) ∧ (¬ (¬ v2 = 23) → aX xc_35 (aSeek xc_35 96) [aR 3, aI a1, aI a2] [aI 2, aI a2, aR (aF (SH L) (M 3 3) 5)] (SH L) M1 o)))) : aX xc_35 (aSeek xc_35 74) [aR 3, aI a1, aI a2] [] (SH L) M o := by
  obtain ⟨c3, h⟩ := h
  obtain ⟨M1, v2, k4, h⟩ := h
  have h2 : aX xc_35 (aSeek xc_35 86) [aR 3, aI a1, aI a2] [aI v2, aI a2, aR (aF (SH L) (M 3 3) 5)] (SH L) M1 o := by
    by_cases cc : ¬ v2 = 23
    · replace h := h.1 cc
      have t5 : aX xc_35 (aSeek xc_35 95) [aR 3, aI a1, aI a2] [aI a2, aR (aF (SH L) (M 3 3) 5)] (SH L) M1 o := by
        exact aX_seg 1 (fun n g => g) (h)
      exact aX_seg 2 (fun n g => ip cc (g)) t5
    · replace h := h.2 cc
      have t6 : aX xc_35 (aSeek xc_35 91) [aR 3, aI a1, aI a2] [aI a2, aR (aF (SH L) (M 3 3) 5)] (SH L) M1 o := by
        exact aX_seg 2 (fun n g => g) (h)
      exact aX_seg 2 (fun n g => in_ cc (g)) t6
  exact aX_seg 5 (fun n g => ip c3 (g)) (aX_callv (rfl) rfl rfl rfl k4 h2)
set_option maxRecDepth 100000 in
theorem bl_35_96 {L : Nat} {a1 a2 b0 b1 b2 : Int} {M : aM} {o : aO} (h : (0 ≤ b1 ∧ b1 < aLn (SH L) 1 b0) ∧ (∃ (M1 : aM) (v2 : Int), aE 26 [aR 3] (SH L) (aSet M b0 b1 b2) ([aI v2], (SH L), M1) ∧ (∃ (M3 : aM) (v4 : Int), aE 29 [aR 3, aI v2] (SH L) M1 ([aI v4], (SH L), M3) ∧ aX xc_35 (aSeek xc_35 106) [aR 3, aI a1, aI a2] [] (SH L) M3 o))) : aX xc_35 (aSeek xc_35 96) [aR 3, aI a1, aI a2] [aI b2, aI b1, aR b0] (SH L) M o := by
  obtain ⟨c5, h⟩ := h
  obtain ⟨M1, v2, k6, h⟩ := h
  have h2 : aX xc_35 (aSeek xc_35 102) [aR 3, aI a1, aI a2] [aI v2, aR 3] (SH L) M1 o := by
    obtain ⟨M3, v4, k7, h⟩ := h
    have h2 : aX xc_35 (aSeek xc_35 105) [aR 3, aI a1, aI a2] [aI v4] (SH L) M3 o := by
      exact aX_seg 1 (fun n g => g) (h)
    exact aX_callv (rfl) rfl rfl rfl k7 h2
  exact aX_seg 3 (fun n g => ip c5 (g)) (aX_callv (rfl) rfl rfl rfl k6 h2)
set_option maxRecDepth 100000 in
theorem bl_35_106 {L : Nat} {a1 a2 : Int} {M : aM} {o : aO} (h : (∃ (M1 : aM), aE 34 [aR 3] (SH L) M ([], (SH L), M1) ∧ (aK (SH L) (M1 3 3) = 19) ∧ (∃ (M2 : aM) (v3 : Int), aE 32 [aR 3, aI 1, aI 60] (SH L) M1 ([aI v3], (SH L), M2) ∧ (0 ≤ a2 ∧ a2 < aLn (SH L) 1 (aF (SH L) (M1 3 3) 6)) ∧ (aK (SH L) ((aSet M2 (aF (SH L) (M1 3 3) 6) a2 v3) 3 3) = 19) ∧ (∃ (M4 : aM) (v5 : Int), aE 32 [aR 3, aI 1, aI 60] (SH L) (aSet M2 (aF (SH L) (M1 3 3) 6) a2 v3) ([aI v5], (SH L), M4) ∧ (0 ≤ a2 ∧ a2 < aLn (SH L) 1 (aF (SH L) ((aSet M2 (aF (SH L) (M1 3 3) 6) a2 v3) 3 3) 7)) ∧ (aK (SH L) ((aSet M4 (aF (SH L) ((aSet M2 (aF (SH L) (M1 3 3) 6) a2 v3) 3 3) 7) a2 v5) 3 3) = 19) ∧ ((¬ a1 = 27 → aX xc_35 (aSeek xc_35 167) [aR 3, aU, aU] [aI 1, aI a2, aR (aF (SH L) ((aSet M4 (aF (SH L) ((aSet M2 (aF (SH L) (M1 3 3) 6) a2 v3) 3 3) 7) a2 v5) 3 3) 8)] (SH L) (aSet M4 (aF (SH L) ((aSet M2 (aF (SH L) (M1 3 3) 6) a2 v3) 3 3) 7) a2 v5) o) ∧ (¬ (¬ a1 = 27) → (∃ (M6 : aM) (v7 : Int), aE 32 [aR 3, aI 0, aI 99] (SH L) (aSet M4 (aF (SH L) ((aSet M2 (aF (SH L) (M1 3 3) 6) a2 v3) 3 3) 7) a2 v5) ([aI v7], (SH L), M6) ∧ aX xc_35 (aSeek xc_35 167) [aR 3, aU, aU] [aI v7, aI a2, aR (aF (SH L) ((aSet M4 (aF (SH L) ((aSet M2 (aF (SH L) (M1 3 3) 6) a2 v3) 3 3) 7) a2 v5) 3 3) 8)] (SH L) M6 o))))))) : aX xc_35 (aSeek xc_35 106) [aR 3, aI a1, aI a2] [] (SH L) M o := by
  obtain ⟨M1, k8, h⟩ := h
  have h2 : aX xc_35 (aSeek xc_35 110) [aR 3, aI a1, aI a2] [] (SH L) M1 o := by
    obtain ⟨c9, h⟩ := h
    obtain ⟨M2, v3, k10, h⟩ := h
    have h2 : aX xc_35 (aSeek xc_35 125) [aR 3, aI a1, aI a2] [aI v3, aI a2, aR (aF (SH L) (M1 3 3) 6)] (SH L) M2 o := by
      obtain ⟨c11, h⟩ := h
      obtain ⟨c12, h⟩ := h
      obtain ⟨M4, v5, k13, h⟩ := h
      have h2 : aX xc_35 (aSeek xc_35 141) [aR 3, aI a1, aI a2] [aI v5, aI a2, aR (aF (SH L) ((aSet M2 (aF (SH L) (M1 3 3) 6) a2 v3) 3 3) 7)] (SH L) M4 o := by
        obtain ⟨c14, h⟩ := h
        obtain ⟨c15, h⟩ := h
        by_cases cc : ¬ a1 = 27
        · replace h := h.1 cc
          have t16 : aX xc_35 (aSeek xc_35 166) [aR 3, aI a1, aI a2] [aI a2, aR (aF (SH L) ((aSet M4 (aF (SH L) ((aSet M2 (aF (SH L) (M1 3 3) 6) a2 v3) 3 3) 7) a2 v5) 3 3) 8)] (SH L) (aSet M4 (aF (SH L) ((aSet M2 (aF (SH L) (M1 3 3) 6) a2 v3) 3 3) 7) a2 v5) o := by
            exact aX_seg 1 (fun n g => g) (aX_le (ls := [aR 3, aU, aU]) (ls1 := [aR 3, aI a1, aI a2]) (⟨Or.inr rfl, ⟨Or.inl rfl, ⟨Or.inl rfl, trivial⟩⟩⟩) h)
          exact aX_seg 8 (fun n g => ip c14 (ip c15 (ip cc (g)))) t16
        · replace h := h.2 cc
          have t17 : aX xc_35 (aSeek xc_35 156) [aR 3, aI a1, aI a2] [aI a2, aR (aF (SH L) ((aSet M4 (aF (SH L) ((aSet M2 (aF (SH L) (M1 3 3) 6) a2 v3) 3 3) 7) a2 v5) 3 3) 8)] (SH L) (aSet M4 (aF (SH L) ((aSet M2 (aF (SH L) (M1 3 3) 6) a2 v3) 3 3) 7) a2 v5) o := by
            obtain ⟨M6, v7, k18, h⟩ := h
            have h2 : aX xc_35 (aSeek xc_35 163) [aR 3, aI a1, aI a2] [aI v7, aI a2, aR (aF (SH L) ((aSet M4 (aF (SH L) ((aSet M2 (aF (SH L) (M1 3 3) 6) a2 v3) 3 3) 7) a2 v5) 3 3) 8)] (SH L) M6 o := by
              exact aX_seg 1 (fun n g => g) (aX_le (ls := [aR 3, aU, aU]) (ls1 := [aR 3, aI a1, aI a2]) (⟨Or.inr rfl, ⟨Or.inl rfl, ⟨Or.inl rfl, trivial⟩⟩⟩) h)
            exact aX_seg 3 (fun n g => g) (aX_callv (rfl) rfl rfl rfl k18 h2)
          exact aX_seg 8 (fun n g => ip c14 (ip c15 (in_ cc (g)))) t17
      exact aX_seg 8 (fun n g => ip c11 (ip c12 (g))) (aX_callv (rfl) rfl rfl rfl k13 h2)
    exact aX_seg 7 (fun n g => ip c9 (g)) (aX_callv (rfl) rfl rfl rfl k10 h2)
  exact aX_seg 1 (fun n g => g) (aX_callv (rfl) rfl rfl rfl k8 h2)
set_option maxRecDepth 100000 in
theorem bl_35_167 {L : Nat} {b0 b1 b2 : Int} {M : aM} {o : aO} (h : (0 ≤ b1 ∧ b1 < aLn (SH L) 1 b0) ∧ (aK (SH L) ((aSet M b0 b1 b2) 3 3) = 19) ∧ (aK (SH L) ((aSet M b0 b1 b2) 3 3) = 19) ∧ o = ([], (SH L), aSet (aSet M b0 b1 b2) ((aSet M b0 b1 b2) 3 3) 3 (aW (((aSet M b0 b1 b2) ((aSet M b0 b1 b2) 3 3) 3) + 1)))) : aX xc_35 (aSeek xc_35 167) [aR 3, aU, aU] [aI b2, aI b1, aR b0] (SH L) M o := by
  obtain ⟨c1, h⟩ := h
  obtain ⟨c2, h⟩ := h
  obtain ⟨c3, h⟩ := h
  subst h
  exact ⟨9, ip c1 (ip c2 (ip c3 (rfl)))⟩
/- TypeLock.isSide(I)Z -/
set_option maxRecDepth 100000 in
theorem en_36 {L : Nat} {a0 : Int} {M : aM} {o : aO} (h : ((a0 < 0 → o = ([aI 0], (SH L), M)) ∧ (¬ (a0 < 0) → ((4 ≤ a0 → o = ([aI 0], (SH L), M)) ∧ (¬ (4 ≤ a0) → o = ([aI 1], (SH L), M)))))) : aE 36 [aI a0] (SH L) M o := by
  have q : aX xc_36 (aSeek xc_36 0) [aI a0] [] (SH L) M o := by
    by_cases cc : a0 < 0
    · replace h := h.1 cc
      have t1 : aX xc_36 (aSeek xc_36 13) [aI a0] [] (SH L) M o := by
        subst h
        exact ⟨2, rfl⟩
      exact aX_seg 2 (fun n g => ip cc (g)) t1
    · replace h := h.2 cc
      have t2 : aX xc_36 (aSeek xc_36 4) [aI a0] [] (SH L) M o := by
        by_cases cc : 4 ≤ a0
        · replace h := h.1 cc
          have t3 : aX xc_36 (aSeek xc_36 13) [aI a0] [] (SH L) M o := by
            subst h
            exact ⟨2, rfl⟩
          exact aX_seg 3 (fun n g => ip cc (g)) t3
        · replace h := h.2 cc
          have t4 : aX xc_36 (aSeek xc_36 9) [aI a0] [] (SH L) M o := by
            subst h
            exact ⟨3, rfl⟩
          exact aX_seg 3 (fun n g => in_ cc (g)) t4
      exact aX_seg 2 (fun n g => in_ cc (g)) t2
  exact q
/- TypeLock.span(II)J -/
set_option maxRecDepth 100000 in
theorem en_37 {L : Nat} {a0 a1 : Int} {M : aM} {o : aO} (h : ((a0 < 0 → o = ([aJ 0], (SH L), M)) ∧ (¬ (a0 < 0) → ((60 < a1 → o = ([aJ 0], (SH L), M)) ∧ (¬ (60 < a1) → ((a0 < a1 → o = ([aJ (aWL ((aLsl 1 a1) - (aLsl 1 a0)))], (SH L), M)) ∧ (¬ (a0 < a1) → o = ([aJ 0], (SH L), M)))))))) : aE 37 [aI a0, aI a1] (SH L) M o := by
  have q : aX xc_37 (aSeek xc_37 0) [aI a0, aI a1] [] (SH L) M o := by
    by_cases cc : a0 < 0
    · replace h := h.1 cc
      have t1 : aX xc_37 (aSeek xc_37 15) [aI a0, aI a1] [] (SH L) M o := by
        subst h
        exact ⟨2, rfl⟩
      exact aX_seg 2 (fun n g => ip cc (g)) t1
    · replace h := h.2 cc
      have t2 : aX xc_37 (aSeek xc_37 4) [aI a0, aI a1] [] (SH L) M o := by
        by_cases cc : 60 < a1
        · replace h := h.1 cc
          have t3 : aX xc_37 (aSeek xc_37 15) [aI a0, aI a1] [] (SH L) M o := by
            subst h
            exact ⟨2, rfl⟩
          exact aX_seg 3 (fun n g => ip cc (g)) t3
        · replace h := h.2 cc
          have t4 : aX xc_37 (aSeek xc_37 10) [aI a0, aI a1] [] (SH L) M o := by
            by_cases cc : a0 < a1
            · replace h := h.1 cc
              have t5 : aX xc_37 (aSeek xc_37 17) [aI a0, aI a1] [] (SH L) M o := by
                subst h
                exact ⟨8, rfl⟩
              exact aX_seg 3 (fun n g => ip cc (g)) t5
            · replace h := h.2 cc
              have t6 : aX xc_37 (aSeek xc_37 15) [aI a0, aI a1] [] (SH L) M o := by
                subst h
                exact ⟨2, rfl⟩
              exact aX_seg 3 (fun n g => in_ cc (g)) t6
          exact aX_seg 3 (fun n g => in_ cc (g)) t4
      exact aX_seg 2 (fun n g => in_ cc (g)) t2
  exact q
/- TypeLock$Reader.parseWedge()V -/
set_option maxRecDepth 100000 in
theorem en_38 {L : Nat} {M : aM} {o : aO} (h : (aK (SH L) (M 3 3) = 19) ∧ (((M (M 3 3) 9) < 6 → (∃ (M1 : aM) (v2 : Int), aE 29 [aR 3, aI 28] (SH L) M ([aI v2], (SH L), M1) ∧ (∃ (M3 : aM) (v4 : Int), aE 26 [aR 3] (SH L) M1 ([aI v4], (SH L), M3) ∧ (∃ (M5 : aM) (v6 : Int), aE 36 [aI (aW (v4 - 29))] (SH L) M3 ([aI v6], (SH L), M5) ∧ ((¬ v6 = 0 → (∃ (M7 : aM) (v8 : Int), aE 26 [aR 3] (SH L) M5 ([aI v8], (SH L), M7) ∧ (∃ (M9 : aM) (v10 : Int), aE 29 [aR 3, aI v8] (SH L) M7 ([aI v10], (SH L), M9) ∧ (∃ (M11 : aM) (v12 : Int), aE 32 [aR 3, aI 0, aI 9999] (SH L) M9 ([aI v12], (SH L), M11) ∧ (∃ (M13 : aM) (v14 : Int), aE 32 [aR 3, aI (aW (v12 + 1)), aI 60] (SH L) M11 ([aI v14], (SH L), M13) ∧ (aK (SH L) (M13 3 3) = 19) ∧ (0 ≤ M (M 3 3) 9 ∧ M (M 3 3) 9 < aLn (SH L) 1 (aF (SH L) (M13 3 3) 10)) ∧ (aK (SH L) ((aSet M13 (aF (SH L) (M13 3 3) 10) (M (M 3 3) 9) (aW (v4 - 29))) 3 3) = 19) ∧ (∃ (M15 : aM) (v16 : Int), aE 37 [aI v12, aI v14] (SH L) (aSet M13 (aF (SH L) (M13 3 3) 10) (M (M 3 3) 9) (aW (v4 - 29))) ([aJ v16], (SH L), M15) ∧ (0 ≤ M (M 3 3) 9 ∧ M (M 3 3) 9 < aLn (SH L) 2 (aF (SH L) ((aSet M13 (aF (SH L) (M13 3 3) 10) (M (M 3 3) 9) (aW (v4 - 29))) 3 3) 11)) ∧ (aK (SH L) ((aSet M15 (aF (SH L) ((aSet M13 (aF (SH L) (M13 3 3) 10) (M (M 3 3) 9) (aW (v4 - 29))) 3 3) 11) (M (M 3 3) 9) v16) 3 3) = 19) ∧ (aK (SH L) ((aSet M15 (aF (SH L) ((aSet M13 (aF (SH L) (M13 3 3) 10) (M (M 3 3) 9) (aW (v4 - 29))) 3 3) 11) (M (M 3 3) 9) v16) 3 3) = 19) ∧ o = ([], (SH L), aSet (aSet M15 (aF (SH L) ((aSet M13 (aF (SH L) (M13 3 3) 10) (M (M 3 3) 9) (aW (v4 - 29))) 3 3) 11) (M (M 3 3) 9) v16) ((aSet M15 (aF (SH L) ((aSet M13 (aF (SH L) (M13 3 3) 10) (M (M 3 3) 9) (aW (v4 - 29))) 3 3) 11) (M (M 3 3) 9) v16) 3 3) 9 (aW (((aSet M15 (aF (SH L) ((aSet M13 (aF (SH L) (M13 3 3) 10) (M (M 3 3) 9) (aW (v4 - 29))) 3 3) 11) (M (M 3 3) 9) v16) ((aSet M15 (aF (SH L) ((aSet M13 (aF (SH L) (M13 3 3) 10) (M (M 3 3) 9) (aW (v4 - 29))) 3 3) 11) (M (M 3 3) 9) v16) 3 3) 9) + 1))))))))) ∧ (¬ (¬ v6 = 0) → (∃ (M17 : aM) (v18 : Int), aE 27 [aR 3] (SH L) M5 ([aI v18], (SH L), M17) ∧ (∃ (M19 : aM), aE 28 [aR 3, aI 1, aI v18] (SH L) M17 ([], (SH L), M19) ∧ o = ([], (SH L), M19))))))))) ∧ (¬ ((M (M 3 3) 9) < 6) → (∃ (M20 : aM) (v21 : Int), aE 27 [aR 3] (SH L) M ([aI v21], (SH L), M20) ∧ (∃ (M22 : aM), aE 28 [aR 3, aI 2, aI v21] (SH L) M20 ([], (SH L), M22) ∧ o = ([], (SH L), M22)))))) : aE 38 [aR 3] (SH L) M o := by
  have q : aX xc_38 (aSeek xc_38 0) [aR 3, aU, aU, aU, aU] [] (SH L) M o := by
    obtain ⟨c23, h⟩ := h
    by_cases cc : (M (M 3 3) 9) < 6
    · replace h := h.1 cc
      have t24 : aX xc_38 (aSeek xc_38 24) [aR 3, aI (M (M 3 3) 9), aU, aU, aU] [] (SH L) M o := by
        obtain ⟨M1, v2, k25, h⟩ := h
        have h2 : aX xc_38 (aSeek xc_38 30) [aR 3, aI (M (M 3 3) 9), aU, aU, aU] [aI v2] (SH L) M1 o := by
          obtain ⟨M3, v4, k26, h⟩ := h
          have h2 : aX xc_38 (aSeek xc_38 35) [aR 3, aI (M (M 3 3) 9), aU, aU, aU] [aI v4] (SH L) M3 o := by
            obtain ⟨M5, v6, k27, h⟩ := h
            have h2 : aX xc_38 (aSeek xc_38 43) [aR 3, aI (M (M 3 3) 9), aI (aW (v4 - 29)), aU, aU] [aI v6] (SH L) M5 o := by
              by_cases cc : ¬ v6 = 0
              · replace h := h.1 cc
                have t28 : aX xc_38 (aSeek xc_38 56) [aR 3, aI (M (M 3 3) 9), aI (aW (v4 - 29)), aU, aU] [] (SH L) M5 o := by
                  obtain ⟨M7, v8, k29, h⟩ := h
                  have h2 : aX xc_38 (aSeek xc_38 61) [aR 3, aI (M (M 3 3) 9), aI (aW (v4 - 29)), aU, aU] [aI v8, aR 3] (SH L) M7 o := by
                    obtain ⟨M9, v10, k30, h⟩ := h
                    have h2 : aX xc_38 (aSeek xc_38 64) [aR 3, aI (M (M 3 3) 9), aI (aW (v4 - 29)), aU, aU] [aI v10] (SH L) M9 o := by
                      obtain ⟨M11, v12, k31, h⟩ := h
                      have h2 : aX xc_38 (aSeek xc_38 73) [aR 3, aI (M (M 3 3) 9), aI (aW (v4 - 29)), aU, aU] [aI v12] (SH L) M11 o := by
                        obtain ⟨M13, v14, k32, h⟩ := h
                        have h2 : aX xc_38 (aSeek xc_38 83) [aR 3, aI (M (M 3 3) 9), aI (aW (v4 - 29)), aI v12, aU] [aI v14] (SH L) M13 o := by
                          obtain ⟨c33, h⟩ := h
                          obtain ⟨c34, h⟩ := h
                          obtain ⟨c35, h⟩ := h
                          obtain ⟨M15, v16, k36, h⟩ := h
                          have h2 : aX xc_38 (aSeek xc_38 109) [aR 3, aI (M (M 3 3) 9), aI (aW (v4 - 29)), aI v12, aI v14] [aJ v16, aI (M (M 3 3) 9), aR (aF (SH L) ((aSet M13 (aF (SH L) (M13 3 3) 10) (M (M 3 3) 9) (aW (v4 - 29))) 3 3) 11)] (SH L) M15 o := by
                            obtain ⟨c37, h⟩ := h
                            obtain ⟨c38, h⟩ := h
                            obtain ⟨c39, h⟩ := h
                            subst h
                            exact ⟨9, ip c37 (ip c38 (ip c39 (rfl)))⟩
                          exact aX_seg 13 (fun n g => ip c33 (ip c34 (ip c35 (g)))) (aX_calls rfl rfl rfl k36 h2)
                        exact aX_seg 6 (fun n g => g) (aX_callv (rfl) rfl rfl rfl k32 h2)
                      exact aX_seg 4 (fun n g => g) (aX_callv (rfl) rfl rfl rfl k31 h2)
                    exact aX_callv (rfl) rfl rfl rfl k30 h2
                  exact aX_seg 2 (fun n g => g) (aX_callv (rfl) rfl rfl rfl k29 h2)
                exact aX_seg 1 (fun n g => ip cc (g)) t28
              · replace h := h.2 cc
                have t40 : aX xc_38 (aSeek xc_38 46) [aR 3, aI (M (M 3 3) 9), aI (aW (v4 - 29)), aU, aU] [] (SH L) M5 o := by
                  obtain ⟨M17, v18, k41, h⟩ := h
                  have h2 : aX xc_38 (aSeek xc_38 52) [aR 3, aI (M (M 3 3) 9), aI (aW (v4 - 29)), aU, aU] [aI v18, aI 1, aR 3] (SH L) M17 o := by
                    obtain ⟨M19, k42, h⟩ := h
                    have h2 : aX xc_38 (aSeek xc_38 55) [aR 3, aI (M (M 3 3) 9), aI (aW (v4 - 29)), aU, aU] [] (SH L) M19 o := by
                      subst h
                      exact ⟨1, rfl⟩
                    exact aX_callv (rfl) rfl rfl rfl k42 h2
                  exact aX_seg 3 (fun n g => g) (aX_callv (rfl) rfl rfl rfl k41 h2)
                exact aX_seg 1 (fun n g => in_ cc (g)) t40
            exact aX_seg 4 (fun n g => g) (aX_calls rfl rfl rfl k27 h2)
          exact aX_seg 2 (fun n g => g) (aX_callv (rfl) rfl rfl rfl k26 h2)
        exact aX_seg 2 (fun n g => g) (aX_callv (rfl) rfl rfl rfl k25 h2)
      exact aX_seg 7 (fun n g => ip c23 (ip cc (g))) t24
    · replace h := h.2 cc
      have t43 : aX xc_38 (aSeek xc_38 14) [aR 3, aI (M (M 3 3) 9), aU, aU, aU] [] (SH L) M o := by
        obtain ⟨M20, v21, k44, h⟩ := h
        have h2 : aX xc_38 (aSeek xc_38 20) [aR 3, aI (M (M 3 3) 9), aU, aU, aU] [aI v21, aI 2, aR 3] (SH L) M20 o := by
          obtain ⟨M22, k45, h⟩ := h
          have h2 : aX xc_38 (aSeek xc_38 23) [aR 3, aI (M (M 3 3) 9), aU, aU, aU] [] (SH L) M22 o := by
            subst h
            exact ⟨1, rfl⟩
          exact aX_callv (rfl) rfl rfl rfl k45 h2
        exact aX_seg 3 (fun n g => g) (aX_callv (rfl) rfl rfl rfl k44 h2)
      exact aX_seg 7 (fun n g => ip c23 (in_ cc (g))) t43
  exact q
/- TypeLock$Reader.await(I)V -/
set_option maxRecDepth 100000 in
theorem en_39 {L : Nat} {a1 : Int} {M : aM} {o : aO} (h : (((M 3 8) < 0 → o = ([], (SH L), M)) ∧ (¬ ((M 3 8) < 0) → (((aL (SH L) 8) ≤ (M 3 8) → o = ([], (SH L), M)) ∧ (¬ ((aL (SH L) 8) ≤ (M 3 8)) → (0 ≤ M 3 8 ∧ M 3 8 < aLn (SH L) 1 8) ∧ o = ([], (SH L), aSet (aSet M 8 (M 3 8) a1) 3 8 (aW (((aSet M 8 (M 3 8) a1) 3 8) + 1)))))))) : aE 39 [aR 3, aI a1] (SH L) M o := by
  have q : aX xc_39 (aSeek xc_39 0) [aR 3, aI a1] [] (SH L) M o := by
    by_cases cc : (M 3 8) < 0
    · replace h := h.1 cc
      have t1 : aX xc_39 (aSeek xc_39 39) [aR 3, aI a1] [] (SH L) M o := by
        subst h
        exact ⟨1, rfl⟩
      exact aX_seg 3 (fun n g => ip cc (g)) t1
    · replace h := h.2 cc
      have t2 : aX xc_39 (aSeek xc_39 7) [aR 3, aI a1] [] (SH L) M o := by
        by_cases cc : (aL (SH L) 8) ≤ (M 3 8)
        · replace h := h.1 cc
          have t3 : aX xc_39 (aSeek xc_39 39) [aR 3, aI a1] [] (SH L) M o := by
            subst h
            exact ⟨1, rfl⟩
          exact aX_seg 6 (fun n g => ip cc (g)) t3
        · replace h := h.2 cc
          have t4 : aX xc_39 (aSeek xc_39 19) [aR 3, aI a1] [] (SH L) M o := by
            obtain ⟨c5, h⟩ := h
            subst h
            exact ⟨13, ip c5 (rfl)⟩
          exact aX_seg 6 (fun n g => in_ cc (g)) t4
      exact aX_seg 3 (fun n g => in_ cc (g)) t2
  exact q
/- TypeLock$Text.addCode(I)V -/
set_option maxRecDepth 100000 in
theorem en_40 {L : Nat} {a0 a1 : Int} {M : aM} {o : aO} (h : (aK (SH L) a0 = 19) ∧ (aK (SH L) a0 = 19) ∧ (aK (SH L) (aF (SH L) a0 12) = 1) ∧ (((aL (SH L) (aF (SH L) a0 12)) ≤ (M a0 13) → o = ([], (SH L), M)) ∧ (¬ ((aL (SH L) (aF (SH L) a0 12)) ≤ (M a0 13)) → (aK (SH L) a0 = 19) ∧ (aK (SH L) a0 = 19) ∧ (0 ≤ M a0 13 ∧ M a0 13 < aLn (SH L) 1 (aF (SH L) a0 12)) ∧ (aK (SH L) a0 = 19) ∧ (aK (SH L) a0 = 19) ∧ o = ([], (SH L), aSet (aSet M (aF (SH L) a0 12) (M a0 13) a1) a0 13 (aW (((aSet M (aF (SH L) a0 12) (M a0 13) a1) a0 13) + 1)))))) : aE 40 [aR a0, aI a1] (SH L) M o := by
  have q : aX xc_40 (aSeek xc_40 0) [aR a0, aI a1] [] (SH L) M o := by
    obtain ⟨c1, h⟩ := h
    obtain ⟨c2, h⟩ := h
    obtain ⟨c3, h⟩ := h
    by_cases cc : (aL (SH L) (aF (SH L) a0 12)) ≤ (M a0 13)
    · replace h := h.1 cc
      have t4 : aX xc_40 (aSeek xc_40 32) [aR a0, aI a1] [] (SH L) M o := by
        subst h
        exact ⟨1, rfl⟩
      exact aX_seg 6 (fun n g => ip c1 (ip c2 (ip c3 (ip cc (g))))) t4
    · replace h := h.2 cc
      have t5 : aX xc_40 (aSeek xc_40 12) [aR a0, aI a1] [] (SH L) M o := by
        obtain ⟨c6, h⟩ := h
        obtain ⟨c7, h⟩ := h
        obtain ⟨c8, h⟩ := h
        obtain ⟨c9, h⟩ := h
        obtain ⟨c10, h⟩ := h
        subst h
        exact ⟨13, ip c6 (ip c7 (ip c8 (ip c9 (ip c10 (rfl)))))⟩
      exact aX_seg 6 (fun n g => ip c1 (ip c2 (ip c3 (in_ cc (g))))) t5
  exact q
/- TypeLock$Reader.isVar(I)Z -/
set_option maxRecDepth 100000 in
theorem en_41 {L : Nat} {a0 : Int} {M : aM} {o : aO} (h : ((a0 < 16 → o = ([aI 0], (SH L), M)) ∧ (¬ (a0 < 16) → ((25 ≤ a0 → o = ([aI 0], (SH L), M)) ∧ (¬ (25 ≤ a0) → o = ([aI 1], (SH L), M)))))) : aE 41 [aI a0] (SH L) M o := by
  have q : aX xc_41 (aSeek xc_41 0) [aI a0] [] (SH L) M o := by
    by_cases cc : a0 < 16
    · replace h := h.1 cc
      have t1 : aX xc_41 (aSeek xc_41 16) [aI a0] [] (SH L) M o := by
        subst h
        exact ⟨2, rfl⟩
      exact aX_seg 3 (fun n g => ip cc (g)) t1
    · replace h := h.2 cc
      have t2 : aX xc_41 (aSeek xc_41 6) [aI a0] [] (SH L) M o := by
        by_cases cc : 25 ≤ a0
        · replace h := h.1 cc
          have t3 : aX xc_41 (aSeek xc_41 16) [aI a0] [] (SH L) M o := by
            subst h
            exact ⟨2, rfl⟩
          exact aX_seg 3 (fun n g => ip cc (g)) t3
        · replace h := h.2 cc
          have t4 : aX xc_41 (aSeek xc_41 12) [aI a0] [] (SH L) M o := by
            subst h
            exact ⟨3, rfl⟩
          exact aX_seg 3 (fun n g => in_ cc (g)) t4
      exact aX_seg 3 (fun n g => in_ cc (g)) t2
  exact q
/- TypeLock$Reader.rankOf(I)I -/
set_option maxRecDepth 100000 in
theorem en_42 {L : Nat} {a0 : Int} {M : aM} {o : aO} (h : ((a0 = 8 → o = ([aI 2], (SH L), M)) ∧ (¬ (a0 = 8) → ((¬ a0 = 9 → ((a0 = 6 → o = ([aI 1], (SH L), M)) ∧ (¬ (a0 = 6) → ((¬ a0 = 7 → o = ([aI 0], (SH L), M)) ∧ (¬ (¬ a0 = 7) → o = ([aI 1], (SH L), M)))))) ∧ (¬ (¬ a0 = 9) → o = ([aI 2], (SH L), M)))))) : aE 42 [aI a0] (SH L) M o := by
  have q : aX xc_42 (aSeek xc_42 0) [aI a0] [] (SH L) M o := by
    by_cases cc : a0 = 8
    · replace h := h.1 cc
      have t1 : aX xc_42 (aSeek xc_42 12) [aI a0] [] (SH L) M o := by
        subst h
        exact ⟨2, rfl⟩
      exact aX_seg 3 (fun n g => ip cc (g)) t1
    · replace h := h.2 cc
      have t2 : aX xc_42 (aSeek xc_42 6) [aI a0] [] (SH L) M o := by
        by_cases cc : ¬ a0 = 9
        · replace h := h.1 cc
          have t3 : aX xc_42 (aSeek xc_42 14) [aI a0] [] (SH L) M o := by
            by_cases cc : a0 = 6
            · replace h := h.1 cc
              have t4 : aX xc_42 (aSeek xc_42 26) [aI a0] [] (SH L) M o := by
                subst h
                exact ⟨3, rfl⟩
              exact aX_seg 3 (fun n g => ip cc (g)) t4
            · replace h := h.2 cc
              have t5 : aX xc_42 (aSeek xc_42 20) [aI a0] [] (SH L) M o := by
                by_cases cc : ¬ a0 = 7
                · replace h := h.1 cc
                  have t6 : aX xc_42 (aSeek xc_42 30) [aI a0] [] (SH L) M o := by
                    subst h
                    exact ⟨2, rfl⟩
                  exact aX_seg 3 (fun n g => ip cc (g)) t6
                · replace h := h.2 cc
                  have t7 : aX xc_42 (aSeek xc_42 26) [aI a0] [] (SH L) M o := by
                    subst h
                    exact ⟨3, rfl⟩
                  exact aX_seg 3 (fun n g => in_ cc (g)) t7
              exact aX_seg 3 (fun n g => in_ cc (g)) t5
          exact aX_seg 3 (fun n g => ip cc (g)) t3
        · replace h := h.2 cc
          have t8 : aX xc_42 (aSeek xc_42 12) [aI a0] [] (SH L) M o := by
            subst h
            exact ⟨2, rfl⟩
          exact aX_seg 3 (fun n g => in_ cc (g)) t8
      exact aX_seg 3 (fun n g => in_ cc (g)) t2
  exact q
/- TypeLock$Reader.release(I)V -/
set_option maxRecDepth 100000 in
theorem en_43 {L : Nat} {a1 : Int} {M : aM} {o : aO} (h : (((M 3 8) ≤ 0 → o = ([], (SH L), M)) ∧ (¬ ((M 3 8) ≤ 0) → (((aL (SH L) 8) < (M 3 8) → o = ([], (SH L), M)) ∧ (¬ ((aL (SH L) 8) < (M 3 8)) → (0 ≤ aW ((M 3 8) - 1) ∧ aW ((M 3 8) - 1) < aLn (SH L) 1 8) ∧ (∃ (M1 : aM) (v2 : Int), aE 42 [aI (M 8 (aW ((M 3 8) - 1)))] (SH L) M ([aI v2], (SH L), M1) ∧ ((v2 < a1 → o = ([], (SH L), M1)) ∧ (¬ (v2 < a1) → (0 ≤ aW ((M1 3 8) - 1) ∧ aW ((M1 3 8) - 1) < aLn (SH L) 1 8) ∧ (aK (SH L) (M1 3 3) = 19 ∧ ∃ (M3 : aM), aE 40 [aR (M1 3 3), aI (M1 8 (aW ((M1 3 8) - 1)))] (SH L) M1 ([], (SH L), M3) ∧ aX xc_43 (aSeek xc_43 0) [aR 3, aI a1] [] (SH L) (aSet M3 3 8 (aW ((M3 3 8) - 1))) o))))))))) : aE 43 [aR 3, aI a1] (SH L) M o := by
  have q : aX xc_43 (aSeek xc_43 0) [aR 3, aI a1] [] (SH L) M o := by
    by_cases cc : (M 3 8) ≤ 0
    · replace h := h.1 cc
      have t4 : aX xc_43 (aSeek xc_43 68) [aR 3, aI a1] [] (SH L) M o := by
        subst h
        exact ⟨1, rfl⟩
      exact aX_seg 3 (fun n g => ip cc (g)) t4
    · replace h := h.2 cc
      have t5 : aX xc_43 (aSeek xc_43 7) [aR 3, aI a1] [] (SH L) M o := by
        by_cases cc : (aL (SH L) 8) < (M 3 8)
        · replace h := h.1 cc
          have t6 : aX xc_43 (aSeek xc_43 68) [aR 3, aI a1] [] (SH L) M o := by
            subst h
            exact ⟨1, rfl⟩
          exact aX_seg 6 (fun n g => ip cc (g)) t6
        · replace h := h.2 cc
          have t7 : aX xc_43 (aSeek xc_43 19) [aR 3, aI a1] [] (SH L) M o := by
            obtain ⟨c8, h⟩ := h
            obtain ⟨M1, v2, k9, h⟩ := h
            have h2 : aX xc_43 (aSeek xc_43 33) [aR 3, aI a1] [aI v2] (SH L) M1 o := by
              by_cases cc : v2 < a1
              · replace h := h.1 cc
                have t10 : aX xc_43 (aSeek xc_43 68) [aR 3, aI a1] [] (SH L) M1 o := by
                  subst h
                  exact ⟨1, rfl⟩
                exact aX_seg 2 (fun n g => ip cc (g)) t10
              · replace h := h.2 cc
                have t11 : aX xc_43 (aSeek xc_43 37) [aR 3, aI a1] [] (SH L) M1 o := by
                  obtain ⟨c12, h⟩ := h
                  obtain ⟨c13, h⟩ := h
                  obtain ⟨M3, k14, h⟩ := h
                  have h2 : aX xc_43 (aSeek xc_43 55) [aR 3, aI a1] [] (SH L) M3 o := by
                    exact aX_seg 7 (fun n g => g) (h)
                  exact aX_seg 9 (fun n g => ip c12 (g)) (aX_callv (c13) rfl rfl rfl k14 h2)
                exact aX_seg 2 (fun n g => in_ cc (g)) t11
            exact aX_seg 7 (fun n g => ip c8 (g)) (aX_calls rfl rfl rfl k9 h2)
          exact aX_seg 6 (fun n g => in_ cc (g)) t7
      exact aX_seg 3 (fun n g => in_ cc (g)) t5
  exact q
/- TypeLock$Reader.parseExpression()V -/
set_option maxRecDepth 100000 in
theorem en_44 {L : Nat} {M : aM} {o : aO} (h : aX xc_44 (aSeek xc_44 11) [aR 3, aI 0, aI 1, aI 0, aU] [] (SH L) (aSet M 3 8 0) o) : aE 44 [aR 3] (SH L) M o := by
  have q : aX xc_44 (aSeek xc_44 0) [aR 3, aU, aU, aU, aU] [] (SH L) M o := by
    exact aX_seg 9 (fun n g => g) (h)
  exact q
set_option maxRecDepth 100000 in
theorem bl_44_11 {L : Nat} {a1 a2 a3 : Int} {M : aM} {o : aO} (h : ((400 < a3 → o = ([], (SH L), M)) ∧ (¬ (400 < a3) → ((¬ (M 3 0) = 0 → o = ([], (SH L), M)) ∧ (¬ (¬ (M 3 0) = 0) → (∃ (M1 : aM) (v2 : Int), aE 26 [aR 3] (SH L) M ([aI v2], (SH L), M1) ∧ ((a2 = 0 → aX xc_44 (aSeek xc_44 69) [aR 3, aI a1, aI a2, aI a3, aI v2] [] (SH L) M1 o) ∧ (¬ (a2 = 0) → ((¬ v2 = 14 → aX xc_44 (aSeek xc_44 69) [aR 3, aI a1, aI a2, aI a3, aI v2] [] (SH L) M1 o) ∧ (¬ (¬ v2 = 14) → ((a1 < 6 → aX xc_44 (aSeek xc_44 57) [aR 3, aI a1, aI a2, aI a3, aI v2] [] (SH L) M1 o) ∧ (¬ (a1 < 6) → (∃ (M3 : aM) (v4 : Int), aE 27 [aR 3] (SH L) M1 ([aI v4], (SH L), M3) ∧ (∃ (M5 : aM), aE 28 [aR 3, aI 2, aI v4] (SH L) M3 ([], (SH L), M5) ∧ aX xc_44 (aSeek xc_44 57) [aR 3, aI a1, aI a2, aI a3, aI v2] [] (SH L) M5 o)))))))))))))) : aX xc_44 (aSeek xc_44 11) [aR 3, aI a1, aI a2, aI a3, aU] [] (SH L) M o := by
  by_cases cc : 400 < a3
  · replace h := h.1 cc
    have t6 : aX xc_44 (aSeek xc_44 193) [aR 3, aI a1, aI a2, aI a3, aU] [] (SH L) M o := by
      subst h
      exact ⟨1, rfl⟩
    exact aX_seg 3 (fun n g => ip cc (g)) t6
  · replace h := h.2 cc
    have t7 : aX xc_44 (aSeek xc_44 18) [aR 3, aI a1, aI a2, aI a3, aU] [] (SH L) M o := by
      by_cases cc : ¬ (M 3 0) = 0
      · replace h := h.1 cc
        have t8 : aX xc_44 (aSeek xc_44 193) [aR 3, aI a1, aI a2, aI a3, aU] [] (SH L) M o := by
          subst h
          exact ⟨1, rfl⟩
        exact aX_seg 3 (fun n g => ip cc (g)) t8
      · replace h := h.2 cc
        have t9 : aX xc_44 (aSeek xc_44 25) [aR 3, aI a1, aI a2, aI a3, aU] [] (SH L) M o := by
          obtain ⟨M1, v2, k10, h⟩ := h
          have h2 : aX xc_44 (aSeek xc_44 29) [aR 3, aI a1, aI a2, aI a3, aU] [aI v2] (SH L) M1 o := by
            by_cases cc : a2 = 0
            · replace h := h.1 cc
              have t11 : aX xc_44 (aSeek xc_44 69) [aR 3, aI a1, aI a2, aI a3, aI v2] [] (SH L) M1 o := by
                exact h
              exact aX_seg 3 (fun n g => ip cc (g)) t11
            · replace h := h.2 cc
              have t12 : aX xc_44 (aSeek xc_44 35) [aR 3, aI a1, aI a2, aI a3, aI v2] [] (SH L) M1 o := by
                by_cases cc : ¬ v2 = 14
                · replace h := h.1 cc
                  have t13 : aX xc_44 (aSeek xc_44 69) [aR 3, aI a1, aI a2, aI a3, aI v2] [] (SH L) M1 o := by
                    exact h
                  exact aX_seg 3 (fun n g => ip cc (g)) t13
                · replace h := h.2 cc
                  have t14 : aX xc_44 (aSeek xc_44 42) [aR 3, aI a1, aI a2, aI a3, aI v2] [] (SH L) M1 o := by
                    by_cases cc : a1 < 6
                    · replace h := h.1 cc
                      have t15 : aX xc_44 (aSeek xc_44 57) [aR 3, aI a1, aI a2, aI a3, aI v2] [] (SH L) M1 o := by
                        exact h
                      exact aX_seg 3 (fun n g => ip cc (g)) t15
                    · replace h := h.2 cc
                      have t16 : aX xc_44 (aSeek xc_44 48) [aR 3, aI a1, aI a2, aI a3, aI v2] [] (SH L) M1 o := by
                        obtain ⟨M3, v4, k17, h⟩ := h
                        have h2 : aX xc_44 (aSeek xc_44 54) [aR 3, aI a1, aI a2, aI a3, aI v2] [aI v4, aI 2, aR 3] (SH L) M3 o := by
                          obtain ⟨M5, k18, h⟩ := h
                          have h2 : aX xc_44 (aSeek xc_44 57) [aR 3, aI a1, aI a2, aI a3, aI v2] [] (SH L) M5 o := by
                            exact h
                          exact aX_callv (rfl) rfl rfl rfl k18 h2
                        exact aX_seg 3 (fun n g => g) (aX_callv (rfl) rfl rfl rfl k17 h2)
                      exact aX_seg 3 (fun n g => in_ cc (g)) t16
                  exact aX_seg 3 (fun n g => in_ cc (g)) t14
              exact aX_seg 3 (fun n g => in_ cc (g)) t12
          exact aX_seg 1 (fun n g => g) (aX_callv (rfl) rfl rfl rfl k10 h2)
        exact aX_seg 3 (fun n g => in_ cc (g)) t9
    exact aX_seg 3 (fun n g => in_ cc (g)) t7
set_option maxRecDepth 100000 in
theorem bl_44_57 {L : Nat} {a1 a2 a3 a4 : Int} {M : aM} {o : aO} (h : (∃ (M1 : aM), aE 39 [aR 3, aI a4] (SH L) M ([], (SH L), M1) ∧ aX xc_44 (aSeek xc_44 180) [aR 3, aI (aW (a1 + 1)), aI a2, aI a3, aI a4] [] (SH L) M1 o)) : aX xc_44 (aSeek xc_44 57) [aR 3, aI a1, aI a2, aI a3, aI a4] [] (SH L) M o := by
  obtain ⟨M1, k2, h⟩ := h
  have h2 : aX xc_44 (aSeek xc_44 66) [aR 3, aI (aW (a1 + 1)), aI a2, aI a3, aI a4] [] (SH L) M1 o := by
    exact aX_seg 1 (fun n g => g) (h)
  exact aX_seg 3 (fun n g => g) (aX_callv (rfl) rfl rfl rfl k2 h2)
set_option maxRecDepth 100000 in
theorem bl_44_69 {L : Nat} {a1 a2 a3 a4 : Int} {M : aM} {o : aO} (h : ((a2 = 0 → (∃ (M1 : aM) (v2 : Int), aE 42 [aI a4] (SH L) M ([aI v2], (SH L), M1) ∧ ((v2 ≤ 0 → (∃ (M3 : aM), aE 43 [aR 3, aI 1] (SH L) M1 ([], (SH L), M3) ∧ ((¬ a1 = 0 → aX xc_44 (aSeek xc_44 180) [aR 3, aI (aW (a1 + (-1))), aI a2, aI a3, aI 15] [] (SH L) (aSet M3 3 8 (max 0 (aW ((M3 3 8) - 1)))) o) ∧ (¬ (¬ a1 = 0) → o = ([], (SH L), M3))))) ∧ (¬ (v2 ≤ 0) → (∃ (M4 : aM) (v5 : Int), aE 42 [aI a4] (SH L) M1 ([aI v5], (SH L), M4) ∧ (∃ (M6 : aM), aE 43 [aR 3, aI v5] (SH L) M4 ([], (SH L), M6) ∧ (∃ (M7 : aM), aE 39 [aR 3, aI a4] (SH L) M6 ([], (SH L), M7) ∧ aX xc_44 (aSeek xc_44 180) [aR 3, aI a1, aI 1, aI a3, aI a4] [] (SH L) M7 o))))))) ∧ (¬ (a2 = 0) → ((¬ a4 = 3 → aX xc_44 (aSeek xc_44 97) [aR 3, aI a1, aU, aI a3, aI a4] [aI a4, aR (M 3 3)] (SH L) M o) ∧ (¬ (¬ a4 = 3) → (∃ (M8 : aM) (v9 : Int), aE 30 [aR 3] (SH L) M ([aJ v9], (SH L), M8) ∧ aX xc_44 (aSeek xc_44 97) [aR 3, aI a1, aU, aI a3, aI a4] [aI (aW (1000 + (aW v9))), aR (M 3 3)] (SH L) M8 o)))))) : aX xc_44 (aSeek xc_44 69) [aR 3, aI a1, aI a2, aI a3, aI a4] [] (SH L) M o := by
  by_cases cc : a2 = 0
  · replace h := h.1 cc
    have t10 : aX xc_44 (aSeek xc_44 121) [aR 3, aI a1, aI a2, aI a3, aI a4] [] (SH L) M o := by
      obtain ⟨M1, v2, k11, h⟩ := h
      have h2 : aX xc_44 (aSeek xc_44 126) [aR 3, aI a1, aI a2, aI a3, aI a4] [aI v2] (SH L) M1 o := by
        by_cases cc : v2 ≤ 0
        · replace h := h.1 cc
          have t12 : aX xc_44 (aSeek xc_44 149) [aR 3, aI a1, aI a2, aI a3, aI a4] [] (SH L) M1 o := by
            obtain ⟨M3, k13, h⟩ := h
            have h2 : aX xc_44 (aSeek xc_44 154) [aR 3, aI a1, aI a2, aI a3, aI a4] [] (SH L) M3 o := by
              by_cases cc : ¬ a1 = 0
              · replace h := h.1 cc
                have t14 : aX xc_44 (aSeek xc_44 159) [aR 3, aI a1, aI a2, aI a3, aI a4] [] (SH L) M3 o := by
                  exact aX_seg 11 (fun n g => g) (h)
                exact aX_seg 2 (fun n g => ip cc (g)) t14
              · replace h := h.2 cc
                have t15 : aX xc_44 (aSeek xc_44 158) [aR 3, aI a1, aI a2, aI a3, aI a4] [] (SH L) M3 o := by
                  subst h
                  exact ⟨1, rfl⟩
                exact aX_seg 2 (fun n g => in_ cc (g)) t15
            exact aX_seg 2 (fun n g => g) (aX_callv (rfl) rfl rfl rfl k13 h2)
          exact aX_seg 1 (fun n g => ip cc (g)) t12
        · replace h := h.2 cc
          have t16 : aX xc_44 (aSeek xc_44 129) [aR 3, aI a1, aI a2, aI a3, aI a4] [] (SH L) M1 o := by
            obtain ⟨M4, v5, k17, h⟩ := h
            have h2 : aX xc_44 (aSeek xc_44 135) [aR 3, aI a1, aI a2, aI a3, aI a4] [aI v5, aR 3] (SH L) M4 o := by
              obtain ⟨M6, k18, h⟩ := h
              have h2 : aX xc_44 (aSeek xc_44 138) [aR 3, aI a1, aI a2, aI a3, aI a4] [] (SH L) M6 o := by
                obtain ⟨M7, k19, h⟩ := h
                have h2 : aX xc_44 (aSeek xc_44 144) [aR 3, aI a1, aI a2, aI a3, aI a4] [] (SH L) M7 o := by
                  exact aX_seg 3 (fun n g => g) (h)
                exact aX_seg 2 (fun n g => g) (aX_callv (rfl) rfl rfl rfl k19 h2)
              exact aX_callv (rfl) rfl rfl rfl k18 h2
            exact aX_seg 2 (fun n g => g) (aX_calls rfl rfl rfl k17 h2)
          exact aX_seg 1 (fun n g => in_ cc (g)) t16
      exact aX_seg 1 (fun n g => g) (aX_calls rfl rfl rfl k11 h2)
    exact aX_seg 2 (fun n g => ip cc (g)) t10
  · replace h := h.2 cc
    have t20 : aX xc_44 (aSeek xc_44 73) [aR 3, aI a1, aI a2, aI a3, aI a4] [] (SH L) M o := by
      by_cases cc : ¬ a4 = 3
      · replace h := h.1 cc
        have t21 : aX xc_44 (aSeek xc_44 95) [aR 3, aI a1, aI a2, aI a3, aI a4] [aR (M 3 3)] (SH L) M o := by
          exact aX_seg 1 (fun n g => g) (aX_le (ls := [aR 3, aI a1, aU, aI a3, aI a4]) (ls1 := [aR 3, aI a1, aI a2, aI a3, aI a4]) (⟨Or.inr rfl, ⟨Or.inr rfl, ⟨Or.inl rfl, ⟨Or.inr rfl, ⟨Or.inr rfl, trivial⟩⟩⟩⟩⟩) h)
        exact aX_seg 5 (fun n g => ip cc (g)) t21
      · replace h := h.2 cc
        have t22 : aX xc_44 (aSeek xc_44 83) [aR 3, aI a1, aI a2, aI a3, aI a4] [aR (M 3 3)] (SH L) M o := by
          obtain ⟨M8, v9, k23, h⟩ := h
          have h2 : aX xc_44 (aSeek xc_44 90) [aR 3, aI a1, aI a2, aI a3, aI a4] [aJ v9, aI 1000, aR (M 3 3)] (SH L) M8 o := by
            exact aX_seg 3 (fun n g => g) (aX_le (ls := [aR 3, aI a1, aU, aI a3, aI a4]) (ls1 := [aR 3, aI a1, aI a2, aI a3, aI a4]) (⟨Or.inr rfl, ⟨Or.inr rfl, ⟨Or.inl rfl, ⟨Or.inr rfl, ⟨Or.inr rfl, trivial⟩⟩⟩⟩⟩) h)
          exact aX_seg 2 (fun n g => g) (aX_callv (rfl) rfl rfl rfl k23 h2)
        exact aX_seg 5 (fun n g => in_ cc (g)) t22
    exact aX_seg 2 (fun n g => in_ cc (g)) t20
set_option maxRecDepth 100000 in
theorem bl_44_97 {L : Nat} {a1 a3 a4 b0 b1 : Int} {M : aM} {o : aO} (h : (aK (SH L) b0 = 19 ∧ ∃ (M1 : aM), aE 40 [aR b0, aI b1] (SH L) M ([], (SH L), M1) ∧ (∃ (M2 : aM) (v3 : Int), aE 41 [aI a4] (SH L) M1 ([aI v3], (SH L), M2) ∧ ((v3 = 0 → aX xc_44 (aSeek xc_44 116) [aR 3, aI a1, aI 0, aI a3, aU] [aI 3] (SH L) M2 o) ∧ (¬ (v3 = 0) → aX xc_44 (aSeek xc_44 116) [aR 3, aI a1, aI 0, aI a3, aU] [aI a4] (SH L) M2 o))))) : aX xc_44 (aSeek xc_44 97) [aR 3, aI a1, aU, aI a3, aI a4] [aI b1, aR b0] (SH L) M o := by
  obtain ⟨c4, h⟩ := h
  obtain ⟨M1, k5, h⟩ := h
  have h2 : aX xc_44 (aSeek xc_44 100) [aR 3, aI a1, aU, aI a3, aI a4] [] (SH L) M1 o := by
    obtain ⟨M2, v3, k6, h⟩ := h
    have h2 : aX xc_44 (aSeek xc_44 107) [aR 3, aI a1, aI 0, aI a3, aI a4] [aI v3] (SH L) M2 o := by
      by_cases cc : v3 = 0
      · replace h := h.1 cc
        have t7 : aX xc_44 (aSeek xc_44 115) [aR 3, aI a1, aI 0, aI a3, aI a4] [] (SH L) M2 o := by
          exact aX_seg 1 (fun n g => g) (aX_le (ls := [aR 3, aI a1, aI 0, aI a3, aU]) (ls1 := [aR 3, aI a1, aI 0, aI a3, aI a4]) (⟨Or.inr rfl, ⟨Or.inr rfl, ⟨Or.inr rfl, ⟨Or.inr rfl, ⟨Or.inl rfl, trivial⟩⟩⟩⟩⟩) h)
        exact aX_seg 1 (fun n g => ip cc (g)) t7
      · replace h := h.2 cc
        have t8 : aX xc_44 (aSeek xc_44 110) [aR 3, aI a1, aI 0, aI a3, aI a4] [] (SH L) M2 o := by
          exact aX_seg 2 (fun n g => g) (aX_le (ls := [aR 3, aI a1, aI 0, aI a3, aU]) (ls1 := [aR 3, aI a1, aI 0, aI a3, aI a4]) (⟨Or.inr rfl, ⟨Or.inr rfl, ⟨Or.inr rfl, ⟨Or.inr rfl, ⟨Or.inl rfl, trivial⟩⟩⟩⟩⟩) h)
        exact aX_seg 1 (fun n g => in_ cc (g)) t8
    exact aX_seg 3 (fun n g => g) (aX_calls rfl rfl rfl k6 h2)
  exact aX_callv (c4) rfl rfl rfl k5 h2
set_option maxRecDepth 100000 in
theorem bl_44_116 {L : Nat} {a1 a2 a3 b0 : Int} {M : aM} {o : aO} (h : aX xc_44 (aSeek xc_44 180) [aR 3, aI a1, aI a2, aI a3, aI b0] [] (SH L) M o) : aX xc_44 (aSeek xc_44 116) [aR 3, aI a1, aI a2, aI a3, aU] [aI b0] (SH L) M o := by
  exact aX_seg 2 (fun n g => g) (h)
set_option maxRecDepth 100000 in
theorem bl_44_180 {L : Nat} {a1 a2 a3 a4 : Int} {M : aM} {o : aO} (h : (∃ (M1 : aM) (v2 : Int), aE 29 [aR 3, aI a4] (SH L) M ([aI v2], (SH L), M1) ∧ aX xc_44 (aSeek xc_44 11) [aR 3, aI a1, aI a2, aI (aW (a3 + 1)), aU] [] (SH L) M1 o)) : aX xc_44 (aSeek xc_44 180) [aR 3, aI a1, aI a2, aI a3, aI a4] [] (SH L) M o := by
  obtain ⟨M1, v2, k3, h⟩ := h
  have h2 : aX xc_44 (aSeek xc_44 186) [aR 3, aI a1, aI a2, aI a3, aI a4] [aI v2] (SH L) M1 o := by
    exact aX_seg 3 (fun n g => g) (aX_le (ls := [aR 3, aI a1, aI a2, aI (aW (a3 + 1)), aU]) (ls1 := [aR 3, aI a1, aI a2, aI (aW (a3 + 1)), aI a4]) (⟨Or.inr rfl, ⟨Or.inr rfl, ⟨Or.inr rfl, ⟨Or.inr rfl, ⟨Or.inl rfl, trivial⟩⟩⟩⟩⟩) h)
  exact aX_seg 2 (fun n g => g) (aX_callv (rfl) rfl rfl rfl k3 h2)
/- TypeLock$Reader.parseGive()V -/
set_option maxRecDepth 100000 in
theorem en_45 {L : Nat} {M : aM} {o : aO} (h : (∃ (M1 : aM) (v2 : Int), aE 29 [aR 3, aI 34] (SH L) M ([aI v2], (SH L), M1) ∧ (∃ (M3 : aM) (v4 : Int), aE 29 [aR 3, aI 5] (SH L) M1 ([aI v4], (SH L), M3) ∧ (aK (SH L) (M3 3 3) = 19) ∧ (aK (SH L) (M3 3 3) = 19) ∧ (∃ (M5 : aM), aE 44 [aR 3] (SH L) (aSet M3 (M3 3 3) 14 (M3 (M3 3 3) 13)) ([], (SH L), M5) ∧ (aK (SH L) (M5 3 3) = 19) ∧ (aK (SH L) (M5 3 3) = 19) ∧ o = ([], (SH L), aSet M5 (M5 3 3) 15 (M5 (M5 3 3) 13)))))) : aE 45 [aR 3] (SH L) M o := by
  have q : aX xc_45 (aSeek xc_45 0) [aR 3] [] (SH L) M o := by
    obtain ⟨M1, v2, k6, h⟩ := h
    have h2 : aX xc_45 (aSeek xc_45 6) [aR 3] [aI v2] (SH L) M1 o := by
      obtain ⟨M3, v4, k7, h⟩ := h
      have h2 : aX xc_45 (aSeek xc_45 12) [aR 3] [aI v4] (SH L) M3 o := by
        obtain ⟨c8, h⟩ := h
        obtain ⟨c9, h⟩ := h
        obtain ⟨M5, k10, h⟩ := h
        have h2 : aX xc_45 (aSeek xc_45 31) [aR 3] [] (SH L) M5 o := by
          obtain ⟨c11, h⟩ := h
          obtain ⟨c12, h⟩ := h
          subst h
          exact ⟨7, ip c11 (ip c12 (rfl))⟩
        exact aX_seg 8 (fun n g => ip c8 (ip c9 (g))) (aX_callv (rfl) rfl rfl rfl k10 h2)
      exact aX_seg 3 (fun n g => g) (aX_callv (rfl) rfl rfl rfl k7 h2)
    exact aX_seg 2 (fun n g => g) (aX_callv (rfl) rfl rfl rfl k6 h2)
  exact q
/- TypeLock$Reader.passNots()Z -/
set_option maxRecDepth 100000 in
theorem en_46 {L : Nat} {M : aM} {o : aO} (h : aX xc_46 (aSeek xc_46 4) [aR 3, aI 0, aI 0] [] (SH L) M o) : aE 46 [aR 3] (SH L) M o := by
  have q : aX xc_46 (aSeek xc_46 0) [aR 3, aU, aU] [] (SH L) M o := by
    exact aX_seg 4 (fun n g => g) (h)
  exact q
set_option maxRecDepth 100000 in
theorem bl_46_4 {L : Nat} {a1 a2 : Int} {M : aM} {o : aO} (h : ((400 < a2 → ((a1 : Int) = 0 ∨ (a1 : Int) = 1) ∧ o = ([aI a1], (SH L), M)) ∧ (¬ (400 < a2) → ((¬ (M 3 0) = 0 → ((a1 : Int) = 0 ∨ (a1 : Int) = 1) ∧ o = ([aI a1], (SH L), M)) ∧ (¬ (¬ (M 3 0) = 0) → (∃ (M1 : aM) (v2 : Int), aE 26 [aR 3] (SH L) M ([aI v2], (SH L), M1) ∧ ((¬ v2 = 39 → ((a1 : Int) = 0 ∨ (a1 : Int) = 1) ∧ o = ([aI a1], (SH L), M1)) ∧ (¬ (¬ v2 = 39) → (∃ (M3 : aM) (v4 : Int), aE 29 [aR 3, aI 39] (SH L) M1 ([aI v4], (SH L), M3) ∧ ((¬ a1 = 0 → aX xc_46 (aSeek xc_46 43) [aR 3, aU, aI a2] [aI 0] (SH L) M3 o) ∧ (¬ (¬ a1 = 0) → aX xc_46 (aSeek xc_46 43) [aR 3, aU, aI a2] [aI 1] (SH L) M3 o))))))))))) : aX xc_46 (aSeek xc_46 4) [aR 3, aI a1, aI a2] [] (SH L) M o := by
  by_cases cc : 400 < a2
  · replace h := h.1 cc
    have t5 : aX xc_46 (aSeek xc_46 50) [aR 3, aI a1, aI a2] [] (SH L) M o := by
      obtain ⟨c6, h⟩ := h
      subst h
      exact ⟨2, ip c6 (rfl)⟩
    exact aX_seg 3 (fun n g => ip cc (g)) t5
  · replace h := h.2 cc
    have t7 : aX xc_46 (aSeek xc_46 11) [aR 3, aI a1, aI a2] [] (SH L) M o := by
      by_cases cc : ¬ (M 3 0) = 0
      · replace h := h.1 cc
        have t8 : aX xc_46 (aSeek xc_46 50) [aR 3, aI a1, aI a2] [] (SH L) M o := by
          obtain ⟨c9, h⟩ := h
          subst h
          exact ⟨2, ip c9 (rfl)⟩
        exact aX_seg 3 (fun n g => ip cc (g)) t8
      · replace h := h.2 cc
        have t10 : aX xc_46 (aSeek xc_46 18) [aR 3, aI a1, aI a2] [] (SH L) M o := by
          obtain ⟨M1, v2, k11, h⟩ := h
          have h2 : aX xc_46 (aSeek xc_46 22) [aR 3, aI a1, aI a2] [aI v2] (SH L) M1 o := by
            by_cases cc : ¬ v2 = 39
            · replace h := h.1 cc
              have t12 : aX xc_46 (aSeek xc_46 50) [aR 3, aI a1, aI a2] [] (SH L) M1 o := by
                obtain ⟨c13, h⟩ := h
                subst h
                exact ⟨2, ip c13 (rfl)⟩
              exact aX_seg 2 (fun n g => ip cc (g)) t12
            · replace h := h.2 cc
              have t14 : aX xc_46 (aSeek xc_46 27) [aR 3, aI a1, aI a2] [] (SH L) M1 o := by
                obtain ⟨M3, v4, k15, h⟩ := h
                have h2 : aX xc_46 (aSeek xc_46 33) [aR 3, aI a1, aI a2] [aI v4] (SH L) M3 o := by
                  by_cases cc : ¬ a1 = 0
                  · replace h := h.1 cc
                    have t16 : aX xc_46 (aSeek xc_46 42) [aR 3, aI a1, aI a2] [] (SH L) M3 o := by
                      exact aX_seg 1 (fun n g => g) (aX_le (ls := [aR 3, aU, aI a2]) (ls1 := [aR 3, aI a1, aI a2]) (⟨Or.inr rfl, ⟨Or.inl rfl, ⟨Or.inr rfl, trivial⟩⟩⟩) h)
                    exact aX_seg 3 (fun n g => ip cc (g)) t16
                  · replace h := h.2 cc
                    have t17 : aX xc_46 (aSeek xc_46 38) [aR 3, aI a1, aI a2] [] (SH L) M3 o := by
                      exact aX_seg 2 (fun n g => g) (aX_le (ls := [aR 3, aU, aI a2]) (ls1 := [aR 3, aI a1, aI a2]) (⟨Or.inr rfl, ⟨Or.inl rfl, ⟨Or.inr rfl, trivial⟩⟩⟩) h)
                    exact aX_seg 3 (fun n g => in_ cc (g)) t17
                exact aX_seg 2 (fun n g => g) (aX_callv (rfl) rfl rfl rfl k15 h2)
              exact aX_seg 2 (fun n g => in_ cc (g)) t14
          exact aX_seg 1 (fun n g => g) (aX_callv (rfl) rfl rfl rfl k11 h2)
        exact aX_seg 3 (fun n g => in_ cc (g)) t10
    exact aX_seg 3 (fun n g => in_ cc (g)) t7
set_option maxRecDepth 100000 in
theorem bl_46_43 {L : Nat} {a2 b0 : Int} {M : aM} {o : aO} (h : aX xc_46 (aSeek xc_46 4) [aR 3, aI b0, aI (aW (a2 + 1))] [] (SH L) M o) : aX xc_46 (aSeek xc_46 43) [aR 3, aU, aI a2] [aI b0] (SH L) M o := by
  exact aX_seg 3 (fun n g => g) (h)
/- TypeLock$Reader.parseCondition()V -/
set_option maxRecDepth 100000 in
theorem en_47 {L : Nat} {M : aM} {o : aO} (h : aX xc_47 (aSeek xc_47 6) [aR 3, aI 0, aI 0, aI 0, aU, aU] [] (SH L) M o) : aE 47 [aR 3] (SH L) M o := by
  have q : aX xc_47 (aSeek xc_47 0) [aR 3, aU, aU, aU, aU, aU] [] (SH L) M o := by
    exact aX_seg 6 (fun n g => g) (h)
  exact q
set_option maxRecDepth 100000 in
theorem bl_47_6 {L : Nat} {a1 a2 a3 : Int} {M : aM} {o : aO} (h : ((400 < a3 → o = ([], (SH L), M)) ∧ (¬ (400 < a3) → ((¬ (M 3 0) = 0 → o = ([], (SH L), M)) ∧ (¬ (¬ (M 3 0) = 0) → (∃ (M1 : aM) (v2 : Int), aE 46 [aR 3] (SH L) M ([aI v2], (SH L), M1) ∧ (∃ (M3 : aM), aE 44 [aR 3] (SH L) M1 ([], (SH L), M3) ∧ (∃ (M4 : aM) (v5 : Int), aE 26 [aR 3] (SH L) M3 ([aI v5], (SH L), M4) ∧ ((v5 < 10 → aX xc_47 (aSeek xc_47 56) [aR 3, aI a1, aI a2, aI a3, aI v2, aI v5] [aR 3] (SH L) M4 o) ∧ (¬ (v5 < 10) → ((13 < v5 → aX xc_47 (aSeek xc_47 56) [aR 3, aI a1, aI a2, aI a3, aI v2, aI v5] [aR 3] (SH L) M4 o) ∧ (¬ (13 < v5) → aX xc_47 (aSeek xc_47 58) [aR 3, aI a1, aI a2, aI a3, aI v2, aI v5] [aI v5, aR 3] (SH L) M4 o)))))))))))) : aX xc_47 (aSeek xc_47 6) [aR 3, aI a1, aI a2, aI a3, aU, aU] [] (SH L) M o := by
  by_cases cc : 400 < a3
  · replace h := h.1 cc
    have t6 : aX xc_47 (aSeek xc_47 177) [aR 3, aI a1, aI a2, aI a3, aU, aU] [] (SH L) M o := by
      subst h
      exact ⟨1, rfl⟩
    exact aX_seg 3 (fun n g => ip cc (g)) t6
  · replace h := h.2 cc
    have t7 : aX xc_47 (aSeek xc_47 13) [aR 3, aI a1, aI a2, aI a3, aU, aU] [] (SH L) M o := by
      by_cases cc : ¬ (M 3 0) = 0
      · replace h := h.1 cc
        have t8 : aX xc_47 (aSeek xc_47 177) [aR 3, aI a1, aI a2, aI a3, aU, aU] [] (SH L) M o := by
          subst h
          exact ⟨1, rfl⟩
        exact aX_seg 3 (fun n g => ip cc (g)) t8
      · replace h := h.2 cc
        have t9 : aX xc_47 (aSeek xc_47 20) [aR 3, aI a1, aI a2, aI a3, aU, aU] [] (SH L) M o := by
          obtain ⟨M1, v2, k10, h⟩ := h
          have h2 : aX xc_47 (aSeek xc_47 24) [aR 3, aI a1, aI a2, aI a3, aU, aU] [aI v2] (SH L) M1 o := by
            obtain ⟨M3, k11, h⟩ := h
            have h2 : aX xc_47 (aSeek xc_47 30) [aR 3, aI a1, aI a2, aI a3, aI v2, aU] [] (SH L) M3 o := by
              obtain ⟨M4, v5, k12, h⟩ := h
              have h2 : aX xc_47 (aSeek xc_47 34) [aR 3, aI a1, aI a2, aI a3, aI v2, aU] [aI v5] (SH L) M4 o := by
                by_cases cc : v5 < 10
                · replace h := h.1 cc
                  have t13 : aX xc_47 (aSeek xc_47 56) [aR 3, aI a1, aI a2, aI a3, aI v2, aI v5] [aR 3] (SH L) M4 o := by
                    exact h
                  exact aX_seg 5 (fun n g => ip cc (g)) t13
                · replace h := h.2 cc
                  have t14 : aX xc_47 (aSeek xc_47 44) [aR 3, aI a1, aI a2, aI a3, aI v2, aI v5] [aR 3] (SH L) M4 o := by
                    by_cases cc : 13 < v5
                    · replace h := h.1 cc
                      have t15 : aX xc_47 (aSeek xc_47 56) [aR 3, aI a1, aI a2, aI a3, aI v2, aI v5] [aR 3] (SH L) M4 o := by
                        exact h
                      exact aX_seg 3 (fun n g => ip cc (g)) t15
                    · replace h := h.2 cc
                      have t16 : aX xc_47 (aSeek xc_47 51) [aR 3, aI a1, aI a2, aI a3, aI v2, aI v5] [aR 3] (SH L) M4 o := by
                        exact aX_seg 2 (fun n g => g) (h)
                      exact aX_seg 3 (fun n g => in_ cc (g)) t16
                  exact aX_seg 5 (fun n g => in_ cc (g)) t14
              exact aX_seg 1 (fun n g => g) (aX_callv (rfl) rfl rfl rfl k12 h2)
            exact aX_seg 2 (fun n g => g) (aX_callv (rfl) rfl rfl rfl k11 h2)
          exact aX_seg 1 (fun n g => g) (aX_callv (rfl) rfl rfl rfl k10 h2)
        exact aX_seg 3 (fun n g => in_ cc (g)) t9
    exact aX_seg 3 (fun n g => in_ cc (g)) t7
set_option maxRecDepth 100000 in
theorem bl_47_56 {L : Nat} {a1 a2 a3 a4 a5 b0 : Int} {M : aM} {o : aO} (h : aX xc_47 (aSeek xc_47 58) [aR 3, aI a1, aI a2, aI a3, aI a4, aI a5] [aI 10, aR b0] (SH L) M o) : aX xc_47 (aSeek xc_47 56) [aR 3, aI a1, aI a2, aI a3, aI a4, aI a5] [aR b0] (SH L) M o := by
  exact aX_seg 1 (fun n g => g) (h)
set_option maxRecDepth 100000 in
theorem bl_47_58 {L : Nat} {a1 a2 a3 a4 a5 b0 b1 : Int} {M : aM} {o : aO} (h : (aK (SH L) b0 = 18 ∧ ∃ (M1 : aM) (v2 : Int), aE 29 [aR b0, aI b1] (SH L) M ([aI v2], (SH L), M1) ∧ (∃ (M3 : aM), aE 44 [aR 3] (SH L) M1 ([], (SH L), M3) ∧ (aK (SH L) (M3 3 3) = 19 ∧ ∃ (M4 : aM), aE 40 [aR (M3 3 3), aI a5] (SH L) M3 ([], (SH L), M4) ∧ ((a4 = 0 → aX xc_47 (aSeek xc_47 89) [aR 3, aI a1, aI a2, aI a3, aU, aU] [] (SH L) M4 o) ∧ (¬ (a4 = 0) → (aK (SH L) (M4 3 3) = 19 ∧ ∃ (M5 : aM), aE 40 [aR (M4 3 3), aI 39] (SH L) M4 ([], (SH L), M5) ∧ aX xc_47 (aSeek xc_47 89) [aR 3, aI a1, aI a2, aI a3, aU, aU] [] (SH L) M5 o))))))) : aX xc_47 (aSeek xc_47 58) [aR 3, aI a1, aI a2, aI a3, aI a4, aI a5] [aI b1, aR b0] (SH L) M o := by
  obtain ⟨c6, h⟩ := h
  obtain ⟨M1, v2, k7, h⟩ := h
  have h2 : aX xc_47 (aSeek xc_47 61) [aR 3, aI a1, aI a2, aI a3, aI a4, aI a5] [aI v2] (SH L) M1 o := by
    obtain ⟨M3, k8, h⟩ := h
    have h2 : aX xc_47 (aSeek xc_47 66) [aR 3, aI a1, aI a2, aI a3, aI a4, aI a5] [] (SH L) M3 o := by
      obtain ⟨c9, h⟩ := h
      obtain ⟨M4, k10, h⟩ := h
      have h2 : aX xc_47 (aSeek xc_47 75) [aR 3, aI a1, aI a2, aI a3, aI a4, aI a5] [] (SH L) M4 o := by
        by_cases cc : a4 = 0
        · replace h := h.1 cc
          have t11 : aX xc_47 (aSeek xc_47 89) [aR 3, aI a1, aI a2, aI a3, aI a4, aI a5] [] (SH L) M4 o := by
            exact aX_le (ls := [aR 3, aI a1, aI a2, aI a3, aU, aU]) (ls1 := [aR 3, aI a1, aI a2, aI a3, aI a4, aI a5]) (⟨Or.inr rfl, ⟨Or.inr rfl, ⟨Or.inr rfl, ⟨Or.inr rfl, ⟨Or.inl rfl, ⟨Or.inl rfl, trivial⟩⟩⟩⟩⟩⟩) h
          exact aX_seg 2 (fun n g => ip cc (g)) t11
        · replace h := h.2 cc
          have t12 : aX xc_47 (aSeek xc_47 80) [aR 3, aI a1, aI a2, aI a3, aI a4, aI a5] [] (SH L) M4 o := by
            obtain ⟨c13, h⟩ := h
            obtain ⟨M5, k14, h⟩ := h
            have h2 : aX xc_47 (aSeek xc_47 89) [aR 3, aI a1, aI a2, aI a3, aI a4, aI a5] [] (SH L) M5 o := by
              exact aX_le (ls := [aR 3, aI a1, aI a2, aI a3, aU, aU]) (ls1 := [aR 3, aI a1, aI a2, aI a3, aI a4, aI a5]) (⟨Or.inr rfl, ⟨Or.inr rfl, ⟨Or.inr rfl, ⟨Or.inr rfl, ⟨Or.inl rfl, ⟨Or.inl rfl, trivial⟩⟩⟩⟩⟩⟩) h
            exact aX_seg 3 (fun n g => g) (aX_callv (c13) rfl rfl rfl k14 h2)
          exact aX_seg 2 (fun n g => in_ cc (g)) t12
      exact aX_seg 3 (fun n g => g) (aX_callv (c9) rfl rfl rfl k10 h2)
    exact aX_seg 2 (fun n g => g) (aX_callv (rfl) rfl rfl rfl k8 h2)
  exact aX_callv (c6) rfl rfl rfl k7 h2
set_option maxRecDepth 100000 in
theorem bl_47_89 {L : Nat} {a1 a2 a3 : Int} {M : aM} {o : aO} (h : ((a2 = 0 → aX xc_47 (aSeek xc_47 102) [aR 3, aI a1, aU, aI a3, aU, aU] [] (SH L) M o) ∧ (¬ (a2 = 0) → (aK (SH L) (M 3 3) = 19 ∧ ∃ (M1 : aM), aE 40 [aR (M 3 3), aI 38] (SH L) M ([], (SH L), M1) ∧ aX xc_47 (aSeek xc_47 102) [aR 3, aI a1, aU, aI a3, aU, aU] [] (SH L) M1 o)))) : aX xc_47 (aSeek xc_47 89) [aR 3, aI a1, aI a2, aI a3, aU, aU] [] (SH L) M o := by
  by_cases cc : a2 = 0
  · replace h := h.1 cc
    have t2 : aX xc_47 (aSeek xc_47 102) [aR 3, aI a1, aI a2, aI a3, aU, aU] [] (SH L) M o := by
      exact aX_le (ls := [aR 3, aI a1, aU, aI a3, aU, aU]) (ls1 := [aR 3, aI a1, aI a2, aI a3, aU, aU]) (⟨Or.inr rfl, ⟨Or.inr rfl, ⟨Or.inl rfl, ⟨Or.inr rfl, ⟨Or.inl rfl, ⟨Or.inl rfl, trivial⟩⟩⟩⟩⟩⟩) h
    exact aX_seg 2 (fun n g => ip cc (g)) t2
  · replace h := h.2 cc
    have t3 : aX xc_47 (aSeek xc_47 93) [aR 3, aI a1, aI a2, aI a3, aU, aU] [] (SH L) M o := by
      obtain ⟨c4, h⟩ := h
      obtain ⟨M1, k5, h⟩ := h
      have h2 : aX xc_47 (aSeek xc_47 102) [aR 3, aI a1, aI a2, aI a3, aU, aU] [] (SH L) M1 o := by
        exact aX_le (ls := [aR 3, aI a1, aU, aI a3, aU, aU]) (ls1 := [aR 3, aI a1, aI a2, aI a3, aU, aU]) (⟨Or.inr rfl, ⟨Or.inr rfl, ⟨Or.inl rfl, ⟨Or.inr rfl, ⟨Or.inl rfl, ⟨Or.inl rfl, trivial⟩⟩⟩⟩⟩⟩) h
      exact aX_seg 3 (fun n g => g) (aX_callv (c4) rfl rfl rfl k5 h2)
    exact aX_seg 2 (fun n g => in_ cc (g)) t3
set_option maxRecDepth 100000 in
theorem bl_47_102 {L : Nat} {a1 a3 : Int} {M : aM} {o : aO} (h : (∃ (M1 : aM) (v2 : Int), aE 26 [aR 3] (SH L) M ([aI v2], (SH L), M1) ∧ ((¬ v2 = 38 → aX xc_47 (aSeek xc_47 116) [aR 3, aI a1, aU, aI a3, aU, aU] [aI 0] (SH L) M1 o) ∧ (¬ (¬ v2 = 38) → aX xc_47 (aSeek xc_47 116) [aR 3, aI a1, aU, aI a3, aU, aU] [aI 1] (SH L) M1 o)))) : aX xc_47 (aSeek xc_47 102) [aR 3, aI a1, aU, aI a3, aU, aU] [] (SH L) M o := by
  obtain ⟨M1, v2, k3, h⟩ := h
  have h2 : aX xc_47 (aSeek xc_47 106) [aR 3, aI a1, aU, aI a3, aU, aU] [aI v2] (SH L) M1 o := by
    by_cases cc : ¬ v2 = 38
    · replace h := h.1 cc
      have t4 : aX xc_47 (aSeek xc_47 115) [aR 3, aI a1, aU, aI a3, aU, aU] [] (SH L) M1 o := by
        exact aX_seg 1 (fun n g => g) (h)
      exact aX_seg 2 (fun n g => ip cc (g)) t4
    · replace h := h.2 cc
      have t5 : aX xc_47 (aSeek xc_47 111) [aR 3, aI a1, aU, aI a3, aU, aU] [] (SH L) M1 o := by
        exact aX_seg 2 (fun n g => g) (h)
      exact aX_seg 2 (fun n g => in_ cc (g)) t5
  exact aX_seg 1 (fun n g => g) (aX_callv (rfl) rfl rfl rfl k3 h2)
set_option maxRecDepth 100000 in
theorem bl_47_116 {L : Nat} {a1 a3 b0 : Int} {M : aM} {o : aO} (h : ((¬ b0 = 0 → aX xc_47 (aSeek xc_47 134) [aR 3, aI a1, aI b0, aI a3, aU, aU] [] (SH L) M o) ∧ (¬ (¬ b0 = 0) → ((a1 = 0 → aX xc_47 (aSeek xc_47 134) [aR 3, aI a1, aI b0, aI a3, aU, aU] [] (SH L) M o) ∧ (¬ (a1 = 0) → (aK (SH L) (M 3 3) = 19 ∧ ∃ (M1 : aM), aE 40 [aR (M 3 3), aI 37] (SH L) M ([], (SH L), M1) ∧ aX xc_47 (aSeek xc_47 134) [aR 3, aI a1, aI b0, aI a3, aU, aU] [] (SH L) M1 o)))))) : aX xc_47 (aSeek xc_47 116) [aR 3, aI a1, aU, aI a3, aU, aU] [aI b0] (SH L) M o := by
  by_cases cc : ¬ b0 = 0
  · replace h := h.1 cc
    have t2 : aX xc_47 (aSeek xc_47 134) [aR 3, aI a1, aI b0, aI a3, aU, aU] [] (SH L) M o := by
      exact h
    exact aX_seg 3 (fun n g => ip cc (g)) t2
  · replace h := h.2 cc
    have t3 : aX xc_47 (aSeek xc_47 121) [aR 3, aI a1, aI b0, aI a3, aU, aU] [] (SH L) M o := by
      by_cases cc : a1 = 0
      · replace h := h.1 cc
        have t4 : aX xc_47 (aSeek xc_47 134) [aR 3, aI a1, aI b0, aI a3, aU, aU] [] (SH L) M o := by
          exact h
        exact aX_seg 2 (fun n g => ip cc (g)) t4
      · replace h := h.2 cc
        have t5 : aX xc_47 (aSeek xc_47 125) [aR 3, aI a1, aI b0, aI a3, aU, aU] [] (SH L) M o := by
          obtain ⟨c6, h⟩ := h
          obtain ⟨M1, k7, h⟩ := h
          have h2 : aX xc_47 (aSeek xc_47 134) [aR 3, aI a1, aI b0, aI a3, aU, aU] [] (SH L) M1 o := by
            exact h
          exact aX_seg 3 (fun n g => g) (aX_callv (c6) rfl rfl rfl k7 h2)
        exact aX_seg 2 (fun n g => in_ cc (g)) t5
    exact aX_seg 3 (fun n g => in_ cc (g)) t3
set_option maxRecDepth 100000 in
theorem bl_47_134 {L : Nat} {a1 a2 a3 : Int} {M : aM} {o : aO} (h : ((¬ a2 = 0 → aX xc_47 (aSeek xc_47 148) [aR 3, aI a1, aI a2, aI a3, aU, aU] [] (SH L) M o) ∧ (¬ (¬ a2 = 0) → (∃ (M1 : aM) (v2 : Int), aE 26 [aR 3] (SH L) M ([aI v2], (SH L), M1) ∧ ((v2 = 37 → aX xc_47 (aSeek xc_47 148) [aR 3, aI a1, aI a2, aI a3, aU, aU] [] (SH L) M1 o) ∧ (¬ (v2 = 37) → o = ([], (SH L), M1))))))) : aX xc_47 (aSeek xc_47 134) [aR 3, aI a1, aI a2, aI a3, aU, aU] [] (SH L) M o := by
  by_cases cc : ¬ a2 = 0
  · replace h := h.1 cc
    have t3 : aX xc_47 (aSeek xc_47 148) [aR 3, aI a1, aI a2, aI a3, aU, aU] [] (SH L) M o := by
      exact h
    exact aX_seg 2 (fun n g => ip cc (g)) t3
  · replace h := h.2 cc
    have t4 : aX xc_47 (aSeek xc_47 138) [aR 3, aI a1, aI a2, aI a3, aU, aU] [] (SH L) M o := by
      obtain ⟨M1, v2, k5, h⟩ := h
      have h2 : aX xc_47 (aSeek xc_47 142) [aR 3, aI a1, aI a2, aI a3, aU, aU] [aI v2] (SH L) M1 o := by
        by_cases cc : v2 = 37
        · replace h := h.1 cc
          have t6 : aX xc_47 (aSeek xc_47 148) [aR 3, aI a1, aI a2, aI a3, aU, aU] [] (SH L) M1 o := by
            exact h
          exact aX_seg 2 (fun n g => ip cc (g)) t6
        · replace h := h.2 cc
          have t7 : aX xc_47 (aSeek xc_47 147) [aR 3, aI a1, aI a2, aI a3, aU, aU] [] (SH L) M1 o := by
            subst h
            exact ⟨1, rfl⟩
          exact aX_seg 2 (fun n g => in_ cc (g)) t7
      exact aX_seg 1 (fun n g => g) (aX_callv (rfl) rfl rfl rfl k5 h2)
    exact aX_seg 2 (fun n g => in_ cc (g)) t4
set_option maxRecDepth 100000 in
theorem bl_47_148 {L : Nat} {a1 a2 a3 : Int} {M : aM} {o : aO} (h : ((¬ a1 = 0 → aX xc_47 (aSeek xc_47 156) [aR 3, aU, aI a2, aI a3, aU, aU] [] (SH L) M o) ∧ (¬ (¬ a1 = 0) → ((¬ a2 = 0 → aX xc_47 (aSeek xc_47 161) [aR 3, aU, aI a2, aI a3, aU, aU] [aI 0] (SH L) M o) ∧ (¬ (¬ a2 = 0) → aX xc_47 (aSeek xc_47 156) [aR 3, aU, aI a2, aI a3, aU, aU] [] (SH L) M o))))) : aX xc_47 (aSeek xc_47 148) [aR 3, aI a1, aI a2, aI a3, aU, aU] [] (SH L) M o := by
  by_cases cc : ¬ a1 = 0
  · replace h := h.1 cc
    have t1 : aX xc_47 (aSeek xc_47 156) [aR 3, aI a1, aI a2, aI a3, aU, aU] [] (SH L) M o := by
      exact aX_le (ls := [aR 3, aU, aI a2, aI a3, aU, aU]) (ls1 := [aR 3, aI a1, aI a2, aI a3, aU, aU]) (⟨Or.inr rfl, ⟨Or.inl rfl, ⟨Or.inr rfl, ⟨Or.inr rfl, ⟨Or.inl rfl, ⟨Or.inl rfl, trivial⟩⟩⟩⟩⟩⟩) h
    exact aX_seg 2 (fun n g => ip cc (g)) t1
  · replace h := h.2 cc
    have t2 : aX xc_47 (aSeek xc_47 152) [aR 3, aI a1, aI a2, aI a3, aU, aU] [] (SH L) M o := by
      by_cases cc : ¬ a2 = 0
      · replace h := h.1 cc
        have t3 : aX xc_47 (aSeek xc_47 160) [aR 3, aI a1, aI a2, aI a3, aU, aU] [] (SH L) M o := by
          exact aX_seg 1 (fun n g => g) (aX_le (ls := [aR 3, aU, aI a2, aI a3, aU, aU]) (ls1 := [aR 3, aI a1, aI a2, aI a3, aU, aU]) (⟨Or.inr rfl, ⟨Or.inl rfl, ⟨Or.inr rfl, ⟨Or.inr rfl, ⟨Or.inl rfl, ⟨Or.inl rfl, trivial⟩⟩⟩⟩⟩⟩) h)
        exact aX_seg 2 (fun n g => ip cc (g)) t3
      · replace h := h.2 cc
        have t4 : aX xc_47 (aSeek xc_47 156) [aR 3, aI a1, aI a2, aI a3, aU, aU] [] (SH L) M o := by
          exact aX_le (ls := [aR 3, aU, aI a2, aI a3, aU, aU]) (ls1 := [aR 3, aI a1, aI a2, aI a3, aU, aU]) (⟨Or.inr rfl, ⟨Or.inl rfl, ⟨Or.inr rfl, ⟨Or.inr rfl, ⟨Or.inl rfl, ⟨Or.inl rfl, trivial⟩⟩⟩⟩⟩⟩) h
        exact aX_seg 2 (fun n g => in_ cc (g)) t4
    exact aX_seg 2 (fun n g => in_ cc (g)) t2
set_option maxRecDepth 100000 in
theorem bl_47_156 {L : Nat} {a2 a3 : Int} {M : aM} {o : aO} (h : aX xc_47 (aSeek xc_47 161) [aR 3, aU, aI a2, aI a3, aU, aU] [aI 1] (SH L) M o) : aX xc_47 (aSeek xc_47 156) [aR 3, aU, aI a2, aI a3, aU, aU] [] (SH L) M o := by
  exact aX_seg 2 (fun n g => g) (h)
set_option maxRecDepth 100000 in
theorem bl_47_161 {L : Nat} {a2 a3 b0 : Int} {M : aM} {o : aO} (h : (∃ (M1 : aM) (v2 : Int), aE 26 [aR 3] (SH L) M ([aI v2], (SH L), M1) ∧ (∃ (M3 : aM) (v4 : Int), aE 29 [aR 3, aI v2] (SH L) M1 ([aI v4], (SH L), M3) ∧ aX xc_47 (aSeek xc_47 6) [aR 3, aI b0, aI a2, aI (aW (a3 + 1)), aU, aU] [] (SH L) M3 o))) : aX xc_47 (aSeek xc_47 161) [aR 3, aU, aI a2, aI a3, aU, aU] [aI b0] (SH L) M o := by
  obtain ⟨M1, v2, k5, h⟩ := h
  have h2 : aX xc_47 (aSeek xc_47 167) [aR 3, aI b0, aI a2, aI a3, aU, aU] [aI v2, aR 3] (SH L) M1 o := by
    obtain ⟨M3, v4, k6, h⟩ := h
    have h2 : aX xc_47 (aSeek xc_47 170) [aR 3, aI b0, aI a2, aI a3, aU, aU] [aI v4] (SH L) M3 o := by
      exact aX_seg 3 (fun n g => g) (h)
    exact aX_callv (rfl) rfl rfl rfl k6 h2
  exact aX_seg 3 (fun n g => g) (aX_callv (rfl) rfl rfl rfl k5 h2)
/- TypeLock$Reader.parseRule()V -/
set_option maxRecDepth 100000 in
theorem en_48 {L : Nat} {M : aM} {o : aO} (h : (aK (SH L) (M 3 3) = 19) ∧ (((M (M 3 3) 16) < 6 → (∃ (M1 : aM) (v2 : Int), aE 29 [aR 3, aI 35] (SH L) M ([aI v2], (SH L), M1) ∧ (∃ (M3 : aM) (v4 : Int), aE 29 [aR 3, aI 36] (SH L) M1 ([aI v4], (SH L), M3) ∧ (aK (SH L) (M3 3 3) = 19) ∧ (aK (SH L) (M3 3 3) = 19) ∧ (0 ≤ M (M 3 3) 16 ∧ M (M 3 3) 16 < aLn (SH L) 1 (aF (SH L) (M3 3 3) 17)) ∧ (∃ (M5 : aM), aE 47 [aR 3] (SH L) (aSet M3 (aF (SH L) (M3 3 3) 17) (M (M 3 3) 16) (M3 (M3 3 3) 13)) ([], (SH L), M5) ∧ (aK (SH L) (M5 3 3) = 19) ∧ (aK (SH L) (M5 3 3) = 19) ∧ (0 ≤ M (M 3 3) 16 ∧ M (M 3 3) 16 < aLn (SH L) 1 (aF (SH L) (M5 3 3) 18)) ∧ (aK (SH L) ((aSet M5 (aF (SH L) (M5 3 3) 18) (M (M 3 3) 16) (M5 (M5 3 3) 13)) 3 3) = 19) ∧ (aK (SH L) ((aSet M5 (aF (SH L) (M5 3 3) 18) (M (M 3 3) 16) (M5 (M5 3 3) 13)) 3 3) = 19) ∧ o = ([], (SH L), aSet (aSet M5 (aF (SH L) (M5 3 3) 18) (M (M 3 3) 16) (M5 (M5 3 3) 13)) ((aSet M5 (aF (SH L) (M5 3 3) 18) (M (M 3 3) 16) (M5 (M5 3 3) 13)) 3 3) 16 (aW (((aSet M5 (aF (SH L) (M5 3 3) 18) (M (M 3 3) 16) (M5 (M5 3 3) 13)) ((aSet M5 (aF (SH L) (M5 3 3) 18) (M (M 3 3) 16) (M5 (M5 3 3) 13)) 3 3) 16) + 1))))))) ∧ (¬ ((M (M 3 3) 16) < 6) → (∃ (M6 : aM) (v7 : Int), aE 27 [aR 3] (SH L) M ([aI v7], (SH L), M6) ∧ (∃ (M8 : aM), aE 28 [aR 3, aI 2, aI v7] (SH L) M6 ([], (SH L), M8) ∧ o = ([], (SH L), M8)))))) : aE 48 [aR 3] (SH L) M o := by
  have q : aX xc_48 (aSeek xc_48 0) [aR 3, aU] [] (SH L) M o := by
    obtain ⟨c9, h⟩ := h
    by_cases cc : (M (M 3 3) 16) < 6
    · replace h := h.1 cc
      have t10 : aX xc_48 (aSeek xc_48 24) [aR 3, aI (M (M 3 3) 16)] [] (SH L) M o := by
        obtain ⟨M1, v2, k11, h⟩ := h
        have h2 : aX xc_48 (aSeek xc_48 30) [aR 3, aI (M (M 3 3) 16)] [aI v2] (SH L) M1 o := by
          obtain ⟨M3, v4, k12, h⟩ := h
          have h2 : aX xc_48 (aSeek xc_48 37) [aR 3, aI (M (M 3 3) 16)] [aI v4] (SH L) M3 o := by
            obtain ⟨c13, h⟩ := h
            obtain ⟨c14, h⟩ := h
            obtain ⟨c15, h⟩ := h
            obtain ⟨M5, k16, h⟩ := h
            have h2 : aX xc_48 (aSeek xc_48 58) [aR 3, aI (M (M 3 3) 16)] [] (SH L) M5 o := by
              obtain ⟨c17, h⟩ := h
              obtain ⟨c18, h⟩ := h
              obtain ⟨c19, h⟩ := h
              obtain ⟨c20, h⟩ := h
              obtain ⟨c21, h⟩ := h
              subst h
              exact ⟨16, ip c17 (ip c18 (ip c19 (ip c20 (ip c21 (rfl)))))⟩
            exact aX_seg 10 (fun n g => ip c13 (ip c14 (ip c15 (g)))) (aX_callv (rfl) rfl rfl rfl k16 h2)
          exact aX_seg 3 (fun n g => g) (aX_callv (rfl) rfl rfl rfl k12 h2)
        exact aX_seg 2 (fun n g => g) (aX_callv (rfl) rfl rfl rfl k11 h2)
      exact aX_seg 7 (fun n g => ip c9 (ip cc (g))) t10
    · replace h := h.2 cc
      have t22 : aX xc_48 (aSeek xc_48 14) [aR 3, aI (M (M 3 3) 16)] [] (SH L) M o := by
        obtain ⟨M6, v7, k23, h⟩ := h
        have h2 : aX xc_48 (aSeek xc_48 20) [aR 3, aI (M (M 3 3) 16)] [aI v7, aI 2, aR 3] (SH L) M6 o := by
          obtain ⟨M8, k24, h⟩ := h
          have h2 : aX xc_48 (aSeek xc_48 23) [aR 3, aI (M (M 3 3) 16)] [] (SH L) M8 o := by
            subst h
            exact ⟨1, rfl⟩
          exact aX_callv (rfl) rfl rfl rfl k24 h2
        exact aX_seg 3 (fun n g => g) (aX_callv (rfl) rfl rfl rfl k23 h2)
      exact aX_seg 7 (fun n g => ip c9 (in_ cc (g))) t22
  exact q
/- TypeLock$Reader.parseTell()V -/
set_option maxRecDepth 100000 in
theorem en_49 {L : Nat} {M : aM} {o : aO} (h : (∃ (M1 : aM) (v2 : Int), aE 26 [aR 3] (SH L) M ([aI v2], (SH L), M1) ∧ ((¬ v2 = 25 → ((v2 = 26 → aX xc_49 (aSeek xc_49 30) [aR 3, aI v2] [] (SH L) M1 o) ∧ (¬ (v2 = 26) → ((¬ v2 = 27 → ((¬ v2 = 28 → ((¬ v2 = 33 → ((¬ v2 = 34 → ((¬ v2 = 35 → (∃ (M3 : aM) (v4 : Int), aE 27 [aR 3] (SH L) M1 ([aI v4], (SH L), M3) ∧ (∃ (M5 : aM), aE 28 [aR 3, aI 1, aI v4] (SH L) M3 ([], (SH L), M5) ∧ aX xc_49 (aSeek xc_49 115) [aR 3, aU] [] (SH L) M5 o))) ∧ (¬ (¬ v2 = 35) → (∃ (M6 : aM), aE 48 [aR 3] (SH L) M1 ([], (SH L), M6) ∧ aX xc_49 (aSeek xc_49 115) [aR 3, aU] [] (SH L) M6 o)))) ∧ (¬ (¬ v2 = 34) → (∃ (M7 : aM), aE 45 [aR 3] (SH L) M1 ([], (SH L), M7) ∧ aX xc_49 (aSeek xc_49 115) [aR 3, aU] [] (SH L) M7 o)))) ∧ (¬ (¬ v2 = 33) → (∃ (M8 : aM) (v9 : Int), aE 29 [aR 3, aI v2] (SH L) M1 ([aI v9], (SH L), M8) ∧ (∃ (M10 : aM) (v11 : Int), aE 32 [aR 3, aI 1, aI 100] (SH L) M8 ([aI v11], (SH L), M10) ∧ (aK (SH L) (M8 3 3) = 19) ∧ aX xc_49 (aSeek xc_49 115) [aR 3, aU] [] (SH L) (aSet M10 (M8 3 3) 2 v11) o))))) ∧ (¬ (¬ v2 = 28) → (∃ (M12 : aM), aE 38 [aR 3] (SH L) M1 ([], (SH L), M12) ∧ aX xc_49 (aSeek xc_49 115) [aR 3, aU] [] (SH L) M12 o)))) ∧ (¬ (¬ v2 = 27) → aX xc_49 (aSeek xc_49 30) [aR 3, aI v2] [] (SH L) M1 o))))) ∧ (¬ (¬ v2 = 25) → (∃ (M13 : aM), aE 33 [aR 3] (SH L) M1 ([], (SH L), M13) ∧ aX xc_49 (aSeek xc_49 115) [aR 3, aU] [] (SH L) M13 o))))) : aE 49 [aR 3] (SH L) M o := by
  have q : aX xc_49 (aSeek xc_49 0) [aR 3, aU] [] (SH L) M o := by
    obtain ⟨M1, v2, k14, h⟩ := h
    have h2 : aX xc_49 (aSeek xc_49 4) [aR 3, aU] [aI v2] (SH L) M1 o := by
      by_cases cc : ¬ v2 = 25
      · replace h := h.1 cc
        have t15 : aX xc_49 (aSeek xc_49 18) [aR 3, aI v2] [] (SH L) M1 o := by
          by_cases cc : v2 = 26
          · replace h := h.1 cc
            have t16 : aX xc_49 (aSeek xc_49 30) [aR 3, aI v2] [] (SH L) M1 o := by
              exact h
            exact aX_seg 3 (fun n g => ip cc (g)) t16
          · replace h := h.2 cc
            have t17 : aX xc_49 (aSeek xc_49 24) [aR 3, aI v2] [] (SH L) M1 o := by
              by_cases cc : ¬ v2 = 27
              · replace h := h.1 cc
                have t18 : aX xc_49 (aSeek xc_49 38) [aR 3, aI v2] [] (SH L) M1 o := by
                  by_cases cc : ¬ v2 = 28
                  · replace h := h.1 cc
                    have t19 : aX xc_49 (aSeek xc_49 51) [aR 3, aI v2] [] (SH L) M1 o := by
                      by_cases cc : ¬ v2 = 33
                      · replace h := h.1 cc
                        have t20 : aX xc_49 (aSeek xc_49 80) [aR 3, aI v2] [] (SH L) M1 o := by
                          by_cases cc : ¬ v2 = 34
                          · replace h := h.1 cc
                            have t21 : aX xc_49 (aSeek xc_49 93) [aR 3, aI v2] [] (SH L) M1 o := by
                              by_cases cc : ¬ v2 = 35
                              · replace h := h.1 cc
                                have t22 : aX xc_49 (aSeek xc_49 106) [aR 3, aI v2] [] (SH L) M1 o := by
                                  obtain ⟨M3, v4, k23, h⟩ := h
                                  have h2 : aX xc_49 (aSeek xc_49 112) [aR 3, aI v2] [aI v4, aI 1, aR 3] (SH L) M3 o := by
                                    obtain ⟨M5, k24, h⟩ := h
                                    have h2 : aX xc_49 (aSeek xc_49 115) [aR 3, aI v2] [] (SH L) M5 o := by
                                      exact aX_le (ls := [aR 3, aU]) (ls1 := [aR 3, aI v2]) (⟨Or.inr rfl, ⟨Or.inl rfl, trivial⟩⟩) h
                                    exact aX_callv (rfl) rfl rfl rfl k24 h2
                                  exact aX_seg 3 (fun n g => g) (aX_callv (rfl) rfl rfl rfl k23 h2)
                                exact aX_seg 3 (fun n g => ip cc (g)) t22
                              · replace h := h.2 cc
                                have t25 : aX xc_49 (aSeek xc_49 99) [aR 3, aI v2] [] (SH L) M1 o := by
                                  obtain ⟨M6, k26, h⟩ := h
                                  have h2 : aX xc_49 (aSeek xc_49 103) [aR 3, aI v2] [] (SH L) M6 o := by
                                    exact aX_seg 1 (fun n g => g) (aX_le (ls := [aR 3, aU]) (ls1 := [aR 3, aI v2]) (⟨Or.inr rfl, ⟨Or.inl rfl, trivial⟩⟩) h)
                                  exact aX_seg 1 (fun n g => g) (aX_callv (rfl) rfl rfl rfl k26 h2)
                                exact aX_seg 3 (fun n g => in_ cc (g)) t25
                            exact aX_seg 3 (fun n g => ip cc (g)) t21
                          · replace h := h.2 cc
                            have t27 : aX xc_49 (aSeek xc_49 86) [aR 3, aI v2] [] (SH L) M1 o := by
                              obtain ⟨M7, k28, h⟩ := h
                              have h2 : aX xc_49 (aSeek xc_49 90) [aR 3, aI v2] [] (SH L) M7 o := by
                                exact aX_seg 1 (fun n g => g) (aX_le (ls := [aR 3, aU]) (ls1 := [aR 3, aI v2]) (⟨Or.inr rfl, ⟨Or.inl rfl, trivial⟩⟩) h)
                              exact aX_seg 1 (fun n g => g) (aX_callv (rfl) rfl rfl rfl k28 h2)
                            exact aX_seg 3 (fun n g => in_ cc (g)) t27
                        exact aX_seg 3 (fun n g => ip cc (g)) t20
                      · replace h := h.2 cc
                        have t29 : aX xc_49 (aSeek xc_49 57) [aR 3, aI v2] [] (SH L) M1 o := by
                          obtain ⟨M8, v9, k30, h⟩ := h
                          have h2 : aX xc_49 (aSeek xc_49 62) [aR 3, aI v2] [aI v9] (SH L) M8 o := by
                            obtain ⟨M10, v11, k31, h⟩ := h
                            have h2 : aX xc_49 (aSeek xc_49 74) [aR 3, aI v2] [aI v11, aR (M8 3 3)] (SH L) M10 o := by
                              obtain ⟨c32, h⟩ := h
                              exact aX_seg 2 (fun n g => ip c32 (g)) (aX_le (ls := [aR 3, aU]) (ls1 := [aR 3, aI v2]) (⟨Or.inr rfl, ⟨Or.inl rfl, trivial⟩⟩) h)
                            exact aX_seg 6 (fun n g => g) (aX_callv (rfl) rfl rfl rfl k31 h2)
                          exact aX_seg 2 (fun n g => g) (aX_callv (rfl) rfl rfl rfl k30 h2)
                        exact aX_seg 3 (fun n g => in_ cc (g)) t29
                    exact aX_seg 3 (fun n g => ip cc (g)) t19
                  · replace h := h.2 cc
                    have t33 : aX xc_49 (aSeek xc_49 44) [aR 3, aI v2] [] (SH L) M1 o := by
                      obtain ⟨M12, k34, h⟩ := h
                      have h2 : aX xc_49 (aSeek xc_49 48) [aR 3, aI v2] [] (SH L) M12 o := by
                        exact aX_seg 1 (fun n g => g) (aX_le (ls := [aR 3, aU]) (ls1 := [aR 3, aI v2]) (⟨Or.inr rfl, ⟨Or.inl rfl, trivial⟩⟩) h)
                      exact aX_seg 1 (fun n g => g) (aX_callv (rfl) rfl rfl rfl k34 h2)
                    exact aX_seg 3 (fun n g => in_ cc (g)) t33
                exact aX_seg 3 (fun n g => ip cc (g)) t18
              · replace h := h.2 cc
                have t35 : aX xc_49 (aSeek xc_49 30) [aR 3, aI v2] [] (SH L) M1 o := by
                  exact h
                exact aX_seg 3 (fun n g => in_ cc (g)) t35
            exact aX_seg 3 (fun n g => in_ cc (g)) t17
        exact aX_seg 4 (fun n g => ip cc (g)) t15
      · replace h := h.2 cc
        have t36 : aX xc_49 (aSeek xc_49 11) [aR 3, aI v2] [] (SH L) M1 o := by
          obtain ⟨M13, k37, h⟩ := h
          have h2 : aX xc_49 (aSeek xc_49 15) [aR 3, aI v2] [] (SH L) M13 o := by
            exact aX_seg 1 (fun n g => g) (aX_le (ls := [aR 3, aU]) (ls1 := [aR 3, aI v2]) (⟨Or.inr rfl, ⟨Or.inl rfl, trivial⟩⟩) h)
          exact aX_seg 1 (fun n g => g) (aX_callv (rfl) rfl rfl rfl k37 h2)
        exact aX_seg 4 (fun n g => in_ cc (g)) t36
    exact aX_seg 1 (fun n g => g) (aX_callv (rfl) rfl rfl rfl k14 h2)
  exact q
set_option maxRecDepth 100000 in
theorem bl_49_30 {L : Nat} {a1 : Int} {M : aM} {o : aO} (h : (∃ (M1 : aM), aE 35 [aR 3, aI a1] (SH L) M ([], (SH L), M1) ∧ aX xc_49 (aSeek xc_49 115) [aR 3, aU] [] (SH L) M1 o)) : aX xc_49 (aSeek xc_49 30) [aR 3, aI a1] [] (SH L) M o := by
  obtain ⟨M1, k2, h⟩ := h
  have h2 : aX xc_49 (aSeek xc_49 35) [aR 3, aI a1] [] (SH L) M1 o := by
    exact aX_seg 1 (fun n g => g) (aX_le (ls := [aR 3, aU]) (ls1 := [aR 3, aI a1]) (⟨Or.inr rfl, ⟨Or.inl rfl, trivial⟩⟩) h)
  exact aX_seg 2 (fun n g => g) (aX_callv (rfl) rfl rfl rfl k2 h2)
set_option maxRecDepth 100000 in
theorem bl_49_115 {L : Nat} {M : aM} {o : aO} (h : (∃ (M1 : aM) (v2 : Int), aE 29 [aR 3, aI 4] (SH L) M ([aI v2], (SH L), M1) ∧ o = ([], (SH L), M1))) : aX xc_49 (aSeek xc_49 115) [aR 3, aU] [] (SH L) M o := by
  obtain ⟨M1, v2, k3, h⟩ := h
  have h2 : aX xc_49 (aSeek xc_49 120) [aR 3, aU] [aI v2] (SH L) M1 o := by
    subst h
    exact ⟨2, rfl⟩
  exact aX_seg 2 (fun n g => g) (aX_callv (rfl) rfl rfl rfl k3 h2)
/- TypeLock$Reader.parse([BILTypeLock$Text;)V -/
set_option maxRecDepth 100000 in
theorem en_50 {L : Nat} {a1 a2 a3 : Int} {M : aM} {o : aO} (h : (∃ (M1 : aM), aE 25 [aR 4, aR a1, aI a2] (SH L) M ([], (SH L), M1) ∧ (aK (SH L) 3 = 18 ∧ -1 ≤ (a3 : Int)) ∧ (aK (SH L) ((aSet M1 3 3 a3) 3 3) = 19 ∧ ∃ (M2 : aM), aE 2 [aR ((aSet M1 3 3 a3) 3 3)] (SH L) (aSet M1 3 3 a3) ([], (SH L), M2) ∧ aX xc_50 (aSeek xc_50 44) [aR 3, aU, aU, aU, aI 0] [] (SH L) (aSet (aSet (aSet (aSet M2 3 4 0) 3 0 0) 3 1 ((-1))) 3 5 0) o))) : aE 50 [aR 3, aR a1, aI a2, aR a3] (SH L) M o := by
  have q : aX xc_50 (aSeek xc_50 0) [aR 3, aR a1, aI a2, aR a3, aU] [] (SH L) M o := by
    obtain ⟨M1, k3, h⟩ := h
    have h2 : aX xc_50 (aSeek xc_50 9) [aR 3, aR a1, aI a2, aR a3, aU] [] (SH L) M1 o := by
      obtain ⟨c4, h⟩ := h
      obtain ⟨c5, h⟩ := h
      obtain ⟨M2, k6, h⟩ := h
      have h2 : aX xc_50 (aSeek xc_50 21) [aR 3, aR a1, aI a2, aR a3, aU] [] (SH L) M2 o := by
        exact aX_seg 14 (fun n g => g) (aX_le (ls := [aR 3, aU, aU, aU, aI 0]) (ls1 := [aR 3, aR a1, aI a2, aR a3, aI 0]) (⟨Or.inr rfl, ⟨Or.inl rfl, ⟨Or.inl rfl, ⟨Or.inl rfl, ⟨Or.inr rfl, trivial⟩⟩⟩⟩⟩) h)
      exact aX_seg 5 (fun n g => ip c4 (g)) (aX_callv (c5) rfl rfl rfl k6 h2)
    exact aX_seg 4 (fun n g => g) (aX_callv (rfl) rfl rfl rfl k3 h2)
  exact q
set_option maxRecDepth 100000 in
theorem bl_50_44 {L : Nat} {a4 : Int} {M : aM} {o : aO} (h : ((400 < a4 → aX xc_50 (aSeek xc_50 76) [aR 3, aU, aU, aU, aU] [] (SH L) M o) ∧ (¬ (400 < a4) → ((¬ (M 3 0) = 0 → aX xc_50 (aSeek xc_50 76) [aR 3, aU, aU, aU, aU] [] (SH L) M o) ∧ (¬ (¬ (M 3 0) = 0) → (∃ (M1 : aM) (v2 : Int), aE 26 [aR 3] (SH L) M ([aI v2], (SH L), M1) ∧ ((v2 = 0 → aX xc_50 (aSeek xc_50 76) [aR 3, aU, aU, aU, aU] [] (SH L) M1 o) ∧ (¬ (v2 = 0) → (∃ (M3 : aM), aE 49 [aR 3] (SH L) M1 ([], (SH L), M3) ∧ aX xc_50 (aSeek xc_50 44) [aR 3, aU, aU, aU, aI (aW (a4 + 1))] [] (SH L) M3 o))))))))) : aX xc_50 (aSeek xc_50 44) [aR 3, aU, aU, aU, aI a4] [] (SH L) M o := by
  by_cases cc : 400 < a4
  · replace h := h.1 cc
    have t4 : aX xc_50 (aSeek xc_50 76) [aR 3, aU, aU, aU, aI a4] [] (SH L) M o := by
      exact aX_le (ls := [aR 3, aU, aU, aU, aU]) (ls1 := [aR 3, aU, aU, aU, aI a4]) (⟨Or.inr rfl, ⟨Or.inl rfl, ⟨Or.inl rfl, ⟨Or.inl rfl, ⟨Or.inl rfl, trivial⟩⟩⟩⟩⟩) h
    exact aX_seg 3 (fun n g => ip cc (g)) t4
  · replace h := h.2 cc
    have t5 : aX xc_50 (aSeek xc_50 52) [aR 3, aU, aU, aU, aI a4] [] (SH L) M o := by
      by_cases cc : ¬ (M 3 0) = 0
      · replace h := h.1 cc
        have t6 : aX xc_50 (aSeek xc_50 76) [aR 3, aU, aU, aU, aI a4] [] (SH L) M o := by
          exact aX_le (ls := [aR 3, aU, aU, aU, aU]) (ls1 := [aR 3, aU, aU, aU, aI a4]) (⟨Or.inr rfl, ⟨Or.inl rfl, ⟨Or.inl rfl, ⟨Or.inl rfl, ⟨Or.inl rfl, trivial⟩⟩⟩⟩⟩) h
        exact aX_seg 3 (fun n g => ip cc (g)) t6
      · replace h := h.2 cc
        have t7 : aX xc_50 (aSeek xc_50 59) [aR 3, aU, aU, aU, aI a4] [] (SH L) M o := by
          obtain ⟨M1, v2, k8, h⟩ := h
          have h2 : aX xc_50 (aSeek xc_50 63) [aR 3, aU, aU, aU, aI a4] [aI v2] (SH L) M1 o := by
            by_cases cc : v2 = 0
            · replace h := h.1 cc
              have t9 : aX xc_50 (aSeek xc_50 76) [aR 3, aU, aU, aU, aI a4] [] (SH L) M1 o := by
                exact aX_le (ls := [aR 3, aU, aU, aU, aU]) (ls1 := [aR 3, aU, aU, aU, aI a4]) (⟨Or.inr rfl, ⟨Or.inl rfl, ⟨Or.inl rfl, ⟨Or.inl rfl, ⟨Or.inl rfl, trivial⟩⟩⟩⟩⟩) h
              exact aX_seg 1 (fun n g => ip cc (g)) t9
            · replace h := h.2 cc
              have t10 : aX xc_50 (aSeek xc_50 66) [aR 3, aU, aU, aU, aI a4] [] (SH L) M1 o := by
                obtain ⟨M3, k11, h⟩ := h
                have h2 : aX xc_50 (aSeek xc_50 70) [aR 3, aU, aU, aU, aI a4] [] (SH L) M3 o := by
                  exact aX_seg 2 (fun n g => g) (h)
                exact aX_seg 1 (fun n g => g) (aX_callv (rfl) rfl rfl rfl k11 h2)
              exact aX_seg 1 (fun n g => in_ cc (g)) t10
          exact aX_seg 1 (fun n g => g) (aX_callv (rfl) rfl rfl rfl k8 h2)
        exact aX_seg 3 (fun n g => in_ cc (g)) t7
    exact aX_seg 3 (fun n g => in_ cc (g)) t5
set_option maxRecDepth 100000 in
theorem bl_50_76 {L : Nat} {M : aM} {o : aO} (h : ((¬ (M 3 0) = 0 → o = ([], (SH L), M)) ∧ (¬ (¬ (M 3 0) = 0) → (((M 3 5) = 0 → o = ([], (SH L), M)) ∧ (¬ ((M 3 5) = 0) → o = ([], (SH L), aSet (aSet M 3 0 (M 3 5)) 3 1 ((aSet M 3 0 (M 3 5)) 3 6))))))) : aX xc_50 (aSeek xc_50 76) [aR 3, aU, aU, aU, aU] [] (SH L) M o := by
  by_cases cc : ¬ (M 3 0) = 0
  · replace h := h.1 cc
    have t1 : aX xc_50 (aSeek xc_50 106) [aR 3, aU, aU, aU, aU] [] (SH L) M o := by
      subst h
      exact ⟨1, rfl⟩
    exact aX_seg 3 (fun n g => ip cc (g)) t1
  · replace h := h.2 cc
    have t2 : aX xc_50 (aSeek xc_50 83) [aR 3, aU, aU, aU, aU] [] (SH L) M o := by
      by_cases cc : (M 3 5) = 0
      · replace h := h.1 cc
        have t3 : aX xc_50 (aSeek xc_50 106) [aR 3, aU, aU, aU, aU] [] (SH L) M o := by
          subst h
          exact ⟨1, rfl⟩
        exact aX_seg 3 (fun n g => ip cc (g)) t3
      · replace h := h.2 cc
        have t4 : aX xc_50 (aSeek xc_50 90) [aR 3, aU, aU, aU, aU] [] (SH L) M o := by
          subst h
          exact ⟨9, rfl⟩
        exact aX_seg 3 (fun n g => in_ cc (g)) t4
    exact aX_seg 3 (fun n g => in_ cc (g)) t2
/- TypeLock.layingChanged()V -/
set_option maxRecDepth 100000 in
theorem en_51 {L : Nat} {M : aM} {o : aO} (h : o = ([], (SH L), aSet (aSet M 1 9 (aW ((M 1 9) + 1))) 1 10 (aW (((aSet M 1 9 (aW ((M 1 9) + 1))) 1 10) + 1)))) : aE 51 [aR 1] (SH L) M o := by
  have q : aX xc_51 (aSeek xc_51 0) [aR 1] [] (SH L) M o := by
    subst h
    exact ⟨13, rfl⟩
  exact q
/- TypeLock.changeText()V -/
set_option maxRecDepth 100000 in
theorem en_52 {L : Nat} {M : aM} {o : aO} (h : (aK (SH L) 1 = 21 ∧ -1 ≤ (M 1 4 : Int)) ∧ (aK (SH L) 1 = 21 ∧ -1 ≤ (M 1 3 : Int)) ∧ (∃ (M1 : aM), aE 51 [aR 1] (SH L) (aSet (aSet (aSet (aSet (aSet M 1 3 (M 1 4)) 1 4 (M 1 3)) 1 5 (aW (((aSet (aSet M 1 3 (M 1 4)) 1 4 (M 1 3)) 1 5) + 1))) 31 0 0) 31 8 0) ([], (SH L), M1) ∧ o = ([], (SH L), M1))) : aE 52 [aR 1] (SH L) M o := by
  have q : aX xc_52 (aSeek xc_52 0) [aR 1, aU] [] (SH L) M o := by
    obtain ⟨c2, h⟩ := h
    obtain ⟨c3, h⟩ := h
    obtain ⟨M1, k4, h⟩ := h
    have h2 : aX xc_52 (aSeek xc_52 48) [aR 1, aR (M 1 3)] [] (SH L) M1 o := by
      subst h
      exact ⟨1, rfl⟩
    exact aX_seg 25 (fun n g => ip c2 (ip c3 (g))) (aX_callv (rfl) rfl rfl rfl k4 h2)
  exact q
/- TypeLock.read()I -/
set_option maxRecDepth 100000 in
theorem en_53 {L : Nat} {M : aM} {o : aO} (h : (∃ (M1 : aM), aE 50 [aR 3, aR 2, aI (M 1 1), aR (M 1 4)] (SH L) M ([], (SH L), M1) ∧ ((¬ ((aSet (aSet M1 1 1 0) 1 6 ((aSet M1 1 1 0) 3 1)) 3 0) = 0 → o = ([aI ((aSet (aSet M1 1 1 0) 1 6 ((aSet M1 1 1 0) 3 1)) 3 0)], (SH L), aSet (aSet M1 1 1 0) 1 6 ((aSet M1 1 1 0) 3 1))) ∧ (¬ (¬ ((aSet (aSet M1 1 1 0) 1 6 ((aSet M1 1 1 0) 3 1)) 3 0) = 0) → (∃ (M2 : aM), aE 52 [aR 1] (SH L) (aSet (aSet M1 1 1 0) 1 6 ((aSet M1 1 1 0) 3 1)) ([], (SH L), M2) ∧ o = ([aI (M2 3 0)], (SH L), M2)))))) : aE 53 [aR 1] (SH L) M o := by
  have q : aX xc_53 (aSeek xc_53 0) [aR 1] [] (SH L) M o := by
    obtain ⟨M1, k3, h⟩ := h
    have h2 : aX xc_53 (aSeek xc_53 19) [aR 1] [] (SH L) M1 o := by
      by_cases cc : ¬ ((aSet (aSet M1 1 1 0) 1 6 ((aSet M1 1 1 0) 3 1)) 3 0) = 0
      · replace h := h.1 cc
        have t4 : aX xc_53 (aSeek xc_53 49) [aR 1] [] (SH L) (aSet (aSet M1 1 1 0) 1 6 ((aSet M1 1 1 0) 3 1)) o := by
          subst h
          exact ⟨4, rfl⟩
        exact aX_seg 12 (fun n g => ip cc (g)) t4
      · replace h := h.2 cc
        have t5 : aX xc_53 (aSeek xc_53 45) [aR 1] [] (SH L) (aSet (aSet M1 1 1 0) 1 6 ((aSet M1 1 1 0) 3 1)) o := by
          obtain ⟨M2, k6, h⟩ := h
          have h2 : aX xc_53 (aSeek xc_53 49) [aR 1] [] (SH L) M2 o := by
            subst h
            exact ⟨4, rfl⟩
          exact aX_seg 1 (fun n g => g) (aX_callv (rfl) rfl rfl rfl k6 h2)
        exact aX_seg 12 (fun n g => in_ cc (g)) t5
    exact aX_seg 8 (fun n g => g) (aX_callv (rfl) rfl rfl rfl k3 h2)
  exact q
/- TypeLock.place()I -/
set_option maxRecDepth 100000 in
theorem en_54 {L : Nat} {M : aM} {o : aO} (h : o = ([aI (M 1 6)], (SH L), M)) : aE 54 [aR 1] (SH L) M o := by
  have q : aX xc_54 (aSeek xc_54 0) [aR 1] [] (SH L) M o := by
    subst h
    exact ⟨3, rfl⟩
  exact q
/- TypeLock$Text.hasKind(I)Z -/
set_option maxRecDepth 100000 in
theorem en_55 {L : Nat} {a0 a1 : Int} {M : aM} {o : aO} (h : ((a1 < 0 → o = ([aI 0], (SH L), M)) ∧ (¬ (a1 < 0) → (aK (SH L) a0 = 19) ∧ (((M a0 3) ≤ a1 → o = ([aI 0], (SH L), M)) ∧ (¬ ((M a0 3) ≤ a1) → o = ([aI 1], (SH L), M)))))) : aE 55 [aR a0, aI a1] (SH L) M o := by
  have q : aX xc_55 (aSeek xc_55 0) [aR a0, aI a1] [] (SH L) M o := by
    by_cases cc : a1 < 0
    · replace h := h.1 cc
      have t1 : aX xc_55 (aSeek xc_55 16) [aR a0, aI a1] [] (SH L) M o := by
        subst h
        exact ⟨2, rfl⟩
      exact aX_seg 2 (fun n g => ip cc (g)) t1
    · replace h := h.2 cc
      have t2 : aX xc_55 (aSeek xc_55 4) [aR a0, aI a1] [] (SH L) M o := by
        obtain ⟨c3, h⟩ := h
        by_cases cc : (M a0 3) ≤ a1
        · replace h := h.1 cc
          have t4 : aX xc_55 (aSeek xc_55 16) [aR a0, aI a1] [] (SH L) M o := by
            subst h
            exact ⟨2, rfl⟩
          exact aX_seg 4 (fun n g => ip c3 (ip cc (g))) t4
        · replace h := h.2 cc
          have t5 : aX xc_55 (aSeek xc_55 12) [aR a0, aI a1] [] (SH L) M o := by
            subst h
            exact ⟨3, rfl⟩
          exact aX_seg 4 (fun n g => ip c3 (in_ cc (g))) t5
      exact aX_seg 2 (fun n g => in_ cc (g)) t2
  exact q
/- TypeLock.kind(II)I -/
set_option maxRecDepth 100000 in
theorem en_56 {L : Nat} {a1 a2 : Int} {M : aM} {o : aO} (h : (aK (SH L) (M 1 3) = 19 ∧ ∃ (M1 : aM) (v2 : Int), aE 55 [aR (M 1 3), aI a1] (SH L) M ([aI v2], (SH L), M1) ∧ ((¬ v2 = 0 → ((a2 = 0 → (aK (SH L) (M1 1 3) = 19) ∧ (0 ≤ a1 ∧ a1 < aLn (SH L) 1 (aF (SH L) (M1 1 3) 5)) ∧ o = ([aI (M1 (aF (SH L) (M1 1 3) 5) a1)], (SH L), M1)) ∧ (a2 = 1 → (aK (SH L) (M1 1 3) = 19) ∧ (0 ≤ a1 ∧ a1 < aLn (SH L) 1 (aF (SH L) (M1 1 3) 6)) ∧ o = ([aI (M1 (aF (SH L) (M1 1 3) 6) a1)], (SH L), M1)) ∧ (a2 = 2 → (aK (SH L) (M1 1 3) = 19) ∧ (0 ≤ a1 ∧ a1 < aLn (SH L) 1 (aF (SH L) (M1 1 3) 7)) ∧ o = ([aI (M1 (aF (SH L) (M1 1 3) 7) a1)], (SH L), M1)) ∧ (a2 = 3 → (aK (SH L) (M1 1 3) = 19) ∧ (0 ≤ a1 ∧ a1 < aLn (SH L) 1 (aF (SH L) (M1 1 3) 8)) ∧ o = ([aI (M1 (aF (SH L) (M1 1 3) 8) a1)], (SH L), M1)) ∧ (¬ a2 = 0 → ¬ a2 = 1 → ¬ a2 = 2 → ¬ a2 = 3 → o = ([aI ((-1))], (SH L), M1)))) ∧ (¬ (¬ v2 = 0) → o = ([aI ((-1))], (SH L), M1))))) : aE 56 [aR 1, aI a1, aI a2] (SH L) M o := by
  have q : aX xc_56 (aSeek xc_56 0) [aR 1, aI a1, aI a2] [] (SH L) M o := by
    obtain ⟨c3, h⟩ := h
    obtain ⟨M1, v2, k4, h⟩ := h
    have h2 : aX xc_56 (aSeek xc_56 8) [aR 1, aI a1, aI a2] [aI v2] (SH L) M1 o := by
      by_cases cc : ¬ v2 = 0
      · replace h := h.1 cc
        have t5 : aX xc_56 (aSeek xc_56 13) [aR 1, aI a1, aI a2] [] (SH L) M1 o := by
          by_cases cc0 : a2 = 0
          · replace h := h.1 cc0
            have ee : aTab 0 3 70 #[30, 40, 50, 60] a2 = 30 := by rw [cc0]; rfl
            have t6 : aX xc_56 (aSeek xc_56 44) [aR 1, aI a1, aI a2] [] (SH L) M1 o := by
              obtain ⟨c7, h⟩ := h
              obtain ⟨c8, h⟩ := h
              subst h
              exact ⟨6, ip c7 (ip c8 (rfl))⟩
            exact aX_seg 2 (fun n g => (congrArg (fun tt => aRun tgT gP n xc_56 (aSeek xc_56 (aTo 14 tt)) [aR 1, aI a1, aI a2] [] (SH L) M1) ee).trans g) t6
          by_cases cc1 : a2 = 1
          · replace h := h.2.1 cc1
            have ee : aTab 0 3 70 #[30, 40, 50, 60] a2 = 40 := by rw [cc1]; rfl
            have t9 : aX xc_56 (aSeek xc_56 54) [aR 1, aI a1, aI a2] [] (SH L) M1 o := by
              obtain ⟨c10, h⟩ := h
              obtain ⟨c11, h⟩ := h
              subst h
              exact ⟨6, ip c10 (ip c11 (rfl))⟩
            exact aX_seg 2 (fun n g => (congrArg (fun tt => aRun tgT gP n xc_56 (aSeek xc_56 (aTo 14 tt)) [aR 1, aI a1, aI a2] [] (SH L) M1) ee).trans g) t9
          by_cases cc2 : a2 = 2
          · replace h := h.2.2.1 cc2
            have ee : aTab 0 3 70 #[30, 40, 50, 60] a2 = 50 := by rw [cc2]; rfl
            have t12 : aX xc_56 (aSeek xc_56 64) [aR 1, aI a1, aI a2] [] (SH L) M1 o := by
              obtain ⟨c13, h⟩ := h
              obtain ⟨c14, h⟩ := h
              subst h
              exact ⟨6, ip c13 (ip c14 (rfl))⟩
            exact aX_seg 2 (fun n g => (congrArg (fun tt => aRun tgT gP n xc_56 (aSeek xc_56 (aTo 14 tt)) [aR 1, aI a1, aI a2] [] (SH L) M1) ee).trans g) t12
          by_cases cc3 : a2 = 3
          · replace h := h.2.2.2.1 cc3
            have ee : aTab 0 3 70 #[30, 40, 50, 60] a2 = 60 := by rw [cc3]; rfl
            have t15 : aX xc_56 (aSeek xc_56 74) [aR 1, aI a1, aI a2] [] (SH L) M1 o := by
              obtain ⟨c16, h⟩ := h
              obtain ⟨c17, h⟩ := h
              subst h
              exact ⟨6, ip c16 (ip c17 (rfl))⟩
            exact aX_seg 2 (fun n g => (congrArg (fun tt => aRun tgT gP n xc_56 (aSeek xc_56 (aTo 14 tt)) [aR 1, aI a1, aI a2] [] (SH L) M1) ee).trans g) t15
          replace h := h.2.2.2.2 cc0 cc1 cc2 cc3
          have ee : aTab 0 3 70 #[30, 40, 50, 60] a2 = 70 := by unfold aTab; rw [if_pos (by omega)]
          have t18 : aX xc_56 (aSeek xc_56 84) [aR 1, aI a1, aI a2] [] (SH L) M1 o := by
            subst h
            exact ⟨2, rfl⟩
          exact aX_seg 2 (fun n g => (congrArg (fun tt => aRun tgT gP n xc_56 (aSeek xc_56 (aTo 14 tt)) [aR 1, aI a1, aI a2] [] (SH L) M1) ee).trans g) t18
        exact aX_seg 1 (fun n g => ip cc (g)) t5
      · replace h := h.2 cc
        have t19 : aX xc_56 (aSeek xc_56 11) [aR 1, aI a1, aI a2] [] (SH L) M1 o := by
          subst h
          exact ⟨2, rfl⟩
        exact aX_seg 1 (fun n g => in_ cc (g)) t19
    exact aX_seg 3 (fun n g => g) (aX_callv (c3) rfl rfl rfl k4 h2)
  exact q
/- TypeLock.isPoint(I)Z -/
set_option maxRecDepth 100000 in
theorem en_57 {L : Nat} {a0 : Int} {M : aM} {o : aO} (h : ((a0 < 0 → o = ([aI 0], (SH L), M)) ∧ (¬ (a0 < 0) → ((60 ≤ a0 → o = ([aI 0], (SH L), M)) ∧ (¬ (60 ≤ a0) → o = ([aI 1], (SH L), M)))))) : aE 57 [aI a0] (SH L) M o := by
  have q : aX xc_57 (aSeek xc_57 0) [aI a0] [] (SH L) M o := by
    by_cases cc : a0 < 0
    · replace h := h.1 cc
      have t1 : aX xc_57 (aSeek xc_57 14) [aI a0] [] (SH L) M o := by
        subst h
        exact ⟨2, rfl⟩
      exact aX_seg 2 (fun n g => ip cc (g)) t1
    · replace h := h.2 cc
      have t2 : aX xc_57 (aSeek xc_57 4) [aI a0] [] (SH L) M o := by
        by_cases cc : 60 ≤ a0
        · replace h := h.1 cc
          have t3 : aX xc_57 (aSeek xc_57 14) [aI a0] [] (SH L) M o := by
            subst h
            exact ⟨2, rfl⟩
          exact aX_seg 3 (fun n g => ip cc (g)) t3
        · replace h := h.2 cc
          have t4 : aX xc_57 (aSeek xc_57 10) [aI a0] [] (SH L) M o := by
            subst h
            exact ⟨3, rfl⟩
          exact aX_seg 3 (fun n g => in_ cc (g)) t4
      exact aX_seg 2 (fun n g => in_ cc (g)) t2
  exact q
/- TypeLock$Bed.isCovered(IIII)Z -/
set_option maxRecDepth 100000 in
theorem en_58 {L : Nat} {a0 a1 a2 a3 a4 : Int} {M : aM} {o : aO} (h : aX xc_58 (aSeek xc_58 3) [aR a0, aI a1, aI a2, aI a3, aI a4, aI 0] [] (SH L) M o) : aE 58 [aR a0, aI a1, aI a2, aI a3, aI a4] (SH L) M o := by
  have q : aX xc_58 (aSeek xc_58 0) [aR a0, aI a1, aI a2, aI a3, aI a4, aU] [] (SH L) M o := by
    exact aX_seg 2 (fun n g => g) (h)
  exact q
set_option maxRecDepth 100000 in
theorem bl_58_3 {L : Nat} {a0 a1 a2 a3 a4 a5 : Int} {M : aM} {o : aO} (h : (aK (SH L) a0 = 10) ∧ (((M a0 0) ≤ a5 → o = ([aI 0], (SH L), M)) ∧ (¬ ((M a0 0) ≤ a5) → (aK (SH L) a0 = 10) ∧ (0 ≤ a5 ∧ a5 < aLn (SH L) 1 (aF (SH L) a0 3)) ∧ (aK (SH L) a0 = 10) ∧ (0 ≤ a5 ∧ a5 < aLn (SH L) 1 (aF (SH L) a0 5)) ∧ (((aW ((M (aF (SH L) a0 3) a5) + (M (aF (SH L) a0 5) a5))) ≤ a1 → aX xc_58 (aSeek xc_58 79) [aR a0, aI a1, aI a2, aI a3, aI a4, aI a5] [] (SH L) M o) ∧ (¬ ((aW ((M (aF (SH L) a0 3) a5) + (M (aF (SH L) a0 5) a5))) ≤ a1) → (aK (SH L) a0 = 10) ∧ (0 ≤ a5 ∧ a5 < aLn (SH L) 1 (aF (SH L) a0 3)) ∧ (((aW (a1 + a3)) ≤ (M (aF (SH L) a0 3) a5) → aX xc_58 (aSeek xc_58 79) [aR a0, aI a1, aI a2, aI a3, aI a4, aI a5] [] (SH L) M o) ∧ (¬ ((aW (a1 + a3)) ≤ (M (aF (SH L) a0 3) a5)) → (aK (SH L) a0 = 10) ∧ (0 ≤ a5 ∧ a5 < aLn (SH L) 1 (aF (SH L) a0 4)) ∧ (aK (SH L) a0 = 10) ∧ (0 ≤ a5 ∧ a5 < aLn (SH L) 1 (aF (SH L) a0 6)) ∧ (((aW ((M (aF (SH L) a0 4) a5) + (M (aF (SH L) a0 6) a5))) ≤ a2 → aX xc_58 (aSeek xc_58 79) [aR a0, aI a1, aI a2, aI a3, aI a4, aI a5] [] (SH L) M o) ∧ (¬ ((aW ((M (aF (SH L) a0 4) a5) + (M (aF (SH L) a0 6) a5))) ≤ a2) → (aK (SH L) a0 = 10) ∧ (0 ≤ a5 ∧ a5 < aLn (SH L) 1 (aF (SH L) a0 4)) ∧ (((aW (a2 + a4)) ≤ (M (aF (SH L) a0 4) a5) → aX xc_58 (aSeek xc_58 79) [aR a0, aI a1, aI a2, aI a3, aI a4, aI a5] [] (SH L) M o) ∧ (¬ ((aW (a2 + a4)) ≤ (M (aF (SH L) a0 4) a5)) → o = ([aI 1], (SH L), M)))))))))))) : aX xc_58 (aSeek xc_58 3) [aR a0, aI a1, aI a2, aI a3, aI a4, aI a5] [] (SH L) M o := by
  obtain ⟨c1, h⟩ := h
  by_cases cc : (M a0 0) ≤ a5
  · replace h := h.1 cc
    have t2 : aX xc_58 (aSeek xc_58 85) [aR a0, aI a1, aI a2, aI a3, aI a4, aI a5] [] (SH L) M o := by
      subst h
      exact ⟨2, rfl⟩
    exact aX_seg 4 (fun n g => ip c1 (ip cc (g))) t2
  · replace h := h.2 cc
    have t3 : aX xc_58 (aSeek xc_58 12) [aR a0, aI a1, aI a2, aI a3, aI a4, aI a5] [] (SH L) M o := by
      obtain ⟨c4, h⟩ := h
      obtain ⟨c5, h⟩ := h
      obtain ⟨c6, h⟩ := h
      obtain ⟨c7, h⟩ := h
      by_cases cc : (aW ((M (aF (SH L) a0 3) a5) + (M (aF (SH L) a0 5) a5))) ≤ a1
      · replace h := h.1 cc
        have t8 : aX xc_58 (aSeek xc_58 79) [aR a0, aI a1, aI a2, aI a3, aI a4, aI a5] [] (SH L) M o := by
          exact h
        exact aX_seg 11 (fun n g => ip c4 (ip c5 (ip c6 (ip c7 (ip cc (g)))))) t8
      · replace h := h.2 cc
        have t9 : aX xc_58 (aSeek xc_58 31) [aR a0, aI a1, aI a2, aI a3, aI a4, aI a5] [] (SH L) M o := by
          obtain ⟨c10, h⟩ := h
          obtain ⟨c11, h⟩ := h
          by_cases cc : (aW (a1 + a3)) ≤ (M (aF (SH L) a0 3) a5)
          · replace h := h.1 cc
            have t12 : aX xc_58 (aSeek xc_58 79) [aR a0, aI a1, aI a2, aI a3, aI a4, aI a5] [] (SH L) M o := by
              exact h
            exact aX_seg 8 (fun n g => ip c10 (ip c11 (ip cc (g)))) t12
          · replace h := h.2 cc
            have t13 : aX xc_58 (aSeek xc_58 44) [aR a0, aI a1, aI a2, aI a3, aI a4, aI a5] [] (SH L) M o := by
              obtain ⟨c14, h⟩ := h
              obtain ⟨c15, h⟩ := h
              obtain ⟨c16, h⟩ := h
              obtain ⟨c17, h⟩ := h
              by_cases cc : (aW ((M (aF (SH L) a0 4) a5) + (M (aF (SH L) a0 6) a5))) ≤ a2
              · replace h := h.1 cc
                have t18 : aX xc_58 (aSeek xc_58 79) [aR a0, aI a1, aI a2, aI a3, aI a4, aI a5] [] (SH L) M o := by
                  exact h
                exact aX_seg 11 (fun n g => ip c14 (ip c15 (ip c16 (ip c17 (ip cc (g)))))) t18
              · replace h := h.2 cc
                have t19 : aX xc_58 (aSeek xc_58 63) [aR a0, aI a1, aI a2, aI a3, aI a4, aI a5] [] (SH L) M o := by
                  obtain ⟨c20, h⟩ := h
                  obtain ⟨c21, h⟩ := h
                  by_cases cc : (aW (a2 + a4)) ≤ (M (aF (SH L) a0 4) a5)
                  · replace h := h.1 cc
                    have t22 : aX xc_58 (aSeek xc_58 79) [aR a0, aI a1, aI a2, aI a3, aI a4, aI a5] [] (SH L) M o := by
                      exact h
                    exact aX_seg 8 (fun n g => ip c20 (ip c21 (ip cc (g)))) t22
                  · replace h := h.2 cc
                    have t23 : aX xc_58 (aSeek xc_58 77) [aR a0, aI a1, aI a2, aI a3, aI a4, aI a5] [] (SH L) M o := by
                      subst h
                      exact ⟨2, rfl⟩
                    exact aX_seg 8 (fun n g => ip c20 (ip c21 (in_ cc (g)))) t23
                exact aX_seg 11 (fun n g => ip c14 (ip c15 (ip c16 (ip c17 (in_ cc (g)))))) t19
            exact aX_seg 8 (fun n g => ip c10 (ip c11 (in_ cc (g)))) t13
        exact aX_seg 11 (fun n g => ip c4 (ip c5 (ip c6 (ip c7 (in_ cc (g)))))) t9
    exact aX_seg 4 (fun n g => ip c1 (in_ cc (g))) t3
set_option maxRecDepth 100000 in
theorem bl_58_79 {L : Nat} {a0 a1 a2 a3 a4 a5 : Int} {M : aM} {o : aO} (h : aX xc_58 (aSeek xc_58 3) [aR a0, aI a1, aI a2, aI a3, aI a4, aI (aW (a5 + 1))] [] (SH L) M o) : aX xc_58 (aSeek xc_58 79) [aR a0, aI a1, aI a2, aI a3, aI a4, aI a5] [] (SH L) M o := by
  exact aX_seg 2 (fun n g => g) (h)
/- TypeLock$Bed.countOf(I)I -/
set_option maxRecDepth 100000 in
theorem en_59 {L : Nat} {a0 a1 : Int} {M : aM} {o : aO} (h : aX xc_59 (aSeek xc_59 4) [aR a0, aI a1, aI 0, aI 0] [] (SH L) M o) : aE 59 [aR a0, aI a1] (SH L) M o := by
  have q : aX xc_59 (aSeek xc_59 0) [aR a0, aI a1, aU, aU] [] (SH L) M o := by
    exact aX_seg 4 (fun n g => g) (h)
  exact q
set_option maxRecDepth 100000 in
theorem bl_59_4 {L : Nat} {a0 a1 a2 a3 : Int} {M : aM} {o : aO} (h : (aK (SH L) a0 = 10) ∧ (((M a0 0) ≤ a3 → o = ([aI a2], (SH L), M)) ∧ (¬ ((M a0 0) ≤ a3) → (aK (SH L) a0 = 10) ∧ (0 ≤ a3 ∧ a3 < aLn (SH L) 1 (aF (SH L) a0 1)) ∧ ((¬ (M (aF (SH L) a0 1) a3) = a1 → aX xc_59 (aSeek xc_59 25) [aR a0, aI a1, aI a2, aI a3] [] (SH L) M o) ∧ (¬ (¬ (M (aF (SH L) a0 1) a3) = a1) → aX xc_59 (aSeek xc_59 25) [aR a0, aI a1, aI (aW (a2 + 1)), aI a3] [] (SH L) M o))))) : aX xc_59 (aSeek xc_59 4) [aR a0, aI a1, aI a2, aI a3] [] (SH L) M o := by
  obtain ⟨c1, h⟩ := h
  by_cases cc : (M a0 0) ≤ a3
  · replace h := h.1 cc
    have t2 : aX xc_59 (aSeek xc_59 31) [aR a0, aI a1, aI a2, aI a3] [] (SH L) M o := by
      subst h
      exact ⟨2, rfl⟩
    exact aX_seg 4 (fun n g => ip c1 (ip cc (g))) t2
  · replace h := h.2 cc
    have t3 : aX xc_59 (aSeek xc_59 12) [aR a0, aI a1, aI a2, aI a3] [] (SH L) M o := by
      obtain ⟨c4, h⟩ := h
      obtain ⟨c5, h⟩ := h
      by_cases cc : ¬ (M (aF (SH L) a0 1) a3) = a1
      · replace h := h.1 cc
        have t6 : aX xc_59 (aSeek xc_59 25) [aR a0, aI a1, aI a2, aI a3] [] (SH L) M o := by
          exact h
        exact aX_seg 6 (fun n g => ip c4 (ip c5 (ip cc (g)))) t6
      · replace h := h.2 cc
        have t7 : aX xc_59 (aSeek xc_59 22) [aR a0, aI a1, aI a2, aI a3] [] (SH L) M o := by
          exact aX_seg 1 (fun n g => g) (h)
        exact aX_seg 6 (fun n g => ip c4 (ip c5 (in_ cc (g)))) t7
    exact aX_seg 4 (fun n g => ip c1 (in_ cc (g))) t3
set_option maxRecDepth 100000 in
theorem bl_59_25 {L : Nat} {a0 a1 a2 a3 : Int} {M : aM} {o : aO} (h : aX xc_59 (aSeek xc_59 4) [aR a0, aI a1, aI a2, aI (aW (a3 + 1))] [] (SH L) M o) : aX xc_59 (aSeek xc_59 25) [aR a0, aI a1, aI a2, aI a3] [] (SH L) M o := by
  exact aX_seg 2 (fun n g => g) (h)
end BLK
