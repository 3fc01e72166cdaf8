/-! block rows, written by a program: from one cut of a method to the next ones -/
section BLK
/- TypeLock$Bed.leftOf(LTypeLock$Text;I)I -/
set_option maxRecDepth 100000 in
theorem en_60 {L : Nat} {a0 a1 a2 : Int} {M : aM} {o : aO} (h : (aK (SH L) a1 = 19 ∧ ∃ (M1 : aM) (v2 : Int), aE 55 [aR a1, aI a2] (SH L) M ([aI v2], (SH L), M1) ∧ ((v2 = 0 → o = ([aI 0], (SH L), M1)) ∧ (¬ (v2 = 0) → (aK (SH L) a1 = 19) ∧ (0 ≤ a2 ∧ a2 < aLn (SH L) 1 (aF (SH L) a1 8)) ∧ (aK (SH L) a0 = 10 ∧ ∃ (M3 : aM) (v4 : Int), aE 59 [aR a0, aI a2] (SH L) M1 ([aI v4], (SH L), M3) ∧ o = ([aI (aW ((M1 (aF (SH L) a1 8) a2) - v4))], (SH L), M3)))))) : aE 60 [aR a0, aR a1, aI a2] (SH L) M o := by
  have q : aX xc_60 (aSeek xc_60 0) [aR a0, aR a1, aI a2] [] (SH L) M o := by
    obtain ⟨c5, h⟩ := h
    obtain ⟨M1, v2, k6, h⟩ := h
    have h2 : aX xc_60 (aSeek xc_60 5) [aR a0, aR a1, aI a2] [aI v2] (SH L) M1 o := by
      by_cases cc : v2 = 0
      · replace h := h.1 cc
        have t7 : aX xc_60 (aSeek xc_60 23) [aR a0, aR a1, aI a2] [] (SH L) M1 o := by
          subst h
          exact ⟨2, rfl⟩
        exact aX_seg 1 (fun n g => ip cc (g)) t7
      · replace h := h.2 cc
        have t8 : aX xc_60 (aSeek xc_60 8) [aR a0, aR a1, aI a2] [] (SH L) M1 o := by
          obtain ⟨c9, h⟩ := h
          obtain ⟨c10, h⟩ := h
          obtain ⟨c11, h⟩ := h
          obtain ⟨M3, v4, k12, h⟩ := h
          have h2 : aX xc_60 (aSeek xc_60 19) [aR a0, aR a1, aI a2] [aI v4, aI (M1 (aF (SH L) a1 8) a2)] (SH L) M3 o := by
            subst h
            exact ⟨3, rfl⟩
          exact aX_seg 6 (fun n g => ip c9 (ip c10 (g))) (aX_callv (c11) rfl rfl rfl k12 h2)
        exact aX_seg 1 (fun n g => in_ cc (g)) t8
    exact aX_seg 2 (fun n g => g) (aX_callv (c5) rfl rfl rfl k6 h2)
  exact q
/- TypeLock$Bed.add(IIIIIIZ)V -/
set_option maxRecDepth 100000 in
theorem en_61 {L : Nat} {a0 a1 a2 a3 a4 a5 a6 a7 : Int} {M : aM} {o : aO} (h : (aK (SH L) a0 = 10) ∧ ((40 ≤ (M a0 0) → o = ([], (SH L), M)) ∧ (¬ (40 ≤ (M a0 0)) → (aK (SH L) a0 = 10) ∧ (aK (SH L) a0 = 10) ∧ (0 ≤ M a0 0 ∧ M a0 0 < aLn (SH L) 1 (aF (SH L) a0 1)) ∧ (aK (SH L) a0 = 10) ∧ (aK (SH L) a0 = 10) ∧ (0 ≤ (aSet M (aF (SH L) a0 1) (M a0 0) a1) a0 0 ∧ (aSet M (aF (SH L) a0 1) (M a0 0) a1) a0 0 < aLn (SH L) 1 (aF (SH L) a0 2)) ∧ (aK (SH L) a0 = 10) ∧ (aK (SH L) a0 = 10) ∧ (0 ≤ (aSet (aSet M (aF (SH L) a0 1) (M a0 0) a1) (aF (SH L) a0 2) ((aSet M (aF (SH L) a0 1) (M a0 0) a1) a0 0) a2) a0 0 ∧ (aSet (aSet M (aF (SH L) a0 1) (M a0 0) a1) (aF (SH L) a0 2) ((aSet M (aF (SH L) a0 1) (M a0 0) a1) a0 0) a2) a0 0 < aLn (SH L) 1 (aF (SH L) a0 3)) ∧ (aK (SH L) a0 = 10) ∧ (aK (SH L) a0 = 10) ∧ (0 ≤ (aSet (aSet (aSet M (aF (SH L) a0 1) (M a0 0) a1) (aF (SH L) a0 2) ((aSet M (aF (SH L) a0 1) (M a0 0) a1) a0 0) a2) (aF (SH L) a0 3) ((aSet (aSet M (aF (SH L) a0 1) (M a0 0) a1) (aF (SH L) a0 2) ((aSet M (aF (SH L) a0 1) (M a0 0) a1) a0 0) a2) a0 0) a3) a0 0 ∧ (aSet (aSet (aSet M (aF (SH L) a0 1) (M a0 0) a1) (aF (SH L) a0 2) ((aSet M (aF (SH L) a0 1) (M a0 0) a1) a0 0) a2) (aF (SH L) a0 3) ((aSet (aSet M (aF (SH L) a0 1) (M a0 0) a1) (aF (SH L) a0 2) ((aSet M (aF (SH L) a0 1) (M a0 0) a1) a0 0) a2) a0 0) a3) a0 0 < aLn (SH L) 1 (aF (SH L) a0 4)) ∧ (aK (SH L) a0 = 10) ∧ (aK (SH L) a0 = 10) ∧ (0 ≤ (aSet (aSet (aSet (aSet M (aF (SH L) a0 1) (M a0 0) a1) (aF (SH L) a0 2) ((aSet M (aF (SH L) a0 1) (M a0 0) a1) a0 0) a2) (aF (SH L) a0 3) ((aSet (aSet M (aF (SH L) a0 1) (M a0 0) a1) (aF (SH L) a0 2) ((aSet M (aF (SH L) a0 1) (M a0 0) a1) a0 0) a2) a0 0) a3) (aF (SH L) a0 4) ((aSet (aSet (aSet M (aF (SH L) a0 1) (M a0 0) a1) (aF (SH L) a0 2) ((aSet M (aF (SH L) a0 1) (M a0 0) a1) a0 0) a2) (aF (SH L) a0 3) ((aSet (aSet M (aF (SH L) a0 1) (M a0 0) a1) (aF (SH L) a0 2) ((aSet M (aF (SH L) a0 1) (M a0 0) a1) a0 0) a2) a0 0) a3) a0 0) a4) a0 0 ∧ (aSet (aSet (aSet (aSet M (aF (SH L) a0 1) (M a0 0) a1) (aF (SH L) a0 2) ((aSet M (aF (SH L) a0 1) (M a0 0) a1) a0 0) a2) (aF (SH L) a0 3) ((aSet (aSet M (aF (SH L) a0 1) (M a0 0) a1) (aF (SH L) a0 2) ((aSet M (aF (SH L) a0 1) (M a0 0) a1) a0 0) a2) a0 0) a3) (aF (SH L) a0 4) ((aSet (aSet (aSet M (aF (SH L) a0 1) (M a0 0) a1) (aF (SH L) a0 2) ((aSet M (aF (SH L) a0 1) (M a0 0) a1) a0 0) a2) (aF (SH L) a0 3) ((aSet (aSet M (aF (SH L) a0 1) (M a0 0) a1) (aF (SH L) a0 2) ((aSet M (aF (SH L) a0 1) (M a0 0) a1) a0 0) a2) a0 0) a3) a0 0) a4) a0 0 < aLn (SH L) 1 (aF (SH L) a0 5)) ∧ (aK (SH L) a0 = 10) ∧ (aK (SH L) a0 = 10) ∧ (0 ≤ (aSet (aSet (aSet (aSet (aSet M (aF (SH L) a0 1) (M a0 0) a1) (aF (SH L) a0 2) ((aSet M (aF (SH L) a0 1) (M a0 0) a1) a0 0) a2) (aF (SH L) a0 3) ((aSet (aSet M (aF (SH L) a0 1) (M a0 0) a1) (aF (SH L) a0 2) ((aSet M (aF (SH L) a0 1) (M a0 0) a1) a0 0) a2) a0 0) a3) (aF (SH L) a0 4) ((aSet (aSet (aSet M (aF (SH L) a0 1) (M a0 0) a1) (aF (SH L) a0 2) ((aSet M (aF (SH L) a0 1) (M a0 0) a1) a0 0) a2) (aF (SH L) a0 3) ((aSet (aSet M (aF (SH L) a0 1) (M a0 0) a1) (aF (SH L) a0 2) ((aSet M (aF (SH L) a0 1) (M a0 0) a1) a0 0) a2) a0 0) a3) a0 0) a4) (aF (SH L) a0 5) ((aSet (aSet (aSet (aSet M (aF (SH L) a0 1) (M a0 0) a1) (aF (SH L) a0 2) ((aSet M (aF (SH L) a0 1) (M a0 0) a1) a0 0) a2) (aF (SH L) a0 3) ((aSet (aSet M (aF (SH L) a0 1) (M a0 0) a1) (aF (SH L) a0 2) ((aSet M (aF (SH L) a0 1) (M a0 0) a1) a0 0) a2) a0 0) a3) (aF (SH L) a0 4) ((aSet (aSet (aSet M (aF (SH L) a0 1) (M a0 0) a1) (aF (SH L) a0 2) ((aSet M (aF (SH L) a0 1) (M a0 0) a1) a0 0) a2) (aF (SH L) a0 3) ((aSet (aSet M (aF (SH L) a0 1) (M a0 0) a1) (aF (SH L) a0 2) ((aSet M (aF (SH L) a0 1) (M a0 0) a1) a0 0) a2) a0 0) a3) a0 0) a4) a0 0) a5) a0 0 ∧ (aSet (aSet (aSet (aSet (aSet M (aF (SH L) a0 1) (M a0 0) a1) (aF (SH L) a0 2) ((aSet M (aF (SH L) a0 1) (M a0 0) a1) a0 0) a2) (aF (SH L) a0 3) ((aSet (aSet M (aF (SH L) a0 1) (M a0 0) a1) (aF (SH L) a0 2) ((aSet M (aF (SH L) a0 1) (M a0 0) a1) a0 0) a2) a0 0) a3) (aF (SH L) a0 4) ((aSet (aSet (aSet M (aF (SH L) a0 1) (M a0 0) a1) (aF (SH L) a0 2) ((aSet M (aF (SH L) a0 1) (M a0 0) a1) a0 0) a2) (aF (SH L) a0 3) ((aSet (aSet M (aF (SH L) a0 1) (M a0 0) a1) (aF (SH L) a0 2) ((aSet M (aF (SH L) a0 1) (M a0 0) a1) a0 0) a2) a0 0) a3) a0 0) a4) (aF (SH L) a0 5) ((aSet (aSet (aSet (aSet M (aF (SH L) a0 1) (M a0 0) a1) (aF (SH L) a0 2) ((aSet M (aF (SH L) a0 1) (M a0 0) a1) a0 0) a2) (aF (SH L) a0 3) ((aSet (aSet M (aF (SH L) a0 1) (M a0 0) a1) (aF (SH L) a0 2) ((aSet M (aF (SH L) a0 1) (M a0 0) a1) a0 0) a2) a0 0) a3) (aF (SH L) a0 4) ((aSet (aSet (aSet M (aF (SH L) a0 1) (M a0 0) a1) (aF (SH L) a0 2) ((aSet M (aF (SH L) a0 1) (M a0 0) a1) a0 0) a2) (aF (SH L) a0 3) ((aSet (aSet M (aF (SH L) a0 1) (M a0 0) a1) (aF (SH L) a0 2) ((aSet M (aF (SH L) a0 1) (M a0 0) a1) a0 0) a2) a0 0) a3) a0 0) a4) a0 0) a5) a0 0 < aLn (SH L) 1 (aF (SH L) a0 6)) ∧ (aK (SH L) a0 = 10) ∧ (aK (SH L) a0 = 10) ∧ ((0 ≤ (aSet (aSet (aSet (aSet (aSet (aSet M (aF (SH L) a0 1) (M a0 0) a1) (aF (SH L) a0 2) ((aSet M (aF (SH L) a0 1) (M a0 0) a1) a0 0) a2) (aF (SH L) a0 3) ((aSet (aSet M (aF (SH L) a0 1) (M a0 0) a1) (aF (SH L) a0 2) ((aSet M (aF (SH L) a0 1) (M a0 0) a1) a0 0) a2) a0 0) a3) (aF (SH L) a0 4) ((aSet (aSet (aSet M (aF (SH L) a0 1) (M a0 0) a1) (aF (SH L) a0 2) ((aSet M (aF (SH L) a0 1) (M a0 0) a1) a0 0) a2) (aF (SH L) a0 3) ((aSet (aSet M (aF (SH L) a0 1) (M a0 0) a1) (aF (SH L) a0 2) ((aSet M (aF (SH L) a0 1) (M a0 0) a1) a0 0) a2) a0 0) a3) a0 0) a4) (aF (SH L) a0 5) ((aSet (aSet (aSet (aSet M (aF (SH L) a0 1) (M a0 0) a1) (aF (SH L) a0 2) ((aSet M (aF (SH L) a0 1) (M a0 0) a1) a0 0) a2) (aF (SH L) a0 3) ((aSet (aSet M (aF (SH L) a0 1) (M a0 0) a1) (aF (SH L) a0 2) ((aSet M (aF (SH L) a0 1) (M a0 0) a1) a0 0) a2) a0 0) a3) (aF (SH L) a0 4) ((aSet (aSet (aSet M (aF (SH L) a0 1) (M a0 0) a1) (aF (SH L) a0 2) ((aSet M (aF (SH L) a0 1) (M a0 0) a1) a0 0) a2) (aF (SH L) a0 3) ((aSet (aSet M (aF (SH L) a0 1) (M a0 0) a1) (aF (SH L) a0 2) ((aSet M (aF (SH L) a0 1) (M a0 0) a1) a0 0) a2) a0 0) a3) a0 0) a4) a0 0) a5) (aF (SH L) a0 6) ((aSet (aSet (aSet (aSet (aSet M (aF (SH L) a0 1) (M a0 0) a1) (aF (SH L) a0 2) ((aSet M (aF (SH L) a0 1) (M a0 0) a1) a0 0) a2) (aF (SH L) a0 3) ((aSet (aSet M (aF (SH L) a0 1) (M a0 0) a1) (aF (SH L) a0 2) ((aSet M (aF (SH L) a0 1) (M a0 0) a1) a0 0) a2) a0 0) a3) (aF (SH L) a0 4) ((aSet (aSet (aSet M (aF (SH L) a0 1) (M a0 0) a1) (aF (SH L) a0 2) ((aSet M (aF (SH L) a0 1) (M a0 0) a1) a0 0) a2) (aF (SH L) a0 3) ((aSet (aSet M (aF (SH L) a0 1) (M a0 0) a1) (aF (SH L) a0 2) ((aSet M (aF (SH L) a0 1) (M a0 0) a1) a0 0) a2) a0 0) a3) a0 0) a4) (aF (SH L) a0 5) ((aSet (aSet (aSet (aSet M (aF (SH L) a0 1) (M a0 0) a1) (aF (SH L) a0 2) ((aSet M (aF (SH L) a0 1) (M a0 0) a1) a0 0) a2) (aF (SH L) a0 3) ((aSet (aSet M (aF (SH L) a0 1) (M a0 0) a1) (aF (SH L) a0 2) ((aSet M (aF (SH L) a0 1) (M a0 0) a1) a0 0) a2) a0 0) a3) (aF (SH L) a0 4) ((aSet (aSet (aSet M (aF (SH L) a0 1) (M a0 0) a1) (aF (SH L) a0 2) ((aSet M (aF (SH L) a0 1) (M a0 0) a1) a0 0) a2) (aF (SH L) a0 3) ((aSet (aSet M (aF (SH L) a0 1) (M a0 0) a1) (aF (SH L) a0 2) ((aSet M (aF (SH L) a0 1) (M a0 0) a1) a0 0) a2) a0 0) a3) a0 0) a4) a0 0) a5) a0 0) a6) a0 0 ∧ (aSet (aSet (aSet (aSet (aSet (aSet M (aF (SH L) a0 1) (M a0 0) a1) (aF (SH L) a0 2) ((aSet M (aF (SH L) a0 1) (M a0 0) a1) a0 0) a2) (aF (SH L) a0 3) ((aSet (aSet M (aF (SH L) a0 1) (M a0 0) a1) (aF (SH L) a0 2) ((aSet M (aF (SH L) a0 1) (M a0 0) a1) a0 0) a2) a0 0) a3) (aF (SH L) a0 4) ((aSet (aSet (aSet M (aF (SH L) a0 1) (M a0 0) a1) (aF (SH L) a0 2) ((aSet M (aF (SH L) a0 1) (M a0 0) a1) a0 0) a2) (aF (SH L) a0 3) ((aSet (aSet M (aF (SH L) a0 1) (M a0 0) a1) (aF (SH L) a0 2) ((aSet M (aF (SH L) a0 1) (M a0 0) a1) a0 0) a2) a0 0) a3) a0 0) a4) (aF (SH L) a0 5) ((aSet (aSet (aSet (aSet M (aF (SH L) a0 1) (M a0 0) a1) (aF (SH L) a0 2) ((aSet M (aF (SH L) a0 1) (M a0 0) a1) a0 0) a2) (aF (SH L) a0 3) ((aSet (aSet M (aF (SH L) a0 1) (M a0 0) a1) (aF (SH L) a0 2) ((aSet M (aF (SH L) a0 1) (M a0 0) a1) a0 0) a2) a0 0) a3) (aF (SH L) a0 4) ((aSet (aSet (aSet M (aF (SH L) a0 1) (M a0 0) a1) (aF (SH L) a0 2) ((aSet M (aF (SH L) a0 1) (M a0 0) a1) a0 0) a2) (aF (SH L) a0 3) ((aSet (aSet M (aF (SH L) a0 1) (M a0 0) a1) (aF (SH L) a0 2) ((aSet M (aF (SH L) a0 1) (M a0 0) a1) a0 0) a2) a0 0) a3) a0 0) a4) a0 0) a5) (aF (SH L) a0 6) ((aSet (aSet (aSet (aSet (aSet M (aF (SH L) a0 1) (M a0 0) a1) (aF (SH L) a0 2) ((aSet M (aF (SH L) a0 1) (M a0 0) a1) a0 0) a2) (aF (SH L) a0 3) ((aSet (aSet M (aF (SH L) a0 1) (M a0 0) a1) (aF (SH L) a0 2) ((aSet M (aF (SH L) a0 1) (M a0 0) a1) a0 0) a2) a0 0) a3) (aF (SH L) a0 4) ((aSet (aSet (aSet M (aF (SH L) a0 1) (M a0 0) a1) (aF (SH L) a0 2) ((aSet M (aF (SH L) a0 1) (M a0 0) a1) a0 0) a2) (aF (SH L) a0 3) ((aSet (aSet M (aF (SH L) a0 1) (M a0 0) a1) (aF (SH L) a0 2) ((aSet M (aF (SH L) a0 1) (M a0 0) a1) a0 0) a2) a0 0) a3) a0 0) a4) (aF (SH L) a0 5) ((aSet (aSet (aSet (aSet M (aF (SH L) a0 1) (M a0 0) a1) (aF (SH L) a0 2) ((aSet M (aF (SH L) a0 1) (M a0 0) a1) a0 0) a2) (aF (SH L) a0 3) ((aSet (aSet M (aF (SH L) a0 1) (M a0 0) a1) (aF (SH L) a0 2) ((aSet M (aF (SH L) a0 1) (M a0 0) a1) a0 0) a2) a0 0) a3) (aF (SH L) a0 4) ((aSet (aSet (aSet M (aF (SH L) a0 1) (M a0 0) a1) (aF (SH L) a0 2) ((aSet M (aF (SH L) a0 1) (M a0 0) a1) a0 0) a2) (aF (SH L) a0 3) ((aSet (aSet M (aF (SH L) a0 1) (M a0 0) a1) (aF (SH L) a0 2) ((aSet M (aF (SH L) a0 1) (M a0 0) a1) a0 0) a2) a0 0) a3) a0 0) a4) a0 0) a5) a0 0) a6) a0 0 < aLn (SH L) 4 (aF (SH L) a0 7)) ∧ (a7 = 0 ∨ a7 = 1)) ∧ (aK (SH L) a0 = 10) ∧ (aK (SH L) a0 = 10) ∧ o = ([], (SH L), aSet (aSet (aSet (aSet (aSet (aSet (aSet (aSet M (aF (SH L) a0 1) (M a0 0) a1) (aF (SH L) a0 2) ((aSet M (aF (SH L) a0 1) (M a0 0) a1) a0 0) a2) (aF (SH L) a0 3) ((aSet (aSet M (aF (SH L) a0 1) (M a0 0) a1) (aF (SH L) a0 2) ((aSet M (aF (SH L) a0 1) (M a0 0) a1) a0 0) a2) a0 0) a3) (aF (SH L) a0 4) ((aSet (aSet (aSet M (aF (SH L) a0 1) (M a0 0) a1) (aF (SH L) a0 2) ((aSet M (aF (SH L) a0 1) (M a0 0) a1) a0 0) a2) (aF (SH L) a0 3) ((aSet (aSet M (aF (SH L) a0 1) (M a0 0) a1) (aF (SH L) a0 2) ((aSet M (aF (SH L) a0 1) (M a0 0) a1) a0 0) a2) a0 0) a3) a0 0) a4) (aF (SH L) a0 5) ((aSet (aSet (aSet (aSet M (aF (SH L) a0 1) (M a0 0) a1) (aF (SH L) a0 2) ((aSet M (aF (SH L) a0 1) (M a0 0) a1) a0 0) a2) (aF (SH L) a0 3) ((aSet (aSet M (aF (SH L) a0 1) (M a0 0) a1) (aF (SH L) a0 2) ((aSet M (aF (SH L) a0 1) (M a0 0) a1) a0 0) a2) a0 0) a3) (aF (SH L) a0 4) ((aSet (aSet (aSet M (aF (SH L) a0 1) (M a0 0) a1) (aF (SH L) a0 2) ((aSet M (aF (SH L) a0 1) (M a0 0) a1) a0 0) a2) (aF (SH L) a0 3) ((aSet (aSet M (aF (SH L) a0 1) (M a0 0) a1) (aF (SH L) a0 2) ((aSet M (aF (SH L) a0 1) (M a0 0) a1) a0 0) a2) a0 0) a3) a0 0) a4) a0 0) a5) (aF (SH L) a0 6) ((aSet (aSet (aSet (aSet (aSet M (aF (SH L) a0 1) (M a0 0) a1) (aF (SH L) a0 2) ((aSet M (aF (SH L) a0 1) (M a0 0) a1) a0 0) a2) (aF (SH L) a0 3) ((aSet (aSet M (aF (SH L) a0 1) (M a0 0) a1) (aF (SH L) a0 2) ((aSet M (aF (SH L) a0 1) (M a0 0) a1) a0 0) a2) a0 0) a3) (aF (SH L) a0 4) ((aSet (aSet (aSet M (aF (SH L) a0 1) (M a0 0) a1) (aF (SH L) a0 2) ((aSet M (aF (SH L) a0 1) (M a0 0) a1) a0 0) a2) (aF (SH L) a0 3) ((aSet (aSet M (aF (SH L) a0 1) (M a0 0) a1) (aF (SH L) a0 2) ((aSet M (aF (SH L) a0 1) (M a0 0) a1) a0 0) a2) a0 0) a3) a0 0) a4) (aF (SH L) a0 5) ((aSet (aSet (aSet (aSet M (aF (SH L) a0 1) (M a0 0) a1) (aF (SH L) a0 2) ((aSet M (aF (SH L) a0 1) (M a0 0) a1) a0 0) a2) (aF (SH L) a0 3) ((aSet (aSet M (aF (SH L) a0 1) (M a0 0) a1) (aF (SH L) a0 2) ((aSet M (aF (SH L) a0 1) (M a0 0) a1) a0 0) a2) a0 0) a3) (aF (SH L) a0 4) ((aSet (aSet (aSet M (aF (SH L) a0 1) (M a0 0) a1) (aF (SH L) a0 2) ((aSet M (aF (SH L) a0 1) (M a0 0) a1) a0 0) a2) (aF (SH L) a0 3) ((aSet (aSet M (aF (SH L) a0 1) (M a0 0) a1) (aF (SH L) a0 2) ((aSet M (aF (SH L) a0 1) (M a0 0) a1) a0 0) a2) a0 0) a3) a0 0) a4) a0 0) a5) a0 0) a6) (aF (SH L) a0 7) ((aSet (aSet (aSet (aSet (aSet (aSet M (aF (SH L) a0 1) (M a0 0) a1) (aF (SH L) a0 2) ((aSet M (aF (SH L) a0 1) (M a0 0) a1) a0 0) a2) (aF (SH L) a0 3) ((aSet (aSet M (aF (SH L) a0 1) (M a0 0) a1) (aF (SH L) a0 2) ((aSet M (aF (SH L) a0 1) (M a0 0) a1) a0 0) a2) a0 0) a3) (aF (SH L) a0 4) ((aSet (aSet (aSet M (aF (SH L) a0 1) (M a0 0) a1) (aF (SH L) a0 2) ((aSet M (aF (SH L) a0 1) (M a0 0) a1) a0 0) a2) (aF (SH L) a0 3) ((aSet (aSet M (aF (SH L) a0 1) (M a0 0) a1) (aF (SH L) a0 2) ((aSet M (aF (SH L) a0 1) (M a0 0) a1) a0 0) a2) a0 0) a3) a0 0) a4) (aF (SH L) a0 5) ((aSet (aSet (aSet (aSet M (aF (SH L) a0 1) (M a0 0) a1) (aF (SH L) a0 2) ((aSet M (aF (SH L) a0 1) (M a0 0) a1) a0 0) a2) (aF (SH L) a0 3) ((aSet (aSet M (aF (SH L) a0 1) (M a0 0) a1) (aF (SH L) a0 2) ((aSet M (aF (SH L) a0 1) (M a0 0) a1) a0 0) a2) a0 0) a3) (aF (SH L) a0 4) ((aSet (aSet (aSet M (aF (SH L) a0 1) (M a0 0) a1) (aF (SH L) a0 2) ((aSet M (aF (SH L) a0 1) (M a0 0) a1) a0 0) a2) (aF (SH L) a0 3) ((aSet (aSet M (aF (SH L) a0 1) (M a0 0) a1) (aF (SH L) a0 2) ((aSet M (aF (SH L) a0 1) (M a0 0) a1) a0 0) a2) a0 0) a3) a0 0) a4) a0 0) a5) (aF (SH L) a0 6) ((aSet (aSet (aSet (aSet (aSet M (aF (SH L) a0 1) (M a0 0) a1) (aF (SH L) a0 2) ((aSet M (aF (SH L) a0 1) (M a0 0) a1) a0 0) a2) (aF (SH L) a0 3) ((aSet (aSet M (aF (SH L) a0 1) (M a0 0) a1) (aF (SH L) a0 2) ((aSet M (aF (SH L) a0 1) (M a0 0) a1) a0 0) a2) a0 0) a3) (aF (SH L) a0 4) ((aSet (aSet (aSet M (aF (SH L) a0 1) (M a0 0) a1) (aF (SH L) a0 2) ((aSet M (aF (SH L) a0 1) (M a0 0) a1) a0 0) a2) (aF (SH L) a0 3) ((aSet (aSet M (aF (SH L) a0 1) (M a0 0) a1) (aF (SH L) a0 2) ((aSet M (aF (SH L) a0 1) (M a0 0) a1) a0 0) a2) a0 0) a3) a0 0) a4) (aF (SH L) a0 5) ((aSet (aSet (aSet (aSet M (aF (SH L) a0 1) (M a0 0) a1) (aF (SH L) a0 2) ((aSet M (aF (SH L) a0 1) (M a0 0) a1) a0 0) a2) (aF (SH L) a0 3) ((aSet (aSet M (aF (SH L) a0 1) (M a0 0) a1) (aF (SH L) a0 2) ((aSet M (aF (SH L) a0 1) (M a0 0) a1) a0 0) a2) a0 0) a3) (aF (SH L) a0 4) ((aSet (aSet (aSet M (aF (SH L) a0 1) (M a0 0) a1) (aF (SH L) a0 2) ((aSet M (aF (SH L) a0 1) (M a0 0) a1) a0 0) a2) (aF (SH L) a0 3) ((aSet (aSet M (aF (SH L) a0 1) (M a0 0) a1) (aF (SH L) a0 2) ((aSet M (aF (SH L) a0 1) (M a0 0) a1) a0 0) a2) a0 0) a3) a0 0) a4) a0 0) a5) a0 0) a6) a0 0) a7) a0 0 (aW (((aSet (aSet (aSet (aSet (aSet (aSet (aSet M (aF (SH L) a0 1) (M a0 0) a1) (aF (SH L) a0 2) ((aSet M (aF (SH L) a0 1) (M a0 0) a1) a0 0) a2) (aF (SH L) a0 3) ((aSet (aSet M (aF (SH L) a0 1) (M a0 0) a1) (aF (SH L) a0 2) ((aSet M (aF (SH L) a0 1) (M a0 0) a1) a0 0) a2) a0 0) a3) (aF (SH L) a0 4) ((aSet (aSet (aSet M (aF (SH L) a0 1) (M a0 0) a1) (aF (SH L) a0 2) ((aSet M (aF (SH L) a0 1) (M a0 0) a1) a0 0) a2) (aF (SH L) a0 3) ((aSet (aSet M (aF (SH L) a0 1) (M a0 0) a1) (aF (SH L) a0 2) ((aSet M (aF (SH L) a0 1) (M a0 0) a1) a0 0) a2) a0 0) a3) a0 0) a4) (aF (SH L) a0 5) ((aSet (aSet (aSet (aSet M (aF (SH L) a0 1) (M a0 0) a1) (aF (SH L) a0 2) ((aSet M (aF (SH L) a0 1) (M a0 0) a1) a0 0) a2) (aF (SH L) a0 3) ((aSet (aSet M (aF (SH L) a0 1) (M a0 0) a1) (aF (SH L) a0 2) ((aSet M (aF (SH L) a0 1) (M a0 0) a1) a0 0) a2) a0 0) a3) (aF (SH L) a0 4) ((aSet (aSet (aSet M (aF (SH L) a0 1) (M a0 0) a1) (aF (SH L) a0 2) ((aSet M (aF (SH L) a0 1) (M a0 0) a1) a0 0) a2) (aF (SH L) a0 3) ((aSet (aSet M (aF (SH L) a0 1) (M a0 0) a1) (aF (SH L) a0 2) ((aSet M (aF (SH L) a0 1) (M a0 0) a1) a0 0) a2) a0 0) a3) a0 0) a4) a0 0) a5) (aF (SH L) a0 6) ((aSet (aSet (aSet (aSet (aSet M (aF (SH L) a0 1) (M a0 0) a1) (aF (SH L) a0 2) ((aSet M (aF (SH L) a0 1) (M a0 0) a1) a0 0) a2) (aF (SH L) a0 3) ((aSet (aSet M (aF (SH L) a0 1) (M a0 0) a1) (aF (SH L) a0 2) ((aSet M (aF (SH L) a0 1) (M a0 0) a1) a0 0) a2) a0 0) a3) (aF (SH L) a0 4) ((aSet (aSet (aSet M (aF (SH L) a0 1) (M a0 0) a1) (aF (SH L) a0 2) ((aSet M (aF (SH L) a0 1) (M a0 0) a1) a0 0) a2) (aF (SH L) a0 3) ((aSet (aSet M (aF (SH L) a0 1) (M a0 0) a1) (aF (SH L) a0 2) ((aSet M (aF (SH L) a0 1) (M a0 0) a1) a0 0) a2) a0 0) a3) a0 0) a4) (aF (SH L) a0 5) ((aSet (aSet (aSet (aSet M (aF (SH L) a0 1) (M a0 0) a1) (aF (SH L) a0 2) ((aSet M (aF (SH L) a0 1) (M a0 0) a1) a0 0) a2) (aF (SH L) a0 3) ((aSet (aSet M (aF (SH L) a0 1) (M a0 0) a1) (aF (SH L) a0 2) ((aSet M (aF (SH L) a0 1) (M a0 0) a1) a0 0) a2) a0 0) a3) (aF (SH L) a0 4) ((aSet (aSet (aSet M (aF (SH L) a0 1) (M a0 0) a1) (aF (SH L) a0 2) ((aSet M (aF (SH L) a0 1) (M a0 0) a1) a0 0) a2) (aF (SH L) a0 3) ((aSet (aSet M (aF (SH L) a0 1) (M a0 0) a1) (aF (SH L) a0 2) ((aSet M (aF (SH L) a0 1) (M a0 0) a1) a0 0) a2) a0 0) a3) a0 0) a4) a0 0) a5) a0 0) a6) (aF (SH L) a0 7) ((aSet (aSet (aSet (aSet (aSet (aSet M (aF (SH L) a0 1) (M a0 0) a1) (aF (SH L) a0 2) ((aSet M (aF (SH L) a0 1) (M a0 0) a1) a0 0) a2) (aF (SH L) a0 3) ((aSet (aSet M (aF (SH L) a0 1) (M a0 0) a1) (aF (SH L) a0 2) ((aSet M (aF (SH L) a0 1) (M a0 0) a1) a0 0) a2) a0 0) a3) (aF (SH L) a0 4) ((aSet (aSet (aSet M (aF (SH L) a0 1) (M a0 0) a1) (aF (SH L) a0 2) ((aSet M (aF (SH L) a0 1) (M a0 0) a1) a0 0) a2) (aF (SH L) a0 3) ((aSet (aSet M (aF (SH L) a0 1) (M a0 0) a1) (aF (SH L) a0 2) ((aSet M (aF (SH L) a0 1) (M a0 0) a1) a0 0) a2) a0 0) a3) a0 0) a4) (aF (SH L) a0 5) ((aSet (aSet (aSet (aSet M (aF (SH L) a0 1) (M a0 0) a1) (aF (SH L) a0 2) ((aSet M (aF (SH L) a0 1) (M a0 0) a1) a0 0) a2) (aF (SH L) a0 3) ((aSet (aSet M (aF (SH L) a0 1) (M a0 0) a1) (aF (SH L) a0 2) ((aSet M (aF (SH L) a0 1) (M a0 0) a1) a0 0) a2) a0 0) a3) (aF (SH L) a0 4) ((aSet (aSet (aSet M (aF (SH L) a0 1) (M a0 0) a1) (aF (SH L) a0 2) ((aSet M (aF (SH L) a0 1) (M a0 0) a1) a0 0) a2) (aF (SH L) a0 3) ((aSet (aSet M (aF (SH L) a0 1) (M a0 0) a1) (aF (SH L) a0 2) ((aSet M (aF (SH L) a0 1) (M a0 0) a1) a0 0) a2) a0 0) a3) a0 0) a4) a0 0) a5) (aF (SH L) a0 6) ((aSet (aSet (aSet (aSet (aSet M (aF (SH L) a0 1) (M a0 0) a1) (aF (SH L) a0 2) ((aSet M (aF (SH L) a0 1) (M a0 0) a1) a0 0) a2) (aF (SH L) a0 3) ((aSet (aSet M (aF (SH L) a0 1) (M a0 0) a1) (aF (SH L) a0 2) ((aSet M (aF (SH L) a0 1) (M a0 0) a1) a0 0) a2) a0 0) a3) (aF (SH L) a0 4) ((aSet (aSet (aSet M (aF (SH L) a0 1) (M a0 0) a1) (aF (SH L) a0 2) ((aSet M (aF (SH L) a0 1) (M a0 0) a1) a0 0) a2) (aF (SH L) a0 3) ((aSet (aSet M (aF (SH L) a0 1) (M a0 0) a1) (aF (SH L) a0 2) ((aSet M (aF (SH L) a0 1) (M a0 0) a1) a0 0) a2) a0 0) a3) a0 0) a4) (aF (SH L) a0 5) ((aSet (aSet (aSet (aSet M (aF (SH L) a0 1) (M a0 0) a1) (aF (SH L) a0 2) ((aSet M (aF (SH L) a0 1) (M a0 0) a1) a0 0) a2) (aF (SH L) a0 3) ((aSet (aSet M (aF (SH L) a0 1) (M a0 0) a1) (aF (SH L) a0 2) ((aSet M (aF (SH L) a0 1) (M a0 0) a1) a0 0) a2) a0 0) a3) (aF (SH L) a0 4) ((aSet (aSet (aSet M (aF (SH L) a0 1) (M a0 0) a1) (aF (SH L) a0 2) ((aSet M (aF (SH L) a0 1) (M a0 0) a1) a0 0) a2) (aF (SH L) a0 3) ((aSet (aSet M (aF (SH L) a0 1) (M a0 0) a1) (aF (SH L) a0 2) ((aSet M (aF (SH L) a0 1) (M a0 0) a1) a0 0) a2) a0 0) a3) a0 0) a4) a0 0) a5) a0 0) a6) a0 0) a7) a0 0) + 1)))))) : aE 61 [aR a0, aI a1, aI a2, aI a3, aI a4, aI a5, aI a6, aI a7] (SH L) M o := by
  have q : aX xc_61 (aSeek xc_61 0) [aR a0, aI a1, aI a2, aI a3, aI a4, aI a5, aI a6, aI a7] [] (SH L) M o := by
    obtain ⟨c1, h⟩ := h
    by_cases cc : 40 ≤ (M a0 0)
    · replace h := h.1 cc
      have t2 : aX xc_61 (aSeek xc_61 93) [aR a0, aI a1, aI a2, aI a3, aI a4, aI a5, aI a6, aI a7] [] (SH L) M o := by
        subst h
        exact ⟨1, rfl⟩
      exact aX_seg 4 (fun n g => ip c1 (ip cc (g))) t2
    · replace h := h.2 cc
      have t3 : aX xc_61 (aSeek xc_61 9) [aR a0, aI a1, aI a2, aI a3, aI a4, aI a5, aI a6, aI a7] [] (SH L) M o := by
        obtain ⟨c4, h⟩ := h
        obtain ⟨c5, h⟩ := h
        obtain ⟨c6, h⟩ := h
        obtain ⟨c7, h⟩ := h
        obtain ⟨c8, h⟩ := h
        obtain ⟨c9, h⟩ := h
        obtain ⟨c10, h⟩ := h
        obtain ⟨c11, h⟩ := h
        obtain ⟨c12, h⟩ := h
        obtain ⟨c13, h⟩ := h
        obtain ⟨c14, h⟩ := h
        obtain ⟨c15, h⟩ := h
        obtain ⟨c16, h⟩ := h
        obtain ⟨c17, h⟩ := h
        obtain ⟨c18, h⟩ := h
        obtain ⟨c19, h⟩ := h
        obtain ⟨c20, h⟩ := h
        obtain ⟨c21, h⟩ := h
        obtain ⟨c22, h⟩ := h
        obtain ⟨c23, h⟩ := h
        obtain ⟨c24, h⟩ := h
        obtain ⟨c25, h⟩ := h
        obtain ⟨c26, h⟩ := h
        subst h
        exact ⟨49, ip c4 (ip c5 (ip c6 (ip c7 (ip c8 (ip c9 (ip c10 (ip c11 (ip c12 (ip c13 (ip c14 (ip c15 (ip c16 (ip c17 (ip c18 (ip c19 (ip c20 (ip c21 (ip c22 (ip c23 (ip c24 (ip c25 (ip c26 (rfl)))))))))))))))))))))))⟩
      exact aX_seg 4 (fun n g => ip c1 (in_ cc (g))) t3
  exact q
/- TypeLock.lay(IIIZ)I -/
set_option maxRecDepth 100000 in
theorem en_62 {L : Nat} {a1 a2 a3 a4 : Int} {M : aM} {o : aO} (h : (aK (SH L) (M 1 3) = 19 ∧ ∃ (M1 : aM) (v2 : Int), aE 55 [aR (M 1 3), aI a1] (SH L) M ([aI v2], (SH L), M1) ∧ ((v2 = 0 → o = ([aI ((-1))], (SH L), M1)) ∧ (¬ (v2 = 0) → (∃ (M3 : aM) (v4 : Int), aE 57 [aI a2] (SH L) M1 ([aI v4], (SH L), M3) ∧ ((v4 = 0 → o = ([aI ((-1))], (SH L), M3)) ∧ (¬ (v4 = 0) → (∃ (M5 : aM) (v6 : Int), aE 57 [aI a3] (SH L) M3 ([aI v6], (SH L), M5) ∧ ((v6 = 0 → o = ([aI ((-1))], (SH L), M5)) ∧ (¬ (v6 = 0) → (((M5 31 0) < 40 → ((a4 = 0 → (aK (SH L) (M5 1 3) = 19) ∧ (0 ≤ a1 ∧ a1 < aLn (SH L) 1 (aF (SH L) (M5 1 3) 6)) ∧ aX xc_62 (aSeek xc_62 65) [aR 1, aI a1, aI a2, aI a3, aI a4, aU, aU] [aI (M5 (aF (SH L) (M5 1 3) 6) a1)] (SH L) M5 o) ∧ (¬ (a4 = 0) → (aK (SH L) (M5 1 3) = 19) ∧ (0 ≤ a1 ∧ a1 < aLn (SH L) 1 (aF (SH L) (M5 1 3) 7)) ∧ aX xc_62 (aSeek xc_62 65) [aR 1, aI a1, aI a2, aI a3, aI a4, aU, aU] [aI (M5 (aF (SH L) (M5 1 3) 7) a1)] (SH L) M5 o))) ∧ (¬ ((M5 31 0) < 40) → o = ([aI ((-1))], (SH L), M5))))))))))))) : aE 62 [aR 1, aI a1, aI a2, aI a3, aI a4] (SH L) M o := by
  have q : aX xc_62 (aSeek xc_62 0) [aR 1, aI a1, aI a2, aI a3, aI a4, aU, aU] [] (SH L) M o := by
    obtain ⟨c7, h⟩ := h
    obtain ⟨M1, v2, k8, h⟩ := h
    have h2 : aX xc_62 (aSeek xc_62 8) [aR 1, aI a1, aI a2, aI a3, aI a4, aU, aU] [aI v2] (SH L) M1 o := by
      by_cases cc : v2 = 0
      · replace h := h.1 cc
        have t9 : aX xc_62 (aSeek xc_62 37) [aR 1, aI a1, aI a2, aI a3, aI a4, aU, aU] [] (SH L) M1 o := by
          subst h
          exact ⟨2, rfl⟩
        exact aX_seg 1 (fun n g => ip cc (g)) t9
      · replace h := h.2 cc
        have t10 : aX xc_62 (aSeek xc_62 11) [aR 1, aI a1, aI a2, aI a3, aI a4, aU, aU] [] (SH L) M1 o := by
          obtain ⟨M3, v4, k11, h⟩ := h
          have h2 : aX xc_62 (aSeek xc_62 15) [aR 1, aI a1, aI a2, aI a3, aI a4, aU, aU] [aI v4] (SH L) M3 o := by
            by_cases cc : v4 = 0
            · replace h := h.1 cc
              have t12 : aX xc_62 (aSeek xc_62 37) [aR 1, aI a1, aI a2, aI a3, aI a4, aU, aU] [] (SH L) M3 o := by
                subst h
                exact ⟨2, rfl⟩
              exact aX_seg 1 (fun n g => ip cc (g)) t12
            · replace h := h.2 cc
              have t13 : aX xc_62 (aSeek xc_62 18) [aR 1, aI a1, aI a2, aI a3, aI a4, aU, aU] [] (SH L) M3 o := by
                obtain ⟨M5, v6, k14, h⟩ := h
                have h2 : aX xc_62 (aSeek xc_62 22) [aR 1, aI a1, aI a2, aI a3, aI a4, aU, aU] [aI v6] (SH L) M5 o := by
                  by_cases cc : v6 = 0
                  · replace h := h.1 cc
                    have t15 : aX xc_62 (aSeek xc_62 37) [aR 1, aI a1, aI a2, aI a3, aI a4, aU, aU] [] (SH L) M5 o := by
                      subst h
                      exact ⟨2, rfl⟩
                    exact aX_seg 1 (fun n g => ip cc (g)) t15
                  · replace h := h.2 cc
                    have t16 : aX xc_62 (aSeek xc_62 25) [aR 1, aI a1, aI a2, aI a3, aI a4, aU, aU] [] (SH L) M5 o := by
                      by_cases cc : (M5 31 0) < 40
                      · replace h := h.1 cc
                        have t17 : aX xc_62 (aSeek xc_62 39) [aR 1, aI a1, aI a2, aI a3, aI a4, aU, aU] [] (SH L) M5 o := by
                          by_cases cc : a4 = 0
                          · replace h := h.1 cc
                            have t18 : aX xc_62 (aSeek xc_62 56) [aR 1, aI a1, aI a2, aI a3, aI a4, aU, aU] [] (SH L) M5 o := by
                              obtain ⟨c19, h⟩ := h
                              obtain ⟨c20, h⟩ := h
                              exact aX_seg 5 (fun n g => ip c19 (ip c20 (g))) (h)
                            exact aX_seg 2 (fun n g => ip cc (g)) t18
                          · replace h := h.2 cc
                            have t21 : aX xc_62 (aSeek xc_62 44) [aR 1, aI a1, aI a2, aI a3, aI a4, aU, aU] [] (SH L) M5 o := by
                              obtain ⟨c22, h⟩ := h
                              obtain ⟨c23, h⟩ := h
                              exact aX_seg 6 (fun n g => ip c22 (ip c23 (g))) (h)
                            exact aX_seg 2 (fun n g => in_ cc (g)) t21
                        exact aX_seg 5 (fun n g => ip cc (g)) t17
                      · replace h := h.2 cc
                        have t24 : aX xc_62 (aSeek xc_62 37) [aR 1, aI a1, aI a2, aI a3, aI a4, aU, aU] [] (SH L) M5 o := by
                          subst h
                          exact ⟨2, rfl⟩
                        exact aX_seg 5 (fun n g => in_ cc (g)) t24
                    exact aX_seg 1 (fun n g => in_ cc (g)) t16
                exact aX_seg 1 (fun n g => g) (aX_calls rfl rfl rfl k14 h2)
              exact aX_seg 1 (fun n g => in_ cc (g)) t13
          exact aX_seg 1 (fun n g => g) (aX_calls rfl rfl rfl k11 h2)
        exact aX_seg 1 (fun n g => in_ cc (g)) t10
    exact aX_seg 3 (fun n g => g) (aX_callv (c7) rfl rfl rfl k8 h2)
  exact q
set_option maxRecDepth 100000 in
theorem bl_62_65 {L : Nat} {a1 a2 a3 a4 b0 : Int} {M : aM} {o : aO} (h : ((a4 = 0 → (aK (SH L) (M 1 3) = 19) ∧ (0 ≤ a1 ∧ a1 < aLn (SH L) 1 (aF (SH L) (M 1 3) 7)) ∧ aX xc_62 (aSeek xc_62 93) [aR 1, aI a1, aI a2, aI a3, aI a4, aI b0, aU] [aI (M (aF (SH L) (M 1 3) 7) a1)] (SH L) M o) ∧ (¬ (a4 = 0) → (aK (SH L) (M 1 3) = 19) ∧ (0 ≤ a1 ∧ a1 < aLn (SH L) 1 (aF (SH L) (M 1 3) 6)) ∧ aX xc_62 (aSeek xc_62 93) [aR 1, aI a1, aI a2, aI a3, aI a4, aI b0, aU] [aI (M (aF (SH L) (M 1 3) 6) a1)] (SH L) M o))) : aX xc_62 (aSeek xc_62 65) [aR 1, aI a1, aI a2, aI a3, aI a4, aU, aU] [aI b0] (SH L) M o := by
  by_cases cc : a4 = 0
  · replace h := h.1 cc
    have t1 : aX xc_62 (aSeek xc_62 84) [aR 1, aI a1, aI a2, aI a3, aI a4, aI b0, aU] [] (SH L) M o := by
      obtain ⟨c2, h⟩ := h
      obtain ⟨c3, h⟩ := h
      exact aX_seg 5 (fun n g => ip c2 (ip c3 (g))) (h)
    exact aX_seg 3 (fun n g => ip cc (g)) t1
  · replace h := h.2 cc
    have t4 : aX xc_62 (aSeek xc_62 72) [aR 1, aI a1, aI a2, aI a3, aI a4, aI b0, aU] [] (SH L) M o := by
      obtain ⟨c5, h⟩ := h
      obtain ⟨c6, h⟩ := h
      exact aX_seg 6 (fun n g => ip c5 (ip c6 (g))) (h)
    exact aX_seg 3 (fun n g => in_ cc (g)) t4
set_option maxRecDepth 100000 in
theorem bl_62_93 {L : Nat} {a1 a2 a3 a4 a5 b0 : Int} {M : aM} {o : aO} (h : (aK (SH L) (M 1 3) = 19) ∧ (((M (M 1 3) 0) < (aW (a2 + a5)) → o = ([aI ((-2))], (SH L), M)) ∧ (¬ ((M (M 1 3) 0) < (aW (a2 + a5))) → (aK (SH L) (M 1 3) = 19) ∧ (((aW (a3 + b0)) ≤ (M (M 1 3) 1) → (∃ (M1 : aM) (v2 : Int), aE 58 [aR 31, aI a2, aI a3, aI a5, aI b0] (SH L) M ([aI v2], (SH L), M1) ∧ ((v2 = 0 → (∃ (M3 : aM) (v4 : Int), aE 60 [aR 31, aR (M1 1 3), aI a1] (SH L) M1 ([aI v4], (SH L), M3) ∧ ((0 < v4 → (aK (SH L) (M3 1 3) = 19) ∧ (0 ≤ a1 ∧ a1 < aLn (SH L) 1 (aF (SH L) (M3 1 3) 5)) ∧ (∃ (M5 : aM), aE 61 [aR 31, aI a1, aI (M3 (aF (SH L) (M3 1 3) 5) a1), aI a2, aI a3, aI a5, aI b0, aI a4] (SH L) M3 ([], (SH L), M5) ∧ (∃ (M6 : aM), aE 51 [aR 1] (SH L) M5 ([], (SH L), M6) ∧ o = ([aI (aW ((M6 31 0) - 1))], (SH L), M6)))) ∧ (¬ (0 < v4) → o = ([aI ((-4))], (SH L), M3))))) ∧ (¬ (v2 = 0) → o = ([aI ((-3))], (SH L), M1))))) ∧ (¬ ((aW (a3 + b0)) ≤ (M (M 1 3) 1)) → o = ([aI ((-2))], (SH L), M)))))) : aX xc_62 (aSeek xc_62 93) [aR 1, aI a1, aI a2, aI a3, aI a4, aI a5, aU] [aI b0] (SH L) M o := by
  obtain ⟨c7, h⟩ := h
  by_cases cc : (M (M 1 3) 0) < (aW (a2 + a5))
  · replace h := h.1 cc
    have t8 : aX xc_62 (aSeek xc_62 123) [aR 1, aI a1, aI a2, aI a3, aI a4, aI a5, aI b0] [] (SH L) M o := by
      subst h
      exact ⟨2, rfl⟩
    exact aX_seg 8 (fun n g => ip c7 (ip cc (g))) t8
  · replace h := h.2 cc
    have t9 : aX xc_62 (aSeek xc_62 109) [aR 1, aI a1, aI a2, aI a3, aI a4, aI a5, aI b0] [] (SH L) M o := by
      obtain ⟨c10, h⟩ := h
      by_cases cc : (aW (a3 + b0)) ≤ (M (M 1 3) 1)
      · replace h := h.1 cc
        have t11 : aX xc_62 (aSeek xc_62 126) [aR 1, aI a1, aI a2, aI a3, aI a4, aI a5, aI b0] [] (SH L) M o := by
          obtain ⟨M1, v2, k12, h⟩ := h
          have h2 : aX xc_62 (aSeek xc_62 139) [aR 1, aI a1, aI a2, aI a3, aI a4, aI a5, aI b0] [aI v2] (SH L) M1 o := by
            by_cases cc : v2 = 0
            · replace h := h.1 cc
              have t13 : aX xc_62 (aSeek xc_62 145) [aR 1, aI a1, aI a2, aI a3, aI a4, aI a5, aI b0] [] (SH L) M1 o := by
                obtain ⟨M3, v4, k14, h⟩ := h
                have h2 : aX xc_62 (aSeek xc_62 157) [aR 1, aI a1, aI a2, aI a3, aI a4, aI a5, aI b0] [aI v4] (SH L) M3 o := by
                  by_cases cc : 0 < v4
                  · replace h := h.1 cc
                    have t15 : aX xc_62 (aSeek xc_62 163) [aR 1, aI a1, aI a2, aI a3, aI a4, aI a5, aI b0] [] (SH L) M3 o := by
                      obtain ⟨c16, h⟩ := h
                      obtain ⟨c17, h⟩ := h
                      obtain ⟨M5, k18, h⟩ := h
                      have h2 : aX xc_62 (aSeek xc_62 188) [aR 1, aI a1, aI a2, aI a3, aI a4, aI a5, aI b0] [] (SH L) M5 o := by
                        obtain ⟨M6, k19, h⟩ := h
                        have h2 : aX xc_62 (aSeek xc_62 192) [aR 1, aI a1, aI a2, aI a3, aI a4, aI a5, aI b0] [] (SH L) M6 o := by
                          subst h
                          exact ⟨6, rfl⟩
                        exact aX_seg 1 (fun n g => g) (aX_callv (rfl) rfl rfl rfl k19 h2)
                      exact aX_seg 13 (fun n g => ip c16 (ip c17 (g))) (aX_callv (rfl) rfl rfl rfl k18 h2)
                    exact aX_seg 1 (fun n g => ip cc (g)) t15
                  · replace h := h.2 cc
                    have t20 : aX xc_62 (aSeek xc_62 160) [aR 1, aI a1, aI a2, aI a3, aI a4, aI a5, aI b0] [] (SH L) M3 o := by
                      subst h
                      exact ⟨2, rfl⟩
                    exact aX_seg 1 (fun n g => in_ cc (g)) t20
                exact aX_seg 5 (fun n g => g) (aX_callv (rfl) rfl rfl rfl k14 h2)
              exact aX_seg 1 (fun n g => ip cc (g)) t13
            · replace h := h.2 cc
              have t21 : aX xc_62 (aSeek xc_62 142) [aR 1, aI a1, aI a2, aI a3, aI a4, aI a5, aI b0] [] (SH L) M1 o := by
                subst h
                exact ⟨2, rfl⟩
              exact aX_seg 1 (fun n g => in_ cc (g)) t21
          exact aX_seg 6 (fun n g => g) (aX_callv (rfl) rfl rfl rfl k12 h2)
        exact aX_seg 7 (fun n g => ip c10 (ip cc (g))) t11
      · replace h := h.2 cc
        have t22 : aX xc_62 (aSeek xc_62 123) [aR 1, aI a1, aI a2, aI a3, aI a4, aI a5, aI b0] [] (SH L) M o := by
          subst h
          exact ⟨2, rfl⟩
        exact aX_seg 7 (fun n g => ip c10 (in_ cc (g))) t22
    exact aX_seg 8 (fun n g => ip c7 (in_ cc (g))) t9
/- TypeLock$Bed.has(I)Z -/
set_option maxRecDepth 100000 in
theorem en_63 {L : Nat} {a0 a1 : Int} {M : aM} {o : aO} (h : ((a1 < 0 → o = ([aI 0], (SH L), M)) ∧ (¬ (a1 < 0) → (aK (SH L) a0 = 10) ∧ (((M a0 0) ≤ a1 → o = ([aI 0], (SH L), M)) ∧ (¬ ((M a0 0) ≤ a1) → o = ([aI 1], (SH L), M)))))) : aE 63 [aR a0, aI a1] (SH L) M o := by
  have q : aX xc_63 (aSeek xc_63 0) [aR a0, aI a1] [] (SH L) M o := by
    by_cases cc : a1 < 0
    · replace h := h.1 cc
      have t1 : aX xc_63 (aSeek xc_63 16) [aR a0, aI a1] [] (SH L) M o := by
        subst h
        exact ⟨2, rfl⟩
      exact aX_seg 2 (fun n g => ip cc (g)) t1
    · replace h := h.2 cc
      have t2 : aX xc_63 (aSeek xc_63 4) [aR a0, aI a1] [] (SH L) M o := by
        obtain ⟨c3, h⟩ := h
        by_cases cc : (M a0 0) ≤ a1
        · replace h := h.1 cc
          have t4 : aX xc_63 (aSeek xc_63 16) [aR a0, aI a1] [] (SH L) M o := by
            subst h
            exact ⟨2, rfl⟩
          exact aX_seg 4 (fun n g => ip c3 (ip cc (g))) t4
        · replace h := h.2 cc
          have t5 : aX xc_63 (aSeek xc_63 12) [aR a0, aI a1] [] (SH L) M o := by
            subst h
            exact ⟨3, rfl⟩
          exact aX_seg 4 (fun n g => ip c3 (in_ cc (g))) t5
      exact aX_seg 2 (fun n g => in_ cc (g)) t2
  exact q
/- TypeLock$Bed.remove(I)V -/
set_option maxRecDepth 100000 in
theorem en_64 {L : Nat} {a0 a1 : Int} {M : aM} {o : aO} (h : (aK (SH L) a0 = 10 ∧ ∃ (M1 : aM) (v2 : Int), aE 63 [aR a0, aI a1] (SH L) M ([aI v2], (SH L), M1) ∧ ((¬ v2 = 0 → (aK (SH L) a0 = 10) ∧ (aK (SH L) a0 = 10) ∧ aX xc_64 (aSeek xc_64 25) [aR a0, aU, aI (aW ((M1 a0 0) - 1)), aI (aW (a1 + 1))] [] (SH L) (aSet M1 a0 0 a1) o) ∧ (¬ (¬ v2 = 0) → o = ([], (SH L), M1))))) : aE 64 [aR a0, aI a1] (SH L) M o := by
  have q : aX xc_64 (aSeek xc_64 0) [aR a0, aI a1, aU, aU] [] (SH L) M o := by
    obtain ⟨c3, h⟩ := h
    obtain ⟨M1, v2, k4, h⟩ := h
    have h2 : aX xc_64 (aSeek xc_64 5) [aR a0, aI a1, aU, aU] [aI v2] (SH L) M1 o := by
      by_cases cc : ¬ v2 = 0
      · replace h := h.1 cc
        have t5 : aX xc_64 (aSeek xc_64 9) [aR a0, aI a1, aU, aU] [] (SH L) M1 o := by
          obtain ⟨c6, h⟩ := h
          obtain ⟨c7, h⟩ := h
          exact aX_seg 12 (fun n g => ip c6 (ip c7 (g))) (aX_le (ls := [aR a0, aU, aI (aW ((M1 a0 0) - 1)), aI (aW (a1 + 1))]) (ls1 := [aR a0, aI a1, aI (aW ((M1 a0 0) - 1)), aI (aW (a1 + 1))]) (⟨Or.inr rfl, ⟨Or.inl rfl, ⟨Or.inr rfl, ⟨Or.inr rfl, trivial⟩⟩⟩⟩) h)
        exact aX_seg 1 (fun n g => ip cc (g)) t5
      · replace h := h.2 cc
        have t8 : aX xc_64 (aSeek xc_64 8) [aR a0, aI a1, aU, aU] [] (SH L) M1 o := by
          subst h
          exact ⟨1, rfl⟩
        exact aX_seg 1 (fun n g => in_ cc (g)) t8
    exact aX_seg 2 (fun n g => g) (aX_callv (c3) rfl rfl rfl k4 h2)
  exact q
set_option maxRecDepth 100000 in
theorem bl_64_25 {L : Nat} {a0 a2 a3 : Int} {M : aM} {o : aO} (h : ((a2 < a3 → o = ([], (SH L), M)) ∧ (¬ (a2 < a3) → (aK (SH L) a0 = 10) ∧ (0 ≤ a3 ∧ a3 < aLn (SH L) 1 (aF (SH L) a0 1)) ∧ (aK (SH L) a0 = 10) ∧ (0 ≤ a3 ∧ a3 < aLn (SH L) 1 (aF (SH L) a0 2)) ∧ (aK (SH L) a0 = 10) ∧ (0 ≤ a3 ∧ a3 < aLn (SH L) 1 (aF (SH L) a0 3)) ∧ (aK (SH L) a0 = 10) ∧ (0 ≤ a3 ∧ a3 < aLn (SH L) 1 (aF (SH L) a0 4)) ∧ (aK (SH L) a0 = 10) ∧ (0 ≤ a3 ∧ a3 < aLn (SH L) 1 (aF (SH L) a0 5)) ∧ (aK (SH L) a0 = 10) ∧ (0 ≤ a3 ∧ a3 < aLn (SH L) 1 (aF (SH L) a0 6)) ∧ (aK (SH L) a0 = 10) ∧ (0 ≤ a3 ∧ a3 < aLn (SH L) 4 (aF (SH L) a0 7)) ∧ (aK (SH L) a0 = 10 ∧ ∃ (M1 : aM), aE 61 [aR a0, aI (M (aF (SH L) a0 1) a3), aI (M (aF (SH L) a0 2) a3), aI (M (aF (SH L) a0 3) a3), aI (M (aF (SH L) a0 4) a3), aI (M (aF (SH L) a0 5) a3), aI (M (aF (SH L) a0 6) a3), aI (M (aF (SH L) a0 7) a3)] (SH L) M ([], (SH L), M1) ∧ aX xc_64 (aSeek xc_64 25) [aR a0, aU, aI a2, aI (aW (a3 + 1))] [] (SH L) M1 o)))) : aX xc_64 (aSeek xc_64 25) [aR a0, aU, aI a2, aI a3] [] (SH L) M o := by
  by_cases cc : a2 < a3
  · replace h := h.1 cc
    have t2 : aX xc_64 (aSeek xc_64 82) [aR a0, aU, aI a2, aI a3] [] (SH L) M o := by
      subst h
      exact ⟨1, rfl⟩
    exact aX_seg 3 (fun n g => ip cc (g)) t2
  · replace h := h.2 cc
    have t3 : aX xc_64 (aSeek xc_64 30) [aR a0, aU, aI a2, aI a3] [] (SH L) M o := by
      obtain ⟨c4, h⟩ := h
      obtain ⟨c5, h⟩ := h
      obtain ⟨c6, h⟩ := h
      obtain ⟨c7, h⟩ := h
      obtain ⟨c8, h⟩ := h
      obtain ⟨c9, h⟩ := h
      obtain ⟨c10, h⟩ := h
      obtain ⟨c11, h⟩ := h
      obtain ⟨c12, h⟩ := h
      obtain ⟨c13, h⟩ := h
      obtain ⟨c14, h⟩ := h
      obtain ⟨c15, h⟩ := h
      obtain ⟨c16, h⟩ := h
      obtain ⟨c17, h⟩ := h
      obtain ⟨c18, h⟩ := h
      obtain ⟨M1, k19, h⟩ := h
      have h2 : aX xc_64 (aSeek xc_64 76) [aR a0, aU, aI a2, aI a3] [] (SH L) M1 o := by
        exact aX_seg 2 (fun n g => g) (h)
      exact aX_seg 29 (fun n g => ip c4 (ip c5 (ip c6 (ip c7 (ip c8 (ip c9 (ip c10 (ip c11 (ip c12 (ip c13 (ip c14 (ip c15 (ip c16 (ip c17 (g))))))))))))))) (aX_callv (c18) rfl rfl rfl k19 h2)
    exact aX_seg 3 (fun n g => in_ cc (g)) t3
/- TypeLock.take(I)I -/
set_option maxRecDepth 100000 in
theorem en_65 {L : Nat} {a1 : Int} {M : aM} {o : aO} (h : (∃ (M1 : aM) (v2 : Int), aE 63 [aR 31, aI a1] (SH L) M ([aI v2], (SH L), M1) ∧ ((¬ v2 = 0 → (∃ (M3 : aM), aE 64 [aR 31, aI a1] (SH L) M1 ([], (SH L), M3) ∧ (∃ (M4 : aM), aE 51 [aR 1] (SH L) M3 ([], (SH L), M4) ∧ o = ([aI (M4 31 0)], (SH L), M4)))) ∧ (¬ (¬ v2 = 0) → o = ([aI ((-1))], (SH L), M1))))) : aE 65 [aR 1, aI a1] (SH L) M o := by
  have q : aX xc_65 (aSeek xc_65 0) [aR 1, aI a1] [] (SH L) M o := by
    obtain ⟨M1, v2, k5, h⟩ := h
    have h2 : aX xc_65 (aSeek xc_65 8) [aR 1, aI a1] [aI v2] (SH L) M1 o := by
      by_cases cc : ¬ v2 = 0
      · replace h := h.1 cc
        have t6 : aX xc_65 (aSeek xc_65 13) [aR 1, aI a1] [] (SH L) M1 o := by
          obtain ⟨M3, k7, h⟩ := h
          have h2 : aX xc_65 (aSeek xc_65 21) [aR 1, aI a1] [] (SH L) M3 o := by
            obtain ⟨M4, k8, h⟩ := h
            have h2 : aX xc_65 (aSeek xc_65 25) [aR 1, aI a1] [] (SH L) M4 o := by
              subst h
              exact ⟨4, rfl⟩
            exact aX_seg 1 (fun n g => g) (aX_callv (rfl) rfl rfl rfl k8 h2)
          exact aX_seg 3 (fun n g => g) (aX_callv (rfl) rfl rfl rfl k7 h2)
        exact aX_seg 1 (fun n g => ip cc (g)) t6
      · replace h := h.2 cc
        have t9 : aX xc_65 (aSeek xc_65 11) [aR 1, aI a1] [] (SH L) M1 o := by
          subst h
          exact ⟨2, rfl⟩
        exact aX_seg 1 (fun n g => in_ cc (g)) t9
    exact aX_seg 3 (fun n g => g) (aX_callv (rfl) rfl rfl rfl k5 h2)
  exact q
/- TypeLock.thing(II)I -/
set_option maxRecDepth 100000 in
theorem en_66 {L : Nat} {a1 a2 : Int} {M : aM} {o : aO} (h : (∃ (M1 : aM) (v2 : Int), aE 63 [aR 31, aI a1] (SH L) M ([aI v2], (SH L), M1) ∧ ((¬ v2 = 0 → ((a2 = 0 → (0 ≤ a1 ∧ a1 < aLn (SH L) 1 32) ∧ o = ([aI (M1 32 a1)], (SH L), M1)) ∧ (a2 = 1 → (0 ≤ a1 ∧ a1 < aLn (SH L) 1 34) ∧ o = ([aI (M1 34 a1)], (SH L), M1)) ∧ (a2 = 2 → (0 ≤ a1 ∧ a1 < aLn (SH L) 1 35) ∧ o = ([aI (M1 35 a1)], (SH L), M1)) ∧ (a2 = 3 → (0 ≤ a1 ∧ a1 < aLn (SH L) 1 36) ∧ o = ([aI (M1 36 a1)], (SH L), M1)) ∧ (a2 = 4 → (0 ≤ a1 ∧ a1 < aLn (SH L) 1 37) ∧ o = ([aI (M1 37 a1)], (SH L), M1)) ∧ (a2 = 5 → (0 ≤ a1 ∧ a1 < aLn (SH L) 4 38) ∧ (((M1 38 a1) = 0 → o = ([aI 0], (SH L), M1)) ∧ (¬ ((M1 38 a1) = 0) → o = ([aI 1], (SH L), M1)))) ∧ (¬ a2 = 0 → ¬ a2 = 1 → ¬ a2 = 2 → ¬ a2 = 3 → ¬ a2 = 4 → ¬ a2 = 5 → o = ([aI ((-1))], (SH L), M1)))) ∧ (¬ (¬ v2 = 0) → o = ([aI ((-1))], (SH L), M1))))) : aE 66 [aR 1, aI a1, aI a2] (SH L) M o := by
  have q : aX xc_66 (aSeek xc_66 0) [aR 1, aI a1, aI a2] [] (SH L) M o := by
    obtain ⟨M1, v2, k3, h⟩ := h
    have h2 : aX xc_66 (aSeek xc_66 8) [aR 1, aI a1, aI a2] [aI v2] (SH L) M1 o := by
      by_cases cc : ¬ v2 = 0
      · replace h := h.1 cc
        have t4 : aX xc_66 (aSeek xc_66 13) [aR 1, aI a1, aI a2] [] (SH L) M1 o := by
          by_cases cc0 : a2 = 0
          · replace h := h.1 cc0
            have ee : aTab 0 5 106 #[38, 48, 58, 68, 78, 88] a2 = 38 := by rw [cc0]; rfl
            have t5 : aX xc_66 (aSeek xc_66 52) [aR 1, aI a1, aI a2] [] (SH L) M1 o := by
              obtain ⟨c6, h⟩ := h
              subst h
              exact ⟨6, ip c6 (rfl)⟩
            exact aX_seg 2 (fun n g => (congrArg (fun tt => aRun tgT gP n xc_66 (aSeek xc_66 (aTo 14 tt)) [aR 1, aI a1, aI a2] [] (SH L) M1) ee).trans g) t5
          by_cases cc1 : a2 = 1
          · replace h := h.2.1 cc1
            have ee : aTab 0 5 106 #[38, 48, 58, 68, 78, 88] a2 = 48 := by rw [cc1]; rfl
            have t7 : aX xc_66 (aSeek xc_66 62) [aR 1, aI a1, aI a2] [] (SH L) M1 o := by
              obtain ⟨c8, h⟩ := h
              subst h
              exact ⟨6, ip c8 (rfl)⟩
            exact aX_seg 2 (fun n g => (congrArg (fun tt => aRun tgT gP n xc_66 (aSeek xc_66 (aTo 14 tt)) [aR 1, aI a1, aI a2] [] (SH L) M1) ee).trans g) t7
          by_cases cc2 : a2 = 2
          · replace h := h.2.2.1 cc2
            have ee : aTab 0 5 106 #[38, 48, 58, 68, 78, 88] a2 = 58 := by rw [cc2]; rfl
            have t9 : aX xc_66 (aSeek xc_66 72) [aR 1, aI a1, aI a2] [] (SH L) M1 o := by
              obtain ⟨c10, h⟩ := h
              subst h
              exact ⟨6, ip c10 (rfl)⟩
            exact aX_seg 2 (fun n g => (congrArg (fun tt => aRun tgT gP n xc_66 (aSeek xc_66 (aTo 14 tt)) [aR 1, aI a1, aI a2] [] (SH L) M1) ee).trans g) t9
          by_cases cc3 : a2 = 3
          · replace h := h.2.2.2.1 cc3
            have ee : aTab 0 5 106 #[38, 48, 58, 68, 78, 88] a2 = 68 := by rw [cc3]; rfl
            have t11 : aX xc_66 (aSeek xc_66 82) [aR 1, aI a1, aI a2] [] (SH L) M1 o := by
              obtain ⟨c12, h⟩ := h
              subst h
              exact ⟨6, ip c12 (rfl)⟩
            exact aX_seg 2 (fun n g => (congrArg (fun tt => aRun tgT gP n xc_66 (aSeek xc_66 (aTo 14 tt)) [aR 1, aI a1, aI a2] [] (SH L) M1) ee).trans g) t11
          by_cases cc4 : a2 = 4
          · replace h := h.2.2.2.2.1 cc4
            have ee : aTab 0 5 106 #[38, 48, 58, 68, 78, 88] a2 = 78 := by rw [cc4]; rfl
            have t13 : aX xc_66 (aSeek xc_66 92) [aR 1, aI a1, aI a2] [] (SH L) M1 o := by
              obtain ⟨c14, h⟩ := h
              subst h
              exact ⟨6, ip c14 (rfl)⟩
            exact aX_seg 2 (fun n g => (congrArg (fun tt => aRun tgT gP n xc_66 (aSeek xc_66 (aTo 14 tt)) [aR 1, aI a1, aI a2] [] (SH L) M1) ee).trans g) t13
          by_cases cc5 : a2 = 5
          · replace h := h.2.2.2.2.2.1 cc5
            have ee : aTab 0 5 106 #[38, 48, 58, 68, 78, 88] a2 = 88 := by rw [cc5]; rfl
            have t15 : aX xc_66 (aSeek xc_66 102) [aR 1, aI a1, aI a2] [] (SH L) M1 o := by
              obtain ⟨c16, h⟩ := h
              by_cases cc : (M1 38 a1) = 0
              · replace h := h.1 cc
                have t17 : aX xc_66 (aSeek xc_66 118) [aR 1, aI a1, aI a2] [] (SH L) M1 o := by
                  subst h
                  exact ⟨2, rfl⟩
                exact aX_seg 6 (fun n g => ip c16 (ip cc (g))) t17
              · replace h := h.2 cc
                have t18 : aX xc_66 (aSeek xc_66 114) [aR 1, aI a1, aI a2] [] (SH L) M1 o := by
                  subst h
                  exact ⟨3, rfl⟩
                exact aX_seg 6 (fun n g => ip c16 (in_ cc (g))) t18
            exact aX_seg 2 (fun n g => (congrArg (fun tt => aRun tgT gP n xc_66 (aSeek xc_66 (aTo 14 tt)) [aR 1, aI a1, aI a2] [] (SH L) M1) ee).trans g) t15
          replace h := h.2.2.2.2.2.2 cc0 cc1 cc2 cc3 cc4 cc5
          have ee : aTab 0 5 106 #[38, 48, 58, 68, 78, 88] a2 = 106 := by unfold aTab; rw [if_pos (by omega)]
          have t19 : aX xc_66 (aSeek xc_66 120) [aR 1, aI a1, aI a2] [] (SH L) M1 o := by
            subst h
            exact ⟨2, rfl⟩
          exact aX_seg 2 (fun n g => (congrArg (fun tt => aRun tgT gP n xc_66 (aSeek xc_66 (aTo 14 tt)) [aR 1, aI a1, aI a2] [] (SH L) M1) ee).trans g) t19
        exact aX_seg 1 (fun n g => ip cc (g)) t4
      · replace h := h.2 cc
        have t20 : aX xc_66 (aSeek xc_66 11) [aR 1, aI a1, aI a2] [] (SH L) M1 o := by
          subst h
          exact ⟨2, rfl⟩
        exact aX_seg 1 (fun n g => in_ cc (g)) t20
    exact aX_seg 3 (fun n g => g) (aX_callv (rfl) rfl rfl rfl k3 h2)
  exact q
/- TypeLock$Bed.lyingOn(II)I -/
set_option maxRecDepth 100000 in
theorem en_67 {L : Nat} {a0 a1 a2 : Int} {M : aM} {o : aO} (h : aX xc_67 (aSeek xc_67 2) [aR a0, aI a1, aI a2, aI 0] [] (SH L) M o) : aE 67 [aR a0, aI a1, aI a2] (SH L) M o := by
  have q : aX xc_67 (aSeek xc_67 0) [aR a0, aI a1, aI a2, aU] [] (SH L) M o := by
    exact aX_seg 2 (fun n g => g) (h)
  exact q
set_option maxRecDepth 100000 in
theorem bl_67_2 {L : Nat} {a0 a1 a2 a3 : Int} {M : aM} {o : aO} (h : (aK (SH L) a0 = 10) ∧ (((M a0 0) ≤ a3 → o = ([aI ((-2))], (SH L), M)) ∧ (¬ ((M a0 0) ≤ a3) → (aK (SH L) a0 = 10) ∧ (0 ≤ a3 ∧ a3 < aLn (SH L) 1 (aF (SH L) a0 3)) ∧ ((a1 < (M (aF (SH L) a0 3) a3) → aX xc_67 (aSeek xc_67 66) [aR a0, aI a1, aI a2, aI a3] [] (SH L) M o) ∧ (¬ (a1 < (M (aF (SH L) a0 3) a3)) → (aK (SH L) a0 = 10) ∧ (0 ≤ a3 ∧ a3 < aLn (SH L) 1 (aF (SH L) a0 3)) ∧ (aK (SH L) a0 = 10) ∧ (0 ≤ a3 ∧ a3 < aLn (SH L) 1 (aF (SH L) a0 5)) ∧ (((aW ((M (aF (SH L) a0 3) a3) + (M (aF (SH L) a0 5) a3))) ≤ a1 → aX xc_67 (aSeek xc_67 66) [aR a0, aI a1, aI a2, aI a3] [] (SH L) M o) ∧ (¬ ((aW ((M (aF (SH L) a0 3) a3) + (M (aF (SH L) a0 5) a3))) ≤ a1) → (aK (SH L) a0 = 10) ∧ (0 ≤ a3 ∧ a3 < aLn (SH L) 1 (aF (SH L) a0 4)) ∧ ((a2 < (M (aF (SH L) a0 4) a3) → aX xc_67 (aSeek xc_67 66) [aR a0, aI a1, aI a2, aI a3] [] (SH L) M o) ∧ (¬ (a2 < (M (aF (SH L) a0 4) a3)) → (aK (SH L) a0 = 10) ∧ (0 ≤ a3 ∧ a3 < aLn (SH L) 1 (aF (SH L) a0 4)) ∧ (aK (SH L) a0 = 10) ∧ (0 ≤ a3 ∧ a3 < aLn (SH L) 1 (aF (SH L) a0 6)) ∧ (((aW ((M (aF (SH L) a0 4) a3) + (M (aF (SH L) a0 6) a3))) ≤ a2 → aX xc_67 (aSeek xc_67 66) [aR a0, aI a1, aI a2, aI a3] [] (SH L) M o) ∧ (¬ ((aW ((M (aF (SH L) a0 4) a3) + (M (aF (SH L) a0 6) a3))) ≤ a2) → o = ([aI a3], (SH L), M)))))))))))) : aX xc_67 (aSeek xc_67 2) [aR a0, aI a1, aI a2, aI a3] [] (SH L) M o := by
  obtain ⟨c1, h⟩ := h
  by_cases cc : (M a0 0) ≤ a3
  · replace h := h.1 cc
    have t2 : aX xc_67 (aSeek xc_67 72) [aR a0, aI a1, aI a2, aI a3] [] (SH L) M o := by
      subst h
      exact ⟨2, rfl⟩
    exact aX_seg 4 (fun n g => ip c1 (ip cc (g))) t2
  · replace h := h.2 cc
    have t3 : aX xc_67 (aSeek xc_67 10) [aR a0, aI a1, aI a2, aI a3] [] (SH L) M o := by
      obtain ⟨c4, h⟩ := h
      obtain ⟨c5, h⟩ := h
      by_cases cc : a1 < (M (aF (SH L) a0 3) a3)
      · replace h := h.1 cc
        have t6 : aX xc_67 (aSeek xc_67 66) [aR a0, aI a1, aI a2, aI a3] [] (SH L) M o := by
          exact h
        exact aX_seg 6 (fun n g => ip c4 (ip c5 (ip cc (g)))) t6
      · replace h := h.2 cc
        have t7 : aX xc_67 (aSeek xc_67 20) [aR a0, aI a1, aI a2, aI a3] [] (SH L) M o := by
          obtain ⟨c8, h⟩ := h
          obtain ⟨c9, h⟩ := h
          obtain ⟨c10, h⟩ := h
          obtain ⟨c11, h⟩ := h
          by_cases cc : (aW ((M (aF (SH L) a0 3) a3) + (M (aF (SH L) a0 5) a3))) ≤ a1
          · replace h := h.1 cc
            have t12 : aX xc_67 (aSeek xc_67 66) [aR a0, aI a1, aI a2, aI a3] [] (SH L) M o := by
              exact h
            exact aX_seg 11 (fun n g => ip c8 (ip c9 (ip c10 (ip c11 (ip cc (g)))))) t12
          · replace h := h.2 cc
            have t13 : aX xc_67 (aSeek xc_67 37) [aR a0, aI a1, aI a2, aI a3] [] (SH L) M o := by
              obtain ⟨c14, h⟩ := h
              obtain ⟨c15, h⟩ := h
              by_cases cc : a2 < (M (aF (SH L) a0 4) a3)
              · replace h := h.1 cc
                have t16 : aX xc_67 (aSeek xc_67 66) [aR a0, aI a1, aI a2, aI a3] [] (SH L) M o := by
                  exact h
                exact aX_seg 6 (fun n g => ip c14 (ip c15 (ip cc (g)))) t16
              · replace h := h.2 cc
                have t17 : aX xc_67 (aSeek xc_67 47) [aR a0, aI a1, aI a2, aI a3] [] (SH L) M o := by
                  obtain ⟨c18, h⟩ := h
                  obtain ⟨c19, h⟩ := h
                  obtain ⟨c20, h⟩ := h
                  obtain ⟨c21, h⟩ := h
                  by_cases cc : (aW ((M (aF (SH L) a0 4) a3) + (M (aF (SH L) a0 6) a3))) ≤ a2
                  · replace h := h.1 cc
                    have t22 : aX xc_67 (aSeek xc_67 66) [aR a0, aI a1, aI a2, aI a3] [] (SH L) M o := by
                      exact h
                    exact aX_seg 11 (fun n g => ip c18 (ip c19 (ip c20 (ip c21 (ip cc (g)))))) t22
                  · replace h := h.2 cc
                    have t23 : aX xc_67 (aSeek xc_67 64) [aR a0, aI a1, aI a2, aI a3] [] (SH L) M o := by
                      subst h
                      exact ⟨2, rfl⟩
                    exact aX_seg 11 (fun n g => ip c18 (ip c19 (ip c20 (ip c21 (in_ cc (g)))))) t23
                exact aX_seg 6 (fun n g => ip c14 (ip c15 (in_ cc (g)))) t17
            exact aX_seg 11 (fun n g => ip c8 (ip c9 (ip c10 (ip c11 (in_ cc (g)))))) t13
        exact aX_seg 6 (fun n g => ip c4 (ip c5 (in_ cc (g)))) t7
    exact aX_seg 4 (fun n g => ip c1 (in_ cc (g))) t3
set_option maxRecDepth 100000 in
theorem bl_67_66 {L : Nat} {a0 a1 a2 a3 : Int} {M : aM} {o : aO} (h : aX xc_67 (aSeek xc_67 2) [aR a0, aI a1, aI a2, aI (aW (a3 + 1))] [] (SH L) M o) : aX xc_67 (aSeek xc_67 66) [aR a0, aI a1, aI a2, aI a3] [] (SH L) M o := by
  exact aX_seg 2 (fun n g => g) (h)
/- TypeLock.at(II)I -/
set_option maxRecDepth 100000 in
theorem en_68 {L : Nat} {a1 a2 : Int} {M : aM} {o : aO} (h : ((a1 < 0 → o = ([aI ((-1))], (SH L), M)) ∧ (¬ (a1 < 0) → (aK (SH L) (M 1 3) = 19) ∧ (((M (M 1 3) 0) ≤ a1 → o = ([aI ((-1))], (SH L), M)) ∧ (¬ ((M (M 1 3) 0) ≤ a1) → ((a2 < 0 → o = ([aI ((-1))], (SH L), M)) ∧ (¬ (a2 < 0) → (aK (SH L) (M 1 3) = 19) ∧ ((a2 < (M (M 1 3) 1) → (∃ (M1 : aM) (v2 : Int), aE 67 [aR 31, aI a1, aI a2] (SH L) M ([aI v2], (SH L), M1) ∧ o = ([aI v2], (SH L), M1))) ∧ (¬ (a2 < (M (M 1 3) 1)) → o = ([aI ((-1))], (SH L), M)))))))))) : aE 68 [aR 1, aI a1, aI a2] (SH L) M o := by
  have q : aX xc_68 (aSeek xc_68 0) [aR 1, aI a1, aI a2] [] (SH L) M o := by
    by_cases cc : a1 < 0
    · replace h := h.1 cc
      have t3 : aX xc_68 (aSeek xc_68 30) [aR 1, aI a1, aI a2] [] (SH L) M o := by
        subst h
        exact ⟨2, rfl⟩
      exact aX_seg 2 (fun n g => ip cc (g)) t3
    · replace h := h.2 cc
      have t4 : aX xc_68 (aSeek xc_68 4) [aR 1, aI a1, aI a2] [] (SH L) M o := by
        obtain ⟨c5, h⟩ := h
        by_cases cc : (M (M 1 3) 0) ≤ a1
        · replace h := h.1 cc
          have t6 : aX xc_68 (aSeek xc_68 30) [aR 1, aI a1, aI a2] [] (SH L) M o := by
            subst h
            exact ⟨2, rfl⟩
          exact aX_seg 5 (fun n g => ip c5 (ip cc (g))) t6
        · replace h := h.2 cc
          have t7 : aX xc_68 (aSeek xc_68 15) [aR 1, aI a1, aI a2] [] (SH L) M o := by
            by_cases cc : a2 < 0
            · replace h := h.1 cc
              have t8 : aX xc_68 (aSeek xc_68 30) [aR 1, aI a1, aI a2] [] (SH L) M o := by
                subst h
                exact ⟨2, rfl⟩
              exact aX_seg 2 (fun n g => ip cc (g)) t8
            · replace h := h.2 cc
              have t9 : aX xc_68 (aSeek xc_68 19) [aR 1, aI a1, aI a2] [] (SH L) M o := by
                obtain ⟨c10, h⟩ := h
                by_cases cc : a2 < (M (M 1 3) 1)
                · replace h := h.1 cc
                  have t11 : aX xc_68 (aSeek xc_68 32) [aR 1, aI a1, aI a2] [] (SH L) M o := by
                    obtain ⟨M1, v2, k12, h⟩ := h
                    have h2 : aX xc_68 (aSeek xc_68 41) [aR 1, aI a1, aI a2] [aI v2] (SH L) M1 o := by
                      subst h
                      exact ⟨1, rfl⟩
                    exact aX_seg 4 (fun n g => g) (aX_callv (rfl) rfl rfl rfl k12 h2)
                  exact aX_seg 5 (fun n g => ip c10 (ip cc (g))) t11
                · replace h := h.2 cc
                  have t13 : aX xc_68 (aSeek xc_68 30) [aR 1, aI a1, aI a2] [] (SH L) M o := by
                    subst h
                    exact ⟨2, rfl⟩
                  exact aX_seg 5 (fun n g => ip c10 (in_ cc (g))) t13
              exact aX_seg 2 (fun n g => in_ cc (g)) t9
          exact aX_seg 5 (fun n g => ip c5 (in_ cc (g))) t7
      exact aX_seg 2 (fun n g => in_ cc (g)) t4
  exact q
/- TypeLock$Bed.area()I -/
set_option maxRecDepth 100000 in
theorem en_69 {L : Nat} {a0 : Int} {M : aM} {o : aO} (h : aX xc_69 (aSeek xc_69 4) [aR a0, aI 0, aI 0] [] (SH L) M o) : aE 69 [aR a0] (SH L) M o := by
  have q : aX xc_69 (aSeek xc_69 0) [aR a0, aU, aU] [] (SH L) M o := by
    exact aX_seg 4 (fun n g => g) (h)
  exact q
set_option maxRecDepth 100000 in
theorem bl_69_4 {L : Nat} {a0 a1 a2 : Int} {M : aM} {o : aO} (h : (aK (SH L) a0 = 10) ∧ (((M a0 0) ≤ a2 → o = ([aI a1], (SH L), M)) ∧ (¬ ((M a0 0) ≤ a2) → (aK (SH L) a0 = 10) ∧ (0 ≤ a2 ∧ a2 < aLn (SH L) 1 (aF (SH L) a0 5)) ∧ (aK (SH L) a0 = 10) ∧ (0 ≤ a2 ∧ a2 < aLn (SH L) 1 (aF (SH L) a0 6)) ∧ aX xc_69 (aSeek xc_69 4) [aR a0, aI (aW (a1 + (aW ((M (aF (SH L) a0 5) a2) * (M (aF (SH L) a0 6) a2))))), aI (aW (a2 + 1))] [] (SH L) M o))) : aX xc_69 (aSeek xc_69 4) [aR a0, aI a1, aI a2] [] (SH L) M o := by
  obtain ⟨c1, h⟩ := h
  by_cases cc : (M a0 0) ≤ a2
  · replace h := h.1 cc
    have t2 : aX xc_69 (aSeek xc_69 34) [aR a0, aI a1, aI a2] [] (SH L) M o := by
      subst h
      exact ⟨2, rfl⟩
    exact aX_seg 4 (fun n g => ip c1 (ip cc (g))) t2
  · replace h := h.2 cc
    have t3 : aX xc_69 (aSeek xc_69 12) [aR a0, aI a1, aI a2] [] (SH L) M o := by
      obtain ⟨c4, h⟩ := h
      obtain ⟨c5, h⟩ := h
      obtain ⟨c6, h⟩ := h
      obtain ⟨c7, h⟩ := h
      exact aX_seg 14 (fun n g => ip c4 (ip c5 (ip c6 (ip c7 (g))))) (h)
    exact aX_seg 4 (fun n g => ip c1 (in_ cc (g))) t3
/- TypeLock.empty()I -/
set_option maxRecDepth 100000 in
theorem en_70 {L : Nat} {M : aM} {o : aO} (h : (aK (SH L) (M 1 3) = 19) ∧ (aK (SH L) (M 1 3) = 19) ∧ (∃ (M1 : aM) (v2 : Int), aE 69 [aR 31] (SH L) M ([aI v2], (SH L), M1) ∧ o = ([aI (aW ((aW ((M (M 1 3) 0) * (M (M 1 3) 1))) - v2))], (SH L), M1))) : aE 70 [aR 1] (SH L) M o := by
  have q : aX xc_70 (aSeek xc_70 0) [aR 1] [] (SH L) M o := by
    obtain ⟨c3, h⟩ := h
    obtain ⟨c4, h⟩ := h
    obtain ⟨M1, v2, k5, h⟩ := h
    have h2 : aX xc_70 (aSeek xc_70 22) [aR 1] [aI v2, aI (aW ((M (M 1 3) 0) * (M (M 1 3) 1)))] (SH L) M1 o := by
      subst h
      exact ⟨2, rfl⟩
    exact aX_seg 9 (fun n g => ip c3 (ip c4 (g))) (aX_callv (rfl) rfl rfl rfl k5 h2)
  exact q
/- TypeLock$Bed.sharedAcross(II)I -/
set_option maxRecDepth 100000 in
theorem en_71 {L : Nat} {a0 a1 a2 : Int} {M : aM} {o : aO} (h : (aK (SH L) a0 = 10) ∧ (0 ≤ a1 ∧ a1 < aLn (SH L) 1 (aF (SH L) a0 3)) ∧ (aK (SH L) a0 = 10) ∧ (0 ≤ a1 ∧ a1 < aLn (SH L) 1 (aF (SH L) a0 5)) ∧ (aK (SH L) a0 = 10) ∧ (0 ≤ a2 ∧ a2 < aLn (SH L) 1 (aF (SH L) a0 3)) ∧ (aK (SH L) a0 = 10) ∧ (0 ≤ a2 ∧ a2 < aLn (SH L) 1 (aF (SH L) a0 5)) ∧ (aK (SH L) a0 = 10) ∧ (0 ≤ a1 ∧ a1 < aLn (SH L) 1 (aF (SH L) a0 3)) ∧ (aK (SH L) a0 = 10) ∧ (0 ≤ a2 ∧ a2 < aLn (SH L) 1 (aF (SH L) a0 3)) ∧ o = ([aI (aW ((min (aW ((M (aF (SH L) a0 3) a1) + (M (aF (SH L) a0 5) a1))) (aW ((M (aF (SH L) a0 3) a2) + (M (aF (SH L) a0 5) a2)))) - (max (M (aF (SH L) a0 3) a1) (M (aF (SH L) a0 3) a2))))], (SH L), M)) : aE 71 [aR a0, aI a1, aI a2] (SH L) M o := by
  have q : aX xc_71 (aSeek xc_71 0) [aR a0, aI a1, aI a2] [] (SH L) M o := by
    obtain ⟨c1, h⟩ := h
    obtain ⟨c2, h⟩ := h
    obtain ⟨c3, h⟩ := h
    obtain ⟨c4, h⟩ := h
    obtain ⟨c5, h⟩ := h
    obtain ⟨c6, h⟩ := h
    obtain ⟨c7, h⟩ := h
    obtain ⟨c8, h⟩ := h
    obtain ⟨c9, h⟩ := h
    obtain ⟨c10, h⟩ := h
    obtain ⟨c11, h⟩ := h
    obtain ⟨c12, h⟩ := h
    subst h
    exact ⟨30, ip c1 (ip c2 (ip c3 (ip c4 (ip c5 (ip c6 (ip c7 (ip c8 (ip c9 (ip c10 (ip c11 (ip c12 (rfl))))))))))))⟩
  exact q
/- TypeLock$Bed.sharedAlong(II)I -/
set_option maxRecDepth 100000 in
theorem en_72 {L : Nat} {a0 a1 a2 : Int} {M : aM} {o : aO} (h : (aK (SH L) a0 = 10) ∧ (0 ≤ a1 ∧ a1 < aLn (SH L) 1 (aF (SH L) a0 4)) ∧ (aK (SH L) a0 = 10) ∧ (0 ≤ a1 ∧ a1 < aLn (SH L) 1 (aF (SH L) a0 6)) ∧ (aK (SH L) a0 = 10) ∧ (0 ≤ a2 ∧ a2 < aLn (SH L) 1 (aF (SH L) a0 4)) ∧ (aK (SH L) a0 = 10) ∧ (0 ≤ a2 ∧ a2 < aLn (SH L) 1 (aF (SH L) a0 6)) ∧ (aK (SH L) a0 = 10) ∧ (0 ≤ a1 ∧ a1 < aLn (SH L) 1 (aF (SH L) a0 4)) ∧ (aK (SH L) a0 = 10) ∧ (0 ≤ a2 ∧ a2 < aLn (SH L) 1 (aF (SH L) a0 4)) ∧ o = ([aI (aW ((min (aW ((M (aF (SH L) a0 4) a1) + (M (aF (SH L) a0 6) a1))) (aW ((M (aF (SH L) a0 4) a2) + (M (aF (SH L) a0 6) a2)))) - (max (M (aF (SH L) a0 4) a1) (M (aF (SH L) a0 4) a2))))], (SH L), M)) : aE 72 [aR a0, aI a1, aI a2] (SH L) M o := by
  have q : aX xc_72 (aSeek xc_72 0) [aR a0, aI a1, aI a2] [] (SH L) M o := by
    obtain ⟨c1, h⟩ := h
    obtain ⟨c2, h⟩ := h
    obtain ⟨c3, h⟩ := h
    obtain ⟨c4, h⟩ := h
    obtain ⟨c5, h⟩ := h
    obtain ⟨c6, h⟩ := h
    obtain ⟨c7, h⟩ := h
    obtain ⟨c8, h⟩ := h
    obtain ⟨c9, h⟩ := h
    obtain ⟨c10, h⟩ := h
    obtain ⟨c11, h⟩ := h
    obtain ⟨c12, h⟩ := h
    subst h
    exact ⟨30, ip c1 (ip c2 (ip c3 (ip c4 (ip c5 (ip c6 (ip c7 (ip c8 (ip c9 (ip c10 (ip c11 (ip c12 (rfl))))))))))))⟩
  exact q
/- TypeLock$Bed.contact(II)I -/
set_option maxRecDepth 100000 in
theorem en_73 {L : Nat} {a0 a1 a2 : Int} {M : aM} {o : aO} (h : (aK (SH L) a0 = 10 ∧ ∃ (M1 : aM) (v2 : Int), aE 71 [aR a0, aI a1, aI a2] (SH L) M ([aI v2], (SH L), M1) ∧ (aK (SH L) a0 = 10 ∧ ∃ (M3 : aM) (v4 : Int), aE 72 [aR a0, aI a1, aI a2] (SH L) M1 ([aI v4], (SH L), M3) ∧ (((min v2 v4) = 0 → (aK (SH L) a0 = 10) ∧ (0 ≤ a1 ∧ a1 < aLn (SH L) 1 (aF (SH L) a0 2)) ∧ (((M3 (aF (SH L) a0 2) a1) = 2 → aX xc_73 (aSeek xc_73 54) [aU, aU, aU, aU, aU, aI (max v2 v4), aU] [] (SH L) M3 o) ∧ (¬ ((M3 (aF (SH L) a0 2) a1) = 2) → (aK (SH L) a0 = 10) ∧ (0 ≤ a2 ∧ a2 < aLn (SH L) 1 (aF (SH L) a0 2)) ∧ ((¬ (M3 (aF (SH L) a0 2) a2) = 2 → aX xc_73 (aSeek xc_73 59) [aU, aU, aU, aU, aU, aI (max v2 v4), aU] [aI 0] (SH L) M3 o) ∧ (¬ (¬ (M3 (aF (SH L) a0 2) a2) = 2) → aX xc_73 (aSeek xc_73 54) [aU, aU, aU, aU, aU, aI (max v2 v4), aU] [] (SH L) M3 o))))) ∧ (¬ ((min v2 v4) = 0) → o = ([aI 0], (SH L), M3)))))) : aE 73 [aR a0, aI a1, aI a2] (SH L) M o := by
  have q : aX xc_73 (aSeek xc_73 0) [aR a0, aI a1, aI a2, aU, aU, aU, aU] [] (SH L) M o := by
    obtain ⟨c5, h⟩ := h
    obtain ⟨M1, v2, k6, h⟩ := h
    have h2 : aX xc_73 (aSeek xc_73 6) [aR a0, aI a1, aI a2, aU, aU, aU, aU] [aI v2] (SH L) M1 o := by
      obtain ⟨c7, h⟩ := h
      obtain ⟨M3, v4, k8, h⟩ := h
      have h2 : aX xc_73 (aSeek xc_73 13) [aR a0, aI a1, aI a2, aI v2, aU, aU, aU] [aI v4] (SH L) M3 o := by
        by_cases cc : (min v2 v4) = 0
        · replace h := h.1 cc
          have t9 : aX xc_73 (aSeek xc_73 26) [aR a0, aI a1, aI a2, aI v2, aI v4, aU, aU] [] (SH L) M3 o := by
            obtain ⟨c10, h⟩ := h
            obtain ⟨c11, h⟩ := h
            by_cases cc : (M3 (aF (SH L) a0 2) a1) = 2
            · replace h := h.1 cc
              have t12 : aX xc_73 (aSeek xc_73 54) [aR a0, aI a1, aI a2, aI v2, aI v4, aI (max v2 v4), aU] [] (SH L) M3 o := by
                exact aX_le (ls := [aU, aU, aU, aU, aU, aI (max v2 v4), aU]) (ls1 := [aR a0, aI a1, aI a2, aI v2, aI v4, aI (max v2 v4), aU]) (⟨Or.inl rfl, ⟨Or.inl rfl, ⟨Or.inl rfl, ⟨Or.inl rfl, ⟨Or.inl rfl, ⟨Or.inr rfl, ⟨Or.inl rfl, trivial⟩⟩⟩⟩⟩⟩⟩) h
              exact aX_seg 10 (fun n g => ip c10 (ip c11 (ip cc (g)))) t12
            · replace h := h.2 cc
              have t13 : aX xc_73 (aSeek xc_73 44) [aR a0, aI a1, aI a2, aI v2, aI v4, aI (max v2 v4), aU] [] (SH L) M3 o := by
                obtain ⟨c14, h⟩ := h
                obtain ⟨c15, h⟩ := h
                by_cases cc : ¬ (M3 (aF (SH L) a0 2) a2) = 2
                · replace h := h.1 cc
                  have t16 : aX xc_73 (aSeek xc_73 58) [aR a0, aI a1, aI a2, aI v2, aI v4, aI (max v2 v4), aU] [] (SH L) M3 o := by
                    exact aX_seg 1 (fun n g => g) (aX_le (ls := [aU, aU, aU, aU, aU, aI (max v2 v4), aU]) (ls1 := [aR a0, aI a1, aI a2, aI v2, aI v4, aI (max v2 v4), aU]) (⟨Or.inl rfl, ⟨Or.inl rfl, ⟨Or.inl rfl, ⟨Or.inl rfl, ⟨Or.inl rfl, ⟨Or.inr rfl, ⟨Or.inl rfl, trivial⟩⟩⟩⟩⟩⟩⟩) h)
                  exact aX_seg 6 (fun n g => ip c14 (ip c15 (ip cc (g)))) t16
                · replace h := h.2 cc
                  have t17 : aX xc_73 (aSeek xc_73 54) [aR a0, aI a1, aI a2, aI v2, aI v4, aI (max v2 v4), aU] [] (SH L) M3 o := by
                    exact aX_le (ls := [aU, aU, aU, aU, aU, aI (max v2 v4), aU]) (ls1 := [aR a0, aI a1, aI a2, aI v2, aI v4, aI (max v2 v4), aU]) (⟨Or.inl rfl, ⟨Or.inl rfl, ⟨Or.inl rfl, ⟨Or.inl rfl, ⟨Or.inl rfl, ⟨Or.inr rfl, ⟨Or.inl rfl, trivial⟩⟩⟩⟩⟩⟩⟩) h
                  exact aX_seg 6 (fun n g => ip c14 (ip c15 (in_ cc (g)))) t17
              exact aX_seg 10 (fun n g => ip c10 (ip c11 (in_ cc (g)))) t13
          exact aX_seg 5 (fun n g => ip cc (g)) t9
        · replace h := h.2 cc
          have t18 : aX xc_73 (aSeek xc_73 24) [aR a0, aI a1, aI a2, aI v2, aI v4, aU, aU] [] (SH L) M3 o := by
            subst h
            exact ⟨2, rfl⟩
          exact aX_seg 5 (fun n g => in_ cc (g)) t18
      exact aX_seg 4 (fun n g => g) (aX_callv (c7) rfl rfl rfl k8 h2)
    exact aX_seg 3 (fun n g => g) (aX_callv (c5) rfl rfl rfl k6 h2)
  exact q
set_option maxRecDepth 100000 in
theorem bl_73_54 {L : Nat} {a5 : Int} {M : aM} {o : aO} (h : aX xc_73 (aSeek xc_73 59) [aU, aU, aU, aU, aU, aI a5, aU] [aI 1] (SH L) M o) : aX xc_73 (aSeek xc_73 54) [aU, aU, aU, aU, aU, aI a5, aU] [] (SH L) M o := by
  exact aX_seg 2 (fun n g => g) (h)
set_option maxRecDepth 100000 in
theorem bl_73_59 {L : Nat} {a5 b0 : Int} {M : aM} {o : aO} (h : ((b0 = 0 → o = ([aI a5], (SH L), M)) ∧ (¬ (b0 = 0) → o = ([aI (aDiv a5 2)], (SH L), M)))) : aX xc_73 (aSeek xc_73 59) [aU, aU, aU, aU, aU, aI a5, aU] [aI b0] (SH L) M o := by
  by_cases cc : b0 = 0
  · replace h := h.1 cc
    have t1 : aX xc_73 (aSeek xc_73 73) [aU, aU, aU, aU, aU, aI a5, aI b0] [] (SH L) M o := by
      subst h
      exact ⟨2, rfl⟩
    exact aX_seg 3 (fun n g => ip cc (g)) t1
  · replace h := h.2 cc
    have t2 : aX xc_73 (aSeek xc_73 66) [aU, aU, aU, aU, aU, aI a5, aI b0] [] (SH L) M o := by
      subst h
      exact ⟨5, rfl⟩
    exact aX_seg 3 (fun n g => in_ cc (g)) t2
/- TypeLock.touch(II)I -/
set_option maxRecDepth 100000 in
theorem en_74 {L : Nat} {a1 a2 : Int} {M : aM} {o : aO} (h : (∃ (M1 : aM) (v2 : Int), aE 63 [aR 31, aI a1] (SH L) M ([aI v2], (SH L), M1) ∧ ((v2 = 0 → o = ([aI ((-1))], (SH L), M1)) ∧ (¬ (v2 = 0) → (∃ (M3 : aM) (v4 : Int), aE 63 [aR 31, aI a2] (SH L) M1 ([aI v4], (SH L), M3) ∧ ((v4 = 0 → o = ([aI ((-1))], (SH L), M3)) ∧ (¬ (v4 = 0) → ((¬ a1 = a2 → (∃ (M5 : aM) (v6 : Int), aE 73 [aR 31, aI a1, aI a2] (SH L) M3 ([aI v6], (SH L), M5) ∧ o = ([aI v6], (SH L), M5))) ∧ (¬ (¬ a1 = a2) → o = ([aI ((-1))], (SH L), M3)))))))))) : aE 74 [aR 1, aI a1, aI a2] (SH L) M o := by
  have q : aX xc_74 (aSeek xc_74 0) [aR 1, aI a1, aI a2] [] (SH L) M o := by
    obtain ⟨M1, v2, k7, h⟩ := h
    have h2 : aX xc_74 (aSeek xc_74 8) [aR 1, aI a1, aI a2] [aI v2] (SH L) M1 o := by
      by_cases cc : v2 = 0
      · replace h := h.1 cc
        have t8 : aX xc_74 (aSeek xc_74 27) [aR 1, aI a1, aI a2] [] (SH L) M1 o := by
          subst h
          exact ⟨2, rfl⟩
        exact aX_seg 1 (fun n g => ip cc (g)) t8
      · replace h := h.2 cc
        have t9 : aX xc_74 (aSeek xc_74 11) [aR 1, aI a1, aI a2] [] (SH L) M1 o := by
          obtain ⟨M3, v4, k10, h⟩ := h
          have h2 : aX xc_74 (aSeek xc_74 19) [aR 1, aI a1, aI a2] [aI v4] (SH L) M3 o := by
            by_cases cc : v4 = 0
            · replace h := h.1 cc
              have t11 : aX xc_74 (aSeek xc_74 27) [aR 1, aI a1, aI a2] [] (SH L) M3 o := by
                subst h
                exact ⟨2, rfl⟩
              exact aX_seg 1 (fun n g => ip cc (g)) t11
            · replace h := h.2 cc
              have t12 : aX xc_74 (aSeek xc_74 22) [aR 1, aI a1, aI a2] [] (SH L) M3 o := by
                by_cases cc : ¬ a1 = a2
                · replace h := h.1 cc
                  have t13 : aX xc_74 (aSeek xc_74 29) [aR 1, aI a1, aI a2] [] (SH L) M3 o := by
                    obtain ⟨M5, v6, k14, h⟩ := h
                    have h2 : aX xc_74 (aSeek xc_74 38) [aR 1, aI a1, aI a2] [aI v6] (SH L) M5 o := by
                      subst h
                      exact ⟨1, rfl⟩
                    exact aX_seg 4 (fun n g => g) (aX_callv (rfl) rfl rfl rfl k14 h2)
                  exact aX_seg 3 (fun n g => ip cc (g)) t13
                · replace h := h.2 cc
                  have t15 : aX xc_74 (aSeek xc_74 27) [aR 1, aI a1, aI a2] [] (SH L) M3 o := by
                    subst h
                    exact ⟨2, rfl⟩
                  exact aX_seg 3 (fun n g => in_ cc (g)) t15
              exact aX_seg 1 (fun n g => in_ cc (g)) t12
          exact aX_seg 3 (fun n g => g) (aX_callv (rfl) rfl rfl rfl k10 h2)
        exact aX_seg 1 (fun n g => in_ cc (g)) t9
    exact aX_seg 3 (fun n g => g) (aX_callv (rfl) rfl rfl rfl k7 h2)
  exact q
/- TypeLock.tight(IZ)Z -/
set_option maxRecDepth 100000 in
theorem en_75 {L : Nat} {a1 a2 : Int} {M : aM} {o : aO} (h : ((a1 < 0 → o = ([aI 0], (SH L), M)) ∧ (¬ (a1 < 0) → (aK (SH L) (M 1 3) = 19) ∧ ((a1 < (M (M 1 3) 9) → ((a2 = 0 → aX xc_75 (aSeek xc_75 52) [aR 1, aU, aU, aU] [aI (aAnd (M 31 8) (aXor (aShl 1 a1) ((-1)))), aR 31] (SH L) M o) ∧ (¬ (a2 = 0) → aX xc_75 (aSeek xc_75 52) [aR 1, aU, aU, aU] [aI (aOr (M 31 8) (aShl 1 a1)), aR 31] (SH L) M o))) ∧ (¬ (a1 < (M (M 1 3) 9)) → o = ([aI 0], (SH L), M)))))) : aE 75 [aR 1, aI a1, aI a2] (SH L) M o := by
  have q : aX xc_75 (aSeek xc_75 0) [aR 1, aI a1, aI a2, aU] [] (SH L) M o := by
    by_cases cc : a1 < 0
    · replace h := h.1 cc
      have t1 : aX xc_75 (aSeek xc_75 15) [aR 1, aI a1, aI a2, aU] [] (SH L) M o := by
        subst h
        exact ⟨2, rfl⟩
      exact aX_seg 2 (fun n g => ip cc (g)) t1
    · replace h := h.2 cc
      have t2 : aX xc_75 (aSeek xc_75 4) [aR 1, aI a1, aI a2, aU] [] (SH L) M o := by
        obtain ⟨c3, h⟩ := h
        by_cases cc : a1 < (M (M 1 3) 9)
        · replace h := h.1 cc
          have t4 : aX xc_75 (aSeek xc_75 17) [aR 1, aI a1, aI a2, aU] [] (SH L) M o := by
            by_cases cc : a2 = 0
            · replace h := h.1 cc
              have t5 : aX xc_75 (aSeek xc_75 41) [aR 1, aI a1, aI a2, aI (aShl 1 a1)] [aR 31] (SH L) M o := by
                exact aX_seg 7 (fun n g => g) (aX_le (ls := [aR 1, aU, aU, aU]) (ls1 := [aR 1, aI a1, aI a2, aI (aShl 1 a1)]) (⟨Or.inr rfl, ⟨Or.inl rfl, ⟨Or.inl rfl, ⟨Or.inl rfl, trivial⟩⟩⟩⟩) h)
              exact aX_seg 8 (fun n g => ip cc (g)) t5
            · replace h := h.2 cc
              have t6 : aX xc_75 (aSeek xc_75 29) [aR 1, aI a1, aI a2, aI (aShl 1 a1)] [aR 31] (SH L) M o := by
                exact aX_seg 6 (fun n g => g) (aX_le (ls := [aR 1, aU, aU, aU]) (ls1 := [aR 1, aI a1, aI a2, aI (aShl 1 a1)]) (⟨Or.inr rfl, ⟨Or.inl rfl, ⟨Or.inl rfl, ⟨Or.inl rfl, trivial⟩⟩⟩⟩) h)
              exact aX_seg 8 (fun n g => in_ cc (g)) t6
          exact aX_seg 5 (fun n g => ip c3 (ip cc (g))) t4
        · replace h := h.2 cc
          have t7 : aX xc_75 (aSeek xc_75 15) [aR 1, aI a1, aI a2, aU] [] (SH L) M o := by
            subst h
            exact ⟨2, rfl⟩
          exact aX_seg 5 (fun n g => ip c3 (in_ cc (g))) t7
      exact aX_seg 2 (fun n g => in_ cc (g)) t2
  exact q
set_option maxRecDepth 100000 in
theorem bl_75_52 {L : Nat} {b0 b1 : Int} {M : aM} {o : aO} (h : (aK (SH L) b0 = 10) ∧ o = ([aI 1], (SH L), aSet (aSet M b0 8 b1) 1 10 (aW (((aSet M b0 8 b1) 1 10) + 1)))) : aX xc_75 (aSeek xc_75 52) [aR 1, aU, aU, aU] [aI b1, aR b0] (SH L) M o := by
  obtain ⟨c1, h⟩ := h
  subst h
  exact ⟨9, ip c1 (rfl)⟩
/- TypeLock$Contacts.add(IIII)V -/
set_option maxRecDepth 100000 in
theorem en_76 {L : Nat} {a0 a1 a2 a3 a4 : Int} {M : aM} {o : aO} (h : (aK (SH L) a0 = 11) ∧ (((M a0 0) < 120 → (aK (SH L) a0 = 11) ∧ aX xc_76 (aSeek xc_76 16) [aR a0, aI a1, aI a2, aI a3, aI a4, aI (M a0 0)] [] (SH L) M o) ∧ (¬ ((M a0 0) < 120) → o = ([], (SH L), M)))) : aE 76 [aR a0, aI a1, aI a2, aI a3, aI a4] (SH L) M o := by
  have q : aX xc_76 (aSeek xc_76 0) [aR a0, aI a1, aI a2, aI a3, aI a4, aU] [] (SH L) M o := by
    obtain ⟨c1, h⟩ := h
    by_cases cc : (M a0 0) < 120
    · replace h := h.1 cc
      have t2 : aX xc_76 (aSeek xc_76 10) [aR a0, aI a1, aI a2, aI a3, aI a4, aU] [] (SH L) M o := by
        obtain ⟨c3, h⟩ := h
        exact aX_seg 3 (fun n g => ip c3 (g)) (h)
      exact aX_seg 4 (fun n g => ip c1 (ip cc (g))) t2
    · replace h := h.2 cc
      have t4 : aX xc_76 (aSeek xc_76 9) [aR a0, aI a1, aI a2, aI a3, aI a4, aU] [] (SH L) M o := by
        subst h
        exact ⟨1, rfl⟩
      exact aX_seg 4 (fun n g => ip c1 (in_ cc (g))) t4
  exact q
set_option maxRecDepth 100000 in
theorem bl_76_16 {L : Nat} {a0 a1 a2 a3 a4 a5 : Int} {M : aM} {o : aO} (h : ((a5 ≤ 0 → aX xc_76 (aSeek xc_76 105) [aR a0, aI a1, aI a2, aI a3, aI a4, aI a5] [] (SH L) M o) ∧ (¬ (a5 ≤ 0) → (aK (SH L) a0 = 11) ∧ (0 ≤ aW (a5 - 1) ∧ aW (a5 - 1) < aLn (SH L) 1 (aF (SH L) a0 4)) ∧ (((M (aF (SH L) a0 4) (aW (a5 - 1))) ≤ a4 → aX xc_76 (aSeek xc_76 105) [aR a0, aI a1, aI a2, aI a3, aI a4, aI a5] [] (SH L) M o) ∧ (¬ ((M (aF (SH L) a0 4) (aW (a5 - 1))) ≤ a4) → (aK (SH L) a0 = 11) ∧ (aK (SH L) a0 = 11) ∧ (0 ≤ aW (a5 - 1) ∧ aW (a5 - 1) < aLn (SH L) 1 (aF (SH L) a0 1)) ∧ (0 ≤ a5 ∧ a5 < aLn (SH L) 1 (aF (SH L) a0 1)) ∧ (aK (SH L) a0 = 11) ∧ (aK (SH L) a0 = 11) ∧ (0 ≤ aW (a5 - 1) ∧ aW (a5 - 1) < aLn (SH L) 1 (aF (SH L) a0 2)) ∧ (0 ≤ a5 ∧ a5 < aLn (SH L) 1 (aF (SH L) a0 2)) ∧ (aK (SH L) a0 = 11) ∧ (aK (SH L) a0 = 11) ∧ (0 ≤ aW (a5 - 1) ∧ aW (a5 - 1) < aLn (SH L) 1 (aF (SH L) a0 3)) ∧ (0 ≤ a5 ∧ a5 < aLn (SH L) 1 (aF (SH L) a0 3)) ∧ (aK (SH L) a0 = 11) ∧ (aK (SH L) a0 = 11) ∧ (0 ≤ aW (a5 - 1) ∧ aW (a5 - 1) < aLn (SH L) 1 (aF (SH L) a0 4)) ∧ (0 ≤ a5 ∧ a5 < aLn (SH L) 1 (aF (SH L) a0 4)) ∧ aX xc_76 (aSeek xc_76 16) [aR a0, aI a1, aI a2, aI a3, aI a4, aI (aW (a5 + (-1)))] [] (SH L) (aSet (aSet (aSet (aSet M (aF (SH L) a0 1) a5 (M (aF (SH L) a0 1) (aW (a5 - 1)))) (aF (SH L) a0 2) a5 ((aSet M (aF (SH L) a0 1) a5 (M (aF (SH L) a0 1) (aW (a5 - 1)))) (aF (SH L) a0 2) (aW (a5 - 1)))) (aF (SH L) a0 3) a5 ((aSet (aSet M (aF (SH L) a0 1) a5 (M (aF (SH L) a0 1) (aW (a5 - 1)))) (aF (SH L) a0 2) a5 ((aSet M (aF (SH L) a0 1) a5 (M (aF (SH L) a0 1) (aW (a5 - 1)))) (aF (SH L) a0 2) (aW (a5 - 1)))) (aF (SH L) a0 3) (aW (a5 - 1)))) (aF (SH L) a0 4) a5 ((aSet (aSet (aSet M (aF (SH L) a0 1) a5 (M (aF (SH L) a0 1) (aW (a5 - 1)))) (aF (SH L) a0 2) a5 ((aSet M (aF (SH L) a0 1) a5 (M (aF (SH L) a0 1) (aW (a5 - 1)))) (aF (SH L) a0 2) (aW (a5 - 1)))) (aF (SH L) a0 3) a5 ((aSet (aSet M (aF (SH L) a0 1) a5 (M (aF (SH L) a0 1) (aW (a5 - 1)))) (aF (SH L) a0 2) a5 ((aSet M (aF (SH L) a0 1) a5 (M (aF (SH L) a0 1) (aW (a5 - 1)))) (aF (SH L) a0 2) (aW (a5 - 1)))) (aF (SH L) a0 3) (aW (a5 - 1)))) (aF (SH L) a0 4) (aW (a5 - 1)))) o))))) : aX xc_76 (aSeek xc_76 16) [aR a0, aI a1, aI a2, aI a3, aI a4, aI a5] [] (SH L) M o := by
  by_cases cc : a5 ≤ 0
  · replace h := h.1 cc
    have t1 : aX xc_76 (aSeek xc_76 105) [aR a0, aI a1, aI a2, aI a3, aI a4, aI a5] [] (SH L) M o := by
      exact h
    exact aX_seg 2 (fun n g => ip cc (g)) t1
  · replace h := h.2 cc
    have t2 : aX xc_76 (aSeek xc_76 21) [aR a0, aI a1, aI a2, aI a3, aI a4, aI a5] [] (SH L) M o := by
      obtain ⟨c3, h⟩ := h
      obtain ⟨c4, h⟩ := h
      by_cases cc : (M (aF (SH L) a0 4) (aW (a5 - 1))) ≤ a4
      · replace h := h.1 cc
        have t5 : aX xc_76 (aSeek xc_76 105) [aR a0, aI a1, aI a2, aI a3, aI a4, aI a5] [] (SH L) M o := by
          exact h
        exact aX_seg 8 (fun n g => ip c3 (ip c4 (ip cc (g)))) t5
      · replace h := h.2 cc
        have t6 : aX xc_76 (aSeek xc_76 35) [aR a0, aI a1, aI a2, aI a3, aI a4, aI a5] [] (SH L) M o := by
          obtain ⟨c7, h⟩ := h
          obtain ⟨c8, h⟩ := h
          obtain ⟨c9, h⟩ := h
          obtain ⟨c10, h⟩ := h
          obtain ⟨c11, h⟩ := h
          obtain ⟨c12, h⟩ := h
          obtain ⟨c13, h⟩ := h
          obtain ⟨c14, h⟩ := h
          obtain ⟨c15, h⟩ := h
          obtain ⟨c16, h⟩ := h
          obtain ⟨c17, h⟩ := h
          obtain ⟨c18, h⟩ := h
          obtain ⟨c19, h⟩ := h
          obtain ⟨c20, h⟩ := h
          obtain ⟨c21, h⟩ := h
          obtain ⟨c22, h⟩ := h
          exact aX_seg 42 (fun n g => ip c7 (ip c8 (ip c9 (ip c10 (ip c11 (ip c12 (ip c13 (ip c14 (ip c15 (ip c16 (ip c17 (ip c18 (ip c19 (ip c20 (ip c21 (ip c22 (g))))))))))))))))) (h)
        exact aX_seg 8 (fun n g => ip c3 (ip c4 (in_ cc (g)))) t6
    exact aX_seg 2 (fun n g => in_ cc (g)) t2
set_option maxRecDepth 100000 in
theorem bl_76_105 {L : Nat} {a0 a1 a2 a3 a4 a5 : Int} {M : aM} {o : aO} (h : (aK (SH L) a0 = 11) ∧ (0 ≤ a5 ∧ a5 < aLn (SH L) 1 (aF (SH L) a0 1)) ∧ (aK (SH L) a0 = 11) ∧ (0 ≤ a5 ∧ a5 < aLn (SH L) 1 (aF (SH L) a0 2)) ∧ (aK (SH L) a0 = 11) ∧ (0 ≤ a5 ∧ a5 < aLn (SH L) 1 (aF (SH L) a0 3)) ∧ (aK (SH L) a0 = 11) ∧ (0 ≤ a5 ∧ a5 < aLn (SH L) 1 (aF (SH L) a0 4)) ∧ (aK (SH L) a0 = 11) ∧ (aK (SH L) a0 = 11) ∧ o = ([], (SH L), aSet (aSet (aSet (aSet (aSet M (aF (SH L) a0 1) a5 a1) (aF (SH L) a0 2) a5 a2) (aF (SH L) a0 3) a5 a3) (aF (SH L) a0 4) a5 a4) a0 0 (aW (((aSet (aSet (aSet (aSet M (aF (SH L) a0 1) a5 a1) (aF (SH L) a0 2) a5 a2) (aF (SH L) a0 3) a5 a3) (aF (SH L) a0 4) a5 a4) a0 0) + 1)))) : aX xc_76 (aSeek xc_76 105) [aR a0, aI a1, aI a2, aI a3, aI a4, aI a5] [] (SH L) M o := by
  obtain ⟨c1, h⟩ := h
  obtain ⟨c2, h⟩ := h
  obtain ⟨c3, h⟩ := h
  obtain ⟨c4, h⟩ := h
  obtain ⟨c5, h⟩ := h
  obtain ⟨c6, h⟩ := h
  obtain ⟨c7, h⟩ := h
  obtain ⟨c8, h⟩ := h
  obtain ⟨c9, h⟩ := h
  obtain ⟨c10, h⟩ := h
  subst h
  exact ⟨27, ip c1 (ip c2 (ip c3 (ip c4 (ip c5 (ip c6 (ip c7 (ip c8 (ip c9 (ip c10 (rfl))))))))))⟩
/- TypeLock$Pushes.findContacts()V -/
set_option maxRecDepth 100000 in
theorem en_77 {L : Nat} {M : aM} {o : aO} (h : aX xc_77 (aSeek xc_77 23) [aR 64, aI 0, aU, aU, aU, aU] [] (SH L) (aSet (aSet (aSet M 67 0 0) 72 0 0) 64 8 0) o) : aE 77 [aR 64] (SH L) M o := by
  have q : aX xc_77 (aSeek xc_77 0) [aR 64, aU, aU, aU, aU, aU] [] (SH L) M o := by
    exact aX_seg 13 (fun n g => g) (h)
  exact q
set_option maxRecDepth 100000 in
theorem bl_77_23 {L : Nat} {a1 : Int} {M : aM} {o : aO} (h : (aK (SH L) (M 64 5) = 10) ∧ (((M (M 64 5) 0) ≤ a1 → o = ([], (SH L), M)) ∧ (¬ ((M (M 64 5) 0) ≤ a1) → (aK (SH L) (M 64 5) = 10) ∧ (0 ≤ a1 ∧ a1 < aLn (SH L) 1 (aF (SH L) (M 64 5) 2)) ∧ ((¬ (M (aF (SH L) (M 64 5) 2) a1) = 3 → aX xc_77 (aSeek xc_77 59) [aR 64, aI a1, aU, aU, aU, aU] [] (SH L) M o) ∧ (¬ (¬ (M (aF (SH L) (M 64 5) 2) a1) = 3) → aX xc_77 (aSeek xc_77 59) [aR 64, aI a1, aU, aU, aU, aU] [] (SH L) (aSet M 64 8 (aLor (M 64 8) (aLsl 1 a1))) o))))) : aX xc_77 (aSeek xc_77 23) [aR 64, aI a1, aU, aU, aU, aU] [] (SH L) M o := by
  obtain ⟨c1, h⟩ := h
  by_cases cc : (M (M 64 5) 0) ≤ a1
  · replace h := h.1 cc
    have t2 : aX xc_77 (aSeek xc_77 240) [aR 64, aI a1, aU, aU, aU, aU] [] (SH L) M o := by
      subst h
      exact ⟨1, rfl⟩
    exact aX_seg 5 (fun n g => ip c1 (ip cc (g))) t2
  · replace h := h.2 cc
    have t3 : aX xc_77 (aSeek xc_77 34) [aR 64, aI a1, aU, aU, aU, aU] [] (SH L) M o := by
      obtain ⟨c4, h⟩ := h
      obtain ⟨c5, h⟩ := h
      by_cases cc : ¬ (M (aF (SH L) (M 64 5) 2) a1) = 3
      · replace h := h.1 cc
        have t6 : aX xc_77 (aSeek xc_77 59) [aR 64, aI a1, aU, aU, aU, aU] [] (SH L) M o := by
          exact h
        exact aX_seg 7 (fun n g => ip c4 (ip c5 (ip cc (g)))) t6
      · replace h := h.2 cc
        have t7 : aX xc_77 (aSeek xc_77 47) [aR 64, aI a1, aU, aU, aU, aU] [] (SH L) M o := by
          exact aX_seg 8 (fun n g => g) (h)
        exact aX_seg 7 (fun n g => ip c4 (ip c5 (in_ cc (g)))) t7
    exact aX_seg 5 (fun n g => ip c1 (in_ cc (g))) t3
set_option maxRecDepth 100000 in
theorem bl_77_59 {L : Nat} {a1 : Int} {M : aM} {o : aO} (h : aX xc_77 (aSeek xc_77 61) [aR 64, aI a1, aI 0, aU, aU, aU] [] (SH L) M o) : aX xc_77 (aSeek xc_77 59) [aR 64, aI a1, aU, aU, aU, aU] [] (SH L) M o := by
  exact aX_seg 2 (fun n g => g) (h)
set_option maxRecDepth 100000 in
theorem bl_77_61 {L : Nat} {a1 a2 : Int} {M : aM} {o : aO} (h : (aK (SH L) (M 64 5) = 10) ∧ (((M (M 64 5) 0) ≤ a2 → aX xc_77 (aSeek xc_77 23) [aR 64, aI (aW (a1 + 1)), aU, aU, aU, aU] [] (SH L) M o) ∧ (¬ ((M (M 64 5) 0) ≤ a2) → (aK (SH L) (M 64 5) = 10) ∧ (0 ≤ a1 ∧ a1 < aLn (SH L) 1 (aF (SH L) (M 64 5) 3)) ∧ (aK (SH L) (M 64 5) = 10) ∧ (0 ≤ a1 ∧ a1 < aLn (SH L) 1 (aF (SH L) (M 64 5) 5)) ∧ (aK (SH L) (M 64 5) = 10) ∧ (0 ≤ a2 ∧ a2 < aLn (SH L) 1 (aF (SH L) (M 64 5) 3)) ∧ ((¬ (aW ((M (aF (SH L) (M 64 5) 3) a1) + (M (aF (SH L) (M 64 5) 5) a1))) = (M (aF (SH L) (M 64 5) 3) a2) → aX xc_77 (aSeek xc_77 108) [aR 64, aI a1, aI a2, aU, aU, aU] [aI 0] (SH L) M o) ∧ (¬ (¬ (aW ((M (aF (SH L) (M 64 5) 3) a1) + (M (aF (SH L) (M 64 5) 5) a1))) = (M (aF (SH L) (M 64 5) 3) a2)) → aX xc_77 (aSeek xc_77 108) [aR 64, aI a1, aI a2, aU, aU, aU] [aI 1] (SH L) M o))))) : aX xc_77 (aSeek xc_77 61) [aR 64, aI a1, aI a2, aU, aU, aU] [] (SH L) M o := by
  obtain ⟨c1, h⟩ := h
  by_cases cc : (M (M 64 5) 0) ≤ a2
  · replace h := h.1 cc
    have t2 : aX xc_77 (aSeek xc_77 234) [aR 64, aI a1, aI a2, aU, aU, aU] [] (SH L) M o := by
      exact aX_seg 2 (fun n g => g) (aX_le (ls := [aR 64, aI (aW (a1 + 1)), aU, aU, aU, aU]) (ls1 := [aR 64, aI (aW (a1 + 1)), aI a2, aU, aU, aU]) (⟨Or.inr rfl, ⟨Or.inr rfl, ⟨Or.inl rfl, ⟨Or.inl rfl, ⟨Or.inl rfl, ⟨Or.inl rfl, trivial⟩⟩⟩⟩⟩⟩) h)
    exact aX_seg 5 (fun n g => ip c1 (ip cc (g))) t2
  · replace h := h.2 cc
    have t3 : aX xc_77 (aSeek xc_77 72) [aR 64, aI a1, aI a2, aU, aU, aU] [] (SH L) M o := by
      obtain ⟨c4, h⟩ := h
      obtain ⟨c5, h⟩ := h
      obtain ⟨c6, h⟩ := h
      obtain ⟨c7, h⟩ := h
      obtain ⟨c8, h⟩ := h
      obtain ⟨c9, h⟩ := h
      by_cases cc : ¬ (aW ((M (aF (SH L) (M 64 5) 3) a1) + (M (aF (SH L) (M 64 5) 5) a1))) = (M (aF (SH L) (M 64 5) 3) a2)
      · replace h := h.1 cc
        have t10 : aX xc_77 (aSeek xc_77 107) [aR 64, aI a1, aI a2, aU, aU, aU] [] (SH L) M o := by
          exact aX_seg 1 (fun n g => g) (h)
        exact aX_seg 17 (fun n g => ip c4 (ip c5 (ip c6 (ip c7 (ip c8 (ip c9 (ip cc (g)))))))) t10
      · replace h := h.2 cc
        have t11 : aX xc_77 (aSeek xc_77 103) [aR 64, aI a1, aI a2, aU, aU, aU] [] (SH L) M o := by
          exact aX_seg 2 (fun n g => g) (h)
        exact aX_seg 17 (fun n g => ip c4 (ip c5 (ip c6 (ip c7 (ip c8 (ip c9 (in_ cc (g)))))))) t11
    exact aX_seg 5 (fun n g => ip c1 (in_ cc (g))) t3
set_option maxRecDepth 100000 in
theorem bl_77_108 {L : Nat} {a1 a2 b0 : Int} {M : aM} {o : aO} (h : (aK (SH L) (M 64 5) = 10) ∧ (0 ≤ a1 ∧ a1 < aLn (SH L) 1 (aF (SH L) (M 64 5) 4)) ∧ (aK (SH L) (M 64 5) = 10) ∧ (0 ≤ a1 ∧ a1 < aLn (SH L) 1 (aF (SH L) (M 64 5) 6)) ∧ (aK (SH L) (M 64 5) = 10) ∧ (0 ≤ a2 ∧ a2 < aLn (SH L) 1 (aF (SH L) (M 64 5) 4)) ∧ ((¬ (aW ((M (aF (SH L) (M 64 5) 4) a1) + (M (aF (SH L) (M 64 5) 6) a1))) = (M (aF (SH L) (M 64 5) 4) a2) → aX xc_77 (aSeek xc_77 145) [aR 64, aI a1, aI a2, aI b0, aU, aU] [aI 0] (SH L) M o) ∧ (¬ (¬ (aW ((M (aF (SH L) (M 64 5) 4) a1) + (M (aF (SH L) (M 64 5) 6) a1))) = (M (aF (SH L) (M 64 5) 4) a2)) → aX xc_77 (aSeek xc_77 145) [aR 64, aI a1, aI a2, aI b0, aU, aU] [aI 1] (SH L) M o))) : aX xc_77 (aSeek xc_77 108) [aR 64, aI a1, aI a2, aU, aU, aU] [aI b0] (SH L) M o := by
  obtain ⟨c1, h⟩ := h
  obtain ⟨c2, h⟩ := h
  obtain ⟨c3, h⟩ := h
  obtain ⟨c4, h⟩ := h
  obtain ⟨c5, h⟩ := h
  obtain ⟨c6, h⟩ := h
  by_cases cc : ¬ (aW ((M (aF (SH L) (M 64 5) 4) a1) + (M (aF (SH L) (M 64 5) 6) a1))) = (M (aF (SH L) (M 64 5) 4) a2)
  · replace h := h.1 cc
    have t7 : aX xc_77 (aSeek xc_77 144) [aR 64, aI a1, aI a2, aI b0, aU, aU] [] (SH L) M o := by
      exact aX_seg 1 (fun n g => g) (h)
    exact aX_seg 18 (fun n g => ip c1 (ip c2 (ip c3 (ip c4 (ip c5 (ip c6 (ip cc (g)))))))) t7
  · replace h := h.2 cc
    have t8 : aX xc_77 (aSeek xc_77 140) [aR 64, aI a1, aI a2, aI b0, aU, aU] [] (SH L) M o := by
      exact aX_seg 2 (fun n g => g) (h)
    exact aX_seg 18 (fun n g => ip c1 (ip c2 (ip c3 (ip c4 (ip c5 (ip c6 (in_ cc (g)))))))) t8
set_option maxRecDepth 100000 in
theorem bl_77_145 {L : Nat} {a1 a2 a3 b0 : Int} {M : aM} {o : aO} (h : ((¬ a3 = 0 → aX xc_77 (aSeek xc_77 156) [aR 64, aI a1, aI a2, aI a3, aU, aU] [] (SH L) M o) ∧ (¬ (¬ a3 = 0) → ((b0 = 0 → aX xc_77 (aSeek xc_77 169) [aR 64, aI a1, aI a2, aI a3, aU, aU] [aI 0] (SH L) M o) ∧ (¬ (b0 = 0) → aX xc_77 (aSeek xc_77 156) [aR 64, aI a1, aI a2, aI a3, aU, aU] [] (SH L) M o))))) : aX xc_77 (aSeek xc_77 145) [aR 64, aI a1, aI a2, aI a3, aU, aU] [aI b0] (SH L) M o := by
  by_cases cc : ¬ a3 = 0
  · replace h := h.1 cc
    have t1 : aX xc_77 (aSeek xc_77 156) [aR 64, aI a1, aI a2, aI a3, aI b0, aU] [] (SH L) M o := by
      exact aX_le (ls := [aR 64, aI a1, aI a2, aI a3, aU, aU]) (ls1 := [aR 64, aI a1, aI a2, aI a3, aI b0, aU]) (⟨Or.inr rfl, ⟨Or.inr rfl, ⟨Or.inr rfl, ⟨Or.inr rfl, ⟨Or.inl rfl, ⟨Or.inl rfl, trivial⟩⟩⟩⟩⟩⟩) h
    exact aX_seg 3 (fun n g => ip cc (g)) t1
  · replace h := h.2 cc
    have t2 : aX xc_77 (aSeek xc_77 151) [aR 64, aI a1, aI a2, aI a3, aI b0, aU] [] (SH L) M o := by
      by_cases cc : b0 = 0
      · replace h := h.1 cc
        have t3 : aX xc_77 (aSeek xc_77 168) [aR 64, aI a1, aI a2, aI a3, aI b0, aU] [] (SH L) M o := by
          exact aX_seg 1 (fun n g => g) (aX_le (ls := [aR 64, aI a1, aI a2, aI a3, aU, aU]) (ls1 := [aR 64, aI a1, aI a2, aI a3, aI b0, aU]) (⟨Or.inr rfl, ⟨Or.inr rfl, ⟨Or.inr rfl, ⟨Or.inr rfl, ⟨Or.inl rfl, ⟨Or.inl rfl, trivial⟩⟩⟩⟩⟩⟩) h)
        exact aX_seg 2 (fun n g => ip cc (g)) t3
      · replace h := h.2 cc
        have t4 : aX xc_77 (aSeek xc_77 156) [aR 64, aI a1, aI a2, aI a3, aI b0, aU] [] (SH L) M o := by
          exact aX_le (ls := [aR 64, aI a1, aI a2, aI a3, aU, aU]) (ls1 := [aR 64, aI a1, aI a2, aI a3, aI b0, aU]) (⟨Or.inr rfl, ⟨Or.inr rfl, ⟨Or.inr rfl, ⟨Or.inr rfl, ⟨Or.inl rfl, ⟨Or.inl rfl, trivial⟩⟩⟩⟩⟩⟩) h
        exact aX_seg 2 (fun n g => in_ cc (g)) t4
    exact aX_seg 3 (fun n g => in_ cc (g)) t2
set_option maxRecDepth 100000 in
theorem bl_77_156 {L : Nat} {a1 a2 a3 : Int} {M : aM} {o : aO} (h : (aK (SH L) (M 64 5) = 10 ∧ ∃ (M1 : aM) (v2 : Int), aE 73 [aR (M 64 5), aI a1, aI a2] (SH L) M ([aI v2], (SH L), M1) ∧ aX xc_77 (aSeek xc_77 169) [aR 64, aI a1, aI a2, aI a3, aU, aU] [aI v2] (SH L) M1 o)) : aX xc_77 (aSeek xc_77 156) [aR 64, aI a1, aI a2, aI a3, aU, aU] [] (SH L) M o := by
  obtain ⟨c3, h⟩ := h
  obtain ⟨M1, v2, k4, h⟩ := h
  have h2 : aX xc_77 (aSeek xc_77 165) [aR 64, aI a1, aI a2, aI a3, aU, aU] [aI v2] (SH L) M1 o := by
    exact aX_seg 1 (fun n g => g) (h)
  exact aX_seg 4 (fun n g => g) (aX_callv (c3) rfl rfl rfl k4 h2)
set_option maxRecDepth 100000 in
theorem bl_77_169 {L : Nat} {a1 a2 a3 b0 : Int} {M : aM} {o : aO} (h : ((b0 ≤ 0 → aX xc_77 (aSeek xc_77 203) [aR 64, aI a1, aI a2, aU, aU, aI b0] [] (SH L) M o) ∧ (¬ (b0 ≤ 0) → ((a3 = 0 → aX xc_77 (aSeek xc_77 203) [aR 64, aI a1, aI a2, aU, aU, aI b0] [] (SH L) M o) ∧ (¬ (a3 = 0) → (aK (SH L) (M 64 5) = 10) ∧ (0 ≤ a2 ∧ a2 < aLn (SH L) 1 (aF (SH L) (M 64 5) 3)) ∧ (∃ (M1 : aM), aE 76 [aR 67, aI a1, aI a2, aI b0, aI (M (aF (SH L) (M 64 5) 3) a2)] (SH L) M ([], (SH L), M1) ∧ aX xc_77 (aSeek xc_77 228) [aR 64, aI a1, aI a2, aU, aU, aU] [] (SH L) M1 o)))))) : aX xc_77 (aSeek xc_77 169) [aR 64, aI a1, aI a2, aI a3, aU, aU] [aI b0] (SH L) M o := by
  by_cases cc : b0 ≤ 0
  · replace h := h.1 cc
    have t2 : aX xc_77 (aSeek xc_77 203) [aR 64, aI a1, aI a2, aI a3, aU, aI b0] [] (SH L) M o := by
      exact aX_le (ls := [aR 64, aI a1, aI a2, aU, aU, aI b0]) (ls1 := [aR 64, aI a1, aI a2, aI a3, aU, aI b0]) (⟨Or.inr rfl, ⟨Or.inr rfl, ⟨Or.inr rfl, ⟨Or.inl rfl, ⟨Or.inl rfl, ⟨Or.inr rfl, trivial⟩⟩⟩⟩⟩⟩) h
    exact aX_seg 3 (fun n g => ip cc (g)) t2
  · replace h := h.2 cc
    have t3 : aX xc_77 (aSeek xc_77 176) [aR 64, aI a1, aI a2, aI a3, aU, aI b0] [] (SH L) M o := by
      by_cases cc : a3 = 0
      · replace h := h.1 cc
        have t4 : aX xc_77 (aSeek xc_77 203) [aR 64, aI a1, aI a2, aI a3, aU, aI b0] [] (SH L) M o := by
          exact aX_le (ls := [aR 64, aI a1, aI a2, aU, aU, aI b0]) (ls1 := [aR 64, aI a1, aI a2, aI a3, aU, aI b0]) (⟨Or.inr rfl, ⟨Or.inr rfl, ⟨Or.inr rfl, ⟨Or.inl rfl, ⟨Or.inl rfl, ⟨Or.inr rfl, trivial⟩⟩⟩⟩⟩⟩) h
        exact aX_seg 2 (fun n g => ip cc (g)) t4
      · replace h := h.2 cc
        have t5 : aX xc_77 (aSeek xc_77 180) [aR 64, aI a1, aI a2, aI a3, aU, aI b0] [] (SH L) M o := by
          obtain ⟨c6, h⟩ := h
          obtain ⟨c7, h⟩ := h
          obtain ⟨M1, k8, h⟩ := h
          have h2 : aX xc_77 (aSeek xc_77 200) [aR 64, aI a1, aI a2, aI a3, aU, aI b0] [] (SH L) M1 o := by
            exact aX_seg 1 (fun n g => g) (aX_le (ls := [aR 64, aI a1, aI a2, aU, aU, aU]) (ls1 := [aR 64, aI a1, aI a2, aI a3, aU, aI b0]) (⟨Or.inr rfl, ⟨Or.inr rfl, ⟨Or.inr rfl, ⟨Or.inl rfl, ⟨Or.inl rfl, ⟨Or.inl rfl, trivial⟩⟩⟩⟩⟩⟩) h)
          exact aX_seg 10 (fun n g => ip c6 (ip c7 (g))) (aX_callv (rfl) rfl rfl rfl k8 h2)
        exact aX_seg 2 (fun n g => in_ cc (g)) t5
    exact aX_seg 3 (fun n g => in_ cc (g)) t3
set_option maxRecDepth 100000 in
theorem bl_77_203 {L : Nat} {a1 a2 a5 : Int} {M : aM} {o : aO} (h : ((a5 ≤ 0 → aX xc_77 (aSeek xc_77 228) [aR 64, aI a1, aI a2, aU, aU, aU] [] (SH L) M o) ∧ (¬ (a5 ≤ 0) → (aK (SH L) (M 64 5) = 10) ∧ (0 ≤ a2 ∧ a2 < aLn (SH L) 1 (aF (SH L) (M 64 5) 4)) ∧ (∃ (M1 : aM), aE 76 [aR 72, aI a1, aI a2, aI a5, aI (M (aF (SH L) (M 64 5) 4) a2)] (SH L) M ([], (SH L), M1) ∧ aX xc_77 (aSeek xc_77 228) [aR 64, aI a1, aI a2, aU, aU, aU] [] (SH L) M1 o)))) : aX xc_77 (aSeek xc_77 203) [aR 64, aI a1, aI a2, aU, aU, aI a5] [] (SH L) M o := by
  by_cases cc : a5 ≤ 0
  · replace h := h.1 cc
    have t2 : aX xc_77 (aSeek xc_77 228) [aR 64, aI a1, aI a2, aU, aU, aI a5] [] (SH L) M o := by
      exact aX_le (ls := [aR 64, aI a1, aI a2, aU, aU, aU]) (ls1 := [aR 64, aI a1, aI a2, aU, aU, aI a5]) (⟨Or.inr rfl, ⟨Or.inr rfl, ⟨Or.inr rfl, ⟨Or.inl rfl, ⟨Or.inl rfl, ⟨Or.inl rfl, trivial⟩⟩⟩⟩⟩⟩) h
    exact aX_seg 2 (fun n g => ip cc (g)) t2
  · replace h := h.2 cc
    have t3 : aX xc_77 (aSeek xc_77 208) [aR 64, aI a1, aI a2, aU, aU, aI a5] [] (SH L) M o := by
      obtain ⟨c4, h⟩ := h
      obtain ⟨c5, h⟩ := h
      obtain ⟨M1, k6, h⟩ := h
      have h2 : aX xc_77 (aSeek xc_77 228) [aR 64, aI a1, aI a2, aU, aU, aI a5] [] (SH L) M1 o := by
        exact aX_le (ls := [aR 64, aI a1, aI a2, aU, aU, aU]) (ls1 := [aR 64, aI a1, aI a2, aU, aU, aI a5]) (⟨Or.inr rfl, ⟨Or.inr rfl, ⟨Or.inr rfl, ⟨Or.inl rfl, ⟨Or.inl rfl, ⟨Or.inl rfl, trivial⟩⟩⟩⟩⟩⟩) h
      exact aX_seg 10 (fun n g => ip c4 (ip c5 (g))) (aX_callv (rfl) rfl rfl rfl k6 h2)
    exact aX_seg 2 (fun n g => in_ cc (g)) t3
set_option maxRecDepth 100000 in
theorem bl_77_228 {L : Nat} {a1 a2 : Int} {M : aM} {o : aO} (h : aX xc_77 (aSeek xc_77 61) [aR 64, aI a1, aI (aW (a2 + 1)), aU, aU, aU] [] (SH L) M o) : aX xc_77 (aSeek xc_77 228) [aR 64, aI a1, aI a2, aU, aU, aU] [] (SH L) M o := by
  exact aX_seg 2 (fun n g => g) (h)
/- java/util/Arrays.fill([II)V -/
set_option maxRecDepth 100000 in
theorem en_78 {L : Nat} {a0 a1 : Int} {M : aM} {o : aO} (h : (aK (SH L) a0 = 1) ∧ aX xc_78 (aSeek xc_78 5) [aR a0, aI a1, aI 0, aI (aL (SH L) a0)] [] (SH L) M o) : aE 78 [aR a0, aI a1] (SH L) M o := by
  have q : aX xc_78 (aSeek xc_78 0) [aR a0, aI a1, aU, aU] [] (SH L) M o := by
    obtain ⟨c1, h⟩ := h
    exact aX_seg 5 (fun n g => ip c1 (g)) (h)
  exact q
set_option maxRecDepth 100000 in
theorem bl_78_5 {L : Nat} {a0 a1 a2 a3 : Int} {M : aM} {o : aO} (h : ((a3 ≤ a2 → o = ([], (SH L), M)) ∧ (¬ (a3 ≤ a2) → (0 ≤ a2 ∧ a2 < aLn (SH L) 1 a0) ∧ aX xc_78 (aSeek xc_78 5) [aR a0, aI a1, aI (aW (a2 + 1)), aI a3] [] (SH L) (aSet M a0 a2 a1) o))) : aX xc_78 (aSeek xc_78 5) [aR a0, aI a1, aI a2, aI a3] [] (SH L) M o := by
  by_cases cc : a3 ≤ a2
  · replace h := h.1 cc
    have t1 : aX xc_78 (aSeek xc_78 20) [aR a0, aI a1, aI a2, aI a3] [] (SH L) M o := by
      subst h
      exact ⟨1, rfl⟩
    exact aX_seg 3 (fun n g => ip cc (g)) t1
  · replace h := h.2 cc
    have t2 : aX xc_78 (aSeek xc_78 10) [aR a0, aI a1, aI a2, aI a3] [] (SH L) M o := by
      obtain ⟨c3, h⟩ := h
      exact aX_seg 6 (fun n g => ip c3 (g)) (h)
    exact aX_seg 3 (fun n g => in_ cc (g)) t2
/- TypeLock$Pushes.look(LTypeLock$Text;LTypeLock$Bed;II)V -/
set_option maxRecDepth 100000 in
theorem en_79 {L : Nat} {a1 a2 a3 a4 : Int} {M : aM} {o : aO} (h : (aK (SH L) 64 = 17 ∧ -1 ≤ (a1 : Int)) ∧ (aK (SH L) 64 = 17 ∧ -1 ≤ (a2 : Int)) ∧ ((((aSet (aSet M 64 4 a1) 64 5 a2) 64 13) = a3 → aX xc_79 (aSeek xc_79 27) [aR 64, aU, aU, aU, aI a4] [] (SH L) (aSet (aSet M 64 4 a1) 64 5 a2) o) ∧ (¬ (((aSet (aSet M 64 4 a1) 64 5 a2) 64 13) = a3) → (∃ (M1 : aM), aE 77 [aR 64] (SH L) (aSet (aSet (aSet M 64 4 a1) 64 5 a2) 64 13 a3) ([], (SH L), M1) ∧ aX xc_79 (aSeek xc_79 27) [aR 64, aU, aU, aU, aI a4] [] (SH L) M1 o)))) : aE 79 [aR 64, aR a1, aR a2, aI a3, aI a4] (SH L) M o := by
  have q : aX xc_79 (aSeek xc_79 0) [aR 64, aR a1, aR a2, aI a3, aI a4] [] (SH L) M o := by
    obtain ⟨c2, h⟩ := h
    obtain ⟨c3, h⟩ := h
    by_cases cc : ((aSet (aSet M 64 4 a1) 64 5 a2) 64 13) = a3
    · replace h := h.1 cc
      have t4 : aX xc_79 (aSeek xc_79 27) [aR 64, aR a1, aR a2, aI a3, aI a4] [] (SH L) (aSet (aSet M 64 4 a1) 64 5 a2) o := by
        exact aX_le (ls := [aR 64, aU, aU, aU, aI a4]) (ls1 := [aR 64, aR a1, aR a2, aI a3, aI a4]) (⟨Or.inr rfl, ⟨Or.inl rfl, ⟨Or.inl rfl, ⟨Or.inl rfl, ⟨Or.inr rfl, trivial⟩⟩⟩⟩⟩) h
      exact aX_seg 10 (fun n g => ip c2 (ip c3 (ip cc (g)))) t4
    · replace h := h.2 cc
      have t5 : aX xc_79 (aSeek xc_79 18) [aR 64, aR a1, aR a2, aI a3, aI a4] [] (SH L) (aSet (aSet M 64 4 a1) 64 5 a2) o := by
        obtain ⟨M1, k6, h⟩ := h
        have h2 : aX xc_79 (aSeek xc_79 27) [aR 64, aR a1, aR a2, aI a3, aI a4] [] (SH L) M1 o := by
          exact aX_le (ls := [aR 64, aU, aU, aU, aI a4]) (ls1 := [aR 64, aR a1, aR a2, aI a3, aI a4]) (⟨Or.inr rfl, ⟨Or.inl rfl, ⟨Or.inl rfl, ⟨Or.inl rfl, ⟨Or.inr rfl, trivial⟩⟩⟩⟩⟩) h
        exact aX_seg 4 (fun n g => g) (aX_callv (rfl) rfl rfl rfl k6 h2)
      exact aX_seg 10 (fun n g => ip c2 (ip c3 (in_ cc (g)))) t5
  exact q
set_option maxRecDepth 100000 in
theorem bl_79_27 {L : Nat} {a4 : Int} {M : aM} {o : aO} (h : (((M 64 14) = a4 → o = ([], (SH L), M)) ∧ (¬ ((M 64 14) = a4) → (∃ (M1 : aM), aE 78 [aR 83, aI ((-1))] (SH L) (aSet (aSet M 64 14 a4) 64 12 0) ([], (SH L), M1) ∧ o = ([], (SH L), M1))))) : aX xc_79 (aSeek xc_79 27) [aR 64, aU, aU, aU, aI a4] [] (SH L) M o := by
  by_cases cc : (M 64 14) = a4
  · replace h := h.1 cc
    have t2 : aX xc_79 (aSeek xc_79 55) [aR 64, aU, aU, aU, aI a4] [] (SH L) M o := by
      subst h
      exact ⟨1, rfl⟩
    exact aX_seg 4 (fun n g => ip cc (g)) t2
  · replace h := h.2 cc
    have t3 : aX xc_79 (aSeek xc_79 36) [aR 64, aU, aU, aU, aI a4] [] (SH L) M o := by
      obtain ⟨M1, k4, h⟩ := h
      have h2 : aX xc_79 (aSeek xc_79 55) [aR 64, aU, aU, aU, aI a4] [] (SH L) M1 o := by
        subst h
        exact ⟨1, rfl⟩
      exact aX_seg 9 (fun n g => g) (aX_calls rfl rfl rfl k4 h2)
    exact aX_seg 4 (fun n g => in_ cc (g)) t3
/- TypeLock.look()V -/
set_option maxRecDepth 100000 in
theorem en_80 {L : Nat} {M : aM} {o : aO} (h : (∃ (M1 : aM), aE 79 [aR 64, aR (M 1 3), aR 31, aI (M 1 9), aI (M 1 10)] (SH L) M ([], (SH L), M1) ∧ o = ([], (SH L), M1))) : aE 80 [aR 1] (SH L) M o := by
  have q : aX xc_80 (aSeek xc_80 0) [aR 1] [] (SH L) M o := by
    obtain ⟨M1, k2, h⟩ := h
    have h2 : aX xc_80 (aSeek xc_80 23) [aR 1] [] (SH L) M1 o := by
      subst h
      exact ⟨1, rfl⟩
    exact aX_seg 10 (fun n g => g) (aX_callv (rfl) rfl rfl rfl k2 h2)
  exact q
/- TypeLock$Bed.everything()J -/
set_option maxRecDepth 100000 in
theorem en_81 {L : Nat} {a0 : Int} {M : aM} {o : aO} (h : (aK (SH L) a0 = 10) ∧ o = ([aJ (aWL ((aLsl 1 (M a0 0)) - 1))], (SH L), M)) : aE 81 [aR a0] (SH L) M o := by
  have q : aX xc_81 (aSeek xc_81 0) [aR a0] [] (SH L) M o := by
    obtain ⟨c1, h⟩ := h
    subst h
    exact ⟨7, ip c1 (rfl)⟩
  exact q
/- TypeLock$Text.reachAt(II)J -/
set_option maxRecDepth 100000 in
theorem en_82 {L : Nat} {a0 a1 a2 : Int} {M : aM} {o : aO} (h : aX xc_82 (aSeek xc_82 5) [aR a0, aI a1, aI a2, aJ 0, aU, aI 0] [] (SH L) M o) : aE 82 [aR a0, aI a1, aI a2] (SH L) M o := by
  have q : aX xc_82 (aSeek xc_82 0) [aR a0, aI a1, aI a2, aU, aU, aU] [] (SH L) M o := by
    exact aX_seg 4 (fun n g => g) (h)
  exact q
set_option maxRecDepth 100000 in
theorem bl_82_5 {L : Nat} {a0 a1 a2 a3 a5 : Int} {M : aM} {o : aO} (h : (aK (SH L) a0 = 19) ∧ (((M a0 9) ≤ a5 → o = ([aJ a3], (SH L), M)) ∧ (¬ ((M a0 9) ≤ a5) → (aK (SH L) a0 = 19) ∧ (0 ≤ a5 ∧ a5 < aLn (SH L) 1 (aF (SH L) a0 10)) ∧ ((¬ (M (aF (SH L) a0 10) a5) = a1 → aX xc_82 (aSeek xc_82 45) [aR a0, aI a1, aI a2, aJ a3, aU, aI a5] [] (SH L) M o) ∧ (¬ (¬ (M (aF (SH L) a0 10) a5) = a1) → ((¬ (aAnd (aShr a2 a5) 1) = 1 → aX xc_82 (aSeek xc_82 45) [aR a0, aI a1, aI a2, aJ a3, aU, aI a5] [] (SH L) M o) ∧ (¬ (¬ (aAnd (aShr a2 a5) 1) = 1) → (aK (SH L) a0 = 19) ∧ (0 ≤ a5 ∧ a5 < aLn (SH L) 2 (aF (SH L) a0 11)) ∧ aX xc_82 (aSeek xc_82 45) [aR a0, aI a1, aI a2, aJ (aLor a3 (M (aF (SH L) a0 11) a5)), aU, aI a5] [] (SH L) M o))))))) : aX xc_82 (aSeek xc_82 5) [aR a0, aI a1, aI a2, aJ a3, aU, aI a5] [] (SH L) M o := by
  obtain ⟨c1, h⟩ := h
  by_cases cc : (M a0 9) ≤ a5
  · replace h := h.1 cc
    have t2 : aX xc_82 (aSeek xc_82 51) [aR a0, aI a1, aI a2, aJ a3, aU, aI a5] [] (SH L) M o := by
      subst h
      exact ⟨2, rfl⟩
    exact aX_seg 4 (fun n g => ip c1 (ip cc (g))) t2
  · replace h := h.2 cc
    have t3 : aX xc_82 (aSeek xc_82 14) [aR a0, aI a1, aI a2, aJ a3, aU, aI a5] [] (SH L) M o := by
      obtain ⟨c4, h⟩ := h
      obtain ⟨c5, h⟩ := h
      by_cases cc : ¬ (M (aF (SH L) a0 10) a5) = a1
      · replace h := h.1 cc
        have t6 : aX xc_82 (aSeek xc_82 45) [aR a0, aI a1, aI a2, aJ a3, aU, aI a5] [] (SH L) M o := by
          exact h
        exact aX_seg 6 (fun n g => ip c4 (ip c5 (ip cc (g)))) t6
      · replace h := h.2 cc
        have t7 : aX xc_82 (aSeek xc_82 25) [aR a0, aI a1, aI a2, aJ a3, aU, aI a5] [] (SH L) M o := by
          by_cases cc : ¬ (aAnd (aShr a2 a5) 1) = 1
          · replace h := h.1 cc
            have t8 : aX xc_82 (aSeek xc_82 45) [aR a0, aI a1, aI a2, aJ a3, aU, aI a5] [] (SH L) M o := by
              exact h
            exact aX_seg 7 (fun n g => ip cc (g)) t8
          · replace h := h.2 cc
            have t9 : aX xc_82 (aSeek xc_82 35) [aR a0, aI a1, aI a2, aJ a3, aU, aI a5] [] (SH L) M o := by
              obtain ⟨c10, h⟩ := h
              obtain ⟨c11, h⟩ := h
              exact aX_seg 7 (fun n g => ip c10 (ip c11 (g))) (h)
            exact aX_seg 7 (fun n g => in_ cc (g)) t9
        exact aX_seg 6 (fun n g => ip c4 (ip c5 (in_ cc (g)))) t7
    exact aX_seg 4 (fun n g => ip c1 (in_ cc (g))) t3
set_option maxRecDepth 100000 in
theorem bl_82_45 {L : Nat} {a0 a1 a2 a3 a5 : Int} {M : aM} {o : aO} (h : aX xc_82 (aSeek xc_82 5) [aR a0, aI a1, aI a2, aJ a3, aU, aI (aW (a5 + 1))] [] (SH L) M o) : aX xc_82 (aSeek xc_82 45) [aR a0, aI a1, aI a2, aJ a3, aU, aI a5] [] (SH L) M o := by
  exact aX_seg 2 (fun n g => g) (h)
/- TypeLock$Pushes.contactsTo(I)LTypeLock$Contacts; -/
set_option maxRecDepth 100000 in
theorem en_83 {L : Nat} {a1 : Int} {M : aM} {o : aO} (h : ((a1 = 0 → o = ([aR 72], (SH L), M)) ∧ (¬ (a1 = 0) → ((¬ a1 = 2 → o = ([aR 67], (SH L), M)) ∧ (¬ (¬ a1 = 2) → o = ([aR 72], (SH L), M)))))) : aE 83 [aR 64, aI a1] (SH L) M o := by
  have q : aX xc_83 (aSeek xc_83 0) [aR 64, aI a1] [] (SH L) M o := by
    by_cases cc : a1 = 0
    · replace h := h.1 cc
      have t1 : aX xc_83 (aSeek xc_83 9) [aR 64, aI a1] [] (SH L) M o := by
        subst h
        exact ⟨4, rfl⟩
      exact aX_seg 2 (fun n g => ip cc (g)) t1
    · replace h := h.2 cc
      have t2 : aX xc_83 (aSeek xc_83 4) [aR 64, aI a1] [] (SH L) M o := by
        by_cases cc : ¬ a1 = 2
        · replace h := h.1 cc
          have t3 : aX xc_83 (aSeek xc_83 16) [aR 64, aI a1] [] (SH L) M o := by
            subst h
            exact ⟨3, rfl⟩
          exact aX_seg 3 (fun n g => ip cc (g)) t3
        · replace h := h.2 cc
          have t4 : aX xc_83 (aSeek xc_83 9) [aR 64, aI a1] [] (SH L) M o := by
            subst h
            exact ⟨4, rfl⟩
          exact aX_seg 3 (fun n g => in_ cc (g)) t4
      exact aX_seg 2 (fun n g => in_ cc (g)) t2
  exact q
/- TypeLock.bitOf(JI)I -/
set_option maxRecDepth 100000 in
theorem en_84 {L : Nat} {a0 a2 : Int} {M : aM} {o : aO} (h : o = ([aI (aW (aLand (aLus a0 a2) 1))], (SH L), M)) : aE 84 [aJ a0, aI a2] (SH L) M o := by
  have q : aX xc_84 (aSeek xc_84 0) [aJ a0, aU, aI a2] [] (SH L) M o := by
    subst h
    exact ⟨7, rfl⟩
  exact q
/- TypeLock$Bed.isOnFrame(LTypeLock$Text;II)Z -/
set_option maxRecDepth 100000 in
theorem en_85 {L : Nat} {a0 a1 a2 a3 : Int} {M : aM} {o : aO} (h : ((a3 = 0 → (aK (SH L) a0 = 10) ∧ (0 ≤ a2 ∧ a2 < aLn (SH L) 1 (aF (SH L) a0 4)) ∧ ((¬ (M (aF (SH L) a0 4) a2) = 0 → o = ([aI 0], (SH L), M)) ∧ (¬ (¬ (M (aF (SH L) a0 4) a2) = 0) → o = ([aI 1], (SH L), M)))) ∧ (a3 = 1 → (aK (SH L) a0 = 10) ∧ (0 ≤ a2 ∧ a2 < aLn (SH L) 1 (aF (SH L) a0 3)) ∧ (aK (SH L) a0 = 10) ∧ (0 ≤ a2 ∧ a2 < aLn (SH L) 1 (aF (SH L) a0 5)) ∧ (aK (SH L) a1 = 19) ∧ ((¬ (aW ((M (aF (SH L) a0 3) a2) + (M (aF (SH L) a0 5) a2))) = (M a1 0) → o = ([aI 0], (SH L), M)) ∧ (¬ (¬ (aW ((M (aF (SH L) a0 3) a2) + (M (aF (SH L) a0 5) a2))) = (M a1 0)) → o = ([aI 1], (SH L), M)))) ∧ (a3 = 2 → (aK (SH L) a0 = 10) ∧ (0 ≤ a2 ∧ a2 < aLn (SH L) 1 (aF (SH L) a0 4)) ∧ (aK (SH L) a0 = 10) ∧ (0 ≤ a2 ∧ a2 < aLn (SH L) 1 (aF (SH L) a0 6)) ∧ (aK (SH L) a1 = 19) ∧ ((¬ (aW ((M (aF (SH L) a0 4) a2) + (M (aF (SH L) a0 6) a2))) = (M a1 1) → o = ([aI 0], (SH L), M)) ∧ (¬ (¬ (aW ((M (aF (SH L) a0 4) a2) + (M (aF (SH L) a0 6) a2))) = (M a1 1)) → o = ([aI 1], (SH L), M)))) ∧ (¬ a3 = 0 → ¬ a3 = 1 → ¬ a3 = 2 → (aK (SH L) a0 = 10) ∧ (0 ≤ a2 ∧ a2 < aLn (SH L) 1 (aF (SH L) a0 3)) ∧ ((¬ (M (aF (SH L) a0 3) a2) = 0 → o = ([aI 0], (SH L), M)) ∧ (¬ (¬ (M (aF (SH L) a0 3) a2) = 0) → o = ([aI 1], (SH L), M)))))) : aE 85 [aR a0, aR a1, aI a2, aI a3] (SH L) M o := by
  have q : aX xc_85 (aSeek xc_85 0) [aR a0, aR a1, aI a2, aI a3] [] (SH L) M o := by
    by_cases cc0 : a3 = 0
    · replace h := h.1 cc0
      have ee : aTab 0 2 94 #[27, 42, 68] a3 = 27 := by rw [cc0]; rfl
      have t1 : aX xc_85 (aSeek xc_85 28) [aR a0, aR a1, aI a2, aI a3] [] (SH L) M o := by
        obtain ⟨c2, h⟩ := h
        obtain ⟨c3, h⟩ := h
        by_cases cc : ¬ (M (aF (SH L) a0 4) a2) = 0
        · replace h := h.1 cc
          have t4 : aX xc_85 (aSeek xc_85 41) [aR a0, aR a1, aI a2, aI a3] [] (SH L) M o := by
            subst h
            exact ⟨2, rfl⟩
          exact aX_seg 5 (fun n g => ip c2 (ip c3 (ip cc (g)))) t4
        · replace h := h.2 cc
          have t5 : aX xc_85 (aSeek xc_85 37) [aR a0, aR a1, aI a2, aI a3] [] (SH L) M o := by
            subst h
            exact ⟨3, rfl⟩
          exact aX_seg 5 (fun n g => ip c2 (ip c3 (in_ cc (g)))) t5
      exact aX_seg 2 (fun n g => (congrArg (fun tt => aRun tgT gP n xc_85 (aSeek xc_85 (aTo 1 tt)) [aR a0, aR a1, aI a2, aI a3] [] (SH L) M) ee).trans g) t1
    by_cases cc1 : a3 = 1
    · replace h := h.2.1 cc1
      have ee : aTab 0 2 94 #[27, 42, 68] a3 = 42 := by rw [cc1]; rfl
      have t6 : aX xc_85 (aSeek xc_85 43) [aR a0, aR a1, aI a2, aI a3] [] (SH L) M o := by
        obtain ⟨c7, h⟩ := h
        obtain ⟨c8, h⟩ := h
        obtain ⟨c9, h⟩ := h
        obtain ⟨c10, h⟩ := h
        obtain ⟨c11, h⟩ := h
        by_cases cc : ¬ (aW ((M (aF (SH L) a0 3) a2) + (M (aF (SH L) a0 5) a2))) = (M a1 0)
        · replace h := h.1 cc
          have t12 : aX xc_85 (aSeek xc_85 67) [aR a0, aR a1, aI a2, aI a3] [] (SH L) M o := by
            subst h
            exact ⟨2, rfl⟩
          exact aX_seg 12 (fun n g => ip c7 (ip c8 (ip c9 (ip c10 (ip c11 (ip cc (g))))))) t12
        · replace h := h.2 cc
          have t13 : aX xc_85 (aSeek xc_85 63) [aR a0, aR a1, aI a2, aI a3] [] (SH L) M o := by
            subst h
            exact ⟨3, rfl⟩
          exact aX_seg 12 (fun n g => ip c7 (ip c8 (ip c9 (ip c10 (ip c11 (in_ cc (g))))))) t13
      exact aX_seg 2 (fun n g => (congrArg (fun tt => aRun tgT gP n xc_85 (aSeek xc_85 (aTo 1 tt)) [aR a0, aR a1, aI a2, aI a3] [] (SH L) M) ee).trans g) t6
    by_cases cc2 : a3 = 2
    · replace h := h.2.2.1 cc2
      have ee : aTab 0 2 94 #[27, 42, 68] a3 = 68 := by rw [cc2]; rfl
      have t14 : aX xc_85 (aSeek xc_85 69) [aR a0, aR a1, aI a2, aI a3] [] (SH L) M o := by
        obtain ⟨c15, h⟩ := h
        obtain ⟨c16, h⟩ := h
        obtain ⟨c17, h⟩ := h
        obtain ⟨c18, h⟩ := h
        obtain ⟨c19, h⟩ := h
        by_cases cc : ¬ (aW ((M (aF (SH L) a0 4) a2) + (M (aF (SH L) a0 6) a2))) = (M a1 1)
        · replace h := h.1 cc
          have t20 : aX xc_85 (aSeek xc_85 93) [aR a0, aR a1, aI a2, aI a3] [] (SH L) M o := by
            subst h
            exact ⟨2, rfl⟩
          exact aX_seg 12 (fun n g => ip c15 (ip c16 (ip c17 (ip c18 (ip c19 (ip cc (g))))))) t20
        · replace h := h.2 cc
          have t21 : aX xc_85 (aSeek xc_85 89) [aR a0, aR a1, aI a2, aI a3] [] (SH L) M o := by
            subst h
            exact ⟨3, rfl⟩
          exact aX_seg 12 (fun n g => ip c15 (ip c16 (ip c17 (ip c18 (ip c19 (in_ cc (g))))))) t21
      exact aX_seg 2 (fun n g => (congrArg (fun tt => aRun tgT gP n xc_85 (aSeek xc_85 (aTo 1 tt)) [aR a0, aR a1, aI a2, aI a3] [] (SH L) M) ee).trans g) t14
    replace h := h.2.2.2 cc0 cc1 cc2
    have ee : aTab 0 2 94 #[27, 42, 68] a3 = 94 := by unfold aTab; rw [if_pos (by omega)]
    have t22 : aX xc_85 (aSeek xc_85 95) [aR a0, aR a1, aI a2, aI a3] [] (SH L) M o := by
      obtain ⟨c23, h⟩ := h
      obtain ⟨c24, h⟩ := h
      by_cases cc : ¬ (M (aF (SH L) a0 3) a2) = 0
      · replace h := h.1 cc
        have t25 : aX xc_85 (aSeek xc_85 108) [aR a0, aR a1, aI a2, aI a3] [] (SH L) M o := by
          subst h
          exact ⟨2, rfl⟩
        exact aX_seg 5 (fun n g => ip c23 (ip c24 (ip cc (g)))) t25
      · replace h := h.2 cc
        have t26 : aX xc_85 (aSeek xc_85 104) [aR a0, aR a1, aI a2, aI a3] [] (SH L) M o := by
          subst h
          exact ⟨3, rfl⟩
        exact aX_seg 5 (fun n g => ip c23 (ip c24 (in_ cc (g)))) t26
    exact aX_seg 2 (fun n g => (congrArg (fun tt => aRun tgT gP n xc_85 (aSeek xc_85 (aTo 1 tt)) [aR a0, aR a1, aI a2, aI a3] [] (SH L) M) ee).trans g) t22
  exact q
/- java/lang/Long.bitCount(J)I -/
set_option maxRecDepth 100000 in
theorem en_86 {L : Nat} {a0 : Int} {M : aM} {o : aO} (h : o = ([aI (aAnd (aW (aWL ((aWL ((aWL ((aLand (aWL ((aWL ((aLand (aWL (a0 - (aLand (aLus a0 1) 6148914691236517205))) 3689348814741910323) + (aLand (aLus (aWL (a0 - (aLand (aLus a0 1) 6148914691236517205))) 2) 3689348814741910323))) + (aLus (aWL ((aLand (aWL (a0 - (aLand (aLus a0 1) 6148914691236517205))) 3689348814741910323) + (aLand (aLus (aWL (a0 - (aLand (aLus a0 1) 6148914691236517205))) 2) 3689348814741910323))) 4))) 1085102592571150095) + (aLus (aLand (aWL ((aWL ((aLand (aWL (a0 - (aLand (aLus a0 1) 6148914691236517205))) 3689348814741910323) + (aLand (aLus (aWL (a0 - (aLand (aLus a0 1) 6148914691236517205))) 2) 3689348814741910323))) + (aLus (aWL ((aLand (aWL (a0 - (aLand (aLus a0 1) 6148914691236517205))) 3689348814741910323) + (aLand (aLus (aWL (a0 - (aLand (aLus a0 1) 6148914691236517205))) 2) 3689348814741910323))) 4))) 1085102592571150095) 8))) + (aLus (aWL ((aLand (aWL ((aWL ((aLand (aWL (a0 - (aLand (aLus a0 1) 6148914691236517205))) 3689348814741910323) + (aLand (aLus (aWL (a0 - (aLand (aLus a0 1) 6148914691236517205))) 2) 3689348814741910323))) + (aLus (aWL ((aLand (aWL (a0 - (aLand (aLus a0 1) 6148914691236517205))) 3689348814741910323) + (aLand (aLus (aWL (a0 - (aLand (aLus a0 1) 6148914691236517205))) 2) 3689348814741910323))) 4))) 1085102592571150095) + (aLus (aLand (aWL ((aWL ((aLand (aWL (a0 - (aLand (aLus a0 1) 6148914691236517205))) 3689348814741910323) + (aLand (aLus (aWL (a0 - (aLand (aLus a0 1) 6148914691236517205))) 2) 3689348814741910323))) + (aLus (aWL ((aLand (aWL (a0 - (aLand (aLus a0 1) 6148914691236517205))) 3689348814741910323) + (aLand (aLus (aWL (a0 - (aLand (aLus a0 1) 6148914691236517205))) 2) 3689348814741910323))) 4))) 1085102592571150095) 8))) 16))) + (aLus (aWL ((aWL ((aLand (aWL ((aWL ((aLand (aWL (a0 - (aLand (aLus a0 1) 6148914691236517205))) 3689348814741910323) + (aLand (aLus (aWL (a0 - (aLand (aLus a0 1) 6148914691236517205))) 2) 3689348814741910323))) + (aLus (aWL ((aLand (aWL (a0 - (aLand (aLus a0 1) 6148914691236517205))) 3689348814741910323) + (aLand (aLus (aWL (a0 - (aLand (aLus a0 1) 6148914691236517205))) 2) 3689348814741910323))) 4))) 1085102592571150095) + (aLus (aLand (aWL ((aWL ((aLand (aWL (a0 - (aLand (aLus a0 1) 6148914691236517205))) 3689348814741910323) + (aLand (aLus (aWL (a0 - (aLand (aLus a0 1) 6148914691236517205))) 2) 3689348814741910323))) + (aLus (aWL ((aLand (aWL (a0 - (aLand (aLus a0 1) 6148914691236517205))) 3689348814741910323) + (aLand (aLus (aWL (a0 - (aLand (aLus a0 1) 6148914691236517205))) 2) 3689348814741910323))) 4))) 1085102592571150095) 8))) + (aLus (aWL ((aLand (aWL ((aWL ((aLand (aWL (a0 - (aLand (aLus a0 1) 6148914691236517205))) 3689348814741910323) + (aLand (aLus (aWL (a0 - (aLand (aLus a0 1) 6148914691236517205))) 2) 3689348814741910323))) + (aLus (aWL ((aLand (aWL (a0 - (aLand (aLus a0 1) 6148914691236517205))) 3689348814741910323) + (aLand (aLus (aWL (a0 - (aLand (aLus a0 1) 6148914691236517205))) 2) 3689348814741910323))) 4))) 1085102592571150095) + (aLus (aLand (aWL ((aWL ((aLand (aWL (a0 - (aLand (aLus a0 1) 6148914691236517205))) 3689348814741910323) + (aLand (aLus (aWL (a0 - (aLand (aLus a0 1) 6148914691236517205))) 2) 3689348814741910323))) + (aLus (aWL ((aLand (aWL (a0 - (aLand (aLus a0 1) 6148914691236517205))) 3689348814741910323) + (aLand (aLus (aWL (a0 - (aLand (aLus a0 1) 6148914691236517205))) 2) 3689348814741910323))) 4))) 1085102592571150095) 8))) 16))) 32)))) 127)], (SH L), M)) : aE 86 [aJ a0] (SH L) M o := by
  have q : aX xc_86 (aSeek xc_86 0) [aJ a0, aU] [] (SH L) M o := by
    subst h
    exact ⟨49, rfl⟩
  exact q
/- TypeLock$Bed.frameContact(LTypeLock$Text;IIJ)I -/
set_option maxRecDepth 100000 in
theorem en_87 {L : Nat} {a0 a1 a2 a3 a4 : Int} {M : aM} {o : aO} (h : (aK (SH L) a0 = 10 ∧ ∃ (M1 : aM) (v2 : Int), aE 85 [aR a0, aR a1, aI a2, aI a3] (SH L) M ([aI v2], (SH L), M1) ∧ ((¬ v2 = 0 → ((a3 = 0 → aX xc_87 (aSeek xc_87 21) [aR a0, aU, aI a2, aU, aJ a4, aU, aU, aU, aU] [] (SH L) M1 o) ∧ (¬ (a3 = 0) → ((¬ a3 = 2 → (aK (SH L) a0 = 10) ∧ (0 ≤ a2 ∧ a2 < aLn (SH L) 1 (aF (SH L) a0 4)) ∧ (aK (SH L) a0 = 10) ∧ (0 ≤ a2 ∧ a2 < aLn (SH L) 1 (aF (SH L) a0 4)) ∧ (aK (SH L) a0 = 10) ∧ (0 ≤ a2 ∧ a2 < aLn (SH L) 1 (aF (SH L) a0 6)) ∧ (∃ (M3 : aM) (v4 : Int), aE 37 [aI (M1 (aF (SH L) a0 4) a2), aI (aW ((M1 (aF (SH L) a0 4) a2) + (M1 (aF (SH L) a0 6) a2)))] (SH L) M1 ([aJ v4], (SH L), M3) ∧ aX xc_87 (aSeek xc_87 68) [aR a0, aU, aI a2, aU, aJ a4, aU, aU, aU, aU] [aJ v4] (SH L) M3 o)) ∧ (¬ (¬ a3 = 2) → aX xc_87 (aSeek xc_87 21) [aR a0, aU, aI a2, aU, aJ a4, aU, aU, aU, aU] [] (SH L) M1 o))))) ∧ (¬ (¬ v2 = 0) → o = ([aI 0], (SH L), M1))))) : aE 87 [aR a0, aR a1, aI a2, aI a3, aJ a4] (SH L) M o := by
  have q : aX xc_87 (aSeek xc_87 0) [aR a0, aR a1, aI a2, aI a3, aJ a4, aU, aU, aU, aU] [] (SH L) M o := by
    obtain ⟨c5, h⟩ := h
    obtain ⟨M1, v2, k6, h⟩ := h
    have h2 : aX xc_87 (aSeek xc_87 7) [aR a0, aR a1, aI a2, aI a3, aJ a4, aU, aU, aU, aU] [aI v2] (SH L) M1 o := by
      by_cases cc : ¬ v2 = 0
      · replace h := h.1 cc
        have t7 : aX xc_87 (aSeek xc_87 12) [aR a0, aR a1, aI a2, aI a3, aJ a4, aU, aU, aU, aU] [] (SH L) M1 o := by
          by_cases cc : a3 = 0
          · replace h := h.1 cc
            have t8 : aX xc_87 (aSeek xc_87 21) [aR a0, aR a1, aI a2, aI a3, aJ a4, aU, aU, aU, aU] [] (SH L) M1 o := by
              exact aX_le (ls := [aR a0, aU, aI a2, aU, aJ a4, aU, aU, aU, aU]) (ls1 := [aR a0, aR a1, aI a2, aI a3, aJ a4, aU, aU, aU, aU]) (⟨Or.inr rfl, ⟨Or.inl rfl, ⟨Or.inr rfl, ⟨Or.inl rfl, ⟨Or.inr rfl, ⟨Or.inl rfl, ⟨Or.inl rfl, ⟨Or.inl rfl, ⟨Or.inl rfl, trivial⟩⟩⟩⟩⟩⟩⟩⟩⟩) h
            exact aX_seg 2 (fun n g => ip cc (g)) t8
          · replace h := h.2 cc
            have t9 : aX xc_87 (aSeek xc_87 16) [aR a0, aR a1, aI a2, aI a3, aJ a4, aU, aU, aU, aU] [] (SH L) M1 o := by
              by_cases cc : ¬ a3 = 2
              · replace h := h.1 cc
                have t10 : aX xc_87 (aSeek xc_87 46) [aR a0, aR a1, aI a2, aI a3, aJ a4, aU, aU, aU, aU] [] (SH L) M1 o := by
                  obtain ⟨c11, h⟩ := h
                  obtain ⟨c12, h⟩ := h
                  obtain ⟨c13, h⟩ := h
                  obtain ⟨c14, h⟩ := h
                  obtain ⟨c15, h⟩ := h
                  obtain ⟨c16, h⟩ := h
                  obtain ⟨M3, v4, k17, h⟩ := h
                  have h2 : aX xc_87 (aSeek xc_87 68) [aR a0, aR a1, aI a2, aI a3, aJ a4, aU, aU, aU, aU] [aJ v4] (SH L) M3 o := by
                    exact aX_le (ls := [aR a0, aU, aI a2, aU, aJ a4, aU, aU, aU, aU]) (ls1 := [aR a0, aR a1, aI a2, aI a3, aJ a4, aU, aU, aU, aU]) (⟨Or.inr rfl, ⟨Or.inl rfl, ⟨Or.inr rfl, ⟨Or.inl rfl, ⟨Or.inr rfl, ⟨Or.inl rfl, ⟨Or.inl rfl, ⟨Or.inl rfl, ⟨Or.inl rfl, trivial⟩⟩⟩⟩⟩⟩⟩⟩⟩) h
                  exact aX_seg 13 (fun n g => ip c11 (ip c12 (ip c13 (ip c14 (ip c15 (ip c16 (g))))))) (aX_calls rfl rfl rfl k17 h2)
                exact aX_seg 3 (fun n g => ip cc (g)) t10
              · replace h := h.2 cc
                have t18 : aX xc_87 (aSeek xc_87 21) [aR a0, aR a1, aI a2, aI a3, aJ a4, aU, aU, aU, aU] [] (SH L) M1 o := by
                  exact aX_le (ls := [aR a0, aU, aI a2, aU, aJ a4, aU, aU, aU, aU]) (ls1 := [aR a0, aR a1, aI a2, aI a3, aJ a4, aU, aU, aU, aU]) (⟨Or.inr rfl, ⟨Or.inl rfl, ⟨Or.inr rfl, ⟨Or.inl rfl, ⟨Or.inr rfl, ⟨Or.inl rfl, ⟨Or.inl rfl, ⟨Or.inl rfl, ⟨Or.inl rfl, trivial⟩⟩⟩⟩⟩⟩⟩⟩⟩) h
                exact aX_seg 3 (fun n g => in_ cc (g)) t18
            exact aX_seg 2 (fun n g => in_ cc (g)) t9
        exact aX_seg 1 (fun n g => ip cc (g)) t7
      · replace h := h.2 cc
        have t19 : aX xc_87 (aSeek xc_87 10) [aR a0, aR a1, aI a2, aI a3, aJ a4, aU, aU, aU, aU] [] (SH L) M1 o := by
          subst h
          exact ⟨2, rfl⟩
        exact aX_seg 1 (fun n g => in_ cc (g)) t19
    exact aX_seg 4 (fun n g => g) (aX_callv (c5) rfl rfl rfl k6 h2)
  exact q
set_option maxRecDepth 100000 in
theorem bl_87_21 {L : Nat} {a0 a2 a4 : Int} {M : aM} {o : aO} (h : (aK (SH L) a0 = 10) ∧ (0 ≤ a2 ∧ a2 < aLn (SH L) 1 (aF (SH L) a0 3)) ∧ (aK (SH L) a0 = 10) ∧ (0 ≤ a2 ∧ a2 < aLn (SH L) 1 (aF (SH L) a0 3)) ∧ (aK (SH L) a0 = 10) ∧ (0 ≤ a2 ∧ a2 < aLn (SH L) 1 (aF (SH L) a0 5)) ∧ (∃ (M1 : aM) (v2 : Int), aE 37 [aI (M (aF (SH L) a0 3) a2), aI (aW ((M (aF (SH L) a0 3) a2) + (M (aF (SH L) a0 5) a2)))] (SH L) M ([aJ v2], (SH L), M1) ∧ aX xc_87 (aSeek xc_87 68) [aR a0, aU, aI a2, aU, aJ a4, aU, aU, aU, aU] [aJ v2] (SH L) M1 o)) : aX xc_87 (aSeek xc_87 21) [aR a0, aU, aI a2, aU, aJ a4, aU, aU, aU, aU] [] (SH L) M o := by
  obtain ⟨c3, h⟩ := h
  obtain ⟨c4, h⟩ := h
  obtain ⟨c5, h⟩ := h
  obtain ⟨c6, h⟩ := h
  obtain ⟨c7, h⟩ := h
  obtain ⟨c8, h⟩ := h
  obtain ⟨M1, v2, k9, h⟩ := h
  have h2 : aX xc_87 (aSeek xc_87 43) [aR a0, aU, aI a2, aU, aJ a4, aU, aU, aU, aU] [aJ v2] (SH L) M1 o := by
    exact aX_seg 1 (fun n g => g) (h)
  exact aX_seg 13 (fun n g => ip c3 (ip c4 (ip c5 (ip c6 (ip c7 (ip c8 (g))))))) (aX_calls rfl rfl rfl k9 h2)
set_option maxRecDepth 100000 in
theorem bl_87_68 {L : Nat} {a0 a2 a4 b0 : Int} {M : aM} {o : aO} (h : (∃ (M1 : aM) (v2 : Int), aE 86 [aJ (aLand b0 a4)] (SH L) M ([aI v2], (SH L), M1) ∧ (aK (SH L) a0 = 10) ∧ (0 ≤ a2 ∧ a2 < aLn (SH L) 1 (aF (SH L) a0 2)) ∧ ((¬ (M1 (aF (SH L) a0 2) a2) = 2 → o = ([aI v2], (SH L), M1)) ∧ (¬ (¬ (M1 (aF (SH L) a0 2) a2) = 2) → o = ([aI (aDiv v2 2)], (SH L), M1))))) : aX xc_87 (aSeek xc_87 68) [aR a0, aU, aI a2, aU, aJ a4, aU, aU, aU, aU] [aJ b0] (SH L) M o := by
  obtain ⟨M1, v2, k3, h⟩ := h
  have h2 : aX xc_87 (aSeek xc_87 78) [aR a0, aU, aI a2, aU, aJ a4, aU, aJ b0, aU, aU] [aI v2] (SH L) M1 o := by
    obtain ⟨c4, h⟩ := h
    obtain ⟨c5, h⟩ := h
    by_cases cc : ¬ (M1 (aF (SH L) a0 2) a2) = 2
    · replace h := h.1 cc
      have t6 : aX xc_87 (aSeek xc_87 97) [aR a0, aU, aI a2, aU, aJ a4, aU, aJ b0, aU, aI v2] [] (SH L) M1 o := by
        subst h
        exact ⟨2, rfl⟩
      exact aX_seg 7 (fun n g => ip c4 (ip c5 (ip cc (g)))) t6
    · replace h := h.2 cc
      have t7 : aX xc_87 (aSeek xc_87 90) [aR a0, aU, aI a2, aU, aJ a4, aU, aJ b0, aU, aI v2] [] (SH L) M1 o := by
        subst h
        exact ⟨5, rfl⟩
      exact aX_seg 7 (fun n g => ip c4 (ip c5 (in_ cc (g)))) t7
  exact aX_seg 4 (fun n g => g) (aX_calls rfl rfl rfl k3 h2)
/- TypeLock$Contacts.pairFrom(II)I -/
set_option maxRecDepth 100000 in
theorem en_88 {L : Nat} {a0 a1 a2 : Int} {M : aM} {o : aO} (h : ((a1 = 0 → o = ([aI a2], (SH L), M)) ∧ (¬ (a1 = 0) → ((¬ a1 = 3 → (aK (SH L) a0 = 11) ∧ o = ([aI (aW ((aW ((M a0 0) - 1)) - a2))], (SH L), M)) ∧ (¬ (¬ a1 = 3) → o = ([aI a2], (SH L), M)))))) : aE 88 [aR a0, aI a1, aI a2] (SH L) M o := by
  have q : aX xc_88 (aSeek xc_88 0) [aR a0, aI a1, aI a2] [] (SH L) M o := by
    by_cases cc : a1 = 0
    · replace h := h.1 cc
      have t1 : aX xc_88 (aSeek xc_88 9) [aR a0, aI a1, aI a2] [] (SH L) M o := by
        subst h
        exact ⟨3, rfl⟩
      exact aX_seg 2 (fun n g => ip cc (g)) t1
    · replace h := h.2 cc
      have t2 : aX xc_88 (aSeek xc_88 4) [aR a0, aI a1, aI a2] [] (SH L) M o := by
        by_cases cc : ¬ a1 = 3
        · replace h := h.1 cc
          have t3 : aX xc_88 (aSeek xc_88 13) [aR a0, aI a1, aI a2] [] (SH L) M o := by
            obtain ⟨c4, h⟩ := h
            subst h
            exact ⟨7, ip c4 (rfl)⟩
          exact aX_seg 3 (fun n g => ip cc (g)) t3
        · replace h := h.2 cc
          have t5 : aX xc_88 (aSeek xc_88 9) [aR a0, aI a1, aI a2] [] (SH L) M o := by
            subst h
            exact ⟨3, rfl⟩
          exact aX_seg 3 (fun n g => in_ cc (g)) t5
      exact aX_seg 2 (fun n g => in_ cc (g)) t2
  exact q
/- TypeLock$Contacts.nearer(II)I -/
set_option maxRecDepth 100000 in
theorem en_89 {L : Nat} {a0 a1 a2 : Int} {M : aM} {o : aO} (h : ((a1 = 0 → (aK (SH L) a0 = 11) ∧ (0 ≤ a2 ∧ a2 < aLn (SH L) 1 (aF (SH L) a0 1)) ∧ o = ([aI (M (aF (SH L) a0 1) a2)], (SH L), M)) ∧ (¬ (a1 = 0) → ((¬ a1 = 3 → (aK (SH L) a0 = 11) ∧ (0 ≤ a2 ∧ a2 < aLn (SH L) 1 (aF (SH L) a0 2)) ∧ o = ([aI (M (aF (SH L) a0 2) a2)], (SH L), M)) ∧ (¬ (¬ a1 = 3) → (aK (SH L) a0 = 11) ∧ (0 ≤ a2 ∧ a2 < aLn (SH L) 1 (aF (SH L) a0 1)) ∧ o = ([aI (M (aF (SH L) a0 1) a2)], (SH L), M)))))) : aE 89 [aR a0, aI a1, aI a2] (SH L) M o := by
  have q : aX xc_89 (aSeek xc_89 0) [aR a0, aI a1, aI a2] [] (SH L) M o := by
    by_cases cc : a1 = 0
    · replace h := h.1 cc
      have t1 : aX xc_89 (aSeek xc_89 9) [aR a0, aI a1, aI a2] [] (SH L) M o := by
        obtain ⟨c2, h⟩ := h
        obtain ⟨c3, h⟩ := h
        subst h
        exact ⟨6, ip c2 (ip c3 (rfl))⟩
      exact aX_seg 2 (fun n g => ip cc (g)) t1
    · replace h := h.2 cc
      have t4 : aX xc_89 (aSeek xc_89 4) [aR a0, aI a1, aI a2] [] (SH L) M o := by
        by_cases cc : ¬ a1 = 3
        · replace h := h.1 cc
          have t5 : aX xc_89 (aSeek xc_89 18) [aR a0, aI a1, aI a2] [] (SH L) M o := by
            obtain ⟨c6, h⟩ := h
            obtain ⟨c7, h⟩ := h
            subst h
            exact ⟨5, ip c6 (ip c7 (rfl))⟩
          exact aX_seg 3 (fun n g => ip cc (g)) t5
        · replace h := h.2 cc
          have t8 : aX xc_89 (aSeek xc_89 9) [aR a0, aI a1, aI a2] [] (SH L) M o := by
            obtain ⟨c9, h⟩ := h
            obtain ⟨c10, h⟩ := h
            subst h
            exact ⟨6, ip c9 (ip c10 (rfl))⟩
          exact aX_seg 3 (fun n g => in_ cc (g)) t8
      exact aX_seg 2 (fun n g => in_ cc (g)) t4
  exact q
/- TypeLock$Pushes.isEnough(II)Z -/
set_option maxRecDepth 100000 in
theorem en_90 {L : Nat} {a1 a2 : Int} {M : aM} {o : aO} (h : (aK (SH L) (M 64 4) = 19) ∧ (((aW (100 * a1)) < (aW ((M (M 64 4) 2) * a2)) → o = ([aI 0], (SH L), M)) ∧ (¬ ((aW (100 * a1)) < (aW ((M (M 64 4) 2) * a2))) → o = ([aI 1], (SH L), M)))) : aE 90 [aR 64, aI a1, aI a2] (SH L) M o := by
  have q : aX xc_90 (aSeek xc_90 0) [aR 64, aI a1, aI a2] [] (SH L) M o := by
    obtain ⟨c1, h⟩ := h
    by_cases cc : (aW (100 * a1)) < (aW ((M (M 64 4) 2) * a2))
    · replace h := h.1 cc
      have t2 : aX xc_90 (aSeek xc_90 20) [aR 64, aI a1, aI a2] [] (SH L) M o := by
        subst h
        exact ⟨2, rfl⟩
      exact aX_seg 9 (fun n g => ip c1 (ip cc (g))) t2
    · replace h := h.2 cc
      have t3 : aX xc_90 (aSeek xc_90 16) [aR 64, aI a1, aI a2] [] (SH L) M o := by
        subst h
        exact ⟨3, rfl⟩
      exact aX_seg 9 (fun n g => ip c1 (in_ cc (g))) t3
  exact q
/- TypeLock$Contacts.farther(II)I -/
set_option maxRecDepth 100000 in
theorem en_91 {L : Nat} {a0 a1 a2 : Int} {M : aM} {o : aO} (h : ((a1 = 0 → (aK (SH L) a0 = 11) ∧ (0 ≤ a2 ∧ a2 < aLn (SH L) 1 (aF (SH L) a0 2)) ∧ o = ([aI (M (aF (SH L) a0 2) a2)], (SH L), M)) ∧ (¬ (a1 = 0) → ((¬ a1 = 3 → (aK (SH L) a0 = 11) ∧ (0 ≤ a2 ∧ a2 < aLn (SH L) 1 (aF (SH L) a0 1)) ∧ o = ([aI (M (aF (SH L) a0 1) a2)], (SH L), M)) ∧ (¬ (¬ a1 = 3) → (aK (SH L) a0 = 11) ∧ (0 ≤ a2 ∧ a2 < aLn (SH L) 1 (aF (SH L) a0 2)) ∧ o = ([aI (M (aF (SH L) a0 2) a2)], (SH L), M)))))) : aE 91 [aR a0, aI a1, aI a2] (SH L) M o := by
  have q : aX xc_91 (aSeek xc_91 0) [aR a0, aI a1, aI a2] [] (SH L) M o := by
    by_cases cc : a1 = 0
    · replace h := h.1 cc
      have t1 : aX xc_91 (aSeek xc_91 9) [aR a0, aI a1, aI a2] [] (SH L) M o := by
        obtain ⟨c2, h⟩ := h
        obtain ⟨c3, h⟩ := h
        subst h
        exact ⟨6, ip c2 (ip c3 (rfl))⟩
      exact aX_seg 2 (fun n g => ip cc (g)) t1
    · replace h := h.2 cc
      have t4 : aX xc_91 (aSeek xc_91 4) [aR a0, aI a1, aI a2] [] (SH L) M o := by
        by_cases cc : ¬ a1 = 3
        · replace h := h.1 cc
          have t5 : aX xc_91 (aSeek xc_91 18) [aR a0, aI a1, aI a2] [] (SH L) M o := by
            obtain ⟨c6, h⟩ := h
            obtain ⟨c7, h⟩ := h
            subst h
            exact ⟨5, ip c6 (ip c7 (rfl))⟩
          exact aX_seg 3 (fun n g => ip cc (g)) t5
        · replace h := h.2 cc
          have t8 : aX xc_91 (aSeek xc_91 9) [aR a0, aI a1, aI a2] [] (SH L) M o := by
            obtain ⟨c9, h⟩ := h
            obtain ⟨c10, h⟩ := h
            subst h
            exact ⟨6, ip c9 (ip c10 (rfl))⟩
          exact aX_seg 3 (fun n g => in_ cc (g)) t8
      exact aX_seg 2 (fun n g => in_ cc (g)) t4
  exact q
/- TypeLock$Pushes.spread(IJJ)J -/
set_option maxRecDepth 100000 in
theorem en_92 {L : Nat} {a1 a2 a4 : Int} {M : aM} {o : aO} (h : (∃ (M1 : aM) (v2 : Int), aE 83 [aR 64, aI a1] (SH L) M ([aR v2], (SH L), M1) ∧ ((a1 = 0 → aX xc_92 (aSeek xc_92 16) [aR 64, aI a1, aJ a2, aU, aJ a4, aU, aR v2, aU, aU, aU, aU] [] (SH L) M1 o) ∧ (¬ (a1 = 0) → ((¬ a1 = 2 → (aK (SH L) (M1 64 5) = 10) ∧ aX xc_92 (aSeek xc_92 33) [aR 64, aI a1, aJ a2, aU, aJ a4, aU, aR v2, aU, aU, aU, aU] [aR (aF (SH L) (M1 64 5) 6)] (SH L) M1 o) ∧ (¬ (¬ a1 = 2) → aX xc_92 (aSeek xc_92 16) [aR 64, aI a1, aJ a2, aU, aJ a4, aU, aR v2, aU, aU, aU, aU] [] (SH L) M1 o)))))) : aE 92 [aR 64, aI a1, aJ a2, aJ a4] (SH L) M o := by
  have q : aX xc_92 (aSeek xc_92 0) [aR 64, aI a1, aJ a2, aU, aJ a4, aU, aU, aU, aU, aU, aU] [] (SH L) M o := by
    obtain ⟨M1, v2, k3, h⟩ := h
    have h2 : aX xc_92 (aSeek xc_92 5) [aR 64, aI a1, aJ a2, aU, aJ a4, aU, aU, aU, aU, aU, aU] [aR v2] (SH L) M1 o := by
      by_cases cc : a1 = 0
      · replace h := h.1 cc
        have t4 : aX xc_92 (aSeek xc_92 16) [aR 64, aI a1, aJ a2, aU, aJ a4, aU, aR v2, aU, aU, aU, aU] [] (SH L) M1 o := by
          exact h
        exact aX_seg 3 (fun n g => ip cc (g)) t4
      · replace h := h.2 cc
        have t5 : aX xc_92 (aSeek xc_92 11) [aR 64, aI a1, aJ a2, aU, aJ a4, aU, aR v2, aU, aU, aU, aU] [] (SH L) M1 o := by
          by_cases cc : ¬ a1 = 2
          · replace h := h.1 cc
            have t6 : aX xc_92 (aSeek xc_92 26) [aR 64, aI a1, aJ a2, aU, aJ a4, aU, aR v2, aU, aU, aU, aU] [] (SH L) M1 o := by
              obtain ⟨c7, h⟩ := h
              exact aX_seg 3 (fun n g => ip c7 (g)) (h)
            exact aX_seg 3 (fun n g => ip cc (g)) t6
          · replace h := h.2 cc
            have t8 : aX xc_92 (aSeek xc_92 16) [aR 64, aI a1, aJ a2, aU, aJ a4, aU, aR v2, aU, aU, aU, aU] [] (SH L) M1 o := by
              exact h
            exact aX_seg 3 (fun n g => in_ cc (g)) t8
        exact aX_seg 3 (fun n g => in_ cc (g)) t5
    exact aX_seg 2 (fun n g => g) (aX_callv (rfl) rfl rfl rfl k3 h2)
  exact q
set_option maxRecDepth 100000 in
theorem bl_92_16 {L : Nat} {a1 a2 a4 a6 : Int} {M : aM} {o : aO} (h : (aK (SH L) (M 64 5) = 10) ∧ aX xc_92 (aSeek xc_92 33) [aR 64, aI a1, aJ a2, aU, aJ a4, aU, aR a6, aU, aU, aU, aU] [aR (aF (SH L) (M 64 5) 5)] (SH L) M o) : aX xc_92 (aSeek xc_92 16) [aR 64, aI a1, aJ a2, aU, aJ a4, aU, aR a6, aU, aU, aU, aU] [] (SH L) M o := by
  obtain ⟨c1, h⟩ := h
  exact aX_seg 4 (fun n g => ip c1 (g)) (h)
set_option maxRecDepth 100000 in
theorem bl_92_33 {L : Nat} {a1 a2 a4 a6 b0 : Int} {M : aM} {o : aO} (h : aX xc_92 (aSeek xc_92 38) [aR 64, aI a1, aJ a2, aU, aJ a4, aU, aR a6, aR b0, aI 0, aU, aU] [] (SH L) M o) : aX xc_92 (aSeek xc_92 33) [aR 64, aI a1, aJ a2, aU, aJ a4, aU, aR a6, aU, aU, aU, aU] [aR b0] (SH L) M o := by
  exact aX_seg 3 (fun n g => g) (h)
set_option maxRecDepth 100000 in
theorem bl_92_38 {L : Nat} {a1 a2 a4 a6 a7 a8 : Int} {M : aM} {o : aO} (h : (aK (SH L) (M 64 5) = 10) ∧ (((M (M 64 5) 0) ≤ a8 → aX xc_92 (aSeek xc_92 96) [aR 64, aI a1, aJ a2, aU, aU, aU, aR a6, aR a7, aI 0, aU, aU] [] (SH L) M o) ∧ (¬ ((M (M 64 5) 0) ≤ a8) → (∃ (M1 : aM) (v2 : Int), aE 84 [aJ a2, aI a8] (SH L) M ([aI v2], (SH L), M1) ∧ ((¬ v2 = 1 → aX xc_92 (aSeek xc_92 86) [aR 64, aI a1, aJ a2, aU, aJ a4, aU, aR a6, aR a7, aI a8, aU, aU] [aI 0, aI a8, aR 77] (SH L) M1 o) ∧ (¬ (¬ v2 = 1) → (aK (SH L) (M1 64 5) = 10 ∧ ∃ (M3 : aM) (v4 : Int), aE 87 [aR (M1 64 5), aR (M1 64 4), aI a8, aI a1, aJ a4] (SH L) M1 ([aI v4], (SH L), M3) ∧ aX xc_92 (aSeek xc_92 86) [aR 64, aI a1, aJ a2, aU, aJ a4, aU, aR a6, aR a7, aI a8, aU, aU] [aI v4, aI a8, aR 77] (SH L) M3 o))))))) : aX xc_92 (aSeek xc_92 38) [aR 64, aI a1, aJ a2, aU, aJ a4, aU, aR a6, aR a7, aI a8, aU, aU] [] (SH L) M o := by
  obtain ⟨c5, h⟩ := h
  by_cases cc : (M (M 64 5) 0) ≤ a8
  · replace h := h.1 cc
    have t6 : aX xc_92 (aSeek xc_92 93) [aR 64, aI a1, aJ a2, aU, aJ a4, aU, aR a6, aR a7, aI a8, aU, aU] [] (SH L) M o := by
      exact aX_seg 2 (fun n g => g) (aX_le (ls := [aR 64, aI a1, aJ a2, aU, aU, aU, aR a6, aR a7, aI 0, aU, aU]) (ls1 := [aR 64, aI a1, aJ a2, aU, aJ a4, aU, aR a6, aR a7, aI 0, aU, aU]) (⟨Or.inr rfl, ⟨Or.inr rfl, ⟨Or.inr rfl, ⟨Or.inl rfl, ⟨Or.inl rfl, ⟨Or.inl rfl, ⟨Or.inr rfl, ⟨Or.inr rfl, ⟨Or.inr rfl, ⟨Or.inl rfl, ⟨Or.inl rfl, trivial⟩⟩⟩⟩⟩⟩⟩⟩⟩⟩⟩) h)
    exact aX_seg 5 (fun n g => ip c5 (ip cc (g))) t6
  · replace h := h.2 cc
    have t7 : aX xc_92 (aSeek xc_92 50) [aR 64, aI a1, aJ a2, aU, aJ a4, aU, aR a6, aR a7, aI a8, aU, aU] [] (SH L) M o := by
      obtain ⟨M1, v2, k8, h⟩ := h
      have h2 : aX xc_92 (aSeek xc_92 62) [aR 64, aI a1, aJ a2, aU, aJ a4, aU, aR a6, aR a7, aI a8, aU, aU] [aI v2, aI a8, aR 77] (SH L) M1 o := by
        by_cases cc : ¬ v2 = 1
        · replace h := h.1 cc
          have t9 : aX xc_92 (aSeek xc_92 85) [aR 64, aI a1, aJ a2, aU, aJ a4, aU, aR a6, aR a7, aI a8, aU, aU] [aI a8, aR 77] (SH L) M1 o := by
            exact aX_seg 1 (fun n g => g) (h)
          exact aX_seg 2 (fun n g => ip cc (g)) t9
        · replace h := h.2 cc
          have t10 : aX xc_92 (aSeek xc_92 66) [aR 64, aI a1, aJ a2, aU, aJ a4, aU, aR a6, aR a7, aI a8, aU, aU] [aI a8, aR 77] (SH L) M1 o := by
            obtain ⟨c11, h⟩ := h
            obtain ⟨M3, v4, k12, h⟩ := h
            have h2 : aX xc_92 (aSeek xc_92 82) [aR 64, aI a1, aJ a2, aU, aJ a4, aU, aR a6, aR a7, aI a8, aU, aU] [aI v4, aI a8, aR 77] (SH L) M3 o := by
              exact aX_seg 1 (fun n g => g) (h)
            exact aX_seg 7 (fun n g => g) (aX_callv (c11) rfl rfl rfl k12 h2)
          exact aX_seg 2 (fun n g => in_ cc (g)) t10
      exact aX_seg 5 (fun n g => g) (aX_calls rfl rfl rfl k8 h2)
    exact aX_seg 5 (fun n g => ip c5 (in_ cc (g))) t7
set_option maxRecDepth 100000 in
theorem bl_92_86 {L : Nat} {a1 a2 a4 a6 a7 a8 b0 b1 b2 : Int} {M : aM} {o : aO} (h : (0 ≤ b1 ∧ b1 < aLn (SH L) 1 b0) ∧ aX xc_92 (aSeek xc_92 38) [aR 64, aI a1, aJ a2, aU, aJ a4, aU, aR a6, aR a7, aI (aW (a8 + 1)), aU, aU] [] (SH L) (aSet M b0 b1 b2) o) : aX xc_92 (aSeek xc_92 86) [aR 64, aI a1, aJ a2, aU, aJ a4, aU, aR a6, aR a7, aI a8, aU, aU] [aI b2, aI b1, aR b0] (SH L) M o := by
  obtain ⟨c1, h⟩ := h
  exact aX_seg 3 (fun n g => ip c1 (g)) (h)
set_option maxRecDepth 100000 in
theorem bl_92_96 {L : Nat} {a1 a2 a6 a7 a8 : Int} {M : aM} {o : aO} (h : (aK (SH L) a6 = 11) ∧ (((M a6 0) ≤ a8 → aX xc_92 (aSeek xc_92 191) [aR 64, aU, aJ a2, aU, aU, aU, aU, aR a7, aJ 0, aU, aI 0] [] (SH L) M o) ∧ (¬ ((M a6 0) ≤ a8) → (aK (SH L) a6 = 11 ∧ ∃ (M1 : aM) (v2 : Int), aE 88 [aR a6, aI a1, aI a8] (SH L) M ([aI v2], (SH L), M1) ∧ (aK (SH L) a6 = 11 ∧ ∃ (M3 : aM) (v4 : Int), aE 89 [aR a6, aI a1, aI v2] (SH L) M1 ([aI v4], (SH L), M3) ∧ (∃ (M5 : aM) (v6 : Int), aE 84 [aJ a2, aI v4] (SH L) M3 ([aI v6], (SH L), M5) ∧ ((¬ v6 = 1 → aX xc_92 (aSeek xc_92 179) [aR 64, aI a1, aJ a2, aU, aU, aU, aR a6, aR a7, aI a8, aU, aU] [] (SH L) M5 o) ∧ (¬ (¬ v6 = 1) → (0 ≤ v4 ∧ v4 < aLn (SH L) 1 77) ∧ (0 ≤ v4 ∧ v4 < aLn (SH L) 1 a7) ∧ (∃ (M7 : aM) (v8 : Int), aE 90 [aR 64, aI (M5 77 v4), aI (M5 a7 v4)] (SH L) M5 ([aI v8], (SH L), M7) ∧ ((v8 = 0 → aX xc_92 (aSeek xc_92 179) [aR 64, aI a1, aJ a2, aU, aU, aU, aR a6, aR a7, aI a8, aU, aU] [] (SH L) M7 o) ∧ (¬ (v8 = 0) → (aK (SH L) a6 = 11 ∧ ∃ (M9 : aM) (v10 : Int), aE 91 [aR a6, aI a1, aI v2] (SH L) M7 ([aI v10], (SH L), M9) ∧ (0 ≤ v10 ∧ v10 < aLn (SH L) 1 77) ∧ (aK (SH L) a6 = 11) ∧ (0 ≤ v2 ∧ v2 < aLn (SH L) 1 (aF (SH L) a6 3)) ∧ (0 ≤ v10 ∧ v10 < aLn (SH L) 1 77) ∧ aX xc_92 (aSeek xc_92 179) [aR 64, aI a1, aJ a2, aU, aU, aU, aR a6, aR a7, aI a8, aU, aU] [] (SH L) (aSet M9 77 v10 (aW ((M9 77 v10) + (M9 (aF (SH L) a6 3) v2)))) o)))))))))))) : aX xc_92 (aSeek xc_92 96) [aR 64, aI a1, aJ a2, aU, aU, aU, aR a6, aR a7, aI a8, aU, aU] [] (SH L) M o := by
  obtain ⟨c11, h⟩ := h
  by_cases cc : (M a6 0) ≤ a8
  · replace h := h.1 cc
    have t12 : aX xc_92 (aSeek xc_92 185) [aR 64, aI a1, aJ a2, aU, aU, aU, aR a6, aR a7, aI a8, aU, aU] [] (SH L) M o := by
      exact aX_seg 4 (fun n g => g) (aX_le (ls := [aR 64, aU, aJ a2, aU, aU, aU, aU, aR a7, aJ 0, aU, aI 0]) (ls1 := [aR 64, aI a1, aJ a2, aU, aU, aU, aR a6, aR a7, aJ 0, aU, aI 0]) (⟨Or.inr rfl, ⟨Or.inl rfl, ⟨Or.inr rfl, ⟨Or.inl rfl, ⟨Or.inl rfl, ⟨Or.inl rfl, ⟨Or.inl rfl, ⟨Or.inr rfl, ⟨Or.inr rfl, ⟨Or.inl rfl, ⟨Or.inr rfl, trivial⟩⟩⟩⟩⟩⟩⟩⟩⟩⟩⟩) h)
    exact aX_seg 4 (fun n g => ip c11 (ip cc (g))) t12
  · replace h := h.2 cc
    have t13 : aX xc_92 (aSeek xc_92 106) [aR 64, aI a1, aJ a2, aU, aU, aU, aR a6, aR a7, aI a8, aU, aU] [] (SH L) M o := by
      obtain ⟨c14, h⟩ := h
      obtain ⟨M1, v2, k15, h⟩ := h
      have h2 : aX xc_92 (aSeek xc_92 114) [aR 64, aI a1, aJ a2, aU, aU, aU, aR a6, aR a7, aI a8, aU, aU] [aI v2] (SH L) M1 o := by
        obtain ⟨c16, h⟩ := h
        obtain ⟨M3, v4, k17, h⟩ := h
        have h2 : aX xc_92 (aSeek xc_92 124) [aR 64, aI a1, aJ a2, aU, aU, aU, aR a6, aR a7, aI a8, aI v2, aU] [aI v4] (SH L) M3 o := by
          obtain ⟨M5, v6, k18, h⟩ := h
          have h2 : aX xc_92 (aSeek xc_92 132) [aR 64, aI a1, aJ a2, aU, aU, aU, aR a6, aR a7, aI a8, aI v2, aI v4] [aI v6] (SH L) M5 o := by
            by_cases cc : ¬ v6 = 1
            · replace h := h.1 cc
              have t19 : aX xc_92 (aSeek xc_92 179) [aR 64, aI a1, aJ a2, aU, aU, aU, aR a6, aR a7, aI a8, aI v2, aI v4] [] (SH L) M5 o := by
                exact aX_le (ls := [aR 64, aI a1, aJ a2, aU, aU, aU, aR a6, aR a7, aI a8, aU, aU]) (ls1 := [aR 64, aI a1, aJ a2, aU, aU, aU, aR a6, aR a7, aI a8, aI v2, aI v4]) (⟨Or.inr rfl, ⟨Or.inr rfl, ⟨Or.inr rfl, ⟨Or.inl rfl, ⟨Or.inl rfl, ⟨Or.inl rfl, ⟨Or.inr rfl, ⟨Or.inr rfl, ⟨Or.inr rfl, ⟨Or.inl rfl, ⟨Or.inl rfl, trivial⟩⟩⟩⟩⟩⟩⟩⟩⟩⟩⟩) h
              exact aX_seg 2 (fun n g => ip cc (g)) t19
            · replace h := h.2 cc
              have t20 : aX xc_92 (aSeek xc_92 136) [aR 64, aI a1, aJ a2, aU, aU, aU, aR a6, aR a7, aI a8, aI v2, aI v4] [] (SH L) M5 o := by
                obtain ⟨c21, h⟩ := h
                obtain ⟨c22, h⟩ := h
                obtain ⟨M7, v8, k23, h⟩ := h
                have h2 : aX xc_92 (aSeek xc_92 152) [aR 64, aI a1, aJ a2, aU, aU, aU, aR a6, aR a7, aI a8, aI v2, aI v4] [aI v8] (SH L) M7 o := by
                  by_cases cc : v8 = 0
                  · replace h := h.1 cc
                    have t24 : aX xc_92 (aSeek xc_92 179) [aR 64, aI a1, aJ a2, aU, aU, aU, aR a6, aR a7, aI a8, aI v2, aI v4] [] (SH L) M7 o := by
                      exact aX_le (ls := [aR 64, aI a1, aJ a2, aU, aU, aU, aR a6, aR a7, aI a8, aU, aU]) (ls1 := [aR 64, aI a1, aJ a2, aU, aU, aU, aR a6, aR a7, aI a8, aI v2, aI v4]) (⟨Or.inr rfl, ⟨Or.inr rfl, ⟨Or.inr rfl, ⟨Or.inl rfl, ⟨Or.inl rfl, ⟨Or.inl rfl, ⟨Or.inr rfl, ⟨Or.inr rfl, ⟨Or.inr rfl, ⟨Or.inl rfl, ⟨Or.inl rfl, trivial⟩⟩⟩⟩⟩⟩⟩⟩⟩⟩⟩) h
                    exact aX_seg 1 (fun n g => ip cc (g)) t24
                  · replace h := h.2 cc
                    have t25 : aX xc_92 (aSeek xc_92 155) [aR 64, aI a1, aJ a2, aU, aU, aU, aR a6, aR a7, aI a8, aI v2, aI v4] [] (SH L) M7 o := by
                      obtain ⟨c26, h⟩ := h
                      obtain ⟨M9, v10, k27, h⟩ := h
                      have h2 : aX xc_92 (aSeek xc_92 167) [aR 64, aI a1, aJ a2, aU, aU, aU, aR a6, aR a7, aI a8, aI v2, aI v4] [aI v10, aR 77] (SH L) M9 o := by
                        obtain ⟨c28, h⟩ := h
                        obtain ⟨c29, h⟩ := h
                        obtain ⟨c30, h⟩ := h
                        obtain ⟨c31, h⟩ := h
                        exact aX_seg 8 (fun n g => ip c28 (ip c29 (ip c30 (ip c31 (g))))) (aX_le (ls := [aR 64, aI a1, aJ a2, aU, aU, aU, aR a6, aR a7, aI a8, aU, aU]) (ls1 := [aR 64, aI a1, aJ a2, aU, aU, aU, aR a6, aR a7, aI a8, aI v2, aI v4]) (⟨Or.inr rfl, ⟨Or.inr rfl, ⟨Or.inr rfl, ⟨Or.inl rfl, ⟨Or.inl rfl, ⟨Or.inl rfl, ⟨Or.inr rfl, ⟨Or.inr rfl, ⟨Or.inr rfl, ⟨Or.inl rfl, ⟨Or.inl rfl, trivial⟩⟩⟩⟩⟩⟩⟩⟩⟩⟩⟩) h)
                      exact aX_seg 5 (fun n g => g) (aX_callv (c26) rfl rfl rfl k27 h2)
                    exact aX_seg 1 (fun n g => in_ cc (g)) t25
                exact aX_seg 8 (fun n g => ip c21 (ip c22 (g))) (aX_callv (rfl) rfl rfl rfl k23 h2)
              exact aX_seg 2 (fun n g => in_ cc (g)) t20
          exact aX_seg 3 (fun n g => g) (aX_calls rfl rfl rfl k18 h2)
        exact aX_seg 4 (fun n g => g) (aX_callv (c16) rfl rfl rfl k17 h2)
      exact aX_seg 3 (fun n g => g) (aX_callv (c14) rfl rfl rfl k15 h2)
    exact aX_seg 4 (fun n g => ip c11 (in_ cc (g))) t13
set_option maxRecDepth 100000 in
theorem bl_92_179 {L : Nat} {a1 a2 a6 a7 a8 : Int} {M : aM} {o : aO} (h : aX xc_92 (aSeek xc_92 96) [aR 64, aI a1, aJ a2, aU, aU, aU, aR a6, aR a7, aI (aW (a8 + 1)), aU, aU] [] (SH L) M o) : aX xc_92 (aSeek xc_92 179) [aR 64, aI a1, aJ a2, aU, aU, aU, aR a6, aR a7, aI a8, aU, aU] [] (SH L) M o := by
  exact aX_seg 2 (fun n g => g) (h)
set_option maxRecDepth 100000 in
theorem bl_92_191 {L : Nat} {a2 a7 a8 a10 : Int} {M : aM} {o : aO} (h : (aK (SH L) (M 64 5) = 10) ∧ (((M (M 64 5) 0) ≤ a10 → o = ([aJ a8], (SH L), M)) ∧ (¬ ((M (M 64 5) 0) ≤ a10) → (∃ (M1 : aM) (v2 : Int), aE 84 [aJ a2, aI a10] (SH L) M ([aI v2], (SH L), M1) ∧ ((¬ v2 = 1 → aX xc_92 (aSeek xc_92 241) [aR 64, aU, aJ a2, aU, aU, aU, aU, aR a7, aJ a8, aU, aI a10] [] (SH L) M1 o) ∧ (¬ (¬ v2 = 1) → (0 ≤ a10 ∧ a10 < aLn (SH L) 1 77) ∧ (0 ≤ a10 ∧ a10 < aLn (SH L) 1 a7) ∧ (∃ (M3 : aM) (v4 : Int), aE 90 [aR 64, aI (M1 77 a10), aI (M1 a7 a10)] (SH L) M1 ([aI v4], (SH L), M3) ∧ ((v4 = 0 → aX xc_92 (aSeek xc_92 241) [aR 64, aU, aJ a2, aU, aU, aU, aU, aR a7, aJ a8, aU, aI a10] [] (SH L) M3 o) ∧ (¬ (v4 = 0) → aX xc_92 (aSeek xc_92 241) [aR 64, aU, aJ a2, aU, aU, aU, aU, aR a7, aJ (aLor a8 (aLsl 1 a10)), aU, aI a10] [] (SH L) M3 o))))))))) : aX xc_92 (aSeek xc_92 191) [aR 64, aU, aJ a2, aU, aU, aU, aU, aR a7, aJ a8, aU, aI a10] [] (SH L) M o := by
  obtain ⟨c5, h⟩ := h
  by_cases cc : (M (M 64 5) 0) ≤ a10
  · replace h := h.1 cc
    have t6 : aX xc_92 (aSeek xc_92 247) [aR 64, aU, aJ a2, aU, aU, aU, aU, aR a7, aJ a8, aU, aI a10] [] (SH L) M o := by
      subst h
      exact ⟨2, rfl⟩
    exact aX_seg 5 (fun n g => ip c5 (ip cc (g))) t6
  · replace h := h.2 cc
    have t7 : aX xc_92 (aSeek xc_92 203) [aR 64, aU, aJ a2, aU, aU, aU, aU, aR a7, aJ a8, aU, aI a10] [] (SH L) M o := by
      obtain ⟨M1, v2, k8, h⟩ := h
      have h2 : aX xc_92 (aSeek xc_92 209) [aR 64, aU, aJ a2, aU, aU, aU, aU, aR a7, aJ a8, aU, aI a10] [aI v2] (SH L) M1 o := by
        by_cases cc : ¬ v2 = 1
        · replace h := h.1 cc
          have t9 : aX xc_92 (aSeek xc_92 241) [aR 64, aU, aJ a2, aU, aU, aU, aU, aR a7, aJ a8, aU, aI a10] [] (SH L) M1 o := by
            exact h
          exact aX_seg 2 (fun n g => ip cc (g)) t9
        · replace h := h.2 cc
          have t10 : aX xc_92 (aSeek xc_92 213) [aR 64, aU, aJ a2, aU, aU, aU, aU, aR a7, aJ a8, aU, aI a10] [] (SH L) M1 o := by
            obtain ⟨c11, h⟩ := h
            obtain ⟨c12, h⟩ := h
            obtain ⟨M3, v4, k13, h⟩ := h
            have h2 : aX xc_92 (aSeek xc_92 229) [aR 64, aU, aJ a2, aU, aU, aU, aU, aR a7, aJ a8, aU, aI a10] [aI v4] (SH L) M3 o := by
              by_cases cc : v4 = 0
              · replace h := h.1 cc
                have t14 : aX xc_92 (aSeek xc_92 241) [aR 64, aU, aJ a2, aU, aU, aU, aU, aR a7, aJ a8, aU, aI a10] [] (SH L) M3 o := by
                  exact h
                exact aX_seg 1 (fun n g => ip cc (g)) t14
              · replace h := h.2 cc
                have t15 : aX xc_92 (aSeek xc_92 232) [aR 64, aU, aJ a2, aU, aU, aU, aU, aR a7, aJ a8, aU, aI a10] [] (SH L) M3 o := by
                  exact aX_seg 6 (fun n g => g) (h)
                exact aX_seg 1 (fun n g => in_ cc (g)) t15
            exact aX_seg 8 (fun n g => ip c11 (ip c12 (g))) (aX_callv (rfl) rfl rfl rfl k13 h2)
          exact aX_seg 2 (fun n g => in_ cc (g)) t10
      exact aX_seg 2 (fun n g => g) (aX_calls rfl rfl rfl k8 h2)
    exact aX_seg 5 (fun n g => ip c5 (in_ cc (g))) t7
set_option maxRecDepth 100000 in
theorem bl_92_241 {L : Nat} {a2 a7 a8 a10 : Int} {M : aM} {o : aO} (h : aX xc_92 (aSeek xc_92 191) [aR 64, aU, aJ a2, aU, aU, aU, aU, aR a7, aJ a8, aU, aI (aW (a10 + 1))] [] (SH L) M o) : aX xc_92 (aSeek xc_92 241) [aR 64, aU, aJ a2, aU, aU, aU, aU, aR a7, aJ a8, aU, aI a10] [] (SH L) M o := by
  exact aX_seg 2 (fun n g => g) (h)
/- TypeLock$Pushes.pushedFrom(IJI)J -/
set_option maxRecDepth 100000 in
theorem en_93 {L : Nat} {a1 a2 a4 : Int} {M : aM} {o : aO} (h : (aK (SH L) (M 64 4) = 19 ∧ ∃ (M1 : aM) (v2 : Int), aE 82 [aR (M 64 4), aI a1, aI a4] (SH L) M ([aJ v2], (SH L), M1) ∧ (∃ (M3 : aM) (v4 : Int), aE 92 [aR 64, aI a1, aJ a2, aJ v2] (SH L) M1 ([aJ v4], (SH L), M3) ∧ o = ([aJ v4], (SH L), M3)))) : aE 93 [aR 64, aI a1, aJ a2, aI a4] (SH L) M o := by
  have q : aX xc_93 (aSeek xc_93 0) [aR 64, aI a1, aJ a2, aU, aI a4] [] (SH L) M o := by
    obtain ⟨c5, h⟩ := h
    obtain ⟨M1, v2, k6, h⟩ := h
    have h2 : aX xc_93 (aSeek xc_93 13) [aR 64, aI a1, aJ a2, aU, aI a4] [aJ v2, aJ a2, aI a1, aR 64] (SH L) M1 o := by
      obtain ⟨M3, v4, k7, h⟩ := h
      have h2 : aX xc_93 (aSeek xc_93 16) [aR 64, aI a1, aJ a2, aU, aI a4] [aJ v4] (SH L) M3 o := by
        subst h
        exact ⟨1, rfl⟩
      exact aX_callv (rfl) rfl rfl rfl k7 h2
    exact aX_seg 7 (fun n g => g) (aX_callv (c5) rfl rfl rfl k6 h2)
  exact q
/- TypeLock.pushed(II)I -/
set_option maxRecDepth 100000 in
theorem en_94 {L : Nat} {a1 a2 : Int} {M : aM} {o : aO} (h : (∃ (M1 : aM) (v2 : Int), aE 63 [aR 31, aI a1] (SH L) M ([aI v2], (SH L), M1) ∧ ((v2 = 0 → o = ([aI ((-1))], (SH L), M1)) ∧ (¬ (v2 = 0) → (∃ (M3 : aM) (v4 : Int), aE 36 [aI a2] (SH L) M1 ([aI v4], (SH L), M3) ∧ ((¬ v4 = 0 → (∃ (M5 : aM), aE 80 [aR 1] (SH L) M3 ([], (SH L), M5) ∧ (∃ (M6 : aM) (v7 : Int), aE 81 [aR 31] (SH L) M5 ([aJ v7], (SH L), M6) ∧ (∃ (M8 : aM) (v9 : Int), aE 93 [aR 64, aI a2, aJ v7, aI (M6 31 8)] (SH L) M6 ([aJ v9], (SH L), M8) ∧ (∃ (M10 : aM) (v11 : Int), aE 84 [aJ v9, aI a1] (SH L) M8 ([aI v11], (SH L), M10) ∧ o = ([aI v11], (SH L), M10)))))) ∧ (¬ (¬ v4 = 0) → o = ([aI ((-1))], (SH L), M3)))))))) : aE 94 [aR 1, aI a1, aI a2] (SH L) M o := by
  have q : aX xc_94 (aSeek xc_94 0) [aR 1, aI a1, aI a2] [] (SH L) M o := by
    obtain ⟨M1, v2, k12, h⟩ := h
    have h2 : aX xc_94 (aSeek xc_94 8) [aR 1, aI a1, aI a2] [aI v2] (SH L) M1 o := by
      by_cases cc : v2 = 0
      · replace h := h.1 cc
        have t13 : aX xc_94 (aSeek xc_94 18) [aR 1, aI a1, aI a2] [] (SH L) M1 o := by
          subst h
          exact ⟨2, rfl⟩
        exact aX_seg 1 (fun n g => ip cc (g)) t13
      · replace h := h.2 cc
        have t14 : aX xc_94 (aSeek xc_94 11) [aR 1, aI a1, aI a2] [] (SH L) M1 o := by
          obtain ⟨M3, v4, k15, h⟩ := h
          have h2 : aX xc_94 (aSeek xc_94 15) [aR 1, aI a1, aI a2] [aI v4] (SH L) M3 o := by
            by_cases cc : ¬ v4 = 0
            · replace h := h.1 cc
              have t16 : aX xc_94 (aSeek xc_94 20) [aR 1, aI a1, aI a2] [] (SH L) M3 o := by
                obtain ⟨M5, k17, h⟩ := h
                have h2 : aX xc_94 (aSeek xc_94 24) [aR 1, aI a1, aI a2] [] (SH L) M5 o := by
                  obtain ⟨M6, v7, k18, h⟩ := h
                  have h2 : aX xc_94 (aSeek xc_94 36) [aR 1, aI a1, aI a2] [aJ v7, aI a2, aR 64] (SH L) M6 o := by
                    obtain ⟨M8, v9, k19, h⟩ := h
                    have h2 : aX xc_94 (aSeek xc_94 46) [aR 1, aI a1, aI a2] [aJ v9] (SH L) M8 o := by
                      obtain ⟨M10, v11, k20, h⟩ := h
                      have h2 : aX xc_94 (aSeek xc_94 50) [aR 1, aI a1, aI a2] [aI v11] (SH L) M10 o := by
                        subst h
                        exact ⟨1, rfl⟩
                      exact aX_seg 1 (fun n g => g) (aX_calls rfl rfl rfl k20 h2)
                    exact aX_seg 3 (fun n g => g) (aX_callv (rfl) rfl rfl rfl k19 h2)
                  exact aX_seg 5 (fun n g => g) (aX_callv (rfl) rfl rfl rfl k18 h2)
                exact aX_seg 1 (fun n g => g) (aX_callv (rfl) rfl rfl rfl k17 h2)
              exact aX_seg 1 (fun n g => ip cc (g)) t16
            · replace h := h.2 cc
              have t21 : aX xc_94 (aSeek xc_94 18) [aR 1, aI a1, aI a2] [] (SH L) M3 o := by
                subst h
                exact ⟨2, rfl⟩
              exact aX_seg 1 (fun n g => in_ cc (g)) t21
          exact aX_seg 1 (fun n g => g) (aX_calls rfl rfl rfl k15 h2)
        exact aX_seg 1 (fun n g => in_ cc (g)) t14
    exact aX_seg 3 (fun n g => g) (aX_callv (rfl) rfl rfl rfl k12 h2)
  exact q
/- TypeLock$Pushes.borneAt(IJ)J -/
set_option maxRecDepth 100000 in
theorem en_95 {L : Nat} {a1 a2 : Int} {M : aM} {o : aO} (h : (∃ (M1 : aM) (v2 : Int), aE 37 [aI 0, aI 60] (SH L) M ([aJ v2], (SH L), M1) ∧ (∃ (M3 : aM) (v4 : Int), aE 92 [aR 64, aI a1, aJ a2, aJ v2] (SH L) M1 ([aJ v4], (SH L), M3) ∧ o = ([aJ v4], (SH L), M3)))) : aE 95 [aR 64, aI a1, aJ a2] (SH L) M o := by
  have q : aX xc_95 (aSeek xc_95 0) [aR 64, aI a1, aJ a2, aU] [] (SH L) M o := by
    obtain ⟨M1, v2, k5, h⟩ := h
    have h2 : aX xc_95 (aSeek xc_95 9) [aR 64, aI a1, aJ a2, aU] [aJ v2, aJ a2, aI a1, aR 64] (SH L) M1 o := by
      obtain ⟨M3, v4, k6, h⟩ := h
      have h2 : aX xc_95 (aSeek xc_95 12) [aR 64, aI a1, aJ a2, aU] [aJ v4] (SH L) M3 o := by
        subst h
        exact ⟨1, rfl⟩
      exact aX_callv (rfl) rfl rfl rfl k6 h2
    exact aX_seg 5 (fun n g => g) (aX_calls rfl rfl rfl k5 h2)
  exact q
/- TypeLock.borne(II)I -/
set_option maxRecDepth 100000 in
theorem en_96 {L : Nat} {a1 a2 : Int} {M : aM} {o : aO} (h : (∃ (M1 : aM) (v2 : Int), aE 63 [aR 31, aI a1] (SH L) M ([aI v2], (SH L), M1) ∧ ((v2 = 0 → o = ([aI ((-1))], (SH L), M1)) ∧ (¬ (v2 = 0) → (∃ (M3 : aM) (v4 : Int), aE 36 [aI a2] (SH L) M1 ([aI v4], (SH L), M3) ∧ ((¬ v4 = 0 → (∃ (M5 : aM), aE 80 [aR 1] (SH L) M3 ([], (SH L), M5) ∧ (∃ (M6 : aM) (v7 : Int), aE 81 [aR 31] (SH L) M5 ([aJ v7], (SH L), M6) ∧ (∃ (M8 : aM) (v9 : Int), aE 95 [aR 64, aI a2, aJ v7] (SH L) M6 ([aJ v9], (SH L), M8) ∧ (∃ (M10 : aM) (v11 : Int), aE 84 [aJ v9, aI a1] (SH L) M8 ([aI v11], (SH L), M10) ∧ o = ([aI v11], (SH L), M10)))))) ∧ (¬ (¬ v4 = 0) → o = ([aI ((-1))], (SH L), M3)))))))) : aE 96 [aR 1, aI a1, aI a2] (SH L) M o := by
  have q : aX xc_96 (aSeek xc_96 0) [aR 1, aI a1, aI a2] [] (SH L) M o := by
    obtain ⟨M1, v2, k12, h⟩ := h
    have h2 : aX xc_96 (aSeek xc_96 8) [aR 1, aI a1, aI a2] [aI v2] (SH L) M1 o := by
      by_cases cc : v2 = 0
      · replace h := h.1 cc
        have t13 : aX xc_96 (aSeek xc_96 18) [aR 1, aI a1, aI a2] [] (SH L) M1 o := by
          subst h
          exact ⟨2, rfl⟩
        exact aX_seg 1 (fun n g => ip cc (g)) t13
      · replace h := h.2 cc
        have t14 : aX xc_96 (aSeek xc_96 11) [aR 1, aI a1, aI a2] [] (SH L) M1 o := by
          obtain ⟨M3, v4, k15, h⟩ := h
          have h2 : aX xc_96 (aSeek xc_96 15) [aR 1, aI a1, aI a2] [aI v4] (SH L) M3 o := by
            by_cases cc : ¬ v4 = 0
            · replace h := h.1 cc
              have t16 : aX xc_96 (aSeek xc_96 20) [aR 1, aI a1, aI a2] [] (SH L) M3 o := by
                obtain ⟨M5, k17, h⟩ := h
                have h2 : aX xc_96 (aSeek xc_96 24) [aR 1, aI a1, aI a2] [] (SH L) M5 o := by
                  obtain ⟨M6, v7, k18, h⟩ := h
                  have h2 : aX xc_96 (aSeek xc_96 36) [aR 1, aI a1, aI a2] [aJ v7, aI a2, aR 64] (SH L) M6 o := by
                    obtain ⟨M8, v9, k19, h⟩ := h
                    have h2 : aX xc_96 (aSeek xc_96 39) [aR 1, aI a1, aI a2] [aJ v9] (SH L) M8 o := by
                      obtain ⟨M10, v11, k20, h⟩ := h
                      have h2 : aX xc_96 (aSeek xc_96 43) [aR 1, aI a1, aI a2] [aI v11] (SH L) M10 o := by
                        subst h
                        exact ⟨1, rfl⟩
                      exact aX_seg 1 (fun n g => g) (aX_calls rfl rfl rfl k20 h2)
                    exact aX_callv (rfl) rfl rfl rfl k19 h2
                  exact aX_seg 5 (fun n g => g) (aX_callv (rfl) rfl rfl rfl k18 h2)
                exact aX_seg 1 (fun n g => g) (aX_callv (rfl) rfl rfl rfl k17 h2)
              exact aX_seg 1 (fun n g => ip cc (g)) t16
            · replace h := h.2 cc
              have t21 : aX xc_96 (aSeek xc_96 18) [aR 1, aI a1, aI a2] [] (SH L) M3 o := by
                subst h
                exact ⟨2, rfl⟩
              exact aX_seg 1 (fun n g => in_ cc (g)) t21
          exact aX_seg 1 (fun n g => g) (aX_calls rfl rfl rfl k15 h2)
        exact aX_seg 1 (fun n g => in_ cc (g)) t14
    exact aX_seg 3 (fun n g => g) (aX_callv (rfl) rfl rfl rfl k12 h2)
  exact q
/- TypeLock$Pushes.heldOfBoth(JJ)J -/
set_option maxRecDepth 100000 in
theorem en_97 {L : Nat} {a1 a3 : Int} {M : aM} {o : aO} (h : o = ([aJ (aLor (aLand (aLor a1 a3) (aLxor (M 64 8) ((-1)))) (aLand (aLand a1 a3) (M 64 8)))], (SH L), M)) : aE 97 [aR 64, aJ a1, aJ a3] (SH L) M o := by
  have q : aX xc_97 (aSeek xc_97 0) [aR 64, aJ a1, aU, aJ a3, aU] [] (SH L) M o := by
    subst h
    exact ⟨16, rfl⟩
  exact q
/- TypeLock$Pushes.heldOf(JI)J -/
set_option maxRecDepth 100000 in
theorem en_98 {L : Nat} {a1 a3 : Int} {M : aM} {o : aO} (h : (∃ (M1 : aM) (v2 : Int), aE 93 [aR 64, aI 3, aJ a1, aI a3] (SH L) M ([aJ v2], (SH L), M1) ∧ (∃ (M3 : aM) (v4 : Int), aE 95 [aR 64, aI 1, aJ a1] (SH L) M1 ([aJ v4], (SH L), M3) ∧ (∃ (M5 : aM) (v6 : Int), aE 93 [aR 64, aI 1, aJ a1, aI a3] (SH L) M3 ([aJ v6], (SH L), M5) ∧ (∃ (M7 : aM) (v8 : Int), aE 95 [aR 64, aI 3, aJ a1] (SH L) M5 ([aJ v8], (SH L), M7) ∧ (∃ (M9 : aM) (v10 : Int), aE 93 [aR 64, aI 0, aJ a1, aI a3] (SH L) (aSet M7 64 0 (aLor (aLand v2 v4) (aLand v6 v8))) ([aJ v10], (SH L), M9) ∧ (∃ (M11 : aM) (v12 : Int), aE 95 [aR 64, aI 2, aJ a1] (SH L) M9 ([aJ v12], (SH L), M11) ∧ (∃ (M13 : aM) (v14 : Int), aE 93 [aR 64, aI 2, aJ a1, aI a3] (SH L) M11 ([aJ v14], (SH L), M13) ∧ (∃ (M15 : aM) (v16 : Int), aE 95 [aR 64, aI 0, aJ a1] (SH L) M13 ([aJ v16], (SH L), M15) ∧ (∃ (M17 : aM) (v18 : Int), aE 97 [aR 64, aJ ((aSet M15 64 1 (aLor (aLand v10 v12) (aLand v14 v16))) 64 0), aJ ((aSet M15 64 1 (aLor (aLand v10 v12) (aLand v14 v16))) 64 1)] (SH L) (aSet M15 64 1 (aLor (aLand v10 v12) (aLand v14 v16))) ([aJ v18], (SH L), M17) ∧ o = ([aJ v18], (SH L), M17))))))))))) : aE 98 [aR 64, aJ a1, aI a3] (SH L) M o := by
  have q : aX xc_98 (aSeek xc_98 0) [aR 64, aJ a1, aU, aI a3] [] (SH L) M o := by
    obtain ⟨M1, v2, k19, h⟩ := h
    have h2 : aX xc_98 (aSeek xc_98 8) [aR 64, aJ a1, aU, aI a3] [aJ v2, aR 64] (SH L) M1 o := by
      obtain ⟨M3, v4, k20, h⟩ := h
      have h2 : aX xc_98 (aSeek xc_98 14) [aR 64, aJ a1, aU, aI a3] [aJ v4, aJ v2, aR 64] (SH L) M3 o := by
        obtain ⟨M5, v6, k21, h⟩ := h
        have h2 : aX xc_98 (aSeek xc_98 22) [aR 64, aJ a1, aU, aI a3] [aJ v6, aJ (aLand v2 v4), aR 64] (SH L) M5 o := by
          obtain ⟨M7, v8, k22, h⟩ := h
          have h2 : aX xc_98 (aSeek xc_98 28) [aR 64, aJ a1, aU, aI a3] [aJ v8, aJ v6, aJ (aLand v2 v4), aR 64] (SH L) M7 o := by
            obtain ⟨M9, v10, k23, h⟩ := h
            have h2 : aX xc_98 (aSeek xc_98 41) [aR 64, aJ a1, aU, aI a3] [aJ v10, aR 64] (SH L) M9 o := by
              obtain ⟨M11, v12, k24, h⟩ := h
              have h2 : aX xc_98 (aSeek xc_98 47) [aR 64, aJ a1, aU, aI a3] [aJ v12, aJ v10, aR 64] (SH L) M11 o := by
                obtain ⟨M13, v14, k25, h⟩ := h
                have h2 : aX xc_98 (aSeek xc_98 55) [aR 64, aJ a1, aU, aI a3] [aJ v14, aJ (aLand v10 v12), aR 64] (SH L) M13 o := by
                  obtain ⟨M15, v16, k26, h⟩ := h
                  have h2 : aX xc_98 (aSeek xc_98 61) [aR 64, aJ a1, aU, aI a3] [aJ v16, aJ v14, aJ (aLand v10 v12), aR 64] (SH L) M15 o := by
                    obtain ⟨M17, v18, k27, h⟩ := h
                    have h2 : aX xc_98 (aSeek xc_98 78) [aR 64, aJ a1, aU, aI a3] [aJ v18] (SH L) M17 o := by
                      subst h
                      exact ⟨1, rfl⟩
                    exact aX_seg 8 (fun n g => g) (aX_callv (rfl) rfl rfl rfl k27 h2)
                  exact aX_seg 3 (fun n g => g) (aX_callv (rfl) rfl rfl rfl k26 h2)
                exact aX_seg 5 (fun n g => g) (aX_callv (rfl) rfl rfl rfl k25 h2)
              exact aX_seg 3 (fun n g => g) (aX_callv (rfl) rfl rfl rfl k24 h2)
            exact aX_seg 8 (fun n g => g) (aX_callv (rfl) rfl rfl rfl k23 h2)
          exact aX_seg 3 (fun n g => g) (aX_callv (rfl) rfl rfl rfl k22 h2)
        exact aX_seg 5 (fun n g => g) (aX_callv (rfl) rfl rfl rfl k21 h2)
      exact aX_seg 3 (fun n g => g) (aX_callv (rfl) rfl rfl rfl k20 h2)
    exact aX_seg 5 (fun n g => g) (aX_callv (rfl) rfl rfl rfl k19 h2)
  exact q
/- TypeLock.held(I)I -/
set_option maxRecDepth 100000 in
theorem en_99 {L : Nat} {a1 : Int} {M : aM} {o : aO} (h : (∃ (M1 : aM) (v2 : Int), aE 63 [aR 31, aI a1] (SH L) M ([aI v2], (SH L), M1) ∧ ((¬ v2 = 0 → (∃ (M3 : aM), aE 80 [aR 1] (SH L) M1 ([], (SH L), M3) ∧ (∃ (M4 : aM) (v5 : Int), aE 81 [aR 31] (SH L) M3 ([aJ v5], (SH L), M4) ∧ (∃ (M6 : aM) (v7 : Int), aE 98 [aR 64, aJ v5, aI (M4 31 8)] (SH L) M4 ([aJ v7], (SH L), M6) ∧ (∃ (M8 : aM) (v9 : Int), aE 84 [aJ (M6 64 1), aI a1] (SH L) M6 ([aI v9], (SH L), M8) ∧ (∃ (M10 : aM) (v11 : Int), aE 84 [aJ (M8 64 0), aI a1] (SH L) M8 ([aI v11], (SH L), M10) ∧ o = ([aI (aW ((aW (2 * v9)) + v11))], (SH L), M10))))))) ∧ (¬ (¬ v2 = 0) → o = ([aI ((-1))], (SH L), M1))))) : aE 99 [aR 1, aI a1] (SH L) M o := by
  have q : aX xc_99 (aSeek xc_99 0) [aR 1, aI a1] [] (SH L) M o := by
    obtain ⟨M1, v2, k12, h⟩ := h
    have h2 : aX xc_99 (aSeek xc_99 8) [aR 1, aI a1] [aI v2] (SH L) M1 o := by
      by_cases cc : ¬ v2 = 0
      · replace h := h.1 cc
        have t13 : aX xc_99 (aSeek xc_99 13) [aR 1, aI a1] [] (SH L) M1 o := by
          obtain ⟨M3, k14, h⟩ := h
          have h2 : aX xc_99 (aSeek xc_99 17) [aR 1, aI a1] [] (SH L) M3 o := by
            obtain ⟨M4, v5, k15, h⟩ := h
            have h2 : aX xc_99 (aSeek xc_99 28) [aR 1, aI a1] [aJ v5, aR 64] (SH L) M4 o := by
              obtain ⟨M6, v7, k16, h⟩ := h
              have h2 : aX xc_99 (aSeek xc_99 38) [aR 1, aI a1] [aJ v7] (SH L) M6 o := by
                obtain ⟨M8, v9, k17, h⟩ := h
                have h2 : aX xc_99 (aSeek xc_99 51) [aR 1, aI a1] [aI v9, aI 2] (SH L) M8 o := by
                  obtain ⟨M10, v11, k18, h⟩ := h
                  have h2 : aX xc_99 (aSeek xc_99 63) [aR 1, aI a1] [aI v11, aI (aW (2 * v9))] (SH L) M10 o := by
                    subst h
                    exact ⟨2, rfl⟩
                  exact aX_seg 5 (fun n g => g) (aX_calls rfl rfl rfl k18 h2)
                exact aX_seg 6 (fun n g => g) (aX_calls rfl rfl rfl k17 h2)
              exact aX_seg 3 (fun n g => g) (aX_callv (rfl) rfl rfl rfl k16 h2)
            exact aX_seg 4 (fun n g => g) (aX_callv (rfl) rfl rfl rfl k15 h2)
          exact aX_seg 1 (fun n g => g) (aX_callv (rfl) rfl rfl rfl k14 h2)
        exact aX_seg 1 (fun n g => ip cc (g)) t13
      · replace h := h.2 cc
        have t19 : aX xc_99 (aSeek xc_99 11) [aR 1, aI a1] [] (SH L) M1 o := by
          subst h
          exact ⟨2, rfl⟩
        exact aX_seg 1 (fun n g => in_ cc (g)) t19
    exact aX_seg 3 (fun n g => g) (aX_callv (rfl) rfl rfl rfl k12 h2)
  exact q
end BLK
