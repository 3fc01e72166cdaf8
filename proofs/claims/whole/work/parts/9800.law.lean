/-! block rows of the law, written by a program -/
section BLK
set_option maxRecDepth 100000 in
theorem bl_315_18 {L : Nat} {a3 : Int} {M : aM} {o : aO} (h : (((aW ((aL (SH L) 0) - 6)) < a3 → o = ([aI 1], (SH L), M)) ∧ (¬ ((aW ((aL (SH L) 0) - 6)) < a3) → (0 ≤ a3 ∧ a3 < aLn (SH L) 9 0) ∧ ((aAnd (M 0 a3) 63 = 0 → aX xc_315 (aSeek xc_315 220) [aR 0, aR 1, aR 145, aI a3] [] (SH L) M o) ∧ (aAnd (M 0 a3) 63 = 1 → aX xc_315 (aSeek xc_315 283) [aR 0, aR 1, aR 145, aI a3] [] (SH L) M o) ∧ (aAnd (M 0 a3) 63 = 2 → aX xc_315 (aSeek xc_315 306) [aR 0, aR 1, aR 145, aI a3] [] (SH L) M o) ∧ (aAnd (M 0 a3) 63 = 3 → aX xc_315 (aSeek xc_315 319) [aR 0, aR 1, aR 145, aI a3] [] (SH L) M o) ∧ (aAnd (M 0 a3) 63 = 4 → aX xc_315 (aSeek xc_315 332) [aR 0, aR 1, aR 145, aI a3] [] (SH L) M o) ∧ (aAnd (M 0 a3) 63 = 5 → aX xc_315 (aSeek xc_315 365) [aR 0, aR 1, aR 145, aI a3] [] (SH L) M o) ∧ (aAnd (M 0 a3) 63 = 6 → aX xc_315 (aSeek xc_315 434) [aR 0, aR 1, aR 145, aI a3] [] (SH L) M o) ∧ (aAnd (M 0 a3) 63 = 7 → aX xc_315 (aSeek xc_315 457) [aR 0, aR 1, aR 145, aI a3] [] (SH L) M o) ∧ (aAnd (M 0 a3) 63 = 8 → aX xc_315 (aSeek xc_315 490) [aR 0, aR 1, aR 145, aI a3] [] (SH L) M o) ∧ (aAnd (M 0 a3) 63 = 9 → aX xc_315 (aSeek xc_315 523) [aR 0, aR 1, aR 145, aI a3] [] (SH L) M o) ∧ (aAnd (M 0 a3) 63 = 10 → aX xc_315 (aSeek xc_315 536) [aR 0, aR 1, aR 145, aI a3] [] (SH L) M o) ∧ (aAnd (M 0 a3) 63 = 11 → aX xc_315 (aSeek xc_315 569) [aR 0, aR 1, aR 145, aI a3] [] (SH L) M o) ∧ (aAnd (M 0 a3) 63 = 12 → aX xc_315 (aSeek xc_315 618) [aR 0, aR 1, aR 145, aI a3] [] (SH L) M o) ∧ (aAnd (M 0 a3) 63 = 13 → aX xc_315 (aSeek xc_315 651) [aR 0, aR 1, aR 145, aI a3] [] (SH L) M o) ∧ (aAnd (M 0 a3) 63 = 14 → aX xc_315 (aSeek xc_315 684) [aR 0, aR 1, aR 145, aI a3] [] (SH L) M o) ∧ (aAnd (M 0 a3) 63 = 15 → aX xc_315 (aSeek xc_315 707) [aR 0, aR 1, aR 145, aI a3] [] (SH L) M o) ∧ (aAnd (M 0 a3) 63 = 16 → aX xc_315 (aSeek xc_315 720) [aR 0, aR 1, aR 145, aI a3] [] (SH L) M o) ∧ (aAnd (M 0 a3) 63 = 17 → aX xc_315 (aSeek xc_315 743) [aR 0, aR 1, aR 145, aI a3] [] (SH L) M o) ∧ (aAnd (M 0 a3) 63 = 18 → aX xc_315 (aSeek xc_315 766) [aR 0, aR 1, aR 145, aI a3] [] (SH L) M o) ∧ (aAnd (M 0 a3) 63 = 19 → aX xc_315 (aSeek xc_315 789) [aR 0, aR 1, aR 145, aI a3] [] (SH L) M o) ∧ (aAnd (M 0 a3) 63 = 20 → aX xc_315 (aSeek xc_315 802) [aR 0, aR 1, aR 145, aI a3] [] (SH L) M o) ∧ (aAnd (M 0 a3) 63 = 21 → aX xc_315 (aSeek xc_315 825) [aR 0, aR 1, aR 145, aI a3] [] (SH L) M o) ∧ (aAnd (M 0 a3) 63 = 22 → aX xc_315 (aSeek xc_315 874) [aR 0, aR 1, aR 145, aI a3] [] (SH L) M o) ∧ (aAnd (M 0 a3) 63 = 23 → aX xc_315 (aSeek xc_315 887) [aR 0, aR 1, aR 145, aI a3] [] (SH L) M o) ∧ (aAnd (M 0 a3) 63 = 24 → aX xc_315 (aSeek xc_315 910) [aR 0, aR 1, aR 145, aI a3] [] (SH L) M o) ∧ (aAnd (M 0 a3) 63 = 25 → aX xc_315 (aSeek xc_315 933) [aR 0, aR 1, aR 145, aI a3] [] (SH L) M o) ∧ (aAnd (M 0 a3) 63 = 26 → aX xc_315 (aSeek xc_315 956) [aR 0, aR 1, aR 145, aI a3] [] (SH L) M o) ∧ (aAnd (M 0 a3) 63 = 27 → aX xc_315 (aSeek xc_315 989) [aR 0, aR 1, aR 145, aI a3] [] (SH L) M o) ∧ (aAnd (M 0 a3) 63 = 28 → aX xc_315 (aSeek xc_315 1022) [aR 0, aR 1, aR 145, aI a3] [] (SH L) M o) ∧ (aAnd (M 0 a3) 63 = 29 → aX xc_315 (aSeek xc_315 1035) [aR 0, aR 1, aR 145, aI a3] [] (SH L) M o) ∧ (aAnd (M 0 a3) 63 = 30 → aX xc_315 (aSeek xc_315 1058) [aR 0, aR 1, aR 145, aI a3] [] (SH L) M o) ∧ (aAnd (M 0 a3) 63 = 31 → aX xc_315 (aSeek xc_315 1101) [aR 0, aR 1, aR 145, aI a3] [] (SH L) M o) ∧ (aAnd (M 0 a3) 63 = 32 → aX xc_315 (aSeek xc_315 1134) [aR 0, aR 1, aR 145, aI a3] [] (SH L) M o) ∧ (aAnd (M 0 a3) 63 = 33 → aX xc_315 (aSeek xc_315 1177) [aR 0, aR 1, aR 145, aI a3] [] (SH L) M o) ∧ (aAnd (M 0 a3) 63 = 34 → aX xc_315 (aSeek xc_315 1246) [aR 0, aR 1, aR 145, aI a3] [] (SH L) M o) ∧ (aAnd (M 0 a3) 63 = 35 → aX xc_315 (aSeek xc_315 1269) [aR 0, aR 1, aR 145, aI a3] [] (SH L) M o) ∧ (aAnd (M 0 a3) 63 = 36 → aX xc_315 (aSeek xc_315 1312) [aR 0, aR 1, aR 145, aI a3] [] (SH L) M o) ∧ (aAnd (M 0 a3) 63 = 37 → aX xc_315 (aSeek xc_315 1335) [aR 0, aR 1, aR 145, aI a3] [] (SH L) M o) ∧ (aAnd (M 0 a3) 63 = 38 → aX xc_315 (aSeek xc_315 1378) [aR 0, aR 1, aR 145, aI a3] [] (SH L) M o) ∧ (aAnd (M 0 a3) 63 = 39 → aX xc_315 (aSeek xc_315 1431) [aR 0, aR 1, aR 145, aI a3] [] (SH L) M o) ∧ (aAnd (M 0 a3) 63 = 40 → aX xc_315 (aSeek xc_315 1464) [aR 0, aR 1, aR 145, aI a3] [] (SH L) M o) ∧ (aAnd (M 0 a3) 63 = 41 → aX xc_315 (aSeek xc_315 1487) [aR 0, aR 1, aR 145, aI a3] [] (SH L) M o) ∧ (aAnd (M 0 a3) 63 = 42 → aX xc_315 (aSeek xc_315 1510) [aR 0, aR 1, aR 145, aI a3] [] (SH L) M o) ∧ (¬ aAnd (M 0 a3) 63 = 0 → ¬ aAnd (M 0 a3) 63 = 1 → ¬ aAnd (M 0 a3) 63 = 2 → ¬ aAnd (M 0 a3) 63 = 3 → ¬ aAnd (M 0 a3) 63 = 4 → ¬ aAnd (M 0 a3) 63 = 5 → ¬ aAnd (M 0 a3) 63 = 6 → ¬ aAnd (M 0 a3) 63 = 7 → ¬ aAnd (M 0 a3) 63 = 8 → ¬ aAnd (M 0 a3) 63 = 9 → ¬ aAnd (M 0 a3) 63 = 10 → ¬ aAnd (M 0 a3) 63 = 11 → ¬ aAnd (M 0 a3) 63 = 12 → ¬ aAnd (M 0 a3) 63 = 13 → ¬ aAnd (M 0 a3) 63 = 14 → ¬ aAnd (M 0 a3) 63 = 15 → ¬ aAnd (M 0 a3) 63 = 16 → ¬ aAnd (M 0 a3) 63 = 17 → ¬ aAnd (M 0 a3) 63 = 18 → ¬ aAnd (M 0 a3) 63 = 19 → ¬ aAnd (M 0 a3) 63 = 20 → ¬ aAnd (M 0 a3) 63 = 21 → ¬ aAnd (M 0 a3) 63 = 22 → ¬ aAnd (M 0 a3) 63 = 23 → ¬ aAnd (M 0 a3) 63 = 24 → ¬ aAnd (M 0 a3) 63 = 25 → ¬ aAnd (M 0 a3) 63 = 26 → ¬ aAnd (M 0 a3) 63 = 27 → ¬ aAnd (M 0 a3) 63 = 28 → ¬ aAnd (M 0 a3) 63 = 29 → ¬ aAnd (M 0 a3) 63 = 30 → ¬ aAnd (M 0 a3) 63 = 31 → ¬ aAnd (M 0 a3) 63 = 32 → ¬ aAnd (M 0 a3) 63 = 33 → ¬ aAnd (M 0 a3) 63 = 34 → ¬ aAnd (M 0 a3) 63 = 35 → ¬ aAnd (M 0 a3) 63 = 36 → ¬ aAnd (M 0 a3) 63 = 37 → ¬ aAnd (M 0 a3) 63 = 38 → ¬ aAnd (M 0 a3) 63 = 39 → ¬ aAnd (M 0 a3) 63 = 40 → ¬ aAnd (M 0 a3) 63 = 41 → ¬ aAnd (M 0 a3) 63 = 42 → aX xc_315 (aSeek xc_315 1533) [aR 0, aR 1, aR 145, aI a3] [] (SH L) M o))))) : aX xc_315 (aSeek xc_315 18) [aR 0, aR 1, aR 145, aI a3] [] (SH L) M o := by
  by_cases cc : (aW ((aL (SH L) 0) - 6)) < a3
  · replace h := h.1 cc
    have t1 : aX xc_315 (aSeek xc_315 1539) [aR 0, aR 1, aR 145, aI a3] [] (SH L) M o := by
      subst h
      exact ⟨2, rfl⟩
    exact aX_seg 6 (fun n g => ip cc (g)) t1
  · replace h := h.2 cc
    have t2 : aX xc_315 (aSeek xc_315 27) [aR 0, aR 1, aR 145, aI a3] [] (SH L) M o := by
      obtain ⟨c3, h⟩ := h
      by_cases cc0 : aAnd (M 0 a3) 63 = 0
      · replace h := h.1 cc0
        have ee : aTab 0 42 1500 #[187, 250, 273, 286, 299, 332, 401, 424, 457, 490, 503, 536, 585, 618, 651, 674, 687, 710, 733, 756, 769, 792, 841, 854, 877, 900, 923, 956, 989, 1002, 1025, 1068, 1101, 1144, 1213, 1236, 1279, 1302, 1345, 1398, 1431, 1454, 1477] (aAnd (M 0 a3) 63) = 187 := by rw [cc0]; rfl
        have t4 : aX xc_315 (aSeek xc_315 220) [aR 0, aR 1, aR 145, aI a3] [] (SH L) M o := by
          exact h
        exact aX_seg 6 (fun n g => ip c3 ((congrArg (fun tt => aRun tgT gP n xc_315 (aSeek xc_315 (aTo 33 tt)) [aR 0, aR 1, aR 145, aI a3] [] (SH L) M) ee).trans g)) t4
      by_cases cc1 : aAnd (M 0 a3) 63 = 1
      · replace h := h.2.1 cc1
        have ee : aTab 0 42 1500 #[187, 250, 273, 286, 299, 332, 401, 424, 457, 490, 503, 536, 585, 618, 651, 674, 687, 710, 733, 756, 769, 792, 841, 854, 877, 900, 923, 956, 989, 1002, 1025, 1068, 1101, 1144, 1213, 1236, 1279, 1302, 1345, 1398, 1431, 1454, 1477] (aAnd (M 0 a3) 63) = 250 := by rw [cc1]; rfl
        have t5 : aX xc_315 (aSeek xc_315 283) [aR 0, aR 1, aR 145, aI a3] [] (SH L) M o := by
          exact h
        exact aX_seg 6 (fun n g => ip c3 ((congrArg (fun tt => aRun tgT gP n xc_315 (aSeek xc_315 (aTo 33 tt)) [aR 0, aR 1, aR 145, aI a3] [] (SH L) M) ee).trans g)) t5
      by_cases cc2 : aAnd (M 0 a3) 63 = 2
      · replace h := h.2.2.1 cc2
        have ee : aTab 0 42 1500 #[187, 250, 273, 286, 299, 332, 401, 424, 457, 490, 503, 536, 585, 618, 651, 674, 687, 710, 733, 756, 769, 792, 841, 854, 877, 900, 923, 956, 989, 1002, 1025, 1068, 1101, 1144, 1213, 1236, 1279, 1302, 1345, 1398, 1431, 1454, 1477] (aAnd (M 0 a3) 63) = 273 := by rw [cc2]; rfl
        have t6 : aX xc_315 (aSeek xc_315 306) [aR 0, aR 1, aR 145, aI a3] [] (SH L) M o := by
          exact h
        exact aX_seg 6 (fun n g => ip c3 ((congrArg (fun tt => aRun tgT gP n xc_315 (aSeek xc_315 (aTo 33 tt)) [aR 0, aR 1, aR 145, aI a3] [] (SH L) M) ee).trans g)) t6
      by_cases cc3 : aAnd (M 0 a3) 63 = 3
      · replace h := h.2.2.2.1 cc3
        have ee : aTab 0 42 1500 #[187, 250, 273, 286, 299, 332, 401, 424, 457, 490, 503, 536, 585, 618, 651, 674, 687, 710, 733, 756, 769, 792, 841, 854, 877, 900, 923, 956, 989, 1002, 1025, 1068, 1101, 1144, 1213, 1236, 1279, 1302, 1345, 1398, 1431, 1454, 1477] (aAnd (M 0 a3) 63) = 286 := by rw [cc3]; rfl
        have t7 : aX xc_315 (aSeek xc_315 319) [aR 0, aR 1, aR 145, aI a3] [] (SH L) M o := by
          exact h
        exact aX_seg 6 (fun n g => ip c3 ((congrArg (fun tt => aRun tgT gP n xc_315 (aSeek xc_315 (aTo 33 tt)) [aR 0, aR 1, aR 145, aI a3] [] (SH L) M) ee).trans g)) t7
      by_cases cc4 : aAnd (M 0 a3) 63 = 4
      · replace h := h.2.2.2.2.1 cc4
        have ee : aTab 0 42 1500 #[187, 250, 273, 286, 299, 332, 401, 424, 457, 490, 503, 536, 585, 618, 651, 674, 687, 710, 733, 756, 769, 792, 841, 854, 877, 900, 923, 956, 989, 1002, 1025, 1068, 1101, 1144, 1213, 1236, 1279, 1302, 1345, 1398, 1431, 1454, 1477] (aAnd (M 0 a3) 63) = 299 := by rw [cc4]; rfl
        have t8 : aX xc_315 (aSeek xc_315 332) [aR 0, aR 1, aR 145, aI a3] [] (SH L) M o := by
          exact h
        exact aX_seg 6 (fun n g => ip c3 ((congrArg (fun tt => aRun tgT gP n xc_315 (aSeek xc_315 (aTo 33 tt)) [aR 0, aR 1, aR 145, aI a3] [] (SH L) M) ee).trans g)) t8
      by_cases cc5 : aAnd (M 0 a3) 63 = 5
      · replace h := h.2.2.2.2.2.1 cc5
        have ee : aTab 0 42 1500 #[187, 250, 273, 286, 299, 332, 401, 424, 457, 490, 503, 536, 585, 618, 651, 674, 687, 710, 733, 756, 769, 792, 841, 854, 877, 900, 923, 956, 989, 1002, 1025, 1068, 1101, 1144, 1213, 1236, 1279, 1302, 1345, 1398, 1431, 1454, 1477] (aAnd (M 0 a3) 63) = 332 := by rw [cc5]; rfl
        have t9 : aX xc_315 (aSeek xc_315 365) [aR 0, aR 1, aR 145, aI a3] [] (SH L) M o := by
          exact h
        exact aX_seg 6 (fun n g => ip c3 ((congrArg (fun tt => aRun tgT gP n xc_315 (aSeek xc_315 (aTo 33 tt)) [aR 0, aR 1, aR 145, aI a3] [] (SH L) M) ee).trans g)) t9
      by_cases cc6 : aAnd (M 0 a3) 63 = 6
      · replace h := h.2.2.2.2.2.2.1 cc6
        have ee : aTab 0 42 1500 #[187, 250, 273, 286, 299, 332, 401, 424, 457, 490, 503, 536, 585, 618, 651, 674, 687, 710, 733, 756, 769, 792, 841, 854, 877, 900, 923, 956, 989, 1002, 1025, 1068, 1101, 1144, 1213, 1236, 1279, 1302, 1345, 1398, 1431, 1454, 1477] (aAnd (M 0 a3) 63) = 401 := by rw [cc6]; rfl
        have t10 : aX xc_315 (aSeek xc_315 434) [aR 0, aR 1, aR 145, aI a3] [] (SH L) M o := by
          exact h
        exact aX_seg 6 (fun n g => ip c3 ((congrArg (fun tt => aRun tgT gP n xc_315 (aSeek xc_315 (aTo 33 tt)) [aR 0, aR 1, aR 145, aI a3] [] (SH L) M) ee).trans g)) t10
      by_cases cc7 : aAnd (M 0 a3) 63 = 7
      · replace h := h.2.2.2.2.2.2.2.1 cc7
        have ee : aTab 0 42 1500 #[187, 250, 273, 286, 299, 332, 401, 424, 457, 490, 503, 536, 585, 618, 651, 674, 687, 710, 733, 756, 769, 792, 841, 854, 877, 900, 923, 956, 989, 1002, 1025, 1068, 1101, 1144, 1213, 1236, 1279, 1302, 1345, 1398, 1431, 1454, 1477] (aAnd (M 0 a3) 63) = 424 := by rw [cc7]; rfl
        have t11 : aX xc_315 (aSeek xc_315 457) [aR 0, aR 1, aR 145, aI a3] [] (SH L) M o := by
          exact h
        exact aX_seg 6 (fun n g => ip c3 ((congrArg (fun tt => aRun tgT gP n xc_315 (aSeek xc_315 (aTo 33 tt)) [aR 0, aR 1, aR 145, aI a3] [] (SH L) M) ee).trans g)) t11
      by_cases cc8 : aAnd (M 0 a3) 63 = 8
      · replace h := h.2.2.2.2.2.2.2.2.1 cc8
        have ee : aTab 0 42 1500 #[187, 250, 273, 286, 299, 332, 401, 424, 457, 490, 503, 536, 585, 618, 651, 674, 687, 710, 733, 756, 769, 792, 841, 854, 877, 900, 923, 956, 989, 1002, 1025, 1068, 1101, 1144, 1213, 1236, 1279, 1302, 1345, 1398, 1431, 1454, 1477] (aAnd (M 0 a3) 63) = 457 := by rw [cc8]; rfl
        have t12 : aX xc_315 (aSeek xc_315 490) [aR 0, aR 1, aR 145, aI a3] [] (SH L) M o := by
          exact h
        exact aX_seg 6 (fun n g => ip c3 ((congrArg (fun tt => aRun tgT gP n xc_315 (aSeek xc_315 (aTo 33 tt)) [aR 0, aR 1, aR 145, aI a3] [] (SH L) M) ee).trans g)) t12
      by_cases cc9 : aAnd (M 0 a3) 63 = 9
      · replace h := h.2.2.2.2.2.2.2.2.2.1 cc9
        have ee : aTab 0 42 1500 #[187, 250, 273, 286, 299, 332, 401, 424, 457, 490, 503, 536, 585, 618, 651, 674, 687, 710, 733, 756, 769, 792, 841, 854, 877, 900, 923, 956, 989, 1002, 1025, 1068, 1101, 1144, 1213, 1236, 1279, 1302, 1345, 1398, 1431, 1454, 1477] (aAnd (M 0 a3) 63) = 490 := by rw [cc9]; rfl
        have t13 : aX xc_315 (aSeek xc_315 523) [aR 0, aR 1, aR 145, aI a3] [] (SH L) M o := by
          exact h
        exact aX_seg 6 (fun n g => ip c3 ((congrArg (fun tt => aRun tgT gP n xc_315 (aSeek xc_315 (aTo 33 tt)) [aR 0, aR 1, aR 145, aI a3] [] (SH L) M) ee).trans g)) t13
      by_cases cc10 : aAnd (M 0 a3) 63 = 10
      · replace h := h.2.2.2.2.2.2.2.2.2.2.1 cc10
        have ee : aTab 0 42 1500 #[187, 250, 273, 286, 299, 332, 401, 424, 457, 490, 503, 536, 585, 618, 651, 674, 687, 710, 733, 756, 769, 792, 841, 854, 877, 900, 923, 956, 989, 1002, 1025, 1068, 1101, 1144, 1213, 1236, 1279, 1302, 1345, 1398, 1431, 1454, 1477] (aAnd (M 0 a3) 63) = 503 := by rw [cc10]; rfl
        have t14 : aX xc_315 (aSeek xc_315 536) [aR 0, aR 1, aR 145, aI a3] [] (SH L) M o := by
          exact h
        exact aX_seg 6 (fun n g => ip c3 ((congrArg (fun tt => aRun tgT gP n xc_315 (aSeek xc_315 (aTo 33 tt)) [aR 0, aR 1, aR 145, aI a3] [] (SH L) M) ee).trans g)) t14
      by_cases cc11 : aAnd (M 0 a3) 63 = 11
      · replace h := h.2.2.2.2.2.2.2.2.2.2.2.1 cc11
        have ee : aTab 0 42 1500 #[187, 250, 273, 286, 299, 332, 401, 424, 457, 490, 503, 536, 585, 618, 651, 674, 687, 710, 733, 756, 769, 792, 841, 854, 877, 900, 923, 956, 989, 1002, 1025, 1068, 1101, 1144, 1213, 1236, 1279, 1302, 1345, 1398, 1431, 1454, 1477] (aAnd (M 0 a3) 63) = 536 := by rw [cc11]; rfl
        have t15 : aX xc_315 (aSeek xc_315 569) [aR 0, aR 1, aR 145, aI a3] [] (SH L) M o := by
          exact h
        exact aX_seg 6 (fun n g => ip c3 ((congrArg (fun tt => aRun tgT gP n xc_315 (aSeek xc_315 (aTo 33 tt)) [aR 0, aR 1, aR 145, aI a3] [] (SH L) M) ee).trans g)) t15
      by_cases cc12 : aAnd (M 0 a3) 63 = 12
      · replace h := h.2.2.2.2.2.2.2.2.2.2.2.2.1 cc12
        have ee : aTab 0 42 1500 #[187, 250, 273, 286, 299, 332, 401, 424, 457, 490, 503, 536, 585, 618, 651, 674, 687, 710, 733, 756, 769, 792, 841, 854, 877, 900, 923, 956, 989, 1002, 1025, 1068, 1101, 1144, 1213, 1236, 1279, 1302, 1345, 1398, 1431, 1454, 1477] (aAnd (M 0 a3) 63) = 585 := by rw [cc12]; rfl
        have t16 : aX xc_315 (aSeek xc_315 618) [aR 0, aR 1, aR 145, aI a3] [] (SH L) M o := by
          exact h
        exact aX_seg 6 (fun n g => ip c3 ((congrArg (fun tt => aRun tgT gP n xc_315 (aSeek xc_315 (aTo 33 tt)) [aR 0, aR 1, aR 145, aI a3] [] (SH L) M) ee).trans g)) t16
      by_cases cc13 : aAnd (M 0 a3) 63 = 13
      · replace h := h.2.2.2.2.2.2.2.2.2.2.2.2.2.1 cc13
        have ee : aTab 0 42 1500 #[187, 250, 273, 286, 299, 332, 401, 424, 457, 490, 503, 536, 585, 618, 651, 674, 687, 710, 733, 756, 769, 792, 841, 854, 877, 900, 923, 956, 989, 1002, 1025, 1068, 1101, 1144, 1213, 1236, 1279, 1302, 1345, 1398, 1431, 1454, 1477] (aAnd (M 0 a3) 63) = 618 := by rw [cc13]; rfl
        have t17 : aX xc_315 (aSeek xc_315 651) [aR 0, aR 1, aR 145, aI a3] [] (SH L) M o := by
          exact h
        exact aX_seg 6 (fun n g => ip c3 ((congrArg (fun tt => aRun tgT gP n xc_315 (aSeek xc_315 (aTo 33 tt)) [aR 0, aR 1, aR 145, aI a3] [] (SH L) M) ee).trans g)) t17
      by_cases cc14 : aAnd (M 0 a3) 63 = 14
      · replace h := h.2.2.2.2.2.2.2.2.2.2.2.2.2.2.1 cc14
        have ee : aTab 0 42 1500 #[187, 250, 273, 286, 299, 332, 401, 424, 457, 490, 503, 536, 585, 618, 651, 674, 687, 710, 733, 756, 769, 792, 841, 854, 877, 900, 923, 956, 989, 1002, 1025, 1068, 1101, 1144, 1213, 1236, 1279, 1302, 1345, 1398, 1431, 1454, 1477] (aAnd (M 0 a3) 63) = 651 := by rw [cc14]; rfl
        have t18 : aX xc_315 (aSeek xc_315 684) [aR 0, aR 1, aR 145, aI a3] [] (SH L) M o := by
          exact h
        exact aX_seg 6 (fun n g => ip c3 ((congrArg (fun tt => aRun tgT gP n xc_315 (aSeek xc_315 (aTo 33 tt)) [aR 0, aR 1, aR 145, aI a3] [] (SH L) M) ee).trans g)) t18
      by_cases cc15 : aAnd (M 0 a3) 63 = 15
      · replace h := h.2.2.2.2.2.2.2.2.2.2.2.2.2.2.2.1 cc15
        have ee : aTab 0 42 1500 #[187, 250, 273, 286, 299, 332, 401, 424, 457, 490, 503, 536, 585, 618, 651, 674, 687, 710, 733, 756, 769, 792, 841, 854, 877, 900, 923, 956, 989, 1002, 1025, 1068, 1101, 1144, 1213, 1236, 1279, 1302, 1345, 1398, 1431, 1454, 1477] (aAnd (M 0 a3) 63) = 674 := by rw [cc15]; rfl
        have t19 : aX xc_315 (aSeek xc_315 707) [aR 0, aR 1, aR 145, aI a3] [] (SH L) M o := by
          exact h
        exact aX_seg 6 (fun n g => ip c3 ((congrArg (fun tt => aRun tgT gP n xc_315 (aSeek xc_315 (aTo 33 tt)) [aR 0, aR 1, aR 145, aI a3] [] (SH L) M) ee).trans g)) t19
      by_cases cc16 : aAnd (M 0 a3) 63 = 16
      · replace h := h.2.2.2.2.2.2.2.2.2.2.2.2.2.2.2.2.1 cc16
        have ee : aTab 0 42 1500 #[187, 250, 273, 286, 299, 332, 401, 424, 457, 490, 503, 536, 585, 618, 651, 674, 687, 710, 733, 756, 769, 792, 841, 854, 877, 900, 923, 956, 989, 1002, 1025, 1068, 1101, 1144, 1213, 1236, 1279, 1302, 1345, 1398, 1431, 1454, 1477] (aAnd (M 0 a3) 63) = 687 := by rw [cc16]; rfl
        have t20 : aX xc_315 (aSeek xc_315 720) [aR 0, aR 1, aR 145, aI a3] [] (SH L) M o := by
          exact h
        exact aX_seg 6 (fun n g => ip c3 ((congrArg (fun tt => aRun tgT gP n xc_315 (aSeek xc_315 (aTo 33 tt)) [aR 0, aR 1, aR 145, aI a3] [] (SH L) M) ee).trans g)) t20
      by_cases cc17 : aAnd (M 0 a3) 63 = 17
      · replace h := h.2.2.2.2.2.2.2.2.2.2.2.2.2.2.2.2.2.1 cc17
        have ee : aTab 0 42 1500 #[187, 250, 273, 286, 299, 332, 401, 424, 457, 490, 503, 536, 585, 618, 651, 674, 687, 710, 733, 756, 769, 792, 841, 854, 877, 900, 923, 956, 989, 1002, 1025, 1068, 1101, 1144, 1213, 1236, 1279, 1302, 1345, 1398, 1431, 1454, 1477] (aAnd (M 0 a3) 63) = 710 := by rw [cc17]; rfl
        have t21 : aX xc_315 (aSeek xc_315 743) [aR 0, aR 1, aR 145, aI a3] [] (SH L) M o := by
          exact h
        exact aX_seg 6 (fun n g => ip c3 ((congrArg (fun tt => aRun tgT gP n xc_315 (aSeek xc_315 (aTo 33 tt)) [aR 0, aR 1, aR 145, aI a3] [] (SH L) M) ee).trans g)) t21
      by_cases cc18 : aAnd (M 0 a3) 63 = 18
      · replace h := h.2.2.2.2.2.2.2.2.2.2.2.2.2.2.2.2.2.2.1 cc18
        have ee : aTab 0 42 1500 #[187, 250, 273, 286, 299, 332, 401, 424, 457, 490, 503, 536, 585, 618, 651, 674, 687, 710, 733, 756, 769, 792, 841, 854, 877, 900, 923, 956, 989, 1002, 1025, 1068, 1101, 1144, 1213, 1236, 1279, 1302, 1345, 1398, 1431, 1454, 1477] (aAnd (M 0 a3) 63) = 733 := by rw [cc18]; rfl
        have t22 : aX xc_315 (aSeek xc_315 766) [aR 0, aR 1, aR 145, aI a3] [] (SH L) M o := by
          exact h
        exact aX_seg 6 (fun n g => ip c3 ((congrArg (fun tt => aRun tgT gP n xc_315 (aSeek xc_315 (aTo 33 tt)) [aR 0, aR 1, aR 145, aI a3] [] (SH L) M) ee).trans g)) t22
      by_cases cc19 : aAnd (M 0 a3) 63 = 19
      · replace h := h.2.2.2.2.2.2.2.2.2.2.2.2.2.2.2.2.2.2.2.1 cc19
        have ee : aTab 0 42 1500 #[187, 250, 273, 286, 299, 332, 401, 424, 457, 490, 503, 536, 585, 618, 651, 674, 687, 710, 733, 756, 769, 792, 841, 854, 877, 900, 923, 956, 989, 1002, 1025, 1068, 1101, 1144, 1213, 1236, 1279, 1302, 1345, 1398, 1431, 1454, 1477] (aAnd (M 0 a3) 63) = 756 := by rw [cc19]; rfl
        have t23 : aX xc_315 (aSeek xc_315 789) [aR 0, aR 1, aR 145, aI a3] [] (SH L) M o := by
          exact h
        exact aX_seg 6 (fun n g => ip c3 ((congrArg (fun tt => aRun tgT gP n xc_315 (aSeek xc_315 (aTo 33 tt)) [aR 0, aR 1, aR 145, aI a3] [] (SH L) M) ee).trans g)) t23
      by_cases cc20 : aAnd (M 0 a3) 63 = 20
      · replace h := h.2.2.2.2.2.2.2.2.2.2.2.2.2.2.2.2.2.2.2.2.1 cc20
        have ee : aTab 0 42 1500 #[187, 250, 273, 286, 299, 332, 401, 424, 457, 490, 503, 536, 585, 618, 651, 674, 687, 710, 733, 756, 769, 792, 841, 854, 877, 900, 923, 956, 989, 1002, 1025, 1068, 1101, 1144, 1213, 1236, 1279, 1302, 1345, 1398, 1431, 1454, 1477] (aAnd (M 0 a3) 63) = 769 := by rw [cc20]; rfl
        have t24 : aX xc_315 (aSeek xc_315 802) [aR 0, aR 1, aR 145, aI a3] [] (SH L) M o := by
          exact h
        exact aX_seg 6 (fun n g => ip c3 ((congrArg (fun tt => aRun tgT gP n xc_315 (aSeek xc_315 (aTo 33 tt)) [aR 0, aR 1, aR 145, aI a3] [] (SH L) M) ee).trans g)) t24
      by_cases cc21 : aAnd (M 0 a3) 63 = 21
      · replace h := h.2.2.2.2.2.2.2.2.2.2.2.2.2.2.2.2.2.2.2.2.2.1 cc21
        have ee : aTab 0 42 1500 #[187, 250, 273, 286, 299, 332, 401, 424, 457, 490, 503, 536, 585, 618, 651, 674, 687, 710, 733, 756, 769, 792, 841, 854, 877, 900, 923, 956, 989, 1002, 1025, 1068, 1101, 1144, 1213, 1236, 1279, 1302, 1345, 1398, 1431, 1454, 1477] (aAnd (M 0 a3) 63) = 792 := by rw [cc21]; rfl
        have t25 : aX xc_315 (aSeek xc_315 825) [aR 0, aR 1, aR 145, aI a3] [] (SH L) M o := by
          exact h
        exact aX_seg 6 (fun n g => ip c3 ((congrArg (fun tt => aRun tgT gP n xc_315 (aSeek xc_315 (aTo 33 tt)) [aR 0, aR 1, aR 145, aI a3] [] (SH L) M) ee).trans g)) t25
      by_cases cc22 : aAnd (M 0 a3) 63 = 22
      · replace h := h.2.2.2.2.2.2.2.2.2.2.2.2.2.2.2.2.2.2.2.2.2.2.1 cc22
        have ee : aTab 0 42 1500 #[187, 250, 273, 286, 299, 332, 401, 424, 457, 490, 503, 536, 585, 618, 651, 674, 687, 710, 733, 756, 769, 792, 841, 854, 877, 900, 923, 956, 989, 1002, 1025, 1068, 1101, 1144, 1213, 1236, 1279, 1302, 1345, 1398, 1431, 1454, 1477] (aAnd (M 0 a3) 63) = 841 := by rw [cc22]; rfl
        have t26 : aX xc_315 (aSeek xc_315 874) [aR 0, aR 1, aR 145, aI a3] [] (SH L) M o := by
          exact h
        exact aX_seg 6 (fun n g => ip c3 ((congrArg (fun tt => aRun tgT gP n xc_315 (aSeek xc_315 (aTo 33 tt)) [aR 0, aR 1, aR 145, aI a3] [] (SH L) M) ee).trans g)) t26
      by_cases cc23 : aAnd (M 0 a3) 63 = 23
      · replace h := h.2.2.2.2.2.2.2.2.2.2.2.2.2.2.2.2.2.2.2.2.2.2.2.1 cc23
        have ee : aTab 0 42 1500 #[187, 250, 273, 286, 299, 332, 401, 424, 457, 490, 503, 536, 585, 618, 651, 674, 687, 710, 733, 756, 769, 792, 841, 854, 877, 900, 923, 956, 989, 1002, 1025, 1068, 1101, 1144, 1213, 1236, 1279, 1302, 1345, 1398, 1431, 1454, 1477] (aAnd (M 0 a3) 63) = 854 := by rw [cc23]; rfl
        have t27 : aX xc_315 (aSeek xc_315 887) [aR 0, aR 1, aR 145, aI a3] [] (SH L) M o := by
          exact h
        exact aX_seg 6 (fun n g => ip c3 ((congrArg (fun tt => aRun tgT gP n xc_315 (aSeek xc_315 (aTo 33 tt)) [aR 0, aR 1, aR 145, aI a3] [] (SH L) M) ee).trans g)) t27
      by_cases cc24 : aAnd (M 0 a3) 63 = 24
      · replace h := h.2.2.2.2.2.2.2.2.2.2.2.2.2.2.2.2.2.2.2.2.2.2.2.2.1 cc24
        have ee : aTab 0 42 1500 #[187, 250, 273, 286, 299, 332, 401, 424, 457, 490, 503, 536, 585, 618, 651, 674, 687, 710, 733, 756, 769, 792, 841, 854, 877, 900, 923, 956, 989, 1002, 1025, 1068, 1101, 1144, 1213, 1236, 1279, 1302, 1345, 1398, 1431, 1454, 1477] (aAnd (M 0 a3) 63) = 877 := by rw [cc24]; rfl
        have t28 : aX xc_315 (aSeek xc_315 910) [aR 0, aR 1, aR 145, aI a3] [] (SH L) M o := by
          exact h
        exact aX_seg 6 (fun n g => ip c3 ((congrArg (fun tt => aRun tgT gP n xc_315 (aSeek xc_315 (aTo 33 tt)) [aR 0, aR 1, aR 145, aI a3] [] (SH L) M) ee).trans g)) t28
      by_cases cc25 : aAnd (M 0 a3) 63 = 25
      · replace h := h.2.2.2.2.2.2.2.2.2.2.2.2.2.2.2.2.2.2.2.2.2.2.2.2.2.1 cc25
        have ee : aTab 0 42 1500 #[187, 250, 273, 286, 299, 332, 401, 424, 457, 490, 503, 536, 585, 618, 651, 674, 687, 710, 733, 756, 769, 792, 841, 854, 877, 900, 923, 956, 989, 1002, 1025, 1068, 1101, 1144, 1213, 1236, 1279, 1302, 1345, 1398, 1431, 1454, 1477] (aAnd (M 0 a3) 63) = 900 := by rw [cc25]; rfl
        have t29 : aX xc_315 (aSeek xc_315 933) [aR 0, aR 1, aR 145, aI a3] [] (SH L) M o := by
          exact h
        exact aX_seg 6 (fun n g => ip c3 ((congrArg (fun tt => aRun tgT gP n xc_315 (aSeek xc_315 (aTo 33 tt)) [aR 0, aR 1, aR 145, aI a3] [] (SH L) M) ee).trans g)) t29
      by_cases cc26 : aAnd (M 0 a3) 63 = 26
      · replace h := h.2.2.2.2.2.2.2.2.2.2.2.2.2.2.2.2.2.2.2.2.2.2.2.2.2.2.1 cc26
        have ee : aTab 0 42 1500 #[187, 250, 273, 286, 299, 332, 401, 424, 457, 490, 503, 536, 585, 618, 651, 674, 687, 710, 733, 756, 769, 792, 841, 854, 877, 900, 923, 956, 989, 1002, 1025, 1068, 1101, 1144, 1213, 1236, 1279, 1302, 1345, 1398, 1431, 1454, 1477] (aAnd (M 0 a3) 63) = 923 := by rw [cc26]; rfl
        have t30 : aX xc_315 (aSeek xc_315 956) [aR 0, aR 1, aR 145, aI a3] [] (SH L) M o := by
          exact h
        exact aX_seg 6 (fun n g => ip c3 ((congrArg (fun tt => aRun tgT gP n xc_315 (aSeek xc_315 (aTo 33 tt)) [aR 0, aR 1, aR 145, aI a3] [] (SH L) M) ee).trans g)) t30
      by_cases cc27 : aAnd (M 0 a3) 63 = 27
      · replace h := h.2.2.2.2.2.2.2.2.2.2.2.2.2.2.2.2.2.2.2.2.2.2.2.2.2.2.2.1 cc27
        have ee : aTab 0 42 1500 #[187, 250, 273, 286, 299, 332, 401, 424, 457, 490, 503, 536, 585, 618, 651, 674, 687, 710, 733, 756, 769, 792, 841, 854, 877, 900, 923, 956, 989, 1002, 1025, 1068, 1101, 1144, 1213, 1236, 1279, 1302, 1345, 1398, 1431, 1454, 1477] (aAnd (M 0 a3) 63) = 956 := by rw [cc27]; rfl
        have t31 : aX xc_315 (aSeek xc_315 989) [aR 0, aR 1, aR 145, aI a3] [] (SH L) M o := by
          exact h
        exact aX_seg 6 (fun n g => ip c3 ((congrArg (fun tt => aRun tgT gP n xc_315 (aSeek xc_315 (aTo 33 tt)) [aR 0, aR 1, aR 145, aI a3] [] (SH L) M) ee).trans g)) t31
      by_cases cc28 : aAnd (M 0 a3) 63 = 28
      · replace h := h.2.2.2.2.2.2.2.2.2.2.2.2.2.2.2.2.2.2.2.2.2.2.2.2.2.2.2.2.1 cc28
        have ee : aTab 0 42 1500 #[187, 250, 273, 286, 299, 332, 401, 424, 457, 490, 503, 536, 585, 618, 651, 674, 687, 710, 733, 756, 769, 792, 841, 854, 877, 900, 923, 956, 989, 1002, 1025, 1068, 1101, 1144, 1213, 1236, 1279, 1302, 1345, 1398, 1431, 1454, 1477] (aAnd (M 0 a3) 63) = 989 := by rw [cc28]; rfl
        have t32 : aX xc_315 (aSeek xc_315 1022) [aR 0, aR 1, aR 145, aI a3] [] (SH L) M o := by
          exact h
        exact aX_seg 6 (fun n g => ip c3 ((congrArg (fun tt => aRun tgT gP n xc_315 (aSeek xc_315 (aTo 33 tt)) [aR 0, aR 1, aR 145, aI a3] [] (SH L) M) ee).trans g)) t32
      by_cases cc29 : aAnd (M 0 a3) 63 = 29
      · replace h := h.2.2.2.2.2.2.2.2.2.2.2.2.2.2.2.2.2.2.2.2.2.2.2.2.2.2.2.2.2.1 cc29
        have ee : aTab 0 42 1500 #[187, 250, 273, 286, 299, 332, 401, 424, 457, 490, 503, 536, 585, 618, 651, 674, 687, 710, 733, 756, 769, 792, 841, 854, 877, 900, 923, 956, 989, 1002, 1025, 1068, 1101, 1144, 1213, 1236, 1279, 1302, 1345, 1398, 1431, 1454, 1477] (aAnd (M 0 a3) 63) = 1002 := by rw [cc29]; rfl
        have t33 : aX xc_315 (aSeek xc_315 1035) [aR 0, aR 1, aR 145, aI a3] [] (SH L) M o := by
          exact h
        exact aX_seg 6 (fun n g => ip c3 ((congrArg (fun tt => aRun tgT gP n xc_315 (aSeek xc_315 (aTo 33 tt)) [aR 0, aR 1, aR 145, aI a3] [] (SH L) M) ee).trans g)) t33
      by_cases cc30 : aAnd (M 0 a3) 63 = 30
      · replace h := h.2.2.2.2.2.2.2.2.2.2.2.2.2.2.2.2.2.2.2.2.2.2.2.2.2.2.2.2.2.2.1 cc30
        have ee : aTab 0 42 1500 #[187, 250, 273, 286, 299, 332, 401, 424, 457, 490, 503, 536, 585, 618, 651, 674, 687, 710, 733, 756, 769, 792, 841, 854, 877, 900, 923, 956, 989, 1002, 1025, 1068, 1101, 1144, 1213, 1236, 1279, 1302, 1345, 1398, 1431, 1454, 1477] (aAnd (M 0 a3) 63) = 1025 := by rw [cc30]; rfl
        have t34 : aX xc_315 (aSeek xc_315 1058) [aR 0, aR 1, aR 145, aI a3] [] (SH L) M o := by
          exact h
        exact aX_seg 6 (fun n g => ip c3 ((congrArg (fun tt => aRun tgT gP n xc_315 (aSeek xc_315 (aTo 33 tt)) [aR 0, aR 1, aR 145, aI a3] [] (SH L) M) ee).trans g)) t34
      by_cases cc31 : aAnd (M 0 a3) 63 = 31
      · replace h := h.2.2.2.2.2.2.2.2.2.2.2.2.2.2.2.2.2.2.2.2.2.2.2.2.2.2.2.2.2.2.2.1 cc31
        have ee : aTab 0 42 1500 #[187, 250, 273, 286, 299, 332, 401, 424, 457, 490, 503, 536, 585, 618, 651, 674, 687, 710, 733, 756, 769, 792, 841, 854, 877, 900, 923, 956, 989, 1002, 1025, 1068, 1101, 1144, 1213, 1236, 1279, 1302, 1345, 1398, 1431, 1454, 1477] (aAnd (M 0 a3) 63) = 1068 := by rw [cc31]; rfl
        have t35 : aX xc_315 (aSeek xc_315 1101) [aR 0, aR 1, aR 145, aI a3] [] (SH L) M o := by
          exact h
        exact aX_seg 6 (fun n g => ip c3 ((congrArg (fun tt => aRun tgT gP n xc_315 (aSeek xc_315 (aTo 33 tt)) [aR 0, aR 1, aR 145, aI a3] [] (SH L) M) ee).trans g)) t35
      by_cases cc32 : aAnd (M 0 a3) 63 = 32
      · replace h := h.2.2.2.2.2.2.2.2.2.2.2.2.2.2.2.2.2.2.2.2.2.2.2.2.2.2.2.2.2.2.2.2.1 cc32
        have ee : aTab 0 42 1500 #[187, 250, 273, 286, 299, 332, 401, 424, 457, 490, 503, 536, 585, 618, 651, 674, 687, 710, 733, 756, 769, 792, 841, 854, 877, 900, 923, 956, 989, 1002, 1025, 1068, 1101, 1144, 1213, 1236, 1279, 1302, 1345, 1398, 1431, 1454, 1477] (aAnd (M 0 a3) 63) = 1101 := by rw [cc32]; rfl
        have t36 : aX xc_315 (aSeek xc_315 1134) [aR 0, aR 1, aR 145, aI a3] [] (SH L) M o := by
          exact h
        exact aX_seg 6 (fun n g => ip c3 ((congrArg (fun tt => aRun tgT gP n xc_315 (aSeek xc_315 (aTo 33 tt)) [aR 0, aR 1, aR 145, aI a3] [] (SH L) M) ee).trans g)) t36
      by_cases cc33 : aAnd (M 0 a3) 63 = 33
      · replace h := h.2.2.2.2.2.2.2.2.2.2.2.2.2.2.2.2.2.2.2.2.2.2.2.2.2.2.2.2.2.2.2.2.2.1 cc33
        have ee : aTab 0 42 1500 #[187, 250, 273, 286, 299, 332, 401, 424, 457, 490, 503, 536, 585, 618, 651, 674, 687, 710, 733, 756, 769, 792, 841, 854, 877, 900, 923, 956, 989, 1002, 1025, 1068, 1101, 1144, 1213, 1236, 1279, 1302, 1345, 1398, 1431, 1454, 1477] (aAnd (M 0 a3) 63) = 1144 := by rw [cc33]; rfl
        have t37 : aX xc_315 (aSeek xc_315 1177) [aR 0, aR 1, aR 145, aI a3] [] (SH L) M o := by
          exact h
        exact aX_seg 6 (fun n g => ip c3 ((congrArg (fun tt => aRun tgT gP n xc_315 (aSeek xc_315 (aTo 33 tt)) [aR 0, aR 1, aR 145, aI a3] [] (SH L) M) ee).trans g)) t37
      by_cases cc34 : aAnd (M 0 a3) 63 = 34
      · replace h := h.2.2.2.2.2.2.2.2.2.2.2.2.2.2.2.2.2.2.2.2.2.2.2.2.2.2.2.2.2.2.2.2.2.2.1 cc34
        have ee : aTab 0 42 1500 #[187, 250, 273, 286, 299, 332, 401, 424, 457, 490, 503, 536, 585, 618, 651, 674, 687, 710, 733, 756, 769, 792, 841, 854, 877, 900, 923, 956, 989, 1002, 1025, 1068, 1101, 1144, 1213, 1236, 1279, 1302, 1345, 1398, 1431, 1454, 1477] (aAnd (M 0 a3) 63) = 1213 := by rw [cc34]; rfl
        have t38 : aX xc_315 (aSeek xc_315 1246) [aR 0, aR 1, aR 145, aI a3] [] (SH L) M o := by
          exact h
        exact aX_seg 6 (fun n g => ip c3 ((congrArg (fun tt => aRun tgT gP n xc_315 (aSeek xc_315 (aTo 33 tt)) [aR 0, aR 1, aR 145, aI a3] [] (SH L) M) ee).trans g)) t38
      by_cases cc35 : aAnd (M 0 a3) 63 = 35
      · replace h := h.2.2.2.2.2.2.2.2.2.2.2.2.2.2.2.2.2.2.2.2.2.2.2.2.2.2.2.2.2.2.2.2.2.2.2.1 cc35
        have ee : aTab 0 42 1500 #[187, 250, 273, 286, 299, 332, 401, 424, 457, 490, 503, 536, 585, 618, 651, 674, 687, 710, 733, 756, 769, 792, 841, 854, 877, 900, 923, 956, 989, 1002, 1025, 1068, 1101, 1144, 1213, 1236, 1279, 1302, 1345, 1398, 1431, 1454, 1477] (aAnd (M 0 a3) 63) = 1236 := by rw [cc35]; rfl
        have t39 : aX xc_315 (aSeek xc_315 1269) [aR 0, aR 1, aR 145, aI a3] [] (SH L) M o := by
          exact h
        exact aX_seg 6 (fun n g => ip c3 ((congrArg (fun tt => aRun tgT gP n xc_315 (aSeek xc_315 (aTo 33 tt)) [aR 0, aR 1, aR 145, aI a3] [] (SH L) M) ee).trans g)) t39
      by_cases cc36 : aAnd (M 0 a3) 63 = 36
      · replace h := h.2.2.2.2.2.2.2.2.2.2.2.2.2.2.2.2.2.2.2.2.2.2.2.2.2.2.2.2.2.2.2.2.2.2.2.2.1 cc36
        have ee : aTab 0 42 1500 #[187, 250, 273, 286, 299, 332, 401, 424, 457, 490, 503, 536, 585, 618, 651, 674, 687, 710, 733, 756, 769, 792, 841, 854, 877, 900, 923, 956, 989, 1002, 1025, 1068, 1101, 1144, 1213, 1236, 1279, 1302, 1345, 1398, 1431, 1454, 1477] (aAnd (M 0 a3) 63) = 1279 := by rw [cc36]; rfl
        have t40 : aX xc_315 (aSeek xc_315 1312) [aR 0, aR 1, aR 145, aI a3] [] (SH L) M o := by
          exact h
        exact aX_seg 6 (fun n g => ip c3 ((congrArg (fun tt => aRun tgT gP n xc_315 (aSeek xc_315 (aTo 33 tt)) [aR 0, aR 1, aR 145, aI a3] [] (SH L) M) ee).trans g)) t40
      by_cases cc37 : aAnd (M 0 a3) 63 = 37
      · replace h := h.2.2.2.2.2.2.2.2.2.2.2.2.2.2.2.2.2.2.2.2.2.2.2.2.2.2.2.2.2.2.2.2.2.2.2.2.2.1 cc37
        have ee : aTab 0 42 1500 #[187, 250, 273, 286, 299, 332, 401, 424, 457, 490, 503, 536, 585, 618, 651, 674, 687, 710, 733, 756, 769, 792, 841, 854, 877, 900, 923, 956, 989, 1002, 1025, 1068, 1101, 1144, 1213, 1236, 1279, 1302, 1345, 1398, 1431, 1454, 1477] (aAnd (M 0 a3) 63) = 1302 := by rw [cc37]; rfl
        have t41 : aX xc_315 (aSeek xc_315 1335) [aR 0, aR 1, aR 145, aI a3] [] (SH L) M o := by
          exact h
        exact aX_seg 6 (fun n g => ip c3 ((congrArg (fun tt => aRun tgT gP n xc_315 (aSeek xc_315 (aTo 33 tt)) [aR 0, aR 1, aR 145, aI a3] [] (SH L) M) ee).trans g)) t41
      by_cases cc38 : aAnd (M 0 a3) 63 = 38
      · replace h := h.2.2.2.2.2.2.2.2.2.2.2.2.2.2.2.2.2.2.2.2.2.2.2.2.2.2.2.2.2.2.2.2.2.2.2.2.2.2.1 cc38
        have ee : aTab 0 42 1500 #[187, 250, 273, 286, 299, 332, 401, 424, 457, 490, 503, 536, 585, 618, 651, 674, 687, 710, 733, 756, 769, 792, 841, 854, 877, 900, 923, 956, 989, 1002, 1025, 1068, 1101, 1144, 1213, 1236, 1279, 1302, 1345, 1398, 1431, 1454, 1477] (aAnd (M 0 a3) 63) = 1345 := by rw [cc38]; rfl
        have t42 : aX xc_315 (aSeek xc_315 1378) [aR 0, aR 1, aR 145, aI a3] [] (SH L) M o := by
          exact h
        exact aX_seg 6 (fun n g => ip c3 ((congrArg (fun tt => aRun tgT gP n xc_315 (aSeek xc_315 (aTo 33 tt)) [aR 0, aR 1, aR 145, aI a3] [] (SH L) M) ee).trans g)) t42
      by_cases cc39 : aAnd (M 0 a3) 63 = 39
      · replace h := h.2.2.2.2.2.2.2.2.2.2.2.2.2.2.2.2.2.2.2.2.2.2.2.2.2.2.2.2.2.2.2.2.2.2.2.2.2.2.2.1 cc39
        have ee : aTab 0 42 1500 #[187, 250, 273, 286, 299, 332, 401, 424, 457, 490, 503, 536, 585, 618, 651, 674, 687, 710, 733, 756, 769, 792, 841, 854, 877, 900, 923, 956, 989, 1002, 1025, 1068, 1101, 1144, 1213, 1236, 1279, 1302, 1345, 1398, 1431, 1454, 1477] (aAnd (M 0 a3) 63) = 1398 := by rw [cc39]; rfl
        have t43 : aX xc_315 (aSeek xc_315 1431) [aR 0, aR 1, aR 145, aI a3] [] (SH L) M o := by
          exact h
        exact aX_seg 6 (fun n g => ip c3 ((congrArg (fun tt => aRun tgT gP n xc_315 (aSeek xc_315 (aTo 33 tt)) [aR 0, aR 1, aR 145, aI a3] [] (SH L) M) ee).trans g)) t43
      by_cases cc40 : aAnd (M 0 a3) 63 = 40
      · replace h := h.2.2.2.2.2.2.2.2.2.2.2.2.2.2.2.2.2.2.2.2.2.2.2.2.2.2.2.2.2.2.2.2.2.2.2.2.2.2.2.2.1 cc40
        have ee : aTab 0 42 1500 #[187, 250, 273, 286, 299, 332, 401, 424, 457, 490, 503, 536, 585, 618, 651, 674, 687, 710, 733, 756, 769, 792, 841, 854, 877, 900, 923, 956, 989, 1002, 1025, 1068, 1101, 1144, 1213, 1236, 1279, 1302, 1345, 1398, 1431, 1454, 1477] (aAnd (M 0 a3) 63) = 1431 := by rw [cc40]; rfl
        have t44 : aX xc_315 (aSeek xc_315 1464) [aR 0, aR 1, aR 145, aI a3] [] (SH L) M o := by
          exact h
        exact aX_seg 6 (fun n g => ip c3 ((congrArg (fun tt => aRun tgT gP n xc_315 (aSeek xc_315 (aTo 33 tt)) [aR 0, aR 1, aR 145, aI a3] [] (SH L) M) ee).trans g)) t44
      by_cases cc41 : aAnd (M 0 a3) 63 = 41
      · replace h := h.2.2.2.2.2.2.2.2.2.2.2.2.2.2.2.2.2.2.2.2.2.2.2.2.2.2.2.2.2.2.2.2.2.2.2.2.2.2.2.2.2.1 cc41
        have ee : aTab 0 42 1500 #[187, 250, 273, 286, 299, 332, 401, 424, 457, 490, 503, 536, 585, 618, 651, 674, 687, 710, 733, 756, 769, 792, 841, 854, 877, 900, 923, 956, 989, 1002, 1025, 1068, 1101, 1144, 1213, 1236, 1279, 1302, 1345, 1398, 1431, 1454, 1477] (aAnd (M 0 a3) 63) = 1454 := by rw [cc41]; rfl
        have t45 : aX xc_315 (aSeek xc_315 1487) [aR 0, aR 1, aR 145, aI a3] [] (SH L) M o := by
          exact h
        exact aX_seg 6 (fun n g => ip c3 ((congrArg (fun tt => aRun tgT gP n xc_315 (aSeek xc_315 (aTo 33 tt)) [aR 0, aR 1, aR 145, aI a3] [] (SH L) M) ee).trans g)) t45
      by_cases cc42 : aAnd (M 0 a3) 63 = 42
      · replace h := h.2.2.2.2.2.2.2.2.2.2.2.2.2.2.2.2.2.2.2.2.2.2.2.2.2.2.2.2.2.2.2.2.2.2.2.2.2.2.2.2.2.2.1 cc42
        have ee : aTab 0 42 1500 #[187, 250, 273, 286, 299, 332, 401, 424, 457, 490, 503, 536, 585, 618, 651, 674, 687, 710, 733, 756, 769, 792, 841, 854, 877, 900, 923, 956, 989, 1002, 1025, 1068, 1101, 1144, 1213, 1236, 1279, 1302, 1345, 1398, 1431, 1454, 1477] (aAnd (M 0 a3) 63) = 1477 := by rw [cc42]; rfl
        have t46 : aX xc_315 (aSeek xc_315 1510) [aR 0, aR 1, aR 145, aI a3] [] (SH L) M o := by
          exact h
        exact aX_seg 6 (fun n g => ip c3 ((congrArg (fun tt => aRun tgT gP n xc_315 (aSeek xc_315 (aTo 33 tt)) [aR 0, aR 1, aR 145, aI a3] [] (SH L) M) ee).trans g)) t46
      replace h := h.2.2.2.2.2.2.2.2.2.2.2.2.2.2.2.2.2.2.2.2.2.2.2.2.2.2.2.2.2.2.2.2.2.2.2.2.2.2.2.2.2.2.2 cc0 cc1 cc2 cc3 cc4 cc5 cc6 cc7 cc8 cc9 cc10 cc11 cc12 cc13 cc14 cc15 cc16 cc17 cc18 cc19 cc20 cc21 cc22 cc23 cc24 cc25 cc26 cc27 cc28 cc29 cc30 cc31 cc32 cc33 cc34 cc35 cc36 cc37 cc38 cc39 cc40 cc41 cc42
      have ee : aTab 0 42 1500 #[187, 250, 273, 286, 299, 332, 401, 424, 457, 490, 503, 536, 585, 618, 651, 674, 687, 710, 733, 756, 769, 792, 841, 854, 877, 900, 923, 956, 989, 1002, 1025, 1068, 1101, 1144, 1213, 1236, 1279, 1302, 1345, 1398, 1431, 1454, 1477] (aAnd (M 0 a3) 63) = 1500 := by unfold aTab; rw [if_pos (by omega)]
      have t47 : aX xc_315 (aSeek xc_315 1533) [aR 0, aR 1, aR 145, aI a3] [] (SH L) M o := by
        exact h
      exact aX_seg 6 (fun n g => ip c3 ((congrArg (fun tt => aRun tgT gP n xc_315 (aSeek xc_315 (aTo 33 tt)) [aR 0, aR 1, aR 145, aI a3] [] (SH L) M) ee).trans g)) t47
    exact aX_seg 6 (fun n g => in_ cc (g)) t2
set_option maxRecDepth 100000 in
theorem bl_315_220 {L : Nat} {a3 : Int} {M : aM} {o : aO} (h : (0 ≤ aW (a3 + 1) ∧ aW (a3 + 1) < aLn (SH L) 9 0) ∧ (0 ≤ aW (a3 + 2) ∧ aW (a3 + 2) < aLn (SH L) 9 0) ∧ (0 ≤ aW (a3 + 3) ∧ aW (a3 + 3) < aLn (SH L) 9 0) ∧ (0 ≤ aW (a3 + 4) ∧ aW (a3 + 4) < aLn (SH L) 9 0) ∧ (0 ≤ aW (a3 + 5) ∧ aW (a3 + 5) < aLn (SH L) 9 0) ∧ (∃ (M1 : aM) (v2 : Int), aE 14 [aR 1, aI (M 0 (aW (a3 + 1))), aI (M 0 (aW (a3 + 2))), aI (M 0 (aW (a3 + 3))), aI (M 0 (aW (a3 + 4))), aI (M 0 (aW (a3 + 5)))] (SH L) M ([aI v2], (SH L), M1) ∧ (0 ≤ aW (a3 + 1) ∧ aW (a3 + 1) < aLn (SH L) 9 0) ∧ (0 ≤ aW (a3 + 2) ∧ aW (a3 + 2) < aLn (SH L) 9 0) ∧ (0 ≤ aW (a3 + 3) ∧ aW (a3 + 3) < aLn (SH L) 9 0) ∧ (0 ≤ aW (a3 + 4) ∧ aW (a3 + 4) < aLn (SH L) 9 0) ∧ (0 ≤ aW (a3 + 5) ∧ aW (a3 + 5) < aLn (SH L) 9 0) ∧ (∃ (M3 : aM) (v4 : Int), aE 181 [aR 145, aI (M1 0 (aW (a3 + 1))), aI (M1 0 (aW (a3 + 2))), aI (M1 0 (aW (a3 + 3))), aI (M1 0 (aW (a3 + 4))), aI (M1 0 (aW (a3 + 5)))] (SH L) M1 ([aI v4], (SH L), M3) ∧ ((v2 = v4 → aX xc_315 (aSeek xc_315 1533) [aR 0, aR 1, aR 145, aI a3] [] (SH L) M3 o) ∧ (¬ (v2 = v4) → o = ([aI 0], (SH L), M3)))))) : aX xc_315 (aSeek xc_315 220) [aR 0, aR 1, aR 145, aI a3] [] (SH L) M o := by
  obtain ⟨c5, h⟩ := h
  obtain ⟨c6, h⟩ := h
  obtain ⟨c7, h⟩ := h
  obtain ⟨c8, h⟩ := h
  obtain ⟨c9, h⟩ := h
  obtain ⟨M1, v2, k10, h⟩ := h
  have h2 : aX xc_315 (aSeek xc_315 249) [aR 0, aR 1, aR 145, aI a3] [aI v2] (SH L) M1 o := by
    obtain ⟨c11, h⟩ := h
    obtain ⟨c12, h⟩ := h
    obtain ⟨c13, h⟩ := h
    obtain ⟨c14, h⟩ := h
    obtain ⟨c15, h⟩ := h
    obtain ⟨M3, v4, k16, h⟩ := h
    have h2 : aX xc_315 (aSeek xc_315 278) [aR 0, aR 1, aR 145, aI a3] [aI v4, aI v2] (SH L) M3 o := by
      by_cases cc : v2 = v4
      · replace h := h.1 cc
        have t17 : aX xc_315 (aSeek xc_315 1533) [aR 0, aR 1, aR 145, aI a3] [] (SH L) M3 o := by
          exact h
        exact aX_seg 1 (fun n g => ip cc (g)) t17
      · replace h := h.2 cc
        have t18 : aX xc_315 (aSeek xc_315 281) [aR 0, aR 1, aR 145, aI a3] [] (SH L) M3 o := by
          subst h
          exact ⟨2, rfl⟩
        exact aX_seg 1 (fun n g => in_ cc (g)) t18
    exact aX_seg 26 (fun n g => ip c11 (ip c12 (ip c13 (ip c14 (ip c15 (g)))))) (aX_callv (rfl) rfl rfl rfl k16 h2)
  exact aX_seg 26 (fun n g => ip c5 (ip c6 (ip c7 (ip c8 (ip c9 (g)))))) (aX_callv (rfl) rfl rfl rfl k10 h2)
set_option maxRecDepth 100000 in
theorem bl_315_283 {L : Nat} {a3 : Int} {M : aM} {o : aO} (h : (0 ≤ aW (a3 + 1) ∧ aW (a3 + 1) < aLn (SH L) 9 0) ∧ (∃ (M1 : aM) (v2 : Int), aE 15 [aR 1, aI (M 0 (aW (a3 + 1)))] (SH L) M ([aI v2], (SH L), M1) ∧ (0 ≤ aW (a3 + 1) ∧ aW (a3 + 1) < aLn (SH L) 9 0) ∧ (∃ (M3 : aM) (v4 : Int), aE 182 [aR 145, aI (M1 0 (aW (a3 + 1)))] (SH L) M1 ([aI v4], (SH L), M3) ∧ ((v2 = v4 → aX xc_315 (aSeek xc_315 1533) [aR 0, aR 1, aR 145, aI a3] [] (SH L) M3 o) ∧ (¬ (v2 = v4) → o = ([aI 0], (SH L), M3)))))) : aX xc_315 (aSeek xc_315 283) [aR 0, aR 1, aR 145, aI a3] [] (SH L) M o := by
  obtain ⟨c5, h⟩ := h
  obtain ⟨M1, v2, k6, h⟩ := h
  have h2 : aX xc_315 (aSeek xc_315 292) [aR 0, aR 1, aR 145, aI a3] [aI v2] (SH L) M1 o := by
    obtain ⟨c7, h⟩ := h
    obtain ⟨M3, v4, k8, h⟩ := h
    have h2 : aX xc_315 (aSeek xc_315 301) [aR 0, aR 1, aR 145, aI a3] [aI v4, aI v2] (SH L) M3 o := by
      by_cases cc : v2 = v4
      · replace h := h.1 cc
        have t9 : aX xc_315 (aSeek xc_315 1533) [aR 0, aR 1, aR 145, aI a3] [] (SH L) M3 o := by
          exact h
        exact aX_seg 1 (fun n g => ip cc (g)) t9
      · replace h := h.2 cc
        have t10 : aX xc_315 (aSeek xc_315 304) [aR 0, aR 1, aR 145, aI a3] [] (SH L) M3 o := by
          subst h
          exact ⟨2, rfl⟩
        exact aX_seg 1 (fun n g => in_ cc (g)) t10
    exact aX_seg 6 (fun n g => ip c7 (g)) (aX_callv (rfl) rfl rfl rfl k8 h2)
  exact aX_seg 6 (fun n g => ip c5 (g)) (aX_callv (rfl) rfl rfl rfl k6 h2)
set_option maxRecDepth 100000 in
theorem bl_315_306 {L : Nat} {a3 : Int} {M : aM} {o : aO} (h : (∃ (M1 : aM) (v2 : Int), aE 53 [aR 1] (SH L) M ([aI v2], (SH L), M1) ∧ (∃ (M3 : aM) (v4 : Int), aE 214 [aR 145] (SH L) M1 ([aI v4], (SH L), M3) ∧ ((v2 = v4 → aX xc_315 (aSeek xc_315 1533) [aR 0, aR 1, aR 145, aI a3] [] (SH L) M3 o) ∧ (¬ (v2 = v4) → o = ([aI 0], (SH L), M3)))))) : aX xc_315 (aSeek xc_315 306) [aR 0, aR 1, aR 145, aI a3] [] (SH L) M o := by
  obtain ⟨M1, v2, k5, h⟩ := h
  have h2 : aX xc_315 (aSeek xc_315 310) [aR 0, aR 1, aR 145, aI a3] [aI v2] (SH L) M1 o := by
    obtain ⟨M3, v4, k6, h⟩ := h
    have h2 : aX xc_315 (aSeek xc_315 314) [aR 0, aR 1, aR 145, aI a3] [aI v4, aI v2] (SH L) M3 o := by
      by_cases cc : v2 = v4
      · replace h := h.1 cc
        have t7 : aX xc_315 (aSeek xc_315 1533) [aR 0, aR 1, aR 145, aI a3] [] (SH L) M3 o := by
          exact h
        exact aX_seg 1 (fun n g => ip cc (g)) t7
      · replace h := h.2 cc
        have t8 : aX xc_315 (aSeek xc_315 317) [aR 0, aR 1, aR 145, aI a3] [] (SH L) M3 o := by
          subst h
          exact ⟨2, rfl⟩
        exact aX_seg 1 (fun n g => in_ cc (g)) t8
    exact aX_seg 1 (fun n g => g) (aX_callv (rfl) rfl rfl rfl k6 h2)
  exact aX_seg 1 (fun n g => g) (aX_callv (rfl) rfl rfl rfl k5 h2)
set_option maxRecDepth 100000 in
theorem bl_315_319 {L : Nat} {a3 : Int} {M : aM} {o : aO} (h : (∃ (M1 : aM) (v2 : Int), aE 54 [aR 1] (SH L) M ([aI v2], (SH L), M1) ∧ (∃ (M3 : aM) (v4 : Int), aE 215 [aR 145] (SH L) M1 ([aI v4], (SH L), M3) ∧ ((v2 = v4 → aX xc_315 (aSeek xc_315 1533) [aR 0, aR 1, aR 145, aI a3] [] (SH L) M3 o) ∧ (¬ (v2 = v4) → o = ([aI 0], (SH L), M3)))))) : aX xc_315 (aSeek xc_315 319) [aR 0, aR 1, aR 145, aI a3] [] (SH L) M o := by
  obtain ⟨M1, v2, k5, h⟩ := h
  have h2 : aX xc_315 (aSeek xc_315 323) [aR 0, aR 1, aR 145, aI a3] [aI v2] (SH L) M1 o := by
    obtain ⟨M3, v4, k6, h⟩ := h
    have h2 : aX xc_315 (aSeek xc_315 327) [aR 0, aR 1, aR 145, aI a3] [aI v4, aI v2] (SH L) M3 o := by
      by_cases cc : v2 = v4
      · replace h := h.1 cc
        have t7 : aX xc_315 (aSeek xc_315 1533) [aR 0, aR 1, aR 145, aI a3] [] (SH L) M3 o := by
          exact h
        exact aX_seg 1 (fun n g => ip cc (g)) t7
      · replace h := h.2 cc
        have t8 : aX xc_315 (aSeek xc_315 330) [aR 0, aR 1, aR 145, aI a3] [] (SH L) M3 o := by
          subst h
          exact ⟨2, rfl⟩
        exact aX_seg 1 (fun n g => in_ cc (g)) t8
    exact aX_seg 1 (fun n g => g) (aX_callv (rfl) rfl rfl rfl k6 h2)
  exact aX_seg 1 (fun n g => g) (aX_callv (rfl) rfl rfl rfl k5 h2)
set_option maxRecDepth 100000 in
theorem bl_315_332 {L : Nat} {a3 : Int} {M : aM} {o : aO} (h : (0 ≤ aW (a3 + 1) ∧ aW (a3 + 1) < aLn (SH L) 9 0) ∧ (0 ≤ aW (a3 + 2) ∧ aW (a3 + 2) < aLn (SH L) 9 0) ∧ (∃ (M1 : aM) (v2 : Int), aE 56 [aR 1, aI (M 0 (aW (a3 + 1))), aI (M 0 (aW (a3 + 2)))] (SH L) M ([aI v2], (SH L), M1) ∧ (0 ≤ aW (a3 + 1) ∧ aW (a3 + 1) < aLn (SH L) 9 0) ∧ (0 ≤ aW (a3 + 2) ∧ aW (a3 + 2) < aLn (SH L) 9 0) ∧ (∃ (M3 : aM) (v4 : Int), aE 222 [aR 145, aI (M1 0 (aW (a3 + 1))), aI (M1 0 (aW (a3 + 2)))] (SH L) M1 ([aI v4], (SH L), M3) ∧ ((v2 = v4 → aX xc_315 (aSeek xc_315 1533) [aR 0, aR 1, aR 145, aI a3] [] (SH L) M3 o) ∧ (¬ (v2 = v4) → o = ([aI 0], (SH L), M3)))))) : aX xc_315 (aSeek xc_315 332) [aR 0, aR 1, aR 145, aI a3] [] (SH L) M o := by
  obtain ⟨c5, h⟩ := h
  obtain ⟨c6, h⟩ := h
  obtain ⟨M1, v2, k7, h⟩ := h
  have h2 : aX xc_315 (aSeek xc_315 346) [aR 0, aR 1, aR 145, aI a3] [aI v2] (SH L) M1 o := by
    obtain ⟨c8, h⟩ := h
    obtain ⟨c9, h⟩ := h
    obtain ⟨M3, v4, k10, h⟩ := h
    have h2 : aX xc_315 (aSeek xc_315 360) [aR 0, aR 1, aR 145, aI a3] [aI v4, aI v2] (SH L) M3 o := by
      by_cases cc : v2 = v4
      · replace h := h.1 cc
        have t11 : aX xc_315 (aSeek xc_315 1533) [aR 0, aR 1, aR 145, aI a3] [] (SH L) M3 o := by
          exact h
        exact aX_seg 1 (fun n g => ip cc (g)) t11
      · replace h := h.2 cc
        have t12 : aX xc_315 (aSeek xc_315 363) [aR 0, aR 1, aR 145, aI a3] [] (SH L) M3 o := by
          subst h
          exact ⟨2, rfl⟩
        exact aX_seg 1 (fun n g => in_ cc (g)) t12
    exact aX_seg 11 (fun n g => ip c8 (ip c9 (g))) (aX_callv (rfl) rfl rfl rfl k10 h2)
  exact aX_seg 11 (fun n g => ip c5 (ip c6 (g))) (aX_callv (rfl) rfl rfl rfl k7 h2)
set_option maxRecDepth 100000 in
theorem bl_315_365 {L : Nat} {a3 : Int} {M : aM} {o : aO} (h : (0 ≤ aW (a3 + 1) ∧ aW (a3 + 1) < aLn (SH L) 9 0) ∧ (0 ≤ aW (a3 + 2) ∧ aW (a3 + 2) < aLn (SH L) 9 0) ∧ (0 ≤ aW (a3 + 3) ∧ aW (a3 + 3) < aLn (SH L) 9 0) ∧ (0 ≤ aW (a3 + 4) ∧ aW (a3 + 4) < aLn (SH L) 9 0) ∧ (((M 0 (aW (a3 + 4))) = 0 → aX xc_315 (aSeek xc_315 394) [aR 0, aR 1, aR 145, aI a3] [aI 0, aI (M 0 (aW (a3 + 3))), aI (M 0 (aW (a3 + 2))), aI (M 0 (aW (a3 + 1))), aR 1] (SH L) M o) ∧ (¬ ((M 0 (aW (a3 + 4))) = 0) → aX xc_315 (aSeek xc_315 394) [aR 0, aR 1, aR 145, aI a3] [aI 1, aI (M 0 (aW (a3 + 3))), aI (M 0 (aW (a3 + 2))), aI (M 0 (aW (a3 + 1))), aR 1] (SH L) M o))) : aX xc_315 (aSeek xc_315 365) [aR 0, aR 1, aR 145, aI a3] [] (SH L) M o := by
  obtain ⟨c1, h⟩ := h
  obtain ⟨c2, h⟩ := h
  obtain ⟨c3, h⟩ := h
  obtain ⟨c4, h⟩ := h
  by_cases cc : (M 0 (aW (a3 + 4))) = 0
  · replace h := h.1 cc
    have t5 : aX xc_315 (aSeek xc_315 393) [aR 0, aR 1, aR 145, aI a3] [aI (M 0 (aW (a3 + 3))), aI (M 0 (aW (a3 + 2))), aI (M 0 (aW (a3 + 1))), aR 1] (SH L) M o := by
      exact aX_seg 1 (fun n g => g) (h)
    exact aX_seg 22 (fun n g => ip c1 (ip c2 (ip c3 (ip c4 (ip cc (g)))))) t5
  · replace h := h.2 cc
    have t6 : aX xc_315 (aSeek xc_315 389) [aR 0, aR 1, aR 145, aI a3] [aI (M 0 (aW (a3 + 3))), aI (M 0 (aW (a3 + 2))), aI (M 0 (aW (a3 + 1))), aR 1] (SH L) M o := by
      exact aX_seg 2 (fun n g => g) (h)
    exact aX_seg 22 (fun n g => ip c1 (ip c2 (ip c3 (ip c4 (in_ cc (g)))))) t6
set_option maxRecDepth 100000 in
theorem bl_315_394 {L : Nat} {a3 b0 b1 b2 b3 b4 : Int} {M : aM} {o : aO} (h : (aK (SH L) b0 = 21 ∧ ∃ (M1 : aM) (v2 : Int), aE 62 [aR b0, aI b1, aI b2, aI b3, aI b4] (SH L) M ([aI v2], (SH L), M1) ∧ (0 ≤ aW (a3 + 1) ∧ aW (a3 + 1) < aLn (SH L) 9 0) ∧ (0 ≤ aW (a3 + 2) ∧ aW (a3 + 2) < aLn (SH L) 9 0) ∧ (0 ≤ aW (a3 + 3) ∧ aW (a3 + 3) < aLn (SH L) 9 0) ∧ (0 ≤ aW (a3 + 4) ∧ aW (a3 + 4) < aLn (SH L) 9 0) ∧ (((M1 0 (aW (a3 + 4))) = 0 → aX xc_315 (aSeek xc_315 426) [aR 0, aR 1, aR 145, aI a3] [aI 0, aI (M1 0 (aW (a3 + 3))), aI (M1 0 (aW (a3 + 2))), aI (M1 0 (aW (a3 + 1))), aR 145, aI v2] (SH L) M1 o) ∧ (¬ ((M1 0 (aW (a3 + 4))) = 0) → aX xc_315 (aSeek xc_315 426) [aR 0, aR 1, aR 145, aI a3] [aI 1, aI (M1 0 (aW (a3 + 3))), aI (M1 0 (aW (a3 + 2))), aI (M1 0 (aW (a3 + 1))), aR 145, aI v2] (SH L) M1 o)))) : aX xc_315 (aSeek xc_315 394) [aR 0, aR 1, aR 145, aI a3] [aI b4, aI b3, aI b2, aI b1, aR b0] (SH L) M o := by
  obtain ⟨c3, h⟩ := h
  obtain ⟨M1, v2, k4, h⟩ := h
  have h2 : aX xc_315 (aSeek xc_315 397) [aR 0, aR 1, aR 145, aI a3] [aI v2] (SH L) M1 o := by
    obtain ⟨c5, h⟩ := h
    obtain ⟨c6, h⟩ := h
    obtain ⟨c7, h⟩ := h
    obtain ⟨c8, h⟩ := h
    by_cases cc : (M1 0 (aW (a3 + 4))) = 0
    · replace h := h.1 cc
      have t9 : aX xc_315 (aSeek xc_315 425) [aR 0, aR 1, aR 145, aI a3] [aI (M1 0 (aW (a3 + 3))), aI (M1 0 (aW (a3 + 2))), aI (M1 0 (aW (a3 + 1))), aR 145, aI v2] (SH L) M1 o := by
        exact aX_seg 1 (fun n g => g) (h)
      exact aX_seg 22 (fun n g => ip c5 (ip c6 (ip c7 (ip c8 (ip cc (g)))))) t9
    · replace h := h.2 cc
      have t10 : aX xc_315 (aSeek xc_315 421) [aR 0, aR 1, aR 145, aI a3] [aI (M1 0 (aW (a3 + 3))), aI (M1 0 (aW (a3 + 2))), aI (M1 0 (aW (a3 + 1))), aR 145, aI v2] (SH L) M1 o := by
        exact aX_seg 2 (fun n g => g) (h)
      exact aX_seg 22 (fun n g => ip c5 (ip c6 (ip c7 (ip c8 (in_ cc (g)))))) t10
  exact aX_callv (c3) rfl rfl rfl k4 h2
set_option maxRecDepth 100000 in
theorem bl_315_426 {L : Nat} {a3 b0 b1 b2 b3 b4 b5 : Int} {M : aM} {o : aO} (h : (aK (SH L) b1 = 22 ∧ ∃ (M1 : aM) (v2 : Int), aE 227 [aR b1, aI b2, aI b3, aI b4, aI b5] (SH L) M ([aI v2], (SH L), M1) ∧ ((b0 = v2 → aX xc_315 (aSeek xc_315 1533) [aR 0, aR 1, aR 145, aI a3] [] (SH L) M1 o) ∧ (¬ (b0 = v2) → o = ([aI 0], (SH L), M1))))) : aX xc_315 (aSeek xc_315 426) [aR 0, aR 1, aR 145, aI a3] [aI b5, aI b4, aI b3, aI b2, aR b1, aI b0] (SH L) M o := by
  obtain ⟨c3, h⟩ := h
  obtain ⟨M1, v2, k4, h⟩ := h
  have h2 : aX xc_315 (aSeek xc_315 429) [aR 0, aR 1, aR 145, aI a3] [aI v2, aI b0] (SH L) M1 o := by
    by_cases cc : b0 = v2
    · replace h := h.1 cc
      have t5 : aX xc_315 (aSeek xc_315 1533) [aR 0, aR 1, aR 145, aI a3] [] (SH L) M1 o := by
        exact h
      exact aX_seg 1 (fun n g => ip cc (g)) t5
    · replace h := h.2 cc
      have t6 : aX xc_315 (aSeek xc_315 432) [aR 0, aR 1, aR 145, aI a3] [] (SH L) M1 o := by
        subst h
        exact ⟨2, rfl⟩
      exact aX_seg 1 (fun n g => in_ cc (g)) t6
  exact aX_callv (c3) rfl rfl rfl k4 h2
set_option maxRecDepth 100000 in
theorem bl_315_434 {L : Nat} {a3 : Int} {M : aM} {o : aO} (h : (0 ≤ aW (a3 + 1) ∧ aW (a3 + 1) < aLn (SH L) 9 0) ∧ (∃ (M1 : aM) (v2 : Int), aE 65 [aR 1, aI (M 0 (aW (a3 + 1)))] (SH L) M ([aI v2], (SH L), M1) ∧ (0 ≤ aW (a3 + 1) ∧ aW (a3 + 1) < aLn (SH L) 9 0) ∧ (∃ (M3 : aM) (v4 : Int), aE 228 [aR 145, aI (M1 0 (aW (a3 + 1)))] (SH L) M1 ([aI v4], (SH L), M3) ∧ ((v2 = v4 → aX xc_315 (aSeek xc_315 1533) [aR 0, aR 1, aR 145, aI a3] [] (SH L) M3 o) ∧ (¬ (v2 = v4) → o = ([aI 0], (SH L), M3)))))) : aX xc_315 (aSeek xc_315 434) [aR 0, aR 1, aR 145, aI a3] [] (SH L) M o := by
  obtain ⟨c5, h⟩ := h
  obtain ⟨M1, v2, k6, h⟩ := h
  have h2 : aX xc_315 (aSeek xc_315 443) [aR 0, aR 1, aR 145, aI a3] [aI v2] (SH L) M1 o := by
    obtain ⟨c7, h⟩ := h
    obtain ⟨M3, v4, k8, h⟩ := h
    have h2 : aX xc_315 (aSeek xc_315 452) [aR 0, aR 1, aR 145, aI a3] [aI v4, aI v2] (SH L) M3 o := by
      by_cases cc : v2 = v4
      · replace h := h.1 cc
        have t9 : aX xc_315 (aSeek xc_315 1533) [aR 0, aR 1, aR 145, aI a3] [] (SH L) M3 o := by
          exact h
        exact aX_seg 1 (fun n g => ip cc (g)) t9
      · replace h := h.2 cc
        have t10 : aX xc_315 (aSeek xc_315 455) [aR 0, aR 1, aR 145, aI a3] [] (SH L) M3 o := by
          subst h
          exact ⟨2, rfl⟩
        exact aX_seg 1 (fun n g => in_ cc (g)) t10
    exact aX_seg 6 (fun n g => ip c7 (g)) (aX_callv (rfl) rfl rfl rfl k8 h2)
  exact aX_seg 6 (fun n g => ip c5 (g)) (aX_callv (rfl) rfl rfl rfl k6 h2)
end BLK
