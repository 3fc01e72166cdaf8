/-! block rows of the law, written by a program -/
section BLK
set_option maxRecDepth 100000 in
theorem bl_315_707 {L : Nat} {a3 : Int} {M : aM} {o : aO} (h : (∃ (M1 : aM) (v2 : Int), aE 100 [aR 1] (SH L) M ([aI v2], (SH L), M1) ∧ (∃ (M3 : aM) (v4 : Int), aE 255 [aR 145] (SH L) M1 ([aI v4], (SH L), M3) ∧ ((v2 = v4 → aX xc_315 (aSeek xc_315 1533) [aR 0, aR 1, aR 145, aI a3] [] (SH L) M3 o) ∧ (¬ (v2 = v4) → o = ([aI 0], (SH L), M3)))))) : aX xc_315 (aSeek xc_315 707) [aR 0, aR 1, aR 145, aI a3] [] (SH L) M o := by
  obtain ⟨M1, v2, k5, h⟩ := h
  have h2 : aX xc_315 (aSeek xc_315 711) [aR 0, aR 1, aR 145, aI a3] [aI v2] (SH L) M1 o := by
    obtain ⟨M3, v4, k6, h⟩ := h
    have h2 : aX xc_315 (aSeek xc_315 715) [aR 0, aR 1, aR 145, aI a3] [aI v4, aI v2] (SH L) M3 o := by
      by_cases cc : v2 = v4
      · replace h := h.1 cc
        have t7 : aX xc_315 (aSeek xc_315 1533) [aR 0, aR 1, aR 145, aI a3] [] (SH L) M3 o := by
          exact h
        exact aX_seg 1 (fun n g => ip cc (g)) t7
      · replace h := h.2 cc
        have t8 : aX xc_315 (aSeek xc_315 718) [aR 0, aR 1, aR 145, aI a3] [] (SH L) M3 o := by
          subst h
          exact ⟨2, rfl⟩
        exact aX_seg 1 (fun n g => in_ cc (g)) t8
    exact aX_seg 1 (fun n g => g) (aX_callv (rfl) rfl rfl rfl k6 h2)
  exact aX_seg 1 (fun n g => g) (aX_callv (rfl) rfl rfl rfl k5 h2)
set_option maxRecDepth 100000 in
theorem bl_315_720 {L : Nat} {a3 : Int} {M : aM} {o : aO} (h : (0 ≤ aW (a3 + 1) ∧ aW (a3 + 1) < aLn (SH L) 9 0) ∧ (∃ (M1 : aM) (v2 : Int), aE 102 [aR 1, aI (M 0 (aW (a3 + 1)))] (SH L) M ([aI v2], (SH L), M1) ∧ (0 ≤ aW (a3 + 1) ∧ aW (a3 + 1) < aLn (SH L) 9 0) ∧ (∃ (M3 : aM) (v4 : Int), aE 257 [aR 145, aI (M1 0 (aW (a3 + 1)))] (SH L) M1 ([aI v4], (SH L), M3) ∧ ((v2 = v4 → aX xc_315 (aSeek xc_315 1533) [aR 0, aR 1, aR 145, aI a3] [] (SH L) M3 o) ∧ (¬ (v2 = v4) → o = ([aI 0], (SH L), M3)))))) : aX xc_315 (aSeek xc_315 720) [aR 0, aR 1, aR 145, aI a3] [] (SH L) M o := by
  obtain ⟨c5, h⟩ := h
  obtain ⟨M1, v2, k6, h⟩ := h
  have h2 : aX xc_315 (aSeek xc_315 729) [aR 0, aR 1, aR 145, aI a3] [aI v2] (SH L) M1 o := by
    obtain ⟨c7, h⟩ := h
    obtain ⟨M3, v4, k8, h⟩ := h
    have h2 : aX xc_315 (aSeek xc_315 738) [aR 0, aR 1, aR 145, aI a3] [aI v4, aI v2] (SH L) M3 o := by
      by_cases cc : v2 = v4
      · replace h := h.1 cc
        have t9 : aX xc_315 (aSeek xc_315 1533) [aR 0, aR 1, aR 145, aI a3] [] (SH L) M3 o := by
          exact h
        exact aX_seg 1 (fun n g => ip cc (g)) t9
      · replace h := h.2 cc
        have t10 : aX xc_315 (aSeek xc_315 741) [aR 0, aR 1, aR 145, aI a3] [] (SH L) M3 o := by
          subst h
          exact ⟨2, rfl⟩
        exact aX_seg 1 (fun n g => in_ cc (g)) t10
    exact aX_seg 6 (fun n g => ip c7 (g)) (aX_callv (rfl) rfl rfl rfl k8 h2)
  exact aX_seg 6 (fun n g => ip c5 (g)) (aX_callv (rfl) rfl rfl rfl k6 h2)
set_option maxRecDepth 100000 in
theorem bl_315_743 {L : Nat} {a3 : Int} {M : aM} {o : aO} (h : (0 ≤ aW (a3 + 1) ∧ aW (a3 + 1) < aLn (SH L) 9 0) ∧ (∃ (M1 : aM) (v2 : Int), aE 103 [aR 1, aI (M 0 (aW (a3 + 1)))] (SH L) M ([aI v2], (SH L), M1) ∧ (0 ≤ aW (a3 + 1) ∧ aW (a3 + 1) < aLn (SH L) 9 0) ∧ (∃ (M3 : aM) (v4 : Int), aE 258 [aR 145, aI (M1 0 (aW (a3 + 1)))] (SH L) M1 ([aI v4], (SH L), M3) ∧ ((v2 = v4 → aX xc_315 (aSeek xc_315 1533) [aR 0, aR 1, aR 145, aI a3] [] (SH L) M3 o) ∧ (¬ (v2 = v4) → o = ([aI 0], (SH L), M3)))))) : aX xc_315 (aSeek xc_315 743) [aR 0, aR 1, aR 145, aI a3] [] (SH L) M o := by
  obtain ⟨c5, h⟩ := h
  obtain ⟨M1, v2, k6, h⟩ := h
  have h2 : aX xc_315 (aSeek xc_315 752) [aR 0, aR 1, aR 145, aI a3] [aI v2] (SH L) M1 o := by
    obtain ⟨c7, h⟩ := h
    obtain ⟨M3, v4, k8, h⟩ := h
    have h2 : aX xc_315 (aSeek xc_315 761) [aR 0, aR 1, aR 145, aI a3] [aI v4, aI v2] (SH L) M3 o := by
      by_cases cc : v2 = v4
      · replace h := h.1 cc
        have t9 : aX xc_315 (aSeek xc_315 1533) [aR 0, aR 1, aR 145, aI a3] [] (SH L) M3 o := by
          exact h
        exact aX_seg 1 (fun n g => ip cc (g)) t9
      · replace h := h.2 cc
        have t10 : aX xc_315 (aSeek xc_315 764) [aR 0, aR 1, aR 145, aI a3] [] (SH L) M3 o := by
          subst h
          exact ⟨2, rfl⟩
        exact aX_seg 1 (fun n g => in_ cc (g)) t10
    exact aX_seg 6 (fun n g => ip c7 (g)) (aX_callv (rfl) rfl rfl rfl k8 h2)
  exact aX_seg 6 (fun n g => ip c5 (g)) (aX_callv (rfl) rfl rfl rfl k6 h2)
set_option maxRecDepth 100000 in
theorem bl_315_766 {L : Nat} {a3 : Int} {M : aM} {o : aO} (h : (0 ≤ aW (a3 + 1) ∧ aW (a3 + 1) < aLn (SH L) 9 0) ∧ (∃ (M1 : aM) (v2 : Int), aE 105 [aR 1, aI (M 0 (aW (a3 + 1)))] (SH L) M ([aI v2], (SH L), M1) ∧ (0 ≤ aW (a3 + 1) ∧ aW (a3 + 1) < aLn (SH L) 9 0) ∧ (∃ (M3 : aM) (v4 : Int), aE 261 [aR 145, aI (M1 0 (aW (a3 + 1)))] (SH L) M1 ([aI v4], (SH L), M3) ∧ ((v2 = v4 → aX xc_315 (aSeek xc_315 1533) [aR 0, aR 1, aR 145, aI a3] [] (SH L) M3 o) ∧ (¬ (v2 = v4) → o = ([aI 0], (SH L), M3)))))) : aX xc_315 (aSeek xc_315 766) [aR 0, aR 1, aR 145, aI a3] [] (SH L) M o := by
  obtain ⟨c5, h⟩ := h
  obtain ⟨M1, v2, k6, h⟩ := h
  have h2 : aX xc_315 (aSeek xc_315 775) [aR 0, aR 1, aR 145, aI a3] [aI v2] (SH L) M1 o := by
    obtain ⟨c7, h⟩ := h
    obtain ⟨M3, v4, k8, h⟩ := h
    have h2 : aX xc_315 (aSeek xc_315 784) [aR 0, aR 1, aR 145, aI a3] [aI v4, aI v2] (SH L) M3 o := by
      by_cases cc : v2 = v4
      · replace h := h.1 cc
        have t9 : aX xc_315 (aSeek xc_315 1533) [aR 0, aR 1, aR 145, aI a3] [] (SH L) M3 o := by
          exact h
        exact aX_seg 1 (fun n g => ip cc (g)) t9
      · replace h := h.2 cc
        have t10 : aX xc_315 (aSeek xc_315 787) [aR 0, aR 1, aR 145, aI a3] [] (SH L) M3 o := by
          subst h
          exact ⟨2, rfl⟩
        exact aX_seg 1 (fun n g => in_ cc (g)) t10
    exact aX_seg 6 (fun n g => ip c7 (g)) (aX_callv (rfl) rfl rfl rfl k8 h2)
  exact aX_seg 6 (fun n g => ip c5 (g)) (aX_callv (rfl) rfl rfl rfl k6 h2)
set_option maxRecDepth 100000 in
theorem bl_315_789 {L : Nat} {a3 : Int} {M : aM} {o : aO} (h : (∃ (M1 : aM) (v2 : Int), aE 106 [aR 1] (SH L) M ([aI v2], (SH L), M1) ∧ (∃ (M3 : aM) (v4 : Int), aE 262 [aR 145] (SH L) M1 ([aI v4], (SH L), M3) ∧ ((v2 = v4 → aX xc_315 (aSeek xc_315 1533) [aR 0, aR 1, aR 145, aI a3] [] (SH L) M3 o) ∧ (¬ (v2 = v4) → o = ([aI 0], (SH L), M3)))))) : aX xc_315 (aSeek xc_315 789) [aR 0, aR 1, aR 145, aI a3] [] (SH L) M o := by
  obtain ⟨M1, v2, k5, h⟩ := h
  have h2 : aX xc_315 (aSeek xc_315 793) [aR 0, aR 1, aR 145, aI a3] [aI v2] (SH L) M1 o := by
    obtain ⟨M3, v4, k6, h⟩ := h
    have h2 : aX xc_315 (aSeek xc_315 797) [aR 0, aR 1, aR 145, aI a3] [aI v4, aI v2] (SH L) M3 o := by
      by_cases cc : v2 = v4
      · replace h := h.1 cc
        have t7 : aX xc_315 (aSeek xc_315 1533) [aR 0, aR 1, aR 145, aI a3] [] (SH L) M3 o := by
          exact h
        exact aX_seg 1 (fun n g => ip cc (g)) t7
      · replace h := h.2 cc
        have t8 : aX xc_315 (aSeek xc_315 800) [aR 0, aR 1, aR 145, aI a3] [] (SH L) M3 o := by
          subst h
          exact ⟨2, rfl⟩
        exact aX_seg 1 (fun n g => in_ cc (g)) t8
    exact aX_seg 1 (fun n g => g) (aX_callv (rfl) rfl rfl rfl k6 h2)
  exact aX_seg 1 (fun n g => g) (aX_callv (rfl) rfl rfl rfl k5 h2)
set_option maxRecDepth 100000 in
theorem bl_315_802 {L : Nat} {a3 : Int} {M : aM} {o : aO} (h : (0 ≤ aW (a3 + 1) ∧ aW (a3 + 1) < aLn (SH L) 9 0) ∧ (∃ (M1 : aM) (v2 : Int), aE 107 [aR 1, aI (M 0 (aW (a3 + 1)))] (SH L) M ([aI v2], (SH L), M1) ∧ (0 ≤ aW (a3 + 1) ∧ aW (a3 + 1) < aLn (SH L) 9 0) ∧ (∃ (M3 : aM) (v4 : Int), aE 263 [aR 145, aI (M1 0 (aW (a3 + 1)))] (SH L) M1 ([aI v4], (SH L), M3) ∧ ((v2 = v4 → aX xc_315 (aSeek xc_315 1533) [aR 0, aR 1, aR 145, aI a3] [] (SH L) M3 o) ∧ (¬ (v2 = v4) → o = ([aI 0], (SH L), M3)))))) : aX xc_315 (aSeek xc_315 802) [aR 0, aR 1, aR 145, aI a3] [] (SH L) M o := by
  obtain ⟨c5, h⟩ := h
  obtain ⟨M1, v2, k6, h⟩ := h
  have h2 : aX xc_315 (aSeek xc_315 811) [aR 0, aR 1, aR 145, aI a3] [aI v2] (SH L) M1 o := by
    obtain ⟨c7, h⟩ := h
    obtain ⟨M3, v4, k8, h⟩ := h
    have h2 : aX xc_315 (aSeek xc_315 820) [aR 0, aR 1, aR 145, aI a3] [aI v4, aI v2] (SH L) M3 o := by
      by_cases cc : v2 = v4
      · replace h := h.1 cc
        have t9 : aX xc_315 (aSeek xc_315 1533) [aR 0, aR 1, aR 145, aI a3] [] (SH L) M3 o := by
          exact h
        exact aX_seg 1 (fun n g => ip cc (g)) t9
      · replace h := h.2 cc
        have t10 : aX xc_315 (aSeek xc_315 823) [aR 0, aR 1, aR 145, aI a3] [] (SH L) M3 o := by
          subst h
          exact ⟨2, rfl⟩
        exact aX_seg 1 (fun n g => in_ cc (g)) t10
    exact aX_seg 6 (fun n g => ip c7 (g)) (aX_callv (rfl) rfl rfl rfl k8 h2)
  exact aX_seg 6 (fun n g => ip c5 (g)) (aX_callv (rfl) rfl rfl rfl k6 h2)
set_option maxRecDepth 100000 in
theorem bl_315_825 {L : Nat} {a3 : Int} {M : aM} {o : aO} (h : (0 ≤ aW (a3 + 1) ∧ aW (a3 + 1) < aLn (SH L) 9 0) ∧ (((M 0 (aW (a3 + 1))) = 0 → aX xc_315 (aSeek xc_315 839) [aR 0, aR 1, aR 145, aI a3] [aI 0, aR 1] (SH L) M o) ∧ (¬ ((M 0 (aW (a3 + 1))) = 0) → aX xc_315 (aSeek xc_315 839) [aR 0, aR 1, aR 145, aI a3] [aI 1, aR 1] (SH L) M o))) : aX xc_315 (aSeek xc_315 825) [aR 0, aR 1, aR 145, aI a3] [] (SH L) M o := by
  obtain ⟨c1, h⟩ := h
  by_cases cc : (M 0 (aW (a3 + 1))) = 0
  · replace h := h.1 cc
    have t2 : aX xc_315 (aSeek xc_315 838) [aR 0, aR 1, aR 145, aI a3] [aR 1] (SH L) M o := by
      exact aX_seg 1 (fun n g => g) (h)
    exact aX_seg 7 (fun n g => ip c1 (ip cc (g))) t2
  · replace h := h.2 cc
    have t3 : aX xc_315 (aSeek xc_315 834) [aR 0, aR 1, aR 145, aI a3] [aR 1] (SH L) M o := by
      exact aX_seg 2 (fun n g => g) (h)
    exact aX_seg 7 (fun n g => ip c1 (in_ cc (g))) t3
set_option maxRecDepth 100000 in
theorem bl_315_839 {L : Nat} {a3 b0 b1 : Int} {M : aM} {o : aO} (h : (0 ≤ aW (a3 + 2) ∧ aW (a3 + 2) < aLn (SH L) 9 0) ∧ (aK (SH L) b0 = 21 ∧ ∃ (M1 : aM) (v2 : Int), aE 110 [aR b0, aI b1, aI (M 0 (aW (a3 + 2)))] (SH L) M ([aI v2], (SH L), M1) ∧ (0 ≤ aW (a3 + 1) ∧ aW (a3 + 1) < aLn (SH L) 9 0) ∧ (((M1 0 (aW (a3 + 1))) = 0 → aX xc_315 (aSeek xc_315 861) [aR 0, aR 1, aR 145, aI a3] [aI 0, aR 145, aI v2] (SH L) M1 o) ∧ (¬ ((M1 0 (aW (a3 + 1))) = 0) → aX xc_315 (aSeek xc_315 861) [aR 0, aR 1, aR 145, aI a3] [aI 1, aR 145, aI v2] (SH L) M1 o)))) : aX xc_315 (aSeek xc_315 839) [aR 0, aR 1, aR 145, aI a3] [aI b1, aR b0] (SH L) M o := by
  obtain ⟨c3, h⟩ := h
  obtain ⟨c4, h⟩ := h
  obtain ⟨M1, v2, k5, h⟩ := h
  have h2 : aX xc_315 (aSeek xc_315 847) [aR 0, aR 1, aR 145, aI a3] [aI v2] (SH L) M1 o := by
    obtain ⟨c6, h⟩ := h
    by_cases cc : (M1 0 (aW (a3 + 1))) = 0
    · replace h := h.1 cc
      have t7 : aX xc_315 (aSeek xc_315 860) [aR 0, aR 1, aR 145, aI a3] [aR 145, aI v2] (SH L) M1 o := by
        exact aX_seg 1 (fun n g => g) (h)
      exact aX_seg 7 (fun n g => ip c6 (ip cc (g))) t7
    · replace h := h.2 cc
      have t8 : aX xc_315 (aSeek xc_315 856) [aR 0, aR 1, aR 145, aI a3] [aR 145, aI v2] (SH L) M1 o := by
        exact aX_seg 2 (fun n g => g) (h)
      exact aX_seg 7 (fun n g => ip c6 (in_ cc (g))) t8
  exact aX_seg 5 (fun n g => ip c3 (g)) (aX_callv (c4) rfl rfl rfl k5 h2)
set_option maxRecDepth 100000 in
theorem bl_315_861 {L : Nat} {a3 b0 b1 b2 : Int} {M : aM} {o : aO} (h : (0 ≤ aW (a3 + 2) ∧ aW (a3 + 2) < aLn (SH L) 9 0) ∧ (aK (SH L) b1 = 22 ∧ ∃ (M1 : aM) (v2 : Int), aE 266 [aR b1, aI b2, aI (M 0 (aW (a3 + 2)))] (SH L) M ([aI v2], (SH L), M1) ∧ ((b0 = v2 → aX xc_315 (aSeek xc_315 1533) [aR 0, aR 1, aR 145, aI a3] [] (SH L) M1 o) ∧ (¬ (b0 = v2) → o = ([aI 0], (SH L), M1))))) : aX xc_315 (aSeek xc_315 861) [aR 0, aR 1, aR 145, aI a3] [aI b2, aR b1, aI b0] (SH L) M o := by
  obtain ⟨c3, h⟩ := h
  obtain ⟨c4, h⟩ := h
  obtain ⟨M1, v2, k5, h⟩ := h
  have h2 : aX xc_315 (aSeek xc_315 869) [aR 0, aR 1, aR 145, aI a3] [aI v2, aI b0] (SH L) M1 o := by
    by_cases cc : b0 = v2
    · replace h := h.1 cc
      have t6 : aX xc_315 (aSeek xc_315 1533) [aR 0, aR 1, aR 145, aI a3] [] (SH L) M1 o := by
        exact h
      exact aX_seg 1 (fun n g => ip cc (g)) t6
    · replace h := h.2 cc
      have t7 : aX xc_315 (aSeek xc_315 872) [aR 0, aR 1, aR 145, aI a3] [] (SH L) M1 o := by
        subst h
        exact ⟨2, rfl⟩
      exact aX_seg 1 (fun n g => in_ cc (g)) t7
  exact aX_seg 5 (fun n g => ip c3 (g)) (aX_callv (c4) rfl rfl rfl k5 h2)
set_option maxRecDepth 100000 in
theorem bl_315_874 {L : Nat} {a3 : Int} {M : aM} {o : aO} (h : (∃ (M1 : aM) (v2 : Int), aE 111 [aR 1] (SH L) M ([aI v2], (SH L), M1) ∧ (∃ (M3 : aM) (v4 : Int), aE 267 [aR 145] (SH L) M1 ([aI v4], (SH L), M3) ∧ ((v2 = v4 → aX xc_315 (aSeek xc_315 1533) [aR 0, aR 1, aR 145, aI a3] [] (SH L) M3 o) ∧ (¬ (v2 = v4) → o = ([aI 0], (SH L), M3)))))) : aX xc_315 (aSeek xc_315 874) [aR 0, aR 1, aR 145, aI a3] [] (SH L) M o := by
  obtain ⟨M1, v2, k5, h⟩ := h
  have h2 : aX xc_315 (aSeek xc_315 878) [aR 0, aR 1, aR 145, aI a3] [aI v2] (SH L) M1 o := by
    obtain ⟨M3, v4, k6, h⟩ := h
    have h2 : aX xc_315 (aSeek xc_315 882) [aR 0, aR 1, aR 145, aI a3] [aI v4, aI v2] (SH L) M3 o := by
      by_cases cc : v2 = v4
      · replace h := h.1 cc
        have t7 : aX xc_315 (aSeek xc_315 1533) [aR 0, aR 1, aR 145, aI a3] [] (SH L) M3 o := by
          exact h
        exact aX_seg 1 (fun n g => ip cc (g)) t7
      · replace h := h.2 cc
        have t8 : aX xc_315 (aSeek xc_315 885) [aR 0, aR 1, aR 145, aI a3] [] (SH L) M3 o := by
          subst h
          exact ⟨2, rfl⟩
        exact aX_seg 1 (fun n g => in_ cc (g)) t8
    exact aX_seg 1 (fun n g => g) (aX_callv (rfl) rfl rfl rfl k6 h2)
  exact aX_seg 1 (fun n g => g) (aX_callv (rfl) rfl rfl rfl k5 h2)
end BLK
