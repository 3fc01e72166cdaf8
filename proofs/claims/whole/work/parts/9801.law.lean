/-! block rows of the law, written by a program -/
section BLK
set_option maxRecDepth 100000 in
theorem bl_315_457 {L : Nat} {a3 : Int} {M : aM} {o : aO} (h : (0 ≤ aW (a3 + 1) ∧ aW (a3 + 1) < aLn (SH L) 9 0) ∧ (0 ≤ aW (a3 + 2) ∧ aW (a3 + 2) < aLn (SH L) 9 0) ∧ (∃ (M1 : aM) (v2 : Int), aE 66 [aR 1, aI (M 0 (aW (a3 + 1))), aI (M 0 (aW (a3 + 2)))] (SH L) M ([aI v2], (SH L), M1) ∧ (0 ≤ aW (a3 + 1) ∧ aW (a3 + 1) < aLn (SH L) 9 0) ∧ (0 ≤ aW (a3 + 2) ∧ aW (a3 + 2) < aLn (SH L) 9 0) ∧ (∃ (M3 : aM) (v4 : Int), aE 229 [aR 145, aI (M1 0 (aW (a3 + 1))), aI (M1 0 (aW (a3 + 2)))] (SH L) M1 ([aI v4], (SH L), M3) ∧ ((v2 = v4 → aX xc_315 (aSeek xc_315 1533) [aR 0, aR 1, aR 145, aI a3] [] (SH L) M3 o) ∧ (¬ (v2 = v4) → o = ([aI 0], (SH L), M3)))))) : aX xc_315 (aSeek xc_315 457) [aR 0, aR 1, aR 145, aI a3] [] (SH L) M o := by
  obtain ⟨c5, h⟩ := h
  obtain ⟨c6, h⟩ := h
  obtain ⟨M1, v2, k7, h⟩ := h
  have h2 : aX xc_315 (aSeek xc_315 471) [aR 0, aR 1, aR 145, aI a3] [aI v2] (SH L) M1 o := by
    obtain ⟨c8, h⟩ := h
    obtain ⟨c9, h⟩ := h
    obtain ⟨M3, v4, k10, h⟩ := h
    have h2 : aX xc_315 (aSeek xc_315 485) [aR 0, aR 1, aR 145, aI a3] [aI v4, aI v2] (SH L) M3 o := by
      by_cases cc : v2 = v4
      · replace h := h.1 cc
        have t11 : aX xc_315 (aSeek xc_315 1533) [aR 0, aR 1, aR 145, aI a3] [] (SH L) M3 o := by
          exact h
        exact aX_seg 1 (fun n g => ip cc (g)) t11
      · replace h := h.2 cc
        have t12 : aX xc_315 (aSeek xc_315 488) [aR 0, aR 1, aR 145, aI a3] [] (SH L) M3 o := by
          subst h
          exact ⟨2, rfl⟩
        exact aX_seg 1 (fun n g => in_ cc (g)) t12
    exact aX_seg 11 (fun n g => ip c8 (ip c9 (g))) (aX_callv (rfl) rfl rfl rfl k10 h2)
  exact aX_seg 11 (fun n g => ip c5 (ip c6 (g))) (aX_callv (rfl) rfl rfl rfl k7 h2)
set_option maxRecDepth 100000 in
theorem bl_315_490 {L : Nat} {a3 : Int} {M : aM} {o : aO} (h : (0 ≤ aW (a3 + 1) ∧ aW (a3 + 1) < aLn (SH L) 9 0) ∧ (0 ≤ aW (a3 + 2) ∧ aW (a3 + 2) < aLn (SH L) 9 0) ∧ (∃ (M1 : aM) (v2 : Int), aE 68 [aR 1, aI (M 0 (aW (a3 + 1))), aI (M 0 (aW (a3 + 2)))] (SH L) M ([aI v2], (SH L), M1) ∧ (0 ≤ aW (a3 + 1) ∧ aW (a3 + 1) < aLn (SH L) 9 0) ∧ (0 ≤ aW (a3 + 2) ∧ aW (a3 + 2) < aLn (SH L) 9 0) ∧ (∃ (M3 : aM) (v4 : Int), aE 231 [aR 145, aI (M1 0 (aW (a3 + 1))), aI (M1 0 (aW (a3 + 2)))] (SH L) M1 ([aI v4], (SH L), M3) ∧ ((v2 = v4 → aX xc_315 (aSeek xc_315 1533) [aR 0, aR 1, aR 145, aI a3] [] (SH L) M3 o) ∧ (¬ (v2 = v4) → o = ([aI 0], (SH L), M3)))))) : aX xc_315 (aSeek xc_315 490) [aR 0, aR 1, aR 145, aI a3] [] (SH L) M o := by
  obtain ⟨c5, h⟩ := h
  obtain ⟨c6, h⟩ := h
  obtain ⟨M1, v2, k7, h⟩ := h
  have h2 : aX xc_315 (aSeek xc_315 504) [aR 0, aR 1, aR 145, aI a3] [aI v2] (SH L) M1 o := by
    obtain ⟨c8, h⟩ := h
    obtain ⟨c9, h⟩ := h
    obtain ⟨M3, v4, k10, h⟩ := h
    have h2 : aX xc_315 (aSeek xc_315 518) [aR 0, aR 1, aR 145, aI a3] [aI v4, aI v2] (SH L) M3 o := by
      by_cases cc : v2 = v4
      · replace h := h.1 cc
        have t11 : aX xc_315 (aSeek xc_315 1533) [aR 0, aR 1, aR 145, aI a3] [] (SH L) M3 o := by
          exact h
        exact aX_seg 1 (fun n g => ip cc (g)) t11
      · replace h := h.2 cc
        have t12 : aX xc_315 (aSeek xc_315 521) [aR 0, aR 1, aR 145, aI a3] [] (SH L) M3 o := by
          subst h
          exact ⟨2, rfl⟩
        exact aX_seg 1 (fun n g => in_ cc (g)) t12
    exact aX_seg 11 (fun n g => ip c8 (ip c9 (g))) (aX_callv (rfl) rfl rfl rfl k10 h2)
  exact aX_seg 11 (fun n g => ip c5 (ip c6 (g))) (aX_callv (rfl) rfl rfl rfl k7 h2)
set_option maxRecDepth 100000 in
theorem bl_315_523 {L : Nat} {a3 : Int} {M : aM} {o : aO} (h : (∃ (M1 : aM) (v2 : Int), aE 70 [aR 1] (SH L) M ([aI v2], (SH L), M1) ∧ (∃ (M3 : aM) (v4 : Int), aE 232 [aR 145] (SH L) M1 ([aI v4], (SH L), M3) ∧ ((v2 = v4 → aX xc_315 (aSeek xc_315 1533) [aR 0, aR 1, aR 145, aI a3] [] (SH L) M3 o) ∧ (¬ (v2 = v4) → o = ([aI 0], (SH L), M3)))))) : aX xc_315 (aSeek xc_315 523) [aR 0, aR 1, aR 145, aI a3] [] (SH L) M o := by
  obtain ⟨M1, v2, k5, h⟩ := h
  have h2 : aX xc_315 (aSeek xc_315 527) [aR 0, aR 1, aR 145, aI a3] [aI v2] (SH L) M1 o := by
    obtain ⟨M3, v4, k6, h⟩ := h
    have h2 : aX xc_315 (aSeek xc_315 531) [aR 0, aR 1, aR 145, aI a3] [aI v4, aI v2] (SH L) M3 o := by
      by_cases cc : v2 = v4
      · replace h := h.1 cc
        have t7 : aX xc_315 (aSeek xc_315 1533) [aR 0, aR 1, aR 145, aI a3] [] (SH L) M3 o := by
          exact h
        exact aX_seg 1 (fun n g => ip cc (g)) t7
      · replace h := h.2 cc
        have t8 : aX xc_315 (aSeek xc_315 534) [aR 0, aR 1, aR 145, aI a3] [] (SH L) M3 o := by
          subst h
          exact ⟨2, rfl⟩
        exact aX_seg 1 (fun n g => in_ cc (g)) t8
    exact aX_seg 1 (fun n g => g) (aX_callv (rfl) rfl rfl rfl k6 h2)
  exact aX_seg 1 (fun n g => g) (aX_callv (rfl) rfl rfl rfl k5 h2)
set_option maxRecDepth 100000 in
theorem bl_315_536 {L : Nat} {a3 : Int} {M : aM} {o : aO} (h : (0 ≤ aW (a3 + 1) ∧ aW (a3 + 1) < aLn (SH L) 9 0) ∧ (0 ≤ aW (a3 + 2) ∧ aW (a3 + 2) < aLn (SH L) 9 0) ∧ (∃ (M1 : aM) (v2 : Int), aE 74 [aR 1, aI (M 0 (aW (a3 + 1))), aI (M 0 (aW (a3 + 2)))] (SH L) M ([aI v2], (SH L), M1) ∧ (0 ≤ aW (a3 + 1) ∧ aW (a3 + 1) < aLn (SH L) 9 0) ∧ (0 ≤ aW (a3 + 2) ∧ aW (a3 + 2) < aLn (SH L) 9 0) ∧ (∃ (M3 : aM) (v4 : Int), aE 237 [aR 145, aI (M1 0 (aW (a3 + 1))), aI (M1 0 (aW (a3 + 2)))] (SH L) M1 ([aI v4], (SH L), M3) ∧ ((v2 = v4 → aX xc_315 (aSeek xc_315 1533) [aR 0, aR 1, aR 145, aI a3] [] (SH L) M3 o) ∧ (¬ (v2 = v4) → o = ([aI 0], (SH L), M3)))))) : aX xc_315 (aSeek xc_315 536) [aR 0, aR 1, aR 145, aI a3] [] (SH L) M o := by
  obtain ⟨c5, h⟩ := h
  obtain ⟨c6, h⟩ := h
  obtain ⟨M1, v2, k7, h⟩ := h
  have h2 : aX xc_315 (aSeek xc_315 550) [aR 0, aR 1, aR 145, aI a3] [aI v2] (SH L) M1 o := by
    obtain ⟨c8, h⟩ := h
    obtain ⟨c9, h⟩ := h
    obtain ⟨M3, v4, k10, h⟩ := h
    have h2 : aX xc_315 (aSeek xc_315 564) [aR 0, aR 1, aR 145, aI a3] [aI v4, aI v2] (SH L) M3 o := by
      by_cases cc : v2 = v4
      · replace h := h.1 cc
        have t11 : aX xc_315 (aSeek xc_315 1533) [aR 0, aR 1, aR 145, aI a3] [] (SH L) M3 o := by
          exact h
        exact aX_seg 1 (fun n g => ip cc (g)) t11
      · replace h := h.2 cc
        have t12 : aX xc_315 (aSeek xc_315 567) [aR 0, aR 1, aR 145, aI a3] [] (SH L) M3 o := by
          subst h
          exact ⟨2, rfl⟩
        exact aX_seg 1 (fun n g => in_ cc (g)) t12
    exact aX_seg 11 (fun n g => ip c8 (ip c9 (g))) (aX_callv (rfl) rfl rfl rfl k10 h2)
  exact aX_seg 11 (fun n g => ip c5 (ip c6 (g))) (aX_callv (rfl) rfl rfl rfl k7 h2)
set_option maxRecDepth 100000 in
theorem bl_315_569 {L : Nat} {a3 : Int} {M : aM} {o : aO} (h : (0 ≤ aW (a3 + 1) ∧ aW (a3 + 1) < aLn (SH L) 9 0) ∧ (0 ≤ aW (a3 + 2) ∧ aW (a3 + 2) < aLn (SH L) 9 0) ∧ (((M 0 (aW (a3 + 2))) = 0 → aX xc_315 (aSeek xc_315 588) [aR 0, aR 1, aR 145, aI a3] [aI 0, aI (M 0 (aW (a3 + 1))), aR 1] (SH L) M o) ∧ (¬ ((M 0 (aW (a3 + 2))) = 0) → aX xc_315 (aSeek xc_315 588) [aR 0, aR 1, aR 145, aI a3] [aI 1, aI (M 0 (aW (a3 + 1))), aR 1] (SH L) M o))) : aX xc_315 (aSeek xc_315 569) [aR 0, aR 1, aR 145, aI a3] [] (SH L) M o := by
  obtain ⟨c1, h⟩ := h
  obtain ⟨c2, h⟩ := h
  by_cases cc : (M 0 (aW (a3 + 2))) = 0
  · replace h := h.1 cc
    have t3 : aX xc_315 (aSeek xc_315 587) [aR 0, aR 1, aR 145, aI a3] [aI (M 0 (aW (a3 + 1))), aR 1] (SH L) M o := by
      exact aX_seg 1 (fun n g => g) (h)
    exact aX_seg 12 (fun n g => ip c1 (ip c2 (ip cc (g)))) t3
  · replace h := h.2 cc
    have t4 : aX xc_315 (aSeek xc_315 583) [aR 0, aR 1, aR 145, aI a3] [aI (M 0 (aW (a3 + 1))), aR 1] (SH L) M o := by
      exact aX_seg 2 (fun n g => g) (h)
    exact aX_seg 12 (fun n g => ip c1 (ip c2 (in_ cc (g)))) t4
set_option maxRecDepth 100000 in
theorem bl_315_588 {L : Nat} {a3 b0 b1 b2 : Int} {M : aM} {o : aO} (h : (aK (SH L) b0 = 21 ∧ ∃ (M1 : aM) (v2 : Int), aE 75 [aR b0, aI b1, aI b2] (SH L) M ([aI v2], (SH L), M1) ∧ (0 ≤ aW (a3 + 1) ∧ aW (a3 + 1) < aLn (SH L) 9 0) ∧ (0 ≤ aW (a3 + 2) ∧ aW (a3 + 2) < aLn (SH L) 9 0) ∧ (((M1 0 (aW (a3 + 2))) = 0 → aX xc_315 (aSeek xc_315 610) [aR 0, aR 1, aR 145, aI a3] [aI 0, aI (M1 0 (aW (a3 + 1))), aR 145, aI v2] (SH L) M1 o) ∧ (¬ ((M1 0 (aW (a3 + 2))) = 0) → aX xc_315 (aSeek xc_315 610) [aR 0, aR 1, aR 145, aI a3] [aI 1, aI (M1 0 (aW (a3 + 1))), aR 145, aI v2] (SH L) M1 o)))) : aX xc_315 (aSeek xc_315 588) [aR 0, aR 1, aR 145, aI a3] [aI b2, aI b1, aR b0] (SH L) M o := by
  obtain ⟨c3, h⟩ := h
  obtain ⟨M1, v2, k4, h⟩ := h
  have h2 : aX xc_315 (aSeek xc_315 591) [aR 0, aR 1, aR 145, aI a3] [aI v2] (SH L) M1 o := by
    obtain ⟨c5, h⟩ := h
    obtain ⟨c6, h⟩ := h
    by_cases cc : (M1 0 (aW (a3 + 2))) = 0
    · replace h := h.1 cc
      have t7 : aX xc_315 (aSeek xc_315 609) [aR 0, aR 1, aR 145, aI a3] [aI (M1 0 (aW (a3 + 1))), aR 145, aI v2] (SH L) M1 o := by
        exact aX_seg 1 (fun n g => g) (h)
      exact aX_seg 12 (fun n g => ip c5 (ip c6 (ip cc (g)))) t7
    · replace h := h.2 cc
      have t8 : aX xc_315 (aSeek xc_315 605) [aR 0, aR 1, aR 145, aI a3] [aI (M1 0 (aW (a3 + 1))), aR 145, aI v2] (SH L) M1 o := by
        exact aX_seg 2 (fun n g => g) (h)
      exact aX_seg 12 (fun n g => ip c5 (ip c6 (in_ cc (g)))) t8
  exact aX_callv (c3) rfl rfl rfl k4 h2
set_option maxRecDepth 100000 in
theorem bl_315_610 {L : Nat} {a3 b0 b1 b2 b3 : Int} {M : aM} {o : aO} (h : (aK (SH L) b1 = 22 ∧ ∃ (M1 : aM) (v2 : Int), aE 238 [aR b1, aI b2, aI b3] (SH L) M ([aI v2], (SH L), M1) ∧ ((b0 = v2 → aX xc_315 (aSeek xc_315 1533) [aR 0, aR 1, aR 145, aI a3] [] (SH L) M1 o) ∧ (¬ (b0 = v2) → o = ([aI 0], (SH L), M1))))) : aX xc_315 (aSeek xc_315 610) [aR 0, aR 1, aR 145, aI a3] [aI b3, aI b2, aR b1, aI b0] (SH L) M o := by
  obtain ⟨c3, h⟩ := h
  obtain ⟨M1, v2, k4, h⟩ := h
  have h2 : aX xc_315 (aSeek xc_315 613) [aR 0, aR 1, aR 145, aI a3] [aI v2, aI b0] (SH L) M1 o := by
    by_cases cc : b0 = v2
    · replace h := h.1 cc
      have t5 : aX xc_315 (aSeek xc_315 1533) [aR 0, aR 1, aR 145, aI a3] [] (SH L) M1 o := by
        exact h
      exact aX_seg 1 (fun n g => ip cc (g)) t5
    · replace h := h.2 cc
      have t6 : aX xc_315 (aSeek xc_315 616) [aR 0, aR 1, aR 145, aI a3] [] (SH L) M1 o := by
        subst h
        exact ⟨2, rfl⟩
      exact aX_seg 1 (fun n g => in_ cc (g)) t6
  exact aX_callv (c3) rfl rfl rfl k4 h2
set_option maxRecDepth 100000 in
theorem bl_315_618 {L : Nat} {a3 : Int} {M : aM} {o : aO} (h : (0 ≤ aW (a3 + 1) ∧ aW (a3 + 1) < aLn (SH L) 9 0) ∧ (0 ≤ aW (a3 + 2) ∧ aW (a3 + 2) < aLn (SH L) 9 0) ∧ (∃ (M1 : aM) (v2 : Int), aE 94 [aR 1, aI (M 0 (aW (a3 + 1))), aI (M 0 (aW (a3 + 2)))] (SH L) M ([aI v2], (SH L), M1) ∧ (0 ≤ aW (a3 + 1) ∧ aW (a3 + 1) < aLn (SH L) 9 0) ∧ (0 ≤ aW (a3 + 2) ∧ aW (a3 + 2) < aLn (SH L) 9 0) ∧ (∃ (M3 : aM) (v4 : Int), aE 252 [aR 145, aI (M1 0 (aW (a3 + 1))), aI (M1 0 (aW (a3 + 2)))] (SH L) M1 ([aI v4], (SH L), M3) ∧ ((v2 = v4 → aX xc_315 (aSeek xc_315 1533) [aR 0, aR 1, aR 145, aI a3] [] (SH L) M3 o) ∧ (¬ (v2 = v4) → o = ([aI 0], (SH L), M3)))))) : aX xc_315 (aSeek xc_315 618) [aR 0, aR 1, aR 145, aI a3] [] (SH L) M o := by
  obtain ⟨c5, h⟩ := h
  obtain ⟨c6, h⟩ := h
  obtain ⟨M1, v2, k7, h⟩ := h
  have h2 : aX xc_315 (aSeek xc_315 632) [aR 0, aR 1, aR 145, aI a3] [aI v2] (SH L) M1 o := by
    obtain ⟨c8, h⟩ := h
    obtain ⟨c9, h⟩ := h
    obtain ⟨M3, v4, k10, h⟩ := h
    have h2 : aX xc_315 (aSeek xc_315 646) [aR 0, aR 1, aR 145, aI a3] [aI v4, aI v2] (SH L) M3 o := by
      by_cases cc : v2 = v4
      · replace h := h.1 cc
        have t11 : aX xc_315 (aSeek xc_315 1533) [aR 0, aR 1, aR 145, aI a3] [] (SH L) M3 o := by
          exact h
        exact aX_seg 1 (fun n g => ip cc (g)) t11
      · replace h := h.2 cc
        have t12 : aX xc_315 (aSeek xc_315 649) [aR 0, aR 1, aR 145, aI a3] [] (SH L) M3 o := by
          subst h
          exact ⟨2, rfl⟩
        exact aX_seg 1 (fun n g => in_ cc (g)) t12
    exact aX_seg 11 (fun n g => ip c8 (ip c9 (g))) (aX_callv (rfl) rfl rfl rfl k10 h2)
  exact aX_seg 11 (fun n g => ip c5 (ip c6 (g))) (aX_callv (rfl) rfl rfl rfl k7 h2)
set_option maxRecDepth 100000 in
theorem bl_315_651 {L : Nat} {a3 : Int} {M : aM} {o : aO} (h : (0 ≤ aW (a3 + 1) ∧ aW (a3 + 1) < aLn (SH L) 9 0) ∧ (0 ≤ aW (a3 + 2) ∧ aW (a3 + 2) < aLn (SH L) 9 0) ∧ (∃ (M1 : aM) (v2 : Int), aE 96 [aR 1, aI (M 0 (aW (a3 + 1))), aI (M 0 (aW (a3 + 2)))] (SH L) M ([aI v2], (SH L), M1) ∧ (0 ≤ aW (a3 + 1) ∧ aW (a3 + 1) < aLn (SH L) 9 0) ∧ (0 ≤ aW (a3 + 2) ∧ aW (a3 + 2) < aLn (SH L) 9 0) ∧ (∃ (M3 : aM) (v4 : Int), aE 253 [aR 145, aI (M1 0 (aW (a3 + 1))), aI (M1 0 (aW (a3 + 2)))] (SH L) M1 ([aI v4], (SH L), M3) ∧ ((v2 = v4 → aX xc_315 (aSeek xc_315 1533) [aR 0, aR 1, aR 145, aI a3] [] (SH L) M3 o) ∧ (¬ (v2 = v4) → o = ([aI 0], (SH L), M3)))))) : aX xc_315 (aSeek xc_315 651) [aR 0, aR 1, aR 145, aI a3] [] (SH L) M o := by
  obtain ⟨c5, h⟩ := h
  obtain ⟨c6, h⟩ := h
  obtain ⟨M1, v2, k7, h⟩ := h
  have h2 : aX xc_315 (aSeek xc_315 665) [aR 0, aR 1, aR 145, aI a3] [aI v2] (SH L) M1 o := by
    obtain ⟨c8, h⟩ := h
    obtain ⟨c9, h⟩ := h
    obtain ⟨M3, v4, k10, h⟩ := h
    have h2 : aX xc_315 (aSeek xc_315 679) [aR 0, aR 1, aR 145, aI a3] [aI v4, aI v2] (SH L) M3 o := by
      by_cases cc : v2 = v4
      · replace h := h.1 cc
        have t11 : aX xc_315 (aSeek xc_315 1533) [aR 0, aR 1, aR 145, aI a3] [] (SH L) M3 o := by
          exact h
        exact aX_seg 1 (fun n g => ip cc (g)) t11
      · replace h := h.2 cc
        have t12 : aX xc_315 (aSeek xc_315 682) [aR 0, aR 1, aR 145, aI a3] [] (SH L) M3 o := by
          subst h
          exact ⟨2, rfl⟩
        exact aX_seg 1 (fun n g => in_ cc (g)) t12
    exact aX_seg 11 (fun n g => ip c8 (ip c9 (g))) (aX_callv (rfl) rfl rfl rfl k10 h2)
  exact aX_seg 11 (fun n g => ip c5 (ip c6 (g))) (aX_callv (rfl) rfl rfl rfl k7 h2)
set_option maxRecDepth 100000 in
theorem bl_315_684 {L : Nat} {a3 : Int} {M : aM} {o : aO} (h : (0 ≤ aW (a3 + 1) ∧ aW (a3 + 1) < aLn (SH L) 9 0) ∧ (∃ (M1 : aM) (v2 : Int), aE 99 [aR 1, aI (M 0 (aW (a3 + 1)))] (SH L) M ([aI v2], (SH L), M1) ∧ (0 ≤ aW (a3 + 1) ∧ aW (a3 + 1) < aLn (SH L) 9 0) ∧ (∃ (M3 : aM) (v4 : Int), aE 254 [aR 145, aI (M1 0 (aW (a3 + 1)))] (SH L) M1 ([aI v4], (SH L), M3) ∧ ((v2 = v4 → aX xc_315 (aSeek xc_315 1533) [aR 0, aR 1, aR 145, aI a3] [] (SH L) M3 o) ∧ (¬ (v2 = v4) → o = ([aI 0], (SH L), M3)))))) : aX xc_315 (aSeek xc_315 684) [aR 0, aR 1, aR 145, aI a3] [] (SH L) M o := by
  obtain ⟨c5, h⟩ := h
  obtain ⟨M1, v2, k6, h⟩ := h
  have h2 : aX xc_315 (aSeek xc_315 693) [aR 0, aR 1, aR 145, aI a3] [aI v2] (SH L) M1 o := by
    obtain ⟨c7, h⟩ := h
    obtain ⟨M3, v4, k8, h⟩ := h
    have h2 : aX xc_315 (aSeek xc_315 702) [aR 0, aR 1, aR 145, aI a3] [aI v4, aI v2] (SH L) M3 o := by
      by_cases cc : v2 = v4
      · replace h := h.1 cc
        have t9 : aX xc_315 (aSeek xc_315 1533) [aR 0, aR 1, aR 145, aI a3] [] (SH L) M3 o := by
          exact h
        exact aX_seg 1 (fun n g => ip cc (g)) t9
      · replace h := h.2 cc
        have t10 : aX xc_315 (aSeek xc_315 705) [aR 0, aR 1, aR 145, aI a3] [] (SH L) M3 o := by
          subst h
          exact ⟨2, rfl⟩
        exact aX_seg 1 (fun n g => in_ cc (g)) t10
    exact aX_seg 6 (fun n g => ip c7 (g)) (aX_callv (rfl) rfl rfl rfl k8 h2)
  exact aX_seg 6 (fun n g => ip c5 (g)) (aX_callv (rfl) rfl rfl rfl k6 h2)
end BLK
