/-! block rows of the law, written by a program -/
section BLK
set_option maxRecDepth 100000 in
theorem bl_315_887 {L : Nat} {a3 : Int} {M : aM} {o : aO} (h : (0 ≤ aW (a3 + 1) ∧ aW (a3 + 1) < aLn (SH L) 9 0) ∧ (∃ (M1 : aM) (v2 : Int), aE 117 [aR 1, aI (M 0 (aW (a3 + 1)))] (SH L) M ([aI v2], (SH L), M1) ∧ (0 ≤ aW (a3 + 1) ∧ aW (a3 + 1) < aLn (SH L) 9 0) ∧ (∃ (M3 : aM) (v4 : Int), aE 272 [aR 145, aI (M1 0 (aW (a3 + 1)))] (SH L) M1 ([aI v4], (SH L), M3) ∧ ((v2 = v4 → aX xc_315 (aSeek xc_315 1533) [aR 0, aR 1, aR 145, aI a3] [] (SH L) M3 o) ∧ (¬ (v2 = v4) → o = ([aI 0], (SH L), M3)))))) : aX xc_315 (aSeek xc_315 887) [aR 0, aR 1, aR 145, aI a3] [] (SH L) M o := by
  obtain ⟨c5, h⟩ := h
  obtain ⟨M1, v2, k6, h⟩ := h
  have h2 : aX xc_315 (aSeek xc_315 896) [aR 0, aR 1, aR 145, aI a3] [aI v2] (SH L) M1 o := by
    obtain ⟨c7, h⟩ := h
    obtain ⟨M3, v4, k8, h⟩ := h
    have h2 : aX xc_315 (aSeek xc_315 905) [aR 0, aR 1, aR 145, aI a3] [aI v4, aI v2] (SH L) M3 o := by
      by_cases cc : v2 = v4
      · replace h := h.1 cc
        have t9 : aX xc_315 (aSeek xc_315 1533) [aR 0, aR 1, aR 145, aI a3] [] (SH L) M3 o := by
          exact h
        exact aX_seg 1 (fun n g => ip cc (g)) t9
      · replace h := h.2 cc
        have t10 : aX xc_315 (aSeek xc_315 908) [aR 0, aR 1, aR 145, aI a3] [] (SH L) M3 o := by
          subst h
          exact ⟨2, rfl⟩
        exact aX_seg 1 (fun n g => in_ cc (g)) t10
    exact aX_seg 6 (fun n g => ip c7 (g)) (aX_callv (rfl) rfl rfl rfl k8 h2)
  exact aX_seg 6 (fun n g => ip c5 (g)) (aX_callv (rfl) rfl rfl rfl k6 h2)
set_option maxRecDepth 100000 in
theorem bl_315_910 {L : Nat} {a3 : Int} {M : aM} {o : aO} (h : (0 ≤ aW (a3 + 1) ∧ aW (a3 + 1) < aLn (SH L) 9 0) ∧ (∃ (M1 : aM) (v2 : Int), aE 118 [aR 1, aI (M 0 (aW (a3 + 1)))] (SH L) M ([aI v2], (SH L), M1) ∧ (0 ≤ aW (a3 + 1) ∧ aW (a3 + 1) < aLn (SH L) 9 0) ∧ (∃ (M3 : aM) (v4 : Int), aE 273 [aR 145, aI (M1 0 (aW (a3 + 1)))] (SH L) M1 ([aI v4], (SH L), M3) ∧ ((v2 = v4 → aX xc_315 (aSeek xc_315 1533) [aR 0, aR 1, aR 145, aI a3] [] (SH L) M3 o) ∧ (¬ (v2 = v4) → o = ([aI 0], (SH L), M3)))))) : aX xc_315 (aSeek xc_315 910) [aR 0, aR 1, aR 145, aI a3] [] (SH L) M o := by
  obtain ⟨c5, h⟩ := h
  obtain ⟨M1, v2, k6, h⟩ := h
  have h2 : aX xc_315 (aSeek xc_315 919) [aR 0, aR 1, aR 145, aI a3] [aI v2] (SH L) M1 o := by
    obtain ⟨c7, h⟩ := h
    obtain ⟨M3, v4, k8, h⟩ := h
    have h2 : aX xc_315 (aSeek xc_315 928) [aR 0, aR 1, aR 145, aI a3] [aI v4, aI v2] (SH L) M3 o := by
      by_cases cc : v2 = v4
      · replace h := h.1 cc
        have t9 : aX xc_315 (aSeek xc_315 1533) [aR 0, aR 1, aR 145, aI a3] [] (SH L) M3 o := by
          exact h
        exact aX_seg 1 (fun n g => ip cc (g)) t9
      · replace h := h.2 cc
        have t10 : aX xc_315 (aSeek xc_315 931) [aR 0, aR 1, aR 145, aI a3] [] (SH L) M3 o := by
          subst h
          exact ⟨2, rfl⟩
        exact aX_seg 1 (fun n g => in_ cc (g)) t10
    exact aX_seg 6 (fun n g => ip c7 (g)) (aX_callv (rfl) rfl rfl rfl k8 h2)
  exact aX_seg 6 (fun n g => ip c5 (g)) (aX_callv (rfl) rfl rfl rfl k6 h2)
set_option maxRecDepth 100000 in
theorem bl_315_933 {L : Nat} {a3 : Int} {M : aM} {o : aO} (h : (0 ≤ aW (a3 + 1) ∧ aW (a3 + 1) < aLn (SH L) 9 0) ∧ (∃ (M1 : aM) (v2 : Int), aE 129 [aR 1, aI (M 0 (aW (a3 + 1)))] (SH L) M ([aI v2], (SH L), M1) ∧ (0 ≤ aW (a3 + 1) ∧ aW (a3 + 1) < aLn (SH L) 9 0) ∧ (∃ (M3 : aM) (v4 : Int), aE 277 [aR 145, aI (M1 0 (aW (a3 + 1)))] (SH L) M1 ([aI v4], (SH L), M3) ∧ ((v2 = v4 → aX xc_315 (aSeek xc_315 1533) [aR 0, aR 1, aR 145, aI a3] [] (SH L) M3 o) ∧ (¬ (v2 = v4) → o = ([aI 0], (SH L), M3)))))) : aX xc_315 (aSeek xc_315 933) [aR 0, aR 1, aR 145, aI a3] [] (SH L) M o := by
  obtain ⟨c5, h⟩ := h
  obtain ⟨M1, v2, k6, h⟩ := h
  have h2 : aX xc_315 (aSeek xc_315 942) [aR 0, aR 1, aR 145, aI a3] [aI v2] (SH L) M1 o := by
    obtain ⟨c7, h⟩ := h
    obtain ⟨M3, v4, k8, h⟩ := h
    have h2 : aX xc_315 (aSeek xc_315 951) [aR 0, aR 1, aR 145, aI a3] [aI v4, aI v2] (SH L) M3 o := by
      by_cases cc : v2 = v4
      · replace h := h.1 cc
        have t9 : aX xc_315 (aSeek xc_315 1533) [aR 0, aR 1, aR 145, aI a3] [] (SH L) M3 o := by
          exact h
        exact aX_seg 1 (fun n g => ip cc (g)) t9
      · replace h := h.2 cc
        have t10 : aX xc_315 (aSeek xc_315 954) [aR 0, aR 1, aR 145, aI a3] [] (SH L) M3 o := by
          subst h
          exact ⟨2, rfl⟩
        exact aX_seg 1 (fun n g => in_ cc (g)) t10
    exact aX_seg 6 (fun n g => ip c7 (g)) (aX_callv (rfl) rfl rfl rfl k8 h2)
  exact aX_seg 6 (fun n g => ip c5 (g)) (aX_callv (rfl) rfl rfl rfl k6 h2)
set_option maxRecDepth 100000 in
theorem bl_315_956 {L : Nat} {a3 : Int} {M : aM} {o : aO} (h : (0 ≤ aW (a3 + 1) ∧ aW (a3 + 1) < aLn (SH L) 9 0) ∧ (0 ≤ aW (a3 + 2) ∧ aW (a3 + 2) < aLn (SH L) 9 0) ∧ (∃ (M1 : aM) (v2 : Int), aE 130 [aR 1, aI (M 0 (aW (a3 + 1))), aI (M 0 (aW (a3 + 2)))] (SH L) M ([aI v2], (SH L), M1) ∧ (0 ≤ aW (a3 + 1) ∧ aW (a3 + 1) < aLn (SH L) 9 0) ∧ (0 ≤ aW (a3 + 2) ∧ aW (a3 + 2) < aLn (SH L) 9 0) ∧ (∃ (M3 : aM) (v4 : Int), aE 279 [aR 145, aI (M1 0 (aW (a3 + 1))), aI (M1 0 (aW (a3 + 2)))] (SH L) M1 ([aI v4], (SH L), M3) ∧ ((v2 = v4 → aX xc_315 (aSeek xc_315 1533) [aR 0, aR 1, aR 145, aI a3] [] (SH L) M3 o) ∧ (¬ (v2 = v4) → o = ([aI 0], (SH L), M3)))))) : aX xc_315 (aSeek xc_315 956) [aR 0, aR 1, aR 145, aI a3] [] (SH L) M o := by
  obtain ⟨c5, h⟩ := h
  obtain ⟨c6, h⟩ := h
  obtain ⟨M1, v2, k7, h⟩ := h
  have h2 : aX xc_315 (aSeek xc_315 970) [aR 0, aR 1, aR 145, aI a3] [aI v2] (SH L) M1 o := by
    obtain ⟨c8, h⟩ := h
    obtain ⟨c9, h⟩ := h
    obtain ⟨M3, v4, k10, h⟩ := h
    have h2 : aX xc_315 (aSeek xc_315 984) [aR 0, aR 1, aR 145, aI a3] [aI v4, aI v2] (SH L) M3 o := by
      by_cases cc : v2 = v4
      · replace h := h.1 cc
        have t11 : aX xc_315 (aSeek xc_315 1533) [aR 0, aR 1, aR 145, aI a3] [] (SH L) M3 o := by
          exact h
        exact aX_seg 1 (fun n g => ip cc (g)) t11
      · replace h := h.2 cc
        have t12 : aX xc_315 (aSeek xc_315 987) [aR 0, aR 1, aR 145, aI a3] [] (SH L) M3 o := by
          subst h
          exact ⟨2, rfl⟩
        exact aX_seg 1 (fun n g => in_ cc (g)) t12
    exact aX_seg 11 (fun n g => ip c8 (ip c9 (g))) (aX_callv (rfl) rfl rfl rfl k10 h2)
  exact aX_seg 11 (fun n g => ip c5 (ip c6 (g))) (aX_callv (rfl) rfl rfl rfl k7 h2)
set_option maxRecDepth 100000 in
theorem bl_315_989 {L : Nat} {a3 : Int} {M : aM} {o : aO} (h : (0 ≤ aW (a3 + 1) ∧ aW (a3 + 1) < aLn (SH L) 9 0) ∧ (0 ≤ aW (a3 + 2) ∧ aW (a3 + 2) < aLn (SH L) 9 0) ∧ (∃ (M1 : aM) (v2 : Int), aE 132 [aR 1, aI (M 0 (aW (a3 + 1))), aI (M 0 (aW (a3 + 2)))] (SH L) M ([aI v2], (SH L), M1) ∧ (0 ≤ aW (a3 + 1) ∧ aW (a3 + 1) < aLn (SH L) 9 0) ∧ (0 ≤ aW (a3 + 2) ∧ aW (a3 + 2) < aLn (SH L) 9 0) ∧ (∃ (M3 : aM) (v4 : Int), aE 280 [aR 145, aI (M1 0 (aW (a3 + 1))), aI (M1 0 (aW (a3 + 2)))] (SH L) M1 ([aI v4], (SH L), M3) ∧ ((v2 = v4 → aX xc_315 (aSeek xc_315 1533) [aR 0, aR 1, aR 145, aI a3] [] (SH L) M3 o) ∧ (¬ (v2 = v4) → o = ([aI 0], (SH L), M3)))))) : aX xc_315 (aSeek xc_315 989) [aR 0, aR 1, aR 145, aI a3] [] (SH L) M o := by
  obtain ⟨c5, h⟩ := h
  obtain ⟨c6, h⟩ := h
  obtain ⟨M1, v2, k7, h⟩ := h
  have h2 : aX xc_315 (aSeek xc_315 1003) [aR 0, aR 1, aR 145, aI a3] [aI v2] (SH L) M1 o := by
    obtain ⟨c8, h⟩ := h
    obtain ⟨c9, h⟩ := h
    obtain ⟨M3, v4, k10, h⟩ := h
    have h2 : aX xc_315 (aSeek xc_315 1017) [aR 0, aR 1, aR 145, aI a3] [aI v4, aI v2] (SH L) M3 o := by
      by_cases cc : v2 = v4
      · replace h := h.1 cc
        have t11 : aX xc_315 (aSeek xc_315 1533) [aR 0, aR 1, aR 145, aI a3] [] (SH L) M3 o := by
          exact h
        exact aX_seg 1 (fun n g => ip cc (g)) t11
      · replace h := h.2 cc
        have t12 : aX xc_315 (aSeek xc_315 1020) [aR 0, aR 1, aR 145, aI a3] [] (SH L) M3 o := by
          subst h
          exact ⟨2, rfl⟩
        exact aX_seg 1 (fun n g => in_ cc (g)) t12
    exact aX_seg 11 (fun n g => ip c8 (ip c9 (g))) (aX_callv (rfl) rfl rfl rfl k10 h2)
  exact aX_seg 11 (fun n g => ip c5 (ip c6 (g))) (aX_callv (rfl) rfl rfl rfl k7 h2)
set_option maxRecDepth 100000 in
theorem bl_315_1022 {L : Nat} {a3 : Int} {M : aM} {o : aO} (h : (∃ (M1 : aM) (v2 : Int), aE 136 [aR 1] (SH L) M ([aI v2], (SH L), M1) ∧ (∃ (M3 : aM) (v4 : Int), aE 282 [aR 145] (SH L) M1 ([aI v4], (SH L), M3) ∧ ((v2 = v4 → aX xc_315 (aSeek xc_315 1533) [aR 0, aR 1, aR 145, aI a3] [] (SH L) M3 o) ∧ (¬ (v2 = v4) → o = ([aI 0], (SH L), M3)))))) : aX xc_315 (aSeek xc_315 1022) [aR 0, aR 1, aR 145, aI a3] [] (SH L) M o := by
  obtain ⟨M1, v2, k5, h⟩ := h
  have h2 : aX xc_315 (aSeek xc_315 1026) [aR 0, aR 1, aR 145, aI a3] [aI v2] (SH L) M1 o := by
    obtain ⟨M3, v4, k6, h⟩ := h
    have h2 : aX xc_315 (aSeek xc_315 1030) [aR 0, aR 1, aR 145, aI a3] [aI v4, aI v2] (SH L) M3 o := by
      by_cases cc : v2 = v4
      · replace h := h.1 cc
        have t7 : aX xc_315 (aSeek xc_315 1533) [aR 0, aR 1, aR 145, aI a3] [] (SH L) M3 o := by
          exact h
        exact aX_seg 1 (fun n g => ip cc (g)) t7
      · replace h := h.2 cc
        have t8 : aX xc_315 (aSeek xc_315 1033) [aR 0, aR 1, aR 145, aI a3] [] (SH L) M3 o := by
          subst h
          exact ⟨2, rfl⟩
        exact aX_seg 1 (fun n g => in_ cc (g)) t8
    exact aX_seg 1 (fun n g => g) (aX_callv (rfl) rfl rfl rfl k6 h2)
  exact aX_seg 1 (fun n g => g) (aX_callv (rfl) rfl rfl rfl k5 h2)
set_option maxRecDepth 100000 in
theorem bl_315_1035 {L : Nat} {a3 : Int} {M : aM} {o : aO} (h : (0 ≤ aW (a3 + 1) ∧ aW (a3 + 1) < aLn (SH L) 9 0) ∧ (∃ (M1 : aM) (v2 : Int), aE 137 [aR 1, aI (M 0 (aW (a3 + 1)))] (SH L) M ([aI v2], (SH L), M1) ∧ (0 ≤ aW (a3 + 1) ∧ aW (a3 + 1) < aLn (SH L) 9 0) ∧ (∃ (M3 : aM) (v4 : Int), aE 283 [aR 145, aI (M1 0 (aW (a3 + 1)))] (SH L) M1 ([aI v4], (SH L), M3) ∧ ((v2 = v4 → aX xc_315 (aSeek xc_315 1533) [aR 0, aR 1, aR 145, aI a3] [] (SH L) M3 o) ∧ (¬ (v2 = v4) → o = ([aI 0], (SH L), M3)))))) : aX xc_315 (aSeek xc_315 1035) [aR 0, aR 1, aR 145, aI a3] [] (SH L) M o := by
  obtain ⟨c5, h⟩ := h
  obtain ⟨M1, v2, k6, h⟩ := h
  have h2 : aX xc_315 (aSeek xc_315 1044) [aR 0, aR 1, aR 145, aI a3] [aI v2] (SH L) M1 o := by
    obtain ⟨c7, h⟩ := h
    obtain ⟨M3, v4, k8, h⟩ := h
    have h2 : aX xc_315 (aSeek xc_315 1053) [aR 0, aR 1, aR 145, aI a3] [aI v4, aI v2] (SH L) M3 o := by
      by_cases cc : v2 = v4
      · replace h := h.1 cc
        have t9 : aX xc_315 (aSeek xc_315 1533) [aR 0, aR 1, aR 145, aI a3] [] (SH L) M3 o := by
          exact h
        exact aX_seg 1 (fun n g => ip cc (g)) t9
      · replace h := h.2 cc
        have t10 : aX xc_315 (aSeek xc_315 1056) [aR 0, aR 1, aR 145, aI a3] [] (SH L) M3 o := by
          subst h
          exact ⟨2, rfl⟩
        exact aX_seg 1 (fun n g => in_ cc (g)) t10
    exact aX_seg 6 (fun n g => ip c7 (g)) (aX_callv (rfl) rfl rfl rfl k8 h2)
  exact aX_seg 6 (fun n g => ip c5 (g)) (aX_callv (rfl) rfl rfl rfl k6 h2)
set_option maxRecDepth 100000 in
theorem bl_315_1058 {L : Nat} {a3 : Int} {M : aM} {o : aO} (h : (0 ≤ aW (a3 + 1) ∧ aW (a3 + 1) < aLn (SH L) 9 0) ∧ (0 ≤ aW (a3 + 2) ∧ aW (a3 + 2) < aLn (SH L) 9 0) ∧ (0 ≤ aW (a3 + 3) ∧ aW (a3 + 3) < aLn (SH L) 9 0) ∧ (∃ (M1 : aM) (v2 : Int), aE 146 [aR 1, aI (M 0 (aW (a3 + 1))), aI (M 0 (aW (a3 + 2))), aI (M 0 (aW (a3 + 3)))] (SH L) M ([aI v2], (SH L), M1) ∧ (0 ≤ aW (a3 + 1) ∧ aW (a3 + 1) < aLn (SH L) 9 0) ∧ (0 ≤ aW (a3 + 2) ∧ aW (a3 + 2) < aLn (SH L) 9 0) ∧ (0 ≤ aW (a3 + 3) ∧ aW (a3 + 3) < aLn (SH L) 9 0) ∧ (∃ (M3 : aM) (v4 : Int), aE 288 [aR 145, aI (M1 0 (aW (a3 + 1))), aI (M1 0 (aW (a3 + 2))), aI (M1 0 (aW (a3 + 3)))] (SH L) M1 ([aI v4], (SH L), M3) ∧ ((v2 = v4 → aX xc_315 (aSeek xc_315 1533) [aR 0, aR 1, aR 145, aI a3] [] (SH L) M3 o) ∧ (¬ (v2 = v4) → o = ([aI 0], (SH L), M3)))))) : aX xc_315 (aSeek xc_315 1058) [aR 0, aR 1, aR 145, aI a3] [] (SH L) M o := by
  obtain ⟨c5, h⟩ := h
  obtain ⟨c6, h⟩ := h
  obtain ⟨c7, h⟩ := h
  obtain ⟨M1, v2, k8, h⟩ := h
  have h2 : aX xc_315 (aSeek xc_315 1077) [aR 0, aR 1, aR 145, aI a3] [aI v2] (SH L) M1 o := by
    obtain ⟨c9, h⟩ := h
    obtain ⟨c10, h⟩ := h
    obtain ⟨c11, h⟩ := h
    obtain ⟨M3, v4, k12, h⟩ := h
    have h2 : aX xc_315 (aSeek xc_315 1096) [aR 0, aR 1, aR 145, aI a3] [aI v4, aI v2] (SH L) M3 o := by
      by_cases cc : v2 = v4
      · replace h := h.1 cc
        have t13 : aX xc_315 (aSeek xc_315 1533) [aR 0, aR 1, aR 145, aI a3] [] (SH L) M3 o := by
          exact h
        exact aX_seg 1 (fun n g => ip cc (g)) t13
      · replace h := h.2 cc
        have t14 : aX xc_315 (aSeek xc_315 1099) [aR 0, aR 1, aR 145, aI a3] [] (SH L) M3 o := by
          subst h
          exact ⟨2, rfl⟩
        exact aX_seg 1 (fun n g => in_ cc (g)) t14
    exact aX_seg 16 (fun n g => ip c9 (ip c10 (ip c11 (g)))) (aX_callv (rfl) rfl rfl rfl k12 h2)
  exact aX_seg 16 (fun n g => ip c5 (ip c6 (ip c7 (g)))) (aX_callv (rfl) rfl rfl rfl k8 h2)
set_option maxRecDepth 100000 in
theorem bl_315_1101 {L : Nat} {a3 : Int} {M : aM} {o : aO} (h : (0 ≤ aW (a3 + 1) ∧ aW (a3 + 1) < aLn (SH L) 9 0) ∧ (0 ≤ aW (a3 + 2) ∧ aW (a3 + 2) < aLn (SH L) 9 0) ∧ (∃ (M1 : aM) (v2 : Int), aE 148 [aR 1, aI (M 0 (aW (a3 + 1))), aI (M 0 (aW (a3 + 2)))] (SH L) M ([aI v2], (SH L), M1) ∧ (0 ≤ aW (a3 + 1) ∧ aW (a3 + 1) < aLn (SH L) 9 0) ∧ (0 ≤ aW (a3 + 2) ∧ aW (a3 + 2) < aLn (SH L) 9 0) ∧ (∃ (M3 : aM) (v4 : Int), aE 289 [aR 145, aI (M1 0 (aW (a3 + 1))), aI (M1 0 (aW (a3 + 2)))] (SH L) M1 ([aI v4], (SH L), M3) ∧ ((v2 = v4 → aX xc_315 (aSeek xc_315 1533) [aR 0, aR 1, aR 145, aI a3] [] (SH L) M3 o) ∧ (¬ (v2 = v4) → o = ([aI 0], (SH L), M3)))))) : aX xc_315 (aSeek xc_315 1101) [aR 0, aR 1, aR 145, aI a3] [] (SH L) M o := by
  obtain ⟨c5, h⟩ := h
  obtain ⟨c6, h⟩ := h
  obtain ⟨M1, v2, k7, h⟩ := h
  have h2 : aX xc_315 (aSeek xc_315 1115) [aR 0, aR 1, aR 145, aI a3] [aI v2] (SH L) M1 o := by
    obtain ⟨c8, h⟩ := h
    obtain ⟨c9, h⟩ := h
    obtain ⟨M3, v4, k10, h⟩ := h
    have h2 : aX xc_315 (aSeek xc_315 1129) [aR 0, aR 1, aR 145, aI a3] [aI v4, aI v2] (SH L) M3 o := by
      by_cases cc : v2 = v4
      · replace h := h.1 cc
        have t11 : aX xc_315 (aSeek xc_315 1533) [aR 0, aR 1, aR 145, aI a3] [] (SH L) M3 o := by
          exact h
        exact aX_seg 1 (fun n g => ip cc (g)) t11
      · replace h := h.2 cc
        have t12 : aX xc_315 (aSeek xc_315 1132) [aR 0, aR 1, aR 145, aI a3] [] (SH L) M3 o := by
          subst h
          exact ⟨2, rfl⟩
        exact aX_seg 1 (fun n g => in_ cc (g)) t12
    exact aX_seg 11 (fun n g => ip c8 (ip c9 (g))) (aX_callv (rfl) rfl rfl rfl k10 h2)
  exact aX_seg 11 (fun n g => ip c5 (ip c6 (g))) (aX_callv (rfl) rfl rfl rfl k7 h2)
set_option maxRecDepth 100000 in
theorem bl_315_1134 {L : Nat} {a3 : Int} {M : aM} {o : aO} (h : (0 ≤ aW (a3 + 1) ∧ aW (a3 + 1) < aLn (SH L) 9 0) ∧ (0 ≤ aW (a3 + 2) ∧ aW (a3 + 2) < aLn (SH L) 9 0) ∧ (0 ≤ aW (a3 + 3) ∧ aW (a3 + 3) < aLn (SH L) 9 0) ∧ (∃ (M1 : aM) (v2 : Int), aE 156 [aR 1, aI (M 0 (aW (a3 + 1))), aI (M 0 (aW (a3 + 2))), aI (M 0 (aW (a3 + 3)))] (SH L) M ([aI v2], (SH L), M1) ∧ (0 ≤ aW (a3 + 1) ∧ aW (a3 + 1) < aLn (SH L) 9 0) ∧ (0 ≤ aW (a3 + 2) ∧ aW (a3 + 2) < aLn (SH L) 9 0) ∧ (0 ≤ aW (a3 + 3) ∧ aW (a3 + 3) < aLn (SH L) 9 0) ∧ (∃ (M3 : aM) (v4 : Int), aE 295 [aR 145, aI (M1 0 (aW (a3 + 1))), aI (M1 0 (aW (a3 + 2))), aI (M1 0 (aW (a3 + 3)))] (SH L) M1 ([aI v4], (SH L), M3) ∧ ((v2 = v4 → aX xc_315 (aSeek xc_315 1533) [aR 0, aR 1, aR 145, aI a3] [] (SH L) M3 o) ∧ (¬ (v2 = v4) → o = ([aI 0], (SH L), M3)))))) : aX xc_315 (aSeek xc_315 1134) [aR 0, aR 1, aR 145, aI a3] [] (SH L) M o := by
  obtain ⟨c5, h⟩ := h
  obtain ⟨c6, h⟩ := h
  obtain ⟨c7, h⟩ := h
  obtain ⟨M1, v2, k8, h⟩ := h
  have h2 : aX xc_315 (aSeek xc_315 1153) [aR 0, aR 1, aR 145, aI a3] [aI v2] (SH L) M1 o := by
    obtain ⟨c9, h⟩ := h
    obtain ⟨c10, h⟩ := h
    obtain ⟨c11, h⟩ := h
    obtain ⟨M3, v4, k12, h⟩ := h
    have h2 : aX xc_315 (aSeek xc_315 1172) [aR 0, aR 1, aR 145, aI a3] [aI v4, aI v2] (SH L) M3 o := by
      by_cases cc : v2 = v4
      · replace h := h.1 cc
        have t13 : aX xc_315 (aSeek xc_315 1533) [aR 0, aR 1, aR 145, aI a3] [] (SH L) M3 o := by
          exact h
        exact aX_seg 1 (fun n g => ip cc (g)) t13
      · replace h := h.2 cc
        have t14 : aX xc_315 (aSeek xc_315 1175) [aR 0, aR 1, aR 145, aI a3] [] (SH L) M3 o := by
          subst h
          exact ⟨2, rfl⟩
        exact aX_seg 1 (fun n g => in_ cc (g)) t14
    exact aX_seg 16 (fun n g => ip c9 (ip c10 (ip c11 (g)))) (aX_callv (rfl) rfl rfl rfl k12 h2)
  exact aX_seg 16 (fun n g => ip c5 (ip c6 (ip c7 (g)))) (aX_callv (rfl) rfl rfl rfl k8 h2)
end BLK
