/-! block rows of the law, written by a program -/
section BLK
set_option maxRecDepth 100000 in
theorem bl_315_1487 {L : Nat} {a3 : Int} {M : aM} {o : aO} (h : (0 ≤ aW (a3 + 1) ∧ aW (a3 + 1) < aLn (SH L) 9 0) ∧ (∃ (M1 : aM) (v2 : Int), aE 175 [aR 1, aI (M 0 (aW (a3 + 1)))] (SH L) M ([aI v2], (SH L), M1) ∧ (0 ≤ aW (a3 + 1) ∧ aW (a3 + 1) < aLn (SH L) 9 0) ∧ (∃ (M3 : aM) (v4 : Int), aE 311 [aR 145, aI (M1 0 (aW (a3 + 1)))] (SH L) M1 ([aI v4], (SH L), M3) ∧ ((v2 = v4 → aX xc_315 (aSeek xc_315 1533) [aR 0, aR 1, aR 145, aI a3] [] (SH L) M3 o) ∧ (¬ (v2 = v4) → o = ([aI 0], (SH L), M3)))))) : aX xc_315 (aSeek xc_315 1487) [aR 0, aR 1, aR 145, aI a3] [] (SH L) M o := by
  obtain ⟨c5, h⟩ := h
  obtain ⟨M1, v2, k6, h⟩ := h
  have h2 : aX xc_315 (aSeek xc_315 1496) [aR 0, aR 1, aR 145, aI a3] [aI v2] (SH L) M1 o := by
    obtain ⟨c7, h⟩ := h
    obtain ⟨M3, v4, k8, h⟩ := h
    have h2 : aX xc_315 (aSeek xc_315 1505) [aR 0, aR 1, aR 145, aI a3] [aI v4, aI v2] (SH L) M3 o := by
      by_cases cc : v2 = v4
      · replace h := h.1 cc
        have t9 : aX xc_315 (aSeek xc_315 1533) [aR 0, aR 1, aR 145, aI a3] [] (SH L) M3 o := by
          exact h
        exact aX_seg 1 (fun n g => ip cc (g)) t9
      · replace h := h.2 cc
        have t10 : aX xc_315 (aSeek xc_315 1508) [aR 0, aR 1, aR 145, aI a3] [] (SH L) M3 o := by
          subst h
          exact ⟨2, rfl⟩
        exact aX_seg 1 (fun n g => in_ cc (g)) t10
    exact aX_seg 6 (fun n g => ip c7 (g)) (aX_callv (rfl) rfl rfl rfl k8 h2)
  exact aX_seg 6 (fun n g => ip c5 (g)) (aX_callv (rfl) rfl rfl rfl k6 h2)
set_option maxRecDepth 100000 in
theorem bl_315_1510 {L : Nat} {a3 : Int} {M : aM} {o : aO} (h : (0 ≤ aW (a3 + 1) ∧ aW (a3 + 1) < aLn (SH L) 9 0) ∧ (∃ (M1 : aM) (v2 : Int), aE 177 [aR 1, aI (M 0 (aW (a3 + 1)))] (SH L) M ([aI v2], (SH L), M1) ∧ (0 ≤ aW (a3 + 1) ∧ aW (a3 + 1) < aLn (SH L) 9 0) ∧ (∃ (M3 : aM) (v4 : Int), aE 314 [aR 145, aI (M1 0 (aW (a3 + 1)))] (SH L) M1 ([aI v4], (SH L), M3) ∧ ((v2 = v4 → aX xc_315 (aSeek xc_315 1533) [aR 0, aR 1, aR 145, aI a3] [] (SH L) M3 o) ∧ (¬ (v2 = v4) → o = ([aI 0], (SH L), M3)))))) : aX xc_315 (aSeek xc_315 1510) [aR 0, aR 1, aR 145, aI a3] [] (SH L) M o := by
  obtain ⟨c5, h⟩ := h
  obtain ⟨M1, v2, k6, h⟩ := h
  have h2 : aX xc_315 (aSeek xc_315 1519) [aR 0, aR 1, aR 145, aI a3] [aI v2] (SH L) M1 o := by
    obtain ⟨c7, h⟩ := h
    obtain ⟨M3, v4, k8, h⟩ := h
    have h2 : aX xc_315 (aSeek xc_315 1528) [aR 0, aR 1, aR 145, aI a3] [aI v4, aI v2] (SH L) M3 o := by
      by_cases cc : v2 = v4
      · replace h := h.1 cc
        have t9 : aX xc_315 (aSeek xc_315 1533) [aR 0, aR 1, aR 145, aI a3] [] (SH L) M3 o := by
          exact h
        exact aX_seg 1 (fun n g => ip cc (g)) t9
      · replace h := h.2 cc
        have t10 : aX xc_315 (aSeek xc_315 1531) [aR 0, aR 1, aR 145, aI a3] [] (SH L) M3 o := by
          subst h
          exact ⟨2, rfl⟩
        exact aX_seg 1 (fun n g => in_ cc (g)) t10
    exact aX_seg 6 (fun n g => ip c7 (g)) (aX_callv (rfl) rfl rfl rfl k8 h2)
  exact aX_seg 6 (fun n g => ip c5 (g)) (aX_callv (rfl) rfl rfl rfl k6 h2)
set_option maxRecDepth 100000 in
theorem bl_315_1533 {L : Nat} {a3 : Int} {M : aM} {o : aO} (h : aX xc_315 (aSeek xc_315 18) [aR 0, aR 1, aR 145, aI (aW (a3 + 6))] [] (SH L) M o) : aX xc_315 (aSeek xc_315 1533) [aR 0, aR 1, aR 145, aI a3] [] (SH L) M o := by
  exact aX_seg 2 (fun n g => g) (h)
end BLK
