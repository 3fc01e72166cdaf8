/-! block rows of the law, written by a program -/
section BLK
set_option maxRecDepth 100000 in
theorem bl_315_1177 {L : Nat} {a3 : Int} {M : aM} {o : aO} (h : (0 ≤ aW (a3 + 1) ∧ aW (a3 + 1) < aLn (SH L) 9 0) ∧ (0 ≤ aW (a3 + 2) ∧ aW (a3 + 2) < aLn (SH L) 9 0) ∧ (0 ≤ aW (a3 + 3) ∧ aW (a3 + 3) < aLn (SH L) 9 0) ∧ (0 ≤ aW (a3 + 4) ∧ aW (a3 + 4) < aLn (SH L) 9 0) ∧ (((M 0 (aW (a3 + 4))) = 0 → aX xc_315 (aSeek xc_315 1206) [aR 0, aR 1, aR 145, aI a3] [aI 0, aI (M 0 (aW (a3 + 3))), aI (M 0 (aW (a3 + 2))), aI (M 0 (aW (a3 + 1))), aR 1] (SH L) M o) ∧ (¬ ((M 0 (aW (a3 + 4))) = 0) → aX xc_315 (aSeek xc_315 1206) [aR 0, aR 1, aR 145, aI a3] [aI 1, aI (M 0 (aW (a3 + 3))), aI (M 0 (aW (a3 + 2))), aI (M 0 (aW (a3 + 1))), aR 1] (SH L) M o))) : aX xc_315 (aSeek xc_315 1177) [aR 0, aR 1, aR 145, aI a3] [] (SH L) M o := by
  obtain ⟨c1, h⟩ := h
  obtain ⟨c2, h⟩ := h
  obtain ⟨c3, h⟩ := h
  obtain ⟨c4, h⟩ := h
  by_cases cc : (M 0 (aW (a3 + 4))) = 0
  · replace h := h.1 cc
    have t5 : aX xc_315 (aSeek xc_315 1205) [aR 0, aR 1, aR 145, aI a3] [aI (M 0 (aW (a3 + 3))), aI (M 0 (aW (a3 + 2))), aI (M 0 (aW (a3 + 1))), aR 1] (SH L) M o := by
      exact aX_seg 1 (fun n g => g) (h)
    exact aX_seg 22 (fun n g => ip c1 (ip c2 (ip c3 (ip c4 (ip cc (g)))))) t5
  · replace h := h.2 cc
    have t6 : aX xc_315 (aSeek xc_315 1201) [aR 0, aR 1, aR 145, aI a3] [aI (M 0 (aW (a3 + 3))), aI (M 0 (aW (a3 + 2))), aI (M 0 (aW (a3 + 1))), aR 1] (SH L) M o := by
      exact aX_seg 2 (fun n g => g) (h)
    exact aX_seg 22 (fun n g => ip c1 (ip c2 (ip c3 (ip c4 (in_ cc (g)))))) t6
set_option maxRecDepth 100000 in
theorem bl_315_1206 {L : Nat} {a3 b0 b1 b2 b3 b4 : Int} {M : aM} {o : aO} (h : (aK (SH L) b0 = 21 ∧ ∃ (M1 : aM) (v2 : Int), aE 158 [aR b0, aI b1, aI b2, aI b3, aI b4] (SH L) M ([aI v2], (SH L), M1) ∧ (0 ≤ aW (a3 + 1) ∧ aW (a3 + 1) < aLn (SH L) 9 0) ∧ (0 ≤ aW (a3 + 2) ∧ aW (a3 + 2) < aLn (SH L) 9 0) ∧ (0 ≤ aW (a3 + 3) ∧ aW (a3 + 3) < aLn (SH L) 9 0) ∧ (0 ≤ aW (a3 + 4) ∧ aW (a3 + 4) < aLn (SH L) 9 0) ∧ (((M1 0 (aW (a3 + 4))) = 0 → aX xc_315 (aSeek xc_315 1238) [aR 0, aR 1, aR 145, aI a3] [aI 0, aI (M1 0 (aW (a3 + 3))), aI (M1 0 (aW (a3 + 2))), aI (M1 0 (aW (a3 + 1))), aR 145, aI v2] (SH L) M1 o) ∧ (¬ ((M1 0 (aW (a3 + 4))) = 0) → aX xc_315 (aSeek xc_315 1238) [aR 0, aR 1, aR 145, aI a3] [aI 1, aI (M1 0 (aW (a3 + 3))), aI (M1 0 (aW (a3 + 2))), aI (M1 0 (aW (a3 + 1))), aR 145, aI v2] (SH L) M1 o)))) : aX xc_315 (aSeek xc_315 1206) [aR 0, aR 1, aR 145, aI a3] [aI b4, aI b3, aI b2, aI b1, aR b0] (SH L) M o := by
  obtain ⟨c3, h⟩ := h
  obtain ⟨M1, v2, k4, h⟩ := h
  have h2 : aX xc_315 (aSeek xc_315 1209) [aR 0, aR 1, aR 145, aI a3] [aI v2] (SH L) M1 o := by
    obtain ⟨c5, h⟩ := h
    obtain ⟨c6, h⟩ := h
    obtain ⟨c7, h⟩ := h
    obtain ⟨c8, h⟩ := h
    by_cases cc : (M1 0 (aW (a3 + 4))) = 0
    · replace h := h.1 cc
      have t9 : aX xc_315 (aSeek xc_315 1237) [aR 0, aR 1, aR 145, aI a3] [aI (M1 0 (aW (a3 + 3))), aI (M1 0 (aW (a3 + 2))), aI (M1 0 (aW (a3 + 1))), aR 145, aI v2] (SH L) M1 o := by
        exact aX_seg 1 (fun n g => g) (h)
      exact aX_seg 22 (fun n g => ip c5 (ip c6 (ip c7 (ip c8 (ip cc (g)))))) t9
    · replace h := h.2 cc
      have t10 : aX xc_315 (aSeek xc_315 1233) [aR 0, aR 1, aR 145, aI a3] [aI (M1 0 (aW (a3 + 3))), aI (M1 0 (aW (a3 + 2))), aI (M1 0 (aW (a3 + 1))), aR 145, aI v2] (SH L) M1 o := by
        exact aX_seg 2 (fun n g => g) (h)
      exact aX_seg 22 (fun n g => ip c5 (ip c6 (ip c7 (ip c8 (in_ cc (g)))))) t10
  exact aX_callv (c3) rfl rfl rfl k4 h2
set_option maxRecDepth 100000 in
theorem bl_315_1238 {L : Nat} {a3 b0 b1 b2 b3 b4 b5 : Int} {M : aM} {o : aO} (h : (aK (SH L) b1 = 22 ∧ ∃ (M1 : aM) (v2 : Int), aE 297 [aR b1, aI b2, aI b3, aI b4, aI b5] (SH L) M ([aI v2], (SH L), M1) ∧ ((b0 = v2 → aX xc_315 (aSeek xc_315 1533) [aR 0, aR 1, aR 145, aI a3] [] (SH L) M1 o) ∧ (¬ (b0 = v2) → o = ([aI 0], (SH L), M1))))) : aX xc_315 (aSeek xc_315 1238) [aR 0, aR 1, aR 145, aI a3] [aI b5, aI b4, aI b3, aI b2, aR b1, aI b0] (SH L) M o := by
  obtain ⟨c3, h⟩ := h
  obtain ⟨M1, v2, k4, h⟩ := h
  have h2 : aX xc_315 (aSeek xc_315 1241) [aR 0, aR 1, aR 145, aI a3] [aI v2, aI b0] (SH L) M1 o := by
    by_cases cc : b0 = v2
    · replace h := h.1 cc
      have t5 : aX xc_315 (aSeek xc_315 1533) [aR 0, aR 1, aR 145, aI a3] [] (SH L) M1 o := by
        exact h
      exact aX_seg 1 (fun n g => ip cc (g)) t5
    · replace h := h.2 cc
      have t6 : aX xc_315 (aSeek xc_315 1244) [aR 0, aR 1, aR 145, aI a3] [] (SH L) M1 o := by
        subst h
        exact ⟨2, rfl⟩
      exact aX_seg 1 (fun n g => in_ cc (g)) t6
  exact aX_callv (c3) rfl rfl rfl k4 h2
set_option maxRecDepth 100000 in
theorem bl_315_1246 {L : Nat} {a3 : Int} {M : aM} {o : aO} (h : (0 ≤ aW (a3 + 1) ∧ aW (a3 + 1) < aLn (SH L) 9 0) ∧ (∃ (M1 : aM) (v2 : Int), aE 160 [aR 1, aI (M 0 (aW (a3 + 1)))] (SH L) M ([aI v2], (SH L), M1) ∧ (0 ≤ aW (a3 + 1) ∧ aW (a3 + 1) < aLn (SH L) 9 0) ∧ (∃ (M3 : aM) (v4 : Int), aE 298 [aR 145, aI (M1 0 (aW (a3 + 1)))] (SH L) M1 ([aI v4], (SH L), M3) ∧ ((v2 = v4 → aX xc_315 (aSeek xc_315 1533) [aR 0, aR 1, aR 145, aI a3] [] (SH L) M3 o) ∧ (¬ (v2 = v4) → o = ([aI 0], (SH L), M3)))))) : aX xc_315 (aSeek xc_315 1246) [aR 0, aR 1, aR 145, aI a3] [] (SH L) M o := by
  obtain ⟨c5, h⟩ := h
  obtain ⟨M1, v2, k6, h⟩ := h
  have h2 : aX xc_315 (aSeek xc_315 1255) [aR 0, aR 1, aR 145, aI a3] [aI v2] (SH L) M1 o := by
    obtain ⟨c7, h⟩ := h
    obtain ⟨M3, v4, k8, h⟩ := h
    have h2 : aX xc_315 (aSeek xc_315 1264) [aR 0, aR 1, aR 145, aI a3] [aI v4, aI v2] (SH L) M3 o := by
      by_cases cc : v2 = v4
      · replace h := h.1 cc
        have t9 : aX xc_315 (aSeek xc_315 1533) [aR 0, aR 1, aR 145, aI a3] [] (SH L) M3 o := by
          exact h
        exact aX_seg 1 (fun n g => ip cc (g)) t9
      · replace h := h.2 cc
        have t10 : aX xc_315 (aSeek xc_315 1267) [aR 0, aR 1, aR 145, aI a3] [] (SH L) M3 o := by
          subst h
          exact ⟨2, rfl⟩
        exact aX_seg 1 (fun n g => in_ cc (g)) t10
    exact aX_seg 6 (fun n g => ip c7 (g)) (aX_callv (rfl) rfl rfl rfl k8 h2)
  exact aX_seg 6 (fun n g => ip c5 (g)) (aX_callv (rfl) rfl rfl rfl k6 h2)
set_option maxRecDepth 100000 in
theorem bl_315_1269 {L : Nat} {a3 : Int} {M : aM} {o : aO} (h : (0 ≤ aW (a3 + 1) ∧ aW (a3 + 1) < aLn (SH L) 9 0) ∧ (0 ≤ aW (a3 + 2) ∧ aW (a3 + 2) < aLn (SH L) 9 0) ∧ (0 ≤ aW (a3 + 3) ∧ aW (a3 + 3) < aLn (SH L) 9 0) ∧ (∃ (M1 : aM) (v2 : Int), aE 164 [aR 1, aI (M 0 (aW (a3 + 1))), aI (M 0 (aW (a3 + 2))), aI (M 0 (aW (a3 + 3)))] (SH L) M ([aI v2], (SH L), M1) ∧ (0 ≤ aW (a3 + 1) ∧ aW (a3 + 1) < aLn (SH L) 9 0) ∧ (0 ≤ aW (a3 + 2) ∧ aW (a3 + 2) < aLn (SH L) 9 0) ∧ (0 ≤ aW (a3 + 3) ∧ aW (a3 + 3) < aLn (SH L) 9 0) ∧ (∃ (M3 : aM) (v4 : Int), aE 302 [aR 145, aI (M1 0 (aW (a3 + 1))), aI (M1 0 (aW (a3 + 2))), aI (M1 0 (aW (a3 + 3)))] (SH L) M1 ([aI v4], (SH L), M3) ∧ ((v2 = v4 → aX xc_315 (aSeek xc_315 1533) [aR 0, aR 1, aR 145, aI a3] [] (SH L) M3 o) ∧ (¬ (v2 = v4) → o = ([aI 0], (SH L), M3)))))) : aX xc_315 (aSeek xc_315 1269) [aR 0, aR 1, aR 145, aI a3] [] (SH L) M o := by
  obtain ⟨c5, h⟩ := h
  obtain ⟨c6, h⟩ := h
  obtain ⟨c7, h⟩ := h
  obtain ⟨M1, v2, k8, h⟩ := h
  have h2 : aX xc_315 (aSeek xc_315 1288) [aR 0, aR 1, aR 145, aI a3] [aI v2] (SH L) M1 o := by
    obtain ⟨c9, h⟩ := h
    obtain ⟨c10, h⟩ := h
    obtain ⟨c11, h⟩ := h
    obtain ⟨M3, v4, k12, h⟩ := h
    have h2 : aX xc_315 (aSeek xc_315 1307) [aR 0, aR 1, aR 145, aI a3] [aI v4, aI v2] (SH L) M3 o := by
      by_cases cc : v2 = v4
      · replace h := h.1 cc
        have t13 : aX xc_315 (aSeek xc_315 1533) [aR 0, aR 1, aR 145, aI a3] [] (SH L) M3 o := by
          exact h
        exact aX_seg 1 (fun n g => ip cc (g)) t13
      · replace h := h.2 cc
        have t14 : aX xc_315 (aSeek xc_315 1310) [aR 0, aR 1, aR 145, aI a3] [] (SH L) M3 o := by
          subst h
          exact ⟨2, rfl⟩
        exact aX_seg 1 (fun n g => in_ cc (g)) t14
    exact aX_seg 16 (fun n g => ip c9 (ip c10 (ip c11 (g)))) (aX_callv (rfl) rfl rfl rfl k12 h2)
  exact aX_seg 16 (fun n g => ip c5 (ip c6 (ip c7 (g)))) (aX_callv (rfl) rfl rfl rfl k8 h2)
set_option maxRecDepth 100000 in
theorem bl_315_1312 {L : Nat} {a3 : Int} {M : aM} {o : aO} (h : (0 ≤ aW (a3 + 1) ∧ aW (a3 + 1) < aLn (SH L) 9 0) ∧ (∃ (M1 : aM) (v2 : Int), aE 165 [aR 1, aI (M 0 (aW (a3 + 1)))] (SH L) M ([aI v2], (SH L), M1) ∧ (0 ≤ aW (a3 + 1) ∧ aW (a3 + 1) < aLn (SH L) 9 0) ∧ (∃ (M3 : aM) (v4 : Int), aE 303 [aR 145, aI (M1 0 (aW (a3 + 1)))] (SH L) M1 ([aI v4], (SH L), M3) ∧ ((v2 = v4 → aX xc_315 (aSeek xc_315 1533) [aR 0, aR 1, aR 145, aI a3] [] (SH L) M3 o) ∧ (¬ (v2 = v4) → o = ([aI 0], (SH L), M3)))))) : aX xc_315 (aSeek xc_315 1312) [aR 0, aR 1, aR 145, aI a3] [] (SH L) M o := by
  obtain ⟨c5, h⟩ := h
  obtain ⟨M1, v2, k6, h⟩ := h
  have h2 : aX xc_315 (aSeek xc_315 1321) [aR 0, aR 1, aR 145, aI a3] [aI v2] (SH L) M1 o := by
    obtain ⟨c7, h⟩ := h
    obtain ⟨M3, v4, k8, h⟩ := h
    have h2 : aX xc_315 (aSeek xc_315 1330) [aR 0, aR 1, aR 145, aI a3] [aI v4, aI v2] (SH L) M3 o := by
      by_cases cc : v2 = v4
      · replace h := h.1 cc
        have t9 : aX xc_315 (aSeek xc_315 1533) [aR 0, aR 1, aR 145, aI a3] [] (SH L) M3 o := by
          exact h
        exact aX_seg 1 (fun n g => ip cc (g)) t9
      · replace h := h.2 cc
        have t10 : aX xc_315 (aSeek xc_315 1333) [aR 0, aR 1, aR 145, aI a3] [] (SH L) M3 o := by
          subst h
          exact ⟨2, rfl⟩
        exact aX_seg 1 (fun n g => in_ cc (g)) t10
    exact aX_seg 6 (fun n g => ip c7 (g)) (aX_callv (rfl) rfl rfl rfl k8 h2)
  exact aX_seg 6 (fun n g => ip c5 (g)) (aX_callv (rfl) rfl rfl rfl k6 h2)
set_option maxRecDepth 100000 in
theorem bl_315_1335 {L : Nat} {a3 : Int} {M : aM} {o : aO} (h : (0 ≤ aW (a3 + 1) ∧ aW (a3 + 1) < aLn (SH L) 9 0) ∧ (0 ≤ aW (a3 + 2) ∧ aW (a3 + 2) < aLn (SH L) 9 0) ∧ (0 ≤ aW (a3 + 3) ∧ aW (a3 + 3) < aLn (SH L) 9 0) ∧ (∃ (M1 : aM) (v2 : Int), aE 167 [aR 1, aI (M 0 (aW (a3 + 1))), aI (M 0 (aW (a3 + 2))), aI (M 0 (aW (a3 + 3)))] (SH L) M ([aI v2], (SH L), M1) ∧ (0 ≤ aW (a3 + 1) ∧ aW (a3 + 1) < aLn (SH L) 9 0) ∧ (0 ≤ aW (a3 + 2) ∧ aW (a3 + 2) < aLn (SH L) 9 0) ∧ (0 ≤ aW (a3 + 3) ∧ aW (a3 + 3) < aLn (SH L) 9 0) ∧ (∃ (M3 : aM) (v4 : Int), aE 307 [aR 145, aI (M1 0 (aW (a3 + 1))), aI (M1 0 (aW (a3 + 2))), aI (M1 0 (aW (a3 + 3)))] (SH L) M1 ([aI v4], (SH L), M3) ∧ ((v2 = v4 → aX xc_315 (aSeek xc_315 1533) [aR 0, aR 1, aR 145, aI a3] [] (SH L) M3 o) ∧ (¬ (v2 = v4) → o = ([aI 0], (SH L), M3)))))) : aX xc_315 (aSeek xc_315 1335) [aR 0, aR 1, aR 145, aI a3] [] (SH L) M o := by
  obtain ⟨c5, h⟩ := h
  obtain ⟨c6, h⟩ := h
  obtain ⟨c7, h⟩ := h
  obtain ⟨M1, v2, k8, h⟩ := h
  have h2 : aX xc_315 (aSeek xc_315 1354) [aR 0, aR 1, aR 145, aI a3] [aI v2] (SH L) M1 o := by
    obtain ⟨c9, h⟩ := h
    obtain ⟨c10, h⟩ := h
    obtain ⟨c11, h⟩ := h
    obtain ⟨M3, v4, k12, h⟩ := h
    have h2 : aX xc_315 (aSeek xc_315 1373) [aR 0, aR 1, aR 145, aI a3] [aI v4, aI v2] (SH L) M3 o := by
      by_cases cc : v2 = v4
      · replace h := h.1 cc
        have t13 : aX xc_315 (aSeek xc_315 1533) [aR 0, aR 1, aR 145, aI a3] [] (SH L) M3 o := by
          exact h
        exact aX_seg 1 (fun n g => ip cc (g)) t13
      · replace h := h.2 cc
        have t14 : aX xc_315 (aSeek xc_315 1376) [aR 0, aR 1, aR 145, aI a3] [] (SH L) M3 o := by
          subst h
          exact ⟨2, rfl⟩
        exact aX_seg 1 (fun n g => in_ cc (g)) t14
    exact aX_seg 16 (fun n g => ip c9 (ip c10 (ip c11 (g)))) (aX_callv (rfl) rfl rfl rfl k12 h2)
  exact aX_seg 16 (fun n g => ip c5 (ip c6 (ip c7 (g)))) (aX_callv (rfl) rfl rfl rfl k8 h2)
set_option maxRecDepth 100000 in
theorem bl_315_1378 {L : Nat} {a3 : Int} {M : aM} {o : aO} (h : (0 ≤ aW (a3 + 1) ∧ aW (a3 + 1) < aLn (SH L) 9 0) ∧ (0 ≤ aW (a3 + 2) ∧ aW (a3 + 2) < aLn (SH L) 9 0) ∧ (0 ≤ aW (a3 + 3) ∧ aW (a3 + 3) < aLn (SH L) 9 0) ∧ (0 ≤ aW (a3 + 4) ∧ aW (a3 + 4) < aLn (SH L) 9 0) ∧ (∃ (M1 : aM) (v2 : Int), aE 168 [aR 1, aI (M 0 (aW (a3 + 1))), aI (M 0 (aW (a3 + 2))), aI (M 0 (aW (a3 + 3))), aI (M 0 (aW (a3 + 4)))] (SH L) M ([aI v2], (SH L), M1) ∧ (0 ≤ aW (a3 + 1) ∧ aW (a3 + 1) < aLn (SH L) 9 0) ∧ (0 ≤ aW (a3 + 2) ∧ aW (a3 + 2) < aLn (SH L) 9 0) ∧ (0 ≤ aW (a3 + 3) ∧ aW (a3 + 3) < aLn (SH L) 9 0) ∧ (0 ≤ aW (a3 + 4) ∧ aW (a3 + 4) < aLn (SH L) 9 0) ∧ (∃ (M3 : aM) (v4 : Int), aE 308 [aR 145, aI (M1 0 (aW (a3 + 1))), aI (M1 0 (aW (a3 + 2))), aI (M1 0 (aW (a3 + 3))), aI (M1 0 (aW (a3 + 4)))] (SH L) M1 ([aI v4], (SH L), M3) ∧ ((v2 = v4 → aX xc_315 (aSeek xc_315 1533) [aR 0, aR 1, aR 145, aI a3] [] (SH L) M3 o) ∧ (¬ (v2 = v4) → o = ([aI 0], (SH L), M3)))))) : aX xc_315 (aSeek xc_315 1378) [aR 0, aR 1, aR 145, aI a3] [] (SH L) M o := by
  obtain ⟨c5, h⟩ := h
  obtain ⟨c6, h⟩ := h
  obtain ⟨c7, h⟩ := h
  obtain ⟨c8, h⟩ := h
  obtain ⟨M1, v2, k9, h⟩ := h
  have h2 : aX xc_315 (aSeek xc_315 1402) [aR 0, aR 1, aR 145, aI a3] [aI v2] (SH L) M1 o := by
    obtain ⟨c10, h⟩ := h
    obtain ⟨c11, h⟩ := h
    obtain ⟨c12, h⟩ := h
    obtain ⟨c13, h⟩ := h
    obtain ⟨M3, v4, k14, h⟩ := h
    have h2 : aX xc_315 (aSeek xc_315 1426) [aR 0, aR 1, aR 145, aI a3] [aI v4, aI v2] (SH L) M3 o := by
      by_cases cc : v2 = v4
      · replace h := h.1 cc
        have t15 : aX xc_315 (aSeek xc_315 1533) [aR 0, aR 1, aR 145, aI a3] [] (SH L) M3 o := by
          exact h
        exact aX_seg 1 (fun n g => ip cc (g)) t15
      · replace h := h.2 cc
        have t16 : aX xc_315 (aSeek xc_315 1429) [aR 0, aR 1, aR 145, aI a3] [] (SH L) M3 o := by
          subst h
          exact ⟨2, rfl⟩
        exact aX_seg 1 (fun n g => in_ cc (g)) t16
    exact aX_seg 21 (fun n g => ip c10 (ip c11 (ip c12 (ip c13 (g))))) (aX_callv (rfl) rfl rfl rfl k14 h2)
  exact aX_seg 21 (fun n g => ip c5 (ip c6 (ip c7 (ip c8 (g))))) (aX_callv (rfl) rfl rfl rfl k9 h2)
set_option maxRecDepth 100000 in
theorem bl_315_1431 {L : Nat} {a3 : Int} {M : aM} {o : aO} (h : (0 ≤ aW (a3 + 1) ∧ aW (a3 + 1) < aLn (SH L) 9 0) ∧ (0 ≤ aW (a3 + 2) ∧ aW (a3 + 2) < aLn (SH L) 9 0) ∧ (∃ (M1 : aM) (v2 : Int), aE 172 [aR 1, aI (M 0 (aW (a3 + 1))), aI (M 0 (aW (a3 + 2)))] (SH L) M ([aI v2], (SH L), M1) ∧ (0 ≤ aW (a3 + 1) ∧ aW (a3 + 1) < aLn (SH L) 9 0) ∧ (0 ≤ aW (a3 + 2) ∧ aW (a3 + 2) < aLn (SH L) 9 0) ∧ (∃ (M3 : aM) (v4 : Int), aE 313 [aR 145, aI (M1 0 (aW (a3 + 1))), aI (M1 0 (aW (a3 + 2)))] (SH L) M1 ([aI v4], (SH L), M3) ∧ ((v2 = v4 → aX xc_315 (aSeek xc_315 1533) [aR 0, aR 1, aR 145, aI a3] [] (SH L) M3 o) ∧ (¬ (v2 = v4) → o = ([aI 0], (SH L), M3)))))) : aX xc_315 (aSeek xc_315 1431) [aR 0, aR 1, aR 145, aI a3] [] (SH L) M o := by
  obtain ⟨c5, h⟩ := h
  obtain ⟨c6, h⟩ := h
  obtain ⟨M1, v2, k7, h⟩ := h
  have h2 : aX xc_315 (aSeek xc_315 1445) [aR 0, aR 1, aR 145, aI a3] [aI v2] (SH L) M1 o := by
    obtain ⟨c8, h⟩ := h
    obtain ⟨c9, h⟩ := h
    obtain ⟨M3, v4, k10, h⟩ := h
    have h2 : aX xc_315 (aSeek xc_315 1459) [aR 0, aR 1, aR 145, aI a3] [aI v4, aI v2] (SH L) M3 o := by
      by_cases cc : v2 = v4
      · replace h := h.1 cc
        have t11 : aX xc_315 (aSeek xc_315 1533) [aR 0, aR 1, aR 145, aI a3] [] (SH L) M3 o := by
          exact h
        exact aX_seg 1 (fun n g => ip cc (g)) t11
      · replace h := h.2 cc
        have t12 : aX xc_315 (aSeek xc_315 1462) [aR 0, aR 1, aR 145, aI a3] [] (SH L) M3 o := by
          subst h
          exact ⟨2, rfl⟩
        exact aX_seg 1 (fun n g => in_ cc (g)) t12
    exact aX_seg 11 (fun n g => ip c8 (ip c9 (g))) (aX_callv (rfl) rfl rfl rfl k10 h2)
  exact aX_seg 11 (fun n g => ip c5 (ip c6 (g))) (aX_callv (rfl) rfl rfl rfl k7 h2)
set_option maxRecDepth 100000 in
theorem bl_315_1464 {L : Nat} {a3 : Int} {M : aM} {o : aO} (h : (0 ≤ aW (a3 + 1) ∧ aW (a3 + 1) < aLn (SH L) 9 0) ∧ (∃ (M1 : aM) (v2 : Int), aE 174 [aR 1, aI (M 0 (aW (a3 + 1)))] (SH L) M ([aI v2], (SH L), M1) ∧ (0 ≤ aW (a3 + 1) ∧ aW (a3 + 1) < aLn (SH L) 9 0) ∧ (∃ (M3 : aM) (v4 : Int), aE 310 [aR 145, aI (M1 0 (aW (a3 + 1)))] (SH L) M1 ([aI v4], (SH L), M3) ∧ ((v2 = v4 → aX xc_315 (aSeek xc_315 1533) [aR 0, aR 1, aR 145, aI a3] [] (SH L) M3 o) ∧ (¬ (v2 = v4) → o = ([aI 0], (SH L), M3)))))) : aX xc_315 (aSeek xc_315 1464) [aR 0, aR 1, aR 145, aI a3] [] (SH L) M o := by
  obtain ⟨c5, h⟩ := h
  obtain ⟨M1, v2, k6, h⟩ := h
  have h2 : aX xc_315 (aSeek xc_315 1473) [aR 0, aR 1, aR 145, aI a3] [aI v2] (SH L) M1 o := by
    obtain ⟨c7, h⟩ := h
    obtain ⟨M3, v4, k8, h⟩ := h
    have h2 : aX xc_315 (aSeek xc_315 1482) [aR 0, aR 1, aR 145, aI a3] [aI v4, aI v2] (SH L) M3 o := by
      by_cases cc : v2 = v4
      · replace h := h.1 cc
        have t9 : aX xc_315 (aSeek xc_315 1533) [aR 0, aR 1, aR 145, aI a3] [] (SH L) M3 o := by
          exact h
        exact aX_seg 1 (fun n g => ip cc (g)) t9
      · replace h := h.2 cc
        have t10 : aX xc_315 (aSeek xc_315 1485) [aR 0, aR 1, aR 145, aI a3] [] (SH L) M3 o := by
          subst h
          exact ⟨2, rfl⟩
        exact aX_seg 1 (fun n g => in_ cc (g)) t10
    exact aX_seg 6 (fun n g => ip c7 (g)) (aX_callv (rfl) rfl rfl rfl k8 h2)
  exact aX_seg 6 (fun n g => ip c5 (g)) (aX_callv (rfl) rfl rfl rfl k6 h2)
end BLK
