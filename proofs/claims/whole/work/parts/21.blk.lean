/-! block rows, written by a program: from one cut of a method to the next ones -/
section BLK
/- TypeLockModel.reorders(I)Z -/
set_option maxRecDepth 100000 in
theorem en_270 {L : Nat} {a1 : Int} {M : aM} {o : aO} (h : aX xc_270 (aSeek xc_270 4) [aR 145, aI a1, aI (aW (a1 - 2)), aU, aU, aU] [] (SH L) M o) : aE 270 [aR 145, aI a1] (SH L) M o := by
  have q : aX xc_270 (aSeek xc_270 0) [aR 145, aI a1, aU, aU, aU, aU] [] (SH L) M o := by
    exact aX_seg 4 (fun n g => g) (h)
  exact q
set_option maxRecDepth 100000 in
theorem bl_270_4 {L : Nat} {a1 a2 : Int} {M : aM} {o : aO} (h : ((a2 < 0 → aX xc_270 (aSeek xc_270 31) [aR 145, aI a1, aI a2, aU, aU, aU] [] (SH L) M o) ∧ (¬ (a2 < 0) → (0 ≤ a2 ∧ a2 < aLn (SH L) 1 200) ∧ (0 ≤ aW (a2 + 1) ∧ aW (a2 + 1) < aLn (SH L) 1 200) ∧ (((M 200 a2) ≤ (M 200 (aW (a2 + 1))) → aX xc_270 (aSeek xc_270 31) [aR 145, aI a1, aI a2, aU, aU, aU] [] (SH L) M o) ∧ (¬ ((M 200 a2) ≤ (M 200 (aW (a2 + 1)))) → aX xc_270 (aSeek xc_270 4) [aR 145, aI a1, aI (aW (a2 + (-1))), aU, aU, aU] [] (SH L) M o))))) : aX xc_270 (aSeek xc_270 4) [aR 145, aI a1, aI a2, aU, aU, aU] [] (SH L) M o := by
  by_cases cc : a2 < 0
  · replace h := h.1 cc
    have t1 : aX xc_270 (aSeek xc_270 31) [aR 145, aI a1, aI a2, aU, aU, aU] [] (SH L) M o := by
      exact h
    exact aX_seg 2 (fun n g => ip cc (g)) t1
  · replace h := h.2 cc
    have t2 : aX xc_270 (aSeek xc_270 8) [aR 145, aI a1, aI a2, aU, aU, aU] [] (SH L) M o := by
      obtain ⟨c3, h⟩ := h
      obtain ⟨c4, h⟩ := h
      by_cases cc : (M 200 a2) ≤ (M 200 (aW (a2 + 1)))
      · replace h := h.1 cc
        have t5 : aX xc_270 (aSeek xc_270 31) [aR 145, aI a1, aI a2, aU, aU, aU] [] (SH L) M o := by
          exact h
        exact aX_seg 11 (fun n g => ip c3 (ip c4 (ip cc (g)))) t5
      · replace h := h.2 cc
        have t6 : aX xc_270 (aSeek xc_270 25) [aR 145, aI a1, aI a2, aU, aU, aU] [] (SH L) M o := by
          exact aX_seg 2 (fun n g => g) (h)
        exact aX_seg 11 (fun n g => ip c3 (ip c4 (in_ cc (g)))) t6
    exact aX_seg 2 (fun n g => in_ cc (g)) t2
set_option maxRecDepth 100000 in
theorem bl_270_31 {L : Nat} {a1 a2 : Int} {M : aM} {o : aO} (h : ((0 ≤ a2 → aX xc_270 (aSeek xc_270 41) [aR 145, aI a1, aI a2, aI (aW (a1 - 1)), aU, aU] [] (SH L) M o) ∧ (¬ (0 ≤ a2) → o = ([aI 0], (SH L), M)))) : aX xc_270 (aSeek xc_270 31) [aR 145, aI a1, aI a2, aU, aU, aU] [] (SH L) M o := by
  by_cases cc : 0 ≤ a2
  · replace h := h.1 cc
    have t1 : aX xc_270 (aSeek xc_270 37) [aR 145, aI a1, aI a2, aU, aU, aU] [] (SH L) M o := by
      exact aX_seg 4 (fun n g => g) (h)
    exact aX_seg 2 (fun n g => ip cc (g)) t1
  · replace h := h.2 cc
    have t2 : aX xc_270 (aSeek xc_270 35) [aR 145, aI a1, aI a2, aU, aU, aU] [] (SH L) M o := by
      subst h
      exact ⟨2, rfl⟩
    exact aX_seg 2 (fun n g => in_ cc (g)) t2
set_option maxRecDepth 100000 in
theorem bl_270_41 {L : Nat} {a1 a2 a3 : Int} {M : aM} {o : aO} (h : (0 ≤ a3 ∧ a3 < aLn (SH L) 1 200) ∧ (0 ≤ a2 ∧ a2 < aLn (SH L) 1 200) ∧ (((M 200 a2) ≤ (M 200 a3) → (∃ (M1 : aM), aE 269 [aR 145, aI a2, aI a3] (SH L) M ([], (SH L), M1) ∧ aX xc_270 (aSeek xc_270 78) [aR 145, aU, aU, aU, aI (aW (a2 + 1)), aI (aW (a1 - 1))] [] (SH L) M1 o)) ∧ (¬ ((M 200 a2) ≤ (M 200 a3)) → aX xc_270 (aSeek xc_270 41) [aR 145, aI a1, aI a2, aI (aW (a3 + (-1))), aU, aU] [] (SH L) M o))) : aX xc_270 (aSeek xc_270 41) [aR 145, aI a1, aI a2, aI a3, aU, aU] [] (SH L) M o := by
  obtain ⟨c2, h⟩ := h
  obtain ⟨c3, h⟩ := h
  by_cases cc : (M 200 a2) ≤ (M 200 a3)
  · replace h := h.1 cc
    have t4 : aX xc_270 (aSeek xc_270 62) [aR 145, aI a1, aI a2, aI a3, aU, aU] [] (SH L) M o := by
      obtain ⟨M1, k5, h⟩ := h
      have h2 : aX xc_270 (aSeek xc_270 68) [aR 145, aI a1, aI a2, aI a3, aU, aU] [] (SH L) M1 o := by
        exact aX_seg 8 (fun n g => g) (aX_le (ls := [aR 145, aU, aU, aU, aI (aW (a2 + 1)), aI (aW (a1 - 1))]) (ls1 := [aR 145, aI a1, aI a2, aI a3, aI (aW (a2 + 1)), aI (aW (a1 - 1))]) (⟨Or.inr rfl, ⟨Or.inl rfl, ⟨Or.inl rfl, ⟨Or.inl rfl, ⟨Or.inr rfl, ⟨Or.inr rfl, trivial⟩⟩⟩⟩⟩⟩) h)
      exact aX_seg 3 (fun n g => g) (aX_callv (rfl) rfl rfl rfl k5 h2)
    exact aX_seg 9 (fun n g => ip c2 (ip c3 (ip cc (g)))) t4
  · replace h := h.2 cc
    have t6 : aX xc_270 (aSeek xc_270 56) [aR 145, aI a1, aI a2, aI a3, aU, aU] [] (SH L) M o := by
      exact aX_seg 2 (fun n g => g) (h)
    exact aX_seg 9 (fun n g => ip c2 (ip c3 (in_ cc (g)))) t6
set_option maxRecDepth 100000 in
theorem bl_270_78 {L : Nat} {a4 a5 : Int} {M : aM} {o : aO} (h : ((a5 ≤ a4 → o = ([aI 1], (SH L), M)) ∧ (¬ (a5 ≤ a4) → (∃ (M1 : aM), aE 269 [aR 145, aI a4, aI a5] (SH L) M ([], (SH L), M1) ∧ aX xc_270 (aSeek xc_270 78) [aR 145, aU, aU, aU, aI (aW (a4 + 1)), aI (aW (a5 + (-1)))] [] (SH L) M1 o)))) : aX xc_270 (aSeek xc_270 78) [aR 145, aU, aU, aU, aI a4, aI a5] [] (SH L) M o := by
  by_cases cc : a5 ≤ a4
  · replace h := h.1 cc
    have t2 : aX xc_270 (aSeek xc_270 102) [aR 145, aU, aU, aU, aI a4, aI a5] [] (SH L) M o := by
      subst h
      exact ⟨2, rfl⟩
    exact aX_seg 3 (fun n g => ip cc (g)) t2
  · replace h := h.2 cc
    have t3 : aX xc_270 (aSeek xc_270 85) [aR 145, aU, aU, aU, aI a4, aI a5] [] (SH L) M o := by
      obtain ⟨M1, k4, h⟩ := h
      have h2 : aX xc_270 (aSeek xc_270 93) [aR 145, aU, aU, aU, aI a4, aI a5] [] (SH L) M1 o := by
        exact aX_seg 3 (fun n g => g) (h)
      exact aX_seg 3 (fun n g => g) (aX_callv (rfl) rfl rfl rfl k4 h2)
    exact aX_seg 3 (fun n g => in_ cc (g)) t3
/- TypeLockModel.orders()V -/
set_option maxRecDepth 100000 in
theorem en_271 {L : Nat} {M : aM} {o : aO} (h : aX xc_271 (aSeek xc_271 9) [aR 145, aI (M 159 0), aI 0, aU] [] (SH L) M o) : aE 271 [aR 145] (SH L) M o := by
  have q : aX xc_271 (aSeek xc_271 0) [aR 145, aU, aU, aU] [] (SH L) M o := by
    exact aX_seg 7 (fun n g => g) (h)
  exact q
set_option maxRecDepth 100000 in
theorem bl_271_9 {L : Nat} {a1 a2 : Int} {M : aM} {o : aO} (h : ((40 ≤ a2 → aX xc_271 (aSeek xc_271 30) [aR 145, aI a1, aI 0, aU] [] (SH L) M o) ∧ (¬ (40 ≤ a2) → ((0 ≤ a2 ∧ a2 < aLn (SH L) 4 193) ∧ ((1 : Int) = 0 ∨ (1 : Int) = 1)) ∧ aX xc_271 (aSeek xc_271 9) [aR 145, aI a1, aI (aW (a2 + 1)), aU] [] (SH L) (aSet M 193 a2 1) o))) : aX xc_271 (aSeek xc_271 9) [aR 145, aI a1, aI a2, aU] [] (SH L) M o := by
  by_cases cc : 40 ≤ a2
  · replace h := h.1 cc
    have t1 : aX xc_271 (aSeek xc_271 28) [aR 145, aI a1, aI a2, aU] [] (SH L) M o := by
      exact aX_seg 2 (fun n g => g) (h)
    exact aX_seg 3 (fun n g => ip cc (g)) t1
  · replace h := h.2 cc
    have t2 : aX xc_271 (aSeek xc_271 15) [aR 145, aI a1, aI a2, aU] [] (SH L) M o := by
      obtain ⟨c3, h⟩ := h
      exact aX_seg 7 (fun n g => ip c3 (g)) (h)
    exact aX_seg 3 (fun n g => in_ cc (g)) t2
set_option maxRecDepth 100000 in
theorem bl_271_30 {L : Nat} {a1 a2 : Int} {M : aM} {o : aO} (h : (((aShl 1 a1) ≤ a2 → aX xc_271 (aSeek xc_271 64) [aR 145, aI a1, aI 0, aU] [] (SH L) M o) ∧ (¬ ((aShl 1 a1) ≤ a2) → (∃ (M1 : aM), aE 246 [aR 145] (SH L) (aSet M 145 61 a2) ([], (SH L), M1) ∧ (∃ (M2 : aM) (v3 : Int), aE 251 [aR 145] (SH L) M1 ([aI v3], (SH L), M2) ∧ (0 ≤ a2 ∧ a2 < aLn (SH L) 1 199) ∧ aX xc_271 (aSeek xc_271 30) [aR 145, aI a1, aI (aW (a2 + 1)), aU] [] (SH L) (aSet M2 199 a2 v3) o))))) : aX xc_271 (aSeek xc_271 30) [aR 145, aI a1, aI a2, aU] [] (SH L) M o := by
  by_cases cc : (aShl 1 a1) ≤ a2
  · replace h := h.1 cc
    have t4 : aX xc_271 (aSeek xc_271 62) [aR 145, aI a1, aI a2, aU] [] (SH L) M o := by
      exact aX_seg 2 (fun n g => g) (h)
    exact aX_seg 5 (fun n g => ip cc (g)) t4
  · replace h := h.2 cc
    have t5 : aX xc_271 (aSeek xc_271 37) [aR 145, aI a1, aI a2, aU] [] (SH L) M o := by
      obtain ⟨M1, k6, h⟩ := h
      have h2 : aX xc_271 (aSeek xc_271 46) [aR 145, aI a1, aI a2, aU] [] (SH L) M1 o := by
        obtain ⟨M2, v3, k7, h⟩ := h
        have h2 : aX xc_271 (aSeek xc_271 55) [aR 145, aI a1, aI a2, aU] [aI v3, aI a2, aR 199] (SH L) M2 o := by
          obtain ⟨c8, h⟩ := h
          exact aX_seg 3 (fun n g => ip c8 (g)) (h)
        exact aX_seg 4 (fun n g => g) (aX_callv (rfl) rfl rfl rfl k7 h2)
      exact aX_seg 4 (fun n g => g) (aX_callv (rfl) rfl rfl rfl k6 h2)
    exact aX_seg 5 (fun n g => in_ cc (g)) t5
set_option maxRecDepth 100000 in
theorem bl_271_64 {L : Nat} {a1 a2 : Int} {M : aM} {o : aO} (h : ((a1 ≤ a2 → aX xc_271 (aSeek xc_271 91) [aR 145, aI a1, aI 1, aU] [] (SH L) M o) ∧ (¬ (a1 ≤ a2) → (0 ≤ a2 ∧ a2 < aLn (SH L) 1 200) ∧ (0 ≤ a2 ∧ a2 < aLn (SH L) 1 201) ∧ aX xc_271 (aSeek xc_271 64) [aR 145, aI a1, aI (aW (a2 + 1)), aU] [] (SH L) (aSet (aSet M 200 a2 a2) 201 a2 a2) o))) : aX xc_271 (aSeek xc_271 64) [aR 145, aI a1, aI a2, aU] [] (SH L) M o := by
  by_cases cc : a1 ≤ a2
  · replace h := h.1 cc
    have t1 : aX xc_271 (aSeek xc_271 89) [aR 145, aI a1, aI a2, aU] [] (SH L) M o := by
      exact aX_seg 2 (fun n g => g) (h)
    exact aX_seg 3 (fun n g => ip cc (g)) t1
  · replace h := h.2 cc
    have t2 : aX xc_271 (aSeek xc_271 69) [aR 145, aI a1, aI a2, aU] [] (SH L) M o := by
      obtain ⟨c3, h⟩ := h
      obtain ⟨c4, h⟩ := h
      exact aX_seg 12 (fun n g => ip c3 (ip c4 (g))) (h)
    exact aX_seg 3 (fun n g => in_ cc (g)) t2
set_option maxRecDepth 100000 in
theorem bl_271_91 {L : Nat} {a1 a2 : Int} {M : aM} {o : aO} (h : ((a2 = 0 → o = ([], (SH L), M)) ∧ (¬ (a2 = 0) → (∃ (M1 : aM) (v2 : Int), aE 268 [aR 145, aI a1] (SH L) M ([aI v2], (SH L), M1) ∧ ((v2 = 0 → aX xc_271 (aSeek xc_271 128) [aR 145, aI a1, aU, aU] [] (SH L) M1 o) ∧ (¬ (v2 = 0) → aX xc_271 (aSeek xc_271 105) [aR 145, aI a1, aU, aI 0] [] (SH L) M1 o)))))) : aX xc_271 (aSeek xc_271 91) [aR 145, aI a1, aI a2, aU] [] (SH L) M o := by
  by_cases cc : a2 = 0
  · replace h := h.1 cc
    have t3 : aX xc_271 (aSeek xc_271 137) [aR 145, aI a1, aI a2, aU] [] (SH L) M o := by
      subst h
      exact ⟨1, rfl⟩
    exact aX_seg 2 (fun n g => ip cc (g)) t3
  · replace h := h.2 cc
    have t4 : aX xc_271 (aSeek xc_271 95) [aR 145, aI a1, aI a2, aU] [] (SH L) M o := by
      obtain ⟨M1, v2, k5, h⟩ := h
      have h2 : aX xc_271 (aSeek xc_271 100) [aR 145, aI a1, aI a2, aU] [aI v2] (SH L) M1 o := by
        by_cases cc : v2 = 0
        · replace h := h.1 cc
          have t6 : aX xc_271 (aSeek xc_271 128) [aR 145, aI a1, aI a2, aU] [] (SH L) M1 o := by
            exact aX_le (ls := [aR 145, aI a1, aU, aU]) (ls1 := [aR 145, aI a1, aI a2, aU]) (⟨Or.inr rfl, ⟨Or.inr rfl, ⟨Or.inl rfl, ⟨Or.inl rfl, trivial⟩⟩⟩⟩) h
          exact aX_seg 1 (fun n g => ip cc (g)) t6
        · replace h := h.2 cc
          have t7 : aX xc_271 (aSeek xc_271 103) [aR 145, aI a1, aI a2, aU] [] (SH L) M1 o := by
            exact aX_seg 2 (fun n g => g) (aX_le (ls := [aR 145, aI a1, aU, aI 0]) (ls1 := [aR 145, aI a1, aI a2, aI 0]) (⟨Or.inr rfl, ⟨Or.inr rfl, ⟨Or.inl rfl, ⟨Or.inr rfl, trivial⟩⟩⟩⟩) h)
          exact aX_seg 1 (fun n g => in_ cc (g)) t7
      exact aX_seg 2 (fun n g => g) (aX_callv (rfl) rfl rfl rfl k5 h2)
    exact aX_seg 2 (fun n g => in_ cc (g)) t4
set_option maxRecDepth 100000 in
theorem bl_271_105 {L : Nat} {a1 a3 : Int} {M : aM} {o : aO} (h : ((a1 ≤ a3 → aX xc_271 (aSeek xc_271 128) [aR 145, aI a1, aU, aU] [] (SH L) M o) ∧ (¬ (a1 ≤ a3) → (0 ≤ a3 ∧ a3 < aLn (SH L) 1 200) ∧ (0 ≤ a3 ∧ a3 < aLn (SH L) 1 201) ∧ aX xc_271 (aSeek xc_271 105) [aR 145, aI a1, aU, aI (aW (a3 + 1))] [] (SH L) (aSet M 201 a3 (M 200 a3)) o))) : aX xc_271 (aSeek xc_271 105) [aR 145, aI a1, aU, aI a3] [] (SH L) M o := by
  by_cases cc : a1 ≤ a3
  · replace h := h.1 cc
    have t1 : aX xc_271 (aSeek xc_271 128) [aR 145, aI a1, aU, aI a3] [] (SH L) M o := by
      exact aX_le (ls := [aR 145, aI a1, aU, aU]) (ls1 := [aR 145, aI a1, aU, aI a3]) (⟨Or.inr rfl, ⟨Or.inr rfl, ⟨Or.inl rfl, ⟨Or.inl rfl, trivial⟩⟩⟩⟩) h
    exact aX_seg 3 (fun n g => ip cc (g)) t1
  · replace h := h.2 cc
    have t2 : aX xc_271 (aSeek xc_271 110) [aR 145, aI a1, aU, aI a3] [] (SH L) M o := by
      obtain ⟨c3, h⟩ := h
      obtain ⟨c4, h⟩ := h
      exact aX_seg 10 (fun n g => ip c3 (ip c4 (g))) (h)
    exact aX_seg 3 (fun n g => in_ cc (g)) t2
set_option maxRecDepth 100000 in
theorem bl_271_128 {L : Nat} {a1 : Int} {M : aM} {o : aO} (h : (∃ (M1 : aM) (v2 : Int), aE 270 [aR 145, aI a1] (SH L) M ([aI v2], (SH L), M1) ∧ aX xc_271 (aSeek xc_271 91) [aR 145, aI a1, aI v2, aU] [] (SH L) M1 o)) : aX xc_271 (aSeek xc_271 128) [aR 145, aI a1, aU, aU] [] (SH L) M o := by
  obtain ⟨M1, v2, k3, h⟩ := h
  have h2 : aX xc_271 (aSeek xc_271 133) [aR 145, aI a1, aU, aU] [aI v2] (SH L) M1 o := by
    exact aX_seg 2 (fun n g => g) (h)
  exact aX_seg 2 (fun n g => g) (aX_callv (rfl) rfl rfl rfl k3 h2)
/- TypeLockModel.order(I)I -/
set_option maxRecDepth 100000 in
theorem en_272 {L : Nat} {a1 : Int} {M : aM} {o : aO} (h : ((a1 < 0 → o = ([aI ((-1))], (SH L), M)) ∧ (¬ (a1 < 0) → ((a1 < (M 159 0) → (∃ (M1 : aM), aE 271 [aR 145] (SH L) M ([], (SH L), M1) ∧ (0 ≤ a1 ∧ a1 < aLn (SH L) 1 201) ∧ o = ([aI (M1 201 a1)], (SH L), M1))) ∧ (¬ (a1 < (M 159 0)) → o = ([aI ((-1))], (SH L), M)))))) : aE 272 [aR 145, aI a1] (SH L) M o := by
  have q : aX xc_272 (aSeek xc_272 0) [aR 145, aI a1] [] (SH L) M o := by
    by_cases cc : a1 < 0
    · replace h := h.1 cc
      have t2 : aX xc_272 (aSeek xc_272 14) [aR 145, aI a1] [] (SH L) M o := by
        subst h
        exact ⟨2, rfl⟩
      exact aX_seg 2 (fun n g => ip cc (g)) t2
    · replace h := h.2 cc
      have t3 : aX xc_272 (aSeek xc_272 4) [aR 145, aI a1] [] (SH L) M o := by
        by_cases cc : a1 < (M 159 0)
        · replace h := h.1 cc
          have t4 : aX xc_272 (aSeek xc_272 16) [aR 145, aI a1] [] (SH L) M o := by
            obtain ⟨M1, k5, h⟩ := h
            have h2 : aX xc_272 (aSeek xc_272 20) [aR 145, aI a1] [] (SH L) M1 o := by
              obtain ⟨c6, h⟩ := h
              subst h
              exact ⟨5, ip c6 (rfl)⟩
            exact aX_seg 1 (fun n g => g) (aX_callv (rfl) rfl rfl rfl k5 h2)
          exact aX_seg 6 (fun n g => ip cc (g)) t4
        · replace h := h.2 cc
          have t7 : aX xc_272 (aSeek xc_272 14) [aR 145, aI a1] [] (SH L) M o := by
            subst h
            exact ⟨2, rfl⟩
          exact aX_seg 6 (fun n g => in_ cc (g)) t7
      exact aX_seg 2 (fun n g => in_ cc (g)) t3
  exact q
/- TypeLockModel.ordered(I)I -/
set_option maxRecDepth 100000 in
theorem en_273 {L : Nat} {a1 : Int} {M : aM} {o : aO} (h : ((a1 < 0 → o = ([aI ((-1))], (SH L), M)) ∧ (¬ (a1 < 0) → ((a1 < (M 159 0) → (∃ (M1 : aM), aE 271 [aR 145] (SH L) M ([], (SH L), M1) ∧ aX xc_273 (aSeek xc_273 24) [aR 145, aI a1, aI 0, aI 0] [] (SH L) M1 o)) ∧ (¬ (a1 < (M 159 0)) → o = ([aI ((-1))], (SH L), M)))))) : aE 273 [aR 145, aI a1] (SH L) M o := by
  have q : aX xc_273 (aSeek xc_273 0) [aR 145, aI a1, aU, aU] [] (SH L) M o := by
    by_cases cc : a1 < 0
    · replace h := h.1 cc
      have t2 : aX xc_273 (aSeek xc_273 14) [aR 145, aI a1, aU, aU] [] (SH L) M o := by
        subst h
        exact ⟨2, rfl⟩
      exact aX_seg 2 (fun n g => ip cc (g)) t2
    · replace h := h.2 cc
      have t3 : aX xc_273 (aSeek xc_273 4) [aR 145, aI a1, aU, aU] [] (SH L) M o := by
        by_cases cc : a1 < (M 159 0)
        · replace h := h.1 cc
          have t4 : aX xc_273 (aSeek xc_273 16) [aR 145, aI a1, aU, aU] [] (SH L) M o := by
            obtain ⟨M1, k5, h⟩ := h
            have h2 : aX xc_273 (aSeek xc_273 20) [aR 145, aI a1, aU, aU] [] (SH L) M1 o := by
              exact aX_seg 4 (fun n g => g) (h)
            exact aX_seg 1 (fun n g => g) (aX_callv (rfl) rfl rfl rfl k5 h2)
          exact aX_seg 6 (fun n g => ip cc (g)) t4
        · replace h := h.2 cc
          have t6 : aX xc_273 (aSeek xc_273 14) [aR 145, aI a1, aU, aU] [] (SH L) M o := by
            subst h
            exact ⟨2, rfl⟩
          exact aX_seg 6 (fun n g => in_ cc (g)) t6
      exact aX_seg 2 (fun n g => in_ cc (g)) t3
  exact q
set_option maxRecDepth 100000 in
theorem bl_273_24 {L : Nat} {a1 a2 a3 : Int} {M : aM} {o : aO} (h : ((a1 < a3 → (0 ≤ a2 ∧ a2 < aLn (SH L) 1 199) ∧ o = ([aI (M 199 a2)], (SH L), M)) ∧ (¬ (a1 < a3) → (0 ≤ a3 ∧ a3 < aLn (SH L) 1 201) ∧ aX xc_273 (aSeek xc_273 24) [aR 145, aI a1, aI (aOr a2 (aShl 1 (M 201 a3))), aI (aW (a3 + 1))] [] (SH L) M o))) : aX xc_273 (aSeek xc_273 24) [aR 145, aI a1, aI a2, aI a3] [] (SH L) M o := by
  by_cases cc : a1 < a3
  · replace h := h.1 cc
    have t1 : aX xc_273 (aSeek xc_273 46) [aR 145, aI a1, aI a2, aI a3] [] (SH L) M o := by
      obtain ⟨c2, h⟩ := h
      subst h
      exact ⟨5, ip c2 (rfl)⟩
    exact aX_seg 3 (fun n g => ip cc (g)) t1
  · replace h := h.2 cc
    have t3 : aX xc_273 (aSeek xc_273 29) [aR 145, aI a1, aI a2, aI a3] [] (SH L) M o := by
      obtain ⟨c4, h⟩ := h
      exact aX_seg 11 (fun n g => ip c4 (g)) (h)
    exact aX_seg 3 (fun n g => in_ cc (g)) t3
/- TypeLockModel.bitsOf(I)I -/
set_option maxRecDepth 100000 in
theorem en_274 {L : Nat} {a0 : Int} {M : aM} {o : aO} (h : aX xc_274 (aSeek xc_274 4) [aI a0, aI 0, aI 0] [] (SH L) M o) : aE 274 [aI a0] (SH L) M o := by
  have q : aX xc_274 (aSeek xc_274 0) [aI a0, aU, aU] [] (SH L) M o := by
    exact aX_seg 4 (fun n g => g) (h)
  exact q
set_option maxRecDepth 100000 in
theorem bl_274_4 {L : Nat} {a0 a1 a2 : Int} {M : aM} {o : aO} (h : ((6 ≤ a2 → o = ([aI a1], (SH L), M)) ∧ (¬ (6 ≤ a2) → aX xc_274 (aSeek xc_274 4) [aI a0, aI (aW (a1 + (aAnd (aShr a0 a2) 1))), aI (aW (a2 + 1))] [] (SH L) M o))) : aX xc_274 (aSeek xc_274 4) [aI a0, aI a1, aI a2] [] (SH L) M o := by
  by_cases cc : 6 ≤ a2
  · replace h := h.1 cc
    have t1 : aX xc_274 (aSeek xc_274 24) [aI a0, aI a1, aI a2] [] (SH L) M o := by
      subst h
      exact ⟨2, rfl⟩
    exact aX_seg 3 (fun n g => ip cc (g)) t1
  · replace h := h.2 cc
    have t2 : aX xc_274 (aSeek xc_274 10) [aI a0, aI a1, aI a2] [] (SH L) M o := by
      exact aX_seg 10 (fun n g => g) (h)
    exact aX_seg 3 (fun n g => in_ cc (g)) t2
/- TypeLockModel.look(I)V -/
set_option maxRecDepth 100000 in
theorem en_275 {L : Nat} {a1 : Int} {M : aM} {o : aO} (h : (0 ≤ a1 ∧ a1 < aLn (SH L) 1 182) ∧ (0 ≤ a1 ∧ a1 < aLn (SH L) 1 183) ∧ (∃ (M1 : aM) (v2 : Int), aE 223 [aR 145, aI a1] (SH L) (aSet (aSet M 191 0 (M 182 a1)) 191 1 ((aSet M 191 0 (M 182 a1)) 183 a1)) ([aI v2], (SH L), M1) ∧ (∃ (M3 : aM) (v4 : Int), aE 224 [aR 145, aI a1] (SH L) (aSet M1 191 2 v2) ([aI v4], (SH L), M3) ∧ (∃ (M5 : aM) (v6 : Int), aE 274 [aI ((aSet (aSet (aSet M3 191 3 v4) 191 4 0) 191 5 0) 180 0)] (SH L) (aSet (aSet (aSet M3 191 3 v4) 191 4 0) 191 5 0) ([aI v6], (SH L), M5) ∧ (∃ (M7 : aM) (v8 : Int), aE 225 [aR 145, aI a1] (SH L) (aSet M5 191 6 v6) ([aI v8], (SH L), M7) ∧ ((v8 = 0 → aX xc_275 (aSeek xc_275 95) [aR 145, aI a1] [aI 0, aI 7, aR 191] (SH L) M7 o) ∧ (¬ (v8 = 0) → aX xc_275 (aSeek xc_275 95) [aR 145, aI a1] [aI 1, aI 7, aR 191] (SH L) M7 o))))))) : aE 275 [aR 145, aI a1] (SH L) M o := by
  have q : aX xc_275 (aSeek xc_275 0) [aR 145, aI a1] [] (SH L) M o := by
    obtain ⟨c9, h⟩ := h
    obtain ⟨c10, h⟩ := h
    obtain ⟨M1, v2, k11, h⟩ := h
    have h2 : aX xc_275 (aSeek xc_275 34) [aR 145, aI a1] [aI v2, aI 2, aR 191] (SH L) M1 o := by
      obtain ⟨M3, v4, k12, h⟩ := h
      have h2 : aX xc_275 (aSeek xc_275 45) [aR 145, aI a1] [aI v4, aI 3, aR 191] (SH L) M3 o := by
        obtain ⟨M5, v6, k13, h⟩ := h
        have h2 : aX xc_275 (aSeek xc_275 75) [aR 145, aI a1] [aI v6, aI 6, aR 191] (SH L) M5 o := by
          obtain ⟨M7, v8, k14, h⟩ := h
          have h2 : aX xc_275 (aSeek xc_275 87) [aR 145, aI a1] [aI v8, aI 7, aR 191] (SH L) M7 o := by
            by_cases cc : v8 = 0
            · replace h := h.1 cc
              have t15 : aX xc_275 (aSeek xc_275 94) [aR 145, aI a1] [aI 7, aR 191] (SH L) M7 o := by
                exact aX_seg 1 (fun n g => g) (h)
              exact aX_seg 1 (fun n g => ip cc (g)) t15
            · replace h := h.2 cc
              have t16 : aX xc_275 (aSeek xc_275 90) [aR 145, aI a1] [aI 7, aR 191] (SH L) M7 o := by
                exact aX_seg 2 (fun n g => g) (h)
              exact aX_seg 1 (fun n g => in_ cc (g)) t16
          exact aX_seg 6 (fun n g => g) (aX_callv (rfl) rfl rfl rfl k14 h2)
        exact aX_seg 18 (fun n g => g) (aX_calls rfl rfl rfl k13 h2)
      exact aX_seg 6 (fun n g => g) (aX_callv (rfl) rfl rfl rfl k12 h2)
    exact aX_seg 21 (fun n g => ip c9 (ip c10 (g))) (aX_callv (rfl) rfl rfl rfl k11 h2)
  exact q
set_option maxRecDepth 100000 in
theorem bl_275_95 {L : Nat} {a1 b0 b1 b2 : Int} {M : aM} {o : aO} (h : (0 ≤ b1 ∧ b1 < aLn (SH L) 1 b0) ∧ (0 ≤ a1 ∧ a1 < aLn (SH L) 1 181) ∧ (0 ≤ (aSet M b0 b1 b2) 181 a1 ∧ (aSet M b0 b1 b2) 181 a1 < aLn (SH L) 1 154) ∧ ((¬ ((aSet M b0 b1 b2) 154 ((aSet M b0 b1 b2) 181 a1)) = 3 → o = ([], (SH L), aSet (aSet M b0 b1 b2) 191 8 0)) ∧ (¬ (¬ ((aSet M b0 b1 b2) 154 ((aSet M b0 b1 b2) 181 a1)) = 3) → o = ([], (SH L), aSet (aSet M b0 b1 b2) 191 8 1)))) : aX xc_275 (aSeek xc_275 95) [aR 145, aI a1] [aI b2, aI b1, aR b0] (SH L) M o := by
  obtain ⟨c1, h⟩ := h
  obtain ⟨c2, h⟩ := h
  obtain ⟨c3, h⟩ := h
  by_cases cc : ¬ ((aSet M b0 b1 b2) 154 ((aSet M b0 b1 b2) 181 a1)) = 3
  · replace h := h.1 cc
    have t4 : aX xc_275 (aSeek xc_275 121) [aR 145, aI a1] [aI 8, aR 191] (SH L) (aSet M b0 b1 b2) o := by
      subst h
      exact ⟨3, rfl⟩
    exact aX_seg 13 (fun n g => ip c1 (ip c2 (ip c3 (ip cc (g))))) t4
  · replace h := h.2 cc
    have t5 : aX xc_275 (aSeek xc_275 117) [aR 145, aI a1] [aI 8, aR 191] (SH L) (aSet M b0 b1 b2) o := by
      subst h
      exact ⟨4, rfl⟩
    exact aX_seg 13 (fun n g => ip c1 (ip c2 (ip c3 (in_ cc (g))))) t5
/- TypeLockModel.givesOf(I)I -/
set_option maxRecDepth 100000 in
theorem en_276 {L : Nat} {a1 : Int} {M : aM} {o : aO} (h : (∃ (M1 : aM), aE 275 [aR 145, aI a1] (SH L) M ([], (SH L), M1) ∧ ((0 ≤ (M1 164 0) → (∃ (M2 : aM) (v3 : Int), aE 216 [aR 145, aI (M1 164 0), aI (M1 165 0)] (SH L) M1 ([aI v3], (SH L), M2) ∧ aX xc_276 (aSeek xc_276 34) [aU, aU, aU] [aI v3] (SH L) M2 o)) ∧ (¬ (0 ≤ (M1 164 0)) → aX xc_276 (aSeek xc_276 34) [aU, aU, aU] [aI 0] (SH L) M1 o)))) : aE 276 [aR 145, aI a1] (SH L) M o := by
  have q : aX xc_276 (aSeek xc_276 0) [aR 145, aI a1, aU] [] (SH L) M o := by
    obtain ⟨M1, k4, h⟩ := h
    have h2 : aX xc_276 (aSeek xc_276 5) [aR 145, aI a1, aU] [] (SH L) M1 o := by
      by_cases cc : 0 ≤ (M1 164 0)
      · replace h := h.1 cc
        have t5 : aX xc_276 (aSeek xc_276 18) [aR 145, aI a1, aU] [] (SH L) M1 o := by
          obtain ⟨M2, v3, k6, h⟩ := h
          have h2 : aX xc_276 (aSeek xc_276 34) [aR 145, aI a1, aU] [aI v3] (SH L) M2 o := by
            exact aX_le (ls := [aU, aU, aU]) (ls1 := [aR 145, aI a1, aU]) (⟨Or.inl rfl, ⟨Or.inl rfl, ⟨Or.inl rfl, trivial⟩⟩⟩) h
          exact aX_seg 9 (fun n g => g) (aX_callv (rfl) rfl rfl rfl k6 h2)
        exact aX_seg 5 (fun n g => ip cc (g)) t5
      · replace h := h.2 cc
        have t7 : aX xc_276 (aSeek xc_276 14) [aR 145, aI a1, aU] [] (SH L) M1 o := by
          exact aX_seg 2 (fun n g => g) (aX_le (ls := [aU, aU, aU]) (ls1 := [aR 145, aI a1, aU]) (⟨Or.inl rfl, ⟨Or.inl rfl, ⟨Or.inl rfl, trivial⟩⟩⟩) h)
        exact aX_seg 5 (fun n g => in_ cc (g)) t7
    exact aX_seg 2 (fun n g => g) (aX_callv (rfl) rfl rfl rfl k4 h2)
  exact q
set_option maxRecDepth 100000 in
theorem bl_276_34 {L : Nat} {b0 : Int} {M : aM} {o : aO} (h : ((0 ≤ b0 → ((b0 ≤ 9 → o = ([aI b0], (SH L), M)) ∧ (¬ (b0 ≤ 9) → o = ([aI 9], (SH L), M)))) ∧ (¬ (0 ≤ b0) → o = ([aI 0], (SH L), M)))) : aX xc_276 (aSeek xc_276 34) [aU, aU, aU] [aI b0] (SH L) M o := by
  by_cases cc : 0 ≤ b0
  · replace h := h.1 cc
    have t1 : aX xc_276 (aSeek xc_276 43) [aU, aU, aI b0] [] (SH L) M o := by
      by_cases cc : b0 ≤ 9
      · replace h := h.1 cc
        have t2 : aX xc_276 (aSeek xc_276 54) [aU, aU, aI b0] [] (SH L) M o := by
          subst h
          exact ⟨2, rfl⟩
        exact aX_seg 3 (fun n g => ip cc (g)) t2
      · replace h := h.2 cc
        have t3 : aX xc_276 (aSeek xc_276 49) [aU, aU, aI b0] [] (SH L) M o := by
          subst h
          exact ⟨3, rfl⟩
        exact aX_seg 3 (fun n g => in_ cc (g)) t3
    exact aX_seg 3 (fun n g => ip cc (g)) t1
  · replace h := h.2 cc
    have t4 : aX xc_276 (aSeek xc_276 39) [aU, aU, aI b0] [] (SH L) M o := by
      subst h
      exact ⟨3, rfl⟩
    exact aX_seg 3 (fun n g => in_ cc (g)) t4
/- TypeLockModel.gives(I)I -/
set_option maxRecDepth 100000 in
theorem en_277 {L : Nat} {a1 : Int} {M : aM} {o : aO} (h : (∃ (M1 : aM) (v2 : Int), aE 221 [aR 145, aI a1] (SH L) M ([aI v2], (SH L), M1) ∧ ((v2 = 0 → o = ([aI ((-1))], (SH L), M1)) ∧ (¬ (v2 = 0) → (∃ (M3 : aM) (v4 : Int), aE 276 [aR 145, aI a1] (SH L) M1 ([aI v4], (SH L), M3) ∧ o = ([aI v4], (SH L), M3)))))) : aE 277 [aR 145, aI a1] (SH L) M o := by
  have q : aX xc_277 (aSeek xc_277 0) [aR 145, aI a1] [] (SH L) M o := by
    obtain ⟨M1, v2, k5, h⟩ := h
    have h2 : aX xc_277 (aSeek xc_277 5) [aR 145, aI a1] [aI v2] (SH L) M1 o := by
      by_cases cc : v2 = 0
      · replace h := h.1 cc
        have t6 : aX xc_277 (aSeek xc_277 16) [aR 145, aI a1] [] (SH L) M1 o := by
          subst h
          exact ⟨2, rfl⟩
        exact aX_seg 1 (fun n g => ip cc (g)) t6
      · replace h := h.2 cc
        have t7 : aX xc_277 (aSeek xc_277 8) [aR 145, aI a1] [] (SH L) M1 o := by
          obtain ⟨M3, v4, k8, h⟩ := h
          have h2 : aX xc_277 (aSeek xc_277 13) [aR 145, aI a1] [aI v4] (SH L) M3 o := by
            subst h
            exact ⟨2, rfl⟩
          exact aX_seg 2 (fun n g => g) (aX_callv (rfl) rfl rfl rfl k8 h2)
        exact aX_seg 1 (fun n g => in_ cc (g)) t7
    exact aX_seg 2 (fun n g => g) (aX_callv (rfl) rfl rfl rfl k5 h2)
  exact q
/- TypeLockModel.shiftAll(I)V -/
set_option maxRecDepth 100000 in
theorem en_278 {L : Nat} {a1 : Int} {M : aM} {o : aO} (h : aX xc_278 (aSeek xc_278 2) [aR 145, aI a1, aI 0, aU, aU] [] (SH L) M o) : aE 278 [aR 145, aI a1] (SH L) M o := by
  have q : aX xc_278 (aSeek xc_278 0) [aR 145, aI a1, aU, aU, aU] [] (SH L) M o := by
    exact aX_seg 2 (fun n g => g) (h)
  exact q
set_option maxRecDepth 100000 in
theorem bl_278_2 {L : Nat} {a1 a2 : Int} {M : aM} {o : aO} (h : (((M 179 0) ≤ a2 → aX xc_278 (aSeek xc_278 38) [aR 145, aI a1, aI 1, aU, aU] [] (SH L) M o) ∧ (¬ ((M 179 0) ≤ a2) → (∃ (M1 : aM) (v2 : Int), aE 276 [aR 145, aI a2] (SH L) M ([aI v2], (SH L), M1) ∧ (0 ≤ a2 ∧ a2 < aLn (SH L) 1 202) ∧ (0 ≤ a2 ∧ a2 < aLn (SH L) 1 203) ∧ aX xc_278 (aSeek xc_278 2) [aR 145, aI a1, aI (aW (a2 + 1)), aU, aU] [] (SH L) (aSet (aSet M1 202 a2 v2) 203 a2 0) o)))) : aX xc_278 (aSeek xc_278 2) [aR 145, aI a1, aI a2, aU, aU] [] (SH L) M o := by
  by_cases cc : (M 179 0) ≤ a2
  · replace h := h.1 cc
    have t3 : aX xc_278 (aSeek xc_278 36) [aR 145, aI a1, aI a2, aU, aU] [] (SH L) M o := by
      exact aX_seg 2 (fun n g => g) (h)
    exact aX_seg 6 (fun n g => ip cc (g)) t3
  · replace h := h.2 cc
    have t4 : aX xc_278 (aSeek xc_278 12) [aR 145, aI a1, aI a2, aU, aU] [] (SH L) M o := by
      obtain ⟨M1, v2, k5, h⟩ := h
      have h2 : aX xc_278 (aSeek xc_278 22) [aR 145, aI a1, aI a2, aU, aU] [aI v2, aI a2, aR 202] (SH L) M1 o := by
        obtain ⟨c6, h⟩ := h
        obtain ⟨c7, h⟩ := h
        exact aX_seg 8 (fun n g => ip c6 (ip c7 (g))) (h)
      exact aX_seg 5 (fun n g => g) (aX_callv (rfl) rfl rfl rfl k5 h2)
    exact aX_seg 6 (fun n g => in_ cc (g)) t4
set_option maxRecDepth 100000 in
theorem bl_278_38 {L : Nat} {a1 a2 : Int} {M : aM} {o : aO} (h : ((a2 = 0 → o = ([], (SH L), M)) ∧ (¬ (a2 = 0) → aX xc_278 (aSeek xc_278 46) [aR 145, aI a1, aI 0, aI 0, aU] [] (SH L) M o))) : aX xc_278 (aSeek xc_278 38) [aR 145, aI a1, aI a2, aU, aU] [] (SH L) M o := by
  by_cases cc : a2 = 0
  · replace h := h.1 cc
    have t1 : aX xc_278 (aSeek xc_278 152) [aR 145, aI a1, aI a2, aU, aU] [] (SH L) M o := by
      subst h
      exact ⟨1, rfl⟩
    exact aX_seg 2 (fun n g => ip cc (g)) t1
  · replace h := h.2 cc
    have t2 : aX xc_278 (aSeek xc_278 42) [aR 145, aI a1, aI a2, aU, aU] [] (SH L) M o := by
      exact aX_seg 4 (fun n g => g) (h)
    exact aX_seg 2 (fun n g => in_ cc (g)) t2
set_option maxRecDepth 100000 in
theorem bl_278_46 {L : Nat} {a1 a2 a3 : Int} {M : aM} {o : aO} (h : (((M 179 0) ≤ a3 → aX xc_278 (aSeek xc_278 38) [aR 145, aI a1, aI a2, aU, aU] [] (SH L) M o) ∧ (¬ ((M 179 0) ≤ a3) → aX xc_278 (aSeek xc_278 59) [aR 145, aI a1, aI a2, aI a3, aI 0] [] (SH L) M o))) : aX xc_278 (aSeek xc_278 46) [aR 145, aI a1, aI a2, aI a3, aU] [] (SH L) M o := by
  by_cases cc : (M 179 0) ≤ a3
  · replace h := h.1 cc
    have t1 : aX xc_278 (aSeek xc_278 149) [aR 145, aI a1, aI a2, aI a3, aU] [] (SH L) M o := by
      exact aX_seg 1 (fun n g => g) (aX_le (ls := [aR 145, aI a1, aI a2, aU, aU]) (ls1 := [aR 145, aI a1, aI a2, aI a3, aU]) (⟨Or.inr rfl, ⟨Or.inr rfl, ⟨Or.inr rfl, ⟨Or.inl rfl, ⟨Or.inl rfl, trivial⟩⟩⟩⟩⟩) h)
    exact aX_seg 6 (fun n g => ip cc (g)) t1
  · replace h := h.2 cc
    have t2 : aX xc_278 (aSeek xc_278 56) [aR 145, aI a1, aI a2, aI a3, aU] [] (SH L) M o := by
      exact aX_seg 2 (fun n g => g) (h)
    exact aX_seg 6 (fun n g => in_ cc (g)) t2
set_option maxRecDepth 100000 in
theorem bl_278_59 {L : Nat} {a1 a2 a3 a4 : Int} {M : aM} {o : aO} (h : (((M 179 0) ≤ a4 → aX xc_278 (aSeek xc_278 46) [aR 145, aI a1, aI a2, aI (aW (a3 + 1)), aU] [] (SH L) M o) ∧ (¬ ((M 179 0) ≤ a4) → ((a4 = a3 → aX xc_278 (aSeek xc_278 137) [aR 145, aI a1, aI a2, aI a3, aI a4] [] (SH L) M o) ∧ (¬ (a4 = a3) → (∃ (M1 : aM) (v2 : Int), aE 235 [aR 145, aI a3, aI a1, aI a4] (SH L) M ([aI v2], (SH L), M1) ∧ ((v2 = 0 → aX xc_278 (aSeek xc_278 137) [aR 145, aI a1, aI a2, aI a3, aI a4] [] (SH L) M1 o) ∧ (¬ (v2 = 0) → (0 ≤ a4 ∧ a4 < aLn (SH L) 1 203) ∧ (0 ≤ a4 ∧ a4 < aLn (SH L) 1 202) ∧ (0 ≤ a3 ∧ a3 < aLn (SH L) 1 203) ∧ (((M1 203 a3) < (aW ((M1 203 a4) + (M1 202 a4))) → (0 ≤ a4 ∧ a4 < aLn (SH L) 1 203) ∧ (0 ≤ a4 ∧ a4 < aLn (SH L) 1 202) ∧ (0 ≤ a3 ∧ a3 < aLn (SH L) 1 203) ∧ aX xc_278 (aSeek xc_278 137) [aR 145, aI a1, aI 1, aI a3, aI a4] [] (SH L) (aSet M1 203 a3 (aW ((M1 203 a4) + (M1 202 a4)))) o) ∧ (¬ ((M1 203 a3) < (aW ((M1 203 a4) + (M1 202 a4)))) → aX xc_278 (aSeek xc_278 137) [aR 145, aI a1, aI a2, aI a3, aI a4] [] (SH L) M1 o)))))))))) : aX xc_278 (aSeek xc_278 59) [aR 145, aI a1, aI a2, aI a3, aI a4] [] (SH L) M o := by
  by_cases cc : (M 179 0) ≤ a4
  · replace h := h.1 cc
    have t3 : aX xc_278 (aSeek xc_278 143) [aR 145, aI a1, aI a2, aI a3, aI a4] [] (SH L) M o := by
      exact aX_seg 2 (fun n g => g) (aX_le (ls := [aR 145, aI a1, aI a2, aI (aW (a3 + 1)), aU]) (ls1 := [aR 145, aI a1, aI a2, aI (aW (a3 + 1)), aI a4]) (⟨Or.inr rfl, ⟨Or.inr rfl, ⟨Or.inr rfl, ⟨Or.inr rfl, ⟨Or.inl rfl, trivial⟩⟩⟩⟩⟩) h)
    exact aX_seg 6 (fun n g => ip cc (g)) t3
  · replace h := h.2 cc
    have t4 : aX xc_278 (aSeek xc_278 70) [aR 145, aI a1, aI a2, aI a3, aI a4] [] (SH L) M o := by
      by_cases cc : a4 = a3
      · replace h := h.1 cc
        have t5 : aX xc_278 (aSeek xc_278 137) [aR 145, aI a1, aI a2, aI a3, aI a4] [] (SH L) M o := by
          exact h
        exact aX_seg 3 (fun n g => ip cc (g)) t5
      · replace h := h.2 cc
        have t6 : aX xc_278 (aSeek xc_278 76) [aR 145, aI a1, aI a2, aI a3, aI a4] [] (SH L) M o := by
          obtain ⟨M1, v2, k7, h⟩ := h
          have h2 : aX xc_278 (aSeek xc_278 84) [aR 145, aI a1, aI a2, aI a3, aI a4] [aI v2] (SH L) M1 o := by
            by_cases cc : v2 = 0
            · replace h := h.1 cc
              have t8 : aX xc_278 (aSeek xc_278 137) [aR 145, aI a1, aI a2, aI a3, aI a4] [] (SH L) M1 o := by
                exact h
              exact aX_seg 1 (fun n g => ip cc (g)) t8
            · replace h := h.2 cc
              have t9 : aX xc_278 (aSeek xc_278 87) [aR 145, aI a1, aI a2, aI a3, aI a4] [] (SH L) M1 o := by
                obtain ⟨c10, h⟩ := h
                obtain ⟨c11, h⟩ := h
                obtain ⟨c12, h⟩ := h
                by_cases cc : (M1 203 a3) < (aW ((M1 203 a4) + (M1 202 a4)))
                · replace h := h.1 cc
                  have t13 : aX xc_278 (aSeek xc_278 114) [aR 145, aI a1, aI a2, aI a3, aI a4] [] (SH L) M1 o := by
                    obtain ⟨c14, h⟩ := h
                    obtain ⟨c15, h⟩ := h
                    obtain ⟨c16, h⟩ := h
                    exact aX_seg 15 (fun n g => ip c14 (ip c15 (ip c16 (g)))) (h)
                  exact aX_seg 14 (fun n g => ip c10 (ip c11 (ip c12 (ip cc (g))))) t13
                · replace h := h.2 cc
                  have t17 : aX xc_278 (aSeek xc_278 111) [aR 145, aI a1, aI a2, aI a3, aI a4] [] (SH L) M1 o := by
                    exact aX_seg 1 (fun n g => g) (h)
                  exact aX_seg 14 (fun n g => ip c10 (ip c11 (ip c12 (in_ cc (g))))) t17
              exact aX_seg 1 (fun n g => in_ cc (g)) t9
          exact aX_seg 4 (fun n g => g) (aX_callv (rfl) rfl rfl rfl k7 h2)
        exact aX_seg 3 (fun n g => in_ cc (g)) t6
    exact aX_seg 6 (fun n g => in_ cc (g)) t4
set_option maxRecDepth 100000 in
theorem bl_278_137 {L : Nat} {a1 a2 a3 a4 : Int} {M : aM} {o : aO} (h : aX xc_278 (aSeek xc_278 59) [aR 145, aI a1, aI a2, aI a3, aI (aW (a4 + 1))] [] (SH L) M o) : aX xc_278 (aSeek xc_278 137) [aR 145, aI a1, aI a2, aI a3, aI a4] [] (SH L) M o := by
  exact aX_seg 2 (fun n g => g) (h)
/- TypeLockModel.shift(II)I -/
set_option maxRecDepth 100000 in
theorem en_279 {L : Nat} {a1 a2 : Int} {M : aM} {o : aO} (h : (∃ (M1 : aM) (v2 : Int), aE 221 [aR 145, aI a1] (SH L) M ([aI v2], (SH L), M1) ∧ ((v2 = 0 → o = ([aI ((-1))], (SH L), M1)) ∧ (¬ (v2 = 0) → (∃ (M3 : aM) (v4 : Int), aE 219 [aI a2, aI 0, aI 3] (SH L) M1 ([aI v4], (SH L), M3) ∧ ((¬ v4 = 0 → (∃ (M5 : aM), aE 278 [aR 145, aI a2] (SH L) M3 ([], (SH L), M5) ∧ (0 ≤ a1 ∧ a1 < aLn (SH L) 1 203) ∧ o = ([aI (M5 203 a1)], (SH L), M5))) ∧ (¬ (¬ v4 = 0) → o = ([aI ((-1))], (SH L), M3)))))))) : aE 279 [aR 145, aI a1, aI a2] (SH L) M o := by
  have q : aX xc_279 (aSeek xc_279 0) [aR 145, aI a1, aI a2] [] (SH L) M o := by
    obtain ⟨M1, v2, k6, h⟩ := h
    have h2 : aX xc_279 (aSeek xc_279 5) [aR 145, aI a1, aI a2] [aI v2] (SH L) M1 o := by
      by_cases cc : v2 = 0
      · replace h := h.1 cc
        have t7 : aX xc_279 (aSeek xc_279 17) [aR 145, aI a1, aI a2] [] (SH L) M1 o := by
          subst h
          exact ⟨2, rfl⟩
        exact aX_seg 1 (fun n g => ip cc (g)) t7
      · replace h := h.2 cc
        have t8 : aX xc_279 (aSeek xc_279 8) [aR 145, aI a1, aI a2] [] (SH L) M1 o := by
          obtain ⟨M3, v4, k9, h⟩ := h
          have h2 : aX xc_279 (aSeek xc_279 14) [aR 145, aI a1, aI a2] [aI v4] (SH L) M3 o := by
            by_cases cc : ¬ v4 = 0
            · replace h := h.1 cc
              have t10 : aX xc_279 (aSeek xc_279 19) [aR 145, aI a1, aI a2] [] (SH L) M3 o := by
                obtain ⟨M5, k11, h⟩ := h
                have h2 : aX xc_279 (aSeek xc_279 24) [aR 145, aI a1, aI a2] [] (SH L) M5 o := by
                  obtain ⟨c12, h⟩ := h
                  subst h
                  exact ⟨5, ip c12 (rfl)⟩
                exact aX_seg 2 (fun n g => g) (aX_callv (rfl) rfl rfl rfl k11 h2)
              exact aX_seg 1 (fun n g => ip cc (g)) t10
            · replace h := h.2 cc
              have t13 : aX xc_279 (aSeek xc_279 17) [aR 145, aI a1, aI a2] [] (SH L) M3 o := by
                subst h
                exact ⟨2, rfl⟩
              exact aX_seg 1 (fun n g => in_ cc (g)) t13
          exact aX_seg 3 (fun n g => g) (aX_calls rfl rfl rfl k9 h2)
        exact aX_seg 1 (fun n g => in_ cc (g)) t8
    exact aX_seg 2 (fun n g => g) (aX_callv (rfl) rfl rfl rfl k6 h2)
  exact q
/- TypeLockModel.bow(II)I -/
set_option maxRecDepth 100000 in
theorem en_280 {L : Nat} {a1 a2 : Int} {M : aM} {o : aO} (h : (∃ (M1 : aM) (v2 : Int), aE 221 [aR 145, aI a1] (SH L) M ([aI v2], (SH L), M1) ∧ ((v2 = 0 → o = ([aI ((-1))], (SH L), M1)) ∧ (¬ (v2 = 0) → (∃ (M3 : aM) (v4 : Int), aE 219 [aI a2, aI 0, aI 3] (SH L) M1 ([aI v4], (SH L), M3) ∧ ((¬ v4 = 0 → (∃ (M5 : aM), aE 278 [aR 145, aI a2] (SH L) M3 ([], (SH L), M5) ∧ aX xc_280 (aSeek xc_280 32) [aR 145, aI a1, aI a2, aI ((-1)), aI ((-1)), aI 0] [] (SH L) M5 o)) ∧ (¬ (¬ v4 = 0) → o = ([aI ((-1))], (SH L), M3)))))))) : aE 280 [aR 145, aI a1, aI a2] (SH L) M o := by
  have q : aX xc_280 (aSeek xc_280 0) [aR 145, aI a1, aI a2, aU, aU, aU] [] (SH L) M o := by
    obtain ⟨M1, v2, k6, h⟩ := h
    have h2 : aX xc_280 (aSeek xc_280 5) [aR 145, aI a1, aI a2, aU, aU, aU] [aI v2] (SH L) M1 o := by
      by_cases cc : v2 = 0
      · replace h := h.1 cc
        have t7 : aX xc_280 (aSeek xc_280 17) [aR 145, aI a1, aI a2, aU, aU, aU] [] (SH L) M1 o := by
          subst h
          exact ⟨2, rfl⟩
        exact aX_seg 1 (fun n g => ip cc (g)) t7
      · replace h := h.2 cc
        have t8 : aX xc_280 (aSeek xc_280 8) [aR 145, aI a1, aI a2, aU, aU, aU] [] (SH L) M1 o := by
          obtain ⟨M3, v4, k9, h⟩ := h
          have h2 : aX xc_280 (aSeek xc_280 14) [aR 145, aI a1, aI a2, aU, aU, aU] [aI v4] (SH L) M3 o := by
            by_cases cc : ¬ v4 = 0
            · replace h := h.1 cc
              have t10 : aX xc_280 (aSeek xc_280 19) [aR 145, aI a1, aI a2, aU, aU, aU] [] (SH L) M3 o := by
                obtain ⟨M5, k11, h⟩ := h
                have h2 : aX xc_280 (aSeek xc_280 24) [aR 145, aI a1, aI a2, aU, aU, aU] [] (SH L) M5 o := by
                  exact aX_seg 6 (fun n g => g) (h)
                exact aX_seg 2 (fun n g => g) (aX_callv (rfl) rfl rfl rfl k11 h2)
              exact aX_seg 1 (fun n g => ip cc (g)) t10
            · replace h := h.2 cc
              have t12 : aX xc_280 (aSeek xc_280 17) [aR 145, aI a1, aI a2, aU, aU, aU] [] (SH L) M3 o := by
                subst h
                exact ⟨2, rfl⟩
              exact aX_seg 1 (fun n g => in_ cc (g)) t12
          exact aX_seg 3 (fun n g => g) (aX_calls rfl rfl rfl k9 h2)
        exact aX_seg 1 (fun n g => in_ cc (g)) t8
    exact aX_seg 2 (fun n g => g) (aX_callv (rfl) rfl rfl rfl k6 h2)
  exact q
set_option maxRecDepth 100000 in
theorem bl_280_32 {L : Nat} {a1 a2 a3 a4 a5 : Int} {M : aM} {o : aO} (h : (((M 179 0) ≤ a5 → ((0 ≤ a3 → o = ([aI (aW (a4 - a3))], (SH L), M)) ∧ (¬ (0 ≤ a3) → o = ([aI 0], (SH L), M)))) ∧ (¬ ((M 179 0) ≤ a5) → ((a5 = a1 → aX xc_280 (aSeek xc_280 111) [aR 145, aI a1, aI a2, aI a3, aI a4, aI a5] [] (SH L) M o) ∧ (¬ (a5 = a1) → (∃ (M1 : aM) (v2 : Int), aE 235 [aR 145, aI a1, aI (aRem (aW (a2 + 2)) 4), aI a5] (SH L) M ([aI v2], (SH L), M1) ∧ ((¬ v2 = 0 → ((a3 < 0 → aX xc_280 (aSeek xc_280 82) [aR 145, aI a1, aI a2, aU, aI a4, aI a5] [] (SH L) M1 o) ∧ (¬ (a3 < 0) → (0 ≤ a5 ∧ a5 < aLn (SH L) 1 203) ∧ ((a3 ≤ (M1 203 a5) → aX xc_280 (aSeek xc_280 90) [aR 145, aI a1, aI a2, aI a3, aI a4, aI a5] [] (SH L) M1 o) ∧ (¬ (a3 ≤ (M1 203 a5)) → aX xc_280 (aSeek xc_280 82) [aR 145, aI a1, aI a2, aU, aI a4, aI a5] [] (SH L) M1 o))))) ∧ (¬ (¬ v2 = 0) → aX xc_280 (aSeek xc_280 111) [aR 145, aI a1, aI a2, aI a3, aI a4, aI a5] [] (SH L) M1 o)))))))) : aX xc_280 (aSeek xc_280 32) [aR 145, aI a1, aI a2, aI a3, aI a4, aI a5] [] (SH L) M o := by
  by_cases cc : (M 179 0) ≤ a5
  · replace h := h.1 cc
    have t3 : aX xc_280 (aSeek xc_280 117) [aR 145, aI a1, aI a2, aI a3, aI a4, aI a5] [] (SH L) M o := by
      by_cases cc : 0 ≤ a3
      · replace h := h.1 cc
        have t4 : aX xc_280 (aSeek xc_280 125) [aR 145, aI a1, aI a2, aI a3, aI a4, aI a5] [] (SH L) M o := by
          subst h
          exact ⟨4, rfl⟩
        exact aX_seg 2 (fun n g => ip cc (g)) t4
      · replace h := h.2 cc
        have t5 : aX xc_280 (aSeek xc_280 121) [aR 145, aI a1, aI a2, aI a3, aI a4, aI a5] [] (SH L) M o := by
          subst h
          exact ⟨3, rfl⟩
        exact aX_seg 2 (fun n g => in_ cc (g)) t5
    exact aX_seg 6 (fun n g => ip cc (g)) t3
  · replace h := h.2 cc
    have t6 : aX xc_280 (aSeek xc_280 43) [aR 145, aI a1, aI a2, aI a3, aI a4, aI a5] [] (SH L) M o := by
      by_cases cc : a5 = a1
      · replace h := h.1 cc
        have t7 : aX xc_280 (aSeek xc_280 111) [aR 145, aI a1, aI a2, aI a3, aI a4, aI a5] [] (SH L) M o := by
          exact h
        exact aX_seg 3 (fun n g => ip cc (g)) t7
      · replace h := h.2 cc
        have t8 : aX xc_280 (aSeek xc_280 49) [aR 145, aI a1, aI a2, aI a3, aI a4, aI a5] [] (SH L) M o := by
          obtain ⟨M1, v2, k9, h⟩ := h
          have h2 : aX xc_280 (aSeek xc_280 61) [aR 145, aI a1, aI a2, aI a3, aI a4, aI a5] [aI v2] (SH L) M1 o := by
            by_cases cc : ¬ v2 = 0
            · replace h := h.1 cc
              have t10 : aX xc_280 (aSeek xc_280 67) [aR 145, aI a1, aI a2, aI a3, aI a4, aI a5] [] (SH L) M1 o := by
                by_cases cc : a3 < 0
                · replace h := h.1 cc
                  have t11 : aX xc_280 (aSeek xc_280 82) [aR 145, aI a1, aI a2, aI a3, aI a4, aI a5] [] (SH L) M1 o := by
                    exact aX_le (ls := [aR 145, aI a1, aI a2, aU, aI a4, aI a5]) (ls1 := [aR 145, aI a1, aI a2, aI a3, aI a4, aI a5]) (⟨Or.inr rfl, ⟨Or.inr rfl, ⟨Or.inr rfl, ⟨Or.inl rfl, ⟨Or.inr rfl, ⟨Or.inr rfl, trivial⟩⟩⟩⟩⟩⟩) h
                  exact aX_seg 2 (fun n g => ip cc (g)) t11
                · replace h := h.2 cc
                  have t12 : aX xc_280 (aSeek xc_280 71) [aR 145, aI a1, aI a2, aI a3, aI a4, aI a5] [] (SH L) M1 o := by
                    obtain ⟨c13, h⟩ := h
                    by_cases cc : a3 ≤ (M1 203 a5)
                    · replace h := h.1 cc
                      have t14 : aX xc_280 (aSeek xc_280 90) [aR 145, aI a1, aI a2, aI a3, aI a4, aI a5] [] (SH L) M1 o := by
                        exact h
                      exact aX_seg 6 (fun n g => ip c13 (ip cc (g))) t14
                    · replace h := h.2 cc
                      have t15 : aX xc_280 (aSeek xc_280 82) [aR 145, aI a1, aI a2, aI a3, aI a4, aI a5] [] (SH L) M1 o := by
                        exact aX_le (ls := [aR 145, aI a1, aI a2, aU, aI a4, aI a5]) (ls1 := [aR 145, aI a1, aI a2, aI a3, aI a4, aI a5]) (⟨Or.inr rfl, ⟨Or.inr rfl, ⟨Or.inr rfl, ⟨Or.inl rfl, ⟨Or.inr rfl, ⟨Or.inr rfl, trivial⟩⟩⟩⟩⟩⟩) h
                      exact aX_seg 6 (fun n g => ip c13 (in_ cc (g))) t15
                  exact aX_seg 2 (fun n g => in_ cc (g)) t12
              exact aX_seg 1 (fun n g => ip cc (g)) t10
            · replace h := h.2 cc
              have t16 : aX xc_280 (aSeek xc_280 64) [aR 145, aI a1, aI a2, aI a3, aI a4, aI a5] [] (SH L) M1 o := by
                exact aX_seg 1 (fun n g => g) (h)
              exact aX_seg 1 (fun n g => in_ cc (g)) t16
          exact aX_seg 8 (fun n g => g) (aX_callv (rfl) rfl rfl rfl k9 h2)
        exact aX_seg 3 (fun n g => in_ cc (g)) t8
    exact aX_seg 6 (fun n g => in_ cc (g)) t6
set_option maxRecDepth 100000 in
theorem bl_280_82 {L : Nat} {a1 a2 a4 a5 : Int} {M : aM} {o : aO} (h : (0 ≤ a5 ∧ a5 < aLn (SH L) 1 203) ∧ aX xc_280 (aSeek xc_280 90) [aR 145, aI a1, aI a2, aI (M 203 a5), aI a4, aI a5] [] (SH L) M o) : aX xc_280 (aSeek xc_280 82) [aR 145, aI a1, aI a2, aU, aI a4, aI a5] [] (SH L) M o := by
  obtain ⟨c1, h⟩ := h
  exact aX_seg 5 (fun n g => ip c1 (g)) (h)
set_option maxRecDepth 100000 in
theorem bl_280_90 {L : Nat} {a1 a2 a3 a4 a5 : Int} {M : aM} {o : aO} (h : (0 ≤ a5 ∧ a5 < aLn (SH L) 1 203) ∧ (((M 203 a5) ≤ a4 → aX xc_280 (aSeek xc_280 111) [aR 145, aI a1, aI a2, aI a3, aI a4, aI a5] [] (SH L) M o) ∧ (¬ ((M 203 a5) ≤ a4) → (0 ≤ a5 ∧ a5 < aLn (SH L) 1 203) ∧ aX xc_280 (aSeek xc_280 111) [aR 145, aI a1, aI a2, aI a3, aI (M 203 a5), aI a5] [] (SH L) M o))) : aX xc_280 (aSeek xc_280 90) [aR 145, aI a1, aI a2, aI a3, aI a4, aI a5] [] (SH L) M o := by
  obtain ⟨c1, h⟩ := h
  by_cases cc : (M 203 a5) ≤ a4
  · replace h := h.1 cc
    have t2 : aX xc_280 (aSeek xc_280 111) [aR 145, aI a1, aI a2, aI a3, aI a4, aI a5] [] (SH L) M o := by
      exact h
    exact aX_seg 6 (fun n g => ip c1 (ip cc (g))) t2
  · replace h := h.2 cc
    have t3 : aX xc_280 (aSeek xc_280 102) [aR 145, aI a1, aI a2, aI a3, aI a4, aI a5] [] (SH L) M o := by
      obtain ⟨c4, h⟩ := h
      exact aX_seg 5 (fun n g => ip c4 (g)) (h)
    exact aX_seg 6 (fun n g => ip c1 (in_ cc (g))) t3
set_option maxRecDepth 100000 in
theorem bl_280_111 {L : Nat} {a1 a2 a3 a4 a5 : Int} {M : aM} {o : aO} (h : aX xc_280 (aSeek xc_280 32) [aR 145, aI a1, aI a2, aI a3, aI a4, aI (aW (a5 + 1))] [] (SH L) M o) : aX xc_280 (aSeek xc_280 111) [aR 145, aI a1, aI a2, aI a3, aI a4, aI a5] [] (SH L) M o := by
  exact aX_seg 2 (fun n g => g) (h)
/- TypeLockModel.lookAll(I)V -/
set_option maxRecDepth 100000 in
theorem en_281 {L : Nat} {a1 : Int} {M : aM} {o : aO} (h : (∃ (M1 : aM), aE 275 [aR 145, aI a1] (SH L) M ([], (SH L), M1) ∧ aX xc_281 (aSeek xc_281 9) [aR 145, aI a1, aI 0, aI 0] [] (SH L) M1 o)) : aE 281 [aR 145, aI a1] (SH L) M o := by
  have q : aX xc_281 (aSeek xc_281 0) [aR 145, aI a1, aU, aU] [] (SH L) M o := by
    obtain ⟨M1, k2, h⟩ := h
    have h2 : aX xc_281 (aSeek xc_281 5) [aR 145, aI a1, aU, aU] [] (SH L) M1 o := by
      exact aX_seg 4 (fun n g => g) (h)
    exact aX_seg 2 (fun n g => g) (aX_callv (rfl) rfl rfl rfl k2 h2)
  exact q
set_option maxRecDepth 100000 in
theorem bl_281_9 {L : Nat} {a1 a2 a3 : Int} {M : aM} {o : aO} (h : (((M 179 0) ≤ a3 → aX xc_281 (aSeek xc_281 41) [aR 145, aI a1, aI a2, aI 0] [] (SH L) M o) ∧ (¬ ((M 179 0) ≤ a3) → ((a3 = a1 → aX xc_281 (aSeek xc_281 33) [aR 145, aI a1, aI a2, aI a3] [] (SH L) M o) ∧ (¬ (a3 = a1) → (∃ (M1 : aM) (v2 : Int), aE 236 [aR 145, aI a1, aI a3] (SH L) M ([aI v2], (SH L), M1) ∧ aX xc_281 (aSeek xc_281 33) [aR 145, aI a1, aI (aW (a2 + v2)), aI a3] [] (SH L) M1 o)))))) : aX xc_281 (aSeek xc_281 9) [aR 145, aI a1, aI a2, aI a3] [] (SH L) M o := by
  by_cases cc : (M 179 0) ≤ a3
  · replace h := h.1 cc
    have t3 : aX xc_281 (aSeek xc_281 39) [aR 145, aI a1, aI a2, aI a3] [] (SH L) M o := by
      exact aX_seg 2 (fun n g => g) (h)
    exact aX_seg 6 (fun n g => ip cc (g)) t3
  · replace h := h.2 cc
    have t4 : aX xc_281 (aSeek xc_281 19) [aR 145, aI a1, aI a2, aI a3] [] (SH L) M o := by
      by_cases cc : a3 = a1
      · replace h := h.1 cc
        have t5 : aX xc_281 (aSeek xc_281 33) [aR 145, aI a1, aI a2, aI a3] [] (SH L) M o := by
          exact h
        exact aX_seg 3 (fun n g => ip cc (g)) t5
      · replace h := h.2 cc
        have t6 : aX xc_281 (aSeek xc_281 24) [aR 145, aI a1, aI a2, aI a3] [] (SH L) M o := by
          obtain ⟨M1, v2, k7, h⟩ := h
          have h2 : aX xc_281 (aSeek xc_281 31) [aR 145, aI a1, aI a2, aI a3] [aI v2, aI a2] (SH L) M1 o := by
            exact aX_seg 2 (fun n g => g) (h)
          exact aX_seg 4 (fun n g => g) (aX_callv (rfl) rfl rfl rfl k7 h2)
        exact aX_seg 3 (fun n g => in_ cc (g)) t6
    exact aX_seg 6 (fun n g => in_ cc (g)) t4
set_option maxRecDepth 100000 in
theorem bl_281_33 {L : Nat} {a1 a2 a3 : Int} {M : aM} {o : aO} (h : aX xc_281 (aSeek xc_281 9) [aR 145, aI a1, aI a2, aI (aW (a3 + 1))] [] (SH L) M o) : aX xc_281 (aSeek xc_281 33) [aR 145, aI a1, aI a2, aI a3] [] (SH L) M o := by
  exact aX_seg 2 (fun n g => g) (h)
set_option maxRecDepth 100000 in
theorem bl_281_41 {L : Nat} {a1 a2 a3 : Int} {M : aM} {o : aO} (h : ((4 ≤ a3 → (∃ (M1 : aM) (v2 : Int), aE 250 [aR 145, aI a1] (SH L) (aSet M 191 4 a2) ([aI v2], (SH L), M1) ∧ ((v2 = 0 → o = ([], (SH L), aSet M1 191 5 0)) ∧ (¬ (v2 = 0) → o = ([], (SH L), aSet M1 191 5 1))))) ∧ (¬ (4 ≤ a3) → (∃ (M3 : aM) (v4 : Int), aE 242 [aR 145, aI a1, aI a3, aI 0] (SH L) M ([aI v4], (SH L), M3) ∧ aX xc_281 (aSeek xc_281 41) [aR 145, aI a1, aI (aW (a2 + v4)), aI (aW (a3 + 1))] [] (SH L) M3 o)))) : aX xc_281 (aSeek xc_281 41) [aR 145, aI a1, aI a2, aI a3] [] (SH L) M o := by
  by_cases cc : 4 ≤ a3
  · replace h := h.1 cc
    have t5 : aX xc_281 (aSeek xc_281 62) [aR 145, aI a1, aI a2, aI a3] [] (SH L) M o := by
      obtain ⟨M1, v2, k6, h⟩ := h
      have h2 : aX xc_281 (aSeek xc_281 79) [aR 145, aI a1, aI a2, aI a3] [aI v2, aI 5, aR 191] (SH L) M1 o := by
        by_cases cc : v2 = 0
        · replace h := h.1 cc
          have t7 : aX xc_281 (aSeek xc_281 86) [aR 145, aI a1, aI a2, aI a3] [aI 5, aR 191] (SH L) M1 o := by
            subst h
            exact ⟨3, rfl⟩
          exact aX_seg 1 (fun n g => ip cc (g)) t7
        · replace h := h.2 cc
          have t8 : aX xc_281 (aSeek xc_281 82) [aR 145, aI a1, aI a2, aI a3] [aI 5, aR 191] (SH L) M1 o := by
            subst h
            exact ⟨4, rfl⟩
          exact aX_seg 1 (fun n g => in_ cc (g)) t8
      exact aX_seg 10 (fun n g => g) (aX_callv (rfl) rfl rfl rfl k6 h2)
    exact aX_seg 3 (fun n g => ip cc (g)) t5
  · replace h := h.2 cc
    have t9 : aX xc_281 (aSeek xc_281 46) [aR 145, aI a1, aI a2, aI a3] [] (SH L) M o := by
      obtain ⟨M3, v4, k10, h⟩ := h
      have h2 : aX xc_281 (aSeek xc_281 54) [aR 145, aI a1, aI a2, aI a3] [aI v4, aI a2] (SH L) M3 o := by
        exact aX_seg 4 (fun n g => g) (h)
      exact aX_seg 5 (fun n g => g) (aX_callv (rfl) rfl rfl rfl k10 h2)
    exact aX_seg 3 (fun n g => in_ cc (g)) t9
/- TypeLockModel.judge()I -/
set_option maxRecDepth 100000 in
theorem en_282 {L : Nat} {M : aM} {o : aO} (h : (∃ (M1 : aM), aE 247 [aR 145] (SH L) M ([], (SH L), M1) ∧ aX xc_282 (aSeek xc_282 6) [aR 145, aI 0, aU] [] (SH L) M1 o)) : aE 282 [aR 145] (SH L) M o := by
  have q : aX xc_282 (aSeek xc_282 0) [aR 145, aU, aU] [] (SH L) M o := by
    obtain ⟨M1, k2, h⟩ := h
    have h2 : aX xc_282 (aSeek xc_282 4) [aR 145, aU, aU] [] (SH L) M1 o := by
      exact aX_seg 2 (fun n g => g) (h)
    exact aX_seg 1 (fun n g => g) (aX_callv (rfl) rfl rfl rfl k2 h2)
  exact q
set_option maxRecDepth 100000 in
theorem bl_282_6 {L : Nat} {a1 : Int} {M : aM} {o : aO} (h : (((M 179 0) ≤ a1 → o = ([aI ((-2))], (SH L), M)) ∧ (¬ ((M 179 0) ≤ a1) → (∃ (M1 : aM), aE 281 [aR 145, aI a1] (SH L) M ([], (SH L), M1) ∧ aX xc_282 (aSeek xc_282 23) [aR 145, aI a1, aI 0] [] (SH L) M1 o)))) : aX xc_282 (aSeek xc_282 6) [aR 145, aI a1, aU] [] (SH L) M o := by
  by_cases cc : (M 179 0) ≤ a1
  · replace h := h.1 cc
    have t2 : aX xc_282 (aSeek xc_282 71) [aR 145, aI a1, aU] [] (SH L) M o := by
      subst h
      exact ⟨2, rfl⟩
    exact aX_seg 6 (fun n g => ip cc (g)) t2
  · replace h := h.2 cc
    have t3 : aX xc_282 (aSeek xc_282 16) [aR 145, aI a1, aU] [] (SH L) M o := by
      obtain ⟨M1, k4, h⟩ := h
      have h2 : aX xc_282 (aSeek xc_282 21) [aR 145, aI a1, aU] [] (SH L) M1 o := by
        exact aX_seg 2 (fun n g => g) (h)
      exact aX_seg 2 (fun n g => g) (aX_callv (rfl) rfl rfl rfl k4 h2)
    exact aX_seg 6 (fun n g => in_ cc (g)) t3
set_option maxRecDepth 100000 in
theorem bl_282_23 {L : Nat} {a1 a2 : Int} {M : aM} {o : aO} (h : (((M 166 0) ≤ a2 → aX xc_282 (aSeek xc_282 6) [aR 145, aI (aW (a1 + 1)), aU] [] (SH L) M o) ∧ (¬ ((M 166 0) ≤ a2) → (0 ≤ a2 ∧ a2 < aLn (SH L) 1 167) ∧ (0 ≤ a2 ∧ a2 < aLn (SH L) 1 168) ∧ (∃ (M1 : aM) (v2 : Int), aE 218 [aR 145, aI (M 167 a2), aI (M 168 a2)] (SH L) M ([aI v2], (SH L), M1) ∧ ((v2 = 0 → aX xc_282 (aSeek xc_282 23) [aR 145, aI a1, aI (aW (a2 + 1))] [] (SH L) M1 o) ∧ (¬ (v2 = 0) → o = ([aI (aW ((aW (10 * a1)) + a2))], (SH L), M1))))))) : aX xc_282 (aSeek xc_282 23) [aR 145, aI a1, aI a2] [] (SH L) M o := by
  by_cases cc : (M 166 0) ≤ a2
  · replace h := h.1 cc
    have t3 : aX xc_282 (aSeek xc_282 65) [aR 145, aI a1, aI a2] [] (SH L) M o := by
      exact aX_seg 2 (fun n g => g) (aX_le (ls := [aR 145, aI (aW (a1 + 1)), aU]) (ls1 := [aR 145, aI (aW (a1 + 1)), aI a2]) (⟨Or.inr rfl, ⟨Or.inr rfl, ⟨Or.inl rfl, trivial⟩⟩⟩) h)
    exact aX_seg 6 (fun n g => ip cc (g)) t3
  · replace h := h.2 cc
    have t4 : aX xc_282 (aSeek xc_282 33) [aR 145, aI a1, aI a2] [] (SH L) M o := by
      obtain ⟨c5, h⟩ := h
      obtain ⟨c6, h⟩ := h
      obtain ⟨M1, v2, k7, h⟩ := h
      have h2 : aX xc_282 (aSeek xc_282 49) [aR 145, aI a1, aI a2] [aI v2] (SH L) M1 o := by
        by_cases cc : v2 = 0
        · replace h := h.1 cc
          have t8 : aX xc_282 (aSeek xc_282 59) [aR 145, aI a1, aI a2] [] (SH L) M1 o := by
            exact aX_seg 2 (fun n g => g) (h)
          exact aX_seg 1 (fun n g => ip cc (g)) t8
        · replace h := h.2 cc
          have t9 : aX xc_282 (aSeek xc_282 52) [aR 145, aI a1, aI a2] [] (SH L) M1 o := by
            subst h
            exact ⟨6, rfl⟩
          exact aX_seg 1 (fun n g => in_ cc (g)) t9
      exact aX_seg 9 (fun n g => ip c5 (ip c6 (g))) (aX_callv (rfl) rfl rfl rfl k7 h2)
    exact aX_seg 6 (fun n g => in_ cc (g)) t4
/- TypeLockModel.breaks(I)I -/
set_option maxRecDepth 100000 in
theorem en_283 {L : Nat} {a1 : Int} {M : aM} {o : aO} (h : ((a1 < 0 → o = ([aI ((-1))], (SH L), M)) ∧ (¬ (a1 < 0) → ((a1 < (M 166 0) → (∃ (M1 : aM), aE 247 [aR 145] (SH L) M ([], (SH L), M1) ∧ aX xc_283 (aSeek xc_283 24) [aR 145, aI a1, aI 0, aI 0] [] (SH L) M1 o)) ∧ (¬ (a1 < (M 166 0)) → o = ([aI ((-1))], (SH L), M)))))) : aE 283 [aR 145, aI a1] (SH L) M o := by
  have q : aX xc_283 (aSeek xc_283 0) [aR 145, aI a1, aU, aU] [] (SH L) M o := by
    by_cases cc : a1 < 0
    · replace h := h.1 cc
      have t2 : aX xc_283 (aSeek xc_283 14) [aR 145, aI a1, aU, aU] [] (SH L) M o := by
        subst h
        exact ⟨2, rfl⟩
      exact aX_seg 2 (fun n g => ip cc (g)) t2
    · replace h := h.2 cc
      have t3 : aX xc_283 (aSeek xc_283 4) [aR 145, aI a1, aU, aU] [] (SH L) M o := by
        by_cases cc : a1 < (M 166 0)
        · replace h := h.1 cc
          have t4 : aX xc_283 (aSeek xc_283 16) [aR 145, aI a1, aU, aU] [] (SH L) M o := by
            obtain ⟨M1, k5, h⟩ := h
            have h2 : aX xc_283 (aSeek xc_283 20) [aR 145, aI a1, aU, aU] [] (SH L) M1 o := by
              exact aX_seg 4 (fun n g => g) (h)
            exact aX_seg 1 (fun n g => g) (aX_callv (rfl) rfl rfl rfl k5 h2)
          exact aX_seg 6 (fun n g => ip cc (g)) t4
        · replace h := h.2 cc
          have t6 : aX xc_283 (aSeek xc_283 14) [aR 145, aI a1, aU, aU] [] (SH L) M o := by
            subst h
            exact ⟨2, rfl⟩
          exact aX_seg 6 (fun n g => in_ cc (g)) t6
      exact aX_seg 2 (fun n g => in_ cc (g)) t3
  exact q
set_option maxRecDepth 100000 in
theorem bl_283_24 {L : Nat} {a1 a2 a3 : Int} {M : aM} {o : aO} (h : (((M 179 0) ≤ a3 → o = ([aI a2], (SH L), M)) ∧ (¬ ((M 179 0) ≤ a3) → (∃ (M1 : aM), aE 281 [aR 145, aI a3] (SH L) M ([], (SH L), M1) ∧ (0 ≤ a1 ∧ a1 < aLn (SH L) 1 167) ∧ (0 ≤ a1 ∧ a1 < aLn (SH L) 1 168) ∧ (∃ (M2 : aM) (v3 : Int), aE 218 [aR 145, aI (M1 167 a1), aI (M1 168 a1)] (SH L) M1 ([aI v3], (SH L), M2) ∧ ((v3 = 0 → aX xc_283 (aSeek xc_283 64) [aR 145, aI a1, aU, aI a3] [aI 0, aI a2] (SH L) M2 o) ∧ (¬ (v3 = 0) → aX xc_283 (aSeek xc_283 64) [aR 145, aI a1, aU, aI a3] [aI 1, aI a2] (SH L) M2 o))))))) : aX xc_283 (aSeek xc_283 24) [aR 145, aI a1, aI a2, aI a3] [] (SH L) M o := by
  by_cases cc : (M 179 0) ≤ a3
  · replace h := h.1 cc
    have t4 : aX xc_283 (aSeek xc_283 72) [aR 145, aI a1, aI a2, aI a3] [] (SH L) M o := by
      subst h
      exact ⟨2, rfl⟩
    exact aX_seg 6 (fun n g => ip cc (g)) t4
  · replace h := h.2 cc
    have t5 : aX xc_283 (aSeek xc_283 34) [aR 145, aI a1, aI a2, aI a3] [] (SH L) M o := by
      obtain ⟨M1, k6, h⟩ := h
      have h2 : aX xc_283 (aSeek xc_283 39) [aR 145, aI a1, aI a2, aI a3] [] (SH L) M1 o := by
        obtain ⟨c7, h⟩ := h
        obtain ⟨c8, h⟩ := h
        obtain ⟨M2, v3, k9, h⟩ := h
        have h2 : aX xc_283 (aSeek xc_283 56) [aR 145, aI a1, aI a2, aI a3] [aI v3, aI a2] (SH L) M2 o := by
          by_cases cc : v3 = 0
          · replace h := h.1 cc
            have t10 : aX xc_283 (aSeek xc_283 63) [aR 145, aI a1, aI a2, aI a3] [aI a2] (SH L) M2 o := by
              exact aX_seg 1 (fun n g => g) (aX_le (ls := [aR 145, aI a1, aU, aI a3]) (ls1 := [aR 145, aI a1, aI a2, aI a3]) (⟨Or.inr rfl, ⟨Or.inr rfl, ⟨Or.inl rfl, ⟨Or.inr rfl, trivial⟩⟩⟩⟩) h)
            exact aX_seg 1 (fun n g => ip cc (g)) t10
          · replace h := h.2 cc
            have t11 : aX xc_283 (aSeek xc_283 59) [aR 145, aI a1, aI a2, aI a3] [aI a2] (SH L) M2 o := by
              exact aX_seg 2 (fun n g => g) (aX_le (ls := [aR 145, aI a1, aU, aI a3]) (ls1 := [aR 145, aI a1, aI a2, aI a3]) (⟨Or.inr rfl, ⟨Or.inr rfl, ⟨Or.inl rfl, ⟨Or.inr rfl, trivial⟩⟩⟩⟩) h)
            exact aX_seg 1 (fun n g => in_ cc (g)) t11
        exact aX_seg 10 (fun n g => ip c7 (ip c8 (g))) (aX_callv (rfl) rfl rfl rfl k9 h2)
      exact aX_seg 2 (fun n g => g) (aX_callv (rfl) rfl rfl rfl k6 h2)
    exact aX_seg 6 (fun n g => in_ cc (g)) t5
set_option maxRecDepth 100000 in
theorem bl_283_64 {L : Nat} {a1 a3 b0 b1 : Int} {M : aM} {o : aO} (h : aX xc_283 (aSeek xc_283 24) [aR 145, aI a1, aI (aW (b0 + b1)), aI (aW (a3 + 1))] [] (SH L) M o) : aX xc_283 (aSeek xc_283 64) [aR 145, aI a1, aU, aI a3] [aI b1, aI b0] (SH L) M o := by
  exact aX_seg 4 (fun n g => g) (h)
/- TypeLockModel.bestLine(III)I -/
set_option maxRecDepth 100000 in
theorem en_284 {L : Nat} {a1 a2 a3 : Int} {M : aM} {o : aO} (h : (0 ≤ aW ((aW ((aW (241 * a1)) + 241)) + a2) ∧ aW ((aW ((aW (241 * a1)) + 241)) + a2) < aLn (SH L) 1 204) ∧ aX xc_284 (aSeek xc_284 21) [aR 145, aI a1, aI a2, aI a3, aI (M 204 (aW ((aW ((aW (241 * a1)) + 241)) + a2))), aI 0, aU, aU, aU] [] (SH L) M o) : aE 284 [aR 145, aI a1, aI a2, aI a3] (SH L) M o := by
  have q : aX xc_284 (aSeek xc_284 0) [aR 145, aI a1, aI a2, aI a3, aU, aU, aU, aU, aU] [] (SH L) M o := by
    obtain ⟨c1, h⟩ := h
    exact aX_seg 13 (fun n g => ip c1 (g)) (h)
  exact q
set_option maxRecDepth 100000 in
theorem bl_284_21 {L : Nat} {a1 a2 a3 a4 a5 : Int} {M : aM} {o : aO} (h : ((a3 < a5 → aX xc_284 (aSeek xc_284 141) [aU, aU, aU, aU, aI a4, aU, aU, aU, aU] [] (SH L) M o) ∧ (¬ (a3 < a5) → (0 ≤ a1 ∧ a1 < aLn (SH L) 1 155) ∧ ((a2 < (aW (a5 * (M 155 a1))) → aX xc_284 (aSeek xc_284 141) [aU, aU, aU, aU, aI a4, aU, aU, aU, aU] [] (SH L) M o) ∧ (¬ (a2 < (aW (a5 * (M 155 a1)))) → (0 ≤ a1 ∧ a1 < aLn (SH L) 1 155) ∧ aX xc_284 (aSeek xc_284 56) [aR 145, aI a1, aI a2, aI a3, aI a4, aI a5, aI (aW (a2 - (aW (a5 * (M 155 a1))))), aI 0, aU] [] (SH L) M o))))) : aX xc_284 (aSeek xc_284 21) [aR 145, aI a1, aI a2, aI a3, aI a4, aI a5, aU, aU, aU] [] (SH L) M o := by
  by_cases cc : a3 < a5
  · replace h := h.1 cc
    have t1 : aX xc_284 (aSeek xc_284 141) [aR 145, aI a1, aI a2, aI a3, aI a4, aI a5, aU, aU, aU] [] (SH L) M o := by
      exact aX_le (ls := [aU, aU, aU, aU, aI a4, aU, aU, aU, aU]) (ls1 := [aR 145, aI a1, aI a2, aI a3, aI a4, aI a5, aU, aU, aU]) (⟨Or.inl rfl, ⟨Or.inl rfl, ⟨Or.inl rfl, ⟨Or.inl rfl, ⟨Or.inr rfl, ⟨Or.inl rfl, ⟨Or.inl rfl, ⟨Or.inl rfl, ⟨Or.inl rfl, trivial⟩⟩⟩⟩⟩⟩⟩⟩⟩) h
    exact aX_seg 3 (fun n g => ip cc (g)) t1
  · replace h := h.2 cc
    have t2 : aX xc_284 (aSeek xc_284 27) [aR 145, aI a1, aI a2, aI a3, aI a4, aI a5, aU, aU, aU] [] (SH L) M o := by
      obtain ⟨c3, h⟩ := h
      by_cases cc : a2 < (aW (a5 * (M 155 a1)))
      · replace h := h.1 cc
        have t4 : aX xc_284 (aSeek xc_284 141) [aR 145, aI a1, aI a2, aI a3, aI a4, aI a5, aU, aU, aU] [] (SH L) M o := by
          exact aX_le (ls := [aU, aU, aU, aU, aI a4, aU, aU, aU, aU]) (ls1 := [aR 145, aI a1, aI a2, aI a3, aI a4, aI a5, aU, aU, aU]) (⟨Or.inl rfl, ⟨Or.inl rfl, ⟨Or.inl rfl, ⟨Or.inl rfl, ⟨Or.inr rfl, ⟨Or.inl rfl, ⟨Or.inl rfl, ⟨Or.inl rfl, ⟨Or.inl rfl, trivial⟩⟩⟩⟩⟩⟩⟩⟩⟩) h
        exact aX_seg 8 (fun n g => ip c3 (ip cc (g))) t4
      · replace h := h.2 cc
        have t5 : aX xc_284 (aSeek xc_284 40) [aR 145, aI a1, aI a2, aI a3, aI a4, aI a5, aU, aU, aU] [] (SH L) M o := by
          obtain ⟨c6, h⟩ := h
          exact aX_seg 11 (fun n g => ip c6 (g)) (h)
        exact aX_seg 8 (fun n g => ip c3 (in_ cc (g))) t5
    exact aX_seg 3 (fun n g => in_ cc (g)) t2
set_option maxRecDepth 100000 in
theorem bl_284_56 {L : Nat} {a1 a2 a3 a4 a5 a6 a7 : Int} {M : aM} {o : aO} (h : ((a3 < (aW (a5 + a7)) → aX xc_284 (aSeek xc_284 135) [aR 145, aI a1, aI a2, aI a3, aI a4, aI a5, aU, aU, aU] [] (SH L) M o) ∧ (¬ (a3 < (aW (a5 + a7))) → (0 ≤ a1 ∧ a1 < aLn (SH L) 1 156) ∧ ((a6 < (aW (a7 * (M 156 a1))) → aX xc_284 (aSeek xc_284 135) [aR 145, aI a1, aI a2, aI a3, aI a4, aI a5, aU, aU, aU] [] (SH L) M o) ∧ (¬ (a6 < (aW (a7 * (M 156 a1)))) → (0 ≤ a1 ∧ a1 < aLn (SH L) 1 156) ∧ (0 ≤ aW ((aW ((aW ((aW (241 * a1)) + 241)) + a6)) - (aW (a7 * (M 156 a1)))) ∧ aW ((aW ((aW ((aW (241 * a1)) + 241)) + a6)) - (aW (a7 * (M 156 a1)))) < aLn (SH L) 1 204) ∧ ((a4 ≤ (aW ((M 204 (aW ((aW ((aW ((aW (241 * a1)) + 241)) + a6)) - (aW (a7 * (M 156 a1)))))) + (aW (1000 * (aW (a5 + a7)))))) → aX xc_284 (aSeek xc_284 129) [aR 145, aI a1, aI a2, aI a3, aI a4, aI a5, aI a6, aI a7, aU] [] (SH L) M o) ∧ (¬ (a4 ≤ (aW ((M 204 (aW ((aW ((aW ((aW (241 * a1)) + 241)) + a6)) - (aW (a7 * (M 156 a1)))))) + (aW (1000 * (aW (a5 + a7))))))) → aX xc_284 (aSeek xc_284 129) [aR 145, aI a1, aI a2, aI a3, aI (aW ((M 204 (aW ((aW ((aW ((aW (241 * a1)) + 241)) + a6)) - (aW (a7 * (M 156 a1)))))) + (aW (1000 * (aW (a5 + a7)))))), aI a5, aI a6, aI a7, aU] [] (SH L) M o))))))) : aX xc_284 (aSeek xc_284 56) [aR 145, aI a1, aI a2, aI a3, aI a4, aI a5, aI a6, aI a7, aU] [] (SH L) M o := by
  by_cases cc : a3 < (aW (a5 + a7))
  · replace h := h.1 cc
    have t1 : aX xc_284 (aSeek xc_284 135) [aR 145, aI a1, aI a2, aI a3, aI a4, aI a5, aI a6, aI a7, aU] [] (SH L) M o := by
      exact aX_le (ls := [aR 145, aI a1, aI a2, aI a3, aI a4, aI a5, aU, aU, aU]) (ls1 := [aR 145, aI a1, aI a2, aI a3, aI a4, aI a5, aI a6, aI a7, aU]) (⟨Or.inr rfl, ⟨Or.inr rfl, ⟨Or.inr rfl, ⟨Or.inr rfl, ⟨Or.inr rfl, ⟨Or.inr rfl, ⟨Or.inl rfl, ⟨Or.inl rfl, ⟨Or.inl rfl, trivial⟩⟩⟩⟩⟩⟩⟩⟩⟩) h
    exact aX_seg 5 (fun n g => ip cc (g)) t1
  · replace h := h.2 cc
    have t2 : aX xc_284 (aSeek xc_284 65) [aR 145, aI a1, aI a2, aI a3, aI a4, aI a5, aI a6, aI a7, aU] [] (SH L) M o := by
      obtain ⟨c3, h⟩ := h
      by_cases cc : a6 < (aW (a7 * (M 156 a1)))
      · replace h := h.1 cc
        have t4 : aX xc_284 (aSeek xc_284 135) [aR 145, aI a1, aI a2, aI a3, aI a4, aI a5, aI a6, aI a7, aU] [] (SH L) M o := by
          exact aX_le (ls := [aR 145, aI a1, aI a2, aI a3, aI a4, aI a5, aU, aU, aU]) (ls1 := [aR 145, aI a1, aI a2, aI a3, aI a4, aI a5, aI a6, aI a7, aU]) (⟨Or.inr rfl, ⟨Or.inr rfl, ⟨Or.inr rfl, ⟨Or.inr rfl, ⟨Or.inr rfl, ⟨Or.inr rfl, ⟨Or.inl rfl, ⟨Or.inl rfl, ⟨Or.inl rfl, trivial⟩⟩⟩⟩⟩⟩⟩⟩⟩) h
        exact aX_seg 8 (fun n g => ip c3 (ip cc (g))) t4
      · replace h := h.2 cc
        have t5 : aX xc_284 (aSeek xc_284 79) [aR 145, aI a1, aI a2, aI a3, aI a4, aI a5, aI a6, aI a7, aU] [] (SH L) M o := by
          obtain ⟨c6, h⟩ := h
          obtain ⟨c7, h⟩ := h
          by_cases cc : a4 ≤ (aW ((M 204 (aW ((aW ((aW ((aW (241 * a1)) + 241)) + a6)) - (aW (a7 * (M 156 a1)))))) + (aW (1000 * (aW (a5 + a7))))))
          · replace h := h.1 cc
            have t8 : aX xc_284 (aSeek xc_284 129) [aR 145, aI a1, aI a2, aI a3, aI a4, aI a5, aI a6, aI a7, aI (aW ((M 204 (aW ((aW ((aW ((aW (241 * a1)) + 241)) + a6)) - (aW (a7 * (M 156 a1)))))) + (aW (1000 * (aW (a5 + a7))))))] [] (SH L) M o := by
              exact aX_le (ls := [aR 145, aI a1, aI a2, aI a3, aI a4, aI a5, aI a6, aI a7, aU]) (ls1 := [aR 145, aI a1, aI a2, aI a3, aI a4, aI a5, aI a6, aI a7, aI (aW ((M 204 (aW ((aW ((aW ((aW (241 * a1)) + 241)) + a6)) - (aW (a7 * (M 156 a1)))))) + (aW (1000 * (aW (a5 + a7))))))]) (⟨Or.inr rfl, ⟨Or.inr rfl, ⟨Or.inr rfl, ⟨Or.inr rfl, ⟨Or.inr rfl, ⟨Or.inr rfl, ⟨Or.inr rfl, ⟨Or.inr rfl, ⟨Or.inl rfl, trivial⟩⟩⟩⟩⟩⟩⟩⟩⟩) h
            exact aX_seg 27 (fun n g => ip c6 (ip c7 (ip cc (g)))) t8
          · replace h := h.2 cc
            have t9 : aX xc_284 (aSeek xc_284 125) [aR 145, aI a1, aI a2, aI a3, aI a4, aI a5, aI a6, aI a7, aI (aW ((M 204 (aW ((aW ((aW ((aW (241 * a1)) + 241)) + a6)) - (aW (a7 * (M 156 a1)))))) + (aW (1000 * (aW (a5 + a7))))))] [] (SH L) M o := by
              exact aX_seg 2 (fun n g => g) (aX_le (ls := [aR 145, aI a1, aI a2, aI a3, aI (aW ((M 204 (aW ((aW ((aW ((aW (241 * a1)) + 241)) + a6)) - (aW (a7 * (M 156 a1)))))) + (aW (1000 * (aW (a5 + a7)))))), aI a5, aI a6, aI a7, aU]) (ls1 := [aR 145, aI a1, aI a2, aI a3, aI (aW ((M 204 (aW ((aW ((aW ((aW (241 * a1)) + 241)) + a6)) - (aW (a7 * (M 156 a1)))))) + (aW (1000 * (aW (a5 + a7)))))), aI a5, aI a6, aI a7, aI (aW ((M 204 (aW ((aW ((aW ((aW (241 * a1)) + 241)) + a6)) - (aW (a7 * (M 156 a1)))))) + (aW (1000 * (aW (a5 + a7))))))]) (⟨Or.inr rfl, ⟨Or.inr rfl, ⟨Or.inr rfl, ⟨Or.inr rfl, ⟨Or.inr rfl, ⟨Or.inr rfl, ⟨Or.inr rfl, ⟨Or.inr rfl, ⟨Or.inl rfl, trivial⟩⟩⟩⟩⟩⟩⟩⟩⟩) h)
            exact aX_seg 27 (fun n g => ip c6 (ip c7 (in_ cc (g)))) t9
        exact aX_seg 8 (fun n g => ip c3 (in_ cc (g))) t5
    exact aX_seg 5 (fun n g => in_ cc (g)) t2
set_option maxRecDepth 100000 in
theorem bl_284_129 {L : Nat} {a1 a2 a3 a4 a5 a6 a7 : Int} {M : aM} {o : aO} (h : aX xc_284 (aSeek xc_284 56) [aR 145, aI a1, aI a2, aI a3, aI a4, aI a5, aI a6, aI (aW (a7 + 1)), aU] [] (SH L) M o) : aX xc_284 (aSeek xc_284 129) [aR 145, aI a1, aI a2, aI a3, aI a4, aI a5, aI a6, aI a7, aU] [] (SH L) M o := by
  exact aX_seg 2 (fun n g => g) (h)
set_option maxRecDepth 100000 in
theorem bl_284_135 {L : Nat} {a1 a2 a3 a4 a5 : Int} {M : aM} {o : aO} (h : aX xc_284 (aSeek xc_284 21) [aR 145, aI a1, aI a2, aI a3, aI a4, aI (aW (a5 + 1)), aU, aU, aU] [] (SH L) M o) : aX xc_284 (aSeek xc_284 135) [aR 145, aI a1, aI a2, aI a3, aI a4, aI a5, aU, aU, aU] [] (SH L) M o := by
  exact aX_seg 2 (fun n g => g) (h)
set_option maxRecDepth 100000 in
theorem bl_284_141 {L : Nat} {a4 : Int} {M : aM} {o : aO} (h : ((a4 ≤ 100000000 → o = ([aI a4], (SH L), M)) ∧ (¬ (a4 ≤ 100000000) → o = ([aI 100000000], (SH L), M)))) : aX xc_284 (aSeek xc_284 141) [aU, aU, aU, aU, aI a4, aU, aU, aU, aU] [] (SH L) M o := by
  by_cases cc : a4 ≤ 100000000
  · replace h := h.1 cc
    have t1 : aX xc_284 (aSeek xc_284 155) [aU, aU, aU, aU, aI a4, aU, aU, aU, aU] [] (SH L) M o := by
      subst h
      exact ⟨2, rfl⟩
    exact aX_seg 3 (fun n g => ip cc (g)) t1
  · replace h := h.2 cc
    have t2 : aX xc_284 (aSeek xc_284 149) [aU, aU, aU, aU, aI a4, aU, aU, aU, aU] [] (SH L) M o := by
      subst h
      exact ⟨3, rfl⟩
    exact aX_seg 3 (fun n g => in_ cc (g)) t2
/- TypeLockModel.layLine(II)V -/
set_option maxRecDepth 100000 in
theorem en_285 {L : Nat} {a1 a2 : Int} {M : aM} {o : aO} (h : aX xc_285 (aSeek xc_285 2) [aR 145, aI a1, aI a2, aI 0, aU, aU] [] (SH L) M o) : aE 285 [aR 145, aI a1, aI a2] (SH L) M o := by
  have q : aX xc_285 (aSeek xc_285 0) [aR 145, aI a1, aI a2, aU, aU, aU] [] (SH L) M o := by
    exact aX_seg 2 (fun n g => g) (h)
  exact q
set_option maxRecDepth 100000 in
theorem bl_285_2 {L : Nat} {a1 a2 a3 : Int} {M : aM} {o : aO} (h : ((a1 < a3 → aX xc_285 (aSeek xc_285 42) [aR 145, aI a1, aU, aI 13, aU, aU] [] (SH L) M o) ∧ (¬ (a1 < a3) → ((a2 < a3 → aX xc_285 (aSeek xc_285 32) [aR 145, aI a1, aI a2, aI a3, aU, aU] [aI 100000000, aI (aW (3374 + a3)), aR 204] (SH L) M o) ∧ (¬ (a2 < a3) → aX xc_285 (aSeek xc_285 32) [aR 145, aI a1, aI a2, aI a3, aU, aU] [aI (aW (1001 * a3)), aI (aW (3374 + a3)), aR 204] (SH L) M o))))) : aX xc_285 (aSeek xc_285 2) [aR 145, aI a1, aI a2, aI a3, aU, aU] [] (SH L) M o := by
  by_cases cc : a1 < a3
  · replace h := h.1 cc
    have t1 : aX xc_285 (aSeek xc_285 39) [aR 145, aI a1, aI a2, aI a3, aU, aU] [] (SH L) M o := by
      exact aX_seg 2 (fun n g => g) (aX_le (ls := [aR 145, aI a1, aU, aI 13, aU, aU]) (ls1 := [aR 145, aI a1, aI a2, aI 13, aU, aU]) (⟨Or.inr rfl, ⟨Or.inr rfl, ⟨Or.inl rfl, ⟨Or.inr rfl, ⟨Or.inl rfl, ⟨Or.inl rfl, trivial⟩⟩⟩⟩⟩⟩) h)
    exact aX_seg 3 (fun n g => ip cc (g)) t1
  · replace h := h.2 cc
    have t2 : aX xc_285 (aSeek xc_285 7) [aR 145, aI a1, aI a2, aI a3, aU, aU] [] (SH L) M o := by
      by_cases cc : a2 < a3
      · replace h := h.1 cc
        have t3 : aX xc_285 (aSeek xc_285 29) [aR 145, aI a1, aI a2, aI a3, aU, aU] [aI (aW (3374 + a3)), aR 204] (SH L) M o := by
          exact aX_seg 1 (fun n g => g) (h)
        exact aX_seg 8 (fun n g => ip cc (g)) t3
      · replace h := h.2 cc
        have t4 : aX xc_285 (aSeek xc_285 21) [aR 145, aI a1, aI a2, aI a3, aU, aU] [aI (aW (3374 + a3)), aR 204] (SH L) M o := by
          exact aX_seg 4 (fun n g => g) (h)
        exact aX_seg 8 (fun n g => in_ cc (g)) t4
    exact aX_seg 3 (fun n g => in_ cc (g)) t2
set_option maxRecDepth 100000 in
theorem bl_285_32 {L : Nat} {a1 a2 a3 b0 b1 b2 : Int} {M : aM} {o : aO} (h : (0 ≤ b1 ∧ b1 < aLn (SH L) 1 b0) ∧ aX xc_285 (aSeek xc_285 2) [aR 145, aI a1, aI a2, aI (aW (a3 + 1)), aU, aU] [] (SH L) (aSet M b0 b1 b2) o) : aX xc_285 (aSeek xc_285 32) [aR 145, aI a1, aI a2, aI a3, aU, aU] [aI b2, aI b1, aR b0] (SH L) M o := by
  obtain ⟨c1, h⟩ := h
  exact aX_seg 3 (fun n g => ip c1 (g)) (h)
set_option maxRecDepth 100000 in
theorem bl_285_42 {L : Nat} {a1 a3 : Int} {M : aM} {o : aO} (h : ((a3 < 0 → o = ([], (SH L), M)) ∧ (¬ (a3 < 0) → (((M 153 0) ≤ a3 → aX xc_285 (aSeek xc_285 73) [aR 145, aI a1, aU, aI a3, aU, aU] [] (SH L) M o) ∧ (¬ ((M 153 0) ≤ a3) → (0 ≤ a3 ∧ a3 < aLn (SH L) 1 154) ∧ (((M 154 a3) ≤ 0 → aX xc_285 (aSeek xc_285 73) [aR 145, aI a1, aU, aI a3, aU, aU] [] (SH L) M o) ∧ (¬ ((M 154 a3) ≤ 0) → (∃ (M1 : aM) (v2 : Int), aE 226 [aR 145, aI a3] (SH L) M ([aI v2], (SH L), M1) ∧ aX xc_285 (aSeek xc_285 74) [aR 145, aI a1, aU, aI a3, aU, aU] [aI v2] (SH L) M1 o)))))))) : aX xc_285 (aSeek xc_285 42) [aR 145, aI a1, aU, aI a3, aU, aU] [] (SH L) M o := by
  by_cases cc : a3 < 0
  · replace h := h.1 cc
    have t3 : aX xc_285 (aSeek xc_285 119) [aR 145, aI a1, aU, aI a3, aU, aU] [] (SH L) M o := by
      subst h
      exact ⟨1, rfl⟩
    exact aX_seg 2 (fun n g => ip cc (g)) t3
  · replace h := h.2 cc
    have t4 : aX xc_285 (aSeek xc_285 46) [aR 145, aI a1, aU, aI a3, aU, aU] [] (SH L) M o := by
      by_cases cc : (M 153 0) ≤ a3
      · replace h := h.1 cc
        have t5 : aX xc_285 (aSeek xc_285 73) [aR 145, aI a1, aU, aI a3, aU, aU] [] (SH L) M o := by
          exact h
        exact aX_seg 6 (fun n g => ip cc (g)) t5
      · replace h := h.2 cc
        have t6 : aX xc_285 (aSeek xc_285 56) [aR 145, aI a1, aU, aI a3, aU, aU] [] (SH L) M o := by
          obtain ⟨c7, h⟩ := h
          by_cases cc : (M 154 a3) ≤ 0
          · replace h := h.1 cc
            have t8 : aX xc_285 (aSeek xc_285 73) [aR 145, aI a1, aU, aI a3, aU, aU] [] (SH L) M o := by
              exact h
            exact aX_seg 5 (fun n g => ip c7 (ip cc (g))) t8
          · replace h := h.2 cc
            have t9 : aX xc_285 (aSeek xc_285 65) [aR 145, aI a1, aU, aI a3, aU, aU] [] (SH L) M o := by
              obtain ⟨M1, v2, k10, h⟩ := h
              have h2 : aX xc_285 (aSeek xc_285 70) [aR 145, aI a1, aU, aI a3, aU, aU] [aI v2] (SH L) M1 o := by
                exact aX_seg 1 (fun n g => g) (h)
              exact aX_seg 2 (fun n g => g) (aX_callv (rfl) rfl rfl rfl k10 h2)
            exact aX_seg 5 (fun n g => ip c7 (in_ cc (g))) t9
        exact aX_seg 6 (fun n g => in_ cc (g)) t6
    exact aX_seg 2 (fun n g => in_ cc (g)) t4
set_option maxRecDepth 100000 in
theorem bl_285_73 {L : Nat} {a1 a3 : Int} {M : aM} {o : aO} (h : aX xc_285 (aSeek xc_285 74) [aR 145, aI a1, aU, aI a3, aU, aU] [aI 0] (SH L) M o) : aX xc_285 (aSeek xc_285 73) [aR 145, aI a1, aU, aI a3, aU, aU] [] (SH L) M o := by
  exact aX_seg 1 (fun n g => g) (h)
set_option maxRecDepth 100000 in
theorem bl_285_74 {L : Nat} {a1 a3 b0 : Int} {M : aM} {o : aO} (h : aX xc_285 (aSeek xc_285 79) [aR 145, aI a1, aU, aI a3, aI b0, aI 0] [] (SH L) M o) : aX xc_285 (aSeek xc_285 74) [aR 145, aI a1, aU, aI a3, aU, aU] [aI b0] (SH L) M o := by
  exact aX_seg 3 (fun n g => g) (h)
set_option maxRecDepth 100000 in
theorem bl_285_79 {L : Nat} {a1 a3 a4 a5 : Int} {M : aM} {o : aO} (h : ((a1 < a5 → aX xc_285 (aSeek xc_285 42) [aR 145, aI a1, aU, aI (aW (a3 + (-1))), aU, aU] [] (SH L) M o) ∧ (¬ (a1 < a5) → (∃ (M1 : aM) (v2 : Int), aE 284 [aR 145, aI a3, aI a5, aI a4] (SH L) M ([aI v2], (SH L), M1) ∧ (0 ≤ aW ((aW (241 * a3)) + a5) ∧ aW ((aW (241 * a3)) + a5) < aLn (SH L) 1 204) ∧ aX xc_285 (aSeek xc_285 79) [aR 145, aI a1, aU, aI a3, aI a4, aI (aW (a5 + 1))] [] (SH L) (aSet M1 204 (aW ((aW (241 * a3)) + a5)) v2) o)))) : aX xc_285 (aSeek xc_285 79) [aR 145, aI a1, aU, aI a3, aI a4, aI a5] [] (SH L) M o := by
  by_cases cc : a1 < a5
  · replace h := h.1 cc
    have t3 : aX xc_285 (aSeek xc_285 113) [aR 145, aI a1, aU, aI a3, aI a4, aI a5] [] (SH L) M o := by
      exact aX_seg 2 (fun n g => g) (aX_le (ls := [aR 145, aI a1, aU, aI (aW (a3 + (-1))), aU, aU]) (ls1 := [aR 145, aI a1, aU, aI (aW (a3 + (-1))), aI a4, aI a5]) (⟨Or.inr rfl, ⟨Or.inr rfl, ⟨Or.inl rfl, ⟨Or.inr rfl, ⟨Or.inl rfl, ⟨Or.inl rfl, trivial⟩⟩⟩⟩⟩⟩) h)
    exact aX_seg 3 (fun n g => ip cc (g)) t3
  · replace h := h.2 cc
    have t4 : aX xc_285 (aSeek xc_285 85) [aR 145, aI a1, aU, aI a3, aI a4, aI a5] [] (SH L) M o := by
      obtain ⟨M1, v2, k5, h⟩ := h
      have h2 : aX xc_285 (aSeek xc_285 106) [aR 145, aI a1, aU, aI a3, aI a4, aI a5] [aI v2, aI (aW ((aW (241 * a3)) + a5)), aR 204] (SH L) M1 o := by
        obtain ⟨c6, h⟩ := h
        exact aX_seg 3 (fun n g => ip c6 (g)) (h)
      exact aX_seg 11 (fun n g => g) (aX_callv (rfl) rfl rfl rfl k5 h2)
    exact aX_seg 3 (fun n g => in_ cc (g)) t4
/- TypeLockModel.choose(II)V -/
set_option maxRecDepth 100000 in
theorem en_286 {L : Nat} {a1 a2 : Int} {M : aM} {o : aO} (h : ((((aSet (aSet M 145 74 0) 145 75 0) 153 0) ≤ a1 → aX xc_286 (aSeek xc_286 37) [aR 145, aI a1, aI a2, aU, aU, aU, aU] [] (SH L) (aSet (aSet M 145 74 0) 145 75 0) o) ∧ (¬ (((aSet (aSet M 145 74 0) 145 75 0) 153 0) ≤ a1) → (0 ≤ a1 ∧ a1 < aLn (SH L) 1 154) ∧ ((((aSet (aSet M 145 74 0) 145 75 0) 154 a1) ≤ 0 → aX xc_286 (aSeek xc_286 37) [aR 145, aI a1, aI a2, aU, aU, aU, aU] [] (SH L) (aSet (aSet M 145 74 0) 145 75 0) o) ∧ (¬ (((aSet (aSet M 145 74 0) 145 75 0) 154 a1) ≤ 0) → (∃ (M1 : aM) (v2 : Int), aE 226 [aR 145, aI a1] (SH L) (aSet (aSet M 145 74 0) 145 75 0) ([aI v2], (SH L), M1) ∧ aX xc_286 (aSeek xc_286 38) [aR 145, aI a1, aI a2, aU, aU, aU, aU] [aI v2] (SH L) M1 o)))))) : aE 286 [aR 145, aI a1, aI a2] (SH L) M o := by
  have q : aX xc_286 (aSeek xc_286 0) [aR 145, aI a1, aI a2, aU, aU, aU, aU] [] (SH L) M o := by
    by_cases cc : ((aSet (aSet M 145 74 0) 145 75 0) 153 0) ≤ a1
    · replace h := h.1 cc
      have t3 : aX xc_286 (aSeek xc_286 37) [aR 145, aI a1, aI a2, aU, aU, aU, aU] [] (SH L) (aSet (aSet M 145 74 0) 145 75 0) o := by
        exact h
      exact aX_seg 12 (fun n g => ip cc (g)) t3
    · replace h := h.2 cc
      have t4 : aX xc_286 (aSeek xc_286 20) [aR 145, aI a1, aI a2, aU, aU, aU, aU] [] (SH L) (aSet (aSet M 145 74 0) 145 75 0) o := by
        obtain ⟨c5, h⟩ := h
        by_cases cc : ((aSet (aSet M 145 74 0) 145 75 0) 154 a1) ≤ 0
        · replace h := h.1 cc
          have t6 : aX xc_286 (aSeek xc_286 37) [aR 145, aI a1, aI a2, aU, aU, aU, aU] [] (SH L) (aSet (aSet M 145 74 0) 145 75 0) o := by
            exact h
          exact aX_seg 5 (fun n g => ip c5 (ip cc (g))) t6
        · replace h := h.2 cc
          have t7 : aX xc_286 (aSeek xc_286 29) [aR 145, aI a1, aI a2, aU, aU, aU, aU] [] (SH L) (aSet (aSet M 145 74 0) 145 75 0) o := by
            obtain ⟨M1, v2, k8, h⟩ := h
            have h2 : aX xc_286 (aSeek xc_286 34) [aR 145, aI a1, aI a2, aU, aU, aU, aU] [aI v2] (SH L) M1 o := by
              exact aX_seg 1 (fun n g => g) (h)
            exact aX_seg 2 (fun n g => g) (aX_callv (rfl) rfl rfl rfl k8 h2)
          exact aX_seg 5 (fun n g => ip c5 (in_ cc (g))) t7
      exact aX_seg 12 (fun n g => in_ cc (g)) t4
  exact q
set_option maxRecDepth 100000 in
theorem bl_286_37 {L : Nat} {a1 a2 : Int} {M : aM} {o : aO} (h : aX xc_286 (aSeek xc_286 38) [aR 145, aI a1, aI a2, aU, aU, aU, aU] [aI 0] (SH L) M o) : aX xc_286 (aSeek xc_286 37) [aR 145, aI a1, aI a2, aU, aU, aU, aU] [] (SH L) M o := by
  exact aX_seg 1 (fun n g => g) (h)
set_option maxRecDepth 100000 in
theorem bl_286_38 {L : Nat} {a1 a2 b0 : Int} {M : aM} {o : aO} (h : aX xc_286 (aSeek xc_286 42) [aR 145, aI a1, aI a2, aU, aI b0, aU, aU] [] (SH L) M o) : aX xc_286 (aSeek xc_286 38) [aR 145, aI a1, aI a2, aU, aU, aU, aU] [aI b0] (SH L) M o := by
  exact aX_seg 3 (fun n g => g) (aX_le (ls := [aR 145, aI a1, aI a2, aU, aI b0, aU, aU]) (ls1 := [aR 145, aI a1, aI a2, aI b0, aI b0, aU, aU]) (⟨Or.inr rfl, ⟨Or.inr rfl, ⟨Or.inr rfl, ⟨Or.inl rfl, ⟨Or.inr rfl, ⟨Or.inl rfl, ⟨Or.inl rfl, trivial⟩⟩⟩⟩⟩⟩⟩) h)
set_option maxRecDepth 100000 in
theorem bl_286_42 {L : Nat} {a1 a2 a4 : Int} {M : aM} {o : aO} (h : ((a4 ≤ 0 → o = ([], (SH L), M)) ∧ (¬ (a4 ≤ 0) → aX xc_286 (aSeek xc_286 51) [aR 145, aI a1, aI a2, aU, aI a4, aI a4, aU] [] (SH L) M o))) : aX xc_286 (aSeek xc_286 42) [aR 145, aI a1, aI a2, aU, aI a4, aU, aU] [] (SH L) M o := by
  by_cases cc : a4 ≤ 0
  · replace h := h.1 cc
    have t1 : aX xc_286 (aSeek xc_286 157) [aR 145, aI a1, aI a2, aU, aI a4, aU, aU] [] (SH L) M o := by
      subst h
      exact ⟨1, rfl⟩
    exact aX_seg 2 (fun n g => ip cc (g)) t1
  · replace h := h.2 cc
    have t2 : aX xc_286 (aSeek xc_286 47) [aR 145, aI a1, aI a2, aU, aI a4, aU, aU] [] (SH L) M o := by
      exact aX_seg 2 (fun n g => g) (h)
    exact aX_seg 2 (fun n g => in_ cc (g)) t2
set_option maxRecDepth 100000 in
theorem bl_286_51 {L : Nat} {a1 a2 a4 a5 : Int} {M : aM} {o : aO} (h : ((a5 < 0 → aX xc_286 (aSeek xc_286 42) [aR 145, aI a1, aI a2, aU, aI (aW (a4 + (-1))), aU, aU] [] (SH L) M o) ∧ (¬ (a5 < 0) → (0 ≤ a1 ∧ a1 < aLn (SH L) 1 155) ∧ (0 ≤ a1 ∧ a1 < aLn (SH L) 1 156) ∧ (((aW ((aW (a2 - (aW (a5 * (M 155 a1))))) - (aW ((aW (a4 - a5)) * (M 156 a1))))) < 0 → aX xc_286 (aSeek xc_286 145) [aR 145, aI a1, aI a2, aU, aI a4, aI a5, aU] [] (SH L) M o) ∧ (¬ ((aW ((aW (a2 - (aW (a5 * (M 155 a1))))) - (aW ((aW (a4 - a5)) * (M 156 a1))))) < 0) → (0 ≤ aW ((aW ((aW (241 * a1)) + 241)) + (aW ((aW (a2 - (aW (a5 * (M 155 a1))))) - (aW ((aW (a4 - a5)) * (M 156 a1)))))) ∧ aW ((aW ((aW (241 * a1)) + 241)) + (aW ((aW (a2 - (aW (a5 * (M 155 a1))))) - (aW ((aW (a4 - a5)) * (M 156 a1)))))) < aLn (SH L) 1 204) ∧ (0 ≤ aW ((aW (241 * a1)) + a2) ∧ aW ((aW (241 * a1)) + a2) < aLn (SH L) 1 204) ∧ (((aW ((M 204 (aW ((aW ((aW (241 * a1)) + 241)) + (aW ((aW (a2 - (aW (a5 * (M 155 a1))))) - (aW ((aW (a4 - a5)) * (M 156 a1)))))))) + (aW (1000 * a4)))) = (M 204 (aW ((aW (241 * a1)) + a2))) → o = ([], (SH L), aSet (aSet M 145 74 a5) 145 75 (aW (a4 - a5)))) ∧ (¬ ((aW ((M 204 (aW ((aW ((aW (241 * a1)) + 241)) + (aW ((aW (a2 - (aW (a5 * (M 155 a1))))) - (aW ((aW (a4 - a5)) * (M 156 a1)))))))) + (aW (1000 * a4)))) = (M 204 (aW ((aW (241 * a1)) + a2)))) → aX xc_286 (aSeek xc_286 145) [aR 145, aI a1, aI a2, aU, aI a4, aI a5, aU] [] (SH L) M o))))))) : aX xc_286 (aSeek xc_286 51) [aR 145, aI a1, aI a2, aU, aI a4, aI a5, aU] [] (SH L) M o := by
  by_cases cc : a5 < 0
  · replace h := h.1 cc
    have t1 : aX xc_286 (aSeek xc_286 151) [aR 145, aI a1, aI a2, aU, aI a4, aI a5, aU] [] (SH L) M o := by
      exact aX_seg 2 (fun n g => g) (aX_le (ls := [aR 145, aI a1, aI a2, aU, aI (aW (a4 + (-1))), aU, aU]) (ls1 := [aR 145, aI a1, aI a2, aU, aI (aW (a4 + (-1))), aI a5, aU]) (⟨Or.inr rfl, ⟨Or.inr rfl, ⟨Or.inr rfl, ⟨Or.inl rfl, ⟨Or.inr rfl, ⟨Or.inl rfl, ⟨Or.inl rfl, trivial⟩⟩⟩⟩⟩⟩⟩) h)
    exact aX_seg 2 (fun n g => ip cc (g)) t1
  · replace h := h.2 cc
    have t2 : aX xc_286 (aSeek xc_286 56) [aR 145, aI a1, aI a2, aU, aI a4, aI a5, aU] [] (SH L) M o := by
      obtain ⟨c3, h⟩ := h
      obtain ⟨c4, h⟩ := h
      by_cases cc : (aW ((aW (a2 - (aW (a5 * (M 155 a1))))) - (aW ((aW (a4 - a5)) * (M 156 a1))))) < 0
      · replace h := h.1 cc
        have t5 : aX xc_286 (aSeek xc_286 145) [aR 145, aI a1, aI a2, aU, aI a4, aI a5, aI (aW ((aW (a2 - (aW (a5 * (M 155 a1))))) - (aW ((aW (a4 - a5)) * (M 156 a1)))))] [] (SH L) M o := by
          exact aX_le (ls := [aR 145, aI a1, aI a2, aU, aI a4, aI a5, aU]) (ls1 := [aR 145, aI a1, aI a2, aU, aI a4, aI a5, aI (aW ((aW (a2 - (aW (a5 * (M 155 a1))))) - (aW ((aW (a4 - a5)) * (M 156 a1)))))]) (⟨Or.inr rfl, ⟨Or.inr rfl, ⟨Or.inr rfl, ⟨Or.inl rfl, ⟨Or.inr rfl, ⟨Or.inr rfl, ⟨Or.inl rfl, trivial⟩⟩⟩⟩⟩⟩⟩) h
        exact aX_seg 20 (fun n g => ip c3 (ip c4 (ip cc (g)))) t5
      · replace h := h.2 cc
        have t6 : aX xc_286 (aSeek xc_286 87) [aR 145, aI a1, aI a2, aU, aI a4, aI a5, aI (aW ((aW (a2 - (aW (a5 * (M 155 a1))))) - (aW ((aW (a4 - a5)) * (M 156 a1)))))] [] (SH L) M o := by
          obtain ⟨c7, h⟩ := h
          obtain ⟨c8, h⟩ := h
          by_cases cc : (aW ((M 204 (aW ((aW ((aW (241 * a1)) + 241)) + (aW ((aW (a2 - (aW (a5 * (M 155 a1))))) - (aW ((aW (a4 - a5)) * (M 156 a1)))))))) + (aW (1000 * a4)))) = (M 204 (aW ((aW (241 * a1)) + a2)))
          · replace h := h.1 cc
            have t9 : aX xc_286 (aSeek xc_286 129) [aR 145, aI a1, aI a2, aU, aI a4, aI a5, aI (aW ((aW (a2 - (aW (a5 * (M 155 a1))))) - (aW ((aW (a4 - a5)) * (M 156 a1)))))] [] (SH L) M o := by
              subst h
              exact ⟨9, rfl⟩
            exact aX_seg 23 (fun n g => ip c7 (ip c8 (ip cc (g)))) t9
          · replace h := h.2 cc
            have t10 : aX xc_286 (aSeek xc_286 126) [aR 145, aI a1, aI a2, aU, aI a4, aI a5, aI (aW ((aW (a2 - (aW (a5 * (M 155 a1))))) - (aW ((aW (a4 - a5)) * (M 156 a1)))))] [] (SH L) M o := by
              exact aX_seg 1 (fun n g => g) (aX_le (ls := [aR 145, aI a1, aI a2, aU, aI a4, aI a5, aU]) (ls1 := [aR 145, aI a1, aI a2, aU, aI a4, aI a5, aI (aW ((aW (a2 - (aW (a5 * (M 155 a1))))) - (aW ((aW (a4 - a5)) * (M 156 a1)))))]) (⟨Or.inr rfl, ⟨Or.inr rfl, ⟨Or.inr rfl, ⟨Or.inl rfl, ⟨Or.inr rfl, ⟨Or.inr rfl, ⟨Or.inl rfl, trivial⟩⟩⟩⟩⟩⟩⟩) h)
            exact aX_seg 23 (fun n g => ip c7 (ip c8 (in_ cc (g)))) t10
        exact aX_seg 20 (fun n g => ip c3 (ip c4 (in_ cc (g)))) t6
    exact aX_seg 2 (fun n g => in_ cc (g)) t2
set_option maxRecDepth 100000 in
theorem bl_286_145 {L : Nat} {a1 a2 a4 a5 : Int} {M : aM} {o : aO} (h : aX xc_286 (aSeek xc_286 51) [aR 145, aI a1, aI a2, aU, aI a4, aI (aW (a5 + (-1))), aU] [] (SH L) M o) : aX xc_286 (aSeek xc_286 145) [aR 145, aI a1, aI a2, aU, aI a4, aI a5, aU] [] (SH L) M o := by
  exact aX_seg 2 (fun n g => g) (h)
/- TypeLockModel.isWhat(II)Z -/
set_option maxRecDepth 100000 in
theorem en_287 {L : Nat} {a1 a2 : Int} {M : aM} {o : aO} (h : (∃ (M1 : aM) (v2 : Int), aE 219 [aI a1, aI 0, aI a2] (SH L) M ([aI v2], (SH L), M1) ∧ ((¬ v2 = 0 → o = ([aI 1], (SH L), M1)) ∧ (¬ (¬ v2 = 0) → (∃ (M3 : aM) (v4 : Int), aE 219 [aI a1, aI 10, aI (aW (9 + (aW (2 * (M1 153 0)))))] (SH L) M1 ([aI v4], (SH L), M3) ∧ ((v4 = 0 → o = ([aI 0], (SH L), M3)) ∧ (¬ (v4 = 0) → (0 ≤ aDiv (aW (a1 - 10)) 2 ∧ aDiv (aW (a1 - 10)) 2 < aLn (SH L) 1 154) ∧ (((M3 154 (aDiv (aW (a1 - 10)) 2)) ≤ 0 → o = ([aI 0], (SH L), M3)) ∧ (¬ ((M3 154 (aDiv (aW (a1 - 10)) 2)) ≤ 0) → o = ([aI 1], (SH L), M3)))))))))) : aE 287 [aR 145, aI a1, aI a2] (SH L) M o := by
  have q : aX xc_287 (aSeek xc_287 0) [aR 145, aI a1, aI a2] [] (SH L) M o := by
    obtain ⟨M1, v2, k5, h⟩ := h
    have h2 : aX xc_287 (aSeek xc_287 6) [aR 145, aI a1, aI a2] [aI v2] (SH L) M1 o := by
      by_cases cc : ¬ v2 = 0
      · replace h := h.1 cc
        have t6 : aX xc_287 (aSeek xc_287 43) [aR 145, aI a1, aI a2] [] (SH L) M1 o := by
          subst h
          exact ⟨3, rfl⟩
        exact aX_seg 1 (fun n g => ip cc (g)) t6
      · replace h := h.2 cc
        have t7 : aX xc_287 (aSeek xc_287 9) [aR 145, aI a1, aI a2] [] (SH L) M1 o := by
          obtain ⟨M3, v4, k8, h⟩ := h
          have h2 : aX xc_287 (aSeek xc_287 26) [aR 145, aI a1, aI a2] [aI v4] (SH L) M3 o := by
            by_cases cc : v4 = 0
            · replace h := h.1 cc
              have t9 : aX xc_287 (aSeek xc_287 47) [aR 145, aI a1, aI a2] [] (SH L) M3 o := by
                subst h
                exact ⟨2, rfl⟩
              exact aX_seg 1 (fun n g => ip cc (g)) t9
            · replace h := h.2 cc
              have t10 : aX xc_287 (aSeek xc_287 29) [aR 145, aI a1, aI a2] [] (SH L) M3 o := by
                obtain ⟨c11, h⟩ := h
                by_cases cc : (M3 154 (aDiv (aW (a1 - 10)) 2)) ≤ 0
                · replace h := h.1 cc
                  have t12 : aX xc_287 (aSeek xc_287 47) [aR 145, aI a1, aI a2] [] (SH L) M3 o := by
                    subst h
                    exact ⟨2, rfl⟩
                  exact aX_seg 9 (fun n g => ip c11 (ip cc (g))) t12
                · replace h := h.2 cc
                  have t13 : aX xc_287 (aSeek xc_287 43) [aR 145, aI a1, aI a2] [] (SH L) M3 o := by
                    subst h
                    exact ⟨3, rfl⟩
                  exact aX_seg 9 (fun n g => ip c11 (in_ cc (g))) t13
              exact aX_seg 1 (fun n g => in_ cc (g)) t10
          exact aX_seg 10 (fun n g => g) (aX_calls rfl rfl rfl k8 h2)
        exact aX_seg 1 (fun n g => in_ cc (g)) t7
    exact aX_seg 3 (fun n g => g) (aX_calls rfl rfl rfl k5 h2)
  exact q
/- TypeLockModel.line(III)I -/
set_option maxRecDepth 100000 in
theorem en_288 {L : Nat} {a1 a2 a3 : Int} {M : aM} {o : aO} (h : (∃ (M1 : aM) (v2 : Int), aE 219 [aI a1, aI 1, aI 240] (SH L) M ([aI v2], (SH L), M1) ∧ ((v2 = 0 → o = ([aI ((-1))], (SH L), M1)) ∧ (¬ (v2 = 0) → (∃ (M3 : aM) (v4 : Int), aE 219 [aI a2, aI 0, aI 99] (SH L) M1 ([aI v4], (SH L), M3) ∧ ((v4 = 0 → o = ([aI ((-1))], (SH L), M3)) ∧ (¬ (v4 = 0) → (∃ (M5 : aM) (v6 : Int), aE 287 [aR 145, aI a3, aI 1] (SH L) M3 ([aI v6], (SH L), M5) ∧ ((¬ v6 = 0 → (∃ (M7 : aM), aE 285 [aR 145, aI a1, aI a2] (SH L) M5 ([], (SH L), M7) ∧ (0 ≤ a1 ∧ a1 < aLn (SH L) 1 204) ∧ (((M7 204 a1) < 100000000 → ((2 ≤ a3 → aX xc_288 (aSeek xc_288 92) [aR 145, aU, aU, aI a3, aI a1, aI 0] [] (SH L) M7 o) ∧ (¬ (2 ≤ a3) → ((¬ a3 = 0 → (0 ≤ a1 ∧ a1 < aLn (SH L) 1 204) ∧ o = ([aI (aRem (M7 204 a1) 1000)], (SH L), M7)) ∧ (¬ (¬ a3 = 0) → (0 ≤ a1 ∧ a1 < aLn (SH L) 1 204) ∧ o = ([aI (aDiv (M7 204 a1) 1000)], (SH L), M7)))))) ∧ (¬ ((M7 204 a1) < 100000000) → o = ([aI ((-2))], (SH L), M7))))) ∧ (¬ (¬ v6 = 0) → o = ([aI ((-1))], (SH L), M5))))))))))) : aE 288 [aR 145, aI a1, aI a2, aI a3] (SH L) M o := by
  have q : aX xc_288 (aSeek xc_288 0) [aR 145, aI a1, aI a2, aI a3, aU, aU] [] (SH L) M o := by
    obtain ⟨M1, v2, k8, h⟩ := h
    have h2 : aX xc_288 (aSeek xc_288 8) [aR 145, aI a1, aI a2, aI a3, aU, aU] [aI v2] (SH L) M1 o := by
      by_cases cc : v2 = 0
      · replace h := h.1 cc
        have t9 : aX xc_288 (aSeek xc_288 30) [aR 145, aI a1, aI a2, aI a3, aU, aU] [] (SH L) M1 o := by
          subst h
          exact ⟨2, rfl⟩
        exact aX_seg 1 (fun n g => ip cc (g)) t9
      · replace h := h.2 cc
        have t10 : aX xc_288 (aSeek xc_288 11) [aR 145, aI a1, aI a2, aI a3, aU, aU] [] (SH L) M1 o := by
          obtain ⟨M3, v4, k11, h⟩ := h
          have h2 : aX xc_288 (aSeek xc_288 18) [aR 145, aI a1, aI a2, aI a3, aU, aU] [aI v4] (SH L) M3 o := by
            by_cases cc : v4 = 0
            · replace h := h.1 cc
              have t12 : aX xc_288 (aSeek xc_288 30) [aR 145, aI a1, aI a2, aI a3, aU, aU] [] (SH L) M3 o := by
                subst h
                exact ⟨2, rfl⟩
              exact aX_seg 1 (fun n g => ip cc (g)) t12
            · replace h := h.2 cc
              have t13 : aX xc_288 (aSeek xc_288 21) [aR 145, aI a1, aI a2, aI a3, aU, aU] [] (SH L) M3 o := by
                obtain ⟨M5, v6, k14, h⟩ := h
                have h2 : aX xc_288 (aSeek xc_288 27) [aR 145, aI a1, aI a2, aI a3, aU, aU] [aI v6] (SH L) M5 o := by
                  by_cases cc : ¬ v6 = 0
                  · replace h := h.1 cc
                    have t15 : aX xc_288 (aSeek xc_288 32) [aR 145, aI a1, aI a2, aI a3, aU, aU] [] (SH L) M5 o := by
                      obtain ⟨M7, k16, h⟩ := h
                      have h2 : aX xc_288 (aSeek xc_288 38) [aR 145, aI a1, aI a2, aI a3, aU, aU] [] (SH L) M7 o := by
                        obtain ⟨c17, h⟩ := h
                        by_cases cc : (M7 204 a1) < 100000000
                        · replace h := h.1 cc
                          have t18 : aX xc_288 (aSeek xc_288 53) [aR 145, aI a1, aI a2, aI a3, aU, aU] [] (SH L) M7 o := by
                            by_cases cc : 2 ≤ a3
                            · replace h := h.1 cc
                              have t19 : aX xc_288 (aSeek xc_288 86) [aR 145, aI a1, aI a2, aI a3, aU, aU] [] (SH L) M7 o := by
                                exact aX_seg 4 (fun n g => g) (aX_le (ls := [aR 145, aU, aU, aI a3, aI a1, aI 0]) (ls1 := [aR 145, aI a1, aI a2, aI a3, aI a1, aI 0]) (⟨Or.inr rfl, ⟨Or.inl rfl, ⟨Or.inl rfl, ⟨Or.inr rfl, ⟨Or.inr rfl, ⟨Or.inr rfl, trivial⟩⟩⟩⟩⟩⟩) h)
                              exact aX_seg 3 (fun n g => ip cc (g)) t19
                            · replace h := h.2 cc
                              have t20 : aX xc_288 (aSeek xc_288 58) [aR 145, aI a1, aI a2, aI a3, aU, aU] [] (SH L) M7 o := by
                                by_cases cc : ¬ a3 = 0
                                · replace h := h.1 cc
                                  have t21 : aX xc_288 (aSeek xc_288 75) [aR 145, aI a1, aI a2, aI a3, aU, aU] [] (SH L) M7 o := by
                                    obtain ⟨c22, h⟩ := h
                                    subst h
                                    exact ⟨7, ip c22 (rfl)⟩
                                  exact aX_seg 2 (fun n g => ip cc (g)) t21
                                · replace h := h.2 cc
                                  have t23 : aX xc_288 (aSeek xc_288 62) [aR 145, aI a1, aI a2, aI a3, aU, aU] [] (SH L) M7 o := by
                                    obtain ⟨c24, h⟩ := h
                                    subst h
                                    exact ⟨8, ip c24 (rfl)⟩
                                  exact aX_seg 2 (fun n g => in_ cc (g)) t23
                              exact aX_seg 3 (fun n g => in_ cc (g)) t20
                          exact aX_seg 6 (fun n g => ip c17 (ip cc (g))) t18
                        · replace h := h.2 cc
                          have t25 : aX xc_288 (aSeek xc_288 50) [aR 145, aI a1, aI a2, aI a3, aU, aU] [] (SH L) M7 o := by
                            subst h
                            exact ⟨2, rfl⟩
                          exact aX_seg 6 (fun n g => ip c17 (in_ cc (g))) t25
                      exact aX_seg 3 (fun n g => g) (aX_callv (rfl) rfl rfl rfl k16 h2)
                    exact aX_seg 1 (fun n g => ip cc (g)) t15
                  · replace h := h.2 cc
                    have t26 : aX xc_288 (aSeek xc_288 30) [aR 145, aI a1, aI a2, aI a3, aU, aU] [] (SH L) M5 o := by
                      subst h
                      exact ⟨2, rfl⟩
                    exact aX_seg 1 (fun n g => in_ cc (g)) t26
                exact aX_seg 3 (fun n g => g) (aX_callv (rfl) rfl rfl rfl k14 h2)
              exact aX_seg 1 (fun n g => in_ cc (g)) t13
          exact aX_seg 3 (fun n g => g) (aX_calls rfl rfl rfl k11 h2)
        exact aX_seg 1 (fun n g => in_ cc (g)) t10
    exact aX_seg 3 (fun n g => g) (aX_calls rfl rfl rfl k8 h2)
  exact q
set_option maxRecDepth 100000 in
theorem bl_288_92 {L : Nat} {a3 a4 a5 : Int} {M : aM} {o : aO} (h : (((aDiv (aW (a3 - 10)) 2) < a5 → ((¬ (aRem a3 2) = 0 → o = ([aI (M 145 75)], (SH L), M)) ∧ (¬ (¬ (aRem a3 2) = 0) → o = ([aI (M 145 74)], (SH L), M)))) ∧ (¬ ((aDiv (aW (a3 - 10)) 2) < a5) → (∃ (M1 : aM), aE 286 [aR 145, aI a5, aI a4] (SH L) M ([], (SH L), M1) ∧ (0 ≤ a5 ∧ a5 < aLn (SH L) 1 155) ∧ (0 ≤ a5 ∧ a5 < aLn (SH L) 1 156) ∧ aX xc_288 (aSeek xc_288 92) [aR 145, aU, aU, aI a3, aI (aW (a4 - (aW ((aW ((M1 145 74) * (M1 155 a5))) + (aW ((M1 145 75) * (M1 156 a5))))))), aI (aW (a5 + 1))] [] (SH L) M1 o)))) : aX xc_288 (aSeek xc_288 92) [aR 145, aU, aU, aI a3, aI a4, aI a5] [] (SH L) M o := by
  by_cases cc : (aDiv (aW (a3 - 10)) 2) < a5
  · replace h := h.1 cc
    have t2 : aX xc_288 (aSeek xc_288 147) [aR 145, aU, aU, aI a3, aI a4, aI a5] [] (SH L) M o := by
      by_cases cc : ¬ (aRem a3 2) = 0
      · replace h := h.1 cc
        have t3 : aX xc_288 (aSeek xc_288 160) [aR 145, aU, aU, aI a3, aI a4, aI a5] [] (SH L) M o := by
          subst h
          exact ⟨3, rfl⟩
        exact aX_seg 4 (fun n g => ip cc (g)) t3
      · replace h := h.2 cc
        have t4 : aX xc_288 (aSeek xc_288 153) [aR 145, aU, aU, aI a3, aI a4, aI a5] [] (SH L) M o := by
          subst h
          exact ⟨4, rfl⟩
        exact aX_seg 4 (fun n g => in_ cc (g)) t4
    exact aX_seg 7 (fun n g => ip cc (g)) t2
  · replace h := h.2 cc
    have t5 : aX xc_288 (aSeek xc_288 103) [aR 145, aU, aU, aI a3, aI a4, aI a5] [] (SH L) M o := by
      obtain ⟨M1, k6, h⟩ := h
      have h2 : aX xc_288 (aSeek xc_288 111) [aR 145, aU, aU, aI a3, aI a4, aI a5] [] (SH L) M1 o := by
        obtain ⟨c7, h⟩ := h
        obtain ⟨c8, h⟩ := h
        exact aX_seg 20 (fun n g => ip c7 (ip c8 (g))) (h)
      exact aX_seg 3 (fun n g => g) (aX_callv (rfl) rfl rfl rfl k6 h2)
    exact aX_seg 7 (fun n g => in_ cc (g)) t5
/- TypeLockModel.nearest(II)I -/
set_option maxRecDepth 100000 in
theorem en_289 {L : Nat} {a1 a2 : Int} {M : aM} {o : aO} (h : (∃ (M1 : aM) (v2 : Int), aE 219 [aI a1, aI 1, aI 240] (SH L) M ([aI v2], (SH L), M1) ∧ ((v2 = 0 → o = ([aI ((-1))], (SH L), M1)) ∧ (¬ (v2 = 0) → (∃ (M3 : aM) (v4 : Int), aE 219 [aI a2, aI 0, aI 99] (SH L) M1 ([aI v4], (SH L), M3) ∧ ((¬ v4 = 0 → (∃ (M5 : aM), aE 285 [aR 145, aI a1, aI a2] (SH L) M3 ([], (SH L), M5) ∧ aX xc_289 (aSeek xc_289 31) [aR 145, aU, aU, aI a1] [] (SH L) M5 o)) ∧ (¬ (¬ v4 = 0) → o = ([aI ((-1))], (SH L), M3)))))))) : aE 289 [aR 145, aI a1, aI a2] (SH L) M o := by
  have q : aX xc_289 (aSeek xc_289 0) [aR 145, aI a1, aI a2, aU] [] (SH L) M o := by
    obtain ⟨M1, v2, k6, h⟩ := h
    have h2 : aX xc_289 (aSeek xc_289 8) [aR 145, aI a1, aI a2, aU] [aI v2] (SH L) M1 o := by
      by_cases cc : v2 = 0
      · replace h := h.1 cc
        have t7 : aX xc_289 (aSeek xc_289 21) [aR 145, aI a1, aI a2, aU] [] (SH L) M1 o := by
          subst h
          exact ⟨2, rfl⟩
        exact aX_seg 1 (fun n g => ip cc (g)) t7
      · replace h := h.2 cc
        have t8 : aX xc_289 (aSeek xc_289 11) [aR 145, aI a1, aI a2, aU] [] (SH L) M1 o := by
          obtain ⟨M3, v4, k9, h⟩ := h
          have h2 : aX xc_289 (aSeek xc_289 18) [aR 145, aI a1, aI a2, aU] [aI v4] (SH L) M3 o := by
            by_cases cc : ¬ v4 = 0
            · replace h := h.1 cc
              have t10 : aX xc_289 (aSeek xc_289 23) [aR 145, aI a1, aI a2, aU] [] (SH L) M3 o := by
                obtain ⟨M5, k11, h⟩ := h
                have h2 : aX xc_289 (aSeek xc_289 29) [aR 145, aI a1, aI a2, aU] [] (SH L) M5 o := by
                  exact aX_seg 2 (fun n g => g) (aX_le (ls := [aR 145, aU, aU, aI a1]) (ls1 := [aR 145, aI a1, aI a2, aI a1]) (⟨Or.inr rfl, ⟨Or.inl rfl, ⟨Or.inl rfl, ⟨Or.inr rfl, trivial⟩⟩⟩⟩) h)
                exact aX_seg 3 (fun n g => g) (aX_callv (rfl) rfl rfl rfl k11 h2)
              exact aX_seg 1 (fun n g => ip cc (g)) t10
            · replace h := h.2 cc
              have t12 : aX xc_289 (aSeek xc_289 21) [aR 145, aI a1, aI a2, aU] [] (SH L) M3 o := by
                subst h
                exact ⟨2, rfl⟩
              exact aX_seg 1 (fun n g => in_ cc (g)) t12
          exact aX_seg 3 (fun n g => g) (aX_calls rfl rfl rfl k9 h2)
        exact aX_seg 1 (fun n g => in_ cc (g)) t8
    exact aX_seg 3 (fun n g => g) (aX_calls rfl rfl rfl k6 h2)
  exact q
set_option maxRecDepth 100000 in
theorem bl_289_31 {L : Nat} {a3 : Int} {M : aM} {o : aO} (h : (0 ≤ a3 ∧ a3 < aLn (SH L) 1 204) ∧ (((M 204 a3) < 100000000 → o = ([aI a3], (SH L), M)) ∧ (¬ ((M 204 a3) < 100000000) → aX xc_289 (aSeek xc_289 31) [aR 145, aU, aU, aI (aW (a3 + (-1)))] [] (SH L) M o))) : aX xc_289 (aSeek xc_289 31) [aR 145, aU, aU, aI a3] [] (SH L) M o := by
  obtain ⟨c1, h⟩ := h
  by_cases cc : (M 204 a3) < 100000000
  · replace h := h.1 cc
    have t2 : aX xc_289 (aSeek xc_289 49) [aR 145, aU, aU, aI a3] [] (SH L) M o := by
      subst h
      exact ⟨2, rfl⟩
    exact aX_seg 6 (fun n g => ip c1 (ip cc (g))) t2
  · replace h := h.2 cc
    have t3 : aX xc_289 (aSeek xc_289 43) [aR 145, aU, aU, aI a3] [] (SH L) M o := by
      exact aX_seg 2 (fun n g => g) (h)
    exact aX_seg 6 (fun n g => ip c1 (in_ cc (g))) t3
/- TypeLockModel.rowOf(IZI)I -/
set_option maxRecDepth 100000 in
theorem en_290 {L : Nat} {a1 a2 a3 : Int} {M : aM} {o : aO} (h : ((a2 = 0 → (0 ≤ a1 ∧ a1 < aLn (SH L) 1 155) ∧ aX xc_290 (aSeek xc_290 19) [aU, aU, aU, aI a3, aU] [aI (M 155 a1)] (SH L) M o) ∧ (¬ (a2 = 0) → (0 ≤ a1 ∧ a1 < aLn (SH L) 1 156) ∧ aX xc_290 (aSeek xc_290 19) [aU, aU, aU, aI a3, aU] [aI (M 156 a1)] (SH L) M o))) : aE 290 [aR 145, aI a1, aI a2, aI a3] (SH L) M o := by
  have q : aX xc_290 (aSeek xc_290 0) [aR 145, aI a1, aI a2, aI a3, aU] [] (SH L) M o := by
    by_cases cc : a2 = 0
    · replace h := h.1 cc
      have t1 : aX xc_290 (aSeek xc_290 13) [aR 145, aI a1, aI a2, aI a3, aU] [] (SH L) M o := by
        obtain ⟨c2, h⟩ := h
        exact aX_seg 4 (fun n g => ip c2 (g)) (aX_le (ls := [aU, aU, aU, aI a3, aU]) (ls1 := [aR 145, aI a1, aI a2, aI a3, aU]) (⟨Or.inl rfl, ⟨Or.inl rfl, ⟨Or.inl rfl, ⟨Or.inr rfl, ⟨Or.inl rfl, trivial⟩⟩⟩⟩⟩) h)
      exact aX_seg 2 (fun n g => ip cc (g)) t1
    · replace h := h.2 cc
      have t3 : aX xc_290 (aSeek xc_290 4) [aR 145, aI a1, aI a2, aI a3, aU] [] (SH L) M o := by
        obtain ⟨c4, h⟩ := h
        exact aX_seg 5 (fun n g => ip c4 (g)) (aX_le (ls := [aU, aU, aU, aI a3, aU]) (ls1 := [aR 145, aI a1, aI a2, aI a3, aU]) (⟨Or.inl rfl, ⟨Or.inl rfl, ⟨Or.inl rfl, ⟨Or.inr rfl, ⟨Or.inl rfl, trivial⟩⟩⟩⟩⟩) h)
      exact aX_seg 2 (fun n g => in_ cc (g)) t3
  exact q
set_option maxRecDepth 100000 in
theorem bl_290_19 {L : Nat} {a3 b0 : Int} {M : aM} {o : aO} (h : (¬ (b0 : Int) = 0) ∧ ((¬ (aRem a3 b0) = 0 → o = ([aI 0], (SH L), M)) ∧ (¬ (¬ (aRem a3 b0) = 0) → (¬ (b0 : Int) = 0) ∧ o = ([aI (aDiv a3 b0)], (SH L), M)))) : aX xc_290 (aSeek xc_290 19) [aU, aU, aU, aI a3, aU] [aI b0] (SH L) M o := by
  obtain ⟨c1, h⟩ := h
  by_cases cc : ¬ (aRem a3 b0) = 0
  · replace h := h.1 cc
    have t2 : aX xc_290 (aSeek xc_290 35) [aU, aU, aU, aI a3, aI b0] [] (SH L) M o := by
      subst h
      exact ⟨2, rfl⟩
    exact aX_seg 5 (fun n g => ip c1 (ip cc (g))) t2
  · replace h := h.2 cc
    have t3 : aX xc_290 (aSeek xc_290 28) [aU, aU, aU, aI a3, aI b0] [] (SH L) M o := by
      obtain ⟨c4, h⟩ := h
      subst h
      exact ⟨5, ip c4 (rfl)⟩
    exact aX_seg 5 (fun n g => ip c1 (in_ cc (g))) t3
/- TypeLockModel.mostRows(IZIII)I -/
set_option maxRecDepth 100000 in
theorem en_291 {L : Nat} {a1 a2 a3 a4 a5 : Int} {M : aM} {o : aO} (h : (∃ (M1 : aM) (v2 : Int), aE 290 [aR 145, aI a1, aI a2, aI a3] (SH L) M ([aI v2], (SH L), M1) ∧ ((a2 = 0 → (0 ≤ a1 ∧ a1 < aLn (SH L) 1 156) ∧ aX xc_291 (aSeek xc_291 28) [aU, aU, aU, aU, aI a4, aI a5, aI v2, aU] [aI (M1 156 a1)] (SH L) M1 o) ∧ (¬ (a2 = 0) → (0 ≤ a1 ∧ a1 < aLn (SH L) 1 155) ∧ aX xc_291 (aSeek xc_291 28) [aU, aU, aU, aU, aI a4, aI a5, aI v2, aU] [aI (M1 155 a1)] (SH L) M1 o)))) : aE 291 [aR 145, aI a1, aI a2, aI a3, aI a4, aI a5] (SH L) M o := by
  have q : aX xc_291 (aSeek xc_291 0) [aR 145, aI a1, aI a2, aI a3, aI a4, aI a5, aU, aU] [] (SH L) M o := by
    obtain ⟨M1, v2, k3, h⟩ := h
    have h2 : aX xc_291 (aSeek xc_291 7) [aR 145, aI a1, aI a2, aI a3, aI a4, aI a5, aU, aU] [aI v2] (SH L) M1 o := by
      by_cases cc : a2 = 0
      · replace h := h.1 cc
        have t4 : aX xc_291 (aSeek xc_291 22) [aR 145, aI a1, aI a2, aI a3, aI a4, aI a5, aI v2, aU] [] (SH L) M1 o := by
          obtain ⟨c5, h⟩ := h
          exact aX_seg 4 (fun n g => ip c5 (g)) (aX_le (ls := [aU, aU, aU, aU, aI a4, aI a5, aI v2, aU]) (ls1 := [aR 145, aI a1, aI a2, aI a3, aI a4, aI a5, aI v2, aU]) (⟨Or.inl rfl, ⟨Or.inl rfl, ⟨Or.inl rfl, ⟨Or.inl rfl, ⟨Or.inr rfl, ⟨Or.inr rfl, ⟨Or.inr rfl, ⟨Or.inl rfl, trivial⟩⟩⟩⟩⟩⟩⟩⟩) h)
        exact aX_seg 3 (fun n g => ip cc (g)) t4
      · replace h := h.2 cc
        have t6 : aX xc_291 (aSeek xc_291 13) [aR 145, aI a1, aI a2, aI a3, aI a4, aI a5, aI v2, aU] [] (SH L) M1 o := by
          obtain ⟨c7, h⟩ := h
          exact aX_seg 5 (fun n g => ip c7 (g)) (aX_le (ls := [aU, aU, aU, aU, aI a4, aI a5, aI v2, aU]) (ls1 := [aR 145, aI a1, aI a2, aI a3, aI a4, aI a5, aI v2, aU]) (⟨Or.inl rfl, ⟨Or.inl rfl, ⟨Or.inl rfl, ⟨Or.inl rfl, ⟨Or.inr rfl, ⟨Or.inr rfl, ⟨Or.inr rfl, ⟨Or.inl rfl, trivial⟩⟩⟩⟩⟩⟩⟩⟩) h)
        exact aX_seg 3 (fun n g => in_ cc (g)) t6
    exact aX_seg 4 (fun n g => g) (aX_callv (rfl) rfl rfl rfl k3 h2)
  exact q
set_option maxRecDepth 100000 in
theorem bl_291_28 {L : Nat} {a4 a5 a6 b0 : Int} {M : aM} {o : aO} (h : ((¬ a6 = 0 → (¬ (b0 : Int) = 0) ∧ (¬ (a6 : Int) = 0) ∧ (((aDiv a5 a6) ≤ (aDiv a4 b0) → (¬ (a6 : Int) = 0) ∧ o = ([aI (aDiv a5 a6)], (SH L), M)) ∧ (¬ ((aDiv a5 a6) ≤ (aDiv a4 b0)) → (¬ (b0 : Int) = 0) ∧ o = ([aI (aDiv a4 b0)], (SH L), M)))) ∧ (¬ (¬ a6 = 0) → o = ([aI 0], (SH L), M)))) : aX xc_291 (aSeek xc_291 28) [aU, aU, aU, aU, aI a4, aI a5, aI a6, aU] [aI b0] (SH L) M o := by
  by_cases cc : ¬ a6 = 0
  · replace h := h.1 cc
    have t1 : aX xc_291 (aSeek xc_291 37) [aU, aU, aU, aU, aI a4, aI a5, aI a6, aI b0] [] (SH L) M o := by
      obtain ⟨c2, h⟩ := h
      obtain ⟨c3, h⟩ := h
      by_cases cc : (aDiv a5 a6) ≤ (aDiv a4 b0)
      · replace h := h.1 cc
        have t4 : aX xc_291 (aSeek xc_291 58) [aU, aU, aU, aU, aI a4, aI a5, aI a6, aI b0] [] (SH L) M o := by
          obtain ⟨c5, h⟩ := h
          subst h
          exact ⟨4, ip c5 (rfl)⟩
        exact aX_seg 7 (fun n g => ip c2 (ip c3 (ip cc (g)))) t4
      · replace h := h.2 cc
        have t6 : aX xc_291 (aSeek xc_291 50) [aU, aU, aU, aU, aI a4, aI a5, aI a6, aI b0] [] (SH L) M o := by
          obtain ⟨c7, h⟩ := h
          subst h
          exact ⟨5, ip c7 (rfl)⟩
        exact aX_seg 7 (fun n g => ip c2 (ip c3 (in_ cc (g)))) t6
    exact aX_seg 3 (fun n g => ip cc (g)) t1
  · replace h := h.2 cc
    have t8 : aX xc_291 (aSeek xc_291 35) [aU, aU, aU, aU, aI a4, aI a5, aI a6, aI b0] [] (SH L) M o := by
      subst h
      exact ⟨2, rfl⟩
    exact aX_seg 3 (fun n g => in_ cc (g)) t8
/- TypeLockModel.bestRows(IIII)I -/
set_option maxRecDepth 100000 in
theorem en_292 {L : Nat} {a1 a2 a3 a4 : Int} {M : aM} {o : aO} (h : (∃ (M1 : aM) (v2 : Int), aE 290 [aR 145, aI a1, aI 0, aI a2] (SH L) M ([aI v2], (SH L), M1) ∧ (∃ (M3 : aM) (v4 : Int), aE 290 [aR 145, aI a1, aI 1, aI a2] (SH L) M1 ([aI v4], (SH L), M3) ∧ aX xc_292 (aSeek xc_292 26) [aR 145, aI a1, aI a2, aI a3, aI a4, aI 100000000, aI v2, aI v4, aI 0, aU, aU, aU, aU] [] (SH L) M3 o))) : aE 292 [aR 145, aI a1, aI a2, aI a3, aI a4] (SH L) M o := by
  have q : aX xc_292 (aSeek xc_292 0) [aR 145, aI a1, aI a2, aI a3, aI a4, aU, aU, aU, aU, aU, aU, aU, aU] [] (SH L) M o := by
    obtain ⟨M1, v2, k5, h⟩ := h
    have h2 : aX xc_292 (aSeek xc_292 12) [aR 145, aI a1, aI a2, aI a3, aI a4, aI 100000000, aU, aU, aU, aU, aU, aU, aU] [aI v2] (SH L) M1 o := by
      obtain ⟨M3, v4, k6, h⟩ := h
      have h2 : aX xc_292 (aSeek xc_292 21) [aR 145, aI a1, aI a2, aI a3, aI a4, aI 100000000, aI v2, aU, aU, aU, aU, aU, aU] [aI v4] (SH L) M3 o := by
        exact aX_seg 3 (fun n g => g) (h)
      exact aX_seg 5 (fun n g => g) (aX_callv (rfl) rfl rfl rfl k6 h2)
    exact aX_seg 6 (fun n g => g) (aX_callv (rfl) rfl rfl rfl k5 h2)
  exact q
set_option maxRecDepth 100000 in
theorem bl_292_26 {L : Nat} {a1 a2 a3 a4 a5 a6 a7 a8 : Int} {M : aM} {o : aO} (h : (∃ (M1 : aM) (v2 : Int), aE 291 [aR 145, aI a1, aI 0, aI a2, aI a3, aI a4] (SH L) M ([aI v2], (SH L), M1) ∧ ((v2 < a8 → o = ([aI a5], (SH L), M1)) ∧ (¬ (v2 < a8) → (0 ≤ a1 ∧ a1 < aLn (SH L) 1 156) ∧ aX xc_292 (aSeek xc_292 67) [aR 145, aI a1, aI a2, aI a3, aI a4, aI a5, aI a6, aI a7, aI a8, aI (aW (a3 - (aW (a8 * (M1 156 a1))))), aI (aW (a4 - (aW (a8 * a6)))), aI 0, aU] [] (SH L) M1 o)))) : aX xc_292 (aSeek xc_292 26) [aR 145, aI a1, aI a2, aI a3, aI a4, aI a5, aI a6, aI a7, aI a8, aU, aU, aU, aU] [] (SH L) M o := by
  obtain ⟨M1, v2, k3, h⟩ := h
  have h2 : aX xc_292 (aSeek xc_292 38) [aR 145, aI a1, aI a2, aI a3, aI a4, aI a5, aI a6, aI a7, aI a8, aU, aU, aU, aU] [aI v2, aI a8] (SH L) M1 o := by
    by_cases cc : v2 < a8
    · replace h := h.1 cc
      have t4 : aX xc_292 (aSeek xc_292 145) [aR 145, aI a1, aI a2, aI a3, aI a4, aI a5, aI a6, aI a7, aI a8, aU, aU, aU, aU] [] (SH L) M1 o := by
        subst h
        exact ⟨2, rfl⟩
      exact aX_seg 1 (fun n g => ip cc (g)) t4
    · replace h := h.2 cc
      have t5 : aX xc_292 (aSeek xc_292 41) [aR 145, aI a1, aI a2, aI a3, aI a4, aI a5, aI a6, aI a7, aI a8, aU, aU, aU, aU] [] (SH L) M1 o := by
        obtain ⟨c6, h⟩ := h
        exact aX_seg 17 (fun n g => ip c6 (g)) (h)
      exact aX_seg 1 (fun n g => in_ cc (g)) t5
  exact aX_seg 7 (fun n g => g) (aX_callv (rfl) rfl rfl rfl k3 h2)
set_option maxRecDepth 100000 in
theorem bl_292_67 {L : Nat} {a1 a2 a3 a4 a5 a6 a7 a8 a9 a10 a11 : Int} {M : aM} {o : aO} (h : (∃ (M1 : aM) (v2 : Int), aE 291 [aR 145, aI a1, aI 1, aI a2, aI a9, aI a10] (SH L) M ([aI v2], (SH L), M1) ∧ ((v2 < a11 → aX xc_292 (aSeek xc_292 26) [aR 145, aI a1, aI a2, aI a3, aI a4, aI a5, aI a6, aI a7, aI (aW (a8 + 1)), aU, aU, aU, aU] [] (SH L) M1 o) ∧ (¬ (v2 < a11) → (0 ≤ a1 ∧ a1 < aLn (SH L) 1 155) ∧ (0 ≤ aW ((aW ((aW ((aW (61 * a1)) + 61)) + a9)) - (aW (a11 * (M1 155 a1)))) ∧ aW ((aW ((aW ((aW (61 * a1)) + 61)) + a9)) - (aW (a11 * (M1 155 a1)))) < aLn (SH L) 1 205) ∧ ((a5 ≤ (aW ((aW ((M1 205 (aW ((aW ((aW ((aW (61 * a1)) + 61)) + a9)) - (aW (a11 * (M1 155 a1)))))) + (aW (a8 * a6)))) + (aW (a11 * a7)))) → aX xc_292 (aSeek xc_292 133) [aR 145, aI a1, aI a2, aI a3, aI a4, aI a5, aI a6, aI a7, aI a8, aI a9, aI a10, aI a11, aU] [] (SH L) M1 o) ∧ (¬ (a5 ≤ (aW ((aW ((M1 205 (aW ((aW ((aW ((aW (61 * a1)) + 61)) + a9)) - (aW (a11 * (M1 155 a1)))))) + (aW (a8 * a6)))) + (aW (a11 * a7))))) → aX xc_292 (aSeek xc_292 133) [aR 145, aI a1, aI a2, aI a3, aI a4, aI (aW ((aW ((M1 205 (aW ((aW ((aW ((aW (61 * a1)) + 61)) + a9)) - (aW (a11 * (M1 155 a1)))))) + (aW (a8 * a6)))) + (aW (a11 * a7)))), aI a6, aI a7, aI a8, aI a9, aI a10, aI a11, aU] [] (SH L) M1 o)))))) : aX xc_292 (aSeek xc_292 67) [aR 145, aI a1, aI a2, aI a3, aI a4, aI a5, aI a6, aI a7, aI a8, aI a9, aI a10, aI a11, aU] [] (SH L) M o := by
  obtain ⟨M1, v2, k3, h⟩ := h
  have h2 : aX xc_292 (aSeek xc_292 80) [aR 145, aI a1, aI a2, aI a3, aI a4, aI a5, aI a6, aI a7, aI a8, aI a9, aI a10, aI a11, aU] [aI v2, aI a11] (SH L) M1 o := by
    by_cases cc : v2 < a11
    · replace h := h.1 cc
      have t4 : aX xc_292 (aSeek xc_292 139) [aR 145, aI a1, aI a2, aI a3, aI a4, aI a5, aI a6, aI a7, aI a8, aI a9, aI a10, aI a11, aU] [] (SH L) M1 o := by
        exact aX_seg 2 (fun n g => g) (aX_le (ls := [aR 145, aI a1, aI a2, aI a3, aI a4, aI a5, aI a6, aI a7, aI (aW (a8 + 1)), aU, aU, aU, aU]) (ls1 := [aR 145, aI a1, aI a2, aI a3, aI a4, aI a5, aI a6, aI a7, aI (aW (a8 + 1)), aI a9, aI a10, aI a11, aU]) (⟨Or.inr rfl, ⟨Or.inr rfl, ⟨Or.inr rfl, ⟨Or.inr rfl, ⟨Or.inr rfl, ⟨Or.inr rfl, ⟨Or.inr rfl, ⟨Or.inr rfl, ⟨Or.inr rfl, ⟨Or.inl rfl, ⟨Or.inl rfl, ⟨Or.inl rfl, ⟨Or.inl rfl, trivial⟩⟩⟩⟩⟩⟩⟩⟩⟩⟩⟩⟩⟩) h)
      exact aX_seg 1 (fun n g => ip cc (g)) t4
    · replace h := h.2 cc
      have t5 : aX xc_292 (aSeek xc_292 83) [aR 145, aI a1, aI a2, aI a3, aI a4, aI a5, aI a6, aI a7, aI a8, aI a9, aI a10, aI a11, aU] [] (SH L) M1 o := by
        obtain ⟨c6, h⟩ := h
        obtain ⟨c7, h⟩ := h
        by_cases cc : a5 ≤ (aW ((aW ((M1 205 (aW ((aW ((aW ((aW (61 * a1)) + 61)) + a9)) - (aW (a11 * (M1 155 a1)))))) + (aW (a8 * a6)))) + (aW (a11 * a7))))
        · replace h := h.1 cc
          have t8 : aX xc_292 (aSeek xc_292 133) [aR 145, aI a1, aI a2, aI a3, aI a4, aI a5, aI a6, aI a7, aI a8, aI a9, aI a10, aI a11, aI (aW ((aW ((M1 205 (aW ((aW ((aW ((aW (61 * a1)) + 61)) + a9)) - (aW (a11 * (M1 155 a1)))))) + (aW (a8 * a6)))) + (aW (a11 * a7))))] [] (SH L) M1 o := by
            exact aX_le (ls := [aR 145, aI a1, aI a2, aI a3, aI a4, aI a5, aI a6, aI a7, aI a8, aI a9, aI a10, aI a11, aU]) (ls1 := [aR 145, aI a1, aI a2, aI a3, aI a4, aI a5, aI a6, aI a7, aI a8, aI a9, aI a10, aI a11, aI (aW ((aW ((M1 205 (aW ((aW ((aW ((aW (61 * a1)) + 61)) + a9)) - (aW (a11 * (M1 155 a1)))))) + (aW (a8 * a6)))) + (aW (a11 * a7))))]) (⟨Or.inr rfl, ⟨Or.inr rfl, ⟨Or.inr rfl, ⟨Or.inr rfl, ⟨Or.inr rfl, ⟨Or.inr rfl, ⟨Or.inr rfl, ⟨Or.inr rfl, ⟨Or.inr rfl, ⟨Or.inr rfl, ⟨Or.inr rfl, ⟨Or.inr rfl, ⟨Or.inl rfl, trivial⟩⟩⟩⟩⟩⟩⟩⟩⟩⟩⟩⟩⟩) h
          exact aX_seg 29 (fun n g => ip c6 (ip c7 (ip cc (g)))) t8
        · replace h := h.2 cc
          have t9 : aX xc_292 (aSeek xc_292 129) [aR 145, aI a1, aI a2, aI a3, aI a4, aI a5, aI a6, aI a7, aI a8, aI a9, aI a10, aI a11, aI (aW ((aW ((M1 205 (aW ((aW ((aW ((aW (61 * a1)) + 61)) + a9)) - (aW (a11 * (M1 155 a1)))))) + (aW (a8 * a6)))) + (aW (a11 * a7))))] [] (SH L) M1 o := by
            exact aX_seg 2 (fun n g => g) (aX_le (ls := [aR 145, aI a1, aI a2, aI a3, aI a4, aI (aW ((aW ((M1 205 (aW ((aW ((aW ((aW (61 * a1)) + 61)) + a9)) - (aW (a11 * (M1 155 a1)))))) + (aW (a8 * a6)))) + (aW (a11 * a7)))), aI a6, aI a7, aI a8, aI a9, aI a10, aI a11, aU]) (ls1 := [aR 145, aI a1, aI a2, aI a3, aI a4, aI (aW ((aW ((M1 205 (aW ((aW ((aW ((aW (61 * a1)) + 61)) + a9)) - (aW (a11 * (M1 155 a1)))))) + (aW (a8 * a6)))) + (aW (a11 * a7)))), aI a6, aI a7, aI a8, aI a9, aI a10, aI a11, aI (aW ((aW ((M1 205 (aW ((aW ((aW ((aW (61 * a1)) + 61)) + a9)) - (aW (a11 * (M1 155 a1)))))) + (aW (a8 * a6)))) + (aW (a11 * a7))))]) (⟨Or.inr rfl, ⟨Or.inr rfl, ⟨Or.inr rfl, ⟨Or.inr rfl, ⟨Or.inr rfl, ⟨Or.inr rfl, ⟨Or.inr rfl, ⟨Or.inr rfl, ⟨Or.inr rfl, ⟨Or.inr rfl, ⟨Or.inr rfl, ⟨Or.inr rfl, ⟨Or.inl rfl, trivial⟩⟩⟩⟩⟩⟩⟩⟩⟩⟩⟩⟩⟩) h)
          exact aX_seg 29 (fun n g => ip c6 (ip c7 (in_ cc (g)))) t9
      exact aX_seg 1 (fun n g => in_ cc (g)) t5
  exact aX_seg 7 (fun n g => g) (aX_callv (rfl) rfl rfl rfl k3 h2)
set_option maxRecDepth 100000 in
theorem bl_292_133 {L : Nat} {a1 a2 a3 a4 a5 a6 a7 a8 a9 a10 a11 : Int} {M : aM} {o : aO} (h : aX xc_292 (aSeek xc_292 67) [aR 145, aI a1, aI a2, aI a3, aI a4, aI a5, aI a6, aI a7, aI a8, aI a9, aI a10, aI (aW (a11 + 1)), aU] [] (SH L) M o) : aX xc_292 (aSeek xc_292 133) [aR 145, aI a1, aI a2, aI a3, aI a4, aI a5, aI a6, aI a7, aI a8, aI a9, aI a10, aI a11, aU] [] (SH L) M o := by
  exact aX_seg 2 (fun n g => g) (h)
/- TypeLockModel.layGap(II)V -/
set_option maxRecDepth 100000 in
theorem en_293 {L : Nat} {a1 a2 : Int} {M : aM} {o : aO} (h : aX xc_293 (aSeek xc_293 2) [aR 145, aI a1, aI a2, aI 0, aU, aU] [] (SH L) M o) : aE 293 [aR 145, aI a1, aI a2] (SH L) M o := by
  have q : aX xc_293 (aSeek xc_293 0) [aR 145, aI a1, aI a2, aU, aU, aU] [] (SH L) M o := by
    exact aX_seg 2 (fun n g => g) (h)
  exact q
set_option maxRecDepth 100000 in
theorem bl_293_2 {L : Nat} {a1 a2 a3 : Int} {M : aM} {o : aO} (h : ((a2 < a3 → aX xc_293 (aSeek xc_293 37) [aR 145, aI a1, aI a2, aI 13, aU, aU] [] (SH L) M o) ∧ (¬ (a2 < a3) → ((¬ a3 = 0 → aX xc_293 (aSeek xc_293 27) [aR 145, aI a1, aI a2, aI a3, aU, aU] [aI 100000000, aI (aW (854 + a3)), aR 205] (SH L) M o) ∧ (¬ (¬ a3 = 0) → aX xc_293 (aSeek xc_293 27) [aR 145, aI a1, aI a2, aI a3, aU, aU] [aI 0, aI (aW (854 + a3)), aR 205] (SH L) M o))))) : aX xc_293 (aSeek xc_293 2) [aR 145, aI a1, aI a2, aI a3, aU, aU] [] (SH L) M o := by
  by_cases cc : a2 < a3
  · replace h := h.1 cc
    have t1 : aX xc_293 (aSeek xc_293 34) [aR 145, aI a1, aI a2, aI a3, aU, aU] [] (SH L) M o := by
      exact aX_seg 2 (fun n g => g) (h)
    exact aX_seg 3 (fun n g => ip cc (g)) t1
  · replace h := h.2 cc
    have t2 : aX xc_293 (aSeek xc_293 7) [aR 145, aI a1, aI a2, aI a3, aU, aU] [] (SH L) M o := by
      by_cases cc : ¬ a3 = 0
      · replace h := h.1 cc
        have t3 : aX xc_293 (aSeek xc_293 24) [aR 145, aI a1, aI a2, aI a3, aU, aU] [aI (aW (854 + a3)), aR 205] (SH L) M o := by
          exact aX_seg 1 (fun n g => g) (h)
        exact aX_seg 7 (fun n g => ip cc (g)) t3
      · replace h := h.2 cc
        have t4 : aX xc_293 (aSeek xc_293 20) [aR 145, aI a1, aI a2, aI a3, aU, aU] [aI (aW (854 + a3)), aR 205] (SH L) M o := by
          exact aX_seg 2 (fun n g => g) (h)
        exact aX_seg 7 (fun n g => in_ cc (g)) t4
    exact aX_seg 3 (fun n g => in_ cc (g)) t2
set_option maxRecDepth 100000 in
theorem bl_293_27 {L : Nat} {a1 a2 a3 b0 b1 b2 : Int} {M : aM} {o : aO} (h : (0 ≤ b1 ∧ b1 < aLn (SH L) 1 b0) ∧ aX xc_293 (aSeek xc_293 2) [aR 145, aI a1, aI a2, aI (aW (a3 + 1)), aU, aU] [] (SH L) (aSet M b0 b1 b2) o) : aX xc_293 (aSeek xc_293 27) [aR 145, aI a1, aI a2, aI a3, aU, aU] [aI b2, aI b1, aR b0] (SH L) M o := by
  obtain ⟨c1, h⟩ := h
  exact aX_seg 3 (fun n g => ip c1 (g)) (h)
set_option maxRecDepth 100000 in
theorem bl_293_37 {L : Nat} {a1 a2 a3 : Int} {M : aM} {o : aO} (h : ((a3 < 0 → o = ([], (SH L), M)) ∧ (¬ (a3 < 0) → (((M 153 0) ≤ a3 → aX xc_293 (aSeek xc_293 68) [aR 145, aI a1, aI a2, aI a3, aU, aU] [] (SH L) M o) ∧ (¬ ((M 153 0) ≤ a3) → (0 ≤ a3 ∧ a3 < aLn (SH L) 1 154) ∧ (((M 154 a3) ≤ 0 → aX xc_293 (aSeek xc_293 68) [aR 145, aI a1, aI a2, aI a3, aU, aU] [] (SH L) M o) ∧ (¬ ((M 154 a3) ≤ 0) → (∃ (M1 : aM) (v2 : Int), aE 226 [aR 145, aI a3] (SH L) M ([aI v2], (SH L), M1) ∧ aX xc_293 (aSeek xc_293 69) [aR 145, aI a1, aI a2, aI a3, aU, aU] [aI v2] (SH L) M1 o)))))))) : aX xc_293 (aSeek xc_293 37) [aR 145, aI a1, aI a2, aI a3, aU, aU] [] (SH L) M o := by
  by_cases cc : a3 < 0
  · replace h := h.1 cc
    have t3 : aX xc_293 (aSeek xc_293 137) [aR 145, aI a1, aI a2, aI a3, aU, aU] [] (SH L) M o := by
      subst h
      exact ⟨1, rfl⟩
    exact aX_seg 2 (fun n g => ip cc (g)) t3
  · replace h := h.2 cc
    have t4 : aX xc_293 (aSeek xc_293 41) [aR 145, aI a1, aI a2, aI a3, aU, aU] [] (SH L) M o := by
      by_cases cc : (M 153 0) ≤ a3
      · replace h := h.1 cc
        have t5 : aX xc_293 (aSeek xc_293 68) [aR 145, aI a1, aI a2, aI a3, aU, aU] [] (SH L) M o := by
          exact h
        exact aX_seg 6 (fun n g => ip cc (g)) t5
      · replace h := h.2 cc
        have t6 : aX xc_293 (aSeek xc_293 51) [aR 145, aI a1, aI a2, aI a3, aU, aU] [] (SH L) M o := by
          obtain ⟨c7, h⟩ := h
          by_cases cc : (M 154 a3) ≤ 0
          · replace h := h.1 cc
            have t8 : aX xc_293 (aSeek xc_293 68) [aR 145, aI a1, aI a2, aI a3, aU, aU] [] (SH L) M o := by
              exact h
            exact aX_seg 5 (fun n g => ip c7 (ip cc (g))) t8
          · replace h := h.2 cc
            have t9 : aX xc_293 (aSeek xc_293 60) [aR 145, aI a1, aI a2, aI a3, aU, aU] [] (SH L) M o := by
              obtain ⟨M1, v2, k10, h⟩ := h
              have h2 : aX xc_293 (aSeek xc_293 65) [aR 145, aI a1, aI a2, aI a3, aU, aU] [aI v2] (SH L) M1 o := by
                exact aX_seg 1 (fun n g => g) (h)
              exact aX_seg 2 (fun n g => g) (aX_callv (rfl) rfl rfl rfl k10 h2)
            exact aX_seg 5 (fun n g => ip c7 (in_ cc (g))) t9
        exact aX_seg 6 (fun n g => in_ cc (g)) t6
    exact aX_seg 2 (fun n g => in_ cc (g)) t4
set_option maxRecDepth 100000 in
theorem bl_293_68 {L : Nat} {a1 a2 a3 : Int} {M : aM} {o : aO} (h : aX xc_293 (aSeek xc_293 69) [aR 145, aI a1, aI a2, aI a3, aU, aU] [aI 0] (SH L) M o) : aX xc_293 (aSeek xc_293 68) [aR 145, aI a1, aI a2, aI a3, aU, aU] [] (SH L) M o := by
  exact aX_seg 1 (fun n g => g) (h)
set_option maxRecDepth 100000 in
theorem bl_293_69 {L : Nat} {a1 a2 a3 b0 : Int} {M : aM} {o : aO} (h : aX xc_293 (aSeek xc_293 74) [aR 145, aI a1, aI a2, aI a3, aI b0, aI 0] [] (SH L) M o) : aX xc_293 (aSeek xc_293 69) [aR 145, aI a1, aI a2, aI a3, aU, aU] [aI b0] (SH L) M o := by
  exact aX_seg 3 (fun n g => g) (h)
set_option maxRecDepth 100000 in
theorem bl_293_74 {L : Nat} {a1 a2 a3 a4 a5 : Int} {M : aM} {o : aO} (h : ((a2 < a5 → aX xc_293 (aSeek xc_293 37) [aR 145, aI a1, aI a2, aI (aW (a3 + (-1))), aU, aU] [] (SH L) M o) ∧ (¬ (a2 < a5) → ((¬ a4 = 0 → (∃ (M1 : aM) (v2 : Int), aE 292 [aR 145, aI a3, aI a1, aI a5, aI a4] (SH L) M ([aI v2], (SH L), M1) ∧ aX xc_293 (aSeek xc_293 124) [aR 145, aI a1, aI a2, aI a3, aI a4, aI a5] [aI v2, aI (aW ((aW (61 * a3)) + a5)), aR 205] (SH L) M1 o)) ∧ (¬ (¬ a4 = 0) → (0 ≤ aW ((aW ((aW (61 * a3)) + 61)) + a5) ∧ aW ((aW ((aW (61 * a3)) + 61)) + a5) < aLn (SH L) 1 205) ∧ aX xc_293 (aSeek xc_293 124) [aR 145, aI a1, aI a2, aI a3, aI a4, aI a5] [aI (M 205 (aW ((aW ((aW (61 * a3)) + 61)) + a5))), aI (aW ((aW (61 * a3)) + a5)), aR 205] (SH L) M o))))) : aX xc_293 (aSeek xc_293 74) [aR 145, aI a1, aI a2, aI a3, aI a4, aI a5] [] (SH L) M o := by
  by_cases cc : a2 < a5
  · replace h := h.1 cc
    have t3 : aX xc_293 (aSeek xc_293 131) [aR 145, aI a1, aI a2, aI a3, aI a4, aI a5] [] (SH L) M o := by
      exact aX_seg 2 (fun n g => g) (aX_le (ls := [aR 145, aI a1, aI a2, aI (aW (a3 + (-1))), aU, aU]) (ls1 := [aR 145, aI a1, aI a2, aI (aW (a3 + (-1))), aI a4, aI a5]) (⟨Or.inr rfl, ⟨Or.inr rfl, ⟨Or.inr rfl, ⟨Or.inr rfl, ⟨Or.inl rfl, ⟨Or.inl rfl, trivial⟩⟩⟩⟩⟩⟩) h)
    exact aX_seg 3 (fun n g => ip cc (g)) t3
  · replace h := h.2 cc
    have t4 : aX xc_293 (aSeek xc_293 80) [aR 145, aI a1, aI a2, aI a3, aI a4, aI a5] [] (SH L) M o := by
      by_cases cc : ¬ a4 = 0
      · replace h := h.1 cc
        have t5 : aX xc_293 (aSeek xc_293 114) [aR 145, aI a1, aI a2, aI a3, aI a4, aI a5] [aI (aW ((aW (61 * a3)) + a5)), aR 205] (SH L) M o := by
          obtain ⟨M1, v2, k6, h⟩ := h
          have h2 : aX xc_293 (aSeek xc_293 124) [aR 145, aI a1, aI a2, aI a3, aI a4, aI a5] [aI v2, aI (aW ((aW (61 * a3)) + a5)), aR 205] (SH L) M1 o := by
            exact h
          exact aX_seg 5 (fun n g => g) (aX_callv (rfl) rfl rfl rfl k6 h2)
        exact aX_seg 9 (fun n g => ip cc (g)) t5
      · replace h := h.2 cc
        have t7 : aX xc_293 (aSeek xc_293 96) [aR 145, aI a1, aI a2, aI a3, aI a4, aI a5] [aI (aW ((aW (61 * a3)) + a5)), aR 205] (SH L) M o := by
          obtain ⟨c8, h⟩ := h
          exact aX_seg 11 (fun n g => ip c8 (g)) (h)
        exact aX_seg 9 (fun n g => in_ cc (g)) t7
    exact aX_seg 3 (fun n g => in_ cc (g)) t4
set_option maxRecDepth 100000 in
theorem bl_293_124 {L : Nat} {a1 a2 a3 a4 a5 b0 b1 b2 : Int} {M : aM} {o : aO} (h : (0 ≤ b1 ∧ b1 < aLn (SH L) 1 b0) ∧ aX xc_293 (aSeek xc_293 74) [aR 145, aI a1, aI a2, aI a3, aI a4, aI (aW (a5 + 1))] [] (SH L) (aSet M b0 b1 b2) o) : aX xc_293 (aSeek xc_293 124) [aR 145, aI a1, aI a2, aI a3, aI a4, aI a5] [aI b2, aI b1, aR b0] (SH L) M o := by
  obtain ⟨c1, h⟩ := h
  exact aX_seg 3 (fun n g => ip c1 (g)) (h)
/- TypeLockModel.chooseRows(III)V -/
set_option maxRecDepth 100000 in
theorem en_294 {L : Nat} {a1 a2 a3 : Int} {M : aM} {o : aO} (h : ((((aSet (aSet M 145 74 0) 145 75 0) 153 0) ≤ a1 → aX xc_294 (aSeek xc_294 37) [aR 145, aI a1, aI a2, aI a3, aU, aU, aU, aU, aU, aU] [] (SH L) (aSet (aSet M 145 74 0) 145 75 0) o) ∧ (¬ (((aSet (aSet M 145 74 0) 145 75 0) 153 0) ≤ a1) → (0 ≤ a1 ∧ a1 < aLn (SH L) 1 154) ∧ ((((aSet (aSet M 145 74 0) 145 75 0) 154 a1) ≤ 0 → aX xc_294 (aSeek xc_294 37) [aR 145, aI a1, aI a2, aI a3, aU, aU, aU, aU, aU, aU] [] (SH L) (aSet (aSet M 145 74 0) 145 75 0) o) ∧ (¬ (((aSet (aSet M 145 74 0) 145 75 0) 154 a1) ≤ 0) → (∃ (M1 : aM) (v2 : Int), aE 226 [aR 145, aI a1] (SH L) (aSet (aSet M 145 74 0) 145 75 0) ([aI v2], (SH L), M1) ∧ aX xc_294 (aSeek xc_294 38) [aR 145, aI a1, aI a2, aI a3, aU, aU, aU, aU, aU, aU] [aI v2] (SH L) M1 o)))))) : aE 294 [aR 145, aI a1, aI a2, aI a3] (SH L) M o := by
  have q : aX xc_294 (aSeek xc_294 0) [aR 145, aI a1, aI a2, aI a3, aU, aU, aU, aU, aU, aU] [] (SH L) M o := by
    by_cases cc : ((aSet (aSet M 145 74 0) 145 75 0) 153 0) ≤ a1
    · replace h := h.1 cc
      have t3 : aX xc_294 (aSeek xc_294 37) [aR 145, aI a1, aI a2, aI a3, aU, aU, aU, aU, aU, aU] [] (SH L) (aSet (aSet M 145 74 0) 145 75 0) o := by
        exact h
      exact aX_seg 12 (fun n g => ip cc (g)) t3
    · replace h := h.2 cc
      have t4 : aX xc_294 (aSeek xc_294 20) [aR 145, aI a1, aI a2, aI a3, aU, aU, aU, aU, aU, aU] [] (SH L) (aSet (aSet M 145 74 0) 145 75 0) o := by
        obtain ⟨c5, h⟩ := h
        by_cases cc : ((aSet (aSet M 145 74 0) 145 75 0) 154 a1) ≤ 0
        · replace h := h.1 cc
          have t6 : aX xc_294 (aSeek xc_294 37) [aR 145, aI a1, aI a2, aI a3, aU, aU, aU, aU, aU, aU] [] (SH L) (aSet (aSet M 145 74 0) 145 75 0) o := by
            exact h
          exact aX_seg 5 (fun n g => ip c5 (ip cc (g))) t6
        · replace h := h.2 cc
          have t7 : aX xc_294 (aSeek xc_294 29) [aR 145, aI a1, aI a2, aI a3, aU, aU, aU, aU, aU, aU] [] (SH L) (aSet (aSet M 145 74 0) 145 75 0) o := by
            obtain ⟨M1, v2, k8, h⟩ := h
            have h2 : aX xc_294 (aSeek xc_294 34) [aR 145, aI a1, aI a2, aI a3, aU, aU, aU, aU, aU, aU] [aI v2] (SH L) M1 o := by
              exact aX_seg 1 (fun n g => g) (h)
            exact aX_seg 2 (fun n g => g) (aX_callv (rfl) rfl rfl rfl k8 h2)
          exact aX_seg 5 (fun n g => ip c5 (in_ cc (g))) t7
      exact aX_seg 12 (fun n g => in_ cc (g)) t4
  exact q
set_option maxRecDepth 100000 in
theorem bl_294_37 {L : Nat} {a1 a2 a3 : Int} {M : aM} {o : aO} (h : aX xc_294 (aSeek xc_294 38) [aR 145, aI a1, aI a2, aI a3, aU, aU, aU, aU, aU, aU] [aI 0] (SH L) M o) : aX xc_294 (aSeek xc_294 37) [aR 145, aI a1, aI a2, aI a3, aU, aU, aU, aU, aU, aU] [] (SH L) M o := by
  exact aX_seg 1 (fun n g => g) (h)
set_option maxRecDepth 100000 in
theorem bl_294_38 {L : Nat} {a1 a2 a3 b0 : Int} {M : aM} {o : aO} (h : ((¬ b0 = 0 → (∃ (M1 : aM) (v2 : Int), aE 291 [aR 145, aI a1, aI 0, aI a2, aI a3, aI b0] (SH L) M ([aI v2], (SH L), M1) ∧ aX xc_294 (aSeek xc_294 58) [aR 145, aI a1, aI a2, aI a3, aI b0, aI v2, aU, aU, aU, aU] [] (SH L) M1 o)) ∧ (¬ (¬ b0 = 0) → o = ([], (SH L), M)))) : aX xc_294 (aSeek xc_294 38) [aR 145, aI a1, aI a2, aI a3, aU, aU, aU, aU, aU, aU] [aI b0] (SH L) M o := by
  by_cases cc : ¬ b0 = 0
  · replace h := h.1 cc
    have t3 : aX xc_294 (aSeek xc_294 46) [aR 145, aI a1, aI a2, aI a3, aI b0, aU, aU, aU, aU, aU] [] (SH L) M o := by
      obtain ⟨M1, v2, k4, h⟩ := h
      have h2 : aX xc_294 (aSeek xc_294 56) [aR 145, aI a1, aI a2, aI a3, aI b0, aU, aU, aU, aU, aU] [aI v2] (SH L) M1 o := by
        exact aX_seg 1 (fun n g => g) (h)
      exact aX_seg 6 (fun n g => g) (aX_callv (rfl) rfl rfl rfl k4 h2)
    exact aX_seg 3 (fun n g => ip cc (g)) t3
  · replace h := h.2 cc
    have t5 : aX xc_294 (aSeek xc_294 45) [aR 145, aI a1, aI a2, aI a3, aI b0, aU, aU, aU, aU, aU] [] (SH L) M o := by
      subst h
      exact ⟨1, rfl⟩
    exact aX_seg 3 (fun n g => in_ cc (g)) t5
set_option maxRecDepth 100000 in
theorem bl_294_58 {L : Nat} {a1 a2 a3 a4 a5 : Int} {M : aM} {o : aO} (h : ((a5 < 0 → o = ([], (SH L), M)) ∧ (¬ (a5 < 0) → (0 ≤ a1 ∧ a1 < aLn (SH L) 1 156) ∧ (∃ (M1 : aM) (v2 : Int), aE 290 [aR 145, aI a1, aI 0, aI a2] (SH L) M ([aI v2], (SH L), M1) ∧ (∃ (M3 : aM) (v4 : Int), aE 291 [aR 145, aI a1, aI 1, aI a2, aI (aW (a3 - (aW (a5 * (M 156 a1))))), aI (aW (a4 - (aW (a5 * v2))))] (SH L) M1 ([aI v4], (SH L), M3) ∧ aX xc_294 (aSeek xc_294 104) [aR 145, aI a1, aI a2, aI a3, aI a4, aI a5, aI (aW (a3 - (aW (a5 * (M 156 a1))))), aU, aI v4, aU] [] (SH L) M3 o))))) : aX xc_294 (aSeek xc_294 58) [aR 145, aI a1, aI a2, aI a3, aI a4, aI a5, aU, aU, aU, aU] [] (SH L) M o := by
  by_cases cc : a5 < 0
  · replace h := h.1 cc
    have t5 : aX xc_294 (aSeek xc_294 202) [aR 145, aI a1, aI a2, aI a3, aI a4, aI a5, aU, aU, aU, aU] [] (SH L) M o := by
      subst h
      exact ⟨1, rfl⟩
    exact aX_seg 2 (fun n g => ip cc (g)) t5
  · replace h := h.2 cc
    have t6 : aX xc_294 (aSeek xc_294 63) [aR 145, aI a1, aI a2, aI a3, aI a4, aI a5, aU, aU, aU, aU] [] (SH L) M o := by
      obtain ⟨c7, h⟩ := h
      obtain ⟨M1, v2, k8, h⟩ := h
      have h2 : aX xc_294 (aSeek xc_294 87) [aR 145, aI a1, aI a2, aI a3, aI a4, aI a5, aI (aW (a3 - (aW (a5 * (M 156 a1))))), aU, aU, aU] [aI v2, aI a5, aI a4] (SH L) M1 o := by
        obtain ⟨M3, v4, k9, h⟩ := h
        have h2 : aX xc_294 (aSeek xc_294 102) [aR 145, aI a1, aI a2, aI a3, aI a4, aI a5, aI (aW (a3 - (aW (a5 * (M 156 a1))))), aI (aW (a4 - (aW (a5 * v2)))), aU, aU] [aI v4] (SH L) M3 o := by
          exact aX_seg 1 (fun n g => g) (aX_le (ls := [aR 145, aI a1, aI a2, aI a3, aI a4, aI a5, aI (aW (a3 - (aW (a5 * (M 156 a1))))), aU, aI v4, aU]) (ls1 := [aR 145, aI a1, aI a2, aI a3, aI a4, aI a5, aI (aW (a3 - (aW (a5 * (M 156 a1))))), aI (aW (a4 - (aW (a5 * v2)))), aI v4, aU]) (⟨Or.inr rfl, ⟨Or.inr rfl, ⟨Or.inr rfl, ⟨Or.inr rfl, ⟨Or.inr rfl, ⟨Or.inr rfl, ⟨Or.inr rfl, ⟨Or.inl rfl, ⟨Or.inr rfl, ⟨Or.inl rfl, trivial⟩⟩⟩⟩⟩⟩⟩⟩⟩⟩) h)
        exact aX_seg 9 (fun n g => g) (aX_callv (rfl) rfl rfl rfl k9 h2)
      exact aX_seg 15 (fun n g => ip c7 (g)) (aX_callv (rfl) rfl rfl rfl k8 h2)
    exact aX_seg 2 (fun n g => in_ cc (g)) t6
set_option maxRecDepth 100000 in
theorem bl_294_104 {L : Nat} {a1 a2 a3 a4 a5 a6 a8 : Int} {M : aM} {o : aO} (h : ((a8 < 0 → aX xc_294 (aSeek xc_294 58) [aR 145, aI a1, aI a2, aI a3, aI a4, aI (aW (a5 + (-1))), aU, aU, aU, aU] [] (SH L) M o) ∧ (¬ (a8 < 0) → (0 ≤ a1 ∧ a1 < aLn (SH L) 1 155) ∧ (0 ≤ aW ((aW ((aW ((aW (61 * a1)) + 61)) + a6)) - (aW (a8 * (M 155 a1)))) ∧ aW ((aW ((aW ((aW (61 * a1)) + 61)) + a6)) - (aW (a8 * (M 155 a1)))) < aLn (SH L) 1 205) ∧ (∃ (M1 : aM) (v2 : Int), aE 290 [aR 145, aI a1, aI 0, aI a2] (SH L) M ([aI v2], (SH L), M1) ∧ (∃ (M3 : aM) (v4 : Int), aE 290 [aR 145, aI a1, aI 1, aI a2] (SH L) M1 ([aI v4], (SH L), M3) ∧ (0 ≤ aW ((aW (61 * a1)) + a3) ∧ aW ((aW (61 * a1)) + a3) < aLn (SH L) 1 205) ∧ (((aW ((aW ((M 205 (aW ((aW ((aW ((aW (61 * a1)) + 61)) + a6)) - (aW (a8 * (M 155 a1)))))) + (aW (a5 * v2)))) + (aW (a8 * v4)))) = (M3 205 (aW ((aW (61 * a1)) + a3))) → o = ([], (SH L), aSet (aSet M3 145 74 a5) 145 75 a8)) ∧ (¬ ((aW ((aW ((M 205 (aW ((aW ((aW ((aW (61 * a1)) + 61)) + a6)) - (aW (a8 * (M 155 a1)))))) + (aW (a5 * v2)))) + (aW (a8 * v4)))) = (M3 205 (aW ((aW (61 * a1)) + a3)))) → aX xc_294 (aSeek xc_294 104) [aR 145, aI a1, aI a2, aI a3, aI a4, aI a5, aI a6, aU, aI (aW (a8 + (-1))), aU] [] (SH L) M3 o))))))) : aX xc_294 (aSeek xc_294 104) [aR 145, aI a1, aI a2, aI a3, aI a4, aI a5, aI a6, aU, aI a8, aU] [] (SH L) M o := by
  by_cases cc : a8 < 0
  · replace h := h.1 cc
    have t5 : aX xc_294 (aSeek xc_294 196) [aR 145, aI a1, aI a2, aI a3, aI a4, aI a5, aI a6, aU, aI a8, aU] [] (SH L) M o := by
      exact aX_seg 2 (fun n g => g) (aX_le (ls := [aR 145, aI a1, aI a2, aI a3, aI a4, aI (aW (a5 + (-1))), aU, aU, aU, aU]) (ls1 := [aR 145, aI a1, aI a2, aI a3, aI a4, aI (aW (a5 + (-1))), aI a6, aU, aI a8, aU]) (⟨Or.inr rfl, ⟨Or.inr rfl, ⟨Or.inr rfl, ⟨Or.inr rfl, ⟨Or.inr rfl, ⟨Or.inr rfl, ⟨Or.inl rfl, ⟨Or.inl rfl, ⟨Or.inl rfl, ⟨Or.inl rfl, trivial⟩⟩⟩⟩⟩⟩⟩⟩⟩⟩) h)
    exact aX_seg 2 (fun n g => ip cc (g)) t5
  · replace h := h.2 cc
    have t6 : aX xc_294 (aSeek xc_294 109) [aR 145, aI a1, aI a2, aI a3, aI a4, aI a5, aI a6, aU, aI a8, aU] [] (SH L) M o := by
      obtain ⟨c7, h⟩ := h
      obtain ⟨c8, h⟩ := h
      obtain ⟨M1, v2, k9, h⟩ := h
      have h2 : aX xc_294 (aSeek xc_294 143) [aR 145, aI a1, aI a2, aI a3, aI a4, aI a5, aI a6, aU, aI a8, aU] [aI v2, aI a5, aI (M 205 (aW ((aW ((aW ((aW (61 * a1)) + 61)) + a6)) - (aW (a8 * (M 155 a1))))))] (SH L) M1 o := by
        obtain ⟨M3, v4, k10, h⟩ := h
        have h2 : aX xc_294 (aSeek xc_294 154) [aR 145, aI a1, aI a2, aI a3, aI a4, aI a5, aI a6, aU, aI a8, aU] [aI v4, aI a8, aI (aW ((M 205 (aW ((aW ((aW ((aW (61 * a1)) + 61)) + a6)) - (aW (a8 * (M 155 a1)))))) + (aW (a5 * v2))))] (SH L) M3 o := by
          obtain ⟨c11, h⟩ := h
          by_cases cc : (aW ((aW ((M 205 (aW ((aW ((aW ((aW (61 * a1)) + 61)) + a6)) - (aW (a8 * (M 155 a1)))))) + (aW (a5 * v2)))) + (aW (a8 * v4)))) = (M3 205 (aW ((aW (61 * a1)) + a3)))
          · replace h := h.1 cc
            have t12 : aX xc_294 (aSeek xc_294 177) [aR 145, aI a1, aI a2, aI a3, aI a4, aI a5, aI a6, aU, aI a8, aI (aW ((aW ((M 205 (aW ((aW ((aW ((aW (61 * a1)) + 61)) + a6)) - (aW (a8 * (M 155 a1)))))) + (aW (a5 * v2)))) + (aW (a8 * v4))))] [] (SH L) M3 o := by
              subst h
              exact ⟨7, rfl⟩
            exact aX_seg 13 (fun n g => ip c11 (ip cc (g))) t12
          · replace h := h.2 cc
            have t13 : aX xc_294 (aSeek xc_294 174) [aR 145, aI a1, aI a2, aI a3, aI a4, aI a5, aI a6, aU, aI a8, aI (aW ((aW ((M 205 (aW ((aW ((aW ((aW (61 * a1)) + 61)) + a6)) - (aW (a8 * (M 155 a1)))))) + (aW (a5 * v2)))) + (aW (a8 * v4))))] [] (SH L) M3 o := by
              exact aX_seg 3 (fun n g => g) (aX_le (ls := [aR 145, aI a1, aI a2, aI a3, aI a4, aI a5, aI a6, aU, aI (aW (a8 + (-1))), aU]) (ls1 := [aR 145, aI a1, aI a2, aI a3, aI a4, aI a5, aI a6, aU, aI (aW (a8 + (-1))), aI (aW ((aW ((M 205 (aW ((aW ((aW ((aW (61 * a1)) + 61)) + a6)) - (aW (a8 * (M 155 a1)))))) + (aW (a5 * v2)))) + (aW (a8 * v4))))]) (⟨Or.inr rfl, ⟨Or.inr rfl, ⟨Or.inr rfl, ⟨Or.inr rfl, ⟨Or.inr rfl, ⟨Or.inr rfl, ⟨Or.inr rfl, ⟨Or.inl rfl, ⟨Or.inr rfl, ⟨Or.inl rfl, trivial⟩⟩⟩⟩⟩⟩⟩⟩⟩⟩) h)
            exact aX_seg 13 (fun n g => ip c11 (in_ cc (g))) t13
        exact aX_seg 7 (fun n g => g) (aX_callv (rfl) rfl rfl rfl k10 h2)
      exact aX_seg 22 (fun n g => ip c7 (ip c8 (g))) (aX_callv (rfl) rfl rfl rfl k9 h2)
    exact aX_seg 2 (fun n g => in_ cc (g)) t6
/- TypeLockModel.gap(III)I -/
set_option maxRecDepth 100000 in
theorem en_295 {L : Nat} {a1 a2 a3 : Int} {M : aM} {o : aO} (h : (∃ (M1 : aM) (v2 : Int), aE 219 [aI a1, aI 1, aI 60] (SH L) M ([aI v2], (SH L), M1) ∧ ((v2 = 0 → o = ([aI ((-1))], (SH L), M1)) ∧ (¬ (v2 = 0) → (∃ (M3 : aM) (v4 : Int), aE 219 [aI a2, aI 1, aI 60] (SH L) M1 ([aI v4], (SH L), M3) ∧ ((v4 = 0 → o = ([aI ((-1))], (SH L), M3)) ∧ (¬ (v4 = 0) → (∃ (M5 : aM) (v6 : Int), aE 287 [aR 145, aI a3, aI 0] (SH L) M3 ([aI v6], (SH L), M5) ∧ ((¬ v6 = 0 → (∃ (M7 : aM), aE 293 [aR 145, aI a1, aI a2] (SH L) M5 ([], (SH L), M7) ∧ (0 ≤ a2 ∧ a2 < aLn (SH L) 1 205) ∧ (((M7 205 a2) < 100000000 → ((¬ a3 = 0 → aX xc_295 (aSeek xc_295 69) [aR 145, aI a1, aU, aI a3, aI a2, aI 0] [] (SH L) M7 o) ∧ (¬ (¬ a3 = 0) → (0 ≤ a2 ∧ a2 < aLn (SH L) 1 205) ∧ o = ([aI (M7 205 a2)], (SH L), M7)))) ∧ (¬ ((M7 205 a2) < 100000000) → o = ([aI ((-2))], (SH L), M7))))) ∧ (¬ (¬ v6 = 0) → o = ([aI ((-1))], (SH L), M5))))))))))) : aE 295 [aR 145, aI a1, aI a2, aI a3] (SH L) M o := by
  have q : aX xc_295 (aSeek xc_295 0) [aR 145, aI a1, aI a2, aI a3, aU, aU] [] (SH L) M o := by
    obtain ⟨M1, v2, k8, h⟩ := h
    have h2 : aX xc_295 (aSeek xc_295 7) [aR 145, aI a1, aI a2, aI a3, aU, aU] [aI v2] (SH L) M1 o := by
      by_cases cc : v2 = 0
      · replace h := h.1 cc
        have t9 : aX xc_295 (aSeek xc_295 29) [aR 145, aI a1, aI a2, aI a3, aU, aU] [] (SH L) M1 o := by
          subst h
          exact ⟨2, rfl⟩
        exact aX_seg 1 (fun n g => ip cc (g)) t9
      · replace h := h.2 cc
        have t10 : aX xc_295 (aSeek xc_295 10) [aR 145, aI a1, aI a2, aI a3, aU, aU] [] (SH L) M1 o := by
          obtain ⟨M3, v4, k11, h⟩ := h
          have h2 : aX xc_295 (aSeek xc_295 17) [aR 145, aI a1, aI a2, aI a3, aU, aU] [aI v4] (SH L) M3 o := by
            by_cases cc : v4 = 0
            · replace h := h.1 cc
              have t12 : aX xc_295 (aSeek xc_295 29) [aR 145, aI a1, aI a2, aI a3, aU, aU] [] (SH L) M3 o := by
                subst h
                exact ⟨2, rfl⟩
              exact aX_seg 1 (fun n g => ip cc (g)) t12
            · replace h := h.2 cc
              have t13 : aX xc_295 (aSeek xc_295 20) [aR 145, aI a1, aI a2, aI a3, aU, aU] [] (SH L) M3 o := by
                obtain ⟨M5, v6, k14, h⟩ := h
                have h2 : aX xc_295 (aSeek xc_295 26) [aR 145, aI a1, aI a2, aI a3, aU, aU] [aI v6] (SH L) M5 o := by
                  by_cases cc : ¬ v6 = 0
                  · replace h := h.1 cc
                    have t15 : aX xc_295 (aSeek xc_295 31) [aR 145, aI a1, aI a2, aI a3, aU, aU] [] (SH L) M5 o := by
                      obtain ⟨M7, k16, h⟩ := h
                      have h2 : aX xc_295 (aSeek xc_295 37) [aR 145, aI a1, aI a2, aI a3, aU, aU] [] (SH L) M7 o := by
                        obtain ⟨c17, h⟩ := h
                        by_cases cc : (M7 205 a2) < 100000000
                        · replace h := h.1 cc
                          have t18 : aX xc_295 (aSeek xc_295 52) [aR 145, aI a1, aI a2, aI a3, aU, aU] [] (SH L) M7 o := by
                            by_cases cc : ¬ a3 = 0
                            · replace h := h.1 cc
                              have t19 : aX xc_295 (aSeek xc_295 63) [aR 145, aI a1, aI a2, aI a3, aU, aU] [] (SH L) M7 o := by
                                exact aX_seg 4 (fun n g => g) (aX_le (ls := [aR 145, aI a1, aU, aI a3, aI a2, aI 0]) (ls1 := [aR 145, aI a1, aI a2, aI a3, aI a2, aI 0]) (⟨Or.inr rfl, ⟨Or.inr rfl, ⟨Or.inl rfl, ⟨Or.inr rfl, ⟨Or.inr rfl, ⟨Or.inr rfl, trivial⟩⟩⟩⟩⟩⟩) h)
                              exact aX_seg 2 (fun n g => ip cc (g)) t19
                            · replace h := h.2 cc
                              have t20 : aX xc_295 (aSeek xc_295 56) [aR 145, aI a1, aI a2, aI a3, aU, aU] [] (SH L) M7 o := by
                                obtain ⟨c21, h⟩ := h
                                subst h
                                exact ⟨5, ip c21 (rfl)⟩
                              exact aX_seg 2 (fun n g => in_ cc (g)) t20
                          exact aX_seg 6 (fun n g => ip c17 (ip cc (g))) t18
                        · replace h := h.2 cc
                          have t22 : aX xc_295 (aSeek xc_295 49) [aR 145, aI a1, aI a2, aI a3, aU, aU] [] (SH L) M7 o := by
                            subst h
                            exact ⟨2, rfl⟩
                          exact aX_seg 6 (fun n g => ip c17 (in_ cc (g))) t22
                      exact aX_seg 3 (fun n g => g) (aX_callv (rfl) rfl rfl rfl k16 h2)
                    exact aX_seg 1 (fun n g => ip cc (g)) t15
                  · replace h := h.2 cc
                    have t23 : aX xc_295 (aSeek xc_295 29) [aR 145, aI a1, aI a2, aI a3, aU, aU] [] (SH L) M5 o := by
                      subst h
                      exact ⟨2, rfl⟩
                    exact aX_seg 1 (fun n g => in_ cc (g)) t23
                exact aX_seg 3 (fun n g => g) (aX_callv (rfl) rfl rfl rfl k14 h2)
              exact aX_seg 1 (fun n g => in_ cc (g)) t13
          exact aX_seg 3 (fun n g => g) (aX_calls rfl rfl rfl k11 h2)
        exact aX_seg 1 (fun n g => in_ cc (g)) t10
    exact aX_seg 3 (fun n g => g) (aX_calls rfl rfl rfl k8 h2)
  exact q
set_option maxRecDepth 100000 in
theorem bl_295_69 {L : Nat} {a1 a3 a4 a5 : Int} {M : aM} {o : aO} (h : (((aDiv (aW (a3 - 10)) 2) < a5 → ((¬ (aRem a3 2) = 0 → o = ([aI (M 145 75)], (SH L), M)) ∧ (¬ (¬ (aRem a3 2) = 0) → o = ([aI (M 145 74)], (SH L), M)))) ∧ (¬ ((aDiv (aW (a3 - 10)) 2) < a5) → (∃ (M1 : aM), aE 294 [aR 145, aI a5, aI a1, aI a4] (SH L) M ([], (SH L), M1) ∧ (0 ≤ a5 ∧ a5 < aLn (SH L) 1 156) ∧ (0 ≤ a5 ∧ a5 < aLn (SH L) 1 155) ∧ aX xc_295 (aSeek xc_295 69) [aR 145, aI a1, aU, aI a3, aI (aW (a4 - (aW ((aW ((M1 145 74) * (M1 156 a5))) + (aW ((M1 145 75) * (M1 155 a5))))))), aI (aW (a5 + 1))] [] (SH L) M1 o)))) : aX xc_295 (aSeek xc_295 69) [aR 145, aI a1, aU, aI a3, aI a4, aI a5] [] (SH L) M o := by
  by_cases cc : (aDiv (aW (a3 - 10)) 2) < a5
  · replace h := h.1 cc
    have t2 : aX xc_295 (aSeek xc_295 125) [aR 145, aI a1, aU, aI a3, aI a4, aI a5] [] (SH L) M o := by
      by_cases cc : ¬ (aRem a3 2) = 0
      · replace h := h.1 cc
        have t3 : aX xc_295 (aSeek xc_295 138) [aR 145, aI a1, aU, aI a3, aI a4, aI a5] [] (SH L) M o := by
          subst h
          exact ⟨3, rfl⟩
        exact aX_seg 4 (fun n g => ip cc (g)) t3
      · replace h := h.2 cc
        have t4 : aX xc_295 (aSeek xc_295 131) [aR 145, aI a1, aU, aI a3, aI a4, aI a5] [] (SH L) M o := by
          subst h
          exact ⟨4, rfl⟩
        exact aX_seg 4 (fun n g => in_ cc (g)) t4
    exact aX_seg 7 (fun n g => ip cc (g)) t2
  · replace h := h.2 cc
    have t5 : aX xc_295 (aSeek xc_295 80) [aR 145, aI a1, aU, aI a3, aI a4, aI a5] [] (SH L) M o := by
      obtain ⟨M1, k6, h⟩ := h
      have h2 : aX xc_295 (aSeek xc_295 89) [aR 145, aI a1, aU, aI a3, aI a4, aI a5] [] (SH L) M1 o := by
        obtain ⟨c7, h⟩ := h
        obtain ⟨c8, h⟩ := h
        exact aX_seg 20 (fun n g => ip c7 (ip c8 (g))) (h)
      exact aX_seg 4 (fun n g => g) (aX_callv (rfl) rfl rfl rfl k6 h2)
    exact aX_seg 7 (fun n g => in_ cc (g)) t5
/- TypeLockModel.addLog(IIII)I -/
set_option maxRecDepth 100000 in
theorem en_296 {L : Nat} {a1 a2 a3 a4 : Int} {M : aM} {o : aO} (h : ((¬ (M 145 48) = 60 → (0 ≤ M 145 48 ∧ M 145 48 < aLn (SH L) 1 186) ∧ (0 ≤ (aSet M 186 (M 145 48) a1) 145 48 ∧ (aSet M 186 (M 145 48) a1) 145 48 < aLn (SH L) 1 187) ∧ (0 ≤ (aSet (aSet M 186 (M 145 48) a1) 187 ((aSet M 186 (M 145 48) a1) 145 48) a2) 145 48 ∧ (aSet (aSet M 186 (M 145 48) a1) 187 ((aSet M 186 (M 145 48) a1) 145 48) a2) 145 48 < aLn (SH L) 1 188) ∧ (0 ≤ (aSet (aSet (aSet M 186 (M 145 48) a1) 187 ((aSet M 186 (M 145 48) a1) 145 48) a2) 188 ((aSet (aSet M 186 (M 145 48) a1) 187 ((aSet M 186 (M 145 48) a1) 145 48) a2) 145 48) a3) 145 48 ∧ (aSet (aSet (aSet M 186 (M 145 48) a1) 187 ((aSet M 186 (M 145 48) a1) 145 48) a2) 188 ((aSet (aSet M 186 (M 145 48) a1) 187 ((aSet M 186 (M 145 48) a1) 145 48) a2) 145 48) a3) 145 48 < aLn (SH L) 1 189) ∧ o = ([aI (aW (((aSet (aSet (aSet (aSet (aSet M 186 (M 145 48) a1) 187 ((aSet M 186 (M 145 48) a1) 145 48) a2) 188 ((aSet (aSet M 186 (M 145 48) a1) 187 ((aSet M 186 (M 145 48) a1) 145 48) a2) 145 48) a3) 189 ((aSet (aSet (aSet M 186 (M 145 48) a1) 187 ((aSet M 186 (M 145 48) a1) 145 48) a2) 188 ((aSet (aSet M 186 (M 145 48) a1) 187 ((aSet M 186 (M 145 48) a1) 145 48) a2) 145 48) a3) 145 48) a4) 145 48 (aW (((aSet (aSet (aSet (aSet M 186 (M 145 48) a1) 187 ((aSet M 186 (M 145 48) a1) 145 48) a2) 188 ((aSet (aSet M 186 (M 145 48) a1) 187 ((aSet M 186 (M 145 48) a1) 145 48) a2) 145 48) a3) 189 ((aSet (aSet (aSet M 186 (M 145 48) a1) 187 ((aSet M 186 (M 145 48) a1) 145 48) a2) 188 ((aSet (aSet M 186 (M 145 48) a1) 187 ((aSet M 186 (M 145 48) a1) 145 48) a2) 145 48) a3) 145 48) a4) 145 48) + 1))) 145 48) - 1))], (SH L), aSet (aSet (aSet (aSet (aSet M 186 (M 145 48) a1) 187 ((aSet M 186 (M 145 48) a1) 145 48) a2) 188 ((aSet (aSet M 186 (M 145 48) a1) 187 ((aSet M 186 (M 145 48) a1) 145 48) a2) 145 48) a3) 189 ((aSet (aSet (aSet M 186 (M 145 48) a1) 187 ((aSet M 186 (M 145 48) a1) 145 48) a2) 188 ((aSet (aSet M 186 (M 145 48) a1) 187 ((aSet M 186 (M 145 48) a1) 145 48) a2) 145 48) a3) 145 48) a4) 145 48 (aW (((aSet (aSet (aSet (aSet M 186 (M 145 48) a1) 187 ((aSet M 186 (M 145 48) a1) 145 48) a2) 188 ((aSet (aSet M 186 (M 145 48) a1) 187 ((aSet M 186 (M 145 48) a1) 145 48) a2) 145 48) a3) 189 ((aSet (aSet (aSet M 186 (M 145 48) a1) 187 ((aSet M 186 (M 145 48) a1) 145 48) a2) 188 ((aSet (aSet M 186 (M 145 48) a1) 187 ((aSet M 186 (M 145 48) a1) 145 48) a2) 145 48) a3) 145 48) a4) 145 48) + 1)))) ∧ (¬ (¬ (M 145 48) = 60) → o = ([aI ((-1))], (SH L), M)))) : aE 296 [aR 145, aI a1, aI a2, aI a3, aI a4] (SH L) M o := by
  have q : aX xc_296 (aSeek xc_296 0) [aR 145, aI a1, aI a2, aI a3, aI a4] [] (SH L) M o := by
    by_cases cc : ¬ (M 145 48) = 60
    · replace h := h.1 cc
      have t1 : aX xc_296 (aSeek xc_296 11) [aR 145, aI a1, aI a2, aI a3, aI a4] [] (SH L) M o := by
        obtain ⟨c2, h⟩ := h
        obtain ⟨c3, h⟩ := h
        obtain ⟨c4, h⟩ := h
        obtain ⟨c5, h⟩ := h
        subst h
        exact ⟨35, ip c2 (ip c3 (ip c4 (ip c5 (rfl))))⟩
      exact aX_seg 4 (fun n g => ip cc (g)) t1
    · replace h := h.2 cc
      have t6 : aX xc_296 (aSeek xc_296 9) [aR 145, aI a1, aI a2, aI a3, aI a4] [] (SH L) M o := by
        subst h
        exact ⟨2, rfl⟩
      exact aX_seg 4 (fun n g => in_ cc (g)) t6
  exact q
/- TypeLockModel.log(IIIZ)I -/
set_option maxRecDepth 100000 in
theorem en_297 {L : Nat} {a1 a2 a3 a4 : Int} {M : aM} {o : aO} (h : (∃ (M1 : aM) (v2 : Int), aE 219 [aI a1, aI 0, aI 99] (SH L) M ([aI v2], (SH L), M1) ∧ ((v2 = 0 → o = ([aI ((-1))], (SH L), M1)) ∧ (¬ (v2 = 0) → (∃ (M3 : aM) (v4 : Int), aE 219 [aI a2, aI 0, aI 13] (SH L) M1 ([aI v4], (SH L), M3) ∧ ((v4 = 0 → o = ([aI ((-1))], (SH L), M3)) ∧ (¬ (v4 = 0) → (∃ (M5 : aM) (v6 : Int), aE 219 [aI a3, aI 0, aI 99] (SH L) M3 ([aI v6], (SH L), M5) ∧ ((v6 = 0 → o = ([aI ((-1))], (SH L), M5)) ∧ (¬ (v6 = 0) → ((a4 = 0 → aX xc_297 (aSeek xc_297 41) [aU, aI a1, aI a2, aI a3, aU] [aI 0, aR 145] (SH L) M5 o) ∧ (¬ (a4 = 0) → aX xc_297 (aSeek xc_297 41) [aU, aI a1, aI a2, aI a3, aU] [aI 1, aR 145] (SH L) M5 o)))))))))))) : aE 297 [aR 145, aI a1, aI a2, aI a3, aI a4] (SH L) M o := by
  have q : aX xc_297 (aSeek xc_297 0) [aR 145, aI a1, aI a2, aI a3, aI a4] [] (SH L) M o := by
    obtain ⟨M1, v2, k7, h⟩ := h
    have h2 : aX xc_297 (aSeek xc_297 7) [aR 145, aI a1, aI a2, aI a3, aI a4] [aI v2] (SH L) M1 o := by
      by_cases cc : v2 = 0
      · replace h := h.1 cc
        have t8 : aX xc_297 (aSeek xc_297 50) [aR 145, aI a1, aI a2, aI a3, aI a4] [] (SH L) M1 o := by
          subst h
          exact ⟨2, rfl⟩
        exact aX_seg 1 (fun n g => ip cc (g)) t8
      · replace h := h.2 cc
        have t9 : aX xc_297 (aSeek xc_297 10) [aR 145, aI a1, aI a2, aI a3, aI a4] [] (SH L) M1 o := by
          obtain ⟨M3, v4, k10, h⟩ := h
          have h2 : aX xc_297 (aSeek xc_297 17) [aR 145, aI a1, aI a2, aI a3, aI a4] [aI v4] (SH L) M3 o := by
            by_cases cc : v4 = 0
            · replace h := h.1 cc
              have t11 : aX xc_297 (aSeek xc_297 50) [aR 145, aI a1, aI a2, aI a3, aI a4] [] (SH L) M3 o := by
                subst h
                exact ⟨2, rfl⟩
              exact aX_seg 1 (fun n g => ip cc (g)) t11
            · replace h := h.2 cc
              have t12 : aX xc_297 (aSeek xc_297 20) [aR 145, aI a1, aI a2, aI a3, aI a4] [] (SH L) M3 o := by
                obtain ⟨M5, v6, k13, h⟩ := h
                have h2 : aX xc_297 (aSeek xc_297 27) [aR 145, aI a1, aI a2, aI a3, aI a4] [aI v6] (SH L) M5 o := by
                  by_cases cc : v6 = 0
                  · replace h := h.1 cc
                    have t14 : aX xc_297 (aSeek xc_297 50) [aR 145, aI a1, aI a2, aI a3, aI a4] [] (SH L) M5 o := by
                      subst h
                      exact ⟨2, rfl⟩
                    exact aX_seg 1 (fun n g => ip cc (g)) t14
                  · replace h := h.2 cc
                    have t15 : aX xc_297 (aSeek xc_297 30) [aR 145, aI a1, aI a2, aI a3, aI a4] [] (SH L) M5 o := by
                      by_cases cc : a4 = 0
                      · replace h := h.1 cc
                        have t16 : aX xc_297 (aSeek xc_297 40) [aR 145, aI a1, aI a2, aI a3, aI a4] [aR 145] (SH L) M5 o := by
                          exact aX_seg 1 (fun n g => g) (aX_le (ls := [aU, aI a1, aI a2, aI a3, aU]) (ls1 := [aR 145, aI a1, aI a2, aI a3, aI a4]) (⟨Or.inl rfl, ⟨Or.inr rfl, ⟨Or.inr rfl, ⟨Or.inr rfl, ⟨Or.inl rfl, trivial⟩⟩⟩⟩⟩) h)
                        exact aX_seg 3 (fun n g => ip cc (g)) t16
                      · replace h := h.2 cc
                        have t17 : aX xc_297 (aSeek xc_297 36) [aR 145, aI a1, aI a2, aI a3, aI a4] [aR 145] (SH L) M5 o := by
                          exact aX_seg 2 (fun n g => g) (aX_le (ls := [aU, aI a1, aI a2, aI a3, aU]) (ls1 := [aR 145, aI a1, aI a2, aI a3, aI a4]) (⟨Or.inl rfl, ⟨Or.inr rfl, ⟨Or.inr rfl, ⟨Or.inr rfl, ⟨Or.inl rfl, trivial⟩⟩⟩⟩⟩) h)
                        exact aX_seg 3 (fun n g => in_ cc (g)) t17
                    exact aX_seg 1 (fun n g => in_ cc (g)) t15
                exact aX_seg 3 (fun n g => g) (aX_calls rfl rfl rfl k13 h2)
              exact aX_seg 1 (fun n g => in_ cc (g)) t12
          exact aX_seg 3 (fun n g => g) (aX_calls rfl rfl rfl k10 h2)
        exact aX_seg 1 (fun n g => in_ cc (g)) t9
    exact aX_seg 3 (fun n g => g) (aX_calls rfl rfl rfl k7 h2)
  exact q
set_option maxRecDepth 100000 in
theorem bl_297_41 {L : Nat} {a1 a2 a3 b0 b1 : Int} {M : aM} {o : aO} (h : (aK (SH L) b0 = 22 ∧ ∃ (M1 : aM) (v2 : Int), aE 296 [aR b0, aI b1, aI a1, aI a2, aI a3] (SH L) M ([aI v2], (SH L), M1) ∧ o = ([aI v2], (SH L), M1))) : aX xc_297 (aSeek xc_297 41) [aU, aI a1, aI a2, aI a3, aU] [aI b1, aR b0] (SH L) M o := by
  obtain ⟨c3, h⟩ := h
  obtain ⟨M1, v2, k4, h⟩ := h
  have h2 : aX xc_297 (aSeek xc_297 47) [aU, aI a1, aI a2, aI a3, aU] [aI v2] (SH L) M1 o := by
    subst h
    exact ⟨2, rfl⟩
  exact aX_seg 3 (fun n g => g) (aX_callv (c3) rfl rfl rfl k4 h2)
/- TypeLockModel.annul(I)I -/
set_option maxRecDepth 100000 in
theorem en_298 {L : Nat} {a1 : Int} {M : aM} {o : aO} (h : (∃ (M1 : aM) (v2 : Int), aE 219 [aI a1, aI 0, aI (aW ((M 145 48) - 1))] (SH L) M ([aI v2], (SH L), M1) ∧ ((v2 = 0 → o = ([aI ((-1))], (SH L), M1)) ∧ (¬ (v2 = 0) → (0 ≤ a1 ∧ a1 < aLn (SH L) 1 186) ∧ (((M1 186 a1) = 2 → o = ([aI ((-1))], (SH L), M1)) ∧ (¬ ((M1 186 a1) = 2) → (∃ (M3 : aM) (v4 : Int), aE 296 [aR 145, aI 2, aI a1, aI ((-1)), aI 0] (SH L) M1 ([aI v4], (SH L), M3) ∧ o = ([aI v4], (SH L), M3)))))))) : aE 298 [aR 145, aI a1] (SH L) M o := by
  have q : aX xc_298 (aSeek xc_298 0) [aR 145, aI a1] [] (SH L) M o := by
    obtain ⟨M1, v2, k5, h⟩ := h
    have h2 : aX xc_298 (aSeek xc_298 11) [aR 145, aI a1] [aI v2] (SH L) M1 o := by
      by_cases cc : v2 = 0
      · replace h := h.1 cc
        have t6 : aX xc_298 (aSeek xc_298 35) [aR 145, aI a1] [] (SH L) M1 o := by
          subst h
          exact ⟨2, rfl⟩
        exact aX_seg 1 (fun n g => ip cc (g)) t6
      · replace h := h.2 cc
        have t7 : aX xc_298 (aSeek xc_298 14) [aR 145, aI a1] [] (SH L) M1 o := by
          obtain ⟨c8, h⟩ := h
          by_cases cc : (M1 186 a1) = 2
          · replace h := h.1 cc
            have t9 : aX xc_298 (aSeek xc_298 35) [aR 145, aI a1] [] (SH L) M1 o := by
              subst h
              exact ⟨2, rfl⟩
            exact aX_seg 6 (fun n g => ip c8 (ip cc (g))) t9
          · replace h := h.2 cc
            have t10 : aX xc_298 (aSeek xc_298 24) [aR 145, aI a1] [] (SH L) M1 o := by
              obtain ⟨M3, v4, k11, h⟩ := h
              have h2 : aX xc_298 (aSeek xc_298 32) [aR 145, aI a1] [aI v4] (SH L) M3 o := by
                subst h
                exact ⟨2, rfl⟩
              exact aX_seg 5 (fun n g => g) (aX_callv (rfl) rfl rfl rfl k11 h2)
            exact aX_seg 6 (fun n g => ip c8 (in_ cc (g))) t10
        exact aX_seg 1 (fun n g => in_ cc (g)) t7
    exact aX_seg 6 (fun n g => g) (aX_calls rfl rfl rfl k5 h2)
  exact q
/- TypeLockModel.isKnown(I)Z -/
set_option maxRecDepth 100000 in
theorem en_299 {L : Nat} {a1 : Int} {M : aM} {o : aO} (h : ((a1 < 0 → o = ([aI 0], (SH L), M)) ∧ (¬ (a1 < 0) → (((M 145 48) < a1 → o = ([aI 0], (SH L), M)) ∧ (¬ ((M 145 48) < a1) → o = ([aI 1], (SH L), M)))))) : aE 299 [aR 145, aI a1] (SH L) M o := by
  have q : aX xc_299 (aSeek xc_299 0) [aR 145, aI a1] [] (SH L) M o := by
    by_cases cc : a1 < 0
    · replace h := h.1 cc
      have t1 : aX xc_299 (aSeek xc_299 16) [aR 145, aI a1] [] (SH L) M o := by
        subst h
        exact ⟨2, rfl⟩
      exact aX_seg 2 (fun n g => ip cc (g)) t1
    · replace h := h.2 cc
      have t2 : aX xc_299 (aSeek xc_299 4) [aR 145, aI a1] [] (SH L) M o := by
        by_cases cc : (M 145 48) < a1
        · replace h := h.1 cc
          have t3 : aX xc_299 (aSeek xc_299 16) [aR 145, aI a1] [] (SH L) M o := by
            subst h
            exact ⟨2, rfl⟩
          exact aX_seg 4 (fun n g => ip cc (g)) t3
        · replace h := h.2 cc
          have t4 : aX xc_299 (aSeek xc_299 12) [aR 145, aI a1] [] (SH L) M o := by
            subst h
            exact ⟨3, rfl⟩
          exact aX_seg 4 (fun n g => in_ cc (g)) t4
      exact aX_seg 2 (fun n g => in_ cc (g)) t2
  exact q
/- TypeLockModel.isLive(II)Z -/
set_option maxRecDepth 100000 in
theorem en_300 {L : Nat} {a1 a2 : Int} {M : aM} {o : aO} (h : aX xc_300 (aSeek xc_300 4) [aR 145, aI a1, aI a2, aI (aW (a1 + 1))] [] (SH L) M o) : aE 300 [aR 145, aI a1, aI a2] (SH L) M o := by
  have q : aX xc_300 (aSeek xc_300 0) [aR 145, aI a1, aI a2, aU] [] (SH L) M o := by
    exact aX_seg 4 (fun n g => g) (h)
  exact q
set_option maxRecDepth 100000 in
theorem bl_300_4 {L : Nat} {a1 a2 a3 : Int} {M : aM} {o : aO} (h : ((a2 ≤ a3 → o = ([aI 1], (SH L), M)) ∧ (¬ (a2 ≤ a3) → (0 ≤ a3 ∧ a3 < aLn (SH L) 1 186) ∧ ((¬ (M 186 a3) = 2 → aX xc_300 (aSeek xc_300 31) [aR 145, aI a1, aI a2, aI a3] [] (SH L) M o) ∧ (¬ (¬ (M 186 a3) = 2) → (0 ≤ a3 ∧ a3 < aLn (SH L) 1 187) ∧ ((¬ (M 187 a3) = a1 → aX xc_300 (aSeek xc_300 31) [aR 145, aI a1, aI a2, aI a3] [] (SH L) M o) ∧ (¬ (¬ (M 187 a3) = a1) → o = ([aI 0], (SH L), M)))))))) : aX xc_300 (aSeek xc_300 4) [aR 145, aI a1, aI a2, aI a3] [] (SH L) M o := by
  by_cases cc : a2 ≤ a3
  · replace h := h.1 cc
    have t1 : aX xc_300 (aSeek xc_300 37) [aR 145, aI a1, aI a2, aI a3] [] (SH L) M o := by
      subst h
      exact ⟨2, rfl⟩
    exact aX_seg 3 (fun n g => ip cc (g)) t1
  · replace h := h.2 cc
    have t2 : aX xc_300 (aSeek xc_300 9) [aR 145, aI a1, aI a2, aI a3] [] (SH L) M o := by
      obtain ⟨c3, h⟩ := h
      by_cases cc : ¬ (M 186 a3) = 2
      · replace h := h.1 cc
        have t4 : aX xc_300 (aSeek xc_300 31) [aR 145, aI a1, aI a2, aI a3] [] (SH L) M o := by
          exact h
        exact aX_seg 6 (fun n g => ip c3 (ip cc (g))) t4
      · replace h := h.2 cc
        have t5 : aX xc_300 (aSeek xc_300 19) [aR 145, aI a1, aI a2, aI a3] [] (SH L) M o := by
          obtain ⟨c6, h⟩ := h
          by_cases cc : ¬ (M 187 a3) = a1
          · replace h := h.1 cc
            have t7 : aX xc_300 (aSeek xc_300 31) [aR 145, aI a1, aI a2, aI a3] [] (SH L) M o := by
              exact h
            exact aX_seg 6 (fun n g => ip c6 (ip cc (g))) t7
          · replace h := h.2 cc
            have t8 : aX xc_300 (aSeek xc_300 29) [aR 145, aI a1, aI a2, aI a3] [] (SH L) M o := by
              subst h
              exact ⟨2, rfl⟩
            exact aX_seg 6 (fun n g => ip c6 (in_ cc (g))) t8
        exact aX_seg 6 (fun n g => ip c3 (in_ cc (g))) t5
    exact aX_seg 3 (fun n g => in_ cc (g)) t2
set_option maxRecDepth 100000 in
theorem bl_300_31 {L : Nat} {a1 a2 a3 : Int} {M : aM} {o : aO} (h : aX xc_300 (aSeek xc_300 4) [aR 145, aI a1, aI a2, aI (aW (a3 + 1))] [] (SH L) M o) : aX xc_300 (aSeek xc_300 31) [aR 145, aI a1, aI a2, aI a3] [] (SH L) M o := by
  exact aX_seg 2 (fun n g => g) (h)
/- TypeLockModel.lackOf(III)I -/
set_option maxRecDepth 100000 in
theorem en_301 {L : Nat} {a1 a2 a3 : Int} {M : aM} {o : aO} (h : (0 ≤ a2 ∧ a2 < aLn (SH L) 1 157) ∧ aX xc_301 (aSeek xc_301 12) [aR 145, aI a1, aI a2, aI a3, aI (aW (-(M 157 a2))), aI 0] [] (SH L) M o) : aE 301 [aR 145, aI a1, aI a2, aI a3] (SH L) M o := by
  have q : aX xc_301 (aSeek xc_301 0) [aR 145, aI a1, aI a2, aI a3, aU, aU] [] (SH L) M o := by
    obtain ⟨c1, h⟩ := h
    exact aX_seg 8 (fun n g => ip c1 (g)) (h)
  exact q
set_option maxRecDepth 100000 in
theorem bl_301_12 {L : Nat} {a1 a2 a3 a4 a5 : Int} {M : aM} {o : aO} (h : ((a3 ≤ a5 → ((0 ≤ a4 → o = ([aI a4], (SH L), M)) ∧ (¬ (0 ≤ a4) → o = ([aI 0], (SH L), M)))) ∧ (¬ (a3 ≤ a5) → (0 ≤ a5 ∧ a5 < aLn (SH L) 1 186) ∧ (((M 186 a5) = 2 → aX xc_301 (aSeek xc_301 120) [aR 145, aI a1, aI a2, aI a3, aI a4, aI a5] [] (SH L) M o) ∧ (¬ ((M 186 a5) = 2) → (0 ≤ a5 ∧ a5 < aLn (SH L) 1 188) ∧ ((¬ (M 188 a5) = a2 → aX xc_301 (aSeek xc_301 120) [aR 145, aI a1, aI a2, aI a3, aI a4, aI a5] [] (SH L) M o) ∧ (¬ (¬ (M 188 a5) = a2) → (∃ (M1 : aM) (v2 : Int), aE 300 [aR 145, aI a5, aI a3] (SH L) M ([aI v2], (SH L), M1) ∧ ((¬ v2 = 0 → (0 ≤ a5 ∧ a5 < aLn (SH L) 1 186) ∧ ((¬ (M1 186 a5) = 0 → aX xc_301 (aSeek xc_301 86) [aR 145, aI a1, aI a2, aI a3, aI a4, aI a5] [] (SH L) M1 o) ∧ (¬ (¬ (M1 186 a5) = 0) → (0 ≤ a5 ∧ a5 < aLn (SH L) 1 187) ∧ ((¬ (M1 187 a5) = a1 → aX xc_301 (aSeek xc_301 86) [aR 145, aI a1, aI a2, aI a3, aI a4, aI a5] [] (SH L) M1 o) ∧ (¬ (¬ (M1 187 a5) = a1) → (0 ≤ a5 ∧ a5 < aLn (SH L) 1 189) ∧ aX xc_301 (aSeek xc_301 86) [aR 145, aI a1, aI a2, aI a3, aI (aW (a4 + (M1 189 a5))), aI a5] [] (SH L) M1 o))))) ∧ (¬ (¬ v2 = 0) → aX xc_301 (aSeek xc_301 120) [aR 145, aI a1, aI a2, aI a3, aI a4, aI a5] [] (SH L) M1 o)))))))))) : aX xc_301 (aSeek xc_301 12) [aR 145, aI a1, aI a2, aI a3, aI a4, aI a5] [] (SH L) M o := by
  by_cases cc : a3 ≤ a5
  · replace h := h.1 cc
    have t3 : aX xc_301 (aSeek xc_301 126) [aR 145, aI a1, aI a2, aI a3, aI a4, aI a5] [] (SH L) M o := by
      by_cases cc : 0 ≤ a4
      · replace h := h.1 cc
        have t4 : aX xc_301 (aSeek xc_301 135) [aR 145, aI a1, aI a2, aI a3, aI a4, aI a5] [] (SH L) M o := by
          subst h
          exact ⟨2, rfl⟩
        exact aX_seg 2 (fun n g => ip cc (g)) t4
      · replace h := h.2 cc
        have t5 : aX xc_301 (aSeek xc_301 131) [aR 145, aI a1, aI a2, aI a3, aI a4, aI a5] [] (SH L) M o := by
          subst h
          exact ⟨3, rfl⟩
        exact aX_seg 2 (fun n g => in_ cc (g)) t5
    exact aX_seg 3 (fun n g => ip cc (g)) t3
  · replace h := h.2 cc
    have t6 : aX xc_301 (aSeek xc_301 18) [aR 145, aI a1, aI a2, aI a3, aI a4, aI a5] [] (SH L) M o := by
      obtain ⟨c7, h⟩ := h
      by_cases cc : (M 186 a5) = 2
      · replace h := h.1 cc
        have t8 : aX xc_301 (aSeek xc_301 120) [aR 145, aI a1, aI a2, aI a3, aI a4, aI a5] [] (SH L) M o := by
          exact h
        exact aX_seg 6 (fun n g => ip c7 (ip cc (g))) t8
      · replace h := h.2 cc
        have t9 : aX xc_301 (aSeek xc_301 29) [aR 145, aI a1, aI a2, aI a3, aI a4, aI a5] [] (SH L) M o := by
          obtain ⟨c10, h⟩ := h
          by_cases cc : ¬ (M 188 a5) = a2
          · replace h := h.1 cc
            have t11 : aX xc_301 (aSeek xc_301 120) [aR 145, aI a1, aI a2, aI a3, aI a4, aI a5] [] (SH L) M o := by
              exact h
            exact aX_seg 6 (fun n g => ip c10 (ip cc (g))) t11
          · replace h := h.2 cc
            have t12 : aX xc_301 (aSeek xc_301 40) [aR 145, aI a1, aI a2, aI a3, aI a4, aI a5] [] (SH L) M o := by
              obtain ⟨M1, v2, k13, h⟩ := h
              have h2 : aX xc_301 (aSeek xc_301 47) [aR 145, aI a1, aI a2, aI a3, aI a4, aI a5] [aI v2] (SH L) M1 o := by
                by_cases cc : ¬ v2 = 0
                · replace h := h.1 cc
                  have t14 : aX xc_301 (aSeek xc_301 53) [aR 145, aI a1, aI a2, aI a3, aI a4, aI a5] [] (SH L) M1 o := by
                    obtain ⟨c15, h⟩ := h
                    by_cases cc : ¬ (M1 186 a5) = 0
                    · replace h := h.1 cc
                      have t16 : aX xc_301 (aSeek xc_301 86) [aR 145, aI a1, aI a2, aI a3, aI a4, aI a5] [] (SH L) M1 o := by
                        exact h
                      exact aX_seg 5 (fun n g => ip c15 (ip cc (g))) t16
                    · replace h := h.2 cc
                      have t17 : aX xc_301 (aSeek xc_301 63) [aR 145, aI a1, aI a2, aI a3, aI a4, aI a5] [] (SH L) M1 o := by
                        obtain ⟨c18, h⟩ := h
                        by_cases cc : ¬ (M1 187 a5) = a1
                        · replace h := h.1 cc
                          have t19 : aX xc_301 (aSeek xc_301 86) [aR 145, aI a1, aI a2, aI a3, aI a4, aI a5] [] (SH L) M1 o := by
                            exact h
                          exact aX_seg 6 (fun n g => ip c18 (ip cc (g))) t19
                        · replace h := h.2 cc
                          have t20 : aX xc_301 (aSeek xc_301 74) [aR 145, aI a1, aI a2, aI a3, aI a4, aI a5] [] (SH L) M1 o := by
                            obtain ⟨c21, h⟩ := h
                            exact aX_seg 7 (fun n g => ip c21 (g)) (h)
                          exact aX_seg 6 (fun n g => ip c18 (in_ cc (g))) t20
                      exact aX_seg 5 (fun n g => ip c15 (in_ cc (g))) t17
                  exact aX_seg 1 (fun n g => ip cc (g)) t14
                · replace h := h.2 cc
                  have t22 : aX xc_301 (aSeek xc_301 50) [aR 145, aI a1, aI a2, aI a3, aI a4, aI a5] [] (SH L) M1 o := by
                    exact aX_seg 1 (fun n g => g) (h)
                  exact aX_seg 1 (fun n g => in_ cc (g)) t22
              exact aX_seg 3 (fun n g => g) (aX_callv (rfl) rfl rfl rfl k13 h2)
            exact aX_seg 6 (fun n g => ip c10 (in_ cc (g))) t12
        exact aX_seg 6 (fun n g => ip c7 (in_ cc (g))) t9
    exact aX_seg 3 (fun n g => in_ cc (g)) t6
set_option maxRecDepth 100000 in
theorem bl_301_86 {L : Nat} {a1 a2 a3 a4 a5 : Int} {M : aM} {o : aO} (h : (0 ≤ a5 ∧ a5 < aLn (SH L) 1 186) ∧ ((¬ (M 186 a5) = 1 → aX xc_301 (aSeek xc_301 120) [aR 145, aI a1, aI a2, aI a3, aI a4, aI a5] [] (SH L) M o) ∧ (¬ (¬ (M 186 a5) = 1) → (0 ≤ a5 ∧ a5 < aLn (SH L) 1 187) ∧ ((a1 < (M 187 a5) → aX xc_301 (aSeek xc_301 120) [aR 145, aI a1, aI a2, aI a3, aI a4, aI a5] [] (SH L) M o) ∧ (¬ (a1 < (M 187 a5)) → (0 ≤ a5 ∧ a5 < aLn (SH L) 1 189) ∧ aX xc_301 (aSeek xc_301 120) [aR 145, aI a1, aI a2, aI a3, aI (aW (a4 - (M 189 a5))), aI a5] [] (SH L) M o))))) : aX xc_301 (aSeek xc_301 86) [aR 145, aI a1, aI a2, aI a3, aI a4, aI a5] [] (SH L) M o := by
  obtain ⟨c1, h⟩ := h
  by_cases cc : ¬ (M 186 a5) = 1
  · replace h := h.1 cc
    have t2 : aX xc_301 (aSeek xc_301 120) [aR 145, aI a1, aI a2, aI a3, aI a4, aI a5] [] (SH L) M o := by
      exact h
    exact aX_seg 6 (fun n g => ip c1 (ip cc (g))) t2
  · replace h := h.2 cc
    have t3 : aX xc_301 (aSeek xc_301 97) [aR 145, aI a1, aI a2, aI a3, aI a4, aI a5] [] (SH L) M o := by
      obtain ⟨c4, h⟩ := h
      by_cases cc : a1 < (M 187 a5)
      · replace h := h.1 cc
        have t5 : aX xc_301 (aSeek xc_301 120) [aR 145, aI a1, aI a2, aI a3, aI a4, aI a5] [] (SH L) M o := by
          exact h
        exact aX_seg 6 (fun n g => ip c4 (ip cc (g))) t5
      · replace h := h.2 cc
        have t6 : aX xc_301 (aSeek xc_301 108) [aR 145, aI a1, aI a2, aI a3, aI a4, aI a5] [] (SH L) M o := by
          obtain ⟨c7, h⟩ := h
          exact aX_seg 7 (fun n g => ip c7 (g)) (h)
        exact aX_seg 6 (fun n g => ip c4 (in_ cc (g))) t6
    exact aX_seg 6 (fun n g => ip c1 (in_ cc (g))) t3
set_option maxRecDepth 100000 in
theorem bl_301_120 {L : Nat} {a1 a2 a3 a4 a5 : Int} {M : aM} {o : aO} (h : aX xc_301 (aSeek xc_301 12) [aR 145, aI a1, aI a2, aI a3, aI a4, aI (aW (a5 + 1))] [] (SH L) M o) : aX xc_301 (aSeek xc_301 120) [aR 145, aI a1, aI a2, aI a3, aI a4, aI a5] [] (SH L) M o := by
  exact aX_seg 2 (fun n g => g) (h)
/- TypeLockModel.lack(III)I -/
set_option maxRecDepth 100000 in
theorem en_302 {L : Nat} {a1 a2 a3 : Int} {M : aM} {o : aO} (h : (∃ (M1 : aM) (v2 : Int), aE 219 [aI a1, aI 0, aI 99] (SH L) M ([aI v2], (SH L), M1) ∧ ((v2 = 0 → o = ([aI ((-1))], (SH L), M1)) ∧ (¬ (v2 = 0) → (∃ (M3 : aM) (v4 : Int), aE 220 [aR 145, aI a2] (SH L) M1 ([aI v4], (SH L), M3) ∧ ((v4 = 0 → o = ([aI ((-1))], (SH L), M3)) ∧ (¬ (v4 = 0) → (∃ (M5 : aM) (v6 : Int), aE 299 [aR 145, aI a3] (SH L) M3 ([aI v6], (SH L), M5) ∧ ((v6 = 0 → o = ([aI ((-1))], (SH L), M5)) ∧ (¬ (v6 = 0) → (∃ (M7 : aM) (v8 : Int), aE 301 [aR 145, aI a1, aI a2, aI a3] (SH L) M5 ([aI v8], (SH L), M7) ∧ o = ([aI v8], (SH L), M7)))))))))))) : aE 302 [aR 145, aI a1, aI a2, aI a3] (SH L) M o := by
  have q : aX xc_302 (aSeek xc_302 0) [aR 145, aI a1, aI a2, aI a3] [] (SH L) M o := by
    obtain ⟨M1, v2, k9, h⟩ := h
    have h2 : aX xc_302 (aSeek xc_302 7) [aR 145, aI a1, aI a2, aI a3] [aI v2] (SH L) M1 o := by
      by_cases cc : v2 = 0
      · replace h := h.1 cc
        have t10 : aX xc_302 (aSeek xc_302 36) [aR 145, aI a1, aI a2, aI a3] [] (SH L) M1 o := by
          subst h
          exact ⟨2, rfl⟩
        exact aX_seg 1 (fun n g => ip cc (g)) t10
      · replace h := h.2 cc
        have t11 : aX xc_302 (aSeek xc_302 10) [aR 145, aI a1, aI a2, aI a3] [] (SH L) M1 o := by
          obtain ⟨M3, v4, k12, h⟩ := h
          have h2 : aX xc_302 (aSeek xc_302 15) [aR 145, aI a1, aI a2, aI a3] [aI v4] (SH L) M3 o := by
            by_cases cc : v4 = 0
            · replace h := h.1 cc
              have t13 : aX xc_302 (aSeek xc_302 36) [aR 145, aI a1, aI a2, aI a3] [] (SH L) M3 o := by
                subst h
                exact ⟨2, rfl⟩
              exact aX_seg 1 (fun n g => ip cc (g)) t13
            · replace h := h.2 cc
              have t14 : aX xc_302 (aSeek xc_302 18) [aR 145, aI a1, aI a2, aI a3] [] (SH L) M3 o := by
                obtain ⟨M5, v6, k15, h⟩ := h
                have h2 : aX xc_302 (aSeek xc_302 23) [aR 145, aI a1, aI a2, aI a3] [aI v6] (SH L) M5 o := by
                  by_cases cc : v6 = 0
                  · replace h := h.1 cc
                    have t16 : aX xc_302 (aSeek xc_302 36) [aR 145, aI a1, aI a2, aI a3] [] (SH L) M5 o := by
                      subst h
                      exact ⟨2, rfl⟩
                    exact aX_seg 1 (fun n g => ip cc (g)) t16
                  · replace h := h.2 cc
                    have t17 : aX xc_302 (aSeek xc_302 26) [aR 145, aI a1, aI a2, aI a3] [] (SH L) M5 o := by
                      obtain ⟨M7, v8, k18, h⟩ := h
                      have h2 : aX xc_302 (aSeek xc_302 33) [aR 145, aI a1, aI a2, aI a3] [aI v8] (SH L) M7 o := by
                        subst h
                        exact ⟨2, rfl⟩
                      exact aX_seg 4 (fun n g => g) (aX_callv (rfl) rfl rfl rfl k18 h2)
                    exact aX_seg 1 (fun n g => in_ cc (g)) t17
                exact aX_seg 2 (fun n g => g) (aX_callv (rfl) rfl rfl rfl k15 h2)
              exact aX_seg 1 (fun n g => in_ cc (g)) t14
          exact aX_seg 2 (fun n g => g) (aX_callv (rfl) rfl rfl rfl k12 h2)
        exact aX_seg 1 (fun n g => in_ cc (g)) t11
    exact aX_seg 3 (fun n g => g) (aX_calls rfl rfl rfl k9 h2)
  exact q
/- TypeLockModel.worst(I)I -/
set_option maxRecDepth 100000 in
theorem en_303 {L : Nat} {a1 : Int} {M : aM} {o : aO} (h : (∃ (M1 : aM) (v2 : Int), aE 299 [aR 145, aI a1] (SH L) M ([aI v2], (SH L), M1) ∧ ((¬ v2 = 0 → aX xc_303 (aSeek xc_303 18) [aR 145, aI a1, aI ((-2)), aI 0, aI 0, aU, aU] [] (SH L) M1 o) ∧ (¬ (¬ v2 = 0) → o = ([aI ((-1))], (SH L), M1))))) : aE 303 [aR 145, aI a1] (SH L) M o := by
  have q : aX xc_303 (aSeek xc_303 0) [aR 145, aI a1, aU, aU, aU, aU, aU] [] (SH L) M o := by
    obtain ⟨M1, v2, k3, h⟩ := h
    have h2 : aX xc_303 (aSeek xc_303 5) [aR 145, aI a1, aU, aU, aU, aU, aU] [aI v2] (SH L) M1 o := by
      by_cases cc : ¬ v2 = 0
      · replace h := h.1 cc
        have t4 : aX xc_303 (aSeek xc_303 10) [aR 145, aI a1, aU, aU, aU, aU, aU] [] (SH L) M1 o := by
          exact aX_seg 6 (fun n g => g) (h)
        exact aX_seg 1 (fun n g => ip cc (g)) t4
      · replace h := h.2 cc
        have t5 : aX xc_303 (aSeek xc_303 8) [aR 145, aI a1, aU, aU, aU, aU, aU] [] (SH L) M1 o := by
          subst h
          exact ⟨2, rfl⟩
        exact aX_seg 1 (fun n g => in_ cc (g)) t5
    exact aX_seg 2 (fun n g => g) (aX_callv (rfl) rfl rfl rfl k3 h2)
  exact q
set_option maxRecDepth 100000 in
theorem bl_303_18 {L : Nat} {a1 a2 a3 a4 : Int} {M : aM} {o : aO} (h : (((M 153 0) ≤ a4 → o = ([aI a2], (SH L), M)) ∧ (¬ ((M 153 0) ≤ a4) → aX xc_303 (aSeek xc_303 35) [aR 145, aI a1, aI a2, aI a3, aI a4, aI 0, aI 0] [] (SH L) M o))) : aX xc_303 (aSeek xc_303 18) [aR 145, aI a1, aI a2, aI a3, aI a4, aU, aU] [] (SH L) M o := by
  by_cases cc : (M 153 0) ≤ a4
  · replace h := h.1 cc
    have t1 : aX xc_303 (aSeek xc_303 83) [aR 145, aI a1, aI a2, aI a3, aI a4, aU, aU] [] (SH L) M o := by
      subst h
      exact ⟨2, rfl⟩
    exact aX_seg 6 (fun n g => ip cc (g)) t1
  · replace h := h.2 cc
    have t2 : aX xc_303 (aSeek xc_303 29) [aR 145, aI a1, aI a2, aI a3, aI a4, aU, aU] [] (SH L) M o := by
      exact aX_seg 4 (fun n g => g) (h)
    exact aX_seg 6 (fun n g => in_ cc (g)) t2
set_option maxRecDepth 100000 in
theorem bl_303_35 {L : Nat} {a1 a2 a3 a4 a5 a6 : Int} {M : aM} {o : aO} (h : ((100 ≤ a6 → ((a3 < a5 → aX xc_303 (aSeek xc_303 77) [aR 145, aI a1, aI a4, aI a5, aI a4, aU, aU] [] (SH L) M o) ∧ (¬ (a3 < a5) → aX xc_303 (aSeek xc_303 77) [aR 145, aI a1, aI a2, aI a3, aI a4, aU, aU] [] (SH L) M o))) ∧ (¬ (100 ≤ a6) → (∃ (M1 : aM) (v2 : Int), aE 301 [aR 145, aI a6, aI a4, aI a1] (SH L) M ([aI v2], (SH L), M1) ∧ aX xc_303 (aSeek xc_303 35) [aR 145, aI a1, aI a2, aI a3, aI a4, aI (aW (a5 + v2)), aI (aW (a6 + 1))] [] (SH L) M1 o)))) : aX xc_303 (aSeek xc_303 35) [aR 145, aI a1, aI a2, aI a3, aI a4, aI a5, aI a6] [] (SH L) M o := by
  by_cases cc : 100 ≤ a6
  · replace h := h.1 cc
    have t3 : aX xc_303 (aSeek xc_303 62) [aR 145, aI a1, aI a2, aI a3, aI a4, aI a5, aI a6] [] (SH L) M o := by
      by_cases cc : a3 < a5
      · replace h := h.1 cc
        have t4 : aX xc_303 (aSeek xc_303 71) [aR 145, aI a1, aI a2, aI a3, aI a4, aI a5, aI a6] [] (SH L) M o := by
          exact aX_seg 4 (fun n g => g) (aX_le (ls := [aR 145, aI a1, aI a4, aI a5, aI a4, aU, aU]) (ls1 := [aR 145, aI a1, aI a4, aI a5, aI a4, aI a5, aI a6]) (⟨Or.inr rfl, ⟨Or.inr rfl, ⟨Or.inr rfl, ⟨Or.inr rfl, ⟨Or.inr rfl, ⟨Or.inl rfl, ⟨Or.inl rfl, trivial⟩⟩⟩⟩⟩⟩⟩) h)
        exact aX_seg 3 (fun n g => ip cc (g)) t4
      · replace h := h.2 cc
        have t5 : aX xc_303 (aSeek xc_303 68) [aR 145, aI a1, aI a2, aI a3, aI a4, aI a5, aI a6] [] (SH L) M o := by
          exact aX_seg 1 (fun n g => g) (aX_le (ls := [aR 145, aI a1, aI a2, aI a3, aI a4, aU, aU]) (ls1 := [aR 145, aI a1, aI a2, aI a3, aI a4, aI a5, aI a6]) (⟨Or.inr rfl, ⟨Or.inr rfl, ⟨Or.inr rfl, ⟨Or.inr rfl, ⟨Or.inr rfl, ⟨Or.inl rfl, ⟨Or.inl rfl, trivial⟩⟩⟩⟩⟩⟩⟩) h)
        exact aX_seg 3 (fun n g => in_ cc (g)) t5
    exact aX_seg 3 (fun n g => ip cc (g)) t3
  · replace h := h.2 cc
    have t6 : aX xc_303 (aSeek xc_303 42) [aR 145, aI a1, aI a2, aI a3, aI a4, aI a5, aI a6] [] (SH L) M o := by
      obtain ⟨M1, v2, k7, h⟩ := h
      have h2 : aX xc_303 (aSeek xc_303 53) [aR 145, aI a1, aI a2, aI a3, aI a4, aI a5, aI a6] [aI v2, aI a5] (SH L) M1 o := by
        exact aX_seg 4 (fun n g => g) (h)
      exact aX_seg 5 (fun n g => g) (aX_callv (rfl) rfl rfl rfl k7 h2)
    exact aX_seg 3 (fun n g => in_ cc (g)) t6
set_option maxRecDepth 100000 in
theorem bl_303_77 {L : Nat} {a1 a2 a3 a4 : Int} {M : aM} {o : aO} (h : aX xc_303 (aSeek xc_303 18) [aR 145, aI a1, aI a2, aI a3, aI (aW (a4 + 1)), aU, aU] [] (SH L) M o) : aX xc_303 (aSeek xc_303 77) [aR 145, aI a1, aI a2, aI a3, aI a4, aU, aU] [] (SH L) M o := by
  exact aX_seg 2 (fun n g => g) (h)
/- TypeLockModel.beneath(III)V -/
set_option maxRecDepth 100000 in
theorem en_304 {L : Nat} {a1 a2 a3 : Int} {M : aM} {o : aO} (h : (0 ≤ a2 ∧ a2 < aLn (SH L) 1 207) ∧ aX xc_304 (aSeek xc_304 10) [aR 145, aI a1, aI a2, aI a3, aI (aW ((M 207 a2) - 1))] [] (SH L) M o) : aE 304 [aR 145, aI a1, aI a2, aI a3] (SH L) M o := by
  have q : aX xc_304 (aSeek xc_304 0) [aR 145, aI a1, aI a2, aI a3, aU] [] (SH L) M o := by
    obtain ⟨c1, h⟩ := h
    exact aX_seg 7 (fun n g => ip c1 (g)) (h)
  exact q
set_option maxRecDepth 100000 in
theorem bl_304_10 {L : Nat} {a1 a2 a3 a4 : Int} {M : aM} {o : aO} (h : ((a4 < 0 → o = ([], (SH L), M)) ∧ (¬ (a4 < 0) → (0 ≤ a1 ∧ a1 < aLn (SH L) 1 207) ∧ (0 ≤ aW ((aW (16 * a2)) + a4) ∧ aW ((aW (16 * a2)) + a4) < aLn (SH L) 1 206) ∧ (0 ≤ aW ((aW (16 * a1)) + (M 207 a1)) ∧ aW ((aW (16 * a1)) + (M 207 a1)) < aLn (SH L) 1 206) ∧ (0 ≤ a1 ∧ a1 < aLn (SH L) 1 207) ∧ (0 ≤ a1 ∧ a1 < aLn (SH L) 1 207) ∧ aX xc_304 (aSeek xc_304 10) [aR 145, aI a1, aI a2, aI a3, aI (aW (a4 + (-1)))] [] (SH L) (aSet (aSet M 206 (aW ((aW (16 * a1)) + (M 207 a1))) (aXor (M 206 (aW ((aW (16 * a2)) + a4))) a3)) 207 a1 (aW (((aSet M 206 (aW ((aW (16 * a1)) + (M 207 a1))) (aXor (M 206 (aW ((aW (16 * a2)) + a4))) a3)) 207 a1) + 1))) o))) : aX xc_304 (aSeek xc_304 10) [aR 145, aI a1, aI a2, aI a3, aI a4] [] (SH L) M o := by
  by_cases cc : a4 < 0
  · replace h := h.1 cc
    have t1 : aX xc_304 (aSeek xc_304 61) [aR 145, aI a1, aI a2, aI a3, aI a4] [] (SH L) M o := by
      subst h
      exact ⟨1, rfl⟩
    exact aX_seg 2 (fun n g => ip cc (g)) t1
  · replace h := h.2 cc
    have t2 : aX xc_304 (aSeek xc_304 15) [aR 145, aI a1, aI a2, aI a3, aI a4] [] (SH L) M o := by
      obtain ⟨c3, h⟩ := h
      obtain ⟨c4, h⟩ := h
      obtain ⟨c5, h⟩ := h
      obtain ⟨c6, h⟩ := h
      obtain ⟨c7, h⟩ := h
      exact aX_seg 31 (fun n g => ip c3 (ip c4 (ip c5 (ip c6 (ip c7 (g)))))) (h)
    exact aX_seg 2 (fun n g => in_ cc (g)) t2
/- TypeLockModel.folds(I)V -/
set_option maxRecDepth 100000 in
theorem en_305 {L : Nat} {a1 : Int} {M : aM} {o : aO} (h : aX xc_305 (aSeek xc_305 17) [aR 145, aI a1, aI (aShl 1 (aDiv (aW (a1 + 1)) 2)), aI (aShl 1 (aDiv a1 2)), aI 0, aU, aU, aU] [] (SH L) M o) : aE 305 [aR 145, aI a1] (SH L) M o := by
  have q : aX xc_305 (aSeek xc_305 0) [aR 145, aI a1, aU, aU, aU, aU, aU, aU] [] (SH L) M o := by
    exact aX_seg 16 (fun n g => g) (h)
  exact q
set_option maxRecDepth 100000 in
theorem bl_305_17 {L : Nat} {a1 a2 a3 a4 : Int} {M : aM} {o : aO} (h : ((16 ≤ a4 → aX xc_305 (aSeek xc_305 55) [aR 145, aI a1, aI a2, aI a3, aI 0, aU, aU, aU] [] (SH L) M o) ∧ (¬ (16 ≤ a4) → (0 ≤ aW (16 * a4) ∧ aW (16 * a4) < aLn (SH L) 1 206) ∧ (0 ≤ a4 ∧ a4 < aLn (SH L) 1 207) ∧ aX xc_305 (aSeek xc_305 17) [aR 145, aI a1, aI a2, aI a3, aI (aW (a4 + 1)), aU, aU, aU] [] (SH L) (aSet (aSet M 206 (aW (16 * a4)) (aW (4 * a4))) 207 a4 1) o))) : aX xc_305 (aSeek xc_305 17) [aR 145, aI a1, aI a2, aI a3, aI a4, aU, aU, aU] [] (SH L) M o := by
  by_cases cc : 16 ≤ a4
  · replace h := h.1 cc
    have t1 : aX xc_305 (aSeek xc_305 52) [aR 145, aI a1, aI a2, aI a3, aI a4, aU, aU, aU] [] (SH L) M o := by
      exact aX_seg 2 (fun n g => g) (h)
    exact aX_seg 3 (fun n g => ip cc (g)) t1
  · replace h := h.2 cc
    have t2 : aX xc_305 (aSeek xc_305 24) [aR 145, aI a1, aI a2, aI a3, aI a4, aU, aU, aU] [] (SH L) M o := by
      obtain ⟨c3, h⟩ := h
      obtain ⟨c4, h⟩ := h
      exact aX_seg 16 (fun n g => ip c3 (ip c4 (g))) (h)
    exact aX_seg 3 (fun n g => in_ cc (g)) t2
set_option maxRecDepth 100000 in
theorem bl_305_55 {L : Nat} {a1 a2 a3 a4 : Int} {M : aM} {o : aO} (h : ((a1 ≤ a4 → o = ([], (SH L), M)) ∧ (¬ (a1 ≤ a4) → ((¬ (aRem a4 2) = 0 → aX xc_305 (aSeek xc_305 73) [aR 145, aI a1, aI a2, aI a3, aI a4, aU, aU, aU] [aI 0] (SH L) M o) ∧ (¬ (¬ (aRem a4 2) = 0) → aX xc_305 (aSeek xc_305 73) [aR 145, aI a1, aI a2, aI a3, aI a4, aU, aU, aU] [aI 1] (SH L) M o))))) : aX xc_305 (aSeek xc_305 55) [aR 145, aI a1, aI a2, aI a3, aI a4, aU, aU, aU] [] (SH L) M o := by
  by_cases cc : a1 ≤ a4
  · replace h := h.1 cc
    have t1 : aX xc_305 (aSeek xc_305 182) [aR 145, aI a1, aI a2, aI a3, aI a4, aU, aU, aU] [] (SH L) M o := by
      subst h
      exact ⟨1, rfl⟩
    exact aX_seg 3 (fun n g => ip cc (g)) t1
  · replace h := h.2 cc
    have t2 : aX xc_305 (aSeek xc_305 61) [aR 145, aI a1, aI a2, aI a3, aI a4, aU, aU, aU] [] (SH L) M o := by
      by_cases cc : ¬ (aRem a4 2) = 0
      · replace h := h.1 cc
        have t3 : aX xc_305 (aSeek xc_305 72) [aR 145, aI a1, aI a2, aI a3, aI a4, aU, aU, aU] [] (SH L) M o := by
          exact aX_seg 1 (fun n g => g) (h)
        exact aX_seg 4 (fun n g => ip cc (g)) t3
      · replace h := h.2 cc
        have t4 : aX xc_305 (aSeek xc_305 68) [aR 145, aI a1, aI a2, aI a3, aI a4, aU, aU, aU] [] (SH L) M o := by
          exact aX_seg 2 (fun n g => g) (h)
        exact aX_seg 4 (fun n g => in_ cc (g)) t4
    exact aX_seg 3 (fun n g => in_ cc (g)) t2
set_option maxRecDepth 100000 in
theorem bl_305_73 {L : Nat} {a1 a2 a3 a4 b0 : Int} {M : aM} {o : aO} (h : ((b0 = 0 → aX xc_305 (aSeek xc_305 91) [aR 145, aI a1, aI a2, aI (aDiv a3 2), aI a4, aI b0, aU, aU] [] (SH L) M o) ∧ (¬ (b0 = 0) → aX xc_305 (aSeek xc_305 91) [aR 145, aI a1, aI (aDiv a2 2), aI a3, aI a4, aI b0, aU, aU] [] (SH L) M o))) : aX xc_305 (aSeek xc_305 73) [aR 145, aI a1, aI a2, aI a3, aI a4, aU, aU, aU] [aI b0] (SH L) M o := by
  by_cases cc : b0 = 0
  · replace h := h.1 cc
    have t1 : aX xc_305 (aSeek xc_305 87) [aR 145, aI a1, aI a2, aI a3, aI a4, aI b0, aU, aU] [] (SH L) M o := by
      exact aX_seg 4 (fun n g => g) (h)
    exact aX_seg 3 (fun n g => ip cc (g)) t1
  · replace h := h.2 cc
    have t2 : aX xc_305 (aSeek xc_305 80) [aR 145, aI a1, aI a2, aI a3, aI a4, aI b0, aU, aU] [] (SH L) M o := by
      exact aX_seg 5 (fun n g => g) (h)
    exact aX_seg 3 (fun n g => in_ cc (g)) t2
set_option maxRecDepth 100000 in
theorem bl_305_91 {L : Nat} {a1 a2 a3 a4 a5 : Int} {M : aM} {o : aO} (h : aX xc_305 (aSeek xc_305 94) [aR 145, aI a1, aI a2, aI a3, aI a4, aI a5, aI 0, aU] [] (SH L) M o) : aX xc_305 (aSeek xc_305 91) [aR 145, aI a1, aI a2, aI a3, aI a4, aI a5, aU, aU] [] (SH L) M o := by
  exact aX_seg 2 (fun n g => g) (h)
set_option maxRecDepth 100000 in
theorem bl_305_94 {L : Nat} {a1 a2 a3 a4 a5 a6 : Int} {M : aM} {o : aO} (h : ((a2 ≤ a6 → aX xc_305 (aSeek xc_305 55) [aR 145, aI a1, aI a2, aI a3, aI (aW (a4 + 1)), aU, aU, aU] [] (SH L) M o) ∧ (¬ (a2 ≤ a6) → aX xc_305 (aSeek xc_305 103) [aR 145, aI a1, aI a2, aI a3, aI a4, aI a5, aI a6, aI 0] [] (SH L) M o))) : aX xc_305 (aSeek xc_305 94) [aR 145, aI a1, aI a2, aI a3, aI a4, aI a5, aI a6, aU] [] (SH L) M o := by
  by_cases cc : a2 ≤ a6
  · replace h := h.1 cc
    have t1 : aX xc_305 (aSeek xc_305 176) [aR 145, aI a1, aI a2, aI a3, aI a4, aI a5, aI a6, aU] [] (SH L) M o := by
      exact aX_seg 2 (fun n g => g) (aX_le (ls := [aR 145, aI a1, aI a2, aI a3, aI (aW (a4 + 1)), aU, aU, aU]) (ls1 := [aR 145, aI a1, aI a2, aI a3, aI (aW (a4 + 1)), aI a5, aI a6, aU]) (⟨Or.inr rfl, ⟨Or.inr rfl, ⟨Or.inr rfl, ⟨Or.inr rfl, ⟨Or.inr rfl, ⟨Or.inl rfl, ⟨Or.inl rfl, ⟨Or.inl rfl, trivial⟩⟩⟩⟩⟩⟩⟩⟩) h)
    exact aX_seg 3 (fun n g => ip cc (g)) t1
  · replace h := h.2 cc
    have t2 : aX xc_305 (aSeek xc_305 100) [aR 145, aI a1, aI a2, aI a3, aI a4, aI a5, aI a6, aU] [] (SH L) M o := by
      exact aX_seg 2 (fun n g => g) (h)
    exact aX_seg 3 (fun n g => in_ cc (g)) t2
set_option maxRecDepth 100000 in
theorem bl_305_103 {L : Nat} {a1 a2 a3 a4 a5 a6 a7 : Int} {M : aM} {o : aO} (h : ((a3 ≤ a7 → aX xc_305 (aSeek xc_305 94) [aR 145, aI a1, aI a2, aI a3, aI a4, aI a5, aI (aW (a6 + 1)), aU] [] (SH L) M o) ∧ (¬ (a3 ≤ a7) → ((a5 = 0 → aX xc_305 (aSeek xc_305 151) [aR 145, aI a1, aI a2, aI a3, aI a4, aI a5, aI a6, aI a7] [aI (aW ((aW ((aW ((aW (4 * a6)) + (aW (2 * a3)))) - 1)) - a7)), aI (aW ((aW (4 * a6)) + a7)), aR 145] (SH L) M o) ∧ (¬ (a5 = 0) → aX xc_305 (aSeek xc_305 151) [aR 145, aI a1, aI a2, aI a3, aI a4, aI a5, aI a6, aI a7] [aI (aW ((aW (4 * (aW ((aW ((aW (2 * a2)) - 1)) - a6)))) + a7)), aI (aW ((aW (4 * a6)) + a7)), aR 145] (SH L) M o))))) : aX xc_305 (aSeek xc_305 103) [aR 145, aI a1, aI a2, aI a3, aI a4, aI a5, aI a6, aI a7] [] (SH L) M o := by
  by_cases cc : a3 ≤ a7
  · replace h := h.1 cc
    have t1 : aX xc_305 (aSeek xc_305 170) [aR 145, aI a1, aI a2, aI a3, aI a4, aI a5, aI a6, aI a7] [] (SH L) M o := by
      exact aX_seg 2 (fun n g => g) (aX_le (ls := [aR 145, aI a1, aI a2, aI a3, aI a4, aI a5, aI (aW (a6 + 1)), aU]) (ls1 := [aR 145, aI a1, aI a2, aI a3, aI a4, aI a5, aI (aW (a6 + 1)), aI a7]) (⟨Or.inr rfl, ⟨Or.inr rfl, ⟨Or.inr rfl, ⟨Or.inr rfl, ⟨Or.inr rfl, ⟨Or.inr rfl, ⟨Or.inr rfl, ⟨Or.inl rfl, trivial⟩⟩⟩⟩⟩⟩⟩⟩) h)
    exact aX_seg 3 (fun n g => ip cc (g)) t1
  · replace h := h.2 cc
    have t2 : aX xc_305 (aSeek xc_305 109) [aR 145, aI a1, aI a2, aI a3, aI a4, aI a5, aI a6, aI a7] [] (SH L) M o := by
      by_cases cc : a5 = 0
      · replace h := h.1 cc
        have t3 : aX xc_305 (aSeek xc_305 138) [aR 145, aI a1, aI a2, aI a3, aI a4, aI a5, aI a6, aI a7] [aI (aW ((aW (4 * a6)) + a7)), aR 145] (SH L) M o := by
          exact aX_seg 11 (fun n g => g) (h)
        exact aX_seg 8 (fun n g => ip cc (g)) t3
      · replace h := h.2 cc
        have t4 : aX xc_305 (aSeek xc_305 122) [aR 145, aI a1, aI a2, aI a3, aI a4, aI a5, aI a6, aI a7] [aI (aW ((aW (4 * a6)) + a7)), aR 145] (SH L) M o := by
          exact aX_seg 12 (fun n g => g) (h)
        exact aX_seg 8 (fun n g => in_ cc (g)) t4
    exact aX_seg 3 (fun n g => in_ cc (g)) t2
set_option maxRecDepth 100000 in
theorem bl_305_151 {L : Nat} {a1 a2 a3 a4 a5 a6 a7 b0 b1 b2 : Int} {M : aM} {o : aO} (h : ((a5 = 0 → aX xc_305 (aSeek xc_305 161) [aR 145, aI a1, aI a2, aI a3, aI a4, aI a5, aI a6, aI a7] [aI 3, aI b2, aI b1, aR b0] (SH L) M o) ∧ (¬ (a5 = 0) → aX xc_305 (aSeek xc_305 161) [aR 145, aI a1, aI a2, aI a3, aI a4, aI a5, aI a6, aI a7] [aI 1, aI b2, aI b1, aR b0] (SH L) M o))) : aX xc_305 (aSeek xc_305 151) [aR 145, aI a1, aI a2, aI a3, aI a4, aI a5, aI a6, aI a7] [aI b2, aI b1, aR b0] (SH L) M o := by
  by_cases cc : a5 = 0
  · replace h := h.1 cc
    have t1 : aX xc_305 (aSeek xc_305 160) [aR 145, aI a1, aI a2, aI a3, aI a4, aI a5, aI a6, aI a7] [aI b2, aI b1, aR b0] (SH L) M o := by
      exact aX_seg 1 (fun n g => g) (h)
    exact aX_seg 2 (fun n g => ip cc (g)) t1
  · replace h := h.2 cc
    have t2 : aX xc_305 (aSeek xc_305 156) [aR 145, aI a1, aI a2, aI a3, aI a4, aI a5, aI a6, aI a7] [aI b2, aI b1, aR b0] (SH L) M o := by
      exact aX_seg 2 (fun n g => g) (h)
    exact aX_seg 2 (fun n g => in_ cc (g)) t2
set_option maxRecDepth 100000 in
theorem bl_305_161 {L : Nat} {a1 a2 a3 a4 a5 a6 a7 b0 b1 b2 b3 : Int} {M : aM} {o : aO} (h : (aK (SH L) b0 = 22 ∧ ∃ (M1 : aM), aE 304 [aR b0, aI b1, aI b2, aI b3] (SH L) M ([], (SH L), M1) ∧ aX xc_305 (aSeek xc_305 103) [aR 145, aI a1, aI a2, aI a3, aI a4, aI a5, aI a6, aI (aW (a7 + 1))] [] (SH L) M1 o)) : aX xc_305 (aSeek xc_305 161) [aR 145, aI a1, aI a2, aI a3, aI a4, aI a5, aI a6, aI a7] [aI b3, aI b2, aI b1, aR b0] (SH L) M o := by
  obtain ⟨c2, h⟩ := h
  obtain ⟨M1, k3, h⟩ := h
  have h2 : aX xc_305 (aSeek xc_305 164) [aR 145, aI a1, aI a2, aI a3, aI a4, aI a5, aI a6, aI a7] [] (SH L) M1 o := by
    exact aX_seg 2 (fun n g => g) (h)
  exact aX_callv (c2) rfl rfl rfl k3 h2
/- TypeLockModel.pageOf(II)I -/
set_option maxRecDepth 100000 in
theorem en_306 {L : Nat} {a1 a2 : Int} {M : aM} {o : aO} (h : (0 ≤ aDiv a1 2 ∧ aDiv a1 2 < aLn (SH L) 1 206) ∧ ((¬ a2 = 0 → ((¬ a2 = 1 → ((¬ a2 = 2 → o = ([aI (aRem (aDiv (M 206 (aDiv a1 2)) 2) 2)], (SH L), M)) ∧ (¬ (¬ a2 = 2) → o = ([aI (aRem (aW ((M 206 (aDiv a1 2)) + a1)) 2)], (SH L), M)))) ∧ (¬ (¬ a2 = 1) → o = ([aI (aRem (aDiv (M 206 (aDiv a1 2)) 4) 4)], (SH L), M)))) ∧ (¬ (¬ a2 = 0) → o = ([aI (aDiv (M 206 (aDiv a1 2)) 16)], (SH L), M)))) : aE 306 [aR 145, aI a1, aI a2] (SH L) M o := by
  have q : aX xc_306 (aSeek xc_306 0) [aR 145, aI a1, aI a2, aU] [] (SH L) M o := by
    obtain ⟨c1, h⟩ := h
    by_cases cc : ¬ a2 = 0
    · replace h := h.1 cc
      have t2 : aX xc_306 (aSeek xc_306 18) [aR 145, aI a1, aI a2, aI (M 206 (aDiv a1 2))] [] (SH L) M o := by
        by_cases cc : ¬ a2 = 1
        · replace h := h.1 cc
          have t3 : aX xc_306 (aSeek xc_306 29) [aR 145, aI a1, aI a2, aI (M 206 (aDiv a1 2))] [] (SH L) M o := by
            by_cases cc : ¬ a2 = 2
            · replace h := h.1 cc
              have t4 : aX xc_306 (aSeek xc_306 42) [aR 145, aI a1, aI a2, aI (M 206 (aDiv a1 2))] [] (SH L) M o := by
                subst h
                exact ⟨6, rfl⟩
              exact aX_seg 3 (fun n g => ip cc (g)) t4
            · replace h := h.2 cc
              have t5 : aX xc_306 (aSeek xc_306 34) [aR 145, aI a1, aI a2, aI (M 206 (aDiv a1 2))] [] (SH L) M o := by
                subst h
                exact ⟨7, rfl⟩
              exact aX_seg 3 (fun n g => in_ cc (g)) t5
          exact aX_seg 3 (fun n g => ip cc (g)) t3
        · replace h := h.2 cc
          have t6 : aX xc_306 (aSeek xc_306 23) [aR 145, aI a1, aI a2, aI (M 206 (aDiv a1 2))] [] (SH L) M o := by
            subst h
            exact ⟨6, rfl⟩
          exact aX_seg 3 (fun n g => in_ cc (g)) t6
      exact aX_seg 9 (fun n g => ip c1 (ip cc (g))) t2
    · replace h := h.2 cc
      have t7 : aX xc_306 (aSeek xc_306 13) [aR 145, aI a1, aI a2, aI (M 206 (aDiv a1 2))] [] (SH L) M o := by
        subst h
        exact ⟨4, rfl⟩
      exact aX_seg 9 (fun n g => ip c1 (in_ cc (g))) t7
  exact q
/- TypeLockModel.page(III)I -/
set_option maxRecDepth 100000 in
theorem en_307 {L : Nat} {a1 a2 a3 : Int} {M : aM} {o : aO} (h : (∃ (M1 : aM) (v2 : Int), aE 219 [aI a1, aI 0, aI 4] (SH L) M ([aI v2], (SH L), M1) ∧ ((v2 = 0 → o = ([aI ((-1))], (SH L), M1)) ∧ (¬ (v2 = 0) → (∃ (M3 : aM) (v4 : Int), aE 219 [aI a2, aI 0, aI (aW ((aShl 2 a1) - 1))] (SH L) M1 ([aI v4], (SH L), M3) ∧ ((v4 = 0 → o = ([aI ((-1))], (SH L), M3)) ∧ (¬ (v4 = 0) → (∃ (M5 : aM) (v6 : Int), aE 219 [aI a3, aI 0, aI 3] (SH L) M3 ([aI v6], (SH L), M5) ∧ ((¬ v6 = 0 → (∃ (M7 : aM), aE 305 [aR 145, aI a1] (SH L) M5 ([], (SH L), M7) ∧ (∃ (M8 : aM) (v9 : Int), aE 306 [aR 145, aI a2, aI a3] (SH L) M7 ([aI v9], (SH L), M8) ∧ o = ([aI v9], (SH L), M8)))) ∧ (¬ (¬ v6 = 0) → o = ([aI ((-1))], (SH L), M5))))))))))) : aE 307 [aR 145, aI a1, aI a2, aI a3] (SH L) M o := by
  have q : aX xc_307 (aSeek xc_307 0) [aR 145, aI a1, aI a2, aI a3] [] (SH L) M o := by
    obtain ⟨M1, v2, k10, h⟩ := h
    have h2 : aX xc_307 (aSeek xc_307 6) [aR 145, aI a1, aI a2, aI a3] [aI v2] (SH L) M1 o := by
      by_cases cc : v2 = 0
      · replace h := h.1 cc
        have t11 : aX xc_307 (aSeek xc_307 31) [aR 145, aI a1, aI a2, aI a3] [] (SH L) M1 o := by
          subst h
          exact ⟨2, rfl⟩
        exact aX_seg 1 (fun n g => ip cc (g)) t11
      · replace h := h.2 cc
        have t12 : aX xc_307 (aSeek xc_307 9) [aR 145, aI a1, aI a2, aI a3] [] (SH L) M1 o := by
          obtain ⟨M3, v4, k13, h⟩ := h
          have h2 : aX xc_307 (aSeek xc_307 19) [aR 145, aI a1, aI a2, aI a3] [aI v4] (SH L) M3 o := by
            by_cases cc : v4 = 0
            · replace h := h.1 cc
              have t14 : aX xc_307 (aSeek xc_307 31) [aR 145, aI a1, aI a2, aI a3] [] (SH L) M3 o := by
                subst h
                exact ⟨2, rfl⟩
              exact aX_seg 1 (fun n g => ip cc (g)) t14
            · replace h := h.2 cc
              have t15 : aX xc_307 (aSeek xc_307 22) [aR 145, aI a1, aI a2, aI a3] [] (SH L) M3 o := by
                obtain ⟨M5, v6, k16, h⟩ := h
                have h2 : aX xc_307 (aSeek xc_307 28) [aR 145, aI a1, aI a2, aI a3] [aI v6] (SH L) M5 o := by
                  by_cases cc : ¬ v6 = 0
                  · replace h := h.1 cc
                    have t17 : aX xc_307 (aSeek xc_307 33) [aR 145, aI a1, aI a2, aI a3] [] (SH L) M5 o := by
                      obtain ⟨M7, k18, h⟩ := h
                      have h2 : aX xc_307 (aSeek xc_307 38) [aR 145, aI a1, aI a2, aI a3] [] (SH L) M7 o := by
                        obtain ⟨M8, v9, k19, h⟩ := h
                        have h2 : aX xc_307 (aSeek xc_307 44) [aR 145, aI a1, aI a2, aI a3] [aI v9] (SH L) M8 o := by
                          subst h
                          exact ⟨1, rfl⟩
                        exact aX_seg 3 (fun n g => g) (aX_callv (rfl) rfl rfl rfl k19 h2)
                      exact aX_seg 2 (fun n g => g) (aX_callv (rfl) rfl rfl rfl k18 h2)
                    exact aX_seg 1 (fun n g => ip cc (g)) t17
                  · replace h := h.2 cc
                    have t20 : aX xc_307 (aSeek xc_307 31) [aR 145, aI a1, aI a2, aI a3] [] (SH L) M5 o := by
                      subst h
                      exact ⟨2, rfl⟩
                    exact aX_seg 1 (fun n g => in_ cc (g)) t20
                exact aX_seg 3 (fun n g => g) (aX_calls rfl rfl rfl k16 h2)
              exact aX_seg 1 (fun n g => in_ cc (g)) t15
          exact aX_seg 7 (fun n g => g) (aX_calls rfl rfl rfl k13 h2)
        exact aX_seg 1 (fun n g => in_ cc (g)) t12
    exact aX_seg 3 (fun n g => g) (aX_calls rfl rfl rfl k10 h2)
  exact q
/- TypeLockModel.lies(IIII)I -/
set_option maxRecDepth 100000 in
theorem en_308 {L : Nat} {a1 a2 a3 a4 : Int} {M : aM} {o : aO} (h : (∃ (M1 : aM) (v2 : Int), aE 219 [aI a1, aI 0, aI 4] (SH L) M ([aI v2], (SH L), M1) ∧ ((¬ v2 = 0 → (∃ (M3 : aM), aE 305 [aR 145, aI a1] (SH L) M1 ([], (SH L), M3) ∧ aX xc_308 (aSeek xc_308 19) [aR 145, aI a1, aI a2, aI a3, aI a4, aI 0] [] (SH L) M3 o)) ∧ (¬ (¬ v2 = 0) → o = ([aI ((-1))], (SH L), M1))))) : aE 308 [aR 145, aI a1, aI a2, aI a3, aI a4] (SH L) M o := by
  have q : aX xc_308 (aSeek xc_308 0) [aR 145, aI a1, aI a2, aI a3, aI a4, aU] [] (SH L) M o := by
    obtain ⟨M1, v2, k4, h⟩ := h
    have h2 : aX xc_308 (aSeek xc_308 6) [aR 145, aI a1, aI a2, aI a3, aI a4, aU] [aI v2] (SH L) M1 o := by
      by_cases cc : ¬ v2 = 0
      · replace h := h.1 cc
        have t5 : aX xc_308 (aSeek xc_308 11) [aR 145, aI a1, aI a2, aI a3, aI a4, aU] [] (SH L) M1 o := by
          obtain ⟨M3, k6, h⟩ := h
          have h2 : aX xc_308 (aSeek xc_308 16) [aR 145, aI a1, aI a2, aI a3, aI a4, aU] [] (SH L) M3 o := by
            exact aX_seg 2 (fun n g => g) (h)
          exact aX_seg 2 (fun n g => g) (aX_callv (rfl) rfl rfl rfl k6 h2)
        exact aX_seg 1 (fun n g => ip cc (g)) t5
      · replace h := h.2 cc
        have t7 : aX xc_308 (aSeek xc_308 9) [aR 145, aI a1, aI a2, aI a3, aI a4, aU] [] (SH L) M1 o := by
          subst h
          exact ⟨2, rfl⟩
        exact aX_seg 1 (fun n g => in_ cc (g)) t7
    exact aX_seg 3 (fun n g => g) (aX_calls rfl rfl rfl k4 h2)
  exact q
set_option maxRecDepth 100000 in
theorem bl_308_19 {L : Nat} {a1 a2 a3 a4 a5 : Int} {M : aM} {o : aO} (h : (((aShl 2 a1) ≤ a5 → o = ([aI ((-1))], (SH L), M)) ∧ (¬ ((aShl 2 a1) ≤ a5) → (∃ (M1 : aM) (v2 : Int), aE 306 [aR 145, aI a5, aI 0] (SH L) M ([aI v2], (SH L), M1) ∧ ((¬ v2 = a2 → aX xc_308 (aSeek xc_308 64) [aR 145, aI a1, aI a2, aI a3, aI a4, aI a5] [] (SH L) M1 o) ∧ (¬ (¬ v2 = a2) → (∃ (M3 : aM) (v4 : Int), aE 306 [aR 145, aI a5, aI 1] (SH L) M1 ([aI v4], (SH L), M3) ∧ ((¬ v4 = a3 → aX xc_308 (aSeek xc_308 64) [aR 145, aI a1, aI a2, aI a3, aI a4, aI a5] [] (SH L) M3 o) ∧ (¬ (¬ v4 = a3) → (∃ (M5 : aM) (v6 : Int), aE 306 [aR 145, aI a5, aI 2] (SH L) M3 ([aI v6], (SH L), M5) ∧ ((¬ v6 = a4 → aX xc_308 (aSeek xc_308 64) [aR 145, aI a1, aI a2, aI a3, aI a4, aI a5] [] (SH L) M5 o) ∧ (¬ (¬ v6 = a4) → o = ([aI a5], (SH L), M5))))))))))))) : aX xc_308 (aSeek xc_308 19) [aR 145, aI a1, aI a2, aI a3, aI a4, aI a5] [] (SH L) M o := by
  by_cases cc : (aShl 2 a1) ≤ a5
  · replace h := h.1 cc
    have t7 : aX xc_308 (aSeek xc_308 70) [aR 145, aI a1, aI a2, aI a3, aI a4, aI a5] [] (SH L) M o := by
      subst h
      exact ⟨2, rfl⟩
    exact aX_seg 5 (fun n g => ip cc (g)) t7
  · replace h := h.2 cc
    have t8 : aX xc_308 (aSeek xc_308 27) [aR 145, aI a1, aI a2, aI a3, aI a4, aI a5] [] (SH L) M o := by
      obtain ⟨M1, v2, k9, h⟩ := h
      have h2 : aX xc_308 (aSeek xc_308 34) [aR 145, aI a1, aI a2, aI a3, aI a4, aI a5] [aI v2] (SH L) M1 o := by
        by_cases cc : ¬ v2 = a2
        · replace h := h.1 cc
          have t10 : aX xc_308 (aSeek xc_308 64) [aR 145, aI a1, aI a2, aI a3, aI a4, aI a5] [] (SH L) M1 o := by
            exact h
          exact aX_seg 2 (fun n g => ip cc (g)) t10
        · replace h := h.2 cc
          have t11 : aX xc_308 (aSeek xc_308 38) [aR 145, aI a1, aI a2, aI a3, aI a4, aI a5] [] (SH L) M1 o := by
            obtain ⟨M3, v4, k12, h⟩ := h
            have h2 : aX xc_308 (aSeek xc_308 45) [aR 145, aI a1, aI a2, aI a3, aI a4, aI a5] [aI v4] (SH L) M3 o := by
              by_cases cc : ¬ v4 = a3
              · replace h := h.1 cc
                have t13 : aX xc_308 (aSeek xc_308 64) [aR 145, aI a1, aI a2, aI a3, aI a4, aI a5] [] (SH L) M3 o := by
                  exact h
                exact aX_seg 2 (fun n g => ip cc (g)) t13
              · replace h := h.2 cc
                have t14 : aX xc_308 (aSeek xc_308 49) [aR 145, aI a1, aI a2, aI a3, aI a4, aI a5] [] (SH L) M3 o := by
                  obtain ⟨M5, v6, k15, h⟩ := h
                  have h2 : aX xc_308 (aSeek xc_308 56) [aR 145, aI a1, aI a2, aI a3, aI a4, aI a5] [aI v6] (SH L) M5 o := by
                    by_cases cc : ¬ v6 = a4
                    · replace h := h.1 cc
                      have t16 : aX xc_308 (aSeek xc_308 64) [aR 145, aI a1, aI a2, aI a3, aI a4, aI a5] [] (SH L) M5 o := by
                        exact h
                      exact aX_seg 2 (fun n g => ip cc (g)) t16
                    · replace h := h.2 cc
                      have t17 : aX xc_308 (aSeek xc_308 61) [aR 145, aI a1, aI a2, aI a3, aI a4, aI a5] [] (SH L) M5 o := by
                        subst h
                        exact ⟨2, rfl⟩
                      exact aX_seg 2 (fun n g => in_ cc (g)) t17
                  exact aX_seg 3 (fun n g => g) (aX_callv (rfl) rfl rfl rfl k15 h2)
                exact aX_seg 2 (fun n g => in_ cc (g)) t14
            exact aX_seg 3 (fun n g => g) (aX_callv (rfl) rfl rfl rfl k12 h2)
          exact aX_seg 2 (fun n g => in_ cc (g)) t11
      exact aX_seg 3 (fun n g => g) (aX_callv (rfl) rfl rfl rfl k9 h2)
    exact aX_seg 5 (fun n g => in_ cc (g)) t8
set_option maxRecDepth 100000 in
theorem bl_308_64 {L : Nat} {a1 a2 a3 a4 a5 : Int} {M : aM} {o : aO} (h : aX xc_308 (aSeek xc_308 19) [aR 145, aI a1, aI a2, aI a3, aI a4, aI (aW (a5 + 1))] [] (SH L) M o) : aX xc_308 (aSeek xc_308 64) [aR 145, aI a1, aI a2, aI a3, aI a4, aI a5] [] (SH L) M o := by
  exact aX_seg 2 (fun n g => g) (h)
/- TypeLockModel.copy(II)V -/
set_option maxRecDepth 100000 in
theorem en_309 {L : Nat} {a1 a2 : Int} {M : aM} {o : aO} (h : (0 ≤ a1 ∧ a1 < aLn (SH L) 1 179) ∧ (0 ≤ a2 ∧ a2 < aLn (SH L) 1 179) ∧ (0 ≤ a1 ∧ a1 < aLn (SH L) 1 180) ∧ (0 ≤ a2 ∧ a2 < aLn (SH L) 1 180) ∧ aX xc_309 (aSeek xc_309 26) [aR 145, aI a1, aI a2, aI 0] [] (SH L) (aSet (aSet M 179 a2 (M 179 a1)) 180 a2 ((aSet M 179 a2 (M 179 a1)) 180 a1)) o) : aE 309 [aR 145, aI a1, aI a2] (SH L) M o := by
  have q : aX xc_309 (aSeek xc_309 0) [aR 145, aI a1, aI a2, aU] [] (SH L) M o := by
    obtain ⟨c1, h⟩ := h
    obtain ⟨c2, h⟩ := h
    obtain ⟨c3, h⟩ := h
    obtain ⟨c4, h⟩ := h
    exact aX_seg 18 (fun n g => ip c1 (ip c2 (ip c3 (ip c4 (g))))) (h)
  exact q
set_option maxRecDepth 100000 in
theorem bl_309_26 {L : Nat} {a1 a2 a3 : Int} {M : aM} {o : aO} (h : ((40 ≤ a3 → o = ([], (SH L), M)) ∧ (¬ (40 ≤ a3) → (0 ≤ aW ((aW (40 * a1)) + a3) ∧ aW ((aW (40 * a1)) + a3) < aLn (SH L) 1 181) ∧ (0 ≤ aW ((aW (40 * a2)) + a3) ∧ aW ((aW (40 * a2)) + a3) < aLn (SH L) 1 181) ∧ (0 ≤ aW ((aW (40 * a1)) + a3) ∧ aW ((aW (40 * a1)) + a3) < aLn (SH L) 1 182) ∧ (0 ≤ aW ((aW (40 * a2)) + a3) ∧ aW ((aW (40 * a2)) + a3) < aLn (SH L) 1 182) ∧ (0 ≤ aW ((aW (40 * a1)) + a3) ∧ aW ((aW (40 * a1)) + a3) < aLn (SH L) 1 183) ∧ (0 ≤ aW ((aW (40 * a2)) + a3) ∧ aW ((aW (40 * a2)) + a3) < aLn (SH L) 1 183) ∧ (0 ≤ aW ((aW (40 * a1)) + a3) ∧ aW ((aW (40 * a1)) + a3) < aLn (SH L) 4 184) ∧ ((0 ≤ aW ((aW (40 * a2)) + a3) ∧ aW ((aW (40 * a2)) + a3) < aLn (SH L) 4 184) ∧ ((aSet (aSet (aSet M 181 (aW ((aW (40 * a2)) + a3)) (M 181 (aW ((aW (40 * a1)) + a3)))) 182 (aW ((aW (40 * a2)) + a3)) ((aSet M 181 (aW ((aW (40 * a2)) + a3)) (M 181 (aW ((aW (40 * a1)) + a3)))) 182 (aW ((aW (40 * a1)) + a3)))) 183 (aW ((aW (40 * a2)) + a3)) ((aSet (aSet M 181 (aW ((aW (40 * a2)) + a3)) (M 181 (aW ((aW (40 * a1)) + a3)))) 182 (aW ((aW (40 * a2)) + a3)) ((aSet M 181 (aW ((aW (40 * a2)) + a3)) (M 181 (aW ((aW (40 * a1)) + a3)))) 182 (aW ((aW (40 * a1)) + a3)))) 183 (aW ((aW (40 * a1)) + a3)))) 184 (aW ((aW (40 * a1)) + a3)) = 0 ∨ (aSet (aSet (aSet M 181 (aW ((aW (40 * a2)) + a3)) (M 181 (aW ((aW (40 * a1)) + a3)))) 182 (aW ((aW (40 * a2)) + a3)) ((aSet M 181 (aW ((aW (40 * a2)) + a3)) (M 181 (aW ((aW (40 * a1)) + a3)))) 182 (aW ((aW (40 * a1)) + a3)))) 183 (aW ((aW (40 * a2)) + a3)) ((aSet (aSet M 181 (aW ((aW (40 * a2)) + a3)) (M 181 (aW ((aW (40 * a1)) + a3)))) 182 (aW ((aW (40 * a2)) + a3)) ((aSet M 181 (aW ((aW (40 * a2)) + a3)) (M 181 (aW ((aW (40 * a1)) + a3)))) 182 (aW ((aW (40 * a1)) + a3)))) 183 (aW ((aW (40 * a1)) + a3)))) 184 (aW ((aW (40 * a1)) + a3)) = 1)) ∧ aX xc_309 (aSeek xc_309 26) [aR 145, aI a1, aI a2, aI (aW (a3 + 1))] [] (SH L) (aSet (aSet (aSet (aSet M 181 (aW ((aW (40 * a2)) + a3)) (M 181 (aW ((aW (40 * a1)) + a3)))) 182 (aW ((aW (40 * a2)) + a3)) ((aSet M 181 (aW ((aW (40 * a2)) + a3)) (M 181 (aW ((aW (40 * a1)) + a3)))) 182 (aW ((aW (40 * a1)) + a3)))) 183 (aW ((aW (40 * a2)) + a3)) ((aSet (aSet M 181 (aW ((aW (40 * a2)) + a3)) (M 181 (aW ((aW (40 * a1)) + a3)))) 182 (aW ((aW (40 * a2)) + a3)) ((aSet M 181 (aW ((aW (40 * a2)) + a3)) (M 181 (aW ((aW (40 * a1)) + a3)))) 182 (aW ((aW (40 * a1)) + a3)))) 183 (aW ((aW (40 * a1)) + a3)))) 184 (aW ((aW (40 * a2)) + a3)) ((aSet (aSet (aSet M 181 (aW ((aW (40 * a2)) + a3)) (M 181 (aW ((aW (40 * a1)) + a3)))) 182 (aW ((aW (40 * a2)) + a3)) ((aSet M 181 (aW ((aW (40 * a2)) + a3)) (M 181 (aW ((aW (40 * a1)) + a3)))) 182 (aW ((aW (40 * a1)) + a3)))) 183 (aW ((aW (40 * a2)) + a3)) ((aSet (aSet M 181 (aW ((aW (40 * a2)) + a3)) (M 181 (aW ((aW (40 * a1)) + a3)))) 182 (aW ((aW (40 * a2)) + a3)) ((aSet M 181 (aW ((aW (40 * a2)) + a3)) (M 181 (aW ((aW (40 * a1)) + a3)))) 182 (aW ((aW (40 * a1)) + a3)))) 183 (aW ((aW (40 * a1)) + a3)))) 184 (aW ((aW (40 * a1)) + a3)))) o))) : aX xc_309 (aSeek xc_309 26) [aR 145, aI a1, aI a2, aI a3] [] (SH L) M o := by
  by_cases cc : 40 ≤ a3
  · replace h := h.1 cc
    have t1 : aX xc_309 (aSeek xc_309 126) [aR 145, aI a1, aI a2, aI a3] [] (SH L) M o := by
      subst h
      exact ⟨1, rfl⟩
    exact aX_seg 3 (fun n g => ip cc (g)) t1
  · replace h := h.2 cc
    have t2 : aX xc_309 (aSeek xc_309 32) [aR 145, aI a1, aI a2, aI a3] [] (SH L) M o := by
      obtain ⟨c3, h⟩ := h
      obtain ⟨c4, h⟩ := h
      obtain ⟨c5, h⟩ := h
      obtain ⟨c6, h⟩ := h
      obtain ⟨c7, h⟩ := h
      obtain ⟨c8, h⟩ := h
      obtain ⟨c9, h⟩ := h
      obtain ⟨c10, h⟩ := h
      exact aX_seg 66 (fun n g => ip c3 (ip c4 (ip c5 (ip c6 (ip c7 (ip c8 (ip c9 (ip c10 (g))))))))) (h)
    exact aX_seg 3 (fun n g => in_ cc (g)) t2
/- TypeLockModel.hold(I)Z -/
set_option maxRecDepth 100000 in
theorem en_310 {L : Nat} {a1 : Int} {M : aM} {o : aO} (h : ((a1 < 0 → o = ([aI 0], (SH L), M)) ∧ (¬ (a1 < 0) → ((a1 ≤ 2 → (∃ (M1 : aM), aE 309 [aR 145, aI 0, aI (aW (1 + a1))] (SH L) M ([], (SH L), M1) ∧ (0 ≤ aW (1 + a1) ∧ aW (1 + a1) < aLn (SH L) 1 185) ∧ o = ([aI 1], (SH L), aSet M1 185 (aW (1 + a1)) (M1 145 40)))) ∧ (¬ (a1 ≤ 2) → o = ([aI 0], (SH L), M)))))) : aE 310 [aR 145, aI a1] (SH L) M o := by
  have q : aX xc_310 (aSeek xc_310 0) [aR 145, aI a1] [] (SH L) M o := by
    by_cases cc : a1 < 0
    · replace h := h.1 cc
      have t2 : aX xc_310 (aSeek xc_310 9) [aR 145, aI a1] [] (SH L) M o := by
        subst h
        exact ⟨2, rfl⟩
      exact aX_seg 2 (fun n g => ip cc (g)) t2
    · replace h := h.2 cc
      have t3 : aX xc_310 (aSeek xc_310 4) [aR 145, aI a1] [] (SH L) M o := by
        by_cases cc : a1 ≤ 2
        · replace h := h.1 cc
          have t4 : aX xc_310 (aSeek xc_310 11) [aR 145, aI a1] [] (SH L) M o := by
            obtain ⟨M1, k5, h⟩ := h
            have h2 : aX xc_310 (aSeek xc_310 19) [aR 145, aI a1] [] (SH L) M1 o := by
              obtain ⟨c6, h⟩ := h
              subst h
              exact ⟨10, ip c6 (rfl)⟩
            exact aX_seg 5 (fun n g => g) (aX_callv (rfl) rfl rfl rfl k5 h2)
          exact aX_seg 3 (fun n g => ip cc (g)) t4
        · replace h := h.2 cc
          have t7 : aX xc_310 (aSeek xc_310 9) [aR 145, aI a1] [] (SH L) M o := by
            subst h
            exact ⟨2, rfl⟩
          exact aX_seg 3 (fun n g => in_ cc (g)) t7
      exact aX_seg 2 (fun n g => in_ cc (g)) t3
  exact q
/- TypeLockModel.again(I)Z -/
set_option maxRecDepth 100000 in
theorem en_311 {L : Nat} {a1 : Int} {M : aM} {o : aO} (h : ((a1 < 0 → o = ([aI 0], (SH L), M)) ∧ (¬ (a1 < 0) → ((2 < a1 → o = ([aI 0], (SH L), M)) ∧ (¬ (2 < a1) → (0 ≤ aW (1 + a1) ∧ aW (1 + a1) < aLn (SH L) 1 185) ∧ (((M 185 (aW (1 + a1))) = (M 145 40) → (∃ (M1 : aM), aE 309 [aR 145, aI (aW (1 + a1)), aI 0] (SH L) M ([], (SH L), M1) ∧ o = ([aI 1], (SH L), M1))) ∧ (¬ ((M 185 (aW (1 + a1))) = (M 145 40)) → o = ([aI 0], (SH L), M)))))))) : aE 311 [aR 145, aI a1] (SH L) M o := by
  have q : aX xc_311 (aSeek xc_311 0) [aR 145, aI a1] [] (SH L) M o := by
    by_cases cc : a1 < 0
    · replace h := h.1 cc
      have t2 : aX xc_311 (aSeek xc_311 24) [aR 145, aI a1] [] (SH L) M o := by
        subst h
        exact ⟨2, rfl⟩
      exact aX_seg 2 (fun n g => ip cc (g)) t2
    · replace h := h.2 cc
      have t3 : aX xc_311 (aSeek xc_311 4) [aR 145, aI a1] [] (SH L) M o := by
        by_cases cc : 2 < a1
        · replace h := h.1 cc
          have t4 : aX xc_311 (aSeek xc_311 24) [aR 145, aI a1] [] (SH L) M o := by
            subst h
            exact ⟨2, rfl⟩
          exact aX_seg 3 (fun n g => ip cc (g)) t4
        · replace h := h.2 cc
          have t5 : aX xc_311 (aSeek xc_311 9) [aR 145, aI a1] [] (SH L) M o := by
            obtain ⟨c6, h⟩ := h
            by_cases cc : (M 185 (aW (1 + a1))) = (M 145 40)
            · replace h := h.1 cc
              have t7 : aX xc_311 (aSeek xc_311 26) [aR 145, aI a1] [] (SH L) M o := by
                obtain ⟨M1, k8, h⟩ := h
                have h2 : aX xc_311 (aSeek xc_311 34) [aR 145, aI a1] [] (SH L) M1 o := by
                  subst h
                  exact ⟨2, rfl⟩
                exact aX_seg 5 (fun n g => g) (aX_callv (rfl) rfl rfl rfl k8 h2)
              exact aX_seg 9 (fun n g => ip c6 (ip cc (g))) t7
            · replace h := h.2 cc
              have t9 : aX xc_311 (aSeek xc_311 24) [aR 145, aI a1] [] (SH L) M o := by
                subst h
                exact ⟨2, rfl⟩
              exact aX_seg 9 (fun n g => ip c6 (in_ cc (g))) t9
          exact aX_seg 3 (fun n g => in_ cc (g)) t5
      exact aX_seg 2 (fun n g => in_ cc (g)) t3
  exact q
/- TypeLockModel.isAlike(II)Z -/
set_option maxRecDepth 100000 in
theorem en_312 {L : Nat} {a1 a2 : Int} {M : aM} {o : aO} (h : (0 ≤ a1 ∧ a1 < aLn (SH L) 1 181) ∧ (0 ≤ a2 ∧ a2 < aLn (SH L) 1 181) ∧ ((¬ (M 181 a1) = (M 181 a2) → o = ([aI 0], (SH L), M)) ∧ (¬ (¬ (M 181 a1) = (M 181 a2)) → (0 ≤ a1 ∧ a1 < aLn (SH L) 1 182) ∧ (0 ≤ a2 ∧ a2 < aLn (SH L) 1 182) ∧ ((¬ (M 182 a1) = (M 182 a2) → o = ([aI 0], (SH L), M)) ∧ (¬ (¬ (M 182 a1) = (M 182 a2)) → (0 ≤ a1 ∧ a1 < aLn (SH L) 1 183) ∧ (0 ≤ a2 ∧ a2 < aLn (SH L) 1 183) ∧ ((¬ (M 183 a1) = (M 183 a2) → o = ([aI 0], (SH L), M)) ∧ (¬ (¬ (M 183 a1) = (M 183 a2)) → (0 ≤ a1 ∧ a1 < aLn (SH L) 4 184) ∧ (0 ≤ a2 ∧ a2 < aLn (SH L) 4 184) ∧ ((¬ (M 184 a1) = (M 184 a2) → o = ([aI 0], (SH L), M)) ∧ (¬ (¬ (M 184 a1) = (M 184 a2)) → o = ([aI 1], (SH L), M)))))))))) : aE 312 [aR 145, aI a1, aI a2] (SH L) M o := by
  have q : aX xc_312 (aSeek xc_312 0) [aR 145, aI a1, aI a2] [] (SH L) M o := by
    obtain ⟨c1, h⟩ := h
    obtain ⟨c2, h⟩ := h
    by_cases cc : ¬ (M 181 a1) = (M 181 a2)
    · replace h := h.1 cc
      have t3 : aX xc_312 (aSeek xc_312 64) [aR 145, aI a1, aI a2] [] (SH L) M o := by
        subst h
        exact ⟨2, rfl⟩
      exact aX_seg 9 (fun n g => ip c1 (ip c2 (ip cc (g)))) t3
    · replace h := h.2 cc
      have t4 : aX xc_312 (aSeek xc_312 15) [aR 145, aI a1, aI a2] [] (SH L) M o := by
        obtain ⟨c5, h⟩ := h
        obtain ⟨c6, h⟩ := h
        by_cases cc : ¬ (M 182 a1) = (M 182 a2)
        · replace h := h.1 cc
          have t7 : aX xc_312 (aSeek xc_312 64) [aR 145, aI a1, aI a2] [] (SH L) M o := by
            subst h
            exact ⟨2, rfl⟩
          exact aX_seg 9 (fun n g => ip c5 (ip c6 (ip cc (g)))) t7
        · replace h := h.2 cc
          have t8 : aX xc_312 (aSeek xc_312 30) [aR 145, aI a1, aI a2] [] (SH L) M o := by
            obtain ⟨c9, h⟩ := h
            obtain ⟨c10, h⟩ := h
            by_cases cc : ¬ (M 183 a1) = (M 183 a2)
            · replace h := h.1 cc
              have t11 : aX xc_312 (aSeek xc_312 64) [aR 145, aI a1, aI a2] [] (SH L) M o := by
                subst h
                exact ⟨2, rfl⟩
              exact aX_seg 9 (fun n g => ip c9 (ip c10 (ip cc (g)))) t11
            · replace h := h.2 cc
              have t12 : aX xc_312 (aSeek xc_312 45) [aR 145, aI a1, aI a2] [] (SH L) M o := by
                obtain ⟨c13, h⟩ := h
                obtain ⟨c14, h⟩ := h
                by_cases cc : ¬ (M 184 a1) = (M 184 a2)
                · replace h := h.1 cc
                  have t15 : aX xc_312 (aSeek xc_312 64) [aR 145, aI a1, aI a2] [] (SH L) M o := by
                    subst h
                    exact ⟨2, rfl⟩
                  exact aX_seg 9 (fun n g => ip c13 (ip c14 (ip cc (g)))) t15
                · replace h := h.2 cc
                  have t16 : aX xc_312 (aSeek xc_312 60) [aR 145, aI a1, aI a2] [] (SH L) M o := by
                    subst h
                    exact ⟨3, rfl⟩
                  exact aX_seg 9 (fun n g => ip c13 (ip c14 (in_ cc (g)))) t16
              exact aX_seg 9 (fun n g => ip c9 (ip c10 (in_ cc (g)))) t12
          exact aX_seg 9 (fun n g => ip c5 (ip c6 (in_ cc (g)))) t8
      exact aX_seg 9 (fun n g => ip c1 (ip c2 (in_ cc (g)))) t4
  exact q
/- TypeLockModel.tuesday(II)I -/
set_option maxRecDepth 100000 in
theorem en_313 {L : Nat} {a1 a2 : Int} {M : aM} {o : aO} (h : ((a1 < 0 → o = ([aI ((-1))], (SH L), M)) ∧ (¬ (a1 < 0) → ((2 < a1 → o = ([aI ((-1))], (SH L), M)) ∧ (¬ (2 < a1) → (0 ≤ aW (1 + a1) ∧ aW (1 + a1) < aLn (SH L) 1 185) ∧ (((M 185 (aW (1 + a1))) = 0 → o = ([aI ((-1))], (SH L), M)) ∧ (¬ ((M 185 (aW (1 + a1))) = 0) → (∃ (M1 : aM) (v2 : Int), aE 219 [aI a2, aI 0, aI 2] (SH L) M ([aI v2], (SH L), M1) ∧ ((¬ v2 = 0 → aX xc_313 (aSeek xc_313 44) [aR 145, aI a1, aI a2, aI (aW (40 * (aW (1 + a1)))), aI 0, aI 0, aU, aU] [] (SH L) M1 o) ∧ (¬ (¬ v2 = 0) → o = ([aI ((-1))], (SH L), M1))))))))))) : aE 313 [aR 145, aI a1, aI a2] (SH L) M o := by
  have q : aX xc_313 (aSeek xc_313 0) [aR 145, aI a1, aI a2, aU, aU, aU, aU, aU] [] (SH L) M o := by
    by_cases cc : a1 < 0
    · replace h := h.1 cc
      have t3 : aX xc_313 (aSeek xc_313 29) [aR 145, aI a1, aI a2, aU, aU, aU, aU, aU] [] (SH L) M o := by
        subst h
        exact ⟨2, rfl⟩
      exact aX_seg 2 (fun n g => ip cc (g)) t3
    · replace h := h.2 cc
      have t4 : aX xc_313 (aSeek xc_313 4) [aR 145, aI a1, aI a2, aU, aU, aU, aU, aU] [] (SH L) M o := by
        by_cases cc : 2 < a1
        · replace h := h.1 cc
          have t5 : aX xc_313 (aSeek xc_313 29) [aR 145, aI a1, aI a2, aU, aU, aU, aU, aU] [] (SH L) M o := by
            subst h
            exact ⟨2, rfl⟩
          exact aX_seg 3 (fun n g => ip cc (g)) t5
        · replace h := h.2 cc
          have t6 : aX xc_313 (aSeek xc_313 9) [aR 145, aI a1, aI a2, aU, aU, aU, aU, aU] [] (SH L) M o := by
            obtain ⟨c7, h⟩ := h
            by_cases cc : (M 185 (aW (1 + a1))) = 0
            · replace h := h.1 cc
              have t8 : aX xc_313 (aSeek xc_313 29) [aR 145, aI a1, aI a2, aU, aU, aU, aU, aU] [] (SH L) M o := by
                subst h
                exact ⟨2, rfl⟩
              exact aX_seg 7 (fun n g => ip c7 (ip cc (g))) t8
            · replace h := h.2 cc
              have t9 : aX xc_313 (aSeek xc_313 20) [aR 145, aI a1, aI a2, aU, aU, aU, aU, aU] [] (SH L) M o := by
                obtain ⟨M1, v2, k10, h⟩ := h
                have h2 : aX xc_313 (aSeek xc_313 26) [aR 145, aI a1, aI a2, aU, aU, aU, aU, aU] [aI v2] (SH L) M1 o := by
                  by_cases cc : ¬ v2 = 0
                  · replace h := h.1 cc
                    have t11 : aX xc_313 (aSeek xc_313 31) [aR 145, aI a1, aI a2, aU, aU, aU, aU, aU] [] (SH L) M1 o := by
                      exact aX_seg 10 (fun n g => g) (h)
                    exact aX_seg 1 (fun n g => ip cc (g)) t11
                  · replace h := h.2 cc
                    have t12 : aX xc_313 (aSeek xc_313 29) [aR 145, aI a1, aI a2, aU, aU, aU, aU, aU] [] (SH L) M1 o := by
                      subst h
                      exact ⟨2, rfl⟩
                    exact aX_seg 1 (fun n g => in_ cc (g)) t12
                exact aX_seg 3 (fun n g => g) (aX_calls rfl rfl rfl k10 h2)
              exact aX_seg 7 (fun n g => ip c7 (in_ cc (g))) t9
          exact aX_seg 3 (fun n g => in_ cc (g)) t6
      exact aX_seg 2 (fun n g => in_ cc (g)) t4
  exact q
set_option maxRecDepth 100000 in
theorem bl_313_44 {L : Nat} {a1 a2 a3 a4 a5 : Int} {M : aM} {o : aO} (h : ((14 ≤ a5 → aX xc_313 (aSeek xc_313 76) [aR 145, aI a1, aI a2, aI a3, aI a4, aI 0, aU, aU] [] (SH L) M o) ∧ (¬ (14 ≤ a5) → (0 ≤ a5 ∧ a5 < aLn (SH L) 1 208) ∧ (0 ≤ a5 ∧ a5 < aLn (SH L) 1 209) ∧ aX xc_313 (aSeek xc_313 44) [aR 145, aI a1, aI a2, aI a3, aI a4, aI (aW (a5 + 1)), aU, aU] [] (SH L) (aSet (aSet M 208 a5 0) 209 a5 0) o))) : aX xc_313 (aSeek xc_313 44) [aR 145, aI a1, aI a2, aI a3, aI a4, aI a5, aU, aU] [] (SH L) M o := by
  by_cases cc : 14 ≤ a5
  · replace h := h.1 cc
    have t1 : aX xc_313 (aSeek xc_313 73) [aR 145, aI a1, aI a2, aI a3, aI a4, aI a5, aU, aU] [] (SH L) M o := by
      exact aX_seg 2 (fun n g => g) (h)
    exact aX_seg 3 (fun n g => ip cc (g)) t1
  · replace h := h.2 cc
    have t2 : aX xc_313 (aSeek xc_313 51) [aR 145, aI a1, aI a2, aI a3, aI a4, aI a5, aU, aU] [] (SH L) M o := by
      obtain ⟨c3, h⟩ := h
      obtain ⟨c4, h⟩ := h
      exact aX_seg 12 (fun n g => ip c3 (ip c4 (g))) (h)
    exact aX_seg 3 (fun n g => in_ cc (g)) t2
set_option maxRecDepth 100000 in
theorem bl_313_76 {L : Nat} {a1 a2 a3 a4 a5 : Int} {M : aM} {o : aO} (h : (((M 179 0) ≤ a5 → aX xc_313 (aSeek xc_313 112) [aR 145, aI a1, aI a2, aI a3, aI a4, aI 0, aU, aU] [] (SH L) M o) ∧ (¬ ((M 179 0) ≤ a5) → (0 ≤ a5 ∧ a5 < aLn (SH L) 1 181) ∧ (0 ≤ M 181 a5 ∧ M 181 a5 < aLn (SH L) 1 208) ∧ (0 ≤ M 181 a5 ∧ M 181 a5 < aLn (SH L) 1 208) ∧ aX xc_313 (aSeek xc_313 76) [aR 145, aI a1, aI a2, aI a3, aI a4, aI (aW (a5 + 1)), aU, aU] [] (SH L) (aSet M 208 (M 181 a5) (aW ((M 208 (M 181 a5)) + 1))) o))) : aX xc_313 (aSeek xc_313 76) [aR 145, aI a1, aI a2, aI a3, aI a4, aI a5, aU, aU] [] (SH L) M o := by
  by_cases cc : (M 179 0) ≤ a5
  · replace h := h.1 cc
    have t1 : aX xc_313 (aSeek xc_313 109) [aR 145, aI a1, aI a2, aI a3, aI a4, aI a5, aU, aU] [] (SH L) M o := by
      exact aX_seg 2 (fun n g => g) (h)
    exact aX_seg 6 (fun n g => ip cc (g)) t1
  · replace h := h.2 cc
    have t2 : aX xc_313 (aSeek xc_313 87) [aR 145, aI a1, aI a2, aI a3, aI a4, aI a5, aU, aU] [] (SH L) M o := by
      obtain ⟨c3, h⟩ := h
      obtain ⟨c4, h⟩ := h
      obtain ⟨c5, h⟩ := h
      exact aX_seg 13 (fun n g => ip c3 (ip c4 (ip c5 (g)))) (h)
    exact aX_seg 6 (fun n g => in_ cc (g)) t2
set_option maxRecDepth 100000 in
theorem bl_313_112 {L : Nat} {a1 a2 a3 a4 a5 : Int} {M : aM} {o : aO} (h : (0 ≤ aW (1 + a1) ∧ aW (1 + a1) < aLn (SH L) 1 179) ∧ (((M 179 (aW (1 + a1))) ≤ a5 → aX xc_313 (aSeek xc_313 242) [aR 145, aI a1, aI a2, aU, aI a4, aI 0, aI 0, aU] [] (SH L) M o) ∧ (¬ ((M 179 (aW (1 + a1))) ≤ a5) → (0 ≤ aW (a3 + a5) ∧ aW (a3 + a5) < aLn (SH L) 1 181) ∧ (0 ≤ M 181 (aW (a3 + a5)) ∧ M 181 (aW (a3 + a5)) < aLn (SH L) 1 209) ∧ (0 ≤ M 181 (aW (a3 + a5)) ∧ M 181 (aW (a3 + a5)) < aLn (SH L) 1 209) ∧ aX xc_313 (aSeek xc_313 149) [aR 145, aI a1, aI a2, aI a3, aI a4, aI a5, aI 0, aI 0] [] (SH L) (aSet M 209 (M 181 (aW (a3 + a5))) (aW ((M 209 (M 181 (aW (a3 + a5)))) + 1))) o))) : aX xc_313 (aSeek xc_313 112) [aR 145, aI a1, aI a2, aI a3, aI a4, aI a5, aU, aU] [] (SH L) M o := by
  obtain ⟨c1, h⟩ := h
  by_cases cc : (M 179 (aW (1 + a1))) ≤ a5
  · replace h := h.1 cc
    have t2 : aX xc_313 (aSeek xc_313 236) [aR 145, aI a1, aI a2, aI a3, aI a4, aI a5, aU, aU] [] (SH L) M o := by
      exact aX_seg 4 (fun n g => g) (aX_le (ls := [aR 145, aI a1, aI a2, aU, aI a4, aI 0, aI 0, aU]) (ls1 := [aR 145, aI a1, aI a2, aI a3, aI a4, aI 0, aI 0, aU]) (⟨Or.inr rfl, ⟨Or.inr rfl, ⟨Or.inr rfl, ⟨Or.inl rfl, ⟨Or.inr rfl, ⟨Or.inr rfl, ⟨Or.inr rfl, ⟨Or.inl rfl, trivial⟩⟩⟩⟩⟩⟩⟩⟩) h)
    exact aX_seg 8 (fun n g => ip c1 (ip cc (g))) t2
  · replace h := h.2 cc
    have t3 : aX xc_313 (aSeek xc_313 125) [aR 145, aI a1, aI a2, aI a3, aI a4, aI a5, aU, aU] [] (SH L) M o := by
      obtain ⟨c4, h⟩ := h
      obtain ⟨c5, h⟩ := h
      obtain ⟨c6, h⟩ := h
      exact aX_seg 17 (fun n g => ip c4 (ip c5 (ip c6 (g)))) (h)
    exact aX_seg 8 (fun n g => ip c1 (in_ cc (g))) t3
set_option maxRecDepth 100000 in
theorem bl_313_149 {L : Nat} {a1 a2 a3 a4 a5 a6 a7 : Int} {M : aM} {o : aO} (h : (((M 179 0) ≤ a7 → aX xc_313 (aSeek xc_313 183) [aR 145, aI a1, aI a2, aI a3, aI a4, aI a5, aI a6, aU] [] (SH L) M o) ∧ (¬ ((M 179 0) ≤ a7) → ((¬ a6 = 0 → aX xc_313 (aSeek xc_313 183) [aR 145, aI a1, aI a2, aI a3, aI a4, aI a5, aI a6, aU] [] (SH L) M o) ∧ (¬ (¬ a6 = 0) → (∃ (M1 : aM) (v2 : Int), aE 312 [aR 145, aI (aW (a3 + a5)), aI a7] (SH L) M ([aI v2], (SH L), M1) ∧ aX xc_313 (aSeek xc_313 149) [aR 145, aI a1, aI a2, aI a3, aI a4, aI a5, aI v2, aI (aW (a7 + 1))] [] (SH L) M1 o)))))) : aX xc_313 (aSeek xc_313 149) [aR 145, aI a1, aI a2, aI a3, aI a4, aI a5, aI a6, aI a7] [] (SH L) M o := by
  by_cases cc : (M 179 0) ≤ a7
  · replace h := h.1 cc
    have t3 : aX xc_313 (aSeek xc_313 183) [aR 145, aI a1, aI a2, aI a3, aI a4, aI a5, aI a6, aI a7] [] (SH L) M o := by
      exact aX_le (ls := [aR 145, aI a1, aI a2, aI a3, aI a4, aI a5, aI a6, aU]) (ls1 := [aR 145, aI a1, aI a2, aI a3, aI a4, aI a5, aI a6, aI a7]) (⟨Or.inr rfl, ⟨Or.inr rfl, ⟨Or.inr rfl, ⟨Or.inr rfl, ⟨Or.inr rfl, ⟨Or.inr rfl, ⟨Or.inr rfl, ⟨Or.inl rfl, trivial⟩⟩⟩⟩⟩⟩⟩⟩) h
    exact aX_seg 6 (fun n g => ip cc (g)) t3
  · replace h := h.2 cc
    have t4 : aX xc_313 (aSeek xc_313 160) [aR 145, aI a1, aI a2, aI a3, aI a4, aI a5, aI a6, aI a7] [] (SH L) M o := by
      by_cases cc : ¬ a6 = 0
      · replace h := h.1 cc
        have t5 : aX xc_313 (aSeek xc_313 183) [aR 145, aI a1, aI a2, aI a3, aI a4, aI a5, aI a6, aI a7] [] (SH L) M o := by
          exact aX_le (ls := [aR 145, aI a1, aI a2, aI a3, aI a4, aI a5, aI a6, aU]) (ls1 := [aR 145, aI a1, aI a2, aI a3, aI a4, aI a5, aI a6, aI a7]) (⟨Or.inr rfl, ⟨Or.inr rfl, ⟨Or.inr rfl, ⟨Or.inr rfl, ⟨Or.inr rfl, ⟨Or.inr rfl, ⟨Or.inr rfl, ⟨Or.inl rfl, trivial⟩⟩⟩⟩⟩⟩⟩⟩) h
        exact aX_seg 2 (fun n g => ip cc (g)) t5
      · replace h := h.2 cc
        have t6 : aX xc_313 (aSeek xc_313 165) [aR 145, aI a1, aI a2, aI a3, aI a4, aI a5, aI a6, aI a7] [] (SH L) M o := by
          obtain ⟨M1, v2, k7, h⟩ := h
          have h2 : aX xc_313 (aSeek xc_313 175) [aR 145, aI a1, aI a2, aI a3, aI a4, aI a5, aI a6, aI a7] [aI v2] (SH L) M1 o := by
            exact aX_seg 3 (fun n g => g) (h)
          exact aX_seg 5 (fun n g => g) (aX_callv (rfl) rfl rfl rfl k7 h2)
        exact aX_seg 2 (fun n g => in_ cc (g)) t6
    exact aX_seg 6 (fun n g => in_ cc (g)) t4
set_option maxRecDepth 100000 in
theorem bl_313_183 {L : Nat} {a1 a2 a3 a4 a5 a6 : Int} {M : aM} {o : aO} (h : ((¬ a6 = 0 → (0 ≤ aW (a3 + a5) ∧ aW (a3 + a5) < aLn (SH L) 1 181) ∧ (0 ≤ M 181 (aW (a3 + a5)) ∧ M 181 (aW (a3 + a5)) < aLn (SH L) 1 209) ∧ (0 ≤ M 181 (aW (a3 + a5)) ∧ M 181 (aW (a3 + a5)) < aLn (SH L) 1 209) ∧ (0 ≤ aW (a3 + a5) ∧ aW (a3 + a5) < aLn (SH L) 1 181) ∧ (0 ≤ (aSet M 209 (M 181 (aW (a3 + a5))) (aW ((M 209 (M 181 (aW (a3 + a5)))) - 1))) 181 (aW (a3 + a5)) ∧ (aSet M 209 (M 181 (aW (a3 + a5))) (aW ((M 209 (M 181 (aW (a3 + a5)))) - 1))) 181 (aW (a3 + a5)) < aLn (SH L) 1 208) ∧ (0 ≤ (aSet M 209 (M 181 (aW (a3 + a5))) (aW ((M 209 (M 181 (aW (a3 + a5)))) - 1))) 181 (aW (a3 + a5)) ∧ (aSet M 209 (M 181 (aW (a3 + a5))) (aW ((M 209 (M 181 (aW (a3 + a5)))) - 1))) 181 (aW (a3 + a5)) < aLn (SH L) 1 208) ∧ aX xc_313 (aSeek xc_313 230) [aR 145, aI a1, aI a2, aI a3, aI (aW (a4 + 1)), aI a5, aU, aU] [] (SH L) (aSet (aSet M 209 (M 181 (aW (a3 + a5))) (aW ((M 209 (M 181 (aW (a3 + a5)))) - 1))) 208 ((aSet M 209 (M 181 (aW (a3 + a5))) (aW ((M 209 (M 181 (aW (a3 + a5)))) - 1))) 181 (aW (a3 + a5))) (aW (((aSet M 209 (M 181 (aW (a3 + a5))) (aW ((M 209 (M 181 (aW (a3 + a5)))) - 1))) 208 ((aSet M 209 (M 181 (aW (a3 + a5))) (aW ((M 209 (M 181 (aW (a3 + a5)))) - 1))) 181 (aW (a3 + a5)))) - 1))) o) ∧ (¬ (¬ a6 = 0) → aX xc_313 (aSeek xc_313 230) [aR 145, aI a1, aI a2, aI a3, aI a4, aI a5, aU, aU] [] (SH L) M o))) : aX xc_313 (aSeek xc_313 183) [aR 145, aI a1, aI a2, aI a3, aI a4, aI a5, aI a6, aU] [] (SH L) M o := by
  by_cases cc : ¬ a6 = 0
  · replace h := h.1 cc
    have t1 : aX xc_313 (aSeek xc_313 191) [aR 145, aI a1, aI a2, aI a3, aI a4, aI a5, aI a6, aU] [] (SH L) M o := by
      obtain ⟨c2, h⟩ := h
      obtain ⟨c3, h⟩ := h
      obtain ⟨c4, h⟩ := h
      obtain ⟨c5, h⟩ := h
      obtain ⟨c6, h⟩ := h
      obtain ⟨c7, h⟩ := h
      exact aX_seg 27 (fun n g => ip c2 (ip c3 (ip c4 (ip c5 (ip c6 (ip c7 (g))))))) (aX_le (ls := [aR 145, aI a1, aI a2, aI a3, aI (aW (a4 + 1)), aI a5, aU, aU]) (ls1 := [aR 145, aI a1, aI a2, aI a3, aI (aW (a4 + 1)), aI a5, aI a6, aU]) (⟨Or.inr rfl, ⟨Or.inr rfl, ⟨Or.inr rfl, ⟨Or.inr rfl, ⟨Or.inr rfl, ⟨Or.inr rfl, ⟨Or.inl rfl, ⟨Or.inl rfl, trivial⟩⟩⟩⟩⟩⟩⟩⟩) h)
    exact aX_seg 2 (fun n g => ip cc (g)) t1
  · replace h := h.2 cc
    have t8 : aX xc_313 (aSeek xc_313 188) [aR 145, aI a1, aI a2, aI a3, aI a4, aI a5, aI a6, aU] [] (SH L) M o := by
      exact aX_seg 1 (fun n g => g) (aX_le (ls := [aR 145, aI a1, aI a2, aI a3, aI a4, aI a5, aU, aU]) (ls1 := [aR 145, aI a1, aI a2, aI a3, aI a4, aI a5, aI a6, aU]) (⟨Or.inr rfl, ⟨Or.inr rfl, ⟨Or.inr rfl, ⟨Or.inr rfl, ⟨Or.inr rfl, ⟨Or.inr rfl, ⟨Or.inl rfl, ⟨Or.inl rfl, trivial⟩⟩⟩⟩⟩⟩⟩⟩) h)
    exact aX_seg 2 (fun n g => in_ cc (g)) t8
set_option maxRecDepth 100000 in
theorem bl_313_230 {L : Nat} {a1 a2 a3 a4 a5 : Int} {M : aM} {o : aO} (h : aX xc_313 (aSeek xc_313 112) [aR 145, aI a1, aI a2, aI a3, aI a4, aI (aW (a5 + 1)), aU, aU] [] (SH L) M o) : aX xc_313 (aSeek xc_313 230) [aR 145, aI a1, aI a2, aI a3, aI a4, aI a5, aU, aU] [] (SH L) M o := by
  exact aX_seg 2 (fun n g => g) (h)
set_option maxRecDepth 100000 in
theorem bl_313_242 {L : Nat} {a1 a2 a4 a5 a6 : Int} {M : aM} {o : aO} (h : ((14 ≤ a6 → ((¬ a2 = 0 → ((¬ a2 = 1 → (0 ≤ aW (1 + a1) ∧ aW (1 + a1) < aLn (SH L) 1 179) ∧ o = ([aI (aW ((aW ((M 179 (aW (1 + a1))) - a4)) - a5))], (SH L), M)) ∧ (¬ (¬ a2 = 1) → o = ([aI a5], (SH L), M)))) ∧ (¬ (¬ a2 = 0) → o = ([aI a4], (SH L), M)))) ∧ (¬ (14 ≤ a6) → (0 ≤ a6 ∧ a6 < aLn (SH L) 1 208) ∧ (0 ≤ a6 ∧ a6 < aLn (SH L) 1 209) ∧ (((M 209 a6) ≤ (M 208 a6) → (0 ≤ a6 ∧ a6 < aLn (SH L) 1 209) ∧ aX xc_313 (aSeek xc_313 285) [aR 145, aI a1, aI a2, aU, aI a4, aU, aI a6, aU] [aI (M 209 a6), aI a5] (SH L) M o) ∧ (¬ ((M 209 a6) ≤ (M 208 a6)) → (0 ≤ a6 ∧ a6 < aLn (SH L) 1 208) ∧ aX xc_313 (aSeek xc_313 285) [aR 145, aI a1, aI a2, aU, aI a4, aU, aI a6, aU] [aI (M 208 a6), aI a5] (SH L) M o))))) : aX xc_313 (aSeek xc_313 242) [aR 145, aI a1, aI a2, aU, aI a4, aI a5, aI a6, aU] [] (SH L) M o := by
  by_cases cc : 14 ≤ a6
  · replace h := h.1 cc
    have t1 : aX xc_313 (aSeek xc_313 294) [aR 145, aI a1, aI a2, aU, aI a4, aI a5, aI a6, aU] [] (SH L) M o := by
      by_cases cc : ¬ a2 = 0
      · replace h := h.1 cc
        have t2 : aX xc_313 (aSeek xc_313 303) [aR 145, aI a1, aI a2, aU, aI a4, aI a5, aI a6, aU] [] (SH L) M o := by
          by_cases cc : ¬ a2 = 1
          · replace h := h.1 cc
            have t3 : aX xc_313 (aSeek xc_313 313) [aR 145, aI a1, aI a2, aU, aI a4, aI a5, aI a6, aU] [] (SH L) M o := by
              obtain ⟨c4, h⟩ := h
              subst h
              exact ⟨11, ip c4 (rfl)⟩
            exact aX_seg 3 (fun n g => ip cc (g)) t3
          · replace h := h.2 cc
            have t5 : aX xc_313 (aSeek xc_313 308) [aR 145, aI a1, aI a2, aU, aI a4, aI a5, aI a6, aU] [] (SH L) M o := by
              subst h
              exact ⟨3, rfl⟩
            exact aX_seg 3 (fun n g => in_ cc (g)) t5
        exact aX_seg 2 (fun n g => ip cc (g)) t2
      · replace h := h.2 cc
        have t6 : aX xc_313 (aSeek xc_313 298) [aR 145, aI a1, aI a2, aU, aI a4, aI a5, aI a6, aU] [] (SH L) M o := by
          subst h
          exact ⟨3, rfl⟩
        exact aX_seg 2 (fun n g => in_ cc (g)) t6
    exact aX_seg 3 (fun n g => ip cc (g)) t1
  · replace h := h.2 cc
    have t7 : aX xc_313 (aSeek xc_313 249) [aR 145, aI a1, aI a2, aU, aI a4, aI a5, aI a6, aU] [] (SH L) M o := by
      obtain ⟨c8, h⟩ := h
      obtain ⟨c9, h⟩ := h
      by_cases cc : (M 209 a6) ≤ (M 208 a6)
      · replace h := h.1 cc
        have t10 : aX xc_313 (aSeek xc_313 278) [aR 145, aI a1, aI a2, aU, aI a4, aI a5, aI a6, aU] [aI a5] (SH L) M o := by
          obtain ⟨c11, h⟩ := h
          exact aX_seg 4 (fun n g => ip c11 (g)) (aX_le (ls := [aR 145, aI a1, aI a2, aU, aI a4, aU, aI a6, aU]) (ls1 := [aR 145, aI a1, aI a2, aU, aI a4, aI a5, aI a6, aU]) (⟨Or.inr rfl, ⟨Or.inr rfl, ⟨Or.inr rfl, ⟨Or.inl rfl, ⟨Or.inr rfl, ⟨Or.inl rfl, ⟨Or.inr rfl, ⟨Or.inl rfl, trivial⟩⟩⟩⟩⟩⟩⟩⟩) h)
        exact aX_seg 10 (fun n g => ip c8 (ip c9 (ip cc (g)))) t10
      · replace h := h.2 cc
        have t12 : aX xc_313 (aSeek xc_313 268) [aR 145, aI a1, aI a2, aU, aI a4, aI a5, aI a6, aU] [aI a5] (SH L) M o := by
          obtain ⟨c13, h⟩ := h
          exact aX_seg 5 (fun n g => ip c13 (g)) (aX_le (ls := [aR 145, aI a1, aI a2, aU, aI a4, aU, aI a6, aU]) (ls1 := [aR 145, aI a1, aI a2, aU, aI a4, aI a5, aI a6, aU]) (⟨Or.inr rfl, ⟨Or.inr rfl, ⟨Or.inr rfl, ⟨Or.inl rfl, ⟨Or.inr rfl, ⟨Or.inl rfl, ⟨Or.inr rfl, ⟨Or.inl rfl, trivial⟩⟩⟩⟩⟩⟩⟩⟩) h)
        exact aX_seg 10 (fun n g => ip c8 (ip c9 (in_ cc (g)))) t12
    exact aX_seg 3 (fun n g => in_ cc (g)) t7
set_option maxRecDepth 100000 in
theorem bl_313_285 {L : Nat} {a1 a2 a4 a6 b0 b1 : Int} {M : aM} {o : aO} (h : aX xc_313 (aSeek xc_313 242) [aR 145, aI a1, aI a2, aU, aI a4, aI (aW (b0 + b1)), aI (aW (a6 + 1)), aU] [] (SH L) M o) : aX xc_313 (aSeek xc_313 285) [aR 145, aI a1, aI a2, aU, aI a4, aU, aI a6, aU] [aI b1, aI b0] (SH L) M o := by
  exact aX_seg 4 (fun n g => g) (h)
/- TypeLockModel.count(I)I -/
set_option maxRecDepth 100000 in
theorem en_314 {L : Nat} {a1 : Int} {M : aM} {o : aO} (h : ((a1 = 0 → o = ([aI (M 153 0)], (SH L), M)) ∧ (a1 = 1 → o = ([aI (M 159 0)], (SH L), M)) ∧ (a1 = 2 → o = ([aI (M 166 0)], (SH L), M)) ∧ (a1 = 3 → o = ([aI (M 179 0)], (SH L), M)) ∧ (a1 = 4 → o = ([aI (M 145 48)], (SH L), M)) ∧ (a1 = 5 → o = ([aI (M 145 0)], (SH L), M)) ∧ (a1 = 6 → (∃ (M1 : aM) (v2 : Int), aE 274 [aI (M 180 0)] (SH L) M ([aI v2], (SH L), M1) ∧ o = ([aI v2], (SH L), M1))) ∧ (a1 = 7 → (((M 185 1) ≤ 0 → aX xc_314 (aSeek xc_314 122) [aR 145, aU] [aI 0] (SH L) M o) ∧ (¬ ((M 185 1) ≤ 0) → aX xc_314 (aSeek xc_314 122) [aR 145, aU] [aI 1] (SH L) M o))) ∧ (a1 = 8 → o = ([aI (M 151 0)], (SH L), M)) ∧ (a1 = 9 → o = ([aI (M 152 0)], (SH L), M)) ∧ (a1 = 10 → o = ([aI (M 163 0)], (SH L), M)) ∧ (¬ a1 = 0 → ¬ a1 = 1 → ¬ a1 = 2 → ¬ a1 = 3 → ¬ a1 = 4 → ¬ a1 = 5 → ¬ a1 = 6 → ¬ a1 = 7 → ¬ a1 = 8 → ¬ a1 = 9 → ¬ a1 = 10 → (∃ (M3 : aM) (v4 : Int), aE 220 [aR 145, aI (aW (a1 - 20))] (SH L) M ([aI v4], (SH L), M3) ∧ ((v4 = 0 → o = ([aI ((-1))], (SH L), M3)) ∧ (¬ (v4 = 0) → (∃ (M5 : aM) (v6 : Int), aE 226 [aR 145, aI (aW (a1 - 20))] (SH L) M3 ([aI v6], (SH L), M5) ∧ o = ([aI v6], (SH L), M5)))))))) : aE 314 [aR 145, aI a1] (SH L) M o := by
  have q : aX xc_314 (aSeek xc_314 0) [aR 145, aI a1] [] (SH L) M o := by
    by_cases cc0 : a1 = 0
    · replace h := h.1 cc0
      have ee : aTab 0 10 173 #[59, 66, 73, 80, 87, 92, 97, 107, 152, 159, 166] a1 = 59 := by rw [cc0]; rfl
      have t7 : aX xc_314 (aSeek xc_314 60) [aR 145, aI a1] [] (SH L) M o := by
        subst h
        exact ⟨5, rfl⟩
      exact aX_seg 2 (fun n g => (congrArg (fun tt => aRun tgT gP n xc_314 (aSeek xc_314 (aTo 1 tt)) [aR 145, aI a1] [] (SH L) M) ee).trans g) t7
    by_cases cc1 : a1 = 1
    · replace h := h.2.1 cc1
      have ee : aTab 0 10 173 #[59, 66, 73, 80, 87, 92, 97, 107, 152, 159, 166] a1 = 66 := by rw [cc1]; rfl
      have t8 : aX xc_314 (aSeek xc_314 67) [aR 145, aI a1] [] (SH L) M o := by
        subst h
        exact ⟨5, rfl⟩
      exact aX_seg 2 (fun n g => (congrArg (fun tt => aRun tgT gP n xc_314 (aSeek xc_314 (aTo 1 tt)) [aR 145, aI a1] [] (SH L) M) ee).trans g) t8
    by_cases cc2 : a1 = 2
    · replace h := h.2.2.1 cc2
      have ee : aTab 0 10 173 #[59, 66, 73, 80, 87, 92, 97, 107, 152, 159, 166] a1 = 73 := by rw [cc2]; rfl
      have t9 : aX xc_314 (aSeek xc_314 74) [aR 145, aI a1] [] (SH L) M o := by
        subst h
        exact ⟨5, rfl⟩
      exact aX_seg 2 (fun n g => (congrArg (fun tt => aRun tgT gP n xc_314 (aSeek xc_314 (aTo 1 tt)) [aR 145, aI a1] [] (SH L) M) ee).trans g) t9
    by_cases cc3 : a1 = 3
    · replace h := h.2.2.2.1 cc3
      have ee : aTab 0 10 173 #[59, 66, 73, 80, 87, 92, 97, 107, 152, 159, 166] a1 = 80 := by rw [cc3]; rfl
      have t10 : aX xc_314 (aSeek xc_314 81) [aR 145, aI a1] [] (SH L) M o := by
        subst h
        exact ⟨5, rfl⟩
      exact aX_seg 2 (fun n g => (congrArg (fun tt => aRun tgT gP n xc_314 (aSeek xc_314 (aTo 1 tt)) [aR 145, aI a1] [] (SH L) M) ee).trans g) t10
    by_cases cc4 : a1 = 4
    · replace h := h.2.2.2.2.1 cc4
      have ee : aTab 0 10 173 #[59, 66, 73, 80, 87, 92, 97, 107, 152, 159, 166] a1 = 87 := by rw [cc4]; rfl
      have t11 : aX xc_314 (aSeek xc_314 88) [aR 145, aI a1] [] (SH L) M o := by
        subst h
        exact ⟨3, rfl⟩
      exact aX_seg 2 (fun n g => (congrArg (fun tt => aRun tgT gP n xc_314 (aSeek xc_314 (aTo 1 tt)) [aR 145, aI a1] [] (SH L) M) ee).trans g) t11
    by_cases cc5 : a1 = 5
    · replace h := h.2.2.2.2.2.1 cc5
      have ee : aTab 0 10 173 #[59, 66, 73, 80, 87, 92, 97, 107, 152, 159, 166] a1 = 92 := by rw [cc5]; rfl
      have t12 : aX xc_314 (aSeek xc_314 93) [aR 145, aI a1] [] (SH L) M o := by
        subst h
        exact ⟨3, rfl⟩
      exact aX_seg 2 (fun n g => (congrArg (fun tt => aRun tgT gP n xc_314 (aSeek xc_314 (aTo 1 tt)) [aR 145, aI a1] [] (SH L) M) ee).trans g) t12
    by_cases cc6 : a1 = 6
    · replace h := h.2.2.2.2.2.2.1 cc6
      have ee : aTab 0 10 173 #[59, 66, 73, 80, 87, 92, 97, 107, 152, 159, 166] a1 = 97 := by rw [cc6]; rfl
      have t13 : aX xc_314 (aSeek xc_314 98) [aR 145, aI a1] [] (SH L) M o := by
        obtain ⟨M1, v2, k14, h⟩ := h
        have h2 : aX xc_314 (aSeek xc_314 107) [aR 145, aI a1] [aI v2] (SH L) M1 o := by
          subst h
          exact ⟨1, rfl⟩
        exact aX_seg 4 (fun n g => g) (aX_calls rfl rfl rfl k14 h2)
      exact aX_seg 2 (fun n g => (congrArg (fun tt => aRun tgT gP n xc_314 (aSeek xc_314 (aTo 1 tt)) [aR 145, aI a1] [] (SH L) M) ee).trans g) t13
    by_cases cc7 : a1 = 7
    · replace h := h.2.2.2.2.2.2.2.1 cc7
      have ee : aTab 0 10 173 #[59, 66, 73, 80, 87, 92, 97, 107, 152, 159, 166] a1 = 107 := by rw [cc7]; rfl
      have t15 : aX xc_314 (aSeek xc_314 108) [aR 145, aI a1] [] (SH L) M o := by
        by_cases cc : (M 185 1) ≤ 0
        · replace h := h.1 cc
          have t16 : aX xc_314 (aSeek xc_314 121) [aR 145, aI a1] [] (SH L) M o := by
            exact aX_seg 1 (fun n g => g) (aX_le (ls := [aR 145, aU]) (ls1 := [aR 145, aI a1]) (⟨Or.inr rfl, ⟨Or.inl rfl, trivial⟩⟩) h)
          exact aX_seg 5 (fun n g => ip cc (g)) t16
        · replace h := h.2 cc
          have t17 : aX xc_314 (aSeek xc_314 117) [aR 145, aI a1] [] (SH L) M o := by
            exact aX_seg 2 (fun n g => g) (aX_le (ls := [aR 145, aU]) (ls1 := [aR 145, aI a1]) (⟨Or.inr rfl, ⟨Or.inl rfl, trivial⟩⟩) h)
          exact aX_seg 5 (fun n g => in_ cc (g)) t17
      exact aX_seg 2 (fun n g => (congrArg (fun tt => aRun tgT gP n xc_314 (aSeek xc_314 (aTo 1 tt)) [aR 145, aI a1] [] (SH L) M) ee).trans g) t15
    by_cases cc8 : a1 = 8
    · replace h := h.2.2.2.2.2.2.2.2.1 cc8
      have ee : aTab 0 10 173 #[59, 66, 73, 80, 87, 92, 97, 107, 152, 159, 166] a1 = 152 := by rw [cc8]; rfl
      have t18 : aX xc_314 (aSeek xc_314 153) [aR 145, aI a1] [] (SH L) M o := by
        subst h
        exact ⟨5, rfl⟩
      exact aX_seg 2 (fun n g => (congrArg (fun tt => aRun tgT gP n xc_314 (aSeek xc_314 (aTo 1 tt)) [aR 145, aI a1] [] (SH L) M) ee).trans g) t18
    by_cases cc9 : a1 = 9
    · replace h := h.2.2.2.2.2.2.2.2.2.1 cc9
      have ee : aTab 0 10 173 #[59, 66, 73, 80, 87, 92, 97, 107, 152, 159, 166] a1 = 159 := by rw [cc9]; rfl
      have t19 : aX xc_314 (aSeek xc_314 160) [aR 145, aI a1] [] (SH L) M o := by
        subst h
        exact ⟨5, rfl⟩
      exact aX_seg 2 (fun n g => (congrArg (fun tt => aRun tgT gP n xc_314 (aSeek xc_314 (aTo 1 tt)) [aR 145, aI a1] [] (SH L) M) ee).trans g) t19
    by_cases cc10 : a1 = 10
    · replace h := h.2.2.2.2.2.2.2.2.2.2.1 cc10
      have ee : aTab 0 10 173 #[59, 66, 73, 80, 87, 92, 97, 107, 152, 159, 166] a1 = 166 := by rw [cc10]; rfl
      have t20 : aX xc_314 (aSeek xc_314 167) [aR 145, aI a1] [] (SH L) M o := by
        subst h
        exact ⟨5, rfl⟩
      exact aX_seg 2 (fun n g => (congrArg (fun tt => aRun tgT gP n xc_314 (aSeek xc_314 (aTo 1 tt)) [aR 145, aI a1] [] (SH L) M) ee).trans g) t20
    replace h := h.2.2.2.2.2.2.2.2.2.2.2 cc0 cc1 cc2 cc3 cc4 cc5 cc6 cc7 cc8 cc9 cc10
    have ee : aTab 0 10 173 #[59, 66, 73, 80, 87, 92, 97, 107, 152, 159, 166] a1 = 173 := by unfold aTab; rw [if_pos (by omega)]
    have t21 : aX xc_314 (aSeek xc_314 174) [aR 145, aI a1] [] (SH L) M o := by
      obtain ⟨M3, v4, k22, h⟩ := h
      have h2 : aX xc_314 (aSeek xc_314 182) [aR 145, aI a1] [aI v4] (SH L) M3 o := by
        by_cases cc : v4 = 0
        · replace h := h.1 cc
          have t23 : aX xc_314 (aSeek xc_314 196) [aR 145, aI a1] [] (SH L) M3 o := by
            subst h
            exact ⟨2, rfl⟩
          exact aX_seg 1 (fun n g => ip cc (g)) t23
        · replace h := h.2 cc
          have t24 : aX xc_314 (aSeek xc_314 185) [aR 145, aI a1] [] (SH L) M3 o := by
            obtain ⟨M5, v6, k25, h⟩ := h
            have h2 : aX xc_314 (aSeek xc_314 193) [aR 145, aI a1] [aI v6] (SH L) M5 o := by
              subst h
              exact ⟨2, rfl⟩
            exact aX_seg 4 (fun n g => g) (aX_callv (rfl) rfl rfl rfl k25 h2)
          exact aX_seg 1 (fun n g => in_ cc (g)) t24
      exact aX_seg 4 (fun n g => g) (aX_callv (rfl) rfl rfl rfl k22 h2)
    exact aX_seg 2 (fun n g => (congrArg (fun tt => aRun tgT gP n xc_314 (aSeek xc_314 (aTo 1 tt)) [aR 145, aI a1] [] (SH L) M) ee).trans g) t21
  exact q
set_option maxRecDepth 100000 in
theorem bl_314_122 {L : Nat} {b0 : Int} {M : aM} {o : aO} (h : (((M 185 2) ≤ 0 → aX xc_314 (aSeek xc_314 136) [aR 145, aU] [aI 0, aI b0] (SH L) M o) ∧ (¬ ((M 185 2) ≤ 0) → aX xc_314 (aSeek xc_314 136) [aR 145, aU] [aI 1, aI b0] (SH L) M o))) : aX xc_314 (aSeek xc_314 122) [aR 145, aU] [aI b0] (SH L) M o := by
  by_cases cc : (M 185 2) ≤ 0
  · replace h := h.1 cc
    have t1 : aX xc_314 (aSeek xc_314 135) [aR 145, aU] [aI b0] (SH L) M o := by
      exact aX_seg 1 (fun n g => g) (h)
    exact aX_seg 5 (fun n g => ip cc (g)) t1
  · replace h := h.2 cc
    have t2 : aX xc_314 (aSeek xc_314 131) [aR 145, aU] [aI b0] (SH L) M o := by
      exact aX_seg 2 (fun n g => g) (h)
    exact aX_seg 5 (fun n g => in_ cc (g)) t2
set_option maxRecDepth 100000 in
theorem bl_314_136 {L : Nat} {b0 b1 : Int} {M : aM} {o : aO} (h : (((M 185 3) ≤ 0 → o = ([aI (aW ((aW (b0 + b1)) + 0))], (SH L), M)) ∧ (¬ ((M 185 3) ≤ 0) → o = ([aI (aW ((aW (b0 + b1)) + 1))], (SH L), M)))) : aX xc_314 (aSeek xc_314 136) [aR 145, aU] [aI b1, aI b0] (SH L) M o := by
  by_cases cc : (M 185 3) ≤ 0
  · replace h := h.1 cc
    have t1 : aX xc_314 (aSeek xc_314 150) [aR 145, aU] [aI (aW (b0 + b1))] (SH L) M o := by
      subst h
      exact ⟨3, rfl⟩
    exact aX_seg 6 (fun n g => ip cc (g)) t1
  · replace h := h.2 cc
    have t2 : aX xc_314 (aSeek xc_314 146) [aR 145, aU] [aI (aW (b0 + b1))] (SH L) M o := by
      subst h
      exact ⟨4, rfl⟩
    exact aX_seg 6 (fun n g => in_ cc (g)) t2
end BLK
