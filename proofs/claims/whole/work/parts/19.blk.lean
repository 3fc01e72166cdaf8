/-! block rows, written by a program: from one cut of a method to the next ones -/
section BLK
/- TypeLockModel.typed(I)V -/
set_option maxRecDepth 100000 in
theorem en_180 {L : Nat} {a1 : Int} {M : aM} {o : aO} (h : aX xc_180 (aSeek xc_180 2) [aR 145, aI a1, aI 0] [] (SH L) M o) : aE 180 [aR 145, aI a1] (SH L) M o := by
  have q : aX xc_180 (aSeek xc_180 0) [aR 145, aI a1, aU] [] (SH L) M o := by
    exact aX_seg 2 (fun n g => g) (h)
  exact q
set_option maxRecDepth 100000 in
theorem bl_180_2 {L : Nat} {a1 a2 : Int} {M : aM} {o : aO} (h : ((4 ≤ a2 → o = ([], (SH L), M)) ∧ (¬ (4 ≤ a2) → (0 ≤ M 145 0 ∧ M 145 0 < aLn (SH L) 1 146) ∧ aX xc_180 (aSeek xc_180 2) [aR 145, aI a1, aI (aW (a2 + 1))] [] (SH L) (aSet (aSet M 146 (M 145 0) (aAnd (aShr a1 (aW (24 - (aW (8 * a2))))) 255)) 145 0 (aW (((aSet M 146 (M 145 0) (aAnd (aShr a1 (aW (24 - (aW (8 * a2))))) 255)) 145 0) + 1))) o))) : aX xc_180 (aSeek xc_180 2) [aR 145, aI a1, aI a2] [] (SH L) M o := by
  by_cases cc : 4 ≤ a2
  · replace h := h.1 cc
    have t1 : aX xc_180 (aSeek xc_180 45) [aR 145, aI a1, aI a2] [] (SH L) M o := by
      subst h
      exact ⟨1, rfl⟩
    exact aX_seg 3 (fun n g => ip cc (g)) t1
  · replace h := h.2 cc
    have t2 : aX xc_180 (aSeek xc_180 7) [aR 145, aI a1, aI a2] [] (SH L) M o := by
      obtain ⟨c3, h⟩ := h
      exact aX_seg 22 (fun n g => ip c3 (g)) (h)
    exact aX_seg 3 (fun n g => in_ cc (g)) t2
/- TypeLockModel.feed(IIIII)I -/
set_option maxRecDepth 100000 in
theorem en_181 {L : Nat} {a1 a2 a3 a4 a5 : Int} {M : aM} {o : aO} (h : (((aW ((M 145 0) + 20)) ≤ 2000 → (∃ (M1 : aM), aE 180 [aR 145, aI a1] (SH L) M ([], (SH L), M1) ∧ (∃ (M2 : aM), aE 180 [aR 145, aI a2] (SH L) M1 ([], (SH L), M2) ∧ (∃ (M3 : aM), aE 180 [aR 145, aI a3] (SH L) M2 ([], (SH L), M3) ∧ (∃ (M4 : aM), aE 180 [aR 145, aI a4] (SH L) M3 ([], (SH L), M4) ∧ (∃ (M5 : aM), aE 180 [aR 145, aI a5] (SH L) M4 ([], (SH L), M5) ∧ o = ([aI (M5 145 0)], (SH L), M5))))))) ∧ (¬ ((aW ((M 145 0) + 20)) ≤ 2000) → o = ([aI ((-1))], (SH L), M)))) : aE 181 [aR 145, aI a1, aI a2, aI a3, aI a4, aI a5] (SH L) M o := by
  have q : aX xc_181 (aSeek xc_181 0) [aR 145, aI a1, aI a2, aI a3, aI a4, aI a5] [] (SH L) M o := by
    by_cases cc : (aW ((M 145 0) + 20)) ≤ 2000
    · replace h := h.1 cc
      have t6 : aX xc_181 (aSeek xc_181 15) [aR 145, aI a1, aI a2, aI a3, aI a4, aI a5] [] (SH L) M o := by
        obtain ⟨M1, k7, h⟩ := h
        have h2 : aX xc_181 (aSeek xc_181 20) [aR 145, aI a1, aI a2, aI a3, aI a4, aI a5] [] (SH L) M1 o := by
          obtain ⟨M2, k8, h⟩ := h
          have h2 : aX xc_181 (aSeek xc_181 25) [aR 145, aI a1, aI a2, aI a3, aI a4, aI a5] [] (SH L) M2 o := by
            obtain ⟨M3, k9, h⟩ := h
            have h2 : aX xc_181 (aSeek xc_181 30) [aR 145, aI a1, aI a2, aI a3, aI a4, aI a5] [] (SH L) M3 o := by
              obtain ⟨M4, k10, h⟩ := h
              have h2 : aX xc_181 (aSeek xc_181 36) [aR 145, aI a1, aI a2, aI a3, aI a4, aI a5] [] (SH L) M4 o := by
                obtain ⟨M5, k11, h⟩ := h
                have h2 : aX xc_181 (aSeek xc_181 42) [aR 145, aI a1, aI a2, aI a3, aI a4, aI a5] [] (SH L) M5 o := by
                  subst h
                  exact ⟨3, rfl⟩
                exact aX_seg 2 (fun n g => g) (aX_callv (rfl) rfl rfl rfl k11 h2)
              exact aX_seg 2 (fun n g => g) (aX_callv (rfl) rfl rfl rfl k10 h2)
            exact aX_seg 2 (fun n g => g) (aX_callv (rfl) rfl rfl rfl k9 h2)
          exact aX_seg 2 (fun n g => g) (aX_callv (rfl) rfl rfl rfl k8 h2)
        exact aX_seg 2 (fun n g => g) (aX_callv (rfl) rfl rfl rfl k7 h2)
      exact aX_seg 6 (fun n g => ip cc (g)) t6
    · replace h := h.2 cc
      have t12 : aX xc_181 (aSeek xc_181 13) [aR 145, aI a1, aI a2, aI a3, aI a4, aI a5] [] (SH L) M o := by
        subst h
        exact ⟨2, rfl⟩
      exact aX_seg 6 (fun n g => in_ cc (g)) t12
  exact q
/- TypeLockModel.back(I)I -/
set_option maxRecDepth 100000 in
theorem en_182 {L : Nat} {a1 : Int} {M : aM} {o : aO} (h : ((a1 < 0 → o = ([aI ((-1))], (SH L), M)) ∧ (¬ (a1 < 0) → ((a1 ≤ (M 145 0) → o = ([aI ((aSet M 145 0 (aW ((M 145 0) - a1))) 145 0)], (SH L), aSet M 145 0 (aW ((M 145 0) - a1)))) ∧ (¬ (a1 ≤ (M 145 0)) → o = ([aI ((-1))], (SH L), M)))))) : aE 182 [aR 145, aI a1] (SH L) M o := by
  have q : aX xc_182 (aSeek xc_182 0) [aR 145, aI a1] [] (SH L) M o := by
    by_cases cc : a1 < 0
    · replace h := h.1 cc
      have t1 : aX xc_182 (aSeek xc_182 12) [aR 145, aI a1] [] (SH L) M o := by
        subst h
        exact ⟨2, rfl⟩
      exact aX_seg 2 (fun n g => ip cc (g)) t1
    · replace h := h.2 cc
      have t2 : aX xc_182 (aSeek xc_182 4) [aR 145, aI a1] [] (SH L) M o := by
        by_cases cc : a1 ≤ (M 145 0)
        · replace h := h.1 cc
          have t3 : aX xc_182 (aSeek xc_182 14) [aR 145, aI a1] [] (SH L) M o := by
            subst h
            exact ⟨9, rfl⟩
          exact aX_seg 4 (fun n g => ip cc (g)) t3
        · replace h := h.2 cc
          have t4 : aX xc_182 (aSeek xc_182 12) [aR 145, aI a1] [] (SH L) M o := by
            subst h
            exact ⟨2, rfl⟩
          exact aX_seg 4 (fun n g => in_ cc (g)) t4
      exact aX_seg 2 (fun n g => in_ cc (g)) t2
  exact q
/- TypeLockModel.byteAt(I)I -/
set_option maxRecDepth 100000 in
theorem en_183 {L : Nat} {a1 : Int} {M : aM} {o : aO} (h : (((M 145 0) ≤ a1 → o = ([aI 0], (SH L), M)) ∧ (¬ ((M 145 0) ≤ a1) → (0 ≤ a1 ∧ a1 < aLn (SH L) 1 146) ∧ o = ([aI (M 146 a1)], (SH L), M)))) : aE 183 [aR 145, aI a1] (SH L) M o := by
  have q : aX xc_183 (aSeek xc_183 0) [aR 145, aI a1] [] (SH L) M o := by
    by_cases cc : (M 145 0) ≤ a1
    · replace h := h.1 cc
      have t1 : aX xc_183 (aSeek xc_183 17) [aR 145, aI a1] [] (SH L) M o := by
        subst h
        exact ⟨2, rfl⟩
      exact aX_seg 4 (fun n g => ip cc (g)) t1
    · replace h := h.2 cc
      have t2 : aX xc_183 (aSeek xc_183 8) [aR 145, aI a1] [] (SH L) M o := by
        obtain ⟨c3, h⟩ := h
        subst h
        exact ⟨6, ip c3 (rfl)⟩
      exact aX_seg 4 (fun n g => in_ cc (g)) t2
  exact q
/- TypeLockModel.isLetter(I)Z -/
set_option maxRecDepth 100000 in
theorem en_184 {L : Nat} {a1 : Int} {M : aM} {o : aO} (h : (∃ (M1 : aM) (v2 : Int), aE 183 [aR 145, aI a1] (SH L) M ([aI v2], (SH L), M1) ∧ ((v2 < 97 → o = ([aI 0], (SH L), M1)) ∧ (¬ (v2 < 97) → (∃ (M3 : aM) (v4 : Int), aE 183 [aR 145, aI a1] (SH L) M1 ([aI v4], (SH L), M3) ∧ ((122 < v4 → o = ([aI 0], (SH L), M3)) ∧ (¬ (122 < v4) → o = ([aI 1], (SH L), M3)))))))) : aE 184 [aR 145, aI a1] (SH L) M o := by
  have q : aX xc_184 (aSeek xc_184 0) [aR 145, aI a1] [] (SH L) M o := by
    obtain ⟨M1, v2, k5, h⟩ := h
    have h2 : aX xc_184 (aSeek xc_184 5) [aR 145, aI a1] [aI v2] (SH L) M1 o := by
      by_cases cc : v2 < 97
      · replace h := h.1 cc
        have t6 : aX xc_184 (aSeek xc_184 24) [aR 145, aI a1] [] (SH L) M1 o := by
          subst h
          exact ⟨2, rfl⟩
        exact aX_seg 2 (fun n g => ip cc (g)) t6
      · replace h := h.2 cc
        have t7 : aX xc_184 (aSeek xc_184 10) [aR 145, aI a1] [] (SH L) M1 o := by
          obtain ⟨M3, v4, k8, h⟩ := h
          have h2 : aX xc_184 (aSeek xc_184 15) [aR 145, aI a1] [aI v4] (SH L) M3 o := by
            by_cases cc : 122 < v4
            · replace h := h.1 cc
              have t9 : aX xc_184 (aSeek xc_184 24) [aR 145, aI a1] [] (SH L) M3 o := by
                subst h
                exact ⟨2, rfl⟩
              exact aX_seg 2 (fun n g => ip cc (g)) t9
            · replace h := h.2 cc
              have t10 : aX xc_184 (aSeek xc_184 20) [aR 145, aI a1] [] (SH L) M3 o := by
                subst h
                exact ⟨3, rfl⟩
              exact aX_seg 2 (fun n g => in_ cc (g)) t10
          exact aX_seg 2 (fun n g => g) (aX_callv (rfl) rfl rfl rfl k8 h2)
        exact aX_seg 2 (fun n g => in_ cc (g)) t7
    exact aX_seg 2 (fun n g => g) (aX_callv (rfl) rfl rfl rfl k5 h2)
  exact q
/- TypeLockModel.isDigit(I)Z -/
set_option maxRecDepth 100000 in
theorem en_185 {L : Nat} {a1 : Int} {M : aM} {o : aO} (h : (∃ (M1 : aM) (v2 : Int), aE 183 [aR 145, aI a1] (SH L) M ([aI v2], (SH L), M1) ∧ ((v2 < 48 → o = ([aI 0], (SH L), M1)) ∧ (¬ (v2 < 48) → (∃ (M3 : aM) (v4 : Int), aE 183 [aR 145, aI a1] (SH L) M1 ([aI v4], (SH L), M3) ∧ ((57 < v4 → o = ([aI 0], (SH L), M3)) ∧ (¬ (57 < v4) → o = ([aI 1], (SH L), M3)))))))) : aE 185 [aR 145, aI a1] (SH L) M o := by
  have q : aX xc_185 (aSeek xc_185 0) [aR 145, aI a1] [] (SH L) M o := by
    obtain ⟨M1, v2, k5, h⟩ := h
    have h2 : aX xc_185 (aSeek xc_185 5) [aR 145, aI a1] [aI v2] (SH L) M1 o := by
      by_cases cc : v2 < 48
      · replace h := h.1 cc
        have t6 : aX xc_185 (aSeek xc_185 24) [aR 145, aI a1] [] (SH L) M1 o := by
          subst h
          exact ⟨2, rfl⟩
        exact aX_seg 2 (fun n g => ip cc (g)) t6
      · replace h := h.2 cc
        have t7 : aX xc_185 (aSeek xc_185 10) [aR 145, aI a1] [] (SH L) M1 o := by
          obtain ⟨M3, v4, k8, h⟩ := h
          have h2 : aX xc_185 (aSeek xc_185 15) [aR 145, aI a1] [aI v4] (SH L) M3 o := by
            by_cases cc : 57 < v4
            · replace h := h.1 cc
              have t9 : aX xc_185 (aSeek xc_185 24) [aR 145, aI a1] [] (SH L) M3 o := by
                subst h
                exact ⟨2, rfl⟩
              exact aX_seg 2 (fun n g => ip cc (g)) t9
            · replace h := h.2 cc
              have t10 : aX xc_185 (aSeek xc_185 20) [aR 145, aI a1] [] (SH L) M3 o := by
                subst h
                exact ⟨3, rfl⟩
              exact aX_seg 2 (fun n g => in_ cc (g)) t10
          exact aX_seg 2 (fun n g => g) (aX_callv (rfl) rfl rfl rfl k8 h2)
        exact aX_seg 2 (fun n g => in_ cc (g)) t7
    exact aX_seg 2 (fun n g => g) (aX_callv (rfl) rfl rfl rfl k5 h2)
  exact q
/- TypeLockModel.token(III)V -/
set_option maxRecDepth 100000 in
theorem en_186 {L : Nat} {a1 a2 a3 : Int} {M : aM} {o : aO} (h : (0 ≤ M 145 2 ∧ M 145 2 < aLn (SH L) 1 147) ∧ (0 ≤ (aSet M 147 (M 145 2) a1) 145 2 ∧ (aSet M 147 (M 145 2) a1) 145 2 < aLn (SH L) 1 148) ∧ (0 ≤ (aSet (aSet M 147 (M 145 2) a1) 148 ((aSet M 147 (M 145 2) a1) 145 2) a2) 145 2 ∧ (aSet (aSet M 147 (M 145 2) a1) 148 ((aSet M 147 (M 145 2) a1) 145 2) a2) 145 2 < aLn (SH L) 1 149) ∧ o = ([], (SH L), aSet (aSet (aSet (aSet M 147 (M 145 2) a1) 148 ((aSet M 147 (M 145 2) a1) 145 2) a2) 149 ((aSet (aSet M 147 (M 145 2) a1) 148 ((aSet M 147 (M 145 2) a1) 145 2) a2) 145 2) a3) 145 2 (aW (((aSet (aSet (aSet M 147 (M 145 2) a1) 148 ((aSet M 147 (M 145 2) a1) 145 2) a2) 149 ((aSet (aSet M 147 (M 145 2) a1) 148 ((aSet M 147 (M 145 2) a1) 145 2) a2) 145 2) a3) 145 2) + 1)))) : aE 186 [aR 145, aI a1, aI a2, aI a3] (SH L) M o := by
  have q : aX xc_186 (aSeek xc_186 0) [aR 145, aI a1, aI a2, aI a3] [] (SH L) M o := by
    obtain ⟨c1, h⟩ := h
    obtain ⟨c2, h⟩ := h
    obtain ⟨c3, h⟩ := h
    subst h
    exact ⟨25, ip c1 (ip c2 (ip c3 (rfl)))⟩
  exact q
/- TypeLockModel.wordOf(J)I -/
set_option maxRecDepth 100000 in
theorem en_187 {L : Nat} {a0 : Int} {M : aM} {o : aO} (h : ((¬ (aCmp a0 3544025) = 0 → ((¬ (aCmp a0 1310105) = 0 → ((¬ (aCmp a0 8683934) = 0 → ((¬ (aCmp a0 12324668) = 0 → ((¬ (aCmp a0 79495460) = 0 → ((¬ (aCmp a0 144941) = 0 → ((¬ (aCmp a0 369932) = 0 → ((¬ (aCmp a0 7749089) = 0 → ((¬ (aCmp a0 249) = 0 → ((¬ (aCmp a0 99677) = 0 → ((¬ (aCmp a0 10631) = 0 → ((¬ (aCmp a0 1111) = 0 → ((¬ (aCmp a0 423) = 0 → ((¬ (aCmp a0 24) = 0 → ((¬ (aCmp a0 25) = 0 → ((¬ (aCmp a0 459383) = 0 → ((¬ (aCmp a0 164222) = 0 → ((¬ (aCmp a0 10939463) = 0 → ((¬ (aCmp a0 161437) = 0 → ((¬ (aCmp a0 330758) = 0 → ((¬ (aCmp a0 464053) = 0 → ((¬ (aCmp a0 9876874) = 0 → ((¬ (aCmp a0 10408481) = 0 → ((¬ (aCmp a0 456887) = 0 → o = ([aI ((-1))], (SH L), M)) ∧ (¬ (¬ (aCmp a0 456887) = 0) → o = ([aI 31], (SH L), M)))) ∧ (¬ (¬ (aCmp a0 10408481) = 0) → o = ([aI 30], (SH L), M)))) ∧ (¬ (¬ (aCmp a0 9876874) = 0) → o = ([aI 21], (SH L), M)))) ∧ (¬ (¬ (aCmp a0 464053) = 0) → o = ([aI 20], (SH L), M)))) ∧ (¬ (¬ (aCmp a0 330758) = 0) → o = ([aI 19], (SH L), M)))) ∧ (¬ (¬ (aCmp a0 161437) = 0) → o = ([aI 18], (SH L), M)))) ∧ (¬ (¬ (aCmp a0 10939463) = 0) → o = ([aI 17], (SH L), M)))) ∧ (¬ (¬ (aCmp a0 164222) = 0) → o = ([aI 16], (SH L), M)))) ∧ (¬ (¬ (aCmp a0 459383) = 0) → o = ([aI 15], (SH L), M)))) ∧ (¬ (¬ (aCmp a0 25) = 0) → o = ([aI 14], (SH L), M)))) ∧ (¬ (¬ (aCmp a0 24) = 0) → o = ([aI 13], (SH L), M)))) ∧ (¬ (¬ (aCmp a0 423) = 0) → o = ([aI 12], (SH L), M)))) ∧ (¬ (¬ (aCmp a0 1111) = 0) → o = ([aI 11], (SH L), M)))) ∧ (¬ (¬ (aCmp a0 10631) = 0) → o = ([aI 10], (SH L), M)))) ∧ (¬ (¬ (aCmp a0 99677) = 0) → o = ([aI 9], (SH L), M)))) ∧ (¬ (¬ (aCmp a0 249) = 0) → o = ([aI 8], (SH L), M)))) ∧ (¬ (¬ (aCmp a0 7749089) = 0) → o = ([aI 7], (SH L), M)))) ∧ (¬ (¬ (aCmp a0 369932) = 0) → o = ([aI 6], (SH L), M)))) ∧ (¬ (¬ (aCmp a0 144941) = 0) → o = ([aI 5], (SH L), M)))) ∧ (¬ (¬ (aCmp a0 79495460) = 0) → o = ([aI 4], (SH L), M)))) ∧ (¬ (¬ (aCmp a0 12324668) = 0) → o = ([aI 3], (SH L), M)))) ∧ (¬ (¬ (aCmp a0 8683934) = 0) → o = ([aI 2], (SH L), M)))) ∧ (¬ (¬ (aCmp a0 1310105) = 0) → o = ([aI 1], (SH L), M)))) ∧ (¬ (¬ (aCmp a0 3544025) = 0) → o = ([aI 0], (SH L), M)))) : aE 187 [aJ a0] (SH L) M o := by
  have q : aX xc_187 (aSeek xc_187 0) [aJ a0, aU] [] (SH L) M o := by
    by_cases cc : ¬ (aCmp a0 3544025) = 0
    · replace h := h.1 cc
      have t1 : aX xc_187 (aSeek xc_187 10) [aJ a0, aU] [] (SH L) M o := by
        by_cases cc : ¬ (aCmp a0 1310105) = 0
        · replace h := h.1 cc
          have t2 : aX xc_187 (aSeek xc_187 20) [aJ a0, aU] [] (SH L) M o := by
            by_cases cc : ¬ (aCmp a0 8683934) = 0
            · replace h := h.1 cc
              have t3 : aX xc_187 (aSeek xc_187 30) [aJ a0, aU] [] (SH L) M o := by
                by_cases cc : ¬ (aCmp a0 12324668) = 0
                · replace h := h.1 cc
                  have t4 : aX xc_187 (aSeek xc_187 40) [aJ a0, aU] [] (SH L) M o := by
                    by_cases cc : ¬ (aCmp a0 79495460) = 0
                    · replace h := h.1 cc
                      have t5 : aX xc_187 (aSeek xc_187 50) [aJ a0, aU] [] (SH L) M o := by
                        by_cases cc : ¬ (aCmp a0 144941) = 0
                        · replace h := h.1 cc
                          have t6 : aX xc_187 (aSeek xc_187 60) [aJ a0, aU] [] (SH L) M o := by
                            by_cases cc : ¬ (aCmp a0 369932) = 0
                            · replace h := h.1 cc
                              have t7 : aX xc_187 (aSeek xc_187 71) [aJ a0, aU] [] (SH L) M o := by
                                by_cases cc : ¬ (aCmp a0 7749089) = 0
                                · replace h := h.1 cc
                                  have t8 : aX xc_187 (aSeek xc_187 82) [aJ a0, aU] [] (SH L) M o := by
                                    by_cases cc : ¬ (aCmp a0 249) = 0
                                    · replace h := h.1 cc
                                      have t9 : aX xc_187 (aSeek xc_187 93) [aJ a0, aU] [] (SH L) M o := by
                                        by_cases cc : ¬ (aCmp a0 99677) = 0
                                        · replace h := h.1 cc
                                          have t10 : aX xc_187 (aSeek xc_187 104) [aJ a0, aU] [] (SH L) M o := by
                                            by_cases cc : ¬ (aCmp a0 10631) = 0
                                            · replace h := h.1 cc
                                              have t11 : aX xc_187 (aSeek xc_187 115) [aJ a0, aU] [] (SH L) M o := by
                                                by_cases cc : ¬ (aCmp a0 1111) = 0
                                                · replace h := h.1 cc
                                                  have t12 : aX xc_187 (aSeek xc_187 126) [aJ a0, aU] [] (SH L) M o := by
                                                    by_cases cc : ¬ (aCmp a0 423) = 0
                                                    · replace h := h.1 cc
                                                      have t13 : aX xc_187 (aSeek xc_187 137) [aJ a0, aU] [] (SH L) M o := by
                                                        by_cases cc : ¬ (aCmp a0 24) = 0
                                                        · replace h := h.1 cc
                                                          have t14 : aX xc_187 (aSeek xc_187 148) [aJ a0, aU] [] (SH L) M o := by
                                                            by_cases cc : ¬ (aCmp a0 25) = 0
                                                            · replace h := h.1 cc
                                                              have t15 : aX xc_187 (aSeek xc_187 159) [aJ a0, aU] [] (SH L) M o := by
                                                                by_cases cc : ¬ (aCmp a0 459383) = 0
                                                                · replace h := h.1 cc
                                                                  have t16 : aX xc_187 (aSeek xc_187 170) [aJ a0, aU] [] (SH L) M o := by
                                                                    by_cases cc : ¬ (aCmp a0 164222) = 0
                                                                    · replace h := h.1 cc
                                                                      have t17 : aX xc_187 (aSeek xc_187 181) [aJ a0, aU] [] (SH L) M o := by
                                                                        by_cases cc : ¬ (aCmp a0 10939463) = 0
                                                                        · replace h := h.1 cc
                                                                          have t18 : aX xc_187 (aSeek xc_187 192) [aJ a0, aU] [] (SH L) M o := by
                                                                            by_cases cc : ¬ (aCmp a0 161437) = 0
                                                                            · replace h := h.1 cc
                                                                              have t19 : aX xc_187 (aSeek xc_187 203) [aJ a0, aU] [] (SH L) M o := by
                                                                                by_cases cc : ¬ (aCmp a0 330758) = 0
                                                                                · replace h := h.1 cc
                                                                                  have t20 : aX xc_187 (aSeek xc_187 214) [aJ a0, aU] [] (SH L) M o := by
                                                                                    by_cases cc : ¬ (aCmp a0 464053) = 0
                                                                                    · replace h := h.1 cc
                                                                                      have t21 : aX xc_187 (aSeek xc_187 225) [aJ a0, aU] [] (SH L) M o := by
                                                                                        by_cases cc : ¬ (aCmp a0 9876874) = 0
                                                                                        · replace h := h.1 cc
                                                                                          have t22 : aX xc_187 (aSeek xc_187 236) [aJ a0, aU] [] (SH L) M o := by
                                                                                            by_cases cc : ¬ (aCmp a0 10408481) = 0
                                                                                            · replace h := h.1 cc
                                                                                              have t23 : aX xc_187 (aSeek xc_187 247) [aJ a0, aU] [] (SH L) M o := by
                                                                                                by_cases cc : ¬ (aCmp a0 456887) = 0
                                                                                                · replace h := h.1 cc
                                                                                                  have t24 : aX xc_187 (aSeek xc_187 258) [aJ a0, aU] [] (SH L) M o := by
                                                                                                    subst h
                                                                                                    exact ⟨2, rfl⟩
                                                                                                  exact aX_seg 4 (fun n g => ip cc (g)) t24
                                                                                                · replace h := h.2 cc
                                                                                                  have t25 : aX xc_187 (aSeek xc_187 255) [aJ a0, aU] [] (SH L) M o := by
                                                                                                    subst h
                                                                                                    exact ⟨2, rfl⟩
                                                                                                  exact aX_seg 4 (fun n g => in_ cc (g)) t25
                                                                                              exact aX_seg 4 (fun n g => ip cc (g)) t23
                                                                                            · replace h := h.2 cc
                                                                                              have t26 : aX xc_187 (aSeek xc_187 244) [aJ a0, aU] [] (SH L) M o := by
                                                                                                subst h
                                                                                                exact ⟨2, rfl⟩
                                                                                              exact aX_seg 4 (fun n g => in_ cc (g)) t26
                                                                                          exact aX_seg 4 (fun n g => ip cc (g)) t22
                                                                                        · replace h := h.2 cc
                                                                                          have t27 : aX xc_187 (aSeek xc_187 233) [aJ a0, aU] [] (SH L) M o := by
                                                                                            subst h
                                                                                            exact ⟨2, rfl⟩
                                                                                          exact aX_seg 4 (fun n g => in_ cc (g)) t27
                                                                                      exact aX_seg 4 (fun n g => ip cc (g)) t21
                                                                                    · replace h := h.2 cc
                                                                                      have t28 : aX xc_187 (aSeek xc_187 222) [aJ a0, aU] [] (SH L) M o := by
                                                                                        subst h
                                                                                        exact ⟨2, rfl⟩
                                                                                      exact aX_seg 4 (fun n g => in_ cc (g)) t28
                                                                                  exact aX_seg 4 (fun n g => ip cc (g)) t20
                                                                                · replace h := h.2 cc
                                                                                  have t29 : aX xc_187 (aSeek xc_187 211) [aJ a0, aU] [] (SH L) M o := by
                                                                                    subst h
                                                                                    exact ⟨2, rfl⟩
                                                                                  exact aX_seg 4 (fun n g => in_ cc (g)) t29
                                                                              exact aX_seg 4 (fun n g => ip cc (g)) t19
                                                                            · replace h := h.2 cc
                                                                              have t30 : aX xc_187 (aSeek xc_187 200) [aJ a0, aU] [] (SH L) M o := by
                                                                                subst h
                                                                                exact ⟨2, rfl⟩
                                                                              exact aX_seg 4 (fun n g => in_ cc (g)) t30
                                                                          exact aX_seg 4 (fun n g => ip cc (g)) t18
                                                                        · replace h := h.2 cc
                                                                          have t31 : aX xc_187 (aSeek xc_187 189) [aJ a0, aU] [] (SH L) M o := by
                                                                            subst h
                                                                            exact ⟨2, rfl⟩
                                                                          exact aX_seg 4 (fun n g => in_ cc (g)) t31
                                                                      exact aX_seg 4 (fun n g => ip cc (g)) t17
                                                                    · replace h := h.2 cc
                                                                      have t32 : aX xc_187 (aSeek xc_187 178) [aJ a0, aU] [] (SH L) M o := by
                                                                        subst h
                                                                        exact ⟨2, rfl⟩
                                                                      exact aX_seg 4 (fun n g => in_ cc (g)) t32
                                                                  exact aX_seg 4 (fun n g => ip cc (g)) t16
                                                                · replace h := h.2 cc
                                                                  have t33 : aX xc_187 (aSeek xc_187 167) [aJ a0, aU] [] (SH L) M o := by
                                                                    subst h
                                                                    exact ⟨2, rfl⟩
                                                                  exact aX_seg 4 (fun n g => in_ cc (g)) t33
                                                              exact aX_seg 4 (fun n g => ip cc (g)) t15
                                                            · replace h := h.2 cc
                                                              have t34 : aX xc_187 (aSeek xc_187 156) [aJ a0, aU] [] (SH L) M o := by
                                                                subst h
                                                                exact ⟨2, rfl⟩
                                                              exact aX_seg 4 (fun n g => in_ cc (g)) t34
                                                          exact aX_seg 4 (fun n g => ip cc (g)) t14
                                                        · replace h := h.2 cc
                                                          have t35 : aX xc_187 (aSeek xc_187 145) [aJ a0, aU] [] (SH L) M o := by
                                                            subst h
                                                            exact ⟨2, rfl⟩
                                                          exact aX_seg 4 (fun n g => in_ cc (g)) t35
                                                      exact aX_seg 4 (fun n g => ip cc (g)) t13
                                                    · replace h := h.2 cc
                                                      have t36 : aX xc_187 (aSeek xc_187 134) [aJ a0, aU] [] (SH L) M o := by
                                                        subst h
                                                        exact ⟨2, rfl⟩
                                                      exact aX_seg 4 (fun n g => in_ cc (g)) t36
                                                  exact aX_seg 4 (fun n g => ip cc (g)) t12
                                                · replace h := h.2 cc
                                                  have t37 : aX xc_187 (aSeek xc_187 123) [aJ a0, aU] [] (SH L) M o := by
                                                    subst h
                                                    exact ⟨2, rfl⟩
                                                  exact aX_seg 4 (fun n g => in_ cc (g)) t37
                                              exact aX_seg 4 (fun n g => ip cc (g)) t11
                                            · replace h := h.2 cc
                                              have t38 : aX xc_187 (aSeek xc_187 112) [aJ a0, aU] [] (SH L) M o := by
                                                subst h
                                                exact ⟨2, rfl⟩
                                              exact aX_seg 4 (fun n g => in_ cc (g)) t38
                                          exact aX_seg 4 (fun n g => ip cc (g)) t10
                                        · replace h := h.2 cc
                                          have t39 : aX xc_187 (aSeek xc_187 101) [aJ a0, aU] [] (SH L) M o := by
                                            subst h
                                            exact ⟨2, rfl⟩
                                          exact aX_seg 4 (fun n g => in_ cc (g)) t39
                                      exact aX_seg 4 (fun n g => ip cc (g)) t9
                                    · replace h := h.2 cc
                                      have t40 : aX xc_187 (aSeek xc_187 90) [aJ a0, aU] [] (SH L) M o := by
                                        subst h
                                        exact ⟨2, rfl⟩
                                      exact aX_seg 4 (fun n g => in_ cc (g)) t40
                                  exact aX_seg 4 (fun n g => ip cc (g)) t8
                                · replace h := h.2 cc
                                  have t41 : aX xc_187 (aSeek xc_187 79) [aJ a0, aU] [] (SH L) M o := by
                                    subst h
                                    exact ⟨2, rfl⟩
                                  exact aX_seg 4 (fun n g => in_ cc (g)) t41
                              exact aX_seg 4 (fun n g => ip cc (g)) t7
                            · replace h := h.2 cc
                              have t42 : aX xc_187 (aSeek xc_187 68) [aJ a0, aU] [] (SH L) M o := by
                                subst h
                                exact ⟨2, rfl⟩
                              exact aX_seg 4 (fun n g => in_ cc (g)) t42
                          exact aX_seg 4 (fun n g => ip cc (g)) t6
                        · replace h := h.2 cc
                          have t43 : aX xc_187 (aSeek xc_187 58) [aJ a0, aU] [] (SH L) M o := by
                            subst h
                            exact ⟨2, rfl⟩
                          exact aX_seg 4 (fun n g => in_ cc (g)) t43
                      exact aX_seg 4 (fun n g => ip cc (g)) t5
                    · replace h := h.2 cc
                      have t44 : aX xc_187 (aSeek xc_187 48) [aJ a0, aU] [] (SH L) M o := by
                        subst h
                        exact ⟨2, rfl⟩
                      exact aX_seg 4 (fun n g => in_ cc (g)) t44
                  exact aX_seg 4 (fun n g => ip cc (g)) t4
                · replace h := h.2 cc
                  have t45 : aX xc_187 (aSeek xc_187 38) [aJ a0, aU] [] (SH L) M o := by
                    subst h
                    exact ⟨2, rfl⟩
                  exact aX_seg 4 (fun n g => in_ cc (g)) t45
              exact aX_seg 4 (fun n g => ip cc (g)) t3
            · replace h := h.2 cc
              have t46 : aX xc_187 (aSeek xc_187 28) [aJ a0, aU] [] (SH L) M o := by
                subst h
                exact ⟨2, rfl⟩
              exact aX_seg 4 (fun n g => in_ cc (g)) t46
          exact aX_seg 4 (fun n g => ip cc (g)) t2
        · replace h := h.2 cc
          have t47 : aX xc_187 (aSeek xc_187 18) [aJ a0, aU] [] (SH L) M o := by
            subst h
            exact ⟨2, rfl⟩
          exact aX_seg 4 (fun n g => in_ cc (g)) t47
      exact aX_seg 4 (fun n g => ip cc (g)) t1
    · replace h := h.2 cc
      have t48 : aX xc_187 (aSeek xc_187 8) [aJ a0, aU] [] (SH L) M o := by
        subst h
        exact ⟨2, rfl⟩
      exact aX_seg 4 (fun n g => in_ cc (g)) t48
  exact q
/- TypeLockModel.signAt(I)I -/
set_option maxRecDepth 100000 in
theorem en_188 {L : Nat} {a1 : Int} {M : aM} {o : aO} (h : (∃ (M1 : aM) (v2 : Int), aE 183 [aR 145, aI a1] (SH L) M ([aI v2], (SH L), M1) ∧ (∃ (M3 : aM) (v4 : Int), aE 183 [aR 145, aI (aW (a1 + 1))] (SH L) M1 ([aI v4], (SH L), M3) ∧ ((¬ v4 = 61 → aX xc_188 (aSeek xc_188 23) [aU, aU, aI v2, aU] [aI 0] (SH L) M3 o) ∧ (¬ (¬ v4 = 61) → aX xc_188 (aSeek xc_188 23) [aU, aU, aI v2, aU] [aI 1] (SH L) M3 o))))) : aE 188 [aR 145, aI a1] (SH L) M o := by
  have q : aX xc_188 (aSeek xc_188 0) [aR 145, aI a1, aU, aU] [] (SH L) M o := by
    obtain ⟨M1, v2, k5, h⟩ := h
    have h2 : aX xc_188 (aSeek xc_188 5) [aR 145, aI a1, aU, aU] [aI v2] (SH L) M1 o := by
      obtain ⟨M3, v4, k6, h⟩ := h
      have h2 : aX xc_188 (aSeek xc_188 13) [aR 145, aI a1, aI v2, aU] [aI v4] (SH L) M3 o := by
        by_cases cc : ¬ v4 = 61
        · replace h := h.1 cc
          have t7 : aX xc_188 (aSeek xc_188 22) [aR 145, aI a1, aI v2, aU] [] (SH L) M3 o := by
            exact aX_seg 1 (fun n g => g) (aX_le (ls := [aU, aU, aI v2, aU]) (ls1 := [aR 145, aI a1, aI v2, aU]) (⟨Or.inl rfl, ⟨Or.inl rfl, ⟨Or.inr rfl, ⟨Or.inl rfl, trivial⟩⟩⟩⟩) h)
          exact aX_seg 2 (fun n g => ip cc (g)) t7
        · replace h := h.2 cc
          have t8 : aX xc_188 (aSeek xc_188 18) [aR 145, aI a1, aI v2, aU] [] (SH L) M3 o := by
            exact aX_seg 2 (fun n g => g) (aX_le (ls := [aU, aU, aI v2, aU]) (ls1 := [aR 145, aI a1, aI v2, aU]) (⟨Or.inl rfl, ⟨Or.inl rfl, ⟨Or.inr rfl, ⟨Or.inl rfl, trivial⟩⟩⟩⟩) h)
          exact aX_seg 2 (fun n g => in_ cc (g)) t8
      exact aX_seg 5 (fun n g => g) (aX_callv (rfl) rfl rfl rfl k6 h2)
    exact aX_seg 2 (fun n g => g) (aX_callv (rfl) rfl rfl rfl k5 h2)
  exact q
set_option maxRecDepth 100000 in
theorem bl_188_23 {L : Nat} {a2 b0 : Int} {M : aM} {o : aO} (h : ((¬ a2 = 61 → ((¬ a2 = 33 → ((¬ a2 = 60 → ((a2 = 59 → o = ([aI a2], (SH L), M)) ∧ (¬ (a2 = 59) → ((a2 = 43 → o = ([aI a2], (SH L), M)) ∧ (¬ (a2 = 43) → ((a2 = 45 → o = ([aI a2], (SH L), M)) ∧ (¬ (a2 = 45) → ((a2 = 42 → o = ([aI a2], (SH L), M)) ∧ (¬ (a2 = 42) → ((a2 = 47 → o = ([aI a2], (SH L), M)) ∧ (¬ (a2 = 47) → ((a2 = 40 → o = ([aI a2], (SH L), M)) ∧ (¬ (a2 = 40) → ((¬ a2 = 41 → o = ([aI 0], (SH L), M)) ∧ (¬ (¬ a2 = 41) → o = ([aI a2], (SH L), M)))))))))))))))) ∧ (¬ (¬ a2 = 60) → ((b0 = 0 → o = ([aI a2], (SH L), M)) ∧ (¬ (b0 = 0) → o = ([aI 302], (SH L), M)))))) ∧ (¬ (¬ a2 = 33) → ((b0 = 0 → o = ([aI 0], (SH L), M)) ∧ (¬ (b0 = 0) → o = ([aI 301], (SH L), M)))))) ∧ (¬ (¬ a2 = 61) → ((b0 = 0 → o = ([aI a2], (SH L), M)) ∧ (¬ (b0 = 0) → o = ([aI 300], (SH L), M)))))) : aX xc_188 (aSeek xc_188 23) [aU, aU, aI a2, aU] [aI b0] (SH L) M o := by
  by_cases cc : ¬ a2 = 61
  · replace h := h.1 cc
    have t1 : aX xc_188 (aSeek xc_188 42) [aU, aU, aI a2, aI b0] [] (SH L) M o := by
      by_cases cc : ¬ a2 = 33
      · replace h := h.1 cc
        have t2 : aX xc_188 (aSeek xc_188 60) [aU, aU, aI a2, aI b0] [] (SH L) M o := by
          by_cases cc : ¬ a2 = 60
          · replace h := h.1 cc
            have t3 : aX xc_188 (aSeek xc_188 78) [aU, aU, aI a2, aI b0] [] (SH L) M o := by
              by_cases cc : a2 = 59
              · replace h := h.1 cc
                have t4 : aX xc_188 (aSeek xc_188 120) [aU, aU, aI a2, aI b0] [] (SH L) M o := by
                  subst h
                  exact ⟨3, rfl⟩
                exact aX_seg 3 (fun n g => ip cc (g)) t4
              · replace h := h.2 cc
                have t5 : aX xc_188 (aSeek xc_188 84) [aU, aU, aI a2, aI b0] [] (SH L) M o := by
                  by_cases cc : a2 = 43
                  · replace h := h.1 cc
                    have t6 : aX xc_188 (aSeek xc_188 120) [aU, aU, aI a2, aI b0] [] (SH L) M o := by
                      subst h
                      exact ⟨3, rfl⟩
                    exact aX_seg 3 (fun n g => ip cc (g)) t6
                  · replace h := h.2 cc
                    have t7 : aX xc_188 (aSeek xc_188 90) [aU, aU, aI a2, aI b0] [] (SH L) M o := by
                      by_cases cc : a2 = 45
                      · replace h := h.1 cc
                        have t8 : aX xc_188 (aSeek xc_188 120) [aU, aU, aI a2, aI b0] [] (SH L) M o := by
                          subst h
                          exact ⟨3, rfl⟩
                        exact aX_seg 3 (fun n g => ip cc (g)) t8
                      · replace h := h.2 cc
                        have t9 : aX xc_188 (aSeek xc_188 96) [aU, aU, aI a2, aI b0] [] (SH L) M o := by
                          by_cases cc : a2 = 42
                          · replace h := h.1 cc
                            have t10 : aX xc_188 (aSeek xc_188 120) [aU, aU, aI a2, aI b0] [] (SH L) M o := by
                              subst h
                              exact ⟨3, rfl⟩
                            exact aX_seg 3 (fun n g => ip cc (g)) t10
                          · replace h := h.2 cc
                            have t11 : aX xc_188 (aSeek xc_188 102) [aU, aU, aI a2, aI b0] [] (SH L) M o := by
                              by_cases cc : a2 = 47
                              · replace h := h.1 cc
                                have t12 : aX xc_188 (aSeek xc_188 120) [aU, aU, aI a2, aI b0] [] (SH L) M o := by
                                  subst h
                                  exact ⟨3, rfl⟩
                                exact aX_seg 3 (fun n g => ip cc (g)) t12
                              · replace h := h.2 cc
                                have t13 : aX xc_188 (aSeek xc_188 108) [aU, aU, aI a2, aI b0] [] (SH L) M o := by
                                  by_cases cc : a2 = 40
                                  · replace h := h.1 cc
                                    have t14 : aX xc_188 (aSeek xc_188 120) [aU, aU, aI a2, aI b0] [] (SH L) M o := by
                                      subst h
                                      exact ⟨3, rfl⟩
                                    exact aX_seg 3 (fun n g => ip cc (g)) t14
                                  · replace h := h.2 cc
                                    have t15 : aX xc_188 (aSeek xc_188 114) [aU, aU, aI a2, aI b0] [] (SH L) M o := by
                                      by_cases cc : ¬ a2 = 41
                                      · replace h := h.1 cc
                                        have t16 : aX xc_188 (aSeek xc_188 124) [aU, aU, aI a2, aI b0] [] (SH L) M o := by
                                          subst h
                                          exact ⟨2, rfl⟩
                                        exact aX_seg 3 (fun n g => ip cc (g)) t16
                                      · replace h := h.2 cc
                                        have t17 : aX xc_188 (aSeek xc_188 120) [aU, aU, aI a2, aI b0] [] (SH L) M o := by
                                          subst h
                                          exact ⟨3, rfl⟩
                                        exact aX_seg 3 (fun n g => in_ cc (g)) t17
                                    exact aX_seg 3 (fun n g => in_ cc (g)) t15
                                exact aX_seg 3 (fun n g => in_ cc (g)) t13
                            exact aX_seg 3 (fun n g => in_ cc (g)) t11
                        exact aX_seg 3 (fun n g => in_ cc (g)) t9
                    exact aX_seg 3 (fun n g => in_ cc (g)) t7
                exact aX_seg 3 (fun n g => in_ cc (g)) t5
            exact aX_seg 3 (fun n g => ip cc (g)) t3
          · replace h := h.2 cc
            have t18 : aX xc_188 (aSeek xc_188 66) [aU, aU, aI a2, aI b0] [] (SH L) M o := by
              by_cases cc : b0 = 0
              · replace h := h.1 cc
                have t19 : aX xc_188 (aSeek xc_188 76) [aU, aU, aI a2, aI b0] [] (SH L) M o := by
                  subst h
                  exact ⟨2, rfl⟩
                exact aX_seg 2 (fun n g => ip cc (g)) t19
              · replace h := h.2 cc
                have t20 : aX xc_188 (aSeek xc_188 70) [aU, aU, aI a2, aI b0] [] (SH L) M o := by
                  subst h
                  exact ⟨3, rfl⟩
                exact aX_seg 2 (fun n g => in_ cc (g)) t20
            exact aX_seg 3 (fun n g => in_ cc (g)) t18
        exact aX_seg 3 (fun n g => ip cc (g)) t2
      · replace h := h.2 cc
        have t21 : aX xc_188 (aSeek xc_188 48) [aU, aU, aI a2, aI b0] [] (SH L) M o := by
          by_cases cc : b0 = 0
          · replace h := h.1 cc
            have t22 : aX xc_188 (aSeek xc_188 58) [aU, aU, aI a2, aI b0] [] (SH L) M o := by
              subst h
              exact ⟨2, rfl⟩
            exact aX_seg 2 (fun n g => ip cc (g)) t22
          · replace h := h.2 cc
            have t23 : aX xc_188 (aSeek xc_188 52) [aU, aU, aI a2, aI b0] [] (SH L) M o := by
              subst h
              exact ⟨3, rfl⟩
            exact aX_seg 2 (fun n g => in_ cc (g)) t23
        exact aX_seg 3 (fun n g => in_ cc (g)) t21
    exact aX_seg 4 (fun n g => ip cc (g)) t1
  · replace h := h.2 cc
    have t24 : aX xc_188 (aSeek xc_188 30) [aU, aU, aI a2, aI b0] [] (SH L) M o := by
      by_cases cc : b0 = 0
      · replace h := h.1 cc
        have t25 : aX xc_188 (aSeek xc_188 40) [aU, aU, aI a2, aI b0] [] (SH L) M o := by
          subst h
          exact ⟨2, rfl⟩
        exact aX_seg 2 (fun n g => ip cc (g)) t25
      · replace h := h.2 cc
        have t26 : aX xc_188 (aSeek xc_188 34) [aU, aU, aI a2, aI b0] [] (SH L) M o := by
          subst h
          exact ⟨3, rfl⟩
        exact aX_seg 2 (fun n g => in_ cc (g)) t26
    exact aX_seg 4 (fun n g => in_ cc (g)) t24
/- TypeLockModel.scan(I)I -/
set_option maxRecDepth 100000 in
theorem en_189 {L : Nat} {a1 : Int} {M : aM} {o : aO} (h : (∃ (M1 : aM) (v2 : Int), aE 184 [aR 145, aI a1] (SH L) M ([aI v2], (SH L), M1) ∧ ((v2 = 0 → (∃ (M3 : aM) (v4 : Int), aE 185 [aR 145, aI a1] (SH L) M1 ([aI v4], (SH L), M3) ∧ ((v4 = 0 → (∃ (M5 : aM) (v6 : Int), aE 188 [aR 145, aI a1] (SH L) M3 ([aI v6], (SH L), M5) ∧ ((¬ v6 = 0 → aX xc_189 (aSeek xc_189 191) [aU, aI a1, aU, aI v6, aU, aU] [aI 2, aR 145] (SH L) M5 o) ∧ (¬ (¬ v6 = 0) → aX xc_189 (aSeek xc_189 191) [aU, aI a1, aU, aI v6, aU, aU] [aI 5, aR 145] (SH L) M5 o)))) ∧ (¬ (v4 = 0) → aX xc_189 (aSeek xc_189 120) [aR 145, aI a1, aI a1, aI 0, aU, aU] [] (SH L) M3 o)))) ∧ (¬ (v2 = 0) → aX xc_189 (aSeek xc_189 12) [aR 145, aI a1, aI a1, aJ 0, aU, aU] [] (SH L) M1 o)))) : aE 189 [aR 145, aI a1] (SH L) M o := by
  have q : aX xc_189 (aSeek xc_189 0) [aR 145, aI a1, aU, aU, aU, aU] [] (SH L) M o := by
    obtain ⟨M1, v2, k7, h⟩ := h
    have h2 : aX xc_189 (aSeek xc_189 7) [aR 145, aI a1, aI a1, aU, aU, aU] [aI v2] (SH L) M1 o := by
      by_cases cc : v2 = 0
      · replace h := h.1 cc
        have t8 : aX xc_189 (aSeek xc_189 110) [aR 145, aI a1, aI a1, aU, aU, aU] [] (SH L) M1 o := by
          obtain ⟨M3, v4, k9, h⟩ := h
          have h2 : aX xc_189 (aSeek xc_189 115) [aR 145, aI a1, aI a1, aU, aU, aU] [aI v4] (SH L) M3 o := by
            by_cases cc : v4 = 0
            · replace h := h.1 cc
              have t10 : aX xc_189 (aSeek xc_189 175) [aR 145, aI a1, aI a1, aU, aU, aU] [] (SH L) M3 o := by
                obtain ⟨M5, v6, k11, h⟩ := h
                have h2 : aX xc_189 (aSeek xc_189 180) [aR 145, aI a1, aI a1, aU, aU, aU] [aI v6] (SH L) M5 o := by
                  by_cases cc : ¬ v6 = 0
                  · replace h := h.1 cc
                    have t12 : aX xc_189 (aSeek xc_189 190) [aR 145, aI a1, aI a1, aI v6, aU, aU] [aR 145] (SH L) M5 o := by
                      exact aX_seg 1 (fun n g => g) (aX_le (ls := [aU, aI a1, aU, aI v6, aU, aU]) (ls1 := [aR 145, aI a1, aI a1, aI v6, aU, aU]) (⟨Or.inl rfl, ⟨Or.inr rfl, ⟨Or.inl rfl, ⟨Or.inr rfl, ⟨Or.inl rfl, ⟨Or.inl rfl, trivial⟩⟩⟩⟩⟩⟩) h)
                    exact aX_seg 4 (fun n g => ip cc (g)) t12
                  · replace h := h.2 cc
                    have t13 : aX xc_189 (aSeek xc_189 186) [aR 145, aI a1, aI a1, aI v6, aU, aU] [aR 145] (SH L) M5 o := by
                      exact aX_seg 2 (fun n g => g) (aX_le (ls := [aU, aI a1, aU, aI v6, aU, aU]) (ls1 := [aR 145, aI a1, aI a1, aI v6, aU, aU]) (⟨Or.inl rfl, ⟨Or.inr rfl, ⟨Or.inl rfl, ⟨Or.inr rfl, ⟨Or.inl rfl, ⟨Or.inl rfl, trivial⟩⟩⟩⟩⟩⟩) h)
                    exact aX_seg 4 (fun n g => in_ cc (g)) t13
                exact aX_seg 2 (fun n g => g) (aX_callv (rfl) rfl rfl rfl k11 h2)
              exact aX_seg 1 (fun n g => ip cc (g)) t10
            · replace h := h.2 cc
              have t14 : aX xc_189 (aSeek xc_189 118) [aR 145, aI a1, aI a1, aU, aU, aU] [] (SH L) M3 o := by
                exact aX_seg 2 (fun n g => g) (h)
              exact aX_seg 1 (fun n g => in_ cc (g)) t14
          exact aX_seg 2 (fun n g => g) (aX_callv (rfl) rfl rfl rfl k9 h2)
        exact aX_seg 1 (fun n g => ip cc (g)) t8
      · replace h := h.2 cc
        have t15 : aX xc_189 (aSeek xc_189 10) [aR 145, aI a1, aI a1, aU, aU, aU] [] (SH L) M1 o := by
          exact aX_seg 2 (fun n g => g) (h)
        exact aX_seg 1 (fun n g => in_ cc (g)) t15
    exact aX_seg 4 (fun n g => g) (aX_callv (rfl) rfl rfl rfl k7 h2)
  exact q
set_option maxRecDepth 100000 in
theorem bl_189_12 {L : Nat} {a1 a2 a3 : Int} {M : aM} {o : aO} (h : (∃ (M1 : aM) (v2 : Int), aE 184 [aR 145, aI a2] (SH L) M ([aI v2], (SH L), M1) ∧ ((v2 = 0 → (((aW (a2 - a1)) ≤ 8 → (∃ (M3 : aM) (v4 : Int), aE 187 [aJ a3] (SH L) M1 ([aI v4], (SH L), M3) ∧ aX xc_189 (aSeek xc_189 67) [aR 145, aI a1, aI a2, aJ a3, aU, aU] [aI v4] (SH L) M3 o)) ∧ (¬ ((aW (a2 - a1)) ≤ 8) → aX xc_189 (aSeek xc_189 67) [aR 145, aI a1, aI a2, aJ a3, aU, aU] [aI ((-1))] (SH L) M1 o))) ∧ (¬ (v2 = 0) → ((8 ≤ (aW (a2 - a1)) → aX xc_189 (aSeek xc_189 45) [aR 145, aI a1, aI a2, aJ a3, aU, aU] [] (SH L) M1 o) ∧ (¬ (8 ≤ (aW (a2 - a1))) → (∃ (M5 : aM) (v6 : Int), aE 183 [aR 145, aI a2] (SH L) M1 ([aI v6], (SH L), M5) ∧ aX xc_189 (aSeek xc_189 45) [aR 145, aI a1, aI a2, aJ (aWL ((aWL ((aWL (a3 * 27)) + v6)) - 96)), aU, aU] [] (SH L) M5 o))))))) : aX xc_189 (aSeek xc_189 12) [aR 145, aI a1, aI a2, aJ a3, aU, aU] [] (SH L) M o := by
  obtain ⟨M1, v2, k7, h⟩ := h
  have h2 : aX xc_189 (aSeek xc_189 17) [aR 145, aI a1, aI a2, aJ a3, aU, aU] [aI v2] (SH L) M1 o := by
    by_cases cc : v2 = 0
    · replace h := h.1 cc
      have t8 : aX xc_189 (aSeek xc_189 51) [aR 145, aI a1, aI a2, aJ a3, aU, aU] [] (SH L) M1 o := by
        by_cases cc : (aW (a2 - a1)) ≤ 8
        · replace h := h.1 cc
          have t9 : aX xc_189 (aSeek xc_189 63) [aR 145, aI a1, aI a2, aJ a3, aU, aU] [] (SH L) M1 o := by
            obtain ⟨M3, v4, k10, h⟩ := h
            have h2 : aX xc_189 (aSeek xc_189 67) [aR 145, aI a1, aI a2, aJ a3, aU, aU] [aI v4] (SH L) M3 o := by
              exact h
            exact aX_seg 1 (fun n g => g) (aX_calls rfl rfl rfl k10 h2)
          exact aX_seg 5 (fun n g => ip cc (g)) t9
        · replace h := h.2 cc
          have t11 : aX xc_189 (aSeek xc_189 59) [aR 145, aI a1, aI a2, aJ a3, aU, aU] [] (SH L) M1 o := by
            exact aX_seg 2 (fun n g => g) (h)
          exact aX_seg 5 (fun n g => in_ cc (g)) t11
      exact aX_seg 1 (fun n g => ip cc (g)) t8
    · replace h := h.2 cc
      have t12 : aX xc_189 (aSeek xc_189 20) [aR 145, aI a1, aI a2, aJ a3, aU, aU] [] (SH L) M1 o := by
        by_cases cc : 8 ≤ (aW (a2 - a1))
        · replace h := h.1 cc
          have t13 : aX xc_189 (aSeek xc_189 45) [aR 145, aI a1, aI a2, aJ a3, aU, aU] [] (SH L) M1 o := by
            exact h
          exact aX_seg 5 (fun n g => ip cc (g)) t13
        · replace h := h.2 cc
          have t14 : aX xc_189 (aSeek xc_189 28) [aR 145, aI a1, aI a2, aJ a3, aU, aU] [] (SH L) M1 o := by
            obtain ⟨M5, v6, k15, h⟩ := h
            have h2 : aX xc_189 (aSeek xc_189 38) [aR 145, aI a1, aI a2, aJ a3, aU, aU] [aI v6, aJ (aWL (a3 * 27))] (SH L) M5 o := by
              exact aX_seg 5 (fun n g => g) (h)
            exact aX_seg 5 (fun n g => g) (aX_callv (rfl) rfl rfl rfl k15 h2)
          exact aX_seg 5 (fun n g => in_ cc (g)) t14
      exact aX_seg 1 (fun n g => in_ cc (g)) t12
  exact aX_seg 2 (fun n g => g) (aX_callv (rfl) rfl rfl rfl k7 h2)
set_option maxRecDepth 100000 in
theorem bl_189_45 {L : Nat} {a1 a2 a3 : Int} {M : aM} {o : aO} (h : aX xc_189 (aSeek xc_189 12) [aR 145, aI a1, aI (aW (a2 + 1)), aJ a3, aU, aU] [] (SH L) M o) : aX xc_189 (aSeek xc_189 45) [aR 145, aI a1, aI a2, aJ a3, aU, aU] [] (SH L) M o := by
  exact aX_seg 2 (fun n g => g) (h)
set_option maxRecDepth 100000 in
theorem bl_189_67 {L : Nat} {a1 a2 a3 b0 : Int} {M : aM} {o : aO} (h : (0 ≤ M 145 2 ∧ M 145 2 < aLn (SH L) 2 150) ∧ (((aW (a2 - a1)) ≤ 8 → ((b0 < 0 → aX xc_189 (aSeek xc_189 102) [aU, aI a1, aI a2, aU, aU, aI b0] [aI 0, aR 145] (SH L) (aSet M 150 (M 145 2) a3) o) ∧ (¬ (b0 < 0) → aX xc_189 (aSeek xc_189 102) [aU, aI a1, aI a2, aU, aU, aI b0] [aI 3, aR 145] (SH L) (aSet M 150 (M 145 2) a3) o))) ∧ (¬ ((aW (a2 - a1)) ≤ 8) → aX xc_189 (aSeek xc_189 102) [aU, aI a1, aI a2, aU, aU, aI b0] [aI 5, aR 145] (SH L) (aSet M 150 (M 145 2) a3) o))) : aX xc_189 (aSeek xc_189 67) [aR 145, aI a1, aI a2, aJ a3, aU, aU] [aI b0] (SH L) M o := by
  obtain ⟨c1, h⟩ := h
  by_cases cc : (aW (a2 - a1)) ≤ 8
  · replace h := h.1 cc
    have t2 : aX xc_189 (aSeek xc_189 92) [aR 145, aI a1, aI a2, aJ a3, aU, aI b0] [aR 145] (SH L) (aSet M 150 (M 145 2) a3) o := by
      by_cases cc : b0 < 0
      · replace h := h.1 cc
        have t3 : aX xc_189 (aSeek xc_189 101) [aR 145, aI a1, aI a2, aJ a3, aU, aI b0] [aR 145] (SH L) (aSet M 150 (M 145 2) a3) o := by
          exact aX_seg 1 (fun n g => g) (aX_le (ls := [aU, aI a1, aI a2, aU, aU, aI b0]) (ls1 := [aR 145, aI a1, aI a2, aJ a3, aU, aI b0]) (⟨Or.inl rfl, ⟨Or.inr rfl, ⟨Or.inr rfl, ⟨Or.inl rfl, ⟨Or.inl rfl, ⟨Or.inr rfl, trivial⟩⟩⟩⟩⟩⟩) h)
        exact aX_seg 2 (fun n g => ip cc (g)) t3
      · replace h := h.2 cc
        have t4 : aX xc_189 (aSeek xc_189 97) [aR 145, aI a1, aI a2, aJ a3, aU, aI b0] [aR 145] (SH L) (aSet M 150 (M 145 2) a3) o := by
          exact aX_seg 2 (fun n g => g) (aX_le (ls := [aU, aI a1, aI a2, aU, aU, aI b0]) (ls1 := [aR 145, aI a1, aI a2, aJ a3, aU, aI b0]) (⟨Or.inl rfl, ⟨Or.inr rfl, ⟨Or.inr rfl, ⟨Or.inl rfl, ⟨Or.inl rfl, ⟨Or.inr rfl, trivial⟩⟩⟩⟩⟩⟩) h)
        exact aX_seg 2 (fun n g => in_ cc (g)) t4
    exact aX_seg 13 (fun n g => ip c1 (ip cc (g))) t2
  · replace h := h.2 cc
    have t5 : aX xc_189 (aSeek xc_189 88) [aR 145, aI a1, aI a2, aJ a3, aU, aI b0] [aR 145] (SH L) (aSet M 150 (M 145 2) a3) o := by
      exact aX_seg 2 (fun n g => g) (aX_le (ls := [aU, aI a1, aI a2, aU, aU, aI b0]) (ls1 := [aR 145, aI a1, aI a2, aJ a3, aU, aI b0]) (⟨Or.inl rfl, ⟨Or.inr rfl, ⟨Or.inr rfl, ⟨Or.inl rfl, ⟨Or.inl rfl, ⟨Or.inr rfl, trivial⟩⟩⟩⟩⟩⟩) h)
    exact aX_seg 13 (fun n g => ip c1 (in_ cc (g))) t5
set_option maxRecDepth 100000 in
theorem bl_189_102 {L : Nat} {a1 a2 a5 b0 b1 : Int} {M : aM} {o : aO} (h : (aK (SH L) b0 = 22 ∧ ∃ (M1 : aM), aE 186 [aR b0, aI b1, aI a1, aI a5] (SH L) M ([], (SH L), M1) ∧ o = ([aI a2], (SH L), M1))) : aX xc_189 (aSeek xc_189 102) [aU, aI a1, aI a2, aU, aU, aI a5] [aI b1, aR b0] (SH L) M o := by
  obtain ⟨c2, h⟩ := h
  obtain ⟨M1, k3, h⟩ := h
  have h2 : aX xc_189 (aSeek xc_189 108) [aU, aI a1, aI a2, aU, aU, aI a5] [] (SH L) M1 o := by
    subst h
    exact ⟨2, rfl⟩
  exact aX_seg 2 (fun n g => g) (aX_callv (c2) rfl rfl rfl k3 h2)
set_option maxRecDepth 100000 in
theorem bl_189_120 {L : Nat} {a1 a2 a3 : Int} {M : aM} {o : aO} (h : (∃ (M1 : aM) (v2 : Int), aE 185 [aR 145, aI a2] (SH L) M ([aI v2], (SH L), M1) ∧ ((v2 = 0 → (((aW (a2 - a1)) ≤ 4 → aX xc_189 (aSeek xc_189 168) [aU, aI a1, aI a2, aI a3, aU, aU] [aI 1, aR 145] (SH L) M1 o) ∧ (¬ ((aW (a2 - a1)) ≤ 4) → aX xc_189 (aSeek xc_189 168) [aU, aI a1, aI a2, aI a3, aU, aU] [aI 5, aR 145] (SH L) M1 o))) ∧ (¬ (v2 = 0) → ((4 ≤ (aW (a2 - a1)) → aX xc_189 (aSeek xc_189 149) [aR 145, aI a1, aI a2, aI a3, aU, aU] [] (SH L) M1 o) ∧ (¬ (4 ≤ (aW (a2 - a1))) → (∃ (M3 : aM) (v4 : Int), aE 183 [aR 145, aI a2] (SH L) M1 ([aI v4], (SH L), M3) ∧ aX xc_189 (aSeek xc_189 149) [aR 145, aI a1, aI a2, aI (aW ((aW ((aW (10 * a3)) + v4)) - 48)), aU, aU] [] (SH L) M3 o))))))) : aX xc_189 (aSeek xc_189 120) [aR 145, aI a1, aI a2, aI a3, aU, aU] [] (SH L) M o := by
  obtain ⟨M1, v2, k5, h⟩ := h
  have h2 : aX xc_189 (aSeek xc_189 125) [aR 145, aI a1, aI a2, aI a3, aU, aU] [aI v2] (SH L) M1 o := by
    by_cases cc : v2 = 0
    · replace h := h.1 cc
      have t6 : aX xc_189 (aSeek xc_189 155) [aR 145, aI a1, aI a2, aI a3, aU, aU] [] (SH L) M1 o := by
        by_cases cc : (aW (a2 - a1)) ≤ 4
        · replace h := h.1 cc
          have t7 : aX xc_189 (aSeek xc_189 167) [aR 145, aI a1, aI a2, aI a3, aU, aU] [aR 145] (SH L) M1 o := by
            exact aX_seg 1 (fun n g => g) (aX_le (ls := [aU, aI a1, aI a2, aI a3, aU, aU]) (ls1 := [aR 145, aI a1, aI a2, aI a3, aU, aU]) (⟨Or.inl rfl, ⟨Or.inr rfl, ⟨Or.inr rfl, ⟨Or.inr rfl, ⟨Or.inl rfl, ⟨Or.inl rfl, trivial⟩⟩⟩⟩⟩⟩) h)
          exact aX_seg 6 (fun n g => ip cc (g)) t7
        · replace h := h.2 cc
          have t8 : aX xc_189 (aSeek xc_189 163) [aR 145, aI a1, aI a2, aI a3, aU, aU] [aR 145] (SH L) M1 o := by
            exact aX_seg 2 (fun n g => g) (aX_le (ls := [aU, aI a1, aI a2, aI a3, aU, aU]) (ls1 := [aR 145, aI a1, aI a2, aI a3, aU, aU]) (⟨Or.inl rfl, ⟨Or.inr rfl, ⟨Or.inr rfl, ⟨Or.inr rfl, ⟨Or.inl rfl, ⟨Or.inl rfl, trivial⟩⟩⟩⟩⟩⟩) h)
          exact aX_seg 6 (fun n g => in_ cc (g)) t8
      exact aX_seg 1 (fun n g => ip cc (g)) t6
    · replace h := h.2 cc
      have t9 : aX xc_189 (aSeek xc_189 128) [aR 145, aI a1, aI a2, aI a3, aU, aU] [] (SH L) M1 o := by
        by_cases cc : 4 ≤ (aW (a2 - a1))
        · replace h := h.1 cc
          have t10 : aX xc_189 (aSeek xc_189 149) [aR 145, aI a1, aI a2, aI a3, aU, aU] [] (SH L) M1 o := by
            exact h
          exact aX_seg 5 (fun n g => ip cc (g)) t10
        · replace h := h.2 cc
          have t11 : aX xc_189 (aSeek xc_189 135) [aR 145, aI a1, aI a2, aI a3, aU, aU] [] (SH L) M1 o := by
            obtain ⟨M3, v4, k12, h⟩ := h
            have h2 : aX xc_189 (aSeek xc_189 144) [aR 145, aI a1, aI a2, aI a3, aU, aU] [aI v4, aI (aW (10 * a3))] (SH L) M3 o := by
              exact aX_seg 4 (fun n g => g) (h)
            exact aX_seg 5 (fun n g => g) (aX_callv (rfl) rfl rfl rfl k12 h2)
          exact aX_seg 5 (fun n g => in_ cc (g)) t11
      exact aX_seg 1 (fun n g => in_ cc (g)) t9
  exact aX_seg 2 (fun n g => g) (aX_callv (rfl) rfl rfl rfl k5 h2)
set_option maxRecDepth 100000 in
theorem bl_189_149 {L : Nat} {a1 a2 a3 : Int} {M : aM} {o : aO} (h : aX xc_189 (aSeek xc_189 120) [aR 145, aI a1, aI (aW (a2 + 1)), aI a3, aU, aU] [] (SH L) M o) : aX xc_189 (aSeek xc_189 149) [aR 145, aI a1, aI a2, aI a3, aU, aU] [] (SH L) M o := by
  exact aX_seg 2 (fun n g => g) (h)
set_option maxRecDepth 100000 in
theorem bl_189_168 {L : Nat} {a1 a2 a3 b0 b1 : Int} {M : aM} {o : aO} (h : (aK (SH L) b0 = 22 ∧ ∃ (M1 : aM), aE 186 [aR b0, aI b1, aI a1, aI a3] (SH L) M ([], (SH L), M1) ∧ o = ([aI a2], (SH L), M1))) : aX xc_189 (aSeek xc_189 168) [aU, aI a1, aI a2, aI a3, aU, aU] [aI b1, aR b0] (SH L) M o := by
  obtain ⟨c2, h⟩ := h
  obtain ⟨M1, k3, h⟩ := h
  have h2 : aX xc_189 (aSeek xc_189 173) [aU, aI a1, aI a2, aI a3, aU, aU] [] (SH L) M1 o := by
    subst h
    exact ⟨2, rfl⟩
  exact aX_seg 2 (fun n g => g) (aX_callv (c2) rfl rfl rfl k3 h2)
set_option maxRecDepth 100000 in
theorem bl_189_191 {L : Nat} {a1 a3 b0 b1 : Int} {M : aM} {o : aO} (h : (aK (SH L) b0 = 22 ∧ ∃ (M1 : aM), aE 186 [aR b0, aI b1, aI a1, aI a3] (SH L) M ([], (SH L), M1) ∧ ((a3 < 300 → o = ([aI (aW (a1 + 1))], (SH L), M1)) ∧ (¬ (a3 < 300) → o = ([aI (aW (a1 + 2))], (SH L), M1))))) : aX xc_189 (aSeek xc_189 191) [aU, aI a1, aU, aI a3, aU, aU] [aI b1, aR b0] (SH L) M o := by
  obtain ⟨c2, h⟩ := h
  obtain ⟨M1, k3, h⟩ := h
  have h2 : aX xc_189 (aSeek xc_189 196) [aU, aI a1, aU, aI a3, aU, aU] [] (SH L) M1 o := by
    by_cases cc : a3 < 300
    · replace h := h.1 cc
      have t4 : aX xc_189 (aSeek xc_189 208) [aU, aI a1, aU, aI a3, aU, aU] [aI a1] (SH L) M1 o := by
        subst h
        exact ⟨3, rfl⟩
      exact aX_seg 4 (fun n g => ip cc (g)) t4
    · replace h := h.2 cc
      have t5 : aX xc_189 (aSeek xc_189 204) [aU, aI a1, aU, aI a3, aU, aU] [aI a1] (SH L) M1 o := by
        subst h
        exact ⟨4, rfl⟩
      exact aX_seg 4 (fun n g => in_ cc (g)) t5
  exact aX_seg 2 (fun n g => g) (aX_callv (c2) rfl rfl rfl k3 h2)
/- TypeLockModel.scanAll()V -/
set_option maxRecDepth 100000 in
theorem en_190 {L : Nat} {M : aM} {o : aO} (h : aX xc_190 (aSeek xc_190 9) [aR 145, aI 0, aI 1, aU] [] (SH L) (aSet M 145 2 0) o) : aE 190 [aR 145] (SH L) M o := by
  have q : aX xc_190 (aSeek xc_190 0) [aR 145, aU, aU, aU] [] (SH L) M o := by
    exact aX_seg 7 (fun n g => g) (h)
  exact q
set_option maxRecDepth 100000 in
theorem bl_190_9 {L : Nat} {a1 a2 : Int} {M : aM} {o : aO} (h : (((M 145 0) ≤ a1 → aX xc_190 (aSeek xc_190 87) [aR 145, aU, aI a2, aU] [] (SH L) M o) ∧ (¬ ((M 145 0) ≤ a1) → ((a2 = 0 → aX xc_190 (aSeek xc_190 87) [aR 145, aU, aI a2, aU] [] (SH L) M o) ∧ (¬ (a2 = 0) → (∃ (M1 : aM) (v2 : Int), aE 183 [aR 145, aI a1] (SH L) M ([aI v2], (SH L), M1) ∧ ((v2 = 32 → aX xc_190 (aSeek xc_190 51) [aR 145, aI a1, aI a2, aU] [] (SH L) M1 o) ∧ (¬ (v2 = 32) → ((v2 = 9 → aX xc_190 (aSeek xc_190 51) [aR 145, aI a1, aI a2, aU] [] (SH L) M1 o) ∧ (¬ (v2 = 9) → ((v2 = 10 → aX xc_190 (aSeek xc_190 51) [aR 145, aI a1, aI a2, aU] [] (SH L) M1 o) ∧ (¬ (v2 = 10) → ((¬ v2 = 13 → (∃ (M3 : aM) (v4 : Int), aE 189 [aR 145, aI a1] (SH L) M1 ([aI v4], (SH L), M3) ∧ (0 ≤ aW ((M3 145 2) - 1) ∧ aW ((M3 145 2) - 1) < aLn (SH L) 1 147) ∧ (((M3 147 (aW ((M3 145 2) - 1))) = 5 → aX xc_190 (aSeek xc_190 83) [aR 145, aI v4, aU, aU] [aI 0] (SH L) M3 o) ∧ (¬ ((M3 147 (aW ((M3 145 2) - 1))) = 5) → aX xc_190 (aSeek xc_190 83) [aR 145, aI v4, aU, aU] [aI 1] (SH L) M3 o)))) ∧ (¬ (¬ v2 = 13) → aX xc_190 (aSeek xc_190 51) [aR 145, aI a1, aI a2, aU] [] (SH L) M1 o)))))))))))))) : aX xc_190 (aSeek xc_190 9) [aR 145, aI a1, aI a2, aU] [] (SH L) M o := by
  by_cases cc : (M 145 0) ≤ a1
  · replace h := h.1 cc
    have t5 : aX xc_190 (aSeek xc_190 87) [aR 145, aI a1, aI a2, aU] [] (SH L) M o := by
      exact aX_le (ls := [aR 145, aU, aI a2, aU]) (ls1 := [aR 145, aI a1, aI a2, aU]) (⟨Or.inr rfl, ⟨Or.inl rfl, ⟨Or.inr rfl, ⟨Or.inl rfl, trivial⟩⟩⟩⟩) h
    exact aX_seg 4 (fun n g => ip cc (g)) t5
  · replace h := h.2 cc
    have t6 : aX xc_190 (aSeek xc_190 17) [aR 145, aI a1, aI a2, aU] [] (SH L) M o := by
      by_cases cc : a2 = 0
      · replace h := h.1 cc
        have t7 : aX xc_190 (aSeek xc_190 87) [aR 145, aI a1, aI a2, aU] [] (SH L) M o := by
          exact aX_le (ls := [aR 145, aU, aI a2, aU]) (ls1 := [aR 145, aI a1, aI a2, aU]) (⟨Or.inr rfl, ⟨Or.inl rfl, ⟨Or.inr rfl, ⟨Or.inl rfl, trivial⟩⟩⟩⟩) h
        exact aX_seg 2 (fun n g => ip cc (g)) t7
      · replace h := h.2 cc
        have t8 : aX xc_190 (aSeek xc_190 21) [aR 145, aI a1, aI a2, aU] [] (SH L) M o := by
          obtain ⟨M1, v2, k9, h⟩ := h
          have h2 : aX xc_190 (aSeek xc_190 26) [aR 145, aI a1, aI a2, aU] [aI v2] (SH L) M1 o := by
            by_cases cc : v2 = 32
            · replace h := h.1 cc
              have t10 : aX xc_190 (aSeek xc_190 51) [aR 145, aI a1, aI a2, aI v2] [] (SH L) M1 o := by
                exact aX_le (ls := [aR 145, aI a1, aI a2, aU]) (ls1 := [aR 145, aI a1, aI a2, aI v2]) (⟨Or.inr rfl, ⟨Or.inr rfl, ⟨Or.inr rfl, ⟨Or.inl rfl, trivial⟩⟩⟩⟩) h
              exact aX_seg 4 (fun n g => ip cc (g)) t10
            · replace h := h.2 cc
              have t11 : aX xc_190 (aSeek xc_190 33) [aR 145, aI a1, aI a2, aI v2] [] (SH L) M1 o := by
                by_cases cc : v2 = 9
                · replace h := h.1 cc
                  have t12 : aX xc_190 (aSeek xc_190 51) [aR 145, aI a1, aI a2, aI v2] [] (SH L) M1 o := by
                    exact aX_le (ls := [aR 145, aI a1, aI a2, aU]) (ls1 := [aR 145, aI a1, aI a2, aI v2]) (⟨Or.inr rfl, ⟨Or.inr rfl, ⟨Or.inr rfl, ⟨Or.inl rfl, trivial⟩⟩⟩⟩) h
                  exact aX_seg 3 (fun n g => ip cc (g)) t12
                · replace h := h.2 cc
                  have t13 : aX xc_190 (aSeek xc_190 39) [aR 145, aI a1, aI a2, aI v2] [] (SH L) M1 o := by
                    by_cases cc : v2 = 10
                    · replace h := h.1 cc
                      have t14 : aX xc_190 (aSeek xc_190 51) [aR 145, aI a1, aI a2, aI v2] [] (SH L) M1 o := by
                        exact aX_le (ls := [aR 145, aI a1, aI a2, aU]) (ls1 := [aR 145, aI a1, aI a2, aI v2]) (⟨Or.inr rfl, ⟨Or.inr rfl, ⟨Or.inr rfl, ⟨Or.inl rfl, trivial⟩⟩⟩⟩) h
                      exact aX_seg 3 (fun n g => ip cc (g)) t14
                    · replace h := h.2 cc
                      have t15 : aX xc_190 (aSeek xc_190 45) [aR 145, aI a1, aI a2, aI v2] [] (SH L) M1 o := by
                        by_cases cc : ¬ v2 = 13
                        · replace h := h.1 cc
                          have t16 : aX xc_190 (aSeek xc_190 57) [aR 145, aI a1, aI a2, aI v2] [] (SH L) M1 o := by
                            obtain ⟨M3, v4, k17, h⟩ := h
                            have h2 : aX xc_190 (aSeek xc_190 62) [aR 145, aI a1, aI a2, aI v2] [aI v4] (SH L) M3 o := by
                              obtain ⟨c18, h⟩ := h
                              by_cases cc : (M3 147 (aW ((M3 145 2) - 1))) = 5
                              · replace h := h.1 cc
                                have t19 : aX xc_190 (aSeek xc_190 82) [aR 145, aI v4, aI a2, aI v2] [] (SH L) M3 o := by
                                  exact aX_seg 1 (fun n g => g) (aX_le (ls := [aR 145, aI v4, aU, aU]) (ls1 := [aR 145, aI v4, aI a2, aI v2]) (⟨Or.inr rfl, ⟨Or.inr rfl, ⟨Or.inl rfl, ⟨Or.inl rfl, trivial⟩⟩⟩⟩) h)
                                exact aX_seg 10 (fun n g => ip c18 (ip cc (g))) t19
                              · replace h := h.2 cc
                                have t20 : aX xc_190 (aSeek xc_190 78) [aR 145, aI v4, aI a2, aI v2] [] (SH L) M3 o := by
                                  exact aX_seg 2 (fun n g => g) (aX_le (ls := [aR 145, aI v4, aU, aU]) (ls1 := [aR 145, aI v4, aI a2, aI v2]) (⟨Or.inr rfl, ⟨Or.inr rfl, ⟨Or.inl rfl, ⟨Or.inl rfl, trivial⟩⟩⟩⟩) h)
                                exact aX_seg 10 (fun n g => ip c18 (in_ cc (g))) t20
                            exact aX_seg 2 (fun n g => g) (aX_callv (rfl) rfl rfl rfl k17 h2)
                          exact aX_seg 3 (fun n g => ip cc (g)) t16
                        · replace h := h.2 cc
                          have t21 : aX xc_190 (aSeek xc_190 51) [aR 145, aI a1, aI a2, aI v2] [] (SH L) M1 o := by
                            exact aX_le (ls := [aR 145, aI a1, aI a2, aU]) (ls1 := [aR 145, aI a1, aI a2, aI v2]) (⟨Or.inr rfl, ⟨Or.inr rfl, ⟨Or.inr rfl, ⟨Or.inl rfl, trivial⟩⟩⟩⟩) h
                          exact aX_seg 3 (fun n g => in_ cc (g)) t21
                      exact aX_seg 3 (fun n g => in_ cc (g)) t15
                  exact aX_seg 3 (fun n g => in_ cc (g)) t13
              exact aX_seg 4 (fun n g => in_ cc (g)) t11
          exact aX_seg 2 (fun n g => g) (aX_callv (rfl) rfl rfl rfl k9 h2)
        exact aX_seg 2 (fun n g => in_ cc (g)) t8
    exact aX_seg 4 (fun n g => in_ cc (g)) t6
set_option maxRecDepth 100000 in
theorem bl_190_51 {L : Nat} {a1 a2 : Int} {M : aM} {o : aO} (h : aX xc_190 (aSeek xc_190 9) [aR 145, aI (aW (a1 + 1)), aI a2, aU] [] (SH L) M o) : aX xc_190 (aSeek xc_190 51) [aR 145, aI a1, aI a2, aU] [] (SH L) M o := by
  exact aX_seg 2 (fun n g => g) (h)
set_option maxRecDepth 100000 in
theorem bl_190_83 {L : Nat} {a1 b0 : Int} {M : aM} {o : aO} (h : aX xc_190 (aSeek xc_190 9) [aR 145, aI a1, aI b0, aU] [] (SH L) M o) : aX xc_190 (aSeek xc_190 83) [aR 145, aI a1, aU, aU] [aI b0] (SH L) M o := by
  exact aX_seg 2 (fun n g => g) (h)
set_option maxRecDepth 100000 in
theorem bl_190_87 {L : Nat} {a2 : Int} {M : aM} {o : aO} (h : ((a2 = 0 → o = ([], (SH L), M)) ∧ (¬ (a2 = 0) → (∃ (M1 : aM), aE 186 [aR 145, aI 4, aI (M 145 0), aI 0] (SH L) M ([], (SH L), M1) ∧ o = ([], (SH L), M1))))) : aX xc_190 (aSeek xc_190 87) [aR 145, aU, aI a2, aU] [] (SH L) M o := by
  by_cases cc : a2 = 0
  · replace h := h.1 cc
    have t2 : aX xc_190 (aSeek xc_190 101) [aR 145, aU, aI a2, aU] [] (SH L) M o := by
      subst h
      exact ⟨1, rfl⟩
    exact aX_seg 2 (fun n g => ip cc (g)) t2
  · replace h := h.2 cc
    have t3 : aX xc_190 (aSeek xc_190 91) [aR 145, aU, aI a2, aU] [] (SH L) M o := by
      obtain ⟨M1, k4, h⟩ := h
      have h2 : aX xc_190 (aSeek xc_190 101) [aR 145, aU, aI a2, aU] [] (SH L) M1 o := by
        subst h
        exact ⟨1, rfl⟩
      exact aX_seg 5 (fun n g => g) (aX_callv (rfl) rfl rfl rfl k4 h2)
    exact aX_seg 2 (fun n g => in_ cc (g)) t3
/- TypeLockModel.wrong(I)Z -/
set_option maxRecDepth 100000 in
theorem en_191 {L : Nat} {a1 : Int} {M : aM} {o : aO} (h : (0 ≤ (aSet M 145 8 a1) 145 7 ∧ (aSet M 145 8 a1) 145 7 < aLn (SH L) 1 148) ∧ o = ([aI 0], (SH L), aSet (aSet M 145 8 a1) 145 9 ((aSet M 145 8 a1) 148 ((aSet M 145 8 a1) 145 7)))) : aE 191 [aR 145, aI a1] (SH L) M o := by
  have q : aX xc_191 (aSeek xc_191 0) [aR 145, aI a1] [] (SH L) M o := by
    obtain ⟨c1, h⟩ := h
    subst h
    exact ⟨12, ip c1 (rfl)⟩
  exact q
/- TypeLockModel.tells(II)V -/
set_option maxRecDepth 100000 in
theorem en_192 {L : Nat} {a1 a2 : Int} {M : aM} {o : aO} (h : (0 ≤ a2 ∧ a2 < aLn (SH L) 1 148) ∧ (((M 145 10) = 0 → aX xc_192 (aSeek xc_192 39) [aR 145, aI a1, aU, aI (M 148 a2)] [] (SH L) M o) ∧ (¬ ((M 145 10) = 0) → (((M 145 11) < (M 148 a2) → o = ([], (SH L), M)) ∧ (¬ ((M 145 11) < (M 148 a2)) → ((¬ (M 148 a2) = (M 145 11) → aX xc_192 (aSeek xc_192 39) [aR 145, aI a1, aU, aI (M 148 a2)] [] (SH L) M o) ∧ (¬ (¬ (M 148 a2) = (M 145 11)) → ((a1 < (M 145 10) → aX xc_192 (aSeek xc_192 39) [aR 145, aI a1, aU, aI (M 148 a2)] [] (SH L) M o) ∧ (¬ (a1 < (M 145 10)) → o = ([], (SH L), M)))))))))) : aE 192 [aR 145, aI a1, aI a2] (SH L) M o := by
  have q : aX xc_192 (aSeek xc_192 0) [aR 145, aI a1, aI a2, aU] [] (SH L) M o := by
    obtain ⟨c1, h⟩ := h
    by_cases cc : (M 145 10) = 0
    · replace h := h.1 cc
      have t2 : aX xc_192 (aSeek xc_192 39) [aR 145, aI a1, aI a2, aI (M 148 a2)] [] (SH L) M o := by
        exact aX_le (ls := [aR 145, aI a1, aU, aI (M 148 a2)]) (ls1 := [aR 145, aI a1, aI a2, aI (M 148 a2)]) (⟨Or.inr rfl, ⟨Or.inr rfl, ⟨Or.inl rfl, ⟨Or.inr rfl, trivial⟩⟩⟩⟩) h
      exact aX_seg 8 (fun n g => ip c1 (ip cc (g))) t2
    · replace h := h.2 cc
      have t3 : aX xc_192 (aSeek xc_192 14) [aR 145, aI a1, aI a2, aI (M 148 a2)] [] (SH L) M o := by
        by_cases cc : (M 145 11) < (M 148 a2)
        · replace h := h.1 cc
          have t4 : aX xc_192 (aSeek xc_192 38) [aR 145, aI a1, aI a2, aI (M 148 a2)] [] (SH L) M o := by
            subst h
            exact ⟨1, rfl⟩
          exact aX_seg 4 (fun n g => ip cc (g)) t4
        · replace h := h.2 cc
          have t5 : aX xc_192 (aSeek xc_192 22) [aR 145, aI a1, aI a2, aI (M 148 a2)] [] (SH L) M o := by
            by_cases cc : ¬ (M 148 a2) = (M 145 11)
            · replace h := h.1 cc
              have t6 : aX xc_192 (aSeek xc_192 39) [aR 145, aI a1, aI a2, aI (M 148 a2)] [] (SH L) M o := by
                exact aX_le (ls := [aR 145, aI a1, aU, aI (M 148 a2)]) (ls1 := [aR 145, aI a1, aI a2, aI (M 148 a2)]) (⟨Or.inr rfl, ⟨Or.inr rfl, ⟨Or.inl rfl, ⟨Or.inr rfl, trivial⟩⟩⟩⟩) h
              exact aX_seg 4 (fun n g => ip cc (g)) t6
            · replace h := h.2 cc
              have t7 : aX xc_192 (aSeek xc_192 30) [aR 145, aI a1, aI a2, aI (M 148 a2)] [] (SH L) M o := by
                by_cases cc : a1 < (M 145 10)
                · replace h := h.1 cc
                  have t8 : aX xc_192 (aSeek xc_192 39) [aR 145, aI a1, aI a2, aI (M 148 a2)] [] (SH L) M o := by
                    exact aX_le (ls := [aR 145, aI a1, aU, aI (M 148 a2)]) (ls1 := [aR 145, aI a1, aI a2, aI (M 148 a2)]) (⟨Or.inr rfl, ⟨Or.inr rfl, ⟨Or.inl rfl, ⟨Or.inr rfl, trivial⟩⟩⟩⟩) h
                  exact aX_seg 4 (fun n g => ip cc (g)) t8
                · replace h := h.2 cc
                  have t9 : aX xc_192 (aSeek xc_192 38) [aR 145, aI a1, aI a2, aI (M 148 a2)] [] (SH L) M o := by
                    subst h
                    exact ⟨1, rfl⟩
                  exact aX_seg 4 (fun n g => in_ cc (g)) t9
              exact aX_seg 4 (fun n g => in_ cc (g)) t7
          exact aX_seg 4 (fun n g => in_ cc (g)) t5
      exact aX_seg 8 (fun n g => ip c1 (in_ cc (g))) t3
  exact q
set_option maxRecDepth 100000 in
theorem bl_192_39 {L : Nat} {a1 a3 : Int} {M : aM} {o : aO} (h : o = ([], (SH L), aSet (aSet M 145 10 a1) 145 11 a3)) : aX xc_192 (aSeek xc_192 39) [aR 145, aI a1, aU, aI a3] [] (SH L) M o := by
  subst h
  exact ⟨7, rfl⟩
/- TypeLockModel.pass()Z -/
set_option maxRecDepth 100000 in
theorem en_193 {L : Nat} {M : aM} {o : aO} (h : (((M 145 7) < 400 → o = ([aI 1], (SH L), aSet M 145 7 (aW ((M 145 7) + 1)))) ∧ (¬ ((M 145 7) < 400) → (∃ (M1 : aM) (v2 : Int), aE 191 [aR 145, aI 2] (SH L) M ([aI v2], (SH L), M1) ∧ ((v2 : Int) = 0 ∨ (v2 : Int) = 1) ∧ o = ([aI v2], (SH L), M1))))) : aE 193 [aR 145] (SH L) M o := by
  have q : aX xc_193 (aSeek xc_193 0) [aR 145] [] (SH L) M o := by
    by_cases cc : (M 145 7) < 400
    · replace h := h.1 cc
      have t3 : aX xc_193 (aSeek xc_193 16) [aR 145] [] (SH L) M o := by
        subst h
        exact ⟨8, rfl⟩
      exact aX_seg 4 (fun n g => ip cc (g)) t3
    · replace h := h.2 cc
      have t4 : aX xc_193 (aSeek xc_193 10) [aR 145] [] (SH L) M o := by
        obtain ⟨M1, v2, k5, h⟩ := h
        have h2 : aX xc_193 (aSeek xc_193 15) [aR 145] [aI v2] (SH L) M1 o := by
          obtain ⟨c6, h⟩ := h
          subst h
          exact ⟨1, ip c6 (rfl)⟩
        exact aX_seg 2 (fun n g => g) (aX_callv (rfl) rfl rfl rfl k5 h2)
      exact aX_seg 4 (fun n g => in_ cc (g)) t4
  exact q
/- TypeLockModel.isSign(I)Z -/
set_option maxRecDepth 100000 in
theorem en_194 {L : Nat} {a1 : Int} {M : aM} {o : aO} (h : (0 ≤ M 145 7 ∧ M 145 7 < aLn (SH L) 1 147) ∧ ((¬ (M 147 (M 145 7)) = 2 → o = ([aI 0], (SH L), M)) ∧ (¬ (¬ (M 147 (M 145 7)) = 2) → (0 ≤ M 145 7 ∧ M 145 7 < aLn (SH L) 1 149) ∧ ((¬ (M 149 (M 145 7)) = a1 → o = ([aI 0], (SH L), M)) ∧ (¬ (¬ (M 149 (M 145 7)) = a1) → o = ([aI 1], (SH L), M)))))) : aE 194 [aR 145, aI a1] (SH L) M o := by
  have q : aX xc_194 (aSeek xc_194 0) [aR 145, aI a1] [] (SH L) M o := by
    obtain ⟨c1, h⟩ := h
    by_cases cc : ¬ (M 147 (M 145 7)) = 2
    · replace h := h.1 cc
      have t2 : aX xc_194 (aSeek xc_194 30) [aR 145, aI a1] [] (SH L) M o := by
        subst h
        exact ⟨2, rfl⟩
      exact aX_seg 7 (fun n g => ip c1 (ip cc (g))) t2
    · replace h := h.2 cc
      have t3 : aX xc_194 (aSeek xc_194 13) [aR 145, aI a1] [] (SH L) M o := by
        obtain ⟨c4, h⟩ := h
        by_cases cc : ¬ (M 149 (M 145 7)) = a1
        · replace h := h.1 cc
          have t5 : aX xc_194 (aSeek xc_194 30) [aR 145, aI a1] [] (SH L) M o := by
            subst h
            exact ⟨2, rfl⟩
          exact aX_seg 7 (fun n g => ip c4 (ip cc (g))) t5
        · replace h := h.2 cc
          have t6 : aX xc_194 (aSeek xc_194 26) [aR 145, aI a1] [] (SH L) M o := by
            subst h
            exact ⟨3, rfl⟩
          exact aX_seg 7 (fun n g => ip c4 (in_ cc (g))) t6
      exact aX_seg 7 (fun n g => ip c1 (in_ cc (g))) t3
  exact q
/- TypeLockModel.isWord(I)Z -/
set_option maxRecDepth 100000 in
theorem en_195 {L : Nat} {a1 : Int} {M : aM} {o : aO} (h : (0 ≤ M 145 7 ∧ M 145 7 < aLn (SH L) 1 147) ∧ ((¬ (M 147 (M 145 7)) = 3 → o = ([aI 0], (SH L), M)) ∧ (¬ (¬ (M 147 (M 145 7)) = 3) → (0 ≤ M 145 7 ∧ M 145 7 < aLn (SH L) 1 149) ∧ ((¬ (M 149 (M 145 7)) = a1 → o = ([aI 0], (SH L), M)) ∧ (¬ (¬ (M 149 (M 145 7)) = a1) → o = ([aI 1], (SH L), M)))))) : aE 195 [aR 145, aI a1] (SH L) M o := by
  have q : aX xc_195 (aSeek xc_195 0) [aR 145, aI a1] [] (SH L) M o := by
    obtain ⟨c1, h⟩ := h
    by_cases cc : ¬ (M 147 (M 145 7)) = 3
    · replace h := h.1 cc
      have t2 : aX xc_195 (aSeek xc_195 30) [aR 145, aI a1] [] (SH L) M o := by
        subst h
        exact ⟨2, rfl⟩
      exact aX_seg 7 (fun n g => ip c1 (ip cc (g))) t2
    · replace h := h.2 cc
      have t3 : aX xc_195 (aSeek xc_195 13) [aR 145, aI a1] [] (SH L) M o := by
        obtain ⟨c4, h⟩ := h
        by_cases cc : ¬ (M 149 (M 145 7)) = a1
        · replace h := h.1 cc
          have t5 : aX xc_195 (aSeek xc_195 30) [aR 145, aI a1] [] (SH L) M o := by
            subst h
            exact ⟨2, rfl⟩
          exact aX_seg 7 (fun n g => ip c4 (ip cc (g))) t5
        · replace h := h.2 cc
          have t6 : aX xc_195 (aSeek xc_195 26) [aR 145, aI a1] [] (SH L) M o := by
            subst h
            exact ⟨3, rfl⟩
          exact aX_seg 7 (fun n g => ip c4 (in_ cc (g))) t6
      exact aX_seg 7 (fun n g => ip c1 (in_ cc (g))) t3
  exact q
/- TypeLockModel.takes(I)Z -/
set_option maxRecDepth 100000 in
theorem en_196 {L : Nat} {a1 : Int} {M : aM} {o : aO} (h : (0 ≤ M 145 7 ∧ M 145 7 < aLn (SH L) 1 147) ∧ ((¬ (M 147 (M 145 7)) = a1 → (∃ (M1 : aM) (v2 : Int), aE 191 [aR 145, aI 1] (SH L) M ([aI v2], (SH L), M1) ∧ ((v2 : Int) = 0 ∨ (v2 : Int) = 1) ∧ o = ([aI v2], (SH L), M1))) ∧ (¬ (¬ (M 147 (M 145 7)) = a1) → (∃ (M3 : aM) (v4 : Int), aE 193 [aR 145] (SH L) M ([aI v4], (SH L), M3) ∧ ((v4 : Int) = 0 ∨ (v4 : Int) = 1) ∧ o = ([aI v4], (SH L), M3))))) : aE 196 [aR 145, aI a1] (SH L) M o := by
  have q : aX xc_196 (aSeek xc_196 0) [aR 145, aI a1] [] (SH L) M o := by
    obtain ⟨c5, h⟩ := h
    by_cases cc : ¬ (M 147 (M 145 7)) = a1
    · replace h := h.1 cc
      have t6 : aX xc_196 (aSeek xc_196 20) [aR 145, aI a1] [] (SH L) M o := by
        obtain ⟨M1, v2, k7, h⟩ := h
        have h2 : aX xc_196 (aSeek xc_196 25) [aR 145, aI a1] [aI v2] (SH L) M1 o := by
          obtain ⟨c8, h⟩ := h
          subst h
          exact ⟨1, ip c8 (rfl)⟩
        exact aX_seg 2 (fun n g => g) (aX_callv (rfl) rfl rfl rfl k7 h2)
      exact aX_seg 7 (fun n g => ip c5 (ip cc (g))) t6
    · replace h := h.2 cc
      have t9 : aX xc_196 (aSeek xc_196 13) [aR 145, aI a1] [] (SH L) M o := by
        obtain ⟨M3, v4, k10, h⟩ := h
        have h2 : aX xc_196 (aSeek xc_196 17) [aR 145, aI a1] [aI v4] (SH L) M3 o := by
          obtain ⟨c11, h⟩ := h
          subst h
          exact ⟨2, ip c11 (rfl)⟩
        exact aX_seg 1 (fun n g => g) (aX_callv (rfl) rfl rfl rfl k10 h2)
      exact aX_seg 7 (fun n g => ip c5 (in_ cc (g))) t9
  exact q
/- TypeLockModel.takesInt(II)Z -/
set_option maxRecDepth 100000 in
theorem en_197 {L : Nat} {a1 a2 : Int} {M : aM} {o : aO} (h : (∃ (M1 : aM) (v2 : Int), aE 196 [aR 145, aI 1] (SH L) M ([aI v2], (SH L), M1) ∧ ((¬ v2 = 0 → (0 ≤ M 145 7 ∧ M 145 7 < aLn (SH L) 1 149) ∧ ((((aSet M1 145 53 (M1 149 (M 145 7))) 145 53) < a1 → aX xc_197 (aSeek xc_197 41) [aR 145, aU, aU, aI (M 145 7)] [] (SH L) (aSet M1 145 53 (M1 149 (M 145 7))) o) ∧ (¬ (((aSet M1 145 53 (M1 149 (M 145 7))) 145 53) < a1) → ((((aSet M1 145 53 (M1 149 (M 145 7))) 145 53) ≤ a2 → o = ([aI 1], (SH L), aSet M1 145 53 (M1 149 (M 145 7)))) ∧ (¬ (((aSet M1 145 53 (M1 149 (M 145 7))) 145 53) ≤ a2) → aX xc_197 (aSeek xc_197 41) [aR 145, aU, aU, aI (M 145 7)] [] (SH L) (aSet M1 145 53 (M1 149 (M 145 7))) o))))) ∧ (¬ (¬ v2 = 0) → o = ([aI 0], (SH L), M1))))) : aE 197 [aR 145, aI a1, aI a2] (SH L) M o := by
  have q : aX xc_197 (aSeek xc_197 0) [aR 145, aI a1, aI a2, aU] [] (SH L) M o := by
    obtain ⟨M1, v2, k3, h⟩ := h
    have h2 : aX xc_197 (aSeek xc_197 10) [aR 145, aI a1, aI a2, aI (M 145 7)] [aI v2] (SH L) M1 o := by
      by_cases cc : ¬ v2 = 0
      · replace h := h.1 cc
        have t4 : aX xc_197 (aSeek xc_197 15) [aR 145, aI a1, aI a2, aI (M 145 7)] [] (SH L) M1 o := by
          obtain ⟨c5, h⟩ := h
          by_cases cc : ((aSet M1 145 53 (M1 149 (M 145 7))) 145 53) < a1
          · replace h := h.1 cc
            have t6 : aX xc_197 (aSeek xc_197 41) [aR 145, aI a1, aI a2, aI (M 145 7)] [] (SH L) (aSet M1 145 53 (M1 149 (M 145 7))) o := by
              exact aX_le (ls := [aR 145, aU, aU, aI (M 145 7)]) (ls1 := [aR 145, aI a1, aI a2, aI (M 145 7)]) (⟨Or.inr rfl, ⟨Or.inl rfl, ⟨Or.inl rfl, ⟨Or.inr rfl, trivial⟩⟩⟩⟩) h
            exact aX_seg 10 (fun n g => ip c5 (ip cc (g))) t6
          · replace h := h.2 cc
            have t7 : aX xc_197 (aSeek xc_197 33) [aR 145, aI a1, aI a2, aI (M 145 7)] [] (SH L) (aSet M1 145 53 (M1 149 (M 145 7))) o := by
              by_cases cc : ((aSet M1 145 53 (M1 149 (M 145 7))) 145 53) ≤ a2
              · replace h := h.1 cc
                have t8 : aX xc_197 (aSeek xc_197 47) [aR 145, aI a1, aI a2, aI (M 145 7)] [] (SH L) (aSet M1 145 53 (M1 149 (M 145 7))) o := by
                  subst h
                  exact ⟨2, rfl⟩
                exact aX_seg 4 (fun n g => ip cc (g)) t8
              · replace h := h.2 cc
                have t9 : aX xc_197 (aSeek xc_197 41) [aR 145, aI a1, aI a2, aI (M 145 7)] [] (SH L) (aSet M1 145 53 (M1 149 (M 145 7))) o := by
                  exact aX_le (ls := [aR 145, aU, aU, aI (M 145 7)]) (ls1 := [aR 145, aI a1, aI a2, aI (M 145 7)]) (⟨Or.inr rfl, ⟨Or.inl rfl, ⟨Or.inl rfl, ⟨Or.inr rfl, trivial⟩⟩⟩⟩) h
                exact aX_seg 4 (fun n g => in_ cc (g)) t9
            exact aX_seg 10 (fun n g => ip c5 (in_ cc (g))) t7
        exact aX_seg 1 (fun n g => ip cc (g)) t4
      · replace h := h.2 cc
        have t10 : aX xc_197 (aSeek xc_197 13) [aR 145, aI a1, aI a2, aI (M 145 7)] [] (SH L) M1 o := by
          subst h
          exact ⟨2, rfl⟩
        exact aX_seg 1 (fun n g => in_ cc (g)) t10
    exact aX_seg 5 (fun n g => g) (aX_callv (rfl) rfl rfl rfl k3 h2)
  exact q
set_option maxRecDepth 100000 in
theorem bl_197_41 {L : Nat} {a3 : Int} {M : aM} {o : aO} (h : (∃ (M1 : aM), aE 192 [aR 145, aI 5, aI a3] (SH L) M ([], (SH L), M1) ∧ o = ([aI 1], (SH L), M1))) : aX xc_197 (aSeek xc_197 41) [aR 145, aU, aU, aI a3] [] (SH L) M o := by
  obtain ⟨M1, k2, h⟩ := h
  have h2 : aX xc_197 (aSeek xc_197 47) [aR 145, aU, aU, aI a3] [] (SH L) M1 o := by
    subst h
    exact ⟨2, rfl⟩
  exact aX_seg 3 (fun n g => g) (aX_callv (rfl) rfl rfl rfl k2 h2)
/- TypeLockModel.emit(II)V -/
set_option maxRecDepth 100000 in
theorem en_198 {L : Nat} {a1 a2 : Int} {M : aM} {o : aO} (h : (0 ≤ aW (500 + (M 169 1)) ∧ aW (500 + (M 169 1)) < aLn (SH L) 1 170) ∧ (0 ≤ aW (500 + ((aSet M 170 (aW (500 + (M 169 1))) a1) 169 1)) ∧ aW (500 + ((aSet M 170 (aW (500 + (M 169 1))) a1) 169 1)) < aLn (SH L) 1 171) ∧ o = ([], (SH L), aSet (aSet (aSet M 170 (aW (500 + (M 169 1))) a1) 171 (aW (500 + ((aSet M 170 (aW (500 + (M 169 1))) a1) 169 1))) a2) 169 1 (aW (((aSet (aSet M 170 (aW (500 + (M 169 1))) a1) 171 (aW (500 + ((aSet M 170 (aW (500 + (M 169 1))) a1) 169 1))) a2) 169 1) + 1)))) : aE 198 [aR 145, aI a1, aI a2] (SH L) M o := by
  have q : aX xc_198 (aSeek xc_198 0) [aR 145, aI a1, aI a2] [] (SH L) M o := by
    obtain ⟨c1, h⟩ := h
    obtain ⟨c2, h⟩ := h
    subst h
    exact ⟨29, ip c1 (ip c2 (rfl))⟩
  exact q
/- TypeLockModel.rank(I)I -/
set_option maxRecDepth 100000 in
theorem en_199 {L : Nat} {a0 : Int} {M : aM} {o : aO} (h : ((a0 ≤ 3 → ((a0 ≤ 1 → o = ([aI 0], (SH L), M)) ∧ (¬ (a0 ≤ 1) → o = ([aI 1], (SH L), M)))) ∧ (¬ (a0 ≤ 3) → o = ([aI 2], (SH L), M)))) : aE 199 [aI a0] (SH L) M o := by
  have q : aX xc_199 (aSeek xc_199 0) [aI a0] [] (SH L) M o := by
    by_cases cc : a0 ≤ 3
    · replace h := h.1 cc
      have t1 : aX xc_199 (aSeek xc_199 9) [aI a0] [] (SH L) M o := by
        by_cases cc : a0 ≤ 1
        · replace h := h.1 cc
          have t2 : aX xc_199 (aSeek xc_199 18) [aI a0] [] (SH L) M o := by
            subst h
            exact ⟨2, rfl⟩
          exact aX_seg 3 (fun n g => ip cc (g)) t2
        · replace h := h.2 cc
          have t3 : aX xc_199 (aSeek xc_199 14) [aI a0] [] (SH L) M o := by
            subst h
            exact ⟨3, rfl⟩
          exact aX_seg 3 (fun n g => in_ cc (g)) t3
      exact aX_seg 3 (fun n g => ip cc (g)) t1
    · replace h := h.2 cc
      have t4 : aX xc_199 (aSeek xc_199 5) [aI a0] [] (SH L) M o := by
        subst h
        exact ⟨3, rfl⟩
      exact aX_seg 3 (fun n g => in_ cc (g)) t4
  exact q
/- TypeLockModel.reduce(II)V -/
set_option maxRecDepth 100000 in
theorem en_200 {L : Nat} {a1 a2 : Int} {M : aM} {o : aO} (h : (((M 145 54) ≤ a2 → o = ([], (SH L), M)) ∧ (¬ ((M 145 54) ≤ a2) → (0 ≤ aW ((M 145 54) - 1) ∧ aW ((M 145 54) - 1) < aLn (SH L) 1 190) ∧ (∃ (M1 : aM) (v2 : Int), aE 199 [aI (M 190 (aW ((M 145 54) - 1)))] (SH L) M ([aI v2], (SH L), M1) ∧ ((v2 < a1 → o = ([], (SH L), M1)) ∧ (¬ (v2 < a1) → (0 ≤ (aSet M1 145 54 (aW ((M1 145 54) - 1))) 145 54 ∧ (aSet M1 145 54 (aW ((M1 145 54) - 1))) 145 54 < aLn (SH L) 1 190) ∧ (∃ (M3 : aM), aE 198 [aR 145, aI ((aSet M1 145 54 (aW ((M1 145 54) - 1))) 190 ((aSet M1 145 54 (aW ((M1 145 54) - 1))) 145 54)), aI 0] (SH L) (aSet M1 145 54 (aW ((M1 145 54) - 1))) ([], (SH L), M3) ∧ aX xc_200 (aSeek xc_200 0) [aR 145, aI a1, aI a2] [] (SH L) M3 o))))))) : aE 200 [aR 145, aI a1, aI a2] (SH L) M o := by
  have q : aX xc_200 (aSeek xc_200 0) [aR 145, aI a1, aI a2] [] (SH L) M o := by
    by_cases cc : (M 145 54) ≤ a2
    · replace h := h.1 cc
      have t4 : aX xc_200 (aSeek xc_200 53) [aR 145, aI a1, aI a2] [] (SH L) M o := by
        subst h
        exact ⟨1, rfl⟩
      exact aX_seg 4 (fun n g => ip cc (g)) t4
    · replace h := h.2 cc
      have t5 : aX xc_200 (aSeek xc_200 8) [aR 145, aI a1, aI a2] [] (SH L) M o := by
        obtain ⟨c6, h⟩ := h
        obtain ⟨M1, v2, k7, h⟩ := h
        have h2 : aX xc_200 (aSeek xc_200 22) [aR 145, aI a1, aI a2] [aI v2] (SH L) M1 o := by
          by_cases cc : v2 < a1
          · replace h := h.1 cc
            have t8 : aX xc_200 (aSeek xc_200 53) [aR 145, aI a1, aI a2] [] (SH L) M1 o := by
              subst h
              exact ⟨1, rfl⟩
            exact aX_seg 2 (fun n g => ip cc (g)) t8
          · replace h := h.2 cc
            have t9 : aX xc_200 (aSeek xc_200 26) [aR 145, aI a1, aI a2] [] (SH L) M1 o := by
              obtain ⟨c10, h⟩ := h
              obtain ⟨M3, k11, h⟩ := h
              have h2 : aX xc_200 (aSeek xc_200 50) [aR 145, aI a1, aI a2] [] (SH L) M3 o := by
                exact aX_seg 1 (fun n g => g) (h)
              exact aX_seg 13 (fun n g => ip c10 (g)) (aX_callv (rfl) rfl rfl rfl k11 h2)
            exact aX_seg 2 (fun n g => in_ cc (g)) t9
        exact aX_seg 7 (fun n g => ip c6 (g)) (aX_calls rfl rfl rfl k7 h2)
      exact aX_seg 4 (fun n g => in_ cc (g)) t5
  exact q
/- TypeLockModel.await(I)V -/
set_option maxRecDepth 100000 in
theorem en_201 {L : Nat} {a1 : Int} {M : aM} {o : aO} (h : (0 ≤ M 145 54 ∧ M 145 54 < aLn (SH L) 1 190) ∧ o = ([], (SH L), aSet (aSet M 190 (M 145 54) a1) 145 54 (aW (((aSet M 190 (M 145 54) a1) 145 54) + 1)))) : aE 201 [aR 145, aI a1] (SH L) M o := by
  have q : aX xc_201 (aSeek xc_201 0) [aR 145, aI a1] [] (SH L) M o := by
    obtain ⟨c1, h⟩ := h
    subst h
    exact ⟨13, ip c1 (rfl)⟩
  exact q
/- TypeLockModel.variableOf(I)I -/
set_option maxRecDepth 100000 in
theorem en_202 {L : Nat} {a0 : Int} {M : aM} {o : aO} (h : ((a0 ≤ 12 → o = ([aI ((-1))], (SH L), M)) ∧ (¬ (a0 ≤ 12) → ((22 ≤ a0 → o = ([aI ((-1))], (SH L), M)) ∧ (¬ (22 ≤ a0) → o = ([aI (aW (a0 - 13))], (SH L), M)))))) : aE 202 [aI a0] (SH L) M o := by
  have q : aX xc_202 (aSeek xc_202 0) [aI a0] [] (SH L) M o := by
    by_cases cc : a0 ≤ 12
    · replace h := h.1 cc
      have t1 : aX xc_202 (aSeek xc_202 19) [aI a0] [] (SH L) M o := by
        subst h
        exact ⟨2, rfl⟩
      exact aX_seg 3 (fun n g => ip cc (g)) t1
    · replace h := h.2 cc
      have t2 : aX xc_202 (aSeek xc_202 6) [aI a0] [] (SH L) M o := by
        by_cases cc : 22 ≤ a0
        · replace h := h.1 cc
          have t3 : aX xc_202 (aSeek xc_202 19) [aI a0] [] (SH L) M o := by
            subst h
            exact ⟨2, rfl⟩
          exact aX_seg 3 (fun n g => ip cc (g)) t3
        · replace h := h.2 cc
          have t4 : aX xc_202 (aSeek xc_202 12) [aI a0] [] (SH L) M o := by
            subst h
            exact ⟨5, rfl⟩
          exact aX_seg 3 (fun n g => in_ cc (g)) t4
      exact aX_seg 3 (fun n g => in_ cc (g)) t2
  exact q
/- TypeLockModel.expr()Z -/
set_option maxRecDepth 100000 in
theorem en_203 {L : Nat} {M : aM} {o : aO} (h : aX xc_203 (aSeek xc_203 21) [aR 145, aI 0, aI 1, aI 1, aU] [] (SH L) (aSet (aSet M 145 56 (M 169 1)) 145 54 0) o) : aE 203 [aR 145] (SH L) M o := by
  have q : aX xc_203 (aSeek xc_203 0) [aR 145, aU, aU, aU, aU] [] (SH L) M o := by
    exact aX_seg 15 (fun n g => g) (h)
  exact q
set_option maxRecDepth 100000 in
theorem bl_203_21 {L : Nat} {a1 a2 a3 : Int} {M : aM} {o : aO} (h : ((a3 = 0 → (∃ (M1 : aM), aE 200 [aR 145, aI 1, aI 0] (SH L) M ([], (SH L), M1) ∧ o = ([aI 1], (SH L), M1))) ∧ (¬ (a3 = 0) → ((a2 = 0 → (∃ (M2 : aM) (v3 : Int), aE 194 [aR 145, aI 42] (SH L) M ([aI v3], (SH L), M2) ∧ ((¬ v3 = 0 → aX xc_203 (aSeek xc_203 190) [aR 145, aI a1, aU, aI a3, aU] [] (SH L) M2 o) ∧ (¬ (¬ v3 = 0) → (∃ (M4 : aM) (v5 : Int), aE 194 [aR 145, aI 47] (SH L) M2 ([aI v5], (SH L), M4) ∧ ((v5 = 0 → (∃ (M6 : aM) (v7 : Int), aE 194 [aR 145, aI 43] (SH L) M4 ([aI v7], (SH L), M6) ∧ ((¬ v7 = 0 → aX xc_203 (aSeek xc_203 246) [aR 145, aI a1, aU, aI a3, aU] [] (SH L) M6 o) ∧ (¬ (¬ v7 = 0) → (∃ (M8 : aM) (v9 : Int), aE 194 [aR 145, aI 45] (SH L) M6 ([aI v9], (SH L), M8) ∧ ((v9 = 0 → ((a1 ≤ 0 → aX xc_203 (aSeek xc_203 21) [aR 145, aI a1, aI a2, aI 0, aU] [] (SH L) M8 o) ∧ (¬ (a1 ≤ 0) → (∃ (M10 : aM) (v11 : Int), aE 194 [aR 145, aI 41] (SH L) M8 ([aI v11], (SH L), M10) ∧ ((¬ v11 = 0 → (∃ (M12 : aM) (v13 : Int), aE 193 [aR 145] (SH L) M10 ([aI v13], (SH L), M12) ∧ ((¬ v13 = 0 → (∃ (M14 : aM), aE 200 [aR 145, aI 1, aI 0] (SH L) M12 ([], (SH L), M14) ∧ aX xc_203 (aSeek xc_203 21) [aR 145, aI (aW (a1 + (-1))), aI a2, aI a3, aU] [] (SH L) (aSet M14 145 54 (aW ((M14 145 54) - 1))) o)) ∧ (¬ (¬ v13 = 0) → o = ([aI 0], (SH L), M12))))) ∧ (¬ (¬ v11 = 0) → (∃ (M15 : aM) (v16 : Int), aE 191 [aR 145, aI 1] (SH L) M10 ([aI v16], (SH L), M15) ∧ ((v16 : Int) = 0 ∨ (v16 : Int) = 1) ∧ o = ([aI v16], (SH L), M15)))))))) ∧ (¬ (v9 = 0) → aX xc_203 (aSeek xc_203 246) [aR 145, aI a1, aU, aI a3, aU] [] (SH L) M8 o))))))) ∧ (¬ (v5 = 0) → aX xc_203 (aSeek xc_203 190) [aR 145, aI a1, aU, aI a3, aU] [] (SH L) M4 o))))))) ∧ (¬ (a2 = 0) → (∃ (M17 : aM) (v18 : Int), aE 194 [aR 145, aI 40] (SH L) M ([aI v18], (SH L), M17) ∧ ((v18 = 0 → (0 ≤ M17 145 7 ∧ M17 145 7 < aLn (SH L) 1 147) ∧ ((¬ (M17 147 (M17 145 7)) = 3 → aX xc_203 (aSeek xc_203 99) [aR 145, aI a1, aU, aI a3, aU] [aI ((-1))] (SH L) M17 o) ∧ (¬ (¬ (M17 147 (M17 145 7)) = 3) → (0 ≤ M17 145 7 ∧ M17 145 7 < aLn (SH L) 1 149) ∧ (∃ (M19 : aM) (v20 : Int), aE 202 [aI (M17 149 (M17 145 7))] (SH L) M17 ([aI v20], (SH L), M19) ∧ aX xc_203 (aSeek xc_203 99) [aR 145, aI a1, aU, aI a3, aU] [aI v20] (SH L) M19 o)))) ∧ (¬ (v18 = 0) → ((¬ a1 = 6 → (∃ (M21 : aM) (v22 : Int), aE 193 [aR 145] (SH L) M17 ([aI v22], (SH L), M21) ∧ ((¬ v22 = 0 → (∃ (M23 : aM), aE 201 [aR 145, aI 0] (SH L) M21 ([], (SH L), M23) ∧ aX xc_203 (aSeek xc_203 21) [aR 145, aI (aW (a1 + 1)), aI a2, aI a3, aU] [] (SH L) M23 o)) ∧ (¬ (¬ v22 = 0) → o = ([aI 0], (SH L), M21))))) ∧ (¬ (¬ a1 = 6) → (∃ (M24 : aM) (v25 : Int), aE 191 [aR 145, aI 2] (SH L) M17 ([aI v25], (SH L), M24) ∧ ((v25 : Int) = 0 ∨ (v25 : Int) = 1) ∧ o = ([aI v25], (SH L), M24)))))))))))) : aX xc_203 (aSeek xc_203 21) [aR 145, aI a1, aI a2, aI a3, aU] [] (SH L) M o := by
  by_cases cc : a3 = 0
  · replace h := h.1 cc
    have t26 : aX xc_203 (aSeek xc_203 339) [aR 145, aI a1, aI a2, aI a3, aU] [] (SH L) M o := by
      obtain ⟨M1, k27, h⟩ := h
      have h2 : aX xc_203 (aSeek xc_203 345) [aR 145, aI a1, aI a2, aI a3, aU] [] (SH L) M1 o := by
        subst h
        exact ⟨2, rfl⟩
      exact aX_seg 3 (fun n g => g) (aX_callv (rfl) rfl rfl rfl k27 h2)
    exact aX_seg 2 (fun n g => ip cc (g)) t26
  · replace h := h.2 cc
    have t28 : aX xc_203 (aSeek xc_203 25) [aR 145, aI a1, aI a2, aI a3, aU] [] (SH L) M o := by
      by_cases cc : a2 = 0
      · replace h := h.1 cc
        have t29 : aX xc_203 (aSeek xc_203 172) [aR 145, aI a1, aI a2, aI a3, aU] [] (SH L) M o := by
          obtain ⟨M2, v3, k30, h⟩ := h
          have h2 : aX xc_203 (aSeek xc_203 178) [aR 145, aI a1, aI a2, aI a3, aU] [aI v3] (SH L) M2 o := by
            by_cases cc : ¬ v3 = 0
            · replace h := h.1 cc
              have t31 : aX xc_203 (aSeek xc_203 190) [aR 145, aI a1, aI a2, aI a3, aU] [] (SH L) M2 o := by
                exact aX_le (ls := [aR 145, aI a1, aU, aI a3, aU]) (ls1 := [aR 145, aI a1, aI a2, aI a3, aU]) (⟨Or.inr rfl, ⟨Or.inr rfl, ⟨Or.inl rfl, ⟨Or.inr rfl, ⟨Or.inl rfl, trivial⟩⟩⟩⟩⟩) h
              exact aX_seg 1 (fun n g => ip cc (g)) t31
            · replace h := h.2 cc
              have t32 : aX xc_203 (aSeek xc_203 181) [aR 145, aI a1, aI a2, aI a3, aU] [] (SH L) M2 o := by
                obtain ⟨M4, v5, k33, h⟩ := h
                have h2 : aX xc_203 (aSeek xc_203 187) [aR 145, aI a1, aI a2, aI a3, aU] [aI v5] (SH L) M4 o := by
                  by_cases cc : v5 = 0
                  · replace h := h.1 cc
                    have t34 : aX xc_203 (aSeek xc_203 228) [aR 145, aI a1, aI a2, aI a3, aU] [] (SH L) M4 o := by
                      obtain ⟨M6, v7, k35, h⟩ := h
                      have h2 : aX xc_203 (aSeek xc_203 234) [aR 145, aI a1, aI a2, aI a3, aU] [aI v7] (SH L) M6 o := by
                        by_cases cc : ¬ v7 = 0
                        · replace h := h.1 cc
                          have t36 : aX xc_203 (aSeek xc_203 246) [aR 145, aI a1, aI a2, aI a3, aU] [] (SH L) M6 o := by
                            exact aX_le (ls := [aR 145, aI a1, aU, aI a3, aU]) (ls1 := [aR 145, aI a1, aI a2, aI a3, aU]) (⟨Or.inr rfl, ⟨Or.inr rfl, ⟨Or.inl rfl, ⟨Or.inr rfl, ⟨Or.inl rfl, trivial⟩⟩⟩⟩⟩) h
                          exact aX_seg 1 (fun n g => ip cc (g)) t36
                        · replace h := h.2 cc
                          have t37 : aX xc_203 (aSeek xc_203 237) [aR 145, aI a1, aI a2, aI a3, aU] [] (SH L) M6 o := by
                            obtain ⟨M8, v9, k38, h⟩ := h
                            have h2 : aX xc_203 (aSeek xc_203 243) [aR 145, aI a1, aI a2, aI a3, aU] [aI v9] (SH L) M8 o := by
                              by_cases cc : v9 = 0
                              · replace h := h.1 cc
                                have t39 : aX xc_203 (aSeek xc_203 284) [aR 145, aI a1, aI a2, aI a3, aU] [] (SH L) M8 o := by
                                  by_cases cc : a1 ≤ 0
                                  · replace h := h.1 cc
                                    have t40 : aX xc_203 (aSeek xc_203 334) [aR 145, aI a1, aI a2, aI a3, aU] [] (SH L) M8 o := by
                                      exact aX_seg 3 (fun n g => g) (h)
                                    exact aX_seg 2 (fun n g => ip cc (g)) t40
                                  · replace h := h.2 cc
                                    have t41 : aX xc_203 (aSeek xc_203 288) [aR 145, aI a1, aI a2, aI a3, aU] [] (SH L) M8 o := by
                                      obtain ⟨M10, v11, k42, h⟩ := h
                                      have h2 : aX xc_203 (aSeek xc_203 294) [aR 145, aI a1, aI a2, aI a3, aU] [aI v11] (SH L) M10 o := by
                                        by_cases cc : ¬ v11 = 0
                                        · replace h := h.1 cc
                                          have t43 : aX xc_203 (aSeek xc_203 303) [aR 145, aI a1, aI a2, aI a3, aU] [] (SH L) M10 o := by
                                            obtain ⟨M12, v13, k44, h⟩ := h
                                            have h2 : aX xc_203 (aSeek xc_203 307) [aR 145, aI a1, aI a2, aI a3, aU] [aI v13] (SH L) M12 o := by
                                              by_cases cc : ¬ v13 = 0
                                              · replace h := h.1 cc
                                                have t45 : aX xc_203 (aSeek xc_203 312) [aR 145, aI a1, aI a2, aI a3, aU] [] (SH L) M12 o := by
                                                  obtain ⟨M14, k46, h⟩ := h
                                                  have h2 : aX xc_203 (aSeek xc_203 318) [aR 145, aI a1, aI a2, aI a3, aU] [] (SH L) M14 o := by
                                                    exact aX_seg 8 (fun n g => g) (h)
                                                  exact aX_seg 3 (fun n g => g) (aX_callv (rfl) rfl rfl rfl k46 h2)
                                                exact aX_seg 1 (fun n g => ip cc (g)) t45
                                              · replace h := h.2 cc
                                                have t47 : aX xc_203 (aSeek xc_203 310) [aR 145, aI a1, aI a2, aI a3, aU] [] (SH L) M12 o := by
                                                  subst h
                                                  exact ⟨2, rfl⟩
                                                exact aX_seg 1 (fun n g => in_ cc (g)) t47
                                            exact aX_seg 1 (fun n g => g) (aX_callv (rfl) rfl rfl rfl k44 h2)
                                          exact aX_seg 1 (fun n g => ip cc (g)) t43
                                        · replace h := h.2 cc
                                          have t48 : aX xc_203 (aSeek xc_203 297) [aR 145, aI a1, aI a2, aI a3, aU] [] (SH L) M10 o := by
                                            obtain ⟨M15, v16, k49, h⟩ := h
                                            have h2 : aX xc_203 (aSeek xc_203 302) [aR 145, aI a1, aI a2, aI a3, aU] [aI v16] (SH L) M15 o := by
                                              obtain ⟨c50, h⟩ := h
                                              subst h
                                              exact ⟨1, ip c50 (rfl)⟩
                                            exact aX_seg 2 (fun n g => g) (aX_callv (rfl) rfl rfl rfl k49 h2)
                                          exact aX_seg 1 (fun n g => in_ cc (g)) t48
                                      exact aX_seg 2 (fun n g => g) (aX_callv (rfl) rfl rfl rfl k42 h2)
                                    exact aX_seg 2 (fun n g => in_ cc (g)) t41
                                exact aX_seg 1 (fun n g => ip cc (g)) t39
                              · replace h := h.2 cc
                                have t51 : aX xc_203 (aSeek xc_203 246) [aR 145, aI a1, aI a2, aI a3, aU] [] (SH L) M8 o := by
                                  exact aX_le (ls := [aR 145, aI a1, aU, aI a3, aU]) (ls1 := [aR 145, aI a1, aI a2, aI a3, aU]) (⟨Or.inr rfl, ⟨Or.inr rfl, ⟨Or.inl rfl, ⟨Or.inr rfl, ⟨Or.inl rfl, trivial⟩⟩⟩⟩⟩) h
                                exact aX_seg 1 (fun n g => in_ cc (g)) t51
                            exact aX_seg 2 (fun n g => g) (aX_callv (rfl) rfl rfl rfl k38 h2)
                          exact aX_seg 1 (fun n g => in_ cc (g)) t37
                      exact aX_seg 2 (fun n g => g) (aX_callv (rfl) rfl rfl rfl k35 h2)
                    exact aX_seg 1 (fun n g => ip cc (g)) t34
                  · replace h := h.2 cc
                    have t52 : aX xc_203 (aSeek xc_203 190) [aR 145, aI a1, aI a2, aI a3, aU] [] (SH L) M4 o := by
                      exact aX_le (ls := [aR 145, aI a1, aU, aI a3, aU]) (ls1 := [aR 145, aI a1, aI a2, aI a3, aU]) (⟨Or.inr rfl, ⟨Or.inr rfl, ⟨Or.inl rfl, ⟨Or.inr rfl, ⟨Or.inl rfl, trivial⟩⟩⟩⟩⟩) h
                    exact aX_seg 1 (fun n g => in_ cc (g)) t52
                exact aX_seg 2 (fun n g => g) (aX_callv (rfl) rfl rfl rfl k33 h2)
              exact aX_seg 1 (fun n g => in_ cc (g)) t32
          exact aX_seg 2 (fun n g => g) (aX_callv (rfl) rfl rfl rfl k30 h2)
        exact aX_seg 2 (fun n g => ip cc (g)) t29
      · replace h := h.2 cc
        have t53 : aX xc_203 (aSeek xc_203 29) [aR 145, aI a1, aI a2, aI a3, aU] [] (SH L) M o := by
          obtain ⟨M17, v18, k54, h⟩ := h
          have h2 : aX xc_203 (aSeek xc_203 35) [aR 145, aI a1, aI a2, aI a3, aU] [aI v18] (SH L) M17 o := by
            by_cases cc : v18 = 0
            · replace h := h.1 cc
              have t55 : aX xc_203 (aSeek xc_203 70) [aR 145, aI a1, aI a2, aI a3, aU] [] (SH L) M17 o := by
                obtain ⟨c56, h⟩ := h
                by_cases cc : ¬ (M17 147 (M17 145 7)) = 3
                · replace h := h.1 cc
                  have t57 : aX xc_203 (aSeek xc_203 98) [aR 145, aI a1, aI a2, aI a3, aU] [] (SH L) M17 o := by
                    exact aX_seg 1 (fun n g => g) (aX_le (ls := [aR 145, aI a1, aU, aI a3, aU]) (ls1 := [aR 145, aI a1, aI a2, aI a3, aU]) (⟨Or.inr rfl, ⟨Or.inr rfl, ⟨Or.inl rfl, ⟨Or.inr rfl, ⟨Or.inl rfl, trivial⟩⟩⟩⟩⟩) h)
                  exact aX_seg 7 (fun n g => ip c56 (ip cc (g))) t57
                · replace h := h.2 cc
                  have t58 : aX xc_203 (aSeek xc_203 83) [aR 145, aI a1, aI a2, aI a3, aU] [] (SH L) M17 o := by
                    obtain ⟨c59, h⟩ := h
                    obtain ⟨M19, v20, k60, h⟩ := h
                    have h2 : aX xc_203 (aSeek xc_203 95) [aR 145, aI a1, aI a2, aI a3, aU] [aI v20] (SH L) M19 o := by
                      exact aX_seg 1 (fun n g => g) (aX_le (ls := [aR 145, aI a1, aU, aI a3, aU]) (ls1 := [aR 145, aI a1, aI a2, aI a3, aU]) (⟨Or.inr rfl, ⟨Or.inr rfl, ⟨Or.inl rfl, ⟨Or.inr rfl, ⟨Or.inl rfl, trivial⟩⟩⟩⟩⟩) h)
                    exact aX_seg 5 (fun n g => ip c59 (g)) (aX_calls rfl rfl rfl k60 h2)
                  exact aX_seg 7 (fun n g => ip c56 (in_ cc (g))) t58
              exact aX_seg 1 (fun n g => ip cc (g)) t55
            · replace h := h.2 cc
              have t61 : aX xc_203 (aSeek xc_203 38) [aR 145, aI a1, aI a2, aI a3, aU] [] (SH L) M17 o := by
                by_cases cc : ¬ a1 = 6
                · replace h := h.1 cc
                  have t62 : aX xc_203 (aSeek xc_203 50) [aR 145, aI a1, aI a2, aI a3, aU] [] (SH L) M17 o := by
                    obtain ⟨M21, v22, k63, h⟩ := h
                    have h2 : aX xc_203 (aSeek xc_203 54) [aR 145, aI a1, aI a2, aI a3, aU] [aI v22] (SH L) M21 o := by
                      by_cases cc : ¬ v22 = 0
                      · replace h := h.1 cc
                        have t64 : aX xc_203 (aSeek xc_203 59) [aR 145, aI a1, aI a2, aI a3, aU] [] (SH L) M21 o := by
                          obtain ⟨M23, k65, h⟩ := h
                          have h2 : aX xc_203 (aSeek xc_203 67) [aR 145, aI (aW (a1 + 1)), aI a2, aI a3, aU] [] (SH L) M23 o := by
                            exact aX_seg 1 (fun n g => g) (h)
                          exact aX_seg 3 (fun n g => g) (aX_callv (rfl) rfl rfl rfl k65 h2)
                        exact aX_seg 1 (fun n g => ip cc (g)) t64
                      · replace h := h.2 cc
                        have t66 : aX xc_203 (aSeek xc_203 57) [aR 145, aI a1, aI a2, aI a3, aU] [] (SH L) M21 o := by
                          subst h
                          exact ⟨2, rfl⟩
                        exact aX_seg 1 (fun n g => in_ cc (g)) t66
                    exact aX_seg 1 (fun n g => g) (aX_callv (rfl) rfl rfl rfl k63 h2)
                  exact aX_seg 3 (fun n g => ip cc (g)) t62
                · replace h := h.2 cc
                  have t67 : aX xc_203 (aSeek xc_203 44) [aR 145, aI a1, aI a2, aI a3, aU] [] (SH L) M17 o := by
                    obtain ⟨M24, v25, k68, h⟩ := h
                    have h2 : aX xc_203 (aSeek xc_203 49) [aR 145, aI a1, aI a2, aI a3, aU] [aI v25] (SH L) M24 o := by
                      obtain ⟨c69, h⟩ := h
                      subst h
                      exact ⟨1, ip c69 (rfl)⟩
                    exact aX_seg 2 (fun n g => g) (aX_callv (rfl) rfl rfl rfl k68 h2)
                  exact aX_seg 3 (fun n g => in_ cc (g)) t67
              exact aX_seg 1 (fun n g => in_ cc (g)) t61
          exact aX_seg 2 (fun n g => g) (aX_callv (rfl) rfl rfl rfl k54 h2)
        exact aX_seg 2 (fun n g => in_ cc (g)) t53
    exact aX_seg 2 (fun n g => in_ cc (g)) t28
set_option maxRecDepth 100000 in
theorem bl_203_99 {L : Nat} {a1 a3 b0 : Int} {M : aM} {o : aO} (h : (0 ≤ M 145 7 ∧ M 145 7 < aLn (SH L) 1 147) ∧ (((M 147 (M 145 7)) = 1 → aX xc_203 (aSeek xc_203 125) [aR 145, aI a1, aU, aI a3, aI b0] [] (SH L) M o) ∧ (¬ ((M 147 (M 145 7)) = 1) → ((0 ≤ b0 → aX xc_203 (aSeek xc_203 125) [aR 145, aI a1, aU, aI a3, aI b0] [] (SH L) M o) ∧ (¬ (0 ≤ b0) → (∃ (M1 : aM) (v2 : Int), aE 191 [aR 145, aI 1] (SH L) M ([aI v2], (SH L), M1) ∧ ((v2 : Int) = 0 ∨ (v2 : Int) = 1) ∧ o = ([aI v2], (SH L), M1))))))) : aX xc_203 (aSeek xc_203 99) [aR 145, aI a1, aU, aI a3, aU] [aI b0] (SH L) M o := by
  obtain ⟨c3, h⟩ := h
  by_cases cc : (M 147 (M 145 7)) = 1
  · replace h := h.1 cc
    have t4 : aX xc_203 (aSeek xc_203 125) [aR 145, aI a1, aU, aI a3, aI b0] [] (SH L) M o := by
      exact h
    exact aX_seg 8 (fun n g => ip c3 (ip cc (g))) t4
  · replace h := h.2 cc
    have t5 : aX xc_203 (aSeek xc_203 114) [aR 145, aI a1, aU, aI a3, aI b0] [] (SH L) M o := by
      by_cases cc : 0 ≤ b0
      · replace h := h.1 cc
        have t6 : aX xc_203 (aSeek xc_203 125) [aR 145, aI a1, aU, aI a3, aI b0] [] (SH L) M o := by
          exact h
        exact aX_seg 2 (fun n g => ip cc (g)) t6
      · replace h := h.2 cc
        have t7 : aX xc_203 (aSeek xc_203 119) [aR 145, aI a1, aU, aI a3, aI b0] [] (SH L) M o := by
          obtain ⟨M1, v2, k8, h⟩ := h
          have h2 : aX xc_203 (aSeek xc_203 124) [aR 145, aI a1, aU, aI a3, aI b0] [aI v2] (SH L) M1 o := by
            obtain ⟨c9, h⟩ := h
            subst h
            exact ⟨1, ip c9 (rfl)⟩
          exact aX_seg 2 (fun n g => g) (aX_callv (rfl) rfl rfl rfl k8 h2)
        exact aX_seg 2 (fun n g => in_ cc (g)) t7
    exact aX_seg 8 (fun n g => ip c3 (in_ cc (g))) t5
set_option maxRecDepth 100000 in
theorem bl_203_125 {L : Nat} {a1 a3 a4 : Int} {M : aM} {o : aO} (h : ((0 ≤ a4 → aX xc_203 (aSeek xc_203 136) [aR 145, aI a1, aU, aI a3, aI a4] [aI 1, aR 145] (SH L) M o) ∧ (¬ (0 ≤ a4) → aX xc_203 (aSeek xc_203 136) [aR 145, aI a1, aU, aI a3, aI a4] [aI 0, aR 145] (SH L) M o))) : aX xc_203 (aSeek xc_203 125) [aR 145, aI a1, aU, aI a3, aI a4] [] (SH L) M o := by
  by_cases cc : 0 ≤ a4
  · replace h := h.1 cc
    have t1 : aX xc_203 (aSeek xc_203 135) [aR 145, aI a1, aU, aI a3, aI a4] [aR 145] (SH L) M o := by
      exact aX_seg 1 (fun n g => g) (h)
    exact aX_seg 3 (fun n g => ip cc (g)) t1
  · replace h := h.2 cc
    have t2 : aX xc_203 (aSeek xc_203 131) [aR 145, aI a1, aU, aI a3, aI a4] [aR 145] (SH L) M o := by
      exact aX_seg 2 (fun n g => g) (h)
    exact aX_seg 3 (fun n g => in_ cc (g)) t2
set_option maxRecDepth 100000 in
theorem bl_203_136 {L : Nat} {a1 a3 a4 b0 b1 : Int} {M : aM} {o : aO} (h : ((0 ≤ a4 → aX xc_203 (aSeek xc_203 155) [aR 145, aI a1, aU, aI a3, aU] [aI a4, aI b1, aR b0] (SH L) M o) ∧ (¬ (0 ≤ a4) → (0 ≤ M 145 7 ∧ M 145 7 < aLn (SH L) 1 149) ∧ aX xc_203 (aSeek xc_203 155) [aR 145, aI a1, aU, aI a3, aU] [aI (M 149 (M 145 7)), aI b1, aR b0] (SH L) M o))) : aX xc_203 (aSeek xc_203 136) [aR 145, aI a1, aU, aI a3, aI a4] [aI b1, aR b0] (SH L) M o := by
  by_cases cc : 0 ≤ a4
  · replace h := h.1 cc
    have t1 : aX xc_203 (aSeek xc_203 153) [aR 145, aI a1, aU, aI a3, aI a4] [aI b1, aR b0] (SH L) M o := by
      exact aX_seg 1 (fun n g => g) (aX_le (ls := [aR 145, aI a1, aU, aI a3, aU]) (ls1 := [aR 145, aI a1, aU, aI a3, aI a4]) (⟨Or.inr rfl, ⟨Or.inr rfl, ⟨Or.inl rfl, ⟨Or.inr rfl, ⟨Or.inl rfl, trivial⟩⟩⟩⟩⟩) h)
    exact aX_seg 2 (fun n g => ip cc (g)) t1
  · replace h := h.2 cc
    have t2 : aX xc_203 (aSeek xc_203 141) [aR 145, aI a1, aU, aI a3, aI a4] [aI b1, aR b0] (SH L) M o := by
      obtain ⟨c3, h⟩ := h
      exact aX_seg 6 (fun n g => ip c3 (g)) (aX_le (ls := [aR 145, aI a1, aU, aI a3, aU]) (ls1 := [aR 145, aI a1, aU, aI a3, aI a4]) (⟨Or.inr rfl, ⟨Or.inr rfl, ⟨Or.inl rfl, ⟨Or.inr rfl, ⟨Or.inl rfl, trivial⟩⟩⟩⟩⟩) h)
    exact aX_seg 2 (fun n g => in_ cc (g)) t2
set_option maxRecDepth 100000 in
theorem bl_203_155 {L : Nat} {a1 a3 b0 b1 b2 : Int} {M : aM} {o : aO} (h : (aK (SH L) b0 = 22 ∧ ∃ (M1 : aM), aE 198 [aR b0, aI b1, aI b2] (SH L) M ([], (SH L), M1) ∧ (∃ (M2 : aM) (v3 : Int), aE 193 [aR 145] (SH L) M1 ([aI v3], (SH L), M2) ∧ ((¬ v3 = 0 → aX xc_203 (aSeek xc_203 21) [aR 145, aI a1, aI 0, aI a3, aU] [] (SH L) M2 o) ∧ (¬ (¬ v3 = 0) → o = ([aI 0], (SH L), M2)))))) : aX xc_203 (aSeek xc_203 155) [aR 145, aI a1, aU, aI a3, aU] [aI b2, aI b1, aR b0] (SH L) M o := by
  obtain ⟨c4, h⟩ := h
  obtain ⟨M1, k5, h⟩ := h
  have h2 : aX xc_203 (aSeek xc_203 158) [aR 145, aI a1, aU, aI a3, aU] [] (SH L) M1 o := by
    obtain ⟨M2, v3, k6, h⟩ := h
    have h2 : aX xc_203 (aSeek xc_203 162) [aR 145, aI a1, aU, aI a3, aU] [aI v3] (SH L) M2 o := by
      by_cases cc : ¬ v3 = 0
      · replace h := h.1 cc
        have t7 : aX xc_203 (aSeek xc_203 167) [aR 145, aI a1, aU, aI a3, aU] [] (SH L) M2 o := by
          exact aX_seg 3 (fun n g => g) (h)
        exact aX_seg 1 (fun n g => ip cc (g)) t7
      · replace h := h.2 cc
        have t8 : aX xc_203 (aSeek xc_203 165) [aR 145, aI a1, aU, aI a3, aU] [] (SH L) M2 o := by
          subst h
          exact ⟨2, rfl⟩
        exact aX_seg 1 (fun n g => in_ cc (g)) t8
    exact aX_seg 1 (fun n g => g) (aX_callv (rfl) rfl rfl rfl k6 h2)
  exact aX_callv (c4) rfl rfl rfl k5 h2
set_option maxRecDepth 100000 in
theorem bl_203_190 {L : Nat} {a1 a3 : Int} {M : aM} {o : aO} (h : (∃ (M1 : aM), aE 200 [aR 145, aI 2, aI 0] (SH L) M ([], (SH L), M1) ∧ (∃ (M2 : aM) (v3 : Int), aE 194 [aR 145, aI 42] (SH L) M1 ([aI v3], (SH L), M2) ∧ ((v3 = 0 → aX xc_203 (aSeek xc_203 211) [aR 145, aI a1, aU, aI a3, aU] [aI 5, aR 145] (SH L) M2 o) ∧ (¬ (v3 = 0) → aX xc_203 (aSeek xc_203 211) [aR 145, aI a1, aU, aI a3, aU] [aI 4, aR 145] (SH L) M2 o))))) : aX xc_203 (aSeek xc_203 190) [aR 145, aI a1, aU, aI a3, aU] [] (SH L) M o := by
  obtain ⟨M1, k4, h⟩ := h
  have h2 : aX xc_203 (aSeek xc_203 196) [aR 145, aI a1, aU, aI a3, aU] [] (SH L) M1 o := by
    obtain ⟨M2, v3, k5, h⟩ := h
    have h2 : aX xc_203 (aSeek xc_203 203) [aR 145, aI a1, aU, aI a3, aU] [aI v3, aR 145] (SH L) M2 o := by
      by_cases cc : v3 = 0
      · replace h := h.1 cc
        have t6 : aX xc_203 (aSeek xc_203 210) [aR 145, aI a1, aU, aI a3, aU] [aR 145] (SH L) M2 o := by
          exact aX_seg 1 (fun n g => g) (h)
        exact aX_seg 1 (fun n g => ip cc (g)) t6
      · replace h := h.2 cc
        have t7 : aX xc_203 (aSeek xc_203 206) [aR 145, aI a1, aU, aI a3, aU] [aR 145] (SH L) M2 o := by
          exact aX_seg 2 (fun n g => g) (h)
        exact aX_seg 1 (fun n g => in_ cc (g)) t7
    exact aX_seg 3 (fun n g => g) (aX_callv (rfl) rfl rfl rfl k5 h2)
  exact aX_seg 3 (fun n g => g) (aX_callv (rfl) rfl rfl rfl k4 h2)
set_option maxRecDepth 100000 in
theorem bl_203_211 {L : Nat} {a1 a3 b0 b1 : Int} {M : aM} {o : aO} (h : (aK (SH L) b0 = 22 ∧ ∃ (M1 : aM), aE 201 [aR b0, aI b1] (SH L) M ([], (SH L), M1) ∧ (∃ (M2 : aM) (v3 : Int), aE 193 [aR 145] (SH L) M1 ([aI v3], (SH L), M2) ∧ ((¬ v3 = 0 → aX xc_203 (aSeek xc_203 21) [aR 145, aI a1, aI 1, aI a3, aU] [] (SH L) M2 o) ∧ (¬ (¬ v3 = 0) → o = ([aI 0], (SH L), M2)))))) : aX xc_203 (aSeek xc_203 211) [aR 145, aI a1, aU, aI a3, aU] [aI b1, aR b0] (SH L) M o := by
  obtain ⟨c4, h⟩ := h
  obtain ⟨M1, k5, h⟩ := h
  have h2 : aX xc_203 (aSeek xc_203 214) [aR 145, aI a1, aU, aI a3, aU] [] (SH L) M1 o := by
    obtain ⟨M2, v3, k6, h⟩ := h
    have h2 : aX xc_203 (aSeek xc_203 218) [aR 145, aI a1, aU, aI a3, aU] [aI v3] (SH L) M2 o := by
      by_cases cc : ¬ v3 = 0
      · replace h := h.1 cc
        have t7 : aX xc_203 (aSeek xc_203 223) [aR 145, aI a1, aU, aI a3, aU] [] (SH L) M2 o := by
          exact aX_seg 3 (fun n g => g) (h)
        exact aX_seg 1 (fun n g => ip cc (g)) t7
      · replace h := h.2 cc
        have t8 : aX xc_203 (aSeek xc_203 221) [aR 145, aI a1, aU, aI a3, aU] [] (SH L) M2 o := by
          subst h
          exact ⟨2, rfl⟩
        exact aX_seg 1 (fun n g => in_ cc (g)) t8
    exact aX_seg 1 (fun n g => g) (aX_callv (rfl) rfl rfl rfl k6 h2)
  exact aX_callv (c4) rfl rfl rfl k5 h2
set_option maxRecDepth 100000 in
theorem bl_203_246 {L : Nat} {a1 a3 : Int} {M : aM} {o : aO} (h : (∃ (M1 : aM), aE 200 [aR 145, aI 1, aI 0] (SH L) M ([], (SH L), M1) ∧ (∃ (M2 : aM) (v3 : Int), aE 194 [aR 145, aI 43] (SH L) M1 ([aI v3], (SH L), M2) ∧ ((v3 = 0 → aX xc_203 (aSeek xc_203 267) [aR 145, aI a1, aU, aI a3, aU] [aI 3, aR 145] (SH L) M2 o) ∧ (¬ (v3 = 0) → aX xc_203 (aSeek xc_203 267) [aR 145, aI a1, aU, aI a3, aU] [aI 2, aR 145] (SH L) M2 o))))) : aX xc_203 (aSeek xc_203 246) [aR 145, aI a1, aU, aI a3, aU] [] (SH L) M o := by
  obtain ⟨M1, k4, h⟩ := h
  have h2 : aX xc_203 (aSeek xc_203 252) [aR 145, aI a1, aU, aI a3, aU] [] (SH L) M1 o := by
    obtain ⟨M2, v3, k5, h⟩ := h
    have h2 : aX xc_203 (aSeek xc_203 259) [aR 145, aI a1, aU, aI a3, aU] [aI v3, aR 145] (SH L) M2 o := by
      by_cases cc : v3 = 0
      · replace h := h.1 cc
        have t6 : aX xc_203 (aSeek xc_203 266) [aR 145, aI a1, aU, aI a3, aU] [aR 145] (SH L) M2 o := by
          exact aX_seg 1 (fun n g => g) (h)
        exact aX_seg 1 (fun n g => ip cc (g)) t6
      · replace h := h.2 cc
        have t7 : aX xc_203 (aSeek xc_203 262) [aR 145, aI a1, aU, aI a3, aU] [aR 145] (SH L) M2 o := by
          exact aX_seg 2 (fun n g => g) (h)
        exact aX_seg 1 (fun n g => in_ cc (g)) t7
    exact aX_seg 3 (fun n g => g) (aX_callv (rfl) rfl rfl rfl k5 h2)
  exact aX_seg 3 (fun n g => g) (aX_callv (rfl) rfl rfl rfl k4 h2)
set_option maxRecDepth 100000 in
theorem bl_203_267 {L : Nat} {a1 a3 b0 b1 : Int} {M : aM} {o : aO} (h : (aK (SH L) b0 = 22 ∧ ∃ (M1 : aM), aE 201 [aR b0, aI b1] (SH L) M ([], (SH L), M1) ∧ (∃ (M2 : aM) (v3 : Int), aE 193 [aR 145] (SH L) M1 ([aI v3], (SH L), M2) ∧ ((¬ v3 = 0 → aX xc_203 (aSeek xc_203 21) [aR 145, aI a1, aI 1, aI a3, aU] [] (SH L) M2 o) ∧ (¬ (¬ v3 = 0) → o = ([aI 0], (SH L), M2)))))) : aX xc_203 (aSeek xc_203 267) [aR 145, aI a1, aU, aI a3, aU] [aI b1, aR b0] (SH L) M o := by
  obtain ⟨c4, h⟩ := h
  obtain ⟨M1, k5, h⟩ := h
  have h2 : aX xc_203 (aSeek xc_203 270) [aR 145, aI a1, aU, aI a3, aU] [] (SH L) M1 o := by
    obtain ⟨M2, v3, k6, h⟩ := h
    have h2 : aX xc_203 (aSeek xc_203 274) [aR 145, aI a1, aU, aI a3, aU] [aI v3] (SH L) M2 o := by
      by_cases cc : ¬ v3 = 0
      · replace h := h.1 cc
        have t7 : aX xc_203 (aSeek xc_203 279) [aR 145, aI a1, aU, aI a3, aU] [] (SH L) M2 o := by
          exact aX_seg 3 (fun n g => g) (h)
        exact aX_seg 1 (fun n g => ip cc (g)) t7
      · replace h := h.2 cc
        have t8 : aX xc_203 (aSeek xc_203 277) [aR 145, aI a1, aU, aI a3, aU] [] (SH L) M2 o := by
          subst h
          exact ⟨2, rfl⟩
        exact aX_seg 1 (fun n g => in_ cc (g)) t8
    exact aX_seg 1 (fun n g => g) (aX_callv (rfl) rfl rfl rfl k6 h2)
  exact aX_callv (c4) rfl rfl rfl k5 h2
/- TypeLockModel.cond()Z -/
set_option maxRecDepth 100000 in
theorem en_204 {L : Nat} {M : aM} {o : aO} (h : aX xc_204 (aSeek xc_204 14) [aR 145, aI 0, aI 1, aU, aU, aU] [] (SH L) (aSet M 145 57 (M 172 1)) o) : aE 204 [aR 145] (SH L) M o := by
  have q : aX xc_204 (aSeek xc_204 0) [aR 145, aU, aU, aU, aU, aU] [] (SH L) M o := by
    exact aX_seg 10 (fun n g => g) (h)
  exact q
set_option maxRecDepth 100000 in
theorem bl_204_14 {L : Nat} {a1 a2 : Int} {M : aM} {o : aO} (h : ((a2 = 0 → o = ([aI 1], (SH L), M)) ∧ (¬ (a2 = 0) → aX xc_204 (aSeek xc_204 32) [aR 145, aI a1, aU, aI (aW (200 + (M 172 1))), aI 0, aU] [] (SH L) M o))) : aX xc_204 (aSeek xc_204 14) [aR 145, aI a1, aI a2, aU, aU, aU] [] (SH L) M o := by
  by_cases cc : a2 = 0
  · replace h := h.1 cc
    have t1 : aX xc_204 (aSeek xc_204 273) [aR 145, aI a1, aI a2, aU, aU, aU] [] (SH L) M o := by
      subst h
      exact ⟨2, rfl⟩
    exact aX_seg 2 (fun n g => ip cc (g)) t1
  · replace h := h.2 cc
    have t2 : aX xc_204 (aSeek xc_204 18) [aR 145, aI a1, aI a2, aU, aU, aU] [] (SH L) M o := by
      exact aX_seg 9 (fun n g => g) (aX_le (ls := [aR 145, aI a1, aU, aI (aW (200 + (M 172 1))), aI 0, aU]) (ls1 := [aR 145, aI a1, aI a2, aI (aW (200 + (M 172 1))), aI 0, aU]) (⟨Or.inr rfl, ⟨Or.inr rfl, ⟨Or.inl rfl, ⟨Or.inr rfl, ⟨Or.inr rfl, ⟨Or.inl rfl, trivial⟩⟩⟩⟩⟩⟩) h)
    exact aX_seg 2 (fun n g => in_ cc (g)) t2
set_option maxRecDepth 100000 in
theorem bl_204_32 {L : Nat} {a1 a3 a4 : Int} {M : aM} {o : aO} (h : (∃ (M1 : aM) (v2 : Int), aE 195 [aR 145, aI 10] (SH L) M ([aI v2], (SH L), M1) ∧ ((v2 = 0 → (∃ (M3 : aM) (v4 : Int), aE 203 [aR 145] (SH L) M1 ([aI v4], (SH L), M3) ∧ ((¬ v4 = 0 → (0 ≤ a3 ∧ a3 < aLn (SH L) 1 175) ∧ (0 ≤ a3 ∧ a3 < aLn (SH L) 1 176) ∧ (∃ (M5 : aM) (v6 : Int), aE 194 [aR 145, aI 300] (SH L) (aSet (aSet M3 175 a3 (M3 145 56)) 176 a3 ((aSet M3 175 a3 (M3 145 56)) 169 1)) ([aI v6], (SH L), M5) ∧ ((¬ v6 = 0 → aX xc_204 (aSeek xc_204 135) [aR 145, aI a1, aU, aI a3, aI a4, aU] [] (SH L) M5 o) ∧ (¬ (¬ v6 = 0) → (∃ (M7 : aM) (v8 : Int), aE 194 [aR 145, aI 301] (SH L) M5 ([aI v8], (SH L), M7) ∧ ((¬ v8 = 0 → aX xc_204 (aSeek xc_204 135) [aR 145, aI a1, aU, aI a3, aI a4, aU] [] (SH L) M7 o) ∧ (¬ (¬ v8 = 0) → (∃ (M9 : aM) (v10 : Int), aE 194 [aR 145, aI 302] (SH L) M7 ([aI v10], (SH L), M9) ∧ ((¬ v10 = 0 → aX xc_204 (aSeek xc_204 135) [aR 145, aI a1, aU, aI a3, aI a4, aU] [] (SH L) M9 o) ∧ (¬ (¬ v10 = 0) → (∃ (M11 : aM) (v12 : Int), aE 194 [aR 145, aI 60] (SH L) M9 ([aI v12], (SH L), M11) ∧ ((v12 = 0 → aX xc_204 (aSeek xc_204 140) [aR 145, aI a1, aU, aI a3, aI a4, aU] [aI 0] (SH L) M11 o) ∧ (¬ (v12 = 0) → aX xc_204 (aSeek xc_204 135) [aR 145, aI a1, aU, aI a3, aI a4, aU] [] (SH L) M11 o))))))))))))) ∧ (¬ (¬ v4 = 0) → o = ([aI 0], (SH L), M3))))) ∧ (¬ (v2 = 0) → (∃ (M13 : aM) (v14 : Int), aE 193 [aR 145] (SH L) M1 ([aI v14], (SH L), M13) ∧ ((¬ v14 = 0 → ((¬ a4 = 0 → aX xc_204 (aSeek xc_204 60) [aR 145, aI a1, aU, aI a3, aU, aU] [aI 0] (SH L) M13 o) ∧ (¬ (¬ a4 = 0) → aX xc_204 (aSeek xc_204 60) [aR 145, aI a1, aU, aI a3, aU, aU] [aI 1] (SH L) M13 o))) ∧ (¬ (¬ v14 = 0) → o = ([aI 0], (SH L), M13)))))))) : aX xc_204 (aSeek xc_204 32) [aR 145, aI a1, aU, aI a3, aI a4, aU] [] (SH L) M o := by
  obtain ⟨M1, v2, k15, h⟩ := h
  have h2 : aX xc_204 (aSeek xc_204 38) [aR 145, aI a1, aU, aI a3, aI a4, aU] [aI v2] (SH L) M1 o := by
    by_cases cc : v2 = 0
    · replace h := h.1 cc
      have t16 : aX xc_204 (aSeek xc_204 65) [aR 145, aI a1, aU, aI a3, aI a4, aU] [] (SH L) M1 o := by
        obtain ⟨M3, v4, k17, h⟩ := h
        have h2 : aX xc_204 (aSeek xc_204 69) [aR 145, aI a1, aU, aI a3, aI a4, aU] [aI v4] (SH L) M3 o := by
          by_cases cc : ¬ v4 = 0
          · replace h := h.1 cc
            have t18 : aX xc_204 (aSeek xc_204 74) [aR 145, aI a1, aU, aI a3, aI a4, aU] [] (SH L) M3 o := by
              obtain ⟨c19, h⟩ := h
              obtain ⟨c20, h⟩ := h
              obtain ⟨M5, v6, k21, h⟩ := h
              have h2 : aX xc_204 (aSeek xc_204 103) [aR 145, aI a1, aU, aI a3, aI a4, aU] [aI v6] (SH L) M5 o := by
                by_cases cc : ¬ v6 = 0
                · replace h := h.1 cc
                  have t22 : aX xc_204 (aSeek xc_204 135) [aR 145, aI a1, aU, aI a3, aI a4, aU] [] (SH L) M5 o := by
                    exact h
                  exact aX_seg 1 (fun n g => ip cc (g)) t22
                · replace h := h.2 cc
                  have t23 : aX xc_204 (aSeek xc_204 106) [aR 145, aI a1, aU, aI a3, aI a4, aU] [] (SH L) M5 o := by
                    obtain ⟨M7, v8, k24, h⟩ := h
                    have h2 : aX xc_204 (aSeek xc_204 113) [aR 145, aI a1, aU, aI a3, aI a4, aU] [aI v8] (SH L) M7 o := by
                      by_cases cc : ¬ v8 = 0
                      · replace h := h.1 cc
                        have t25 : aX xc_204 (aSeek xc_204 135) [aR 145, aI a1, aU, aI a3, aI a4, aU] [] (SH L) M7 o := by
                          exact h
                        exact aX_seg 1 (fun n g => ip cc (g)) t25
                      · replace h := h.2 cc
                        have t26 : aX xc_204 (aSeek xc_204 116) [aR 145, aI a1, aU, aI a3, aI a4, aU] [] (SH L) M7 o := by
                          obtain ⟨M9, v10, k27, h⟩ := h
                          have h2 : aX xc_204 (aSeek xc_204 123) [aR 145, aI a1, aU, aI a3, aI a4, aU] [aI v10] (SH L) M9 o := by
                            by_cases cc : ¬ v10 = 0
                            · replace h := h.1 cc
                              have t28 : aX xc_204 (aSeek xc_204 135) [aR 145, aI a1, aU, aI a3, aI a4, aU] [] (SH L) M9 o := by
                                exact h
                              exact aX_seg 1 (fun n g => ip cc (g)) t28
                            · replace h := h.2 cc
                              have t29 : aX xc_204 (aSeek xc_204 126) [aR 145, aI a1, aU, aI a3, aI a4, aU] [] (SH L) M9 o := by
                                obtain ⟨M11, v12, k30, h⟩ := h
                                have h2 : aX xc_204 (aSeek xc_204 132) [aR 145, aI a1, aU, aI a3, aI a4, aU] [aI v12] (SH L) M11 o := by
                                  by_cases cc : v12 = 0
                                  · replace h := h.1 cc
                                    have t31 : aX xc_204 (aSeek xc_204 139) [aR 145, aI a1, aU, aI a3, aI a4, aU] [] (SH L) M11 o := by
                                      exact aX_seg 1 (fun n g => g) (h)
                                    exact aX_seg 1 (fun n g => ip cc (g)) t31
                                  · replace h := h.2 cc
                                    have t32 : aX xc_204 (aSeek xc_204 135) [aR 145, aI a1, aU, aI a3, aI a4, aU] [] (SH L) M11 o := by
                                      exact h
                                    exact aX_seg 1 (fun n g => in_ cc (g)) t32
                                exact aX_seg 2 (fun n g => g) (aX_callv (rfl) rfl rfl rfl k30 h2)
                              exact aX_seg 1 (fun n g => in_ cc (g)) t29
                          exact aX_seg 2 (fun n g => g) (aX_callv (rfl) rfl rfl rfl k27 h2)
                        exact aX_seg 1 (fun n g => in_ cc (g)) t26
                    exact aX_seg 2 (fun n g => g) (aX_callv (rfl) rfl rfl rfl k24 h2)
                  exact aX_seg 1 (fun n g => in_ cc (g)) t23
              exact aX_seg 16 (fun n g => ip c19 (ip c20 (g))) (aX_callv (rfl) rfl rfl rfl k21 h2)
            exact aX_seg 1 (fun n g => ip cc (g)) t18
          · replace h := h.2 cc
            have t33 : aX xc_204 (aSeek xc_204 72) [aR 145, aI a1, aU, aI a3, aI a4, aU] [] (SH L) M3 o := by
              subst h
              exact ⟨2, rfl⟩
            exact aX_seg 1 (fun n g => in_ cc (g)) t33
        exact aX_seg 1 (fun n g => g) (aX_callv (rfl) rfl rfl rfl k17 h2)
      exact aX_seg 1 (fun n g => ip cc (g)) t16
    · replace h := h.2 cc
      have t34 : aX xc_204 (aSeek xc_204 41) [aR 145, aI a1, aU, aI a3, aI a4, aU] [] (SH L) M1 o := by
        obtain ⟨M13, v14, k35, h⟩ := h
        have h2 : aX xc_204 (aSeek xc_204 45) [aR 145, aI a1, aU, aI a3, aI a4, aU] [aI v14] (SH L) M13 o := by
          by_cases cc : ¬ v14 = 0
          · replace h := h.1 cc
            have t36 : aX xc_204 (aSeek xc_204 50) [aR 145, aI a1, aU, aI a3, aI a4, aU] [] (SH L) M13 o := by
              by_cases cc : ¬ a4 = 0
              · replace h := h.1 cc
                have t37 : aX xc_204 (aSeek xc_204 59) [aR 145, aI a1, aU, aI a3, aI a4, aU] [] (SH L) M13 o := by
                  exact aX_seg 1 (fun n g => g) (aX_le (ls := [aR 145, aI a1, aU, aI a3, aU, aU]) (ls1 := [aR 145, aI a1, aU, aI a3, aI a4, aU]) (⟨Or.inr rfl, ⟨Or.inr rfl, ⟨Or.inl rfl, ⟨Or.inr rfl, ⟨Or.inl rfl, ⟨Or.inl rfl, trivial⟩⟩⟩⟩⟩⟩) h)
                exact aX_seg 2 (fun n g => ip cc (g)) t37
              · replace h := h.2 cc
                have t38 : aX xc_204 (aSeek xc_204 55) [aR 145, aI a1, aU, aI a3, aI a4, aU] [] (SH L) M13 o := by
                  exact aX_seg 2 (fun n g => g) (aX_le (ls := [aR 145, aI a1, aU, aI a3, aU, aU]) (ls1 := [aR 145, aI a1, aU, aI a3, aI a4, aU]) (⟨Or.inr rfl, ⟨Or.inr rfl, ⟨Or.inl rfl, ⟨Or.inr rfl, ⟨Or.inl rfl, ⟨Or.inl rfl, trivial⟩⟩⟩⟩⟩⟩) h)
                exact aX_seg 2 (fun n g => in_ cc (g)) t38
            exact aX_seg 1 (fun n g => ip cc (g)) t36
          · replace h := h.2 cc
            have t39 : aX xc_204 (aSeek xc_204 48) [aR 145, aI a1, aU, aI a3, aI a4, aU] [] (SH L) M13 o := by
              subst h
              exact ⟨2, rfl⟩
            exact aX_seg 1 (fun n g => in_ cc (g)) t39
        exact aX_seg 1 (fun n g => g) (aX_callv (rfl) rfl rfl rfl k35 h2)
      exact aX_seg 1 (fun n g => in_ cc (g)) t34
  exact aX_seg 2 (fun n g => g) (aX_callv (rfl) rfl rfl rfl k15 h2)
set_option maxRecDepth 100000 in
theorem bl_204_60 {L : Nat} {a1 a3 b0 : Int} {M : aM} {o : aO} (h : aX xc_204 (aSeek xc_204 32) [aR 145, aI a1, aU, aI a3, aI b0, aU] [] (SH L) M o) : aX xc_204 (aSeek xc_204 60) [aR 145, aI a1, aU, aI a3, aU, aU] [aI b0] (SH L) M o := by
  exact aX_seg 2 (fun n g => g) (h)
set_option maxRecDepth 100000 in
theorem bl_204_135 {L : Nat} {a1 a3 a4 : Int} {M : aM} {o : aO} (h : aX xc_204 (aSeek xc_204 140) [aR 145, aI a1, aU, aI a3, aI a4, aU] [aI 1] (SH L) M o) : aX xc_204 (aSeek xc_204 135) [aR 145, aI a1, aU, aI a3, aI a4, aU] [] (SH L) M o := by
  exact aX_seg 2 (fun n g => g) (h)
set_option maxRecDepth 100000 in
theorem bl_204_140 {L : Nat} {a1 a3 a4 b0 : Int} {M : aM} {o : aO} (h : ((¬ b0 = 0 → (0 ≤ M 145 7 ∧ M 145 7 < aLn (SH L) 1 149) ∧ (0 ≤ a3 ∧ a3 < aLn (SH L) 1 174) ∧ (∃ (M1 : aM) (v2 : Int), aE 193 [aR 145] (SH L) (aSet M 174 a3 (M 149 (M 145 7))) ([aI v2], (SH L), M1) ∧ ((v2 = 0 → o = ([aI 0], (SH L), M1)) ∧ (¬ (v2 = 0) → (∃ (M3 : aM) (v4 : Int), aE 203 [aR 145] (SH L) M1 ([aI v4], (SH L), M3) ∧ ((¬ v4 = 0 → (0 ≤ a3 ∧ a3 < aLn (SH L) 1 177) ∧ ((0 ≤ a3 ∧ a3 < aLn (SH L) 4 173) ∧ (a4 = 0 ∨ a4 = 1)) ∧ (0 ≤ a3 ∧ a3 < aLn (SH L) 1 178) ∧ (∃ (M5 : aM) (v6 : Int), aE 195 [aR 145, aI 11] (SH L) (aSet (aSet (aSet (aSet M3 177 a3 (M3 169 1)) 173 a3 a4) 178 a3 a1) 172 1 (aW (((aSet (aSet (aSet M3 177 a3 (M3 169 1)) 173 a3 a4) 178 a3 a1) 172 1) + 1))) ([aI v6], (SH L), M5) ∧ ((¬ v6 = 0 → aX xc_204 (aSeek xc_204 239) [aR 145, aI a1, aU, aU, aU, aU] [] (SH L) M5 o) ∧ (¬ (¬ v6 = 0) → (∃ (M7 : aM) (v8 : Int), aE 195 [aR 145, aI 12] (SH L) M5 ([aI v8], (SH L), M7) ∧ ((v8 = 0 → aX xc_204 (aSeek xc_204 244) [aR 145, aI a1, aU, aU, aU, aU] [aI 0] (SH L) M7 o) ∧ (¬ (v8 = 0) → aX xc_204 (aSeek xc_204 239) [aR 145, aI a1, aU, aU, aU, aU] [] (SH L) M7 o))))))) ∧ (¬ (¬ v4 = 0) → o = ([aI 0], (SH L), M3)))))))) ∧ (¬ (¬ b0 = 0) → (∃ (M9 : aM) (v10 : Int), aE 191 [aR 145, aI 1] (SH L) M ([aI v10], (SH L), M9) ∧ ((v10 : Int) = 0 ∨ (v10 : Int) = 1) ∧ o = ([aI v10], (SH L), M9))))) : aX xc_204 (aSeek xc_204 140) [aR 145, aI a1, aU, aI a3, aI a4, aU] [aI b0] (SH L) M o := by
  by_cases cc : ¬ b0 = 0
  · replace h := h.1 cc
    have t11 : aX xc_204 (aSeek xc_204 153) [aR 145, aI a1, aU, aI a3, aI a4, aI b0] [] (SH L) M o := by
      obtain ⟨c12, h⟩ := h
      obtain ⟨c13, h⟩ := h
      obtain ⟨M1, v2, k14, h⟩ := h
      have h2 : aX xc_204 (aSeek xc_204 172) [aR 145, aI a1, aU, aI a3, aI a4, aI b0] [aI v2] (SH L) M1 o := by
        by_cases cc : v2 = 0
        · replace h := h.1 cc
          have t15 : aX xc_204 (aSeek xc_204 182) [aR 145, aI a1, aU, aI a3, aI a4, aI b0] [] (SH L) M1 o := by
            subst h
            exact ⟨2, rfl⟩
          exact aX_seg 1 (fun n g => ip cc (g)) t15
        · replace h := h.2 cc
          have t16 : aX xc_204 (aSeek xc_204 175) [aR 145, aI a1, aU, aI a3, aI a4, aI b0] [] (SH L) M1 o := by
            obtain ⟨M3, v4, k17, h⟩ := h
            have h2 : aX xc_204 (aSeek xc_204 179) [aR 145, aI a1, aU, aI a3, aI a4, aI b0] [aI v4] (SH L) M3 o := by
              by_cases cc : ¬ v4 = 0
              · replace h := h.1 cc
                have t18 : aX xc_204 (aSeek xc_204 184) [aR 145, aI a1, aU, aI a3, aI a4, aI b0] [] (SH L) M3 o := by
                  obtain ⟨c19, h⟩ := h
                  obtain ⟨c20, h⟩ := h
                  obtain ⟨c21, h⟩ := h
                  obtain ⟨M5, v6, k22, h⟩ := h
                  have h2 : aX xc_204 (aSeek xc_204 227) [aR 145, aI a1, aU, aI a3, aI a4, aI b0] [aI v6] (SH L) M5 o := by
                    by_cases cc : ¬ v6 = 0
                    · replace h := h.1 cc
                      have t23 : aX xc_204 (aSeek xc_204 239) [aR 145, aI a1, aU, aI a3, aI a4, aI b0] [] (SH L) M5 o := by
                        exact aX_le (ls := [aR 145, aI a1, aU, aU, aU, aU]) (ls1 := [aR 145, aI a1, aU, aI a3, aI a4, aI b0]) (⟨Or.inr rfl, ⟨Or.inr rfl, ⟨Or.inl rfl, ⟨Or.inl rfl, ⟨Or.inl rfl, ⟨Or.inl rfl, trivial⟩⟩⟩⟩⟩⟩) h
                      exact aX_seg 1 (fun n g => ip cc (g)) t23
                    · replace h := h.2 cc
                      have t24 : aX xc_204 (aSeek xc_204 230) [aR 145, aI a1, aU, aI a3, aI a4, aI b0] [] (SH L) M5 o := by
                        obtain ⟨M7, v8, k25, h⟩ := h
                        have h2 : aX xc_204 (aSeek xc_204 236) [aR 145, aI a1, aU, aI a3, aI a4, aI b0] [aI v8] (SH L) M7 o := by
                          by_cases cc : v8 = 0
                          · replace h := h.1 cc
                            have t26 : aX xc_204 (aSeek xc_204 243) [aR 145, aI a1, aU, aI a3, aI a4, aI b0] [] (SH L) M7 o := by
                              exact aX_seg 1 (fun n g => g) (aX_le (ls := [aR 145, aI a1, aU, aU, aU, aU]) (ls1 := [aR 145, aI a1, aU, aI a3, aI a4, aI b0]) (⟨Or.inr rfl, ⟨Or.inr rfl, ⟨Or.inl rfl, ⟨Or.inl rfl, ⟨Or.inl rfl, ⟨Or.inl rfl, trivial⟩⟩⟩⟩⟩⟩) h)
                            exact aX_seg 1 (fun n g => ip cc (g)) t26
                          · replace h := h.2 cc
                            have t27 : aX xc_204 (aSeek xc_204 239) [aR 145, aI a1, aU, aI a3, aI a4, aI b0] [] (SH L) M7 o := by
                              exact aX_le (ls := [aR 145, aI a1, aU, aU, aU, aU]) (ls1 := [aR 145, aI a1, aU, aI a3, aI a4, aI b0]) (⟨Or.inr rfl, ⟨Or.inr rfl, ⟨Or.inl rfl, ⟨Or.inl rfl, ⟨Or.inl rfl, ⟨Or.inl rfl, trivial⟩⟩⟩⟩⟩⟩) h
                            exact aX_seg 1 (fun n g => in_ cc (g)) t27
                        exact aX_seg 2 (fun n g => g) (aX_callv (rfl) rfl rfl rfl k25 h2)
                      exact aX_seg 1 (fun n g => in_ cc (g)) t24
                  exact aX_seg 28 (fun n g => ip c19 (ip c20 (ip c21 (g)))) (aX_callv (rfl) rfl rfl rfl k22 h2)
                exact aX_seg 1 (fun n g => ip cc (g)) t18
              · replace h := h.2 cc
                have t28 : aX xc_204 (aSeek xc_204 182) [aR 145, aI a1, aU, aI a3, aI a4, aI b0] [] (SH L) M3 o := by
                  subst h
                  exact ⟨2, rfl⟩
                exact aX_seg 1 (fun n g => in_ cc (g)) t28
            exact aX_seg 1 (fun n g => g) (aX_callv (rfl) rfl rfl rfl k17 h2)
          exact aX_seg 1 (fun n g => in_ cc (g)) t16
      exact aX_seg 10 (fun n g => ip c12 (ip c13 (g))) (aX_callv (rfl) rfl rfl rfl k14 h2)
    exact aX_seg 3 (fun n g => ip cc (g)) t11
  · replace h := h.2 cc
    have t29 : aX xc_204 (aSeek xc_204 147) [aR 145, aI a1, aU, aI a3, aI a4, aI b0] [] (SH L) M o := by
      obtain ⟨M9, v10, k30, h⟩ := h
      have h2 : aX xc_204 (aSeek xc_204 152) [aR 145, aI a1, aU, aI a3, aI a4, aI b0] [aI v10] (SH L) M9 o := by
        obtain ⟨c31, h⟩ := h
        subst h
        exact ⟨1, ip c31 (rfl)⟩
      exact aX_seg 2 (fun n g => g) (aX_callv (rfl) rfl rfl rfl k30 h2)
    exact aX_seg 3 (fun n g => in_ cc (g)) t29
set_option maxRecDepth 100000 in
theorem bl_204_239 {L : Nat} {a1 : Int} {M : aM} {o : aO} (h : aX xc_204 (aSeek xc_204 244) [aR 145, aI a1, aU, aU, aU, aU] [aI 1] (SH L) M o) : aX xc_204 (aSeek xc_204 239) [aR 145, aI a1, aU, aU, aU, aU] [] (SH L) M o := by
  exact aX_seg 2 (fun n g => g) (h)
set_option maxRecDepth 100000 in
theorem bl_204_244 {L : Nat} {a1 b0 : Int} {M : aM} {o : aO} (h : (∃ (M1 : aM) (v2 : Int), aE 195 [aR 145, aI 12] (SH L) M ([aI v2], (SH L), M1) ∧ ((v2 = 0 → aX xc_204 (aSeek xc_204 257) [aR 145, aI a1, aI b0, aU, aU, aU] [] (SH L) M1 o) ∧ (¬ (v2 = 0) → aX xc_204 (aSeek xc_204 257) [aR 145, aI (aW (a1 + 1)), aI b0, aU, aU, aU] [] (SH L) M1 o)))) : aX xc_204 (aSeek xc_204 244) [aR 145, aI a1, aU, aU, aU, aU] [aI b0] (SH L) M o := by
  obtain ⟨M1, v2, k3, h⟩ := h
  have h2 : aX xc_204 (aSeek xc_204 251) [aR 145, aI a1, aI b0, aU, aU, aU] [aI v2] (SH L) M1 o := by
    by_cases cc : v2 = 0
    · replace h := h.1 cc
      have t4 : aX xc_204 (aSeek xc_204 257) [aR 145, aI a1, aI b0, aU, aU, aU] [] (SH L) M1 o := by
        exact h
      exact aX_seg 1 (fun n g => ip cc (g)) t4
    · replace h := h.2 cc
      have t5 : aX xc_204 (aSeek xc_204 254) [aR 145, aI a1, aI b0, aU, aU, aU] [] (SH L) M1 o := by
        exact aX_seg 1 (fun n g => g) (h)
      exact aX_seg 1 (fun n g => in_ cc (g)) t5
  exact aX_seg 3 (fun n g => g) (aX_callv (rfl) rfl rfl rfl k3 h2)
set_option maxRecDepth 100000 in
theorem bl_204_257 {L : Nat} {a1 a2 : Int} {M : aM} {o : aO} (h : ((a2 = 0 → aX xc_204 (aSeek xc_204 270) [aR 145, aI a1, aI a2, aU, aU, aU] [] (SH L) M o) ∧ (¬ (a2 = 0) → (∃ (M1 : aM) (v2 : Int), aE 193 [aR 145] (SH L) M ([aI v2], (SH L), M1) ∧ ((¬ v2 = 0 → aX xc_204 (aSeek xc_204 270) [aR 145, aI a1, aI a2, aU, aU, aU] [] (SH L) M1 o) ∧ (¬ (¬ v2 = 0) → o = ([aI 0], (SH L), M1))))))) : aX xc_204 (aSeek xc_204 257) [aR 145, aI a1, aI a2, aU, aU, aU] [] (SH L) M o := by
  by_cases cc : a2 = 0
  · replace h := h.1 cc
    have t3 : aX xc_204 (aSeek xc_204 270) [aR 145, aI a1, aI a2, aU, aU, aU] [] (SH L) M o := by
      exact h
    exact aX_seg 2 (fun n g => ip cc (g)) t3
  · replace h := h.2 cc
    have t4 : aX xc_204 (aSeek xc_204 261) [aR 145, aI a1, aI a2, aU, aU, aU] [] (SH L) M o := by
      obtain ⟨M1, v2, k5, h⟩ := h
      have h2 : aX xc_204 (aSeek xc_204 265) [aR 145, aI a1, aI a2, aU, aU, aU] [aI v2] (SH L) M1 o := by
        by_cases cc : ¬ v2 = 0
        · replace h := h.1 cc
          have t6 : aX xc_204 (aSeek xc_204 270) [aR 145, aI a1, aI a2, aU, aU, aU] [] (SH L) M1 o := by
            exact h
          exact aX_seg 1 (fun n g => ip cc (g)) t6
        · replace h := h.2 cc
          have t7 : aX xc_204 (aSeek xc_204 268) [aR 145, aI a1, aI a2, aU, aU, aU] [] (SH L) M1 o := by
            subst h
            exact ⟨2, rfl⟩
          exact aX_seg 1 (fun n g => in_ cc (g)) t7
      exact aX_seg 1 (fun n g => g) (aX_callv (rfl) rfl rfl rfl k5 h2)
    exact aX_seg 2 (fun n g => in_ cc (g)) t4
set_option maxRecDepth 100000 in
theorem bl_204_270 {L : Nat} {a1 a2 : Int} {M : aM} {o : aO} (h : aX xc_204 (aSeek xc_204 14) [aR 145, aI a1, aI a2, aU, aU, aU] [] (SH L) M o) : aX xc_204 (aSeek xc_204 270) [aR 145, aI a1, aI a2, aU, aU, aU] [] (SH L) M o := by
  exact aX_seg 1 (fun n g => g) (h)
/- TypeLockModel.takesHold()V -/
set_option maxRecDepth 100000 in
theorem en_205 {L : Nat} {M : aM} {o : aO} (h : aX xc_205 (aSeek xc_205 38) [aR 145, aI 0] [] (SH L) (aSet (aSet (aSet M 151 0 (M 151 1)) 152 0 ((aSet M 151 0 (M 151 1)) 152 1)) 153 0 ((aSet (aSet M 151 0 (M 151 1)) 152 0 ((aSet M 151 0 (M 151 1)) 152 1)) 153 1)) o) : aE 205 [aR 145] (SH L) M o := by
  have q : aX xc_205 (aSeek xc_205 0) [aR 145, aU] [] (SH L) M o := by
    exact aX_seg 26 (fun n g => g) (h)
  exact q
set_option maxRecDepth 100000 in
theorem bl_205_38 {L : Nat} {a1 : Int} {M : aM} {o : aO} (h : ((14 ≤ a1 → aX xc_205 (aSeek xc_205 136) [aR 145, aI 0] [] (SH L) (aSet (aSet M 159 0 (M 159 1)) 166 0 ((aSet M 159 0 (M 159 1)) 166 1)) o) ∧ (¬ (14 ≤ a1) → (0 ≤ aW (14 + a1) ∧ aW (14 + a1) < aLn (SH L) 1 154) ∧ (0 ≤ a1 ∧ a1 < aLn (SH L) 1 154) ∧ (0 ≤ aW (14 + a1) ∧ aW (14 + a1) < aLn (SH L) 1 155) ∧ (0 ≤ a1 ∧ a1 < aLn (SH L) 1 155) ∧ (0 ≤ aW (14 + a1) ∧ aW (14 + a1) < aLn (SH L) 1 156) ∧ (0 ≤ a1 ∧ a1 < aLn (SH L) 1 156) ∧ (0 ≤ aW (14 + a1) ∧ aW (14 + a1) < aLn (SH L) 1 157) ∧ (0 ≤ a1 ∧ a1 < aLn (SH L) 1 157) ∧ aX xc_205 (aSeek xc_205 38) [aR 145, aI (aW (a1 + 1))] [] (SH L) (aSet (aSet (aSet (aSet M 154 a1 (M 154 (aW (14 + a1)))) 155 a1 ((aSet M 154 a1 (M 154 (aW (14 + a1)))) 155 (aW (14 + a1)))) 156 a1 ((aSet (aSet M 154 a1 (M 154 (aW (14 + a1)))) 155 a1 ((aSet M 154 a1 (M 154 (aW (14 + a1)))) 155 (aW (14 + a1)))) 156 (aW (14 + a1)))) 157 a1 ((aSet (aSet (aSet M 154 a1 (M 154 (aW (14 + a1)))) 155 a1 ((aSet M 154 a1 (M 154 (aW (14 + a1)))) 155 (aW (14 + a1)))) 156 a1 ((aSet (aSet M 154 a1 (M 154 (aW (14 + a1)))) 155 a1 ((aSet M 154 a1 (M 154 (aW (14 + a1)))) 155 (aW (14 + a1)))) 156 (aW (14 + a1)))) 157 (aW (14 + a1)))) o))) : aX xc_205 (aSeek xc_205 38) [aR 145, aI a1] [] (SH L) M o := by
  by_cases cc : 14 ≤ a1
  · replace h := h.1 cc
    have t1 : aX xc_205 (aSeek xc_205 110) [aR 145, aI a1] [] (SH L) M o := by
      exact aX_seg 18 (fun n g => g) (h)
    exact aX_seg 3 (fun n g => ip cc (g)) t1
  · replace h := h.2 cc
    have t2 : aX xc_205 (aSeek xc_205 44) [aR 145, aI a1] [] (SH L) M o := by
      obtain ⟨c3, h⟩ := h
      obtain ⟨c4, h⟩ := h
      obtain ⟨c5, h⟩ := h
      obtain ⟨c6, h⟩ := h
      obtain ⟨c7, h⟩ := h
      obtain ⟨c8, h⟩ := h
      obtain ⟨c9, h⟩ := h
      obtain ⟨c10, h⟩ := h
      exact aX_seg 42 (fun n g => ip c3 (ip c4 (ip c5 (ip c6 (ip c7 (ip c8 (ip c9 (ip c10 (g))))))))) (h)
    exact aX_seg 3 (fun n g => in_ cc (g)) t2
set_option maxRecDepth 100000 in
theorem bl_205_136 {L : Nat} {a1 : Int} {M : aM} {o : aO} (h : ((6 ≤ a1 → aX xc_205 (aSeek xc_205 261) [aR 145, aI 0] [] (SH L) (aSet (aSet (aSet M 163 0 (M 163 1)) 164 0 ((aSet M 163 0 (M 163 1)) 164 1)) 165 0 ((aSet (aSet M 163 0 (M 163 1)) 164 0 ((aSet M 163 0 (M 163 1)) 164 1)) 165 1)) o) ∧ (¬ (6 ≤ a1) → (0 ≤ aW (6 + a1) ∧ aW (6 + a1) < aLn (SH L) 1 160) ∧ (0 ≤ a1 ∧ a1 < aLn (SH L) 1 160) ∧ (0 ≤ aW (6 + a1) ∧ aW (6 + a1) < aLn (SH L) 1 161) ∧ (0 ≤ a1 ∧ a1 < aLn (SH L) 1 161) ∧ (0 ≤ aW (6 + a1) ∧ aW (6 + a1) < aLn (SH L) 1 162) ∧ (0 ≤ a1 ∧ a1 < aLn (SH L) 1 162) ∧ (0 ≤ aW (6 + a1) ∧ aW (6 + a1) < aLn (SH L) 1 167) ∧ (0 ≤ a1 ∧ a1 < aLn (SH L) 1 167) ∧ (0 ≤ aW (6 + a1) ∧ aW (6 + a1) < aLn (SH L) 1 168) ∧ (0 ≤ a1 ∧ a1 < aLn (SH L) 1 168) ∧ aX xc_205 (aSeek xc_205 136) [aR 145, aI (aW (a1 + 1))] [] (SH L) (aSet (aSet (aSet (aSet (aSet M 160 a1 (M 160 (aW (6 + a1)))) 161 a1 ((aSet M 160 a1 (M 160 (aW (6 + a1)))) 161 (aW (6 + a1)))) 162 a1 ((aSet (aSet M 160 a1 (M 160 (aW (6 + a1)))) 161 a1 ((aSet M 160 a1 (M 160 (aW (6 + a1)))) 161 (aW (6 + a1)))) 162 (aW (6 + a1)))) 167 a1 ((aSet (aSet (aSet M 160 a1 (M 160 (aW (6 + a1)))) 161 a1 ((aSet M 160 a1 (M 160 (aW (6 + a1)))) 161 (aW (6 + a1)))) 162 a1 ((aSet (aSet M 160 a1 (M 160 (aW (6 + a1)))) 161 a1 ((aSet M 160 a1 (M 160 (aW (6 + a1)))) 161 (aW (6 + a1)))) 162 (aW (6 + a1)))) 167 (aW (6 + a1)))) 168 a1 ((aSet (aSet (aSet (aSet M 160 a1 (M 160 (aW (6 + a1)))) 161 a1 ((aSet M 160 a1 (M 160 (aW (6 + a1)))) 161 (aW (6 + a1)))) 162 a1 ((aSet (aSet M 160 a1 (M 160 (aW (6 + a1)))) 161 a1 ((aSet M 160 a1 (M 160 (aW (6 + a1)))) 161 (aW (6 + a1)))) 162 (aW (6 + a1)))) 167 a1 ((aSet (aSet (aSet M 160 a1 (M 160 (aW (6 + a1)))) 161 a1 ((aSet M 160 a1 (M 160 (aW (6 + a1)))) 161 (aW (6 + a1)))) 162 a1 ((aSet (aSet M 160 a1 (M 160 (aW (6 + a1)))) 161 a1 ((aSet M 160 a1 (M 160 (aW (6 + a1)))) 161 (aW (6 + a1)))) 162 (aW (6 + a1)))) 167 (aW (6 + a1)))) 168 (aW (6 + a1)))) o))) : aX xc_205 (aSeek xc_205 136) [aR 145, aI a1] [] (SH L) M o := by
  by_cases cc : 6 ≤ a1
  · replace h := h.1 cc
    have t1 : aX xc_205 (aSeek xc_205 223) [aR 145, aI a1] [] (SH L) M o := by
      exact aX_seg 26 (fun n g => g) (h)
    exact aX_seg 3 (fun n g => ip cc (g)) t1
  · replace h := h.2 cc
    have t2 : aX xc_205 (aSeek xc_205 142) [aR 145, aI a1] [] (SH L) M o := by
      obtain ⟨c3, h⟩ := h
      obtain ⟨c4, h⟩ := h
      obtain ⟨c5, h⟩ := h
      obtain ⟨c6, h⟩ := h
      obtain ⟨c7, h⟩ := h
      obtain ⟨c8, h⟩ := h
      obtain ⟨c9, h⟩ := h
      obtain ⟨c10, h⟩ := h
      obtain ⟨c11, h⟩ := h
      obtain ⟨c12, h⟩ := h
      exact aX_seg 52 (fun n g => ip c3 (ip c4 (ip c5 (ip c6 (ip c7 (ip c8 (ip c9 (ip c10 (ip c11 (ip c12 (g))))))))))) (h)
    exact aX_seg 3 (fun n g => in_ cc (g)) t2
set_option maxRecDepth 100000 in
theorem bl_205_261 {L : Nat} {a1 : Int} {M : aM} {o : aO} (h : ((500 ≤ a1 → aX xc_205 (aSeek xc_205 308) [aR 145, aI 0] [] (SH L) M o) ∧ (¬ (500 ≤ a1) → (0 ≤ aW (500 + a1) ∧ aW (500 + a1) < aLn (SH L) 1 170) ∧ (0 ≤ a1 ∧ a1 < aLn (SH L) 1 170) ∧ (0 ≤ aW (500 + a1) ∧ aW (500 + a1) < aLn (SH L) 1 171) ∧ (0 ≤ a1 ∧ a1 < aLn (SH L) 1 171) ∧ aX xc_205 (aSeek xc_205 261) [aR 145, aI (aW (a1 + 1))] [] (SH L) (aSet (aSet M 170 a1 (M 170 (aW (500 + a1)))) 171 a1 ((aSet M 170 a1 (M 170 (aW (500 + a1)))) 171 (aW (500 + a1)))) o))) : aX xc_205 (aSeek xc_205 261) [aR 145, aI a1] [] (SH L) M o := by
  by_cases cc : 500 ≤ a1
  · replace h := h.1 cc
    have t1 : aX xc_205 (aSeek xc_205 306) [aR 145, aI a1] [] (SH L) M o := by
      exact aX_seg 2 (fun n g => g) (h)
    exact aX_seg 3 (fun n g => ip cc (g)) t1
  · replace h := h.2 cc
    have t2 : aX xc_205 (aSeek xc_205 268) [aR 145, aI a1] [] (SH L) M o := by
      obtain ⟨c3, h⟩ := h
      obtain ⟨c4, h⟩ := h
      obtain ⟨c5, h⟩ := h
      obtain ⟨c6, h⟩ := h
      exact aX_seg 22 (fun n g => ip c3 (ip c4 (ip c5 (ip c6 (g))))) (h)
    exact aX_seg 3 (fun n g => in_ cc (g)) t2
set_option maxRecDepth 100000 in
theorem bl_205_308 {L : Nat} {a1 : Int} {M : aM} {o : aO} (h : ((200 ≤ a1 → o = ([], (SH L), aSet (aSet (aSet M 179 0 0) 180 0 0) 145 40 (aW (((aSet (aSet M 179 0 0) 180 0 0) 145 40) + 1)))) ∧ (¬ (200 ≤ a1) → (0 ≤ aW (200 + a1) ∧ aW (200 + a1) < aLn (SH L) 4 173) ∧ ((0 ≤ a1 ∧ a1 < aLn (SH L) 4 173) ∧ (M 173 (aW (200 + a1)) = 0 ∨ M 173 (aW (200 + a1)) = 1)) ∧ (0 ≤ aW (200 + a1) ∧ aW (200 + a1) < aLn (SH L) 1 174) ∧ (0 ≤ a1 ∧ a1 < aLn (SH L) 1 174) ∧ (0 ≤ aW (200 + a1) ∧ aW (200 + a1) < aLn (SH L) 1 175) ∧ (0 ≤ a1 ∧ a1 < aLn (SH L) 1 175) ∧ (0 ≤ aW (200 + a1) ∧ aW (200 + a1) < aLn (SH L) 1 176) ∧ (0 ≤ a1 ∧ a1 < aLn (SH L) 1 176) ∧ (0 ≤ aW (200 + a1) ∧ aW (200 + a1) < aLn (SH L) 1 177) ∧ (0 ≤ a1 ∧ a1 < aLn (SH L) 1 177) ∧ (0 ≤ aW (200 + a1) ∧ aW (200 + a1) < aLn (SH L) 1 178) ∧ (0 ≤ a1 ∧ a1 < aLn (SH L) 1 178) ∧ aX xc_205 (aSeek xc_205 308) [aR 145, aI (aW (a1 + 1))] [] (SH L) (aSet (aSet (aSet (aSet (aSet (aSet M 173 a1 (M 173 (aW (200 + a1)))) 174 a1 ((aSet M 173 a1 (M 173 (aW (200 + a1)))) 174 (aW (200 + a1)))) 175 a1 ((aSet (aSet M 173 a1 (M 173 (aW (200 + a1)))) 174 a1 ((aSet M 173 a1 (M 173 (aW (200 + a1)))) 174 (aW (200 + a1)))) 175 (aW (200 + a1)))) 176 a1 ((aSet (aSet (aSet M 173 a1 (M 173 (aW (200 + a1)))) 174 a1 ((aSet M 173 a1 (M 173 (aW (200 + a1)))) 174 (aW (200 + a1)))) 175 a1 ((aSet (aSet M 173 a1 (M 173 (aW (200 + a1)))) 174 a1 ((aSet M 173 a1 (M 173 (aW (200 + a1)))) 174 (aW (200 + a1)))) 175 (aW (200 + a1)))) 176 (aW (200 + a1)))) 177 a1 ((aSet (aSet (aSet (aSet M 173 a1 (M 173 (aW (200 + a1)))) 174 a1 ((aSet M 173 a1 (M 173 (aW (200 + a1)))) 174 (aW (200 + a1)))) 175 a1 ((aSet (aSet M 173 a1 (M 173 (aW (200 + a1)))) 174 a1 ((aSet M 173 a1 (M 173 (aW (200 + a1)))) 174 (aW (200 + a1)))) 175 (aW (200 + a1)))) 176 a1 ((aSet (aSet (aSet M 173 a1 (M 173 (aW (200 + a1)))) 174 a1 ((aSet M 173 a1 (M 173 (aW (200 + a1)))) 174 (aW (200 + a1)))) 175 a1 ((aSet (aSet M 173 a1 (M 173 (aW (200 + a1)))) 174 a1 ((aSet M 173 a1 (M 173 (aW (200 + a1)))) 174 (aW (200 + a1)))) 175 (aW (200 + a1)))) 176 (aW (200 + a1)))) 177 (aW (200 + a1)))) 178 a1 ((aSet (aSet (aSet (aSet (aSet M 173 a1 (M 173 (aW (200 + a1)))) 174 a1 ((aSet M 173 a1 (M 173 (aW (200 + a1)))) 174 (aW (200 + a1)))) 175 a1 ((aSet (aSet M 173 a1 (M 173 (aW (200 + a1)))) 174 a1 ((aSet M 173 a1 (M 173 (aW (200 + a1)))) 174 (aW (200 + a1)))) 175 (aW (200 + a1)))) 176 a1 ((aSet (aSet (aSet M 173 a1 (M 173 (aW (200 + a1)))) 174 a1 ((aSet M 173 a1 (M 173 (aW (200 + a1)))) 174 (aW (200 + a1)))) 175 a1 ((aSet (aSet M 173 a1 (M 173 (aW (200 + a1)))) 174 a1 ((aSet M 173 a1 (M 173 (aW (200 + a1)))) 174 (aW (200 + a1)))) 175 (aW (200 + a1)))) 176 (aW (200 + a1)))) 177 a1 ((aSet (aSet (aSet (aSet M 173 a1 (M 173 (aW (200 + a1)))) 174 a1 ((aSet M 173 a1 (M 173 (aW (200 + a1)))) 174 (aW (200 + a1)))) 175 a1 ((aSet (aSet M 173 a1 (M 173 (aW (200 + a1)))) 174 a1 ((aSet M 173 a1 (M 173 (aW (200 + a1)))) 174 (aW (200 + a1)))) 175 (aW (200 + a1)))) 176 a1 ((aSet (aSet (aSet M 173 a1 (M 173 (aW (200 + a1)))) 174 a1 ((aSet M 173 a1 (M 173 (aW (200 + a1)))) 174 (aW (200 + a1)))) 175 a1 ((aSet (aSet M 173 a1 (M 173 (aW (200 + a1)))) 174 a1 ((aSet M 173 a1 (M 173 (aW (200 + a1)))) 174 (aW (200 + a1)))) 175 (aW (200 + a1)))) 176 (aW (200 + a1)))) 177 (aW (200 + a1)))) 178 (aW (200 + a1)))) o))) : aX xc_205 (aSeek xc_205 308) [aR 145, aI a1] [] (SH L) M o := by
  by_cases cc : 200 ≤ a1
  · replace h := h.1 cc
    have t1 : aX xc_205 (aSeek xc_205 417) [aR 145, aI a1] [] (SH L) M o := by
      subst h
      exact ⟨17, rfl⟩
    exact aX_seg 3 (fun n g => ip cc (g)) t1
  · replace h := h.2 cc
    have t2 : aX xc_205 (aSeek xc_205 315) [aR 145, aI a1] [] (SH L) M o := by
      obtain ⟨c3, h⟩ := h
      obtain ⟨c4, h⟩ := h
      obtain ⟨c5, h⟩ := h
      obtain ⟨c6, h⟩ := h
      obtain ⟨c7, h⟩ := h
      obtain ⟨c8, h⟩ := h
      obtain ⟨c9, h⟩ := h
      obtain ⟨c10, h⟩ := h
      obtain ⟨c11, h⟩ := h
      obtain ⟨c12, h⟩ := h
      obtain ⟨c13, h⟩ := h
      obtain ⟨c14, h⟩ := h
      exact aX_seg 62 (fun n g => ip c3 (ip c4 (ip c5 (ip c6 (ip c7 (ip c8 (ip c9 (ip c10 (ip c11 (ip c12 (ip c13 (ip c14 (g))))))))))))) (h)
    exact aX_seg 3 (fun n g => in_ cc (g)) t2
/- TypeLockModel.tellSizes(I)Z -/
set_option maxRecDepth 100000 in
theorem en_206 {L : Nat} {a1 : Int} {M : aM} {o : aO} (h : (∃ (M1 : aM) (v2 : Int), aE 196 [aR 145, aI 0] (SH L) M ([aI v2], (SH L), M1) ∧ ((¬ v2 = 0 → aX xc_206 (aSeek xc_206 17) [aR 145, aI a1, aI (M 145 7), aI 0] [] (SH L) M1 o) ∧ (¬ (¬ v2 = 0) → o = ([aI 0], (SH L), M1))))) : aE 206 [aR 145, aI a1] (SH L) M o := by
  have q : aX xc_206 (aSeek xc_206 0) [aR 145, aI a1, aU, aU] [] (SH L) M o := by
    obtain ⟨M1, v2, k3, h⟩ := h
    have h2 : aX xc_206 (aSeek xc_206 10) [aR 145, aI a1, aI (M 145 7), aU] [aI v2] (SH L) M1 o := by
      by_cases cc : ¬ v2 = 0
      · replace h := h.1 cc
        have t4 : aX xc_206 (aSeek xc_206 15) [aR 145, aI a1, aI (M 145 7), aU] [] (SH L) M1 o := by
          exact aX_seg 2 (fun n g => g) (h)
        exact aX_seg 1 (fun n g => ip cc (g)) t4
      · replace h := h.2 cc
        have t5 : aX xc_206 (aSeek xc_206 13) [aR 145, aI a1, aI (M 145 7), aU] [] (SH L) M1 o := by
          subst h
          exact ⟨2, rfl⟩
        exact aX_seg 1 (fun n g => in_ cc (g)) t5
    exact aX_seg 5 (fun n g => g) (aX_callv (rfl) rfl rfl rfl k3 h2)
  exact q
set_option maxRecDepth 100000 in
theorem bl_206_17 {L : Nat} {a1 a2 a3 : Int} {M : aM} {o : aO} (h : (((M 153 1) ≤ a3 → (0 ≤ a2 ∧ a2 < aLn (SH L) 2 150) ∧ (0 ≤ a1 ∧ a1 < aLn (SH L) 2 158) ∧ (∃ (M1 : aM) (v2 : Int), aE 197 [aR 145, aI 1, aI 60] (SH L) (aSet M 158 a1 (M 150 a2)) ([aI v2], (SH L), M1) ∧ ((¬ v2 = 0 → (0 ≤ a1 ∧ a1 < aLn (SH L) 1 155) ∧ (∃ (M3 : aM) (v4 : Int), aE 197 [aR 145, aI 1, aI 60] (SH L) (aSet M1 155 a1 (M1 145 53)) ([aI v4], (SH L), M3) ∧ ((¬ v4 = 0 → (0 ≤ a1 ∧ a1 < aLn (SH L) 1 156) ∧ o = ([aI 1], (SH L), aSet M3 156 a1 (M3 145 53))) ∧ (¬ (¬ v4 = 0) → o = ([aI 0], (SH L), M3))))) ∧ (¬ (¬ v2 = 0) → o = ([aI 0], (SH L), M1))))) ∧ (¬ ((M 153 1) ≤ a3) → (0 ≤ aW (14 + a3) ∧ aW (14 + a3) < aLn (SH L) 2 158) ∧ (0 ≤ a2 ∧ a2 < aLn (SH L) 2 150) ∧ ((¬ (aCmp (M 158 (aW (14 + a3))) (M 150 a2)) = 0 → aX xc_206 (aSeek xc_206 52) [aR 145, aI a1, aI a2, aI a3] [] (SH L) M o) ∧ (¬ (¬ (aCmp (M 158 (aW (14 + a3))) (M 150 a2)) = 0) → (∃ (M5 : aM), aE 192 [aR 145, aI 3, aI a2] (SH L) M ([], (SH L), M5) ∧ aX xc_206 (aSeek xc_206 52) [aR 145, aI a1, aI a2, aI a3] [] (SH L) M5 o)))))) : aX xc_206 (aSeek xc_206 17) [aR 145, aI a1, aI a2, aI a3] [] (SH L) M o := by
  by_cases cc : (M 153 1) ≤ a3
  · replace h := h.1 cc
    have t6 : aX xc_206 (aSeek xc_206 58) [aR 145, aI a1, aI a2, aI a3] [] (SH L) M o := by
      obtain ⟨c7, h⟩ := h
      obtain ⟨c8, h⟩ := h
      obtain ⟨M1, v2, k9, h⟩ := h
      have h2 : aX xc_206 (aSeek xc_206 77) [aR 145, aI a1, aI a2, aI a3] [aI v2] (SH L) M1 o := by
        by_cases cc : ¬ v2 = 0
        · replace h := h.1 cc
          have t10 : aX xc_206 (aSeek xc_206 82) [aR 145, aI a1, aI a2, aI a3] [] (SH L) M1 o := by
            obtain ⟨c11, h⟩ := h
            obtain ⟨M3, v4, k12, h⟩ := h
            have h2 : aX xc_206 (aSeek xc_206 99) [aR 145, aI a1, aI a2, aI a3] [aI v4] (SH L) M3 o := by
              by_cases cc : ¬ v4 = 0
              · replace h := h.1 cc
                have t13 : aX xc_206 (aSeek xc_206 104) [aR 145, aI a1, aI a2, aI a3] [] (SH L) M3 o := by
                  obtain ⟨c14, h⟩ := h
                  subst h
                  exact ⟨8, ip c14 (rfl)⟩
                exact aX_seg 1 (fun n g => ip cc (g)) t13
              · replace h := h.2 cc
                have t15 : aX xc_206 (aSeek xc_206 102) [aR 145, aI a1, aI a2, aI a3] [] (SH L) M3 o := by
                  subst h
                  exact ⟨2, rfl⟩
                exact aX_seg 1 (fun n g => in_ cc (g)) t15
            exact aX_seg 9 (fun n g => ip c11 (g)) (aX_callv (rfl) rfl rfl rfl k12 h2)
          exact aX_seg 1 (fun n g => ip cc (g)) t10
        · replace h := h.2 cc
          have t16 : aX xc_206 (aSeek xc_206 80) [aR 145, aI a1, aI a2, aI a3] [] (SH L) M1 o := by
            subst h
            exact ⟨2, rfl⟩
          exact aX_seg 1 (fun n g => in_ cc (g)) t16
      exact aX_seg 11 (fun n g => ip c7 (ip c8 (g))) (aX_callv (rfl) rfl rfl rfl k9 h2)
    exact aX_seg 6 (fun n g => ip cc (g)) t6
  · replace h := h.2 cc
    have t17 : aX xc_206 (aSeek xc_206 27) [aR 145, aI a1, aI a2, aI a3] [] (SH L) M o := by
      obtain ⟨c18, h⟩ := h
      obtain ⟨c19, h⟩ := h
      by_cases cc : ¬ (aCmp (M 158 (aW (14 + a3))) (M 150 a2)) = 0
      · replace h := h.1 cc
        have t20 : aX xc_206 (aSeek xc_206 52) [aR 145, aI a1, aI a2, aI a3] [] (SH L) M o := by
          exact h
        exact aX_seg 12 (fun n g => ip c18 (ip c19 (ip cc (g)))) t20
      · replace h := h.2 cc
        have t21 : aX xc_206 (aSeek xc_206 46) [aR 145, aI a1, aI a2, aI a3] [] (SH L) M o := by
          obtain ⟨M5, k22, h⟩ := h
          have h2 : aX xc_206 (aSeek xc_206 52) [aR 145, aI a1, aI a2, aI a3] [] (SH L) M5 o := by
            exact h
          exact aX_seg 3 (fun n g => g) (aX_callv (rfl) rfl rfl rfl k22 h2)
        exact aX_seg 12 (fun n g => ip c18 (ip c19 (in_ cc (g)))) t21
    exact aX_seg 6 (fun n g => in_ cc (g)) t17
set_option maxRecDepth 100000 in
theorem bl_206_52 {L : Nat} {a1 a2 a3 : Int} {M : aM} {o : aO} (h : aX xc_206 (aSeek xc_206 17) [aR 145, aI a1, aI a2, aI (aW (a3 + 1))] [] (SH L) M o) : aX xc_206 (aSeek xc_206 52) [aR 145, aI a1, aI a2, aI a3] [] (SH L) M o := by
  exact aX_seg 2 (fun n g => g) (h)
/- TypeLockModel.tellBlock()Z -/
set_option maxRecDepth 100000 in
theorem en_207 {L : Nat} {M : aM} {o : aO} (h : ((¬ (M 153 1) = 14 → (∃ (M1 : aM) (v2 : Int), aE 193 [aR 145] (SH L) M ([aI v2], (SH L), M1) ∧ ((v2 = 0 → o = ([aI 0], (SH L), M1)) ∧ (¬ (v2 = 0) → (∃ (M3 : aM) (v4 : Int), aE 206 [aR 145, aI (aW (14 + (M 153 1)))] (SH L) M1 ([aI v4], (SH L), M3) ∧ ((¬ v4 = 0 → (0 ≤ aW (14 + (M 153 1)) ∧ aW (14 + (M 153 1)) < aLn (SH L) 1 154) ∧ (0 ≤ aW (14 + (M 153 1)) ∧ aW (14 + (M 153 1)) < aLn (SH L) 1 157) ∧ o = ([aI 1], (SH L), aSet (aSet (aSet M3 154 (aW (14 + (M 153 1))) 0) 157 (aW (14 + (M 153 1))) 1) 153 1 (aW (((aSet (aSet M3 154 (aW (14 + (M 153 1))) 0) 157 (aW (14 + (M 153 1))) 1) 153 1) + 1)))) ∧ (¬ (¬ v4 = 0) → o = ([aI 0], (SH L), M3)))))))) ∧ (¬ (¬ (M 153 1) = 14) → (∃ (M5 : aM) (v6 : Int), aE 191 [aR 145, aI 2] (SH L) M ([aI v6], (SH L), M5) ∧ ((v6 : Int) = 0 ∨ (v6 : Int) = 1) ∧ o = ([aI v6], (SH L), M5))))) : aE 207 [aR 145] (SH L) M o := by
  have q : aX xc_207 (aSeek xc_207 0) [aR 145, aU] [] (SH L) M o := by
    by_cases cc : ¬ (M 153 1) = 14
    · replace h := h.1 cc
      have t7 : aX xc_207 (aSeek xc_207 17) [aR 145, aU] [] (SH L) M o := by
        obtain ⟨M1, v2, k8, h⟩ := h
        have h2 : aX xc_207 (aSeek xc_207 31) [aR 145, aI (aW (14 + (M 153 1)))] [aI v2] (SH L) M1 o := by
          by_cases cc : v2 = 0
          · replace h := h.1 cc
            have t9 : aX xc_207 (aSeek xc_207 42) [aR 145, aI (aW (14 + (M 153 1)))] [] (SH L) M1 o := by
              subst h
              exact ⟨2, rfl⟩
            exact aX_seg 1 (fun n g => ip cc (g)) t9
          · replace h := h.2 cc
            have t10 : aX xc_207 (aSeek xc_207 34) [aR 145, aI (aW (14 + (M 153 1)))] [] (SH L) M1 o := by
              obtain ⟨M3, v4, k11, h⟩ := h
              have h2 : aX xc_207 (aSeek xc_207 39) [aR 145, aI (aW (14 + (M 153 1)))] [aI v4] (SH L) M3 o := by
                by_cases cc : ¬ v4 = 0
                · replace h := h.1 cc
                  have t12 : aX xc_207 (aSeek xc_207 44) [aR 145, aI (aW (14 + (M 153 1)))] [] (SH L) M3 o := by
                    obtain ⟨c13, h⟩ := h
                    obtain ⟨c14, h⟩ := h
                    subst h
                    exact ⟨20, ip c13 (ip c14 (rfl))⟩
                  exact aX_seg 1 (fun n g => ip cc (g)) t12
                · replace h := h.2 cc
                  have t15 : aX xc_207 (aSeek xc_207 42) [aR 145, aI (aW (14 + (M 153 1)))] [] (SH L) M3 o := by
                    subst h
                    exact ⟨2, rfl⟩
                  exact aX_seg 1 (fun n g => in_ cc (g)) t15
              exact aX_seg 2 (fun n g => g) (aX_callv (rfl) rfl rfl rfl k11 h2)
            exact aX_seg 1 (fun n g => in_ cc (g)) t10
        exact aX_seg 8 (fun n g => g) (aX_callv (rfl) rfl rfl rfl k8 h2)
      exact aX_seg 6 (fun n g => ip cc (g)) t7
    · replace h := h.2 cc
      have t16 : aX xc_207 (aSeek xc_207 11) [aR 145, aU] [] (SH L) M o := by
        obtain ⟨M5, v6, k17, h⟩ := h
        have h2 : aX xc_207 (aSeek xc_207 16) [aR 145, aU] [aI v6] (SH L) M5 o := by
          obtain ⟨c18, h⟩ := h
          subst h
          exact ⟨1, ip c18 (rfl)⟩
        exact aX_seg 2 (fun n g => g) (aX_callv (rfl) rfl rfl rfl k17 h2)
      exact aX_seg 6 (fun n g => in_ cc (g)) t16
  exact q
/- TypeLockModel.tellPiece()Z -/
set_option maxRecDepth 100000 in
theorem en_208 {L : Nat} {M : aM} {o : aO} (h : ((¬ (M 153 1) = 14 → (∃ (M1 : aM) (v2 : Int), aE 193 [aR 145] (SH L) M ([aI v2], (SH L), M1) ∧ ((¬ v2 = 0 → (∃ (M3 : aM) (v4 : Int), aE 195 [aR 145, aI 20] (SH L) M1 ([aI v4], (SH L), M3) ∧ ((v4 = 0 → (∃ (M5 : aM) (v6 : Int), aE 195 [aR 145, aI 21] (SH L) M3 ([aI v6], (SH L), M5) ∧ ((v6 = 0 → aX xc_208 (aSeek xc_208 68) [aR 145, aI (aW (14 + (M 153 1)))] [aI 1, aI (aW (14 + (M 153 1))), aR 154] (SH L) M5 o) ∧ (¬ (v6 = 0) → aX xc_208 (aSeek xc_208 68) [aR 145, aI (aW (14 + (M 153 1)))] [aI 3, aI (aW (14 + (M 153 1))), aR 154] (SH L) M5 o)))) ∧ (¬ (v4 = 0) → aX xc_208 (aSeek xc_208 68) [aR 145, aI (aW (14 + (M 153 1)))] [aI 2, aI (aW (14 + (M 153 1))), aR 154] (SH L) M3 o)))) ∧ (¬ (¬ v2 = 0) → o = ([aI 0], (SH L), M1))))) ∧ (¬ (¬ (M 153 1) = 14) → (∃ (M7 : aM) (v8 : Int), aE 191 [aR 145, aI 2] (SH L) M ([aI v8], (SH L), M7) ∧ ((v8 : Int) = 0 ∨ (v8 : Int) = 1) ∧ o = ([aI v8], (SH L), M7))))) : aE 208 [aR 145] (SH L) M o := by
  have q : aX xc_208 (aSeek xc_208 0) [aR 145, aU] [] (SH L) M o := by
    by_cases cc : ¬ (M 153 1) = 14
    · replace h := h.1 cc
      have t9 : aX xc_208 (aSeek xc_208 17) [aR 145, aU] [] (SH L) M o := by
        obtain ⟨M1, v2, k10, h⟩ := h
        have h2 : aX xc_208 (aSeek xc_208 31) [aR 145, aI (aW (14 + (M 153 1)))] [aI v2] (SH L) M1 o := by
          by_cases cc : ¬ v2 = 0
          · replace h := h.1 cc
            have t11 : aX xc_208 (aSeek xc_208 36) [aR 145, aI (aW (14 + (M 153 1)))] [] (SH L) M1 o := by
              obtain ⟨M3, v4, k12, h⟩ := h
              have h2 : aX xc_208 (aSeek xc_208 47) [aR 145, aI (aW (14 + (M 153 1)))] [aI v4, aI (aW (14 + (M 153 1))), aR 154] (SH L) M3 o := by
                by_cases cc : v4 = 0
                · replace h := h.1 cc
                  have t13 : aX xc_208 (aSeek xc_208 54) [aR 145, aI (aW (14 + (M 153 1)))] [aI (aW (14 + (M 153 1))), aR 154] (SH L) M3 o := by
                    obtain ⟨M5, v6, k14, h⟩ := h
                    have h2 : aX xc_208 (aSeek xc_208 60) [aR 145, aI (aW (14 + (M 153 1)))] [aI v6, aI (aW (14 + (M 153 1))), aR 154] (SH L) M5 o := by
                      by_cases cc : v6 = 0
                      · replace h := h.1 cc
                        have t15 : aX xc_208 (aSeek xc_208 67) [aR 145, aI (aW (14 + (M 153 1)))] [aI (aW (14 + (M 153 1))), aR 154] (SH L) M5 o := by
                          exact aX_seg 1 (fun n g => g) (h)
                        exact aX_seg 1 (fun n g => ip cc (g)) t15
                      · replace h := h.2 cc
                        have t16 : aX xc_208 (aSeek xc_208 63) [aR 145, aI (aW (14 + (M 153 1)))] [aI (aW (14 + (M 153 1))), aR 154] (SH L) M5 o := by
                          exact aX_seg 2 (fun n g => g) (h)
                        exact aX_seg 1 (fun n g => in_ cc (g)) t16
                    exact aX_seg 2 (fun n g => g) (aX_callv (rfl) rfl rfl rfl k14 h2)
                  exact aX_seg 1 (fun n g => ip cc (g)) t13
                · replace h := h.2 cc
                  have t17 : aX xc_208 (aSeek xc_208 50) [aR 145, aI (aW (14 + (M 153 1)))] [aI (aW (14 + (M 153 1))), aR 154] (SH L) M3 o := by
                    exact aX_seg 2 (fun n g => g) (h)
                  exact aX_seg 1 (fun n g => in_ cc (g)) t17
              exact aX_seg 5 (fun n g => g) (aX_callv (rfl) rfl rfl rfl k12 h2)
            exact aX_seg 1 (fun n g => ip cc (g)) t11
          · replace h := h.2 cc
            have t18 : aX xc_208 (aSeek xc_208 34) [aR 145, aI (aW (14 + (M 153 1)))] [] (SH L) M1 o := by
              subst h
              exact ⟨2, rfl⟩
            exact aX_seg 1 (fun n g => in_ cc (g)) t18
        exact aX_seg 8 (fun n g => g) (aX_callv (rfl) rfl rfl rfl k10 h2)
      exact aX_seg 6 (fun n g => ip cc (g)) t9
    · replace h := h.2 cc
      have t19 : aX xc_208 (aSeek xc_208 11) [aR 145, aU] [] (SH L) M o := by
        obtain ⟨M7, v8, k20, h⟩ := h
        have h2 : aX xc_208 (aSeek xc_208 16) [aR 145, aU] [aI v8] (SH L) M7 o := by
          obtain ⟨c21, h⟩ := h
          subst h
          exact ⟨1, ip c21 (rfl)⟩
        exact aX_seg 2 (fun n g => g) (aX_callv (rfl) rfl rfl rfl k20 h2)
      exact aX_seg 6 (fun n g => in_ cc (g)) t19
  exact q
set_option maxRecDepth 100000 in
theorem bl_208_68 {L : Nat} {a1 b0 b1 b2 : Int} {M : aM} {o : aO} (h : (0 ≤ b1 ∧ b1 < aLn (SH L) 1 b0) ∧ (0 ≤ a1 ∧ a1 < aLn (SH L) 1 154) ∧ ((((aSet M b0 b1 b2) 154 a1) ≤ 1 → aX xc_208 (aSeek xc_208 88) [aR 145, aI a1] [] (SH L) (aSet M b0 b1 b2) o) ∧ (¬ (((aSet M b0 b1 b2) 154 a1) ≤ 1) → (∃ (M1 : aM) (v2 : Int), aE 193 [aR 145] (SH L) (aSet M b0 b1 b2) ([aI v2], (SH L), M1) ∧ ((¬ v2 = 0 → aX xc_208 (aSeek xc_208 88) [aR 145, aI a1] [] (SH L) M1 o) ∧ (¬ (¬ v2 = 0) → o = ([aI 0], (SH L), M1))))))) : aX xc_208 (aSeek xc_208 68) [aR 145, aI a1] [aI b2, aI b1, aR b0] (SH L) M o := by
  obtain ⟨c3, h⟩ := h
  obtain ⟨c4, h⟩ := h
  by_cases cc : ((aSet M b0 b1 b2) 154 a1) ≤ 1
  · replace h := h.1 cc
    have t5 : aX xc_208 (aSeek xc_208 88) [aR 145, aI a1] [] (SH L) (aSet M b0 b1 b2) o := by
      exact h
    exact aX_seg 7 (fun n g => ip c3 (ip c4 (ip cc (g)))) t5
  · replace h := h.2 cc
    have t6 : aX xc_208 (aSeek xc_208 79) [aR 145, aI a1] [] (SH L) (aSet M b0 b1 b2) o := by
      obtain ⟨M1, v2, k7, h⟩ := h
      have h2 : aX xc_208 (aSeek xc_208 83) [aR 145, aI a1] [aI v2] (SH L) M1 o := by
        by_cases cc : ¬ v2 = 0
        · replace h := h.1 cc
          have t8 : aX xc_208 (aSeek xc_208 88) [aR 145, aI a1] [] (SH L) M1 o := by
            exact h
          exact aX_seg 1 (fun n g => ip cc (g)) t8
        · replace h := h.2 cc
          have t9 : aX xc_208 (aSeek xc_208 86) [aR 145, aI a1] [] (SH L) M1 o := by
            subst h
            exact ⟨2, rfl⟩
          exact aX_seg 1 (fun n g => in_ cc (g)) t9
      exact aX_seg 1 (fun n g => g) (aX_callv (rfl) rfl rfl rfl k7 h2)
    exact aX_seg 7 (fun n g => ip c3 (ip c4 (in_ cc (g)))) t6
set_option maxRecDepth 100000 in
theorem bl_208_88 {L : Nat} {a1 : Int} {M : aM} {o : aO} (h : (∃ (M1 : aM) (v2 : Int), aE 206 [aR 145, aI a1] (SH L) M ([aI v2], (SH L), M1) ∧ ((v2 = 0 → o = ([aI 0], (SH L), M1)) ∧ (¬ (v2 = 0) → (∃ (M3 : aM) (v4 : Int), aE 197 [aR 145, aI 0, aI 99] (SH L) M1 ([aI v4], (SH L), M3) ∧ ((¬ v4 = 0 → (0 ≤ a1 ∧ a1 < aLn (SH L) 1 157) ∧ o = ([aI 1], (SH L), aSet (aSet M3 157 a1 (M3 145 53)) 153 1 (aW (((aSet M3 157 a1 (M3 145 53)) 153 1) + 1)))) ∧ (¬ (¬ v4 = 0) → o = ([aI 0], (SH L), M3)))))))) : aX xc_208 (aSeek xc_208 88) [aR 145, aI a1] [] (SH L) M o := by
  obtain ⟨M1, v2, k5, h⟩ := h
  have h2 : aX xc_208 (aSeek xc_208 93) [aR 145, aI a1] [aI v2] (SH L) M1 o := by
    by_cases cc : v2 = 0
    · replace h := h.1 cc
      have t6 : aX xc_208 (aSeek xc_208 106) [aR 145, aI a1] [] (SH L) M1 o := by
        subst h
        exact ⟨2, rfl⟩
      exact aX_seg 1 (fun n g => ip cc (g)) t6
    · replace h := h.2 cc
      have t7 : aX xc_208 (aSeek xc_208 96) [aR 145, aI a1] [] (SH L) M1 o := by
        obtain ⟨M3, v4, k8, h⟩ := h
        have h2 : aX xc_208 (aSeek xc_208 103) [aR 145, aI a1] [aI v4] (SH L) M3 o := by
          by_cases cc : ¬ v4 = 0
          · replace h := h.1 cc
            have t9 : aX xc_208 (aSeek xc_208 108) [aR 145, aI a1] [] (SH L) M3 o := by
              obtain ⟨c10, h⟩ := h
              subst h
              exact ⟨16, ip c10 (rfl)⟩
            exact aX_seg 1 (fun n g => ip cc (g)) t9
          · replace h := h.2 cc
            have t11 : aX xc_208 (aSeek xc_208 106) [aR 145, aI a1] [] (SH L) M3 o := by
              subst h
              exact ⟨2, rfl⟩
            exact aX_seg 1 (fun n g => in_ cc (g)) t11
        exact aX_seg 3 (fun n g => g) (aX_callv (rfl) rfl rfl rfl k8 h2)
      exact aX_seg 1 (fun n g => in_ cc (g)) t7
  exact aX_seg 2 (fun n g => g) (aX_callv (rfl) rfl rfl rfl k5 h2)
/- TypeLockModel.tellWedge()Z -/
set_option maxRecDepth 100000 in
theorem en_209 {L : Nat} {M : aM} {o : aO} (h : ((¬ (M 159 1) = 6 → (∃ (M1 : aM) (v2 : Int), aE 193 [aR 145] (SH L) M ([aI v2], (SH L), M1) ∧ ((¬ v2 = 0 → (∃ (M3 : aM) (v4 : Int), aE 195 [aR 145, aI 7] (SH L) M1 ([aI v4], (SH L), M3) ∧ ((v4 = 0 → (∃ (M5 : aM) (v6 : Int), aE 195 [aR 145, aI 9] (SH L) M3 ([aI v6], (SH L), M5) ∧ ((v6 = 0 → (∃ (M7 : aM) (v8 : Int), aE 195 [aR 145, aI 30] (SH L) M5 ([aI v8], (SH L), M7) ∧ ((v8 = 0 → (∃ (M9 : aM) (v10 : Int), aE 195 [aR 145, aI 31] (SH L) M7 ([aI v10], (SH L), M9) ∧ ((v10 = 0 → aX xc_209 (aSeek xc_209 89) [aR 145, aI (aW (6 + (M 159 1))), aU] [aI ((-1))] (SH L) M9 o) ∧ (¬ (v10 = 0) → aX xc_209 (aSeek xc_209 89) [aR 145, aI (aW (6 + (M 159 1))), aU] [aI 3] (SH L) M9 o)))) ∧ (¬ (v8 = 0) → aX xc_209 (aSeek xc_209 89) [aR 145, aI (aW (6 + (M 159 1))), aU] [aI 2] (SH L) M7 o)))) ∧ (¬ (v6 = 0) → aX xc_209 (aSeek xc_209 89) [aR 145, aI (aW (6 + (M 159 1))), aU] [aI 1] (SH L) M5 o)))) ∧ (¬ (v4 = 0) → aX xc_209 (aSeek xc_209 89) [aR 145, aI (aW (6 + (M 159 1))), aU] [aI 0] (SH L) M3 o)))) ∧ (¬ (¬ v2 = 0) → o = ([aI 0], (SH L), M1))))) ∧ (¬ (¬ (M 159 1) = 6) → (∃ (M11 : aM) (v12 : Int), aE 191 [aR 145, aI 2] (SH L) M ([aI v12], (SH L), M11) ∧ ((v12 : Int) = 0 ∨ (v12 : Int) = 1) ∧ o = ([aI v12], (SH L), M11))))) : aE 209 [aR 145] (SH L) M o := by
  have q : aX xc_209 (aSeek xc_209 0) [aR 145, aU, aU] [] (SH L) M o := by
    by_cases cc : ¬ (M 159 1) = 6
    · replace h := h.1 cc
      have t13 : aX xc_209 (aSeek xc_209 17) [aR 145, aU, aU] [] (SH L) M o := by
        obtain ⟨M1, v2, k14, h⟩ := h
        have h2 : aX xc_209 (aSeek xc_209 31) [aR 145, aI (aW (6 + (M 159 1))), aU] [aI v2] (SH L) M1 o := by
          by_cases cc : ¬ v2 = 0
          · replace h := h.1 cc
            have t15 : aX xc_209 (aSeek xc_209 36) [aR 145, aI (aW (6 + (M 159 1))), aU] [] (SH L) M1 o := by
              obtain ⟨M3, v4, k16, h⟩ := h
              have h2 : aX xc_209 (aSeek xc_209 42) [aR 145, aI (aW (6 + (M 159 1))), aU] [aI v4] (SH L) M3 o := by
                by_cases cc : v4 = 0
                · replace h := h.1 cc
                  have t17 : aX xc_209 (aSeek xc_209 49) [aR 145, aI (aW (6 + (M 159 1))), aU] [] (SH L) M3 o := by
                    obtain ⟨M5, v6, k18, h⟩ := h
                    have h2 : aX xc_209 (aSeek xc_209 55) [aR 145, aI (aW (6 + (M 159 1))), aU] [aI v6] (SH L) M5 o := by
                      by_cases cc : v6 = 0
                      · replace h := h.1 cc
                        have t19 : aX xc_209 (aSeek xc_209 62) [aR 145, aI (aW (6 + (M 159 1))), aU] [] (SH L) M5 o := by
                          obtain ⟨M7, v8, k20, h⟩ := h
                          have h2 : aX xc_209 (aSeek xc_209 68) [aR 145, aI (aW (6 + (M 159 1))), aU] [aI v8] (SH L) M7 o := by
                            by_cases cc : v8 = 0
                            · replace h := h.1 cc
                              have t21 : aX xc_209 (aSeek xc_209 75) [aR 145, aI (aW (6 + (M 159 1))), aU] [] (SH L) M7 o := by
                                obtain ⟨M9, v10, k22, h⟩ := h
                                have h2 : aX xc_209 (aSeek xc_209 81) [aR 145, aI (aW (6 + (M 159 1))), aU] [aI v10] (SH L) M9 o := by
                                  by_cases cc : v10 = 0
                                  · replace h := h.1 cc
                                    have t23 : aX xc_209 (aSeek xc_209 88) [aR 145, aI (aW (6 + (M 159 1))), aU] [] (SH L) M9 o := by
                                      exact aX_seg 1 (fun n g => g) (h)
                                    exact aX_seg 1 (fun n g => ip cc (g)) t23
                                  · replace h := h.2 cc
                                    have t24 : aX xc_209 (aSeek xc_209 84) [aR 145, aI (aW (6 + (M 159 1))), aU] [] (SH L) M9 o := by
                                      exact aX_seg 2 (fun n g => g) (h)
                                    exact aX_seg 1 (fun n g => in_ cc (g)) t24
                                exact aX_seg 2 (fun n g => g) (aX_callv (rfl) rfl rfl rfl k22 h2)
                              exact aX_seg 1 (fun n g => ip cc (g)) t21
                            · replace h := h.2 cc
                              have t25 : aX xc_209 (aSeek xc_209 71) [aR 145, aI (aW (6 + (M 159 1))), aU] [] (SH L) M7 o := by
                                exact aX_seg 2 (fun n g => g) (h)
                              exact aX_seg 1 (fun n g => in_ cc (g)) t25
                          exact aX_seg 2 (fun n g => g) (aX_callv (rfl) rfl rfl rfl k20 h2)
                        exact aX_seg 1 (fun n g => ip cc (g)) t19
                      · replace h := h.2 cc
                        have t26 : aX xc_209 (aSeek xc_209 58) [aR 145, aI (aW (6 + (M 159 1))), aU] [] (SH L) M5 o := by
                          exact aX_seg 2 (fun n g => g) (h)
                        exact aX_seg 1 (fun n g => in_ cc (g)) t26
                    exact aX_seg 2 (fun n g => g) (aX_callv (rfl) rfl rfl rfl k18 h2)
                  exact aX_seg 1 (fun n g => ip cc (g)) t17
                · replace h := h.2 cc
                  have t27 : aX xc_209 (aSeek xc_209 45) [aR 145, aI (aW (6 + (M 159 1))), aU] [] (SH L) M3 o := by
                    exact aX_seg 2 (fun n g => g) (h)
                  exact aX_seg 1 (fun n g => in_ cc (g)) t27
              exact aX_seg 2 (fun n g => g) (aX_callv (rfl) rfl rfl rfl k16 h2)
            exact aX_seg 1 (fun n g => ip cc (g)) t15
          · replace h := h.2 cc
            have t28 : aX xc_209 (aSeek xc_209 34) [aR 145, aI (aW (6 + (M 159 1))), aU] [] (SH L) M1 o := by
              subst h
              exact ⟨2, rfl⟩
            exact aX_seg 1 (fun n g => in_ cc (g)) t28
        exact aX_seg 8 (fun n g => g) (aX_callv (rfl) rfl rfl rfl k14 h2)
      exact aX_seg 6 (fun n g => ip cc (g)) t13
    · replace h := h.2 cc
      have t29 : aX xc_209 (aSeek xc_209 11) [aR 145, aU, aU] [] (SH L) M o := by
        obtain ⟨M11, v12, k30, h⟩ := h
        have h2 : aX xc_209 (aSeek xc_209 16) [aR 145, aU, aU] [aI v12] (SH L) M11 o := by
          obtain ⟨c31, h⟩ := h
          subst h
          exact ⟨1, ip c31 (rfl)⟩
        exact aX_seg 2 (fun n g => g) (aX_callv (rfl) rfl rfl rfl k30 h2)
      exact aX_seg 6 (fun n g => in_ cc (g)) t29
  exact q
set_option maxRecDepth 100000 in
theorem bl_209_89 {L : Nat} {a1 b0 : Int} {M : aM} {o : aO} (h : ((0 ≤ b0 → (0 ≤ a1 ∧ a1 < aLn (SH L) 1 160) ∧ (∃ (M1 : aM) (v2 : Int), aE 193 [aR 145] (SH L) (aSet M 160 a1 b0) ([aI v2], (SH L), M1) ∧ ((v2 = 0 → o = ([aI 0], (SH L), M1)) ∧ (¬ (v2 = 0) → (∃ (M3 : aM) (v4 : Int), aE 197 [aR 145, aI 0, aI 9999] (SH L) M1 ([aI v4], (SH L), M3) ∧ ((¬ v4 = 0 → (0 ≤ a1 ∧ a1 < aLn (SH L) 1 161) ∧ (∃ (M5 : aM) (v6 : Int), aE 197 [aR 145, aI (aW (((aSet M3 161 a1 (M3 145 53)) 145 53) + 1)), aI 60] (SH L) (aSet M3 161 a1 (M3 145 53)) ([aI v6], (SH L), M5) ∧ ((¬ v6 = 0 → (0 ≤ a1 ∧ a1 < aLn (SH L) 1 162) ∧ o = ([aI 1], (SH L), aSet (aSet M5 162 a1 (M5 145 53)) 159 1 (aW (((aSet M5 162 a1 (M5 145 53)) 159 1) + 1)))) ∧ (¬ (¬ v6 = 0) → o = ([aI 0], (SH L), M5))))) ∧ (¬ (¬ v4 = 0) → o = ([aI 0], (SH L), M3)))))))) ∧ (¬ (0 ≤ b0) → (∃ (M7 : aM) (v8 : Int), aE 191 [aR 145, aI 1] (SH L) M ([aI v8], (SH L), M7) ∧ ((v8 : Int) = 0 ∨ (v8 : Int) = 1) ∧ o = ([aI v8], (SH L), M7))))) : aX xc_209 (aSeek xc_209 89) [aR 145, aI a1, aU] [aI b0] (SH L) M o := by
  by_cases cc : 0 ≤ b0
  · replace h := h.1 cc
    have t9 : aX xc_209 (aSeek xc_209 100) [aR 145, aI a1, aI b0] [] (SH L) M o := by
      obtain ⟨c10, h⟩ := h
      obtain ⟨M1, v2, k11, h⟩ := h
      have h2 : aX xc_209 (aSeek xc_209 111) [aR 145, aI a1, aI b0] [aI v2] (SH L) M1 o := by
        by_cases cc : v2 = 0
        · replace h := h.1 cc
          have t12 : aX xc_209 (aSeek xc_209 125) [aR 145, aI a1, aI b0] [] (SH L) M1 o := by
            subst h
            exact ⟨2, rfl⟩
          exact aX_seg 1 (fun n g => ip cc (g)) t12
        · replace h := h.2 cc
          have t13 : aX xc_209 (aSeek xc_209 114) [aR 145, aI a1, aI b0] [] (SH L) M1 o := by
            obtain ⟨M3, v4, k14, h⟩ := h
            have h2 : aX xc_209 (aSeek xc_209 122) [aR 145, aI a1, aI b0] [aI v4] (SH L) M3 o := by
              by_cases cc : ¬ v4 = 0
              · replace h := h.1 cc
                have t15 : aX xc_209 (aSeek xc_209 127) [aR 145, aI a1, aI b0] [] (SH L) M3 o := by
                  obtain ⟨c16, h⟩ := h
                  obtain ⟨M5, v6, k17, h⟩ := h
                  have h2 : aX xc_209 (aSeek xc_209 149) [aR 145, aI a1, aI b0] [aI v6] (SH L) M5 o := by
                    by_cases cc : ¬ v6 = 0
                    · replace h := h.1 cc
                      have t18 : aX xc_209 (aSeek xc_209 154) [aR 145, aI a1, aI b0] [] (SH L) M5 o := by
                        obtain ⟨c19, h⟩ := h
                        subst h
                        exact ⟨16, ip c19 (rfl)⟩
                      exact aX_seg 1 (fun n g => ip cc (g)) t18
                    · replace h := h.2 cc
                      have t20 : aX xc_209 (aSeek xc_209 152) [aR 145, aI a1, aI b0] [] (SH L) M5 o := by
                        subst h
                        exact ⟨2, rfl⟩
                      exact aX_seg 1 (fun n g => in_ cc (g)) t20
                  exact aX_seg 12 (fun n g => ip c16 (g)) (aX_callv (rfl) rfl rfl rfl k17 h2)
                exact aX_seg 1 (fun n g => ip cc (g)) t15
              · replace h := h.2 cc
                have t21 : aX xc_209 (aSeek xc_209 125) [aR 145, aI a1, aI b0] [] (SH L) M3 o := by
                  subst h
                  exact ⟨2, rfl⟩
                exact aX_seg 1 (fun n g => in_ cc (g)) t21
            exact aX_seg 3 (fun n g => g) (aX_callv (rfl) rfl rfl rfl k14 h2)
          exact aX_seg 1 (fun n g => in_ cc (g)) t13
      exact aX_seg 6 (fun n g => ip c10 (g)) (aX_callv (rfl) rfl rfl rfl k11 h2)
    exact aX_seg 3 (fun n g => ip cc (g)) t9
  · replace h := h.2 cc
    have t22 : aX xc_209 (aSeek xc_209 94) [aR 145, aI a1, aI b0] [] (SH L) M o := by
      obtain ⟨M7, v8, k23, h⟩ := h
      have h2 : aX xc_209 (aSeek xc_209 99) [aR 145, aI a1, aI b0] [aI v8] (SH L) M7 o := by
        obtain ⟨c24, h⟩ := h
        subst h
        exact ⟨1, ip c24 (rfl)⟩
      exact aX_seg 2 (fun n g => g) (aX_callv (rfl) rfl rfl rfl k23 h2)
    exact aX_seg 3 (fun n g => in_ cc (g)) t22
/- TypeLockModel.tellRule()Z -/
set_option maxRecDepth 100000 in
theorem en_210 {L : Nat} {M : aM} {o : aO} (h : ((¬ (M 166 1) = 6 → (∃ (M1 : aM) (v2 : Int), aE 193 [aR 145] (SH L) M ([aI v2], (SH L), M1) ∧ ((¬ v2 = 0 → (∃ (M3 : aM) (v4 : Int), aE 195 [aR 145, aI 8] (SH L) M1 ([aI v4], (SH L), M3) ∧ ((¬ v4 = 0 → (∃ (M5 : aM) (v6 : Int), aE 193 [aR 145] (SH L) M3 ([aI v6], (SH L), M5) ∧ ((v6 = 0 → o = ([aI 0], (SH L), M5)) ∧ (¬ (v6 = 0) → (∃ (M7 : aM) (v8 : Int), aE 204 [aR 145] (SH L) M5 ([aI v8], (SH L), M7) ∧ ((¬ v8 = 0 → (0 ≤ aW (6 + (M7 166 1)) ∧ aW (6 + (M7 166 1)) < aLn (SH L) 1 167) ∧ (0 ≤ aW (6 + ((aSet M7 167 (aW (6 + (M7 166 1))) (M7 145 57)) 166 1)) ∧ aW (6 + ((aSet M7 167 (aW (6 + (M7 166 1))) (M7 145 57)) 166 1)) < aLn (SH L) 1 168) ∧ o = ([aI 1], (SH L), aSet (aSet (aSet M7 167 (aW (6 + (M7 166 1))) (M7 145 57)) 168 (aW (6 + ((aSet M7 167 (aW (6 + (M7 166 1))) (M7 145 57)) 166 1))) ((aSet M7 167 (aW (6 + (M7 166 1))) (M7 145 57)) 172 1)) 166 1 (aW (((aSet (aSet M7 167 (aW (6 + (M7 166 1))) (M7 145 57)) 168 (aW (6 + ((aSet M7 167 (aW (6 + (M7 166 1))) (M7 145 57)) 166 1))) ((aSet M7 167 (aW (6 + (M7 166 1))) (M7 145 57)) 172 1)) 166 1) + 1)))) ∧ (¬ (¬ v8 = 0) → o = ([aI 0], (SH L), M7)))))))) ∧ (¬ (¬ v4 = 0) → (∃ (M9 : aM) (v10 : Int), aE 191 [aR 145, aI 1] (SH L) M3 ([aI v10], (SH L), M9) ∧ ((v10 : Int) = 0 ∨ (v10 : Int) = 1) ∧ o = ([aI v10], (SH L), M9)))))) ∧ (¬ (¬ v2 = 0) → o = ([aI 0], (SH L), M1))))) ∧ (¬ (¬ (M 166 1) = 6) → (∃ (M11 : aM) (v12 : Int), aE 191 [aR 145, aI 2] (SH L) M ([aI v12], (SH L), M11) ∧ ((v12 : Int) = 0 ∨ (v12 : Int) = 1) ∧ o = ([aI v12], (SH L), M11))))) : aE 210 [aR 145] (SH L) M o := by
  have q : aX xc_210 (aSeek xc_210 0) [aR 145] [] (SH L) M o := by
    by_cases cc : ¬ (M 166 1) = 6
    · replace h := h.1 cc
      have t13 : aX xc_210 (aSeek xc_210 17) [aR 145] [] (SH L) M o := by
        obtain ⟨M1, v2, k14, h⟩ := h
        have h2 : aX xc_210 (aSeek xc_210 21) [aR 145] [aI v2] (SH L) M1 o := by
          by_cases cc : ¬ v2 = 0
          · replace h := h.1 cc
            have t15 : aX xc_210 (aSeek xc_210 26) [aR 145] [] (SH L) M1 o := by
              obtain ⟨M3, v4, k16, h⟩ := h
              have h2 : aX xc_210 (aSeek xc_210 32) [aR 145] [aI v4] (SH L) M3 o := by
                by_cases cc : ¬ v4 = 0
                · replace h := h.1 cc
                  have t17 : aX xc_210 (aSeek xc_210 41) [aR 145] [] (SH L) M3 o := by
                    obtain ⟨M5, v6, k18, h⟩ := h
                    have h2 : aX xc_210 (aSeek xc_210 45) [aR 145] [aI v6] (SH L) M5 o := by
                      by_cases cc : v6 = 0
                      · replace h := h.1 cc
                        have t19 : aX xc_210 (aSeek xc_210 55) [aR 145] [] (SH L) M5 o := by
                          subst h
                          exact ⟨2, rfl⟩
                        exact aX_seg 1 (fun n g => ip cc (g)) t19
                      · replace h := h.2 cc
                        have t20 : aX xc_210 (aSeek xc_210 48) [aR 145] [] (SH L) M5 o := by
                          obtain ⟨M7, v8, k21, h⟩ := h
                          have h2 : aX xc_210 (aSeek xc_210 52) [aR 145] [aI v8] (SH L) M7 o := by
                            by_cases cc : ¬ v8 = 0
                            · replace h := h.1 cc
                              have t22 : aX xc_210 (aSeek xc_210 57) [aR 145] [] (SH L) M7 o := by
                                obtain ⟨c23, h⟩ := h
                                obtain ⟨c24, h⟩ := h
                                subst h
                                exact ⟨34, ip c23 (ip c24 (rfl))⟩
                              exact aX_seg 1 (fun n g => ip cc (g)) t22
                            · replace h := h.2 cc
                              have t25 : aX xc_210 (aSeek xc_210 55) [aR 145] [] (SH L) M7 o := by
                                subst h
                                exact ⟨2, rfl⟩
                              exact aX_seg 1 (fun n g => in_ cc (g)) t25
                          exact aX_seg 1 (fun n g => g) (aX_callv (rfl) rfl rfl rfl k21 h2)
                        exact aX_seg 1 (fun n g => in_ cc (g)) t20
                    exact aX_seg 1 (fun n g => g) (aX_callv (rfl) rfl rfl rfl k18 h2)
                  exact aX_seg 1 (fun n g => ip cc (g)) t17
                · replace h := h.2 cc
                  have t26 : aX xc_210 (aSeek xc_210 35) [aR 145] [] (SH L) M3 o := by
                    obtain ⟨M9, v10, k27, h⟩ := h
                    have h2 : aX xc_210 (aSeek xc_210 40) [aR 145] [aI v10] (SH L) M9 o := by
                      obtain ⟨c28, h⟩ := h
                      subst h
                      exact ⟨1, ip c28 (rfl)⟩
                    exact aX_seg 2 (fun n g => g) (aX_callv (rfl) rfl rfl rfl k27 h2)
                  exact aX_seg 1 (fun n g => in_ cc (g)) t26
              exact aX_seg 2 (fun n g => g) (aX_callv (rfl) rfl rfl rfl k16 h2)
            exact aX_seg 1 (fun n g => ip cc (g)) t15
          · replace h := h.2 cc
            have t29 : aX xc_210 (aSeek xc_210 24) [aR 145] [] (SH L) M1 o := by
              subst h
              exact ⟨2, rfl⟩
            exact aX_seg 1 (fun n g => in_ cc (g)) t29
        exact aX_seg 1 (fun n g => g) (aX_callv (rfl) rfl rfl rfl k14 h2)
      exact aX_seg 6 (fun n g => ip cc (g)) t13
    · replace h := h.2 cc
      have t30 : aX xc_210 (aSeek xc_210 11) [aR 145] [] (SH L) M o := by
        obtain ⟨M11, v12, k31, h⟩ := h
        have h2 : aX xc_210 (aSeek xc_210 16) [aR 145] [aI v12] (SH L) M11 o := by
          obtain ⟨c32, h⟩ := h
          subst h
          exact ⟨1, ip c32 (rfl)⟩
        exact aX_seg 2 (fun n g => g) (aX_callv (rfl) rfl rfl rfl k31 h2)
      exact aX_seg 6 (fun n g => in_ cc (g)) t30
  exact q
/- TypeLockModel.tellFrame()Z -/
set_option maxRecDepth 100000 in
theorem en_211 {L : Nat} {M : aM} {o : aO} (h : (∃ (M1 : aM) (v2 : Int), aE 193 [aR 145] (SH L) M ([aI v2], (SH L), M1) ∧ ((v2 = 0 → o = ([aI 0], (SH L), M1)) ∧ (¬ (v2 = 0) → (∃ (M3 : aM) (v4 : Int), aE 197 [aR 145, aI 1, aI 60] (SH L) M1 ([aI v4], (SH L), M3) ∧ ((¬ v4 = 0 → (∃ (M5 : aM) (v6 : Int), aE 197 [aR 145, aI 1, aI 60] (SH L) (aSet M3 151 1 (M3 145 53)) ([aI v6], (SH L), M5) ∧ ((¬ v6 = 0 → o = ([aI 1], (SH L), aSet M5 152 1 (M5 145 53))) ∧ (¬ (¬ v6 = 0) → o = ([aI 0], (SH L), M5))))) ∧ (¬ (¬ v4 = 0) → o = ([aI 0], (SH L), M3)))))))) : aE 211 [aR 145] (SH L) M o := by
  have q : aX xc_211 (aSeek xc_211 0) [aR 145] [] (SH L) M o := by
    obtain ⟨M1, v2, k7, h⟩ := h
    have h2 : aX xc_211 (aSeek xc_211 4) [aR 145] [aI v2] (SH L) M1 o := by
      by_cases cc : v2 = 0
      · replace h := h.1 cc
        have t8 : aX xc_211 (aSeek xc_211 17) [aR 145] [] (SH L) M1 o := by
          subst h
          exact ⟨2, rfl⟩
        exact aX_seg 1 (fun n g => ip cc (g)) t8
      · replace h := h.2 cc
        have t9 : aX xc_211 (aSeek xc_211 7) [aR 145] [] (SH L) M1 o := by
          obtain ⟨M3, v4, k10, h⟩ := h
          have h2 : aX xc_211 (aSeek xc_211 14) [aR 145] [aI v4] (SH L) M3 o := by
            by_cases cc : ¬ v4 = 0
            · replace h := h.1 cc
              have t11 : aX xc_211 (aSeek xc_211 19) [aR 145] [] (SH L) M3 o := by
                obtain ⟨M5, v6, k12, h⟩ := h
                have h2 : aX xc_211 (aSeek xc_211 36) [aR 145] [aI v6] (SH L) M5 o := by
                  by_cases cc : ¬ v6 = 0
                  · replace h := h.1 cc
                    have t13 : aX xc_211 (aSeek xc_211 41) [aR 145] [] (SH L) M5 o := by
                      subst h
                      exact ⟨8, rfl⟩
                    exact aX_seg 1 (fun n g => ip cc (g)) t13
                  · replace h := h.2 cc
                    have t14 : aX xc_211 (aSeek xc_211 39) [aR 145] [] (SH L) M5 o := by
                      subst h
                      exact ⟨2, rfl⟩
                    exact aX_seg 1 (fun n g => in_ cc (g)) t14
                exact aX_seg 9 (fun n g => g) (aX_callv (rfl) rfl rfl rfl k12 h2)
              exact aX_seg 1 (fun n g => ip cc (g)) t11
            · replace h := h.2 cc
              have t15 : aX xc_211 (aSeek xc_211 17) [aR 145] [] (SH L) M3 o := by
                subst h
                exact ⟨2, rfl⟩
              exact aX_seg 1 (fun n g => in_ cc (g)) t15
          exact aX_seg 3 (fun n g => g) (aX_callv (rfl) rfl rfl rfl k10 h2)
        exact aX_seg 1 (fun n g => in_ cc (g)) t9
    exact aX_seg 1 (fun n g => g) (aX_callv (rfl) rfl rfl rfl k7 h2)
  exact q
/- TypeLockModel.tell()Z -/
set_option maxRecDepth 100000 in
theorem en_212 {L : Nat} {M : aM} {o : aO} (h : (0 ≤ M 145 7 ∧ M 145 7 < aLn (SH L) 1 147) ∧ ((¬ (M 147 (M 145 7)) = 3 → aX xc_212 (aSeek xc_212 26) [aR 145, aU] [aI ((-1))] (SH L) M o) ∧ (¬ (¬ (M 147 (M 145 7)) = 3) → (0 ≤ M 145 7 ∧ M 145 7 < aLn (SH L) 1 149) ∧ aX xc_212 (aSeek xc_212 26) [aR 145, aU] [aI (M 149 (M 145 7))] (SH L) M o))) : aE 212 [aR 145] (SH L) M o := by
  have q : aX xc_212 (aSeek xc_212 0) [aR 145, aU] [] (SH L) M o := by
    obtain ⟨c1, h⟩ := h
    by_cases cc : ¬ (M 147 (M 145 7)) = 3
    · replace h := h.1 cc
      have t2 : aX xc_212 (aSeek xc_212 25) [aR 145, aU] [] (SH L) M o := by
        exact aX_seg 1 (fun n g => g) (h)
      exact aX_seg 7 (fun n g => ip c1 (ip cc (g))) t2
    · replace h := h.2 cc
      have t3 : aX xc_212 (aSeek xc_212 13) [aR 145, aU] [] (SH L) M o := by
        obtain ⟨c4, h⟩ := h
        exact aX_seg 6 (fun n g => ip c4 (g)) (h)
      exact aX_seg 7 (fun n g => ip c1 (in_ cc (g))) t3
  exact q
set_option maxRecDepth 100000 in
theorem bl_212_26 {L : Nat} {b0 : Int} {M : aM} {o : aO} (h : ((¬ b0 = 0 → ((¬ b0 = 1 → ((¬ b0 = 2 → ((¬ b0 = 3 → ((¬ b0 = 6 → ((b0 = 4 → aX xc_212 (aSeek xc_212 93) [aR 145, aI b0] [] (SH L) M o) ∧ (¬ (b0 = 4) → ((b0 = 5 → aX xc_212 (aSeek xc_212 93) [aR 145, aI b0] [] (SH L) M o) ∧ (¬ (b0 = 5) → (∃ (M1 : aM) (v2 : Int), aE 191 [aR 145, aI 1] (SH L) M ([aI v2], (SH L), M1) ∧ ((v2 : Int) = 0 ∨ (v2 : Int) = 1) ∧ o = ([aI v2], (SH L), M1))))))) ∧ (¬ (¬ b0 = 6) → (∃ (M3 : aM) (v4 : Int), aE 210 [aR 145] (SH L) M ([aI v4], (SH L), M3) ∧ ((v4 : Int) = 0 ∨ (v4 : Int) = 1) ∧ o = ([aI v4], (SH L), M3))))) ∧ (¬ (¬ b0 = 3) → (∃ (M5 : aM) (v6 : Int), aE 209 [aR 145] (SH L) M ([aI v6], (SH L), M5) ∧ ((v6 : Int) = 0 ∨ (v6 : Int) = 1) ∧ o = ([aI v6], (SH L), M5))))) ∧ (¬ (¬ b0 = 2) → (∃ (M7 : aM) (v8 : Int), aE 208 [aR 145] (SH L) M ([aI v8], (SH L), M7) ∧ ((v8 : Int) = 0 ∨ (v8 : Int) = 1) ∧ o = ([aI v8], (SH L), M7))))) ∧ (¬ (¬ b0 = 1) → (∃ (M9 : aM) (v10 : Int), aE 207 [aR 145] (SH L) M ([aI v10], (SH L), M9) ∧ ((v10 : Int) = 0 ∨ (v10 : Int) = 1) ∧ o = ([aI v10], (SH L), M9))))) ∧ (¬ (¬ b0 = 0) → (∃ (M11 : aM) (v12 : Int), aE 211 [aR 145] (SH L) M ([aI v12], (SH L), M11) ∧ ((v12 : Int) = 0 ∨ (v12 : Int) = 1) ∧ o = ([aI v12], (SH L), M11))))) : aX xc_212 (aSeek xc_212 26) [aR 145, aU] [aI b0] (SH L) M o := by
  by_cases cc : ¬ b0 = 0
  · replace h := h.1 cc
    have t13 : aX xc_212 (aSeek xc_212 36) [aR 145, aI b0] [] (SH L) M o := by
      by_cases cc : ¬ b0 = 1
      · replace h := h.1 cc
        have t14 : aX xc_212 (aSeek xc_212 46) [aR 145, aI b0] [] (SH L) M o := by
          by_cases cc : ¬ b0 = 2
          · replace h := h.1 cc
            have t15 : aX xc_212 (aSeek xc_212 56) [aR 145, aI b0] [] (SH L) M o := by
              by_cases cc : ¬ b0 = 3
              · replace h := h.1 cc
                have t16 : aX xc_212 (aSeek xc_212 66) [aR 145, aI b0] [] (SH L) M o := by
                  by_cases cc : ¬ b0 = 6
                  · replace h := h.1 cc
                    have t17 : aX xc_212 (aSeek xc_212 77) [aR 145, aI b0] [] (SH L) M o := by
                      by_cases cc : b0 = 4
                      · replace h := h.1 cc
                        have t18 : aX xc_212 (aSeek xc_212 93) [aR 145, aI b0] [] (SH L) M o := by
                          exact h
                        exact aX_seg 3 (fun n g => ip cc (g)) t18
                      · replace h := h.2 cc
                        have t19 : aX xc_212 (aSeek xc_212 82) [aR 145, aI b0] [] (SH L) M o := by
                          by_cases cc : b0 = 5
                          · replace h := h.1 cc
                            have t20 : aX xc_212 (aSeek xc_212 93) [aR 145, aI b0] [] (SH L) M o := by
                              exact h
                            exact aX_seg 3 (fun n g => ip cc (g)) t20
                          · replace h := h.2 cc
                            have t21 : aX xc_212 (aSeek xc_212 87) [aR 145, aI b0] [] (SH L) M o := by
                              obtain ⟨M1, v2, k22, h⟩ := h
                              have h2 : aX xc_212 (aSeek xc_212 92) [aR 145, aI b0] [aI v2] (SH L) M1 o := by
                                obtain ⟨c23, h⟩ := h
                                subst h
                                exact ⟨1, ip c23 (rfl)⟩
                              exact aX_seg 2 (fun n g => g) (aX_callv (rfl) rfl rfl rfl k22 h2)
                            exact aX_seg 3 (fun n g => in_ cc (g)) t21
                        exact aX_seg 3 (fun n g => in_ cc (g)) t19
                    exact aX_seg 3 (fun n g => ip cc (g)) t17
                  · replace h := h.2 cc
                    have t24 : aX xc_212 (aSeek xc_212 72) [aR 145, aI b0] [] (SH L) M o := by
                      obtain ⟨M3, v4, k25, h⟩ := h
                      have h2 : aX xc_212 (aSeek xc_212 76) [aR 145, aI b0] [aI v4] (SH L) M3 o := by
                        obtain ⟨c26, h⟩ := h
                        subst h
                        exact ⟨1, ip c26 (rfl)⟩
                      exact aX_seg 1 (fun n g => g) (aX_callv (rfl) rfl rfl rfl k25 h2)
                    exact aX_seg 3 (fun n g => in_ cc (g)) t24
                exact aX_seg 3 (fun n g => ip cc (g)) t16
              · replace h := h.2 cc
                have t27 : aX xc_212 (aSeek xc_212 61) [aR 145, aI b0] [] (SH L) M o := by
                  obtain ⟨M5, v6, k28, h⟩ := h
                  have h2 : aX xc_212 (aSeek xc_212 65) [aR 145, aI b0] [aI v6] (SH L) M5 o := by
                    obtain ⟨c29, h⟩ := h
                    subst h
                    exact ⟨1, ip c29 (rfl)⟩
                  exact aX_seg 1 (fun n g => g) (aX_callv (rfl) rfl rfl rfl k28 h2)
                exact aX_seg 3 (fun n g => in_ cc (g)) t27
            exact aX_seg 3 (fun n g => ip cc (g)) t15
          · replace h := h.2 cc
            have t30 : aX xc_212 (aSeek xc_212 51) [aR 145, aI b0] [] (SH L) M o := by
              obtain ⟨M7, v8, k31, h⟩ := h
              have h2 : aX xc_212 (aSeek xc_212 55) [aR 145, aI b0] [aI v8] (SH L) M7 o := by
                obtain ⟨c32, h⟩ := h
                subst h
                exact ⟨1, ip c32 (rfl)⟩
              exact aX_seg 1 (fun n g => g) (aX_callv (rfl) rfl rfl rfl k31 h2)
            exact aX_seg 3 (fun n g => in_ cc (g)) t30
        exact aX_seg 3 (fun n g => ip cc (g)) t14
      · replace h := h.2 cc
        have t33 : aX xc_212 (aSeek xc_212 41) [aR 145, aI b0] [] (SH L) M o := by
          obtain ⟨M9, v10, k34, h⟩ := h
          have h2 : aX xc_212 (aSeek xc_212 45) [aR 145, aI b0] [aI v10] (SH L) M9 o := by
            obtain ⟨c35, h⟩ := h
            subst h
            exact ⟨1, ip c35 (rfl)⟩
          exact aX_seg 1 (fun n g => g) (aX_callv (rfl) rfl rfl rfl k34 h2)
        exact aX_seg 3 (fun n g => in_ cc (g)) t33
    exact aX_seg 3 (fun n g => ip cc (g)) t13
  · replace h := h.2 cc
    have t36 : aX xc_212 (aSeek xc_212 31) [aR 145, aI b0] [] (SH L) M o := by
      obtain ⟨M11, v12, k37, h⟩ := h
      have h2 : aX xc_212 (aSeek xc_212 35) [aR 145, aI b0] [aI v12] (SH L) M11 o := by
        obtain ⟨c38, h⟩ := h
        subst h
        exact ⟨1, ip c38 (rfl)⟩
      exact aX_seg 1 (fun n g => g) (aX_callv (rfl) rfl rfl rfl k37 h2)
    exact aX_seg 3 (fun n g => in_ cc (g)) t36
set_option maxRecDepth 100000 in
theorem bl_212_93 {L : Nat} {a1 : Int} {M : aM} {o : aO} (h : (∃ (M1 : aM) (v2 : Int), aE 193 [aR 145] (SH L) M ([aI v2], (SH L), M1) ∧ ((¬ v2 = 0 → ((¬ a1 = 4 → (∃ (M3 : aM) (v4 : Int), aE 194 [aR 145, aI 61] (SH L) M1 ([aI v4], (SH L), M3) ∧ ((¬ v4 = 0 → (∃ (M5 : aM) (v6 : Int), aE 193 [aR 145] (SH L) M3 ([aI v6], (SH L), M5) ∧ ((v6 = 0 → o = ([aI 0], (SH L), M5)) ∧ (¬ (v6 = 0) → (∃ (M7 : aM) (v8 : Int), aE 203 [aR 145] (SH L) M5 ([aI v8], (SH L), M7) ∧ ((¬ v8 = 0 → o = ([aI 1], (SH L), aSet (aSet M7 164 1 (M7 145 56)) 165 1 ((aSet M7 164 1 (M7 145 56)) 169 1))) ∧ (¬ (¬ v8 = 0) → o = ([aI 0], (SH L), M7)))))))) ∧ (¬ (¬ v4 = 0) → (∃ (M9 : aM) (v10 : Int), aE 191 [aR 145, aI 1] (SH L) M3 ([aI v10], (SH L), M9) ∧ ((v10 : Int) = 0 ∨ (v10 : Int) = 1) ∧ o = ([aI v10], (SH L), M9)))))) ∧ (¬ (¬ a1 = 4) → (∃ (M11 : aM) (v12 : Int), aE 197 [aR 145, aI 1, aI 100] (SH L) M1 ([aI v12], (SH L), M11) ∧ ((¬ v12 = 0 → o = ([aI 1], (SH L), aSet M11 163 1 (M11 145 53))) ∧ (¬ (¬ v12 = 0) → o = ([aI 0], (SH L), M11))))))) ∧ (¬ (¬ v2 = 0) → o = ([aI 0], (SH L), M1))))) : aX xc_212 (aSeek xc_212 93) [aR 145, aI a1] [] (SH L) M o := by
  obtain ⟨M1, v2, k13, h⟩ := h
  have h2 : aX xc_212 (aSeek xc_212 97) [aR 145, aI a1] [aI v2] (SH L) M1 o := by
    by_cases cc : ¬ v2 = 0
    · replace h := h.1 cc
      have t14 : aX xc_212 (aSeek xc_212 102) [aR 145, aI a1] [] (SH L) M1 o := by
        by_cases cc : ¬ a1 = 4
        · replace h := h.1 cc
          have t15 : aX xc_212 (aSeek xc_212 131) [aR 145, aI a1] [] (SH L) M1 o := by
            obtain ⟨M3, v4, k16, h⟩ := h
            have h2 : aX xc_212 (aSeek xc_212 137) [aR 145, aI a1] [aI v4] (SH L) M3 o := by
              by_cases cc : ¬ v4 = 0
              · replace h := h.1 cc
                have t17 : aX xc_212 (aSeek xc_212 146) [aR 145, aI a1] [] (SH L) M3 o := by
                  obtain ⟨M5, v6, k18, h⟩ := h
                  have h2 : aX xc_212 (aSeek xc_212 150) [aR 145, aI a1] [aI v6] (SH L) M5 o := by
                    by_cases cc : v6 = 0
                    · replace h := h.1 cc
                      have t19 : aX xc_212 (aSeek xc_212 160) [aR 145, aI a1] [] (SH L) M5 o := by
                        subst h
                        exact ⟨2, rfl⟩
                      exact aX_seg 1 (fun n g => ip cc (g)) t19
                    · replace h := h.2 cc
                      have t20 : aX xc_212 (aSeek xc_212 153) [aR 145, aI a1] [] (SH L) M5 o := by
                        obtain ⟨M7, v8, k21, h⟩ := h
                        have h2 : aX xc_212 (aSeek xc_212 157) [aR 145, aI a1] [aI v8] (SH L) M7 o := by
                          by_cases cc : ¬ v8 = 0
                          · replace h := h.1 cc
                            have t22 : aX xc_212 (aSeek xc_212 162) [aR 145, aI a1] [] (SH L) M7 o := by
                              subst h
                              exact ⟨16, rfl⟩
                            exact aX_seg 1 (fun n g => ip cc (g)) t22
                          · replace h := h.2 cc
                            have t23 : aX xc_212 (aSeek xc_212 160) [aR 145, aI a1] [] (SH L) M7 o := by
                              subst h
                              exact ⟨2, rfl⟩
                            exact aX_seg 1 (fun n g => in_ cc (g)) t23
                        exact aX_seg 1 (fun n g => g) (aX_callv (rfl) rfl rfl rfl k21 h2)
                      exact aX_seg 1 (fun n g => in_ cc (g)) t20
                  exact aX_seg 1 (fun n g => g) (aX_callv (rfl) rfl rfl rfl k18 h2)
                exact aX_seg 1 (fun n g => ip cc (g)) t17
              · replace h := h.2 cc
                have t24 : aX xc_212 (aSeek xc_212 140) [aR 145, aI a1] [] (SH L) M3 o := by
                  obtain ⟨M9, v10, k25, h⟩ := h
                  have h2 : aX xc_212 (aSeek xc_212 145) [aR 145, aI a1] [aI v10] (SH L) M9 o := by
                    obtain ⟨c26, h⟩ := h
                    subst h
                    exact ⟨1, ip c26 (rfl)⟩
                  exact aX_seg 2 (fun n g => g) (aX_callv (rfl) rfl rfl rfl k25 h2)
                exact aX_seg 1 (fun n g => in_ cc (g)) t24
            exact aX_seg 2 (fun n g => g) (aX_callv (rfl) rfl rfl rfl k16 h2)
          exact aX_seg 3 (fun n g => ip cc (g)) t15
        · replace h := h.2 cc
          have t27 : aX xc_212 (aSeek xc_212 107) [aR 145, aI a1] [] (SH L) M1 o := by
            obtain ⟨M11, v12, k28, h⟩ := h
            have h2 : aX xc_212 (aSeek xc_212 114) [aR 145, aI a1] [aI v12] (SH L) M11 o := by
              by_cases cc : ¬ v12 = 0
              · replace h := h.1 cc
                have t29 : aX xc_212 (aSeek xc_212 119) [aR 145, aI a1] [] (SH L) M11 o := by
                  subst h
                  exact ⟨8, rfl⟩
                exact aX_seg 1 (fun n g => ip cc (g)) t29
              · replace h := h.2 cc
                have t30 : aX xc_212 (aSeek xc_212 117) [aR 145, aI a1] [] (SH L) M11 o := by
                  subst h
                  exact ⟨2, rfl⟩
                exact aX_seg 1 (fun n g => in_ cc (g)) t30
            exact aX_seg 3 (fun n g => g) (aX_callv (rfl) rfl rfl rfl k28 h2)
          exact aX_seg 3 (fun n g => in_ cc (g)) t27
      exact aX_seg 1 (fun n g => ip cc (g)) t14
    · replace h := h.2 cc
      have t31 : aX xc_212 (aSeek xc_212 100) [aR 145, aI a1] [] (SH L) M1 o := by
        subst h
        exact ⟨2, rfl⟩
      exact aX_seg 1 (fun n g => in_ cc (g)) t31
  exact aX_seg 1 (fun n g => g) (aX_callv (rfl) rfl rfl rfl k13 h2)
/- TypeLockModel.parses()Z -/
set_option maxRecDepth 100000 in
theorem en_213 {L : Nat} {M : aM} {o : aO} (h : aX xc_213 (aSeek xc_213 5) [aR 145] [] (SH L) (aSet M 145 7 0) o) : aE 213 [aR 145] (SH L) M o := by
  have q : aX xc_213 (aSeek xc_213 0) [aR 145] [] (SH L) M o := by
    exact aX_seg 3 (fun n g => g) (h)
  exact q
set_option maxRecDepth 100000 in
theorem bl_213_5 {L : Nat} {M : aM} {o : aO} (h : (0 ≤ M 145 7 ∧ M 145 7 < aLn (SH L) 1 147) ∧ (((M 147 (M 145 7)) = 4 → o = ([aI 1], (SH L), M)) ∧ (¬ ((M 147 (M 145 7)) = 4) → (∃ (M1 : aM) (v2 : Int), aE 212 [aR 145] (SH L) M ([aI v2], (SH L), M1) ∧ ((¬ v2 = 0 → (∃ (M3 : aM) (v4 : Int), aE 194 [aR 145, aI 59] (SH L) M1 ([aI v4], (SH L), M3) ∧ ((¬ v4 = 0 → (∃ (M5 : aM) (v6 : Int), aE 193 [aR 145] (SH L) M3 ([aI v6], (SH L), M5) ∧ ((¬ v6 = 0 → aX xc_213 (aSeek xc_213 5) [aR 145] [] (SH L) M5 o) ∧ (¬ (¬ v6 = 0) → o = ([aI 0], (SH L), M5))))) ∧ (¬ (¬ v4 = 0) → (∃ (M7 : aM) (v8 : Int), aE 191 [aR 145, aI 1] (SH L) M3 ([aI v8], (SH L), M7) ∧ ((v8 : Int) = 0 ∨ (v8 : Int) = 1) ∧ o = ([aI v8], (SH L), M7)))))) ∧ (¬ (¬ v2 = 0) → o = ([aI 0], (SH L), M1))))))) : aX xc_213 (aSeek xc_213 5) [aR 145] [] (SH L) M o := by
  obtain ⟨c9, h⟩ := h
  by_cases cc : (M 147 (M 145 7)) = 4
  · replace h := h.1 cc
    have t10 : aX xc_213 (aSeek xc_213 51) [aR 145] [] (SH L) M o := by
      subst h
      exact ⟨2, rfl⟩
    exact aX_seg 7 (fun n g => ip c9 (ip cc (g))) t10
  · replace h := h.2 cc
    have t11 : aX xc_213 (aSeek xc_213 18) [aR 145] [] (SH L) M o := by
      obtain ⟨M1, v2, k12, h⟩ := h
      have h2 : aX xc_213 (aSeek xc_213 22) [aR 145] [aI v2] (SH L) M1 o := by
        by_cases cc : ¬ v2 = 0
        · replace h := h.1 cc
          have t13 : aX xc_213 (aSeek xc_213 27) [aR 145] [] (SH L) M1 o := by
            obtain ⟨M3, v4, k14, h⟩ := h
            have h2 : aX xc_213 (aSeek xc_213 33) [aR 145] [aI v4] (SH L) M3 o := by
              by_cases cc : ¬ v4 = 0
              · replace h := h.1 cc
                have t15 : aX xc_213 (aSeek xc_213 42) [aR 145] [] (SH L) M3 o := by
                  obtain ⟨M5, v6, k16, h⟩ := h
                  have h2 : aX xc_213 (aSeek xc_213 46) [aR 145] [aI v6] (SH L) M5 o := by
                    by_cases cc : ¬ v6 = 0
                    · replace h := h.1 cc
                      have t17 : aX xc_213 (aSeek xc_213 5) [aR 145] [] (SH L) M5 o := by
                        exact h
                      exact aX_seg 1 (fun n g => ip cc (g)) t17
                    · replace h := h.2 cc
                      have t18 : aX xc_213 (aSeek xc_213 49) [aR 145] [] (SH L) M5 o := by
                        subst h
                        exact ⟨2, rfl⟩
                      exact aX_seg 1 (fun n g => in_ cc (g)) t18
                  exact aX_seg 1 (fun n g => g) (aX_callv (rfl) rfl rfl rfl k16 h2)
                exact aX_seg 1 (fun n g => ip cc (g)) t15
              · replace h := h.2 cc
                have t19 : aX xc_213 (aSeek xc_213 36) [aR 145] [] (SH L) M3 o := by
                  obtain ⟨M7, v8, k20, h⟩ := h
                  have h2 : aX xc_213 (aSeek xc_213 41) [aR 145] [aI v8] (SH L) M7 o := by
                    obtain ⟨c21, h⟩ := h
                    subst h
                    exact ⟨1, ip c21 (rfl)⟩
                  exact aX_seg 2 (fun n g => g) (aX_callv (rfl) rfl rfl rfl k20 h2)
                exact aX_seg 1 (fun n g => in_ cc (g)) t19
            exact aX_seg 2 (fun n g => g) (aX_callv (rfl) rfl rfl rfl k14 h2)
          exact aX_seg 1 (fun n g => ip cc (g)) t13
        · replace h := h.2 cc
          have t22 : aX xc_213 (aSeek xc_213 25) [aR 145] [] (SH L) M1 o := by
            subst h
            exact ⟨2, rfl⟩
          exact aX_seg 1 (fun n g => in_ cc (g)) t22
      exact aX_seg 1 (fun n g => g) (aX_callv (rfl) rfl rfl rfl k12 h2)
    exact aX_seg 7 (fun n g => ip c9 (in_ cc (g))) t11
/- TypeLockModel.read()I -/
set_option maxRecDepth 100000 in
theorem en_214 {L : Nat} {M : aM} {o : aO} (h : (∃ (M1 : aM), aE 190 [aR 145] (SH L) M ([], (SH L), M1) ∧ (∃ (M2 : aM), aE 178 [aR 145, aI 1] (SH L) (aSet (aSet (aSet M1 145 8 0) 145 9 ((-1))) 145 10 0) ([], (SH L), M2) ∧ (∃ (M3 : aM) (v4 : Int), aE 213 [aR 145] (SH L) M2 ([aI v4], (SH L), M3) ∧ ((v4 = 0 → aX xc_214 (aSeek xc_214 54) [aR 145] [] (SH L) M3 o) ∧ (¬ (v4 = 0) → (((M3 145 10) = 0 → aX xc_214 (aSeek xc_214 54) [aR 145] [] (SH L) M3 o) ∧ (¬ ((M3 145 10) = 0) → aX xc_214 (aSeek xc_214 54) [aR 145] [] (SH L) (aSet (aSet M3 145 8 (M3 145 10)) 145 9 ((aSet M3 145 8 (M3 145 10)) 145 11)) o)))))))) : aE 214 [aR 145] (SH L) M o := by
  have q : aX xc_214 (aSeek xc_214 0) [aR 145] [] (SH L) M o := by
    obtain ⟨M1, k5, h⟩ := h
    have h2 : aX xc_214 (aSeek xc_214 4) [aR 145] [] (SH L) M1 o := by
      obtain ⟨M2, k6, h⟩ := h
      have h2 : aX xc_214 (aSeek xc_214 24) [aR 145] [] (SH L) M2 o := by
        obtain ⟨M3, v4, k7, h⟩ := h
        have h2 : aX xc_214 (aSeek xc_214 28) [aR 145] [aI v4] (SH L) M3 o := by
          by_cases cc : v4 = 0
          · replace h := h.1 cc
            have t8 : aX xc_214 (aSeek xc_214 54) [aR 145] [] (SH L) M3 o := by
              exact h
            exact aX_seg 1 (fun n g => ip cc (g)) t8
          · replace h := h.2 cc
            have t9 : aX xc_214 (aSeek xc_214 31) [aR 145] [] (SH L) M3 o := by
              by_cases cc : (M3 145 10) = 0
              · replace h := h.1 cc
                have t10 : aX xc_214 (aSeek xc_214 54) [aR 145] [] (SH L) M3 o := by
                  exact h
                exact aX_seg 3 (fun n g => ip cc (g)) t10
              · replace h := h.2 cc
                have t11 : aX xc_214 (aSeek xc_214 38) [aR 145] [] (SH L) M3 o := by
                  exact aX_seg 8 (fun n g => g) (h)
                exact aX_seg 3 (fun n g => in_ cc (g)) t11
            exact aX_seg 1 (fun n g => in_ cc (g)) t9
        exact aX_seg 1 (fun n g => g) (aX_callv (rfl) rfl rfl rfl k7 h2)
      exact aX_seg 11 (fun n g => g) (aX_callv (rfl) rfl rfl rfl k6 h2)
    exact aX_seg 1 (fun n g => g) (aX_callv (rfl) rfl rfl rfl k5 h2)
  exact q
set_option maxRecDepth 100000 in
theorem bl_214_54 {L : Nat} {M : aM} {o : aO} (h : ((¬ ((aSet M 145 0 0) 145 8) = 0 → o = ([aI ((aSet M 145 0 0) 145 8)], (SH L), aSet M 145 0 0)) ∧ (¬ (¬ ((aSet M 145 0 0) 145 8) = 0) → (∃ (M1 : aM), aE 205 [aR 145] (SH L) (aSet M 145 0 0) ([], (SH L), M1) ∧ o = ([aI (M1 145 8)], (SH L), M1))))) : aX xc_214 (aSeek xc_214 54) [aR 145] [] (SH L) M o := by
  by_cases cc : ¬ ((aSet M 145 0 0) 145 8) = 0
  · replace h := h.1 cc
    have t2 : aX xc_214 (aSeek xc_214 70) [aR 145] [] (SH L) (aSet M 145 0 0) o := by
      subst h
      exact ⟨3, rfl⟩
    exact aX_seg 6 (fun n g => ip cc (g)) t2
  · replace h := h.2 cc
    have t3 : aX xc_214 (aSeek xc_214 66) [aR 145] [] (SH L) (aSet M 145 0 0) o := by
      obtain ⟨M1, k4, h⟩ := h
      have h2 : aX xc_214 (aSeek xc_214 70) [aR 145] [] (SH L) M1 o := by
        subst h
        exact ⟨3, rfl⟩
      exact aX_seg 1 (fun n g => g) (aX_callv (rfl) rfl rfl rfl k4 h2)
    exact aX_seg 6 (fun n g => in_ cc (g)) t3
/- TypeLockModel.place()I -/
set_option maxRecDepth 100000 in
theorem en_215 {L : Nat} {M : aM} {o : aO} (h : o = ([aI (M 145 9)], (SH L), M)) : aE 215 [aR 145] (SH L) M o := by
  have q : aX xc_215 (aSeek xc_215 0) [aR 145] [] (SH L) M o := by
    subst h
    exact ⟨3, rfl⟩
  exact q
/- TypeLockModel.sum(II)I -/
set_option maxRecDepth 100000 in
theorem en_216 {L : Nat} {a1 a2 : Int} {M : aM} {o : aO} (h : aX xc_216 (aSeek xc_216 10) [aR 145, aU, aI a2, aI 0, aI a1, aU, aU, aU] [] (SH L) (aSet M 145 59 0) o) : aE 216 [aR 145, aI a1, aI a2] (SH L) M o := by
  have q : aX xc_216 (aSeek xc_216 0) [aR 145, aI a1, aI a2, aU, aU, aU, aU, aU] [] (SH L) M o := by
    exact aX_seg 7 (fun n g => g) (aX_le (ls := [aR 145, aU, aI a2, aI 0, aI a1, aU, aU, aU]) (ls1 := [aR 145, aI a1, aI a2, aI 0, aI a1, aU, aU, aU]) (⟨Or.inr rfl, ⟨Or.inl rfl, ⟨Or.inr rfl, ⟨Or.inr rfl, ⟨Or.inr rfl, ⟨Or.inl rfl, ⟨Or.inl rfl, ⟨Or.inl rfl, trivial⟩⟩⟩⟩⟩⟩⟩⟩) h)
  exact q
set_option maxRecDepth 100000 in
theorem bl_216_10 {L : Nat} {a2 a3 a4 : Int} {M : aM} {o : aO} (h : ((a2 ≤ a4 → o = ([aI (M 192 0)], (SH L), M)) ∧ (¬ (a2 ≤ a4) → (0 ≤ a4 ∧ a4 < aLn (SH L) 1 170) ∧ ((2 ≤ (M 170 a4) → (0 ≤ aW (a3 - 1) ∧ aW (a3 - 1) < aLn (SH L) 1 192) ∧ (0 ≤ aW (a3 - 2) ∧ aW (a3 - 2) < aLn (SH L) 1 192) ∧ ((¬ (M 170 a4) = 5 → aX xc_216 (aSeek xc_216 111) [aR 145, aU, aI a2, aI (aW (a3 + (-1))), aI a4, aI (M 170 a4), aI (M 192 (aW (a3 - 1))), aI (M 192 (aW (a3 - 2)))] [] (SH L) M o) ∧ (¬ (¬ (M 170 a4) = 5) → ((¬ (M 192 (aW (a3 - 1))) = 0 → aX xc_216 (aSeek xc_216 111) [aR 145, aU, aI a2, aI (aW (a3 + (-1))), aI a4, aI (M 170 a4), aI (M 192 (aW (a3 - 1))), aI (M 192 (aW (a3 - 2)))] [] (SH L) M o) ∧ (¬ (¬ (M 192 (aW (a3 - 1))) = 0) → o = ([aI 0], (SH L), aSet M 145 59 1)))))) ∧ (¬ (2 ≤ (M 170 a4)) → ((¬ (M 170 a4) = 0 → (0 ≤ a4 ∧ a4 < aLn (SH L) 1 171) ∧ (0 ≤ M 171 a4 ∧ M 171 a4 < aLn (SH L) 1 191) ∧ aX xc_216 (aSeek xc_216 63) [aR 145, aU, aI a2, aI a3, aI a4, aU, aU, aU] [aI (M 191 (M 171 a4)), aI a3, aR 192] (SH L) M o) ∧ (¬ (¬ (M 170 a4) = 0) → (0 ≤ a4 ∧ a4 < aLn (SH L) 1 171) ∧ aX xc_216 (aSeek xc_216 63) [aR 145, aU, aI a2, aI a3, aI a4, aU, aU, aU] [aI (M 171 a4), aI a3, aR 192] (SH L) M o))))))) : aX xc_216 (aSeek xc_216 10) [aR 145, aU, aI a2, aI a3, aI a4, aU, aU, aU] [] (SH L) M o := by
  by_cases cc : a2 ≤ a4
  · replace h := h.1 cc
    have t1 : aX xc_216 (aSeek xc_216 172) [aR 145, aU, aI a2, aI a3, aI a4, aU, aU, aU] [] (SH L) M o := by
      subst h
      exact ⟨5, rfl⟩
    exact aX_seg 3 (fun n g => ip cc (g)) t1
  · replace h := h.2 cc
    have t2 : aX xc_216 (aSeek xc_216 16) [aR 145, aU, aI a2, aI a3, aI a4, aU, aU, aU] [] (SH L) M o := by
      obtain ⟨c3, h⟩ := h
      by_cases cc : 2 ≤ (M 170 a4)
      · replace h := h.1 cc
        have t4 : aX xc_216 (aSeek xc_216 70) [aR 145, aU, aI a2, aI a3, aI a4, aI (M 170 a4), aU, aU] [] (SH L) M o := by
          obtain ⟨c5, h⟩ := h
          obtain ⟨c6, h⟩ := h
          by_cases cc : ¬ (M 170 a4) = 5
          · replace h := h.1 cc
            have t7 : aX xc_216 (aSeek xc_216 111) [aR 145, aU, aI a2, aI (aW (a3 + (-1))), aI a4, aI (M 170 a4), aI (M 192 (aW (a3 - 1))), aI (M 192 (aW (a3 - 2)))] [] (SH L) M o := by
              exact h
            exact aX_seg 18 (fun n g => ip c5 (ip c6 (ip cc (g)))) t7
          · replace h := h.2 cc
            have t8 : aX xc_216 (aSeek xc_216 99) [aR 145, aU, aI a2, aI (aW (a3 + (-1))), aI a4, aI (M 170 a4), aI (M 192 (aW (a3 - 1))), aI (M 192 (aW (a3 - 2)))] [] (SH L) M o := by
              by_cases cc : ¬ (M 192 (aW (a3 - 1))) = 0
              · replace h := h.1 cc
                have t9 : aX xc_216 (aSeek xc_216 111) [aR 145, aU, aI a2, aI (aW (a3 + (-1))), aI a4, aI (M 170 a4), aI (M 192 (aW (a3 - 1))), aI (M 192 (aW (a3 - 2)))] [] (SH L) M o := by
                  exact h
                exact aX_seg 2 (fun n g => ip cc (g)) t9
              · replace h := h.2 cc
                have t10 : aX xc_216 (aSeek xc_216 104) [aR 145, aU, aI a2, aI (aW (a3 + (-1))), aI a4, aI (M 170 a4), aI (M 192 (aW (a3 - 1))), aI (M 192 (aW (a3 - 2)))] [] (SH L) M o := by
                  subst h
                  exact ⟨5, rfl⟩
                exact aX_seg 2 (fun n g => in_ cc (g)) t10
            exact aX_seg 18 (fun n g => ip c5 (ip c6 (in_ cc (g)))) t8
        exact aX_seg 8 (fun n g => ip c3 (ip cc (g))) t4
      · replace h := h.2 cc
        have t11 : aX xc_216 (aSeek xc_216 31) [aR 145, aU, aI a2, aI a3, aI a4, aI (M 170 a4), aU, aU] [] (SH L) M o := by
          by_cases cc : ¬ (M 170 a4) = 0
          · replace h := h.1 cc
            have t12 : aX xc_216 (aSeek xc_216 51) [aR 145, aU, aI a2, aI a3, aI a4, aI (M 170 a4), aU, aU] [aI a3, aR 192] (SH L) M o := by
              obtain ⟨c13, h⟩ := h
              obtain ⟨c14, h⟩ := h
              exact aX_seg 7 (fun n g => ip c13 (ip c14 (g))) (aX_le (ls := [aR 145, aU, aI a2, aI a3, aI a4, aU, aU, aU]) (ls1 := [aR 145, aU, aI a2, aI a3, aI a4, aI (M 170 a4), aU, aU]) (⟨Or.inr rfl, ⟨Or.inl rfl, ⟨Or.inr rfl, ⟨Or.inr rfl, ⟨Or.inr rfl, ⟨Or.inl rfl, ⟨Or.inl rfl, ⟨Or.inl rfl, trivial⟩⟩⟩⟩⟩⟩⟩⟩) h)
            exact aX_seg 5 (fun n g => ip cc (g)) t12
          · replace h := h.2 cc
            have t15 : aX xc_216 (aSeek xc_216 41) [aR 145, aU, aI a2, aI a3, aI a4, aI (M 170 a4), aU, aU] [aI a3, aR 192] (SH L) M o := by
              obtain ⟨c16, h⟩ := h
              exact aX_seg 5 (fun n g => ip c16 (g)) (aX_le (ls := [aR 145, aU, aI a2, aI a3, aI a4, aU, aU, aU]) (ls1 := [aR 145, aU, aI a2, aI a3, aI a4, aI (M 170 a4), aU, aU]) (⟨Or.inr rfl, ⟨Or.inl rfl, ⟨Or.inr rfl, ⟨Or.inr rfl, ⟨Or.inr rfl, ⟨Or.inl rfl, ⟨Or.inl rfl, ⟨Or.inl rfl, trivial⟩⟩⟩⟩⟩⟩⟩⟩) h)
            exact aX_seg 5 (fun n g => in_ cc (g)) t15
        exact aX_seg 8 (fun n g => ip c3 (in_ cc (g))) t11
    exact aX_seg 3 (fun n g => in_ cc (g)) t2
set_option maxRecDepth 100000 in
theorem bl_216_63 {L : Nat} {a2 a3 a4 b0 b1 b2 : Int} {M : aM} {o : aO} (h : (0 ≤ b1 ∧ b1 < aLn (SH L) 1 b0) ∧ aX xc_216 (aSeek xc_216 166) [aR 145, aU, aI a2, aI (aW (a3 + 1)), aI a4, aU, aU, aU] [] (SH L) (aSet M b0 b1 b2) o) : aX xc_216 (aSeek xc_216 63) [aR 145, aU, aI a2, aI a3, aI a4, aU, aU, aU] [aI b2, aI b1, aR b0] (SH L) M o := by
  obtain ⟨c1, h⟩ := h
  exact aX_seg 3 (fun n g => ip c1 (g)) (h)
set_option maxRecDepth 100000 in
theorem bl_216_111 {L : Nat} {a2 a3 a4 a5 a6 a7 : Int} {M : aM} {o : aO} (h : ((¬ a5 = 2 → ((¬ a5 = 3 → ((¬ a5 = 4 → (¬ (a6 : Int) = 0) ∧ aX xc_216 (aSeek xc_216 165) [aR 145, aU, aI a2, aI a3, aI a4, aU, aU, aU] [aI (aDiv a7 a6), aI (aW (a3 - 1)), aR 192] (SH L) M o) ∧ (¬ (¬ a5 = 4) → aX xc_216 (aSeek xc_216 165) [aR 145, aU, aI a2, aI a3, aI a4, aU, aU, aU] [aI (aW (a7 * a6)), aI (aW (a3 - 1)), aR 192] (SH L) M o))) ∧ (¬ (¬ a5 = 3) → aX xc_216 (aSeek xc_216 165) [aR 145, aU, aI a2, aI a3, aI a4, aU, aU, aU] [aI (aW (a7 - a6)), aI (aW (a3 - 1)), aR 192] (SH L) M o))) ∧ (¬ (¬ a5 = 2) → aX xc_216 (aSeek xc_216 165) [aR 145, aU, aI a2, aI a3, aI a4, aU, aU, aU] [aI (aW (a7 + a6)), aI (aW (a3 - 1)), aR 192] (SH L) M o))) : aX xc_216 (aSeek xc_216 111) [aR 145, aU, aI a2, aI a3, aI a4, aI a5, aI a6, aI a7] [] (SH L) M o := by
  by_cases cc : ¬ a5 = 2
  · replace h := h.1 cc
    have t1 : aX xc_216 (aSeek xc_216 132) [aR 145, aU, aI a2, aI a3, aI a4, aI a5, aI a6, aI a7] [aI (aW (a3 - 1)), aR 192] (SH L) M o := by
      by_cases cc : ¬ a5 = 3
      · replace h := h.1 cc
        have t2 : aX xc_216 (aSeek xc_216 146) [aR 145, aU, aI a2, aI a3, aI a4, aI a5, aI a6, aI a7] [aI (aW (a3 - 1)), aR 192] (SH L) M o := by
          by_cases cc : ¬ a5 = 4
          · replace h := h.1 cc
            have t3 : aX xc_216 (aSeek xc_216 160) [aR 145, aU, aI a2, aI a3, aI a4, aI a5, aI a6, aI a7] [aI (aW (a3 - 1)), aR 192] (SH L) M o := by
              obtain ⟨c4, h⟩ := h
              exact aX_seg 3 (fun n g => ip c4 (g)) (aX_le (ls := [aR 145, aU, aI a2, aI a3, aI a4, aU, aU, aU]) (ls1 := [aR 145, aU, aI a2, aI a3, aI a4, aI a5, aI a6, aI a7]) (⟨Or.inr rfl, ⟨Or.inl rfl, ⟨Or.inr rfl, ⟨Or.inr rfl, ⟨Or.inr rfl, ⟨Or.inl rfl, ⟨Or.inl rfl, ⟨Or.inl rfl, trivial⟩⟩⟩⟩⟩⟩⟩⟩) h)
            exact aX_seg 3 (fun n g => ip cc (g)) t3
          · replace h := h.2 cc
            have t5 : aX xc_216 (aSeek xc_216 152) [aR 145, aU, aI a2, aI a3, aI a4, aI a5, aI a6, aI a7] [aI (aW (a3 - 1)), aR 192] (SH L) M o := by
              exact aX_seg 4 (fun n g => g) (aX_le (ls := [aR 145, aU, aI a2, aI a3, aI a4, aU, aU, aU]) (ls1 := [aR 145, aU, aI a2, aI a3, aI a4, aI a5, aI a6, aI a7]) (⟨Or.inr rfl, ⟨Or.inl rfl, ⟨Or.inr rfl, ⟨Or.inr rfl, ⟨Or.inr rfl, ⟨Or.inl rfl, ⟨Or.inl rfl, ⟨Or.inl rfl, trivial⟩⟩⟩⟩⟩⟩⟩⟩) h)
            exact aX_seg 3 (fun n g => in_ cc (g)) t5
        exact aX_seg 3 (fun n g => ip cc (g)) t2
      · replace h := h.2 cc
        have t6 : aX xc_216 (aSeek xc_216 138) [aR 145, aU, aI a2, aI a3, aI a4, aI a5, aI a6, aI a7] [aI (aW (a3 - 1)), aR 192] (SH L) M o := by
          exact aX_seg 4 (fun n g => g) (aX_le (ls := [aR 145, aU, aI a2, aI a3, aI a4, aU, aU, aU]) (ls1 := [aR 145, aU, aI a2, aI a3, aI a4, aI a5, aI a6, aI a7]) (⟨Or.inr rfl, ⟨Or.inl rfl, ⟨Or.inr rfl, ⟨Or.inr rfl, ⟨Or.inr rfl, ⟨Or.inl rfl, ⟨Or.inl rfl, ⟨Or.inl rfl, trivial⟩⟩⟩⟩⟩⟩⟩⟩) h)
        exact aX_seg 3 (fun n g => in_ cc (g)) t6
    exact aX_seg 8 (fun n g => ip cc (g)) t1
  · replace h := h.2 cc
    have t7 : aX xc_216 (aSeek xc_216 124) [aR 145, aU, aI a2, aI a3, aI a4, aI a5, aI a6, aI a7] [aI (aW (a3 - 1)), aR 192] (SH L) M o := by
      exact aX_seg 4 (fun n g => g) (aX_le (ls := [aR 145, aU, aI a2, aI a3, aI a4, aU, aU, aU]) (ls1 := [aR 145, aU, aI a2, aI a3, aI a4, aI a5, aI a6, aI a7]) (⟨Or.inr rfl, ⟨Or.inl rfl, ⟨Or.inr rfl, ⟨Or.inr rfl, ⟨Or.inr rfl, ⟨Or.inl rfl, ⟨Or.inl rfl, ⟨Or.inl rfl, trivial⟩⟩⟩⟩⟩⟩⟩⟩) h)
    exact aX_seg 8 (fun n g => in_ cc (g)) t7
set_option maxRecDepth 100000 in
theorem bl_216_165 {L : Nat} {a2 a3 a4 b0 b1 b2 : Int} {M : aM} {o : aO} (h : (0 ≤ b1 ∧ b1 < aLn (SH L) 1 b0) ∧ aX xc_216 (aSeek xc_216 166) [aR 145, aU, aI a2, aI a3, aI a4, aU, aU, aU] [] (SH L) (aSet M b0 b1 b2) o) : aX xc_216 (aSeek xc_216 165) [aR 145, aU, aI a2, aI a3, aI a4, aU, aU, aU] [aI b2, aI b1, aR b0] (SH L) M o := by
  obtain ⟨c1, h⟩ := h
  exact aX_seg 1 (fun n g => ip c1 (g)) (h)
set_option maxRecDepth 100000 in
theorem bl_216_166 {L : Nat} {a2 a3 a4 : Int} {M : aM} {o : aO} (h : aX xc_216 (aSeek xc_216 10) [aR 145, aU, aI a2, aI a3, aI (aW (a4 + 1)), aU, aU, aU] [] (SH L) M o) : aX xc_216 (aSeek xc_216 166) [aR 145, aU, aI a2, aI a3, aI a4, aU, aU, aU] [] (SH L) M o := by
  exact aX_seg 2 (fun n g => g) (h)
/- TypeLockModel.isLit(I)Z -/
set_option maxRecDepth 100000 in
theorem en_217 {L : Nat} {a1 : Int} {M : aM} {o : aO} (h : (0 ≤ a1 ∧ a1 < aLn (SH L) 1 175) ∧ (0 ≤ a1 ∧ a1 < aLn (SH L) 1 176) ∧ (∃ (M1 : aM) (v2 : Int), aE 216 [aR 145, aI (M 175 a1), aI (M 176 a1)] (SH L) M ([aI v2], (SH L), M1) ∧ (((M1 145 59) = 0 → (0 ≤ a1 ∧ a1 < aLn (SH L) 1 176) ∧ (0 ≤ a1 ∧ a1 < aLn (SH L) 1 177) ∧ (∃ (M3 : aM) (v4 : Int), aE 216 [aR 145, aI (M1 176 a1), aI (M1 177 a1)] (SH L) M1 ([aI v4], (SH L), M3) ∧ (((M3 145 59) = 0 → (0 ≤ a1 ∧ a1 < aLn (SH L) 1 174) ∧ ((¬ (M3 174 a1) = 300 → (0 ≤ a1 ∧ a1 < aLn (SH L) 1 174) ∧ ((¬ (M3 174 a1) = 301 → (0 ≤ a1 ∧ a1 < aLn (SH L) 1 174) ∧ ((¬ (M3 174 a1) = 302 → ((v4 ≤ v2 → aX xc_217 (aSeek xc_217 147) [aR 145, aI a1, aU, aU, aU] [aI 0] (SH L) M3 o) ∧ (¬ (v4 ≤ v2) → aX xc_217 (aSeek xc_217 147) [aR 145, aI a1, aU, aU, aU] [aI 1] (SH L) M3 o))) ∧ (¬ (¬ (M3 174 a1) = 302) → ((v4 < v2 → aX xc_217 (aSeek xc_217 147) [aR 145, aI a1, aU, aU, aU] [aI 0] (SH L) M3 o) ∧ (¬ (v4 < v2) → aX xc_217 (aSeek xc_217 147) [aR 145, aI a1, aU, aU, aU] [aI 1] (SH L) M3 o))))) ∧ (¬ (¬ (M3 174 a1) = 301) → ((v2 = v4 → aX xc_217 (aSeek xc_217 147) [aR 145, aI a1, aU, aU, aU] [aI 0] (SH L) M3 o) ∧ (¬ (v2 = v4) → aX xc_217 (aSeek xc_217 147) [aR 145, aI a1, aU, aU, aU] [aI 1] (SH L) M3 o))))) ∧ (¬ (¬ (M3 174 a1) = 300) → ((¬ v2 = v4 → aX xc_217 (aSeek xc_217 147) [aR 145, aI a1, aU, aU, aU] [aI 0] (SH L) M3 o) ∧ (¬ (¬ v2 = v4) → aX xc_217 (aSeek xc_217 147) [aR 145, aI a1, aU, aU, aU] [aI 1] (SH L) M3 o))))) ∧ (¬ ((M3 145 59) = 0) → (0 ≤ a1 ∧ a1 < aLn (SH L) 4 173) ∧ ((M3 173 a1 : Int) = 0 ∨ (M3 173 a1 : Int) = 1) ∧ o = ([aI (M3 173 a1)], (SH L), M3))))) ∧ (¬ ((M1 145 59) = 0) → (0 ≤ a1 ∧ a1 < aLn (SH L) 4 173) ∧ ((M1 173 a1 : Int) = 0 ∨ (M1 173 a1 : Int) = 1) ∧ o = ([aI (M1 173 a1)], (SH L), M1))))) : aE 217 [aR 145, aI a1] (SH L) M o := by
  have q : aX xc_217 (aSeek xc_217 0) [aR 145, aI a1, aU, aU, aU] [] (SH L) M o := by
    obtain ⟨c5, h⟩ := h
    obtain ⟨c6, h⟩ := h
    obtain ⟨M1, v2, k7, h⟩ := h
    have h2 : aX xc_217 (aSeek xc_217 16) [aR 145, aI a1, aU, aU, aU] [aI v2] (SH L) M1 o := by
      by_cases cc : (M1 145 59) = 0
      · replace h := h.1 cc
        have t8 : aX xc_217 (aSeek xc_217 31) [aR 145, aI a1, aI v2, aU, aU] [] (SH L) M1 o := by
          obtain ⟨c9, h⟩ := h
          obtain ⟨c10, h⟩ := h
          obtain ⟨M3, v4, k11, h⟩ := h
          have h2 : aX xc_217 (aSeek xc_217 47) [aR 145, aI a1, aI v2, aU, aU] [aI v4] (SH L) M3 o := by
            by_cases cc : (M3 145 59) = 0
            · replace h := h.1 cc
              have t12 : aX xc_217 (aSeek xc_217 62) [aR 145, aI a1, aI v2, aI v4, aU] [] (SH L) M3 o := by
                obtain ⟨c13, h⟩ := h
                by_cases cc : ¬ (M3 174 a1) = 300
                · replace h := h.1 cc
                  have t14 : aX xc_217 (aSeek xc_217 87) [aR 145, aI a1, aI v2, aI v4, aU] [] (SH L) M3 o := by
                    obtain ⟨c15, h⟩ := h
                    by_cases cc : ¬ (M3 174 a1) = 301
                    · replace h := h.1 cc
                      have t16 : aX xc_217 (aSeek xc_217 112) [aR 145, aI a1, aI v2, aI v4, aU] [] (SH L) M3 o := by
                        obtain ⟨c17, h⟩ := h
                        by_cases cc : ¬ (M3 174 a1) = 302
                        · replace h := h.1 cc
                          have t18 : aX xc_217 (aSeek xc_217 137) [aR 145, aI a1, aI v2, aI v4, aU] [] (SH L) M3 o := by
                            by_cases cc : v4 ≤ v2
                            · replace h := h.1 cc
                              have t19 : aX xc_217 (aSeek xc_217 146) [aR 145, aI a1, aI v2, aI v4, aU] [] (SH L) M3 o := by
                                exact aX_seg 1 (fun n g => g) (aX_le (ls := [aR 145, aI a1, aU, aU, aU]) (ls1 := [aR 145, aI a1, aI v2, aI v4, aU]) (⟨Or.inr rfl, ⟨Or.inr rfl, ⟨Or.inl rfl, ⟨Or.inl rfl, ⟨Or.inl rfl, trivial⟩⟩⟩⟩⟩) h)
                              exact aX_seg 3 (fun n g => ip cc (g)) t19
                            · replace h := h.2 cc
                              have t20 : aX xc_217 (aSeek xc_217 142) [aR 145, aI a1, aI v2, aI v4, aU] [] (SH L) M3 o := by
                                exact aX_seg 2 (fun n g => g) (aX_le (ls := [aR 145, aI a1, aU, aU, aU]) (ls1 := [aR 145, aI a1, aI v2, aI v4, aU]) (⟨Or.inr rfl, ⟨Or.inr rfl, ⟨Or.inl rfl, ⟨Or.inl rfl, ⟨Or.inl rfl, trivial⟩⟩⟩⟩⟩) h)
                              exact aX_seg 3 (fun n g => in_ cc (g)) t20
                          exact aX_seg 6 (fun n g => ip c17 (ip cc (g))) t18
                        · replace h := h.2 cc
                          have t21 : aX xc_217 (aSeek xc_217 124) [aR 145, aI a1, aI v2, aI v4, aU] [] (SH L) M3 o := by
                            by_cases cc : v4 < v2
                            · replace h := h.1 cc
                              have t22 : aX xc_217 (aSeek xc_217 133) [aR 145, aI a1, aI v2, aI v4, aU] [] (SH L) M3 o := by
                                exact aX_seg 2 (fun n g => g) (aX_le (ls := [aR 145, aI a1, aU, aU, aU]) (ls1 := [aR 145, aI a1, aI v2, aI v4, aU]) (⟨Or.inr rfl, ⟨Or.inr rfl, ⟨Or.inl rfl, ⟨Or.inl rfl, ⟨Or.inl rfl, trivial⟩⟩⟩⟩⟩) h)
                              exact aX_seg 3 (fun n g => ip cc (g)) t22
                            · replace h := h.2 cc
                              have t23 : aX xc_217 (aSeek xc_217 129) [aR 145, aI a1, aI v2, aI v4, aU] [] (SH L) M3 o := by
                                exact aX_seg 2 (fun n g => g) (aX_le (ls := [aR 145, aI a1, aU, aU, aU]) (ls1 := [aR 145, aI a1, aI v2, aI v4, aU]) (⟨Or.inr rfl, ⟨Or.inr rfl, ⟨Or.inl rfl, ⟨Or.inl rfl, ⟨Or.inl rfl, trivial⟩⟩⟩⟩⟩) h)
                              exact aX_seg 3 (fun n g => in_ cc (g)) t23
                          exact aX_seg 6 (fun n g => ip c17 (in_ cc (g))) t21
                      exact aX_seg 6 (fun n g => ip c15 (ip cc (g))) t16
                    · replace h := h.2 cc
                      have t24 : aX xc_217 (aSeek xc_217 99) [aR 145, aI a1, aI v2, aI v4, aU] [] (SH L) M3 o := by
                        by_cases cc : v2 = v4
                        · replace h := h.1 cc
                          have t25 : aX xc_217 (aSeek xc_217 108) [aR 145, aI a1, aI v2, aI v4, aU] [] (SH L) M3 o := by
                            exact aX_seg 2 (fun n g => g) (aX_le (ls := [aR 145, aI a1, aU, aU, aU]) (ls1 := [aR 145, aI a1, aI v2, aI v4, aU]) (⟨Or.inr rfl, ⟨Or.inr rfl, ⟨Or.inl rfl, ⟨Or.inl rfl, ⟨Or.inl rfl, trivial⟩⟩⟩⟩⟩) h)
                          exact aX_seg 3 (fun n g => ip cc (g)) t25
                        · replace h := h.2 cc
                          have t26 : aX xc_217 (aSeek xc_217 104) [aR 145, aI a1, aI v2, aI v4, aU] [] (SH L) M3 o := by
                            exact aX_seg 2 (fun n g => g) (aX_le (ls := [aR 145, aI a1, aU, aU, aU]) (ls1 := [aR 145, aI a1, aI v2, aI v4, aU]) (⟨Or.inr rfl, ⟨Or.inr rfl, ⟨Or.inl rfl, ⟨Or.inl rfl, ⟨Or.inl rfl, trivial⟩⟩⟩⟩⟩) h)
                          exact aX_seg 3 (fun n g => in_ cc (g)) t26
                      exact aX_seg 6 (fun n g => ip c15 (in_ cc (g))) t24
                  exact aX_seg 6 (fun n g => ip c13 (ip cc (g))) t14
                · replace h := h.2 cc
                  have t27 : aX xc_217 (aSeek xc_217 74) [aR 145, aI a1, aI v2, aI v4, aU] [] (SH L) M3 o := by
                    by_cases cc : ¬ v2 = v4
                    · replace h := h.1 cc
                      have t28 : aX xc_217 (aSeek xc_217 83) [aR 145, aI a1, aI v2, aI v4, aU] [] (SH L) M3 o := by
                        exact aX_seg 2 (fun n g => g) (aX_le (ls := [aR 145, aI a1, aU, aU, aU]) (ls1 := [aR 145, aI a1, aI v2, aI v4, aU]) (⟨Or.inr rfl, ⟨Or.inr rfl, ⟨Or.inl rfl, ⟨Or.inl rfl, ⟨Or.inl rfl, trivial⟩⟩⟩⟩⟩) h)
                      exact aX_seg 3 (fun n g => ip cc (g)) t28
                    · replace h := h.2 cc
                      have t29 : aX xc_217 (aSeek xc_217 79) [aR 145, aI a1, aI v2, aI v4, aU] [] (SH L) M3 o := by
                        exact aX_seg 2 (fun n g => g) (aX_le (ls := [aR 145, aI a1, aU, aU, aU]) (ls1 := [aR 145, aI a1, aI v2, aI v4, aU]) (⟨Or.inr rfl, ⟨Or.inr rfl, ⟨Or.inl rfl, ⟨Or.inl rfl, ⟨Or.inl rfl, trivial⟩⟩⟩⟩⟩) h)
                      exact aX_seg 3 (fun n g => in_ cc (g)) t29
                  exact aX_seg 6 (fun n g => ip c13 (in_ cc (g))) t27
              exact aX_seg 4 (fun n g => ip cc (g)) t12
            · replace h := h.2 cc
              have t30 : aX xc_217 (aSeek xc_217 55) [aR 145, aI a1, aI v2, aI v4, aU] [] (SH L) M3 o := by
                obtain ⟨c31, h⟩ := h
                obtain ⟨c32, h⟩ := h
                subst h
                exact ⟨5, ip c31 (ip c32 (rfl))⟩
              exact aX_seg 4 (fun n g => in_ cc (g)) t30
          exact aX_seg 9 (fun n g => ip c9 (ip c10 (g))) (aX_callv (rfl) rfl rfl rfl k11 h2)
        exact aX_seg 4 (fun n g => ip cc (g)) t8
      · replace h := h.2 cc
        have t33 : aX xc_217 (aSeek xc_217 24) [aR 145, aI a1, aI v2, aU, aU] [] (SH L) M1 o := by
          obtain ⟨c34, h⟩ := h
          obtain ⟨c35, h⟩ := h
          subst h
          exact ⟨5, ip c34 (ip c35 (rfl))⟩
        exact aX_seg 4 (fun n g => in_ cc (g)) t33
    exact aX_seg 9 (fun n g => ip c5 (ip c6 (g))) (aX_callv (rfl) rfl rfl rfl k7 h2)
  exact q
set_option maxRecDepth 100000 in
theorem bl_217_147 {L : Nat} {a1 b0 : Int} {M : aM} {o : aO} (h : (0 ≤ a1 ∧ a1 < aLn (SH L) 4 173) ∧ ((b0 = (M 173 a1) → o = ([aI 0], (SH L), M)) ∧ (¬ (b0 = (M 173 a1)) → o = ([aI 1], (SH L), M)))) : aX xc_217 (aSeek xc_217 147) [aR 145, aI a1, aU, aU, aU] [aI b0] (SH L) M o := by
  obtain ⟨c1, h⟩ := h
  by_cases cc : b0 = (M 173 a1)
  · replace h := h.1 cc
    have t2 : aX xc_217 (aSeek xc_217 164) [aR 145, aI a1, aU, aU, aI b0] [] (SH L) M o := by
      subst h
      exact ⟨2, rfl⟩
    exact aX_seg 7 (fun n g => ip c1 (ip cc (g))) t2
  · replace h := h.2 cc
    have t3 : aX xc_217 (aSeek xc_217 160) [aR 145, aI a1, aU, aU, aI b0] [] (SH L) M o := by
      subst h
      exact ⟨3, rfl⟩
    exact aX_seg 7 (fun n g => ip c1 (in_ cc (g))) t3
/- TypeLockModel.isHeld(II)Z -/
set_option maxRecDepth 100000 in
theorem en_218 {L : Nat} {a1 a2 : Int} {M : aM} {o : aO} (h : aX xc_218 (aSeek xc_218 2) [aR 145, aU, aI a2, aI a1, aU, aU] [] (SH L) M o) : aE 218 [aR 145, aI a1, aI a2] (SH L) M o := by
  have q : aX xc_218 (aSeek xc_218 0) [aR 145, aI a1, aI a2, aU, aU, aU] [] (SH L) M o := by
    exact aX_seg 2 (fun n g => g) (aX_le (ls := [aR 145, aU, aI a2, aI a1, aU, aU]) (ls1 := [aR 145, aI a1, aI a2, aI a1, aU, aU]) (⟨Or.inr rfl, ⟨Or.inl rfl, ⟨Or.inr rfl, ⟨Or.inr rfl, ⟨Or.inl rfl, ⟨Or.inl rfl, trivial⟩⟩⟩⟩⟩⟩) h)
  exact q
set_option maxRecDepth 100000 in
theorem bl_218_2 {L : Nat} {a2 a3 : Int} {M : aM} {o : aO} (h : ((a2 ≤ a3 → o = ([aI 0], (SH L), M)) ∧ (¬ (a2 ≤ a3) → (0 ≤ a3 ∧ a3 < aLn (SH L) 1 178) ∧ aX xc_218 (aSeek xc_218 18) [aR 145, aU, aI a2, aI a3, aI (M 178 a3), aI 1] [] (SH L) M o))) : aX xc_218 (aSeek xc_218 2) [aR 145, aU, aI a2, aI a3, aU, aU] [] (SH L) M o := by
  by_cases cc : a2 ≤ a3
  · replace h := h.1 cc
    have t1 : aX xc_218 (aSeek xc_218 62) [aR 145, aU, aI a2, aI a3, aU, aU] [] (SH L) M o := by
      subst h
      exact ⟨2, rfl⟩
    exact aX_seg 3 (fun n g => ip cc (g)) t1
  · replace h := h.2 cc
    have t2 : aX xc_218 (aSeek xc_218 7) [aR 145, aU, aI a2, aI a3, aU, aU] [] (SH L) M o := by
      obtain ⟨c3, h⟩ := h
      exact aX_seg 7 (fun n g => ip c3 (g)) (h)
    exact aX_seg 3 (fun n g => in_ cc (g)) t2
set_option maxRecDepth 100000 in
theorem bl_218_18 {L : Nat} {a2 a3 a4 a5 : Int} {M : aM} {o : aO} (h : ((a2 ≤ a3 → aX xc_218 (aSeek xc_218 52) [aR 145, aU, aI a2, aI a3, aU, aI a5] [] (SH L) M o) ∧ (¬ (a2 ≤ a3) → (0 ≤ a3 ∧ a3 < aLn (SH L) 1 178) ∧ ((¬ (M 178 a3) = a4 → aX xc_218 (aSeek xc_218 52) [aR 145, aU, aI a2, aI a3, aU, aI a5] [] (SH L) M o) ∧ (¬ (¬ (M 178 a3) = a4) → ((a5 = 0 → aX xc_218 (aSeek xc_218 46) [aR 145, aU, aI a2, aI a3, aI a4, aI a5] [] (SH L) M o) ∧ (¬ (a5 = 0) → (∃ (M1 : aM) (v2 : Int), aE 217 [aR 145, aI a3] (SH L) M ([aI v2], (SH L), M1) ∧ aX xc_218 (aSeek xc_218 46) [aR 145, aU, aI a2, aI a3, aI a4, aI v2] [] (SH L) M1 o)))))))) : aX xc_218 (aSeek xc_218 18) [aR 145, aU, aI a2, aI a3, aI a4, aI a5] [] (SH L) M o := by
  by_cases cc : a2 ≤ a3
  · replace h := h.1 cc
    have t3 : aX xc_218 (aSeek xc_218 52) [aR 145, aU, aI a2, aI a3, aI a4, aI a5] [] (SH L) M o := by
      exact aX_le (ls := [aR 145, aU, aI a2, aI a3, aU, aI a5]) (ls1 := [aR 145, aU, aI a2, aI a3, aI a4, aI a5]) (⟨Or.inr rfl, ⟨Or.inl rfl, ⟨Or.inr rfl, ⟨Or.inr rfl, ⟨Or.inl rfl, ⟨Or.inr rfl, trivial⟩⟩⟩⟩⟩⟩) h
    exact aX_seg 3 (fun n g => ip cc (g)) t3
  · replace h := h.2 cc
    have t4 : aX xc_218 (aSeek xc_218 23) [aR 145, aU, aI a2, aI a3, aI a4, aI a5] [] (SH L) M o := by
      obtain ⟨c5, h⟩ := h
      by_cases cc : ¬ (M 178 a3) = a4
      · replace h := h.1 cc
        have t6 : aX xc_218 (aSeek xc_218 52) [aR 145, aU, aI a2, aI a3, aI a4, aI a5] [] (SH L) M o := by
          exact aX_le (ls := [aR 145, aU, aI a2, aI a3, aU, aI a5]) (ls1 := [aR 145, aU, aI a2, aI a3, aI a4, aI a5]) (⟨Or.inr rfl, ⟨Or.inl rfl, ⟨Or.inr rfl, ⟨Or.inr rfl, ⟨Or.inl rfl, ⟨Or.inr rfl, trivial⟩⟩⟩⟩⟩⟩) h
        exact aX_seg 6 (fun n g => ip c5 (ip cc (g))) t6
      · replace h := h.2 cc
        have t7 : aX xc_218 (aSeek xc_218 34) [aR 145, aU, aI a2, aI a3, aI a4, aI a5] [] (SH L) M o := by
          by_cases cc : a5 = 0
          · replace h := h.1 cc
            have t8 : aX xc_218 (aSeek xc_218 46) [aR 145, aU, aI a2, aI a3, aI a4, aI a5] [] (SH L) M o := by
              exact h
            exact aX_seg 2 (fun n g => ip cc (g)) t8
          · replace h := h.2 cc
            have t9 : aX xc_218 (aSeek xc_218 39) [aR 145, aU, aI a2, aI a3, aI a4, aI a5] [] (SH L) M o := by
              obtain ⟨M1, v2, k10, h⟩ := h
              have h2 : aX xc_218 (aSeek xc_218 44) [aR 145, aU, aI a2, aI a3, aI a4, aI a5] [aI v2] (SH L) M1 o := by
                exact aX_seg 1 (fun n g => g) (h)
              exact aX_seg 2 (fun n g => g) (aX_callv (rfl) rfl rfl rfl k10 h2)
            exact aX_seg 2 (fun n g => in_ cc (g)) t9
        exact aX_seg 6 (fun n g => ip c5 (in_ cc (g))) t7
    exact aX_seg 3 (fun n g => in_ cc (g)) t4
set_option maxRecDepth 100000 in
theorem bl_218_46 {L : Nat} {a2 a3 a4 a5 : Int} {M : aM} {o : aO} (h : aX xc_218 (aSeek xc_218 18) [aR 145, aU, aI a2, aI (aW (a3 + 1)), aI a4, aI a5] [] (SH L) M o) : aX xc_218 (aSeek xc_218 46) [aR 145, aU, aI a2, aI a3, aI a4, aI a5] [] (SH L) M o := by
  exact aX_seg 2 (fun n g => g) (h)
set_option maxRecDepth 100000 in
theorem bl_218_52 {L : Nat} {a2 a3 a5 : Int} {M : aM} {o : aO} (h : ((a5 = 0 → aX xc_218 (aSeek xc_218 2) [aR 145, aU, aI a2, aI a3, aU, aU] [] (SH L) M o) ∧ (¬ (a5 = 0) → o = ([aI 1], (SH L), M)))) : aX xc_218 (aSeek xc_218 52) [aR 145, aU, aI a2, aI a3, aU, aI a5] [] (SH L) M o := by
  by_cases cc : a5 = 0
  · replace h := h.1 cc
    have t1 : aX xc_218 (aSeek xc_218 59) [aR 145, aU, aI a2, aI a3, aU, aI a5] [] (SH L) M o := by
      exact aX_seg 1 (fun n g => g) (aX_le (ls := [aR 145, aU, aI a2, aI a3, aU, aU]) (ls1 := [aR 145, aU, aI a2, aI a3, aU, aI a5]) (⟨Or.inr rfl, ⟨Or.inl rfl, ⟨Or.inr rfl, ⟨Or.inr rfl, ⟨Or.inl rfl, ⟨Or.inl rfl, trivial⟩⟩⟩⟩⟩⟩) h)
    exact aX_seg 2 (fun n g => ip cc (g)) t1
  · replace h := h.2 cc
    have t2 : aX xc_218 (aSeek xc_218 57) [aR 145, aU, aI a2, aI a3, aU, aI a5] [] (SH L) M o := by
      subst h
      exact ⟨2, rfl⟩
    exact aX_seg 2 (fun n g => in_ cc (g)) t2
/- TypeLockModel.isIn(III)Z -/
set_option maxRecDepth 100000 in
theorem en_219 {L : Nat} {a0 a1 a2 : Int} {M : aM} {o : aO} (h : ((a0 < a1 → o = ([aI 0], (SH L), M)) ∧ (¬ (a0 < a1) → ((a2 < a0 → o = ([aI 0], (SH L), M)) ∧ (¬ (a2 < a0) → o = ([aI 1], (SH L), M)))))) : aE 219 [aI a0, aI a1, aI a2] (SH L) M o := by
  have q : aX xc_219 (aSeek xc_219 0) [aI a0, aI a1, aI a2] [] (SH L) M o := by
    by_cases cc : a0 < a1
    · replace h := h.1 cc
      have t1 : aX xc_219 (aSeek xc_219 14) [aI a0, aI a1, aI a2] [] (SH L) M o := by
        subst h
        exact ⟨2, rfl⟩
      exact aX_seg 3 (fun n g => ip cc (g)) t1
    · replace h := h.2 cc
      have t2 : aX xc_219 (aSeek xc_219 5) [aI a0, aI a1, aI a2] [] (SH L) M o := by
        by_cases cc : a2 < a0
        · replace h := h.1 cc
          have t3 : aX xc_219 (aSeek xc_219 14) [aI a0, aI a1, aI a2] [] (SH L) M o := by
            subst h
            exact ⟨2, rfl⟩
          exact aX_seg 3 (fun n g => ip cc (g)) t3
        · replace h := h.2 cc
          have t4 : aX xc_219 (aSeek xc_219 10) [aI a0, aI a1, aI a2] [] (SH L) M o := by
            subst h
            exact ⟨3, rfl⟩
          exact aX_seg 3 (fun n g => in_ cc (g)) t4
      exact aX_seg 3 (fun n g => in_ cc (g)) t2
  exact q
/- TypeLockModel.isKind(I)Z -/
set_option maxRecDepth 100000 in
theorem en_220 {L : Nat} {a1 : Int} {M : aM} {o : aO} (h : ((a1 < 0 → o = ([aI 0], (SH L), M)) ∧ (¬ (a1 < 0) → (((M 153 0) ≤ a1 → o = ([aI 0], (SH L), M)) ∧ (¬ ((M 153 0) ≤ a1) → o = ([aI 1], (SH L), M)))))) : aE 220 [aR 145, aI a1] (SH L) M o := by
  have q : aX xc_220 (aSeek xc_220 0) [aR 145, aI a1] [] (SH L) M o := by
    by_cases cc : a1 < 0
    · replace h := h.1 cc
      have t1 : aX xc_220 (aSeek xc_220 18) [aR 145, aI a1] [] (SH L) M o := by
        subst h
        exact ⟨2, rfl⟩
      exact aX_seg 2 (fun n g => ip cc (g)) t1
    · replace h := h.2 cc
      have t2 : aX xc_220 (aSeek xc_220 4) [aR 145, aI a1] [] (SH L) M o := by
        by_cases cc : (M 153 0) ≤ a1
        · replace h := h.1 cc
          have t3 : aX xc_220 (aSeek xc_220 18) [aR 145, aI a1] [] (SH L) M o := by
            subst h
            exact ⟨2, rfl⟩
          exact aX_seg 6 (fun n g => ip cc (g)) t3
        · replace h := h.2 cc
          have t4 : aX xc_220 (aSeek xc_220 14) [aR 145, aI a1] [] (SH L) M o := by
            subst h
            exact ⟨3, rfl⟩
          exact aX_seg 6 (fun n g => in_ cc (g)) t4
      exact aX_seg 2 (fun n g => in_ cc (g)) t2
  exact q
/- TypeLockModel.isThing(I)Z -/
set_option maxRecDepth 100000 in
theorem en_221 {L : Nat} {a1 : Int} {M : aM} {o : aO} (h : ((a1 < 0 → o = ([aI 0], (SH L), M)) ∧ (¬ (a1 < 0) → (((M 179 0) ≤ a1 → o = ([aI 0], (SH L), M)) ∧ (¬ ((M 179 0) ≤ a1) → o = ([aI 1], (SH L), M)))))) : aE 221 [aR 145, aI a1] (SH L) M o := by
  have q : aX xc_221 (aSeek xc_221 0) [aR 145, aI a1] [] (SH L) M o := by
    by_cases cc : a1 < 0
    · replace h := h.1 cc
      have t1 : aX xc_221 (aSeek xc_221 18) [aR 145, aI a1] [] (SH L) M o := by
        subst h
        exact ⟨2, rfl⟩
      exact aX_seg 2 (fun n g => ip cc (g)) t1
    · replace h := h.2 cc
      have t2 : aX xc_221 (aSeek xc_221 4) [aR 145, aI a1] [] (SH L) M o := by
        by_cases cc : (M 179 0) ≤ a1
        · replace h := h.1 cc
          have t3 : aX xc_221 (aSeek xc_221 18) [aR 145, aI a1] [] (SH L) M o := by
            subst h
            exact ⟨2, rfl⟩
          exact aX_seg 6 (fun n g => ip cc (g)) t3
        · replace h := h.2 cc
          have t4 : aX xc_221 (aSeek xc_221 14) [aR 145, aI a1] [] (SH L) M o := by
            subst h
            exact ⟨3, rfl⟩
          exact aX_seg 6 (fun n g => in_ cc (g)) t4
      exact aX_seg 2 (fun n g => in_ cc (g)) t2
  exact q
/- TypeLockModel.kind(II)I -/
set_option maxRecDepth 100000 in
theorem en_222 {L : Nat} {a1 a2 : Int} {M : aM} {o : aO} (h : (∃ (M1 : aM) (v2 : Int), aE 220 [aR 145, aI a1] (SH L) M ([aI v2], (SH L), M1) ∧ ((¬ v2 = 0 → ((a2 = 0 → (0 ≤ a1 ∧ a1 < aLn (SH L) 1 154) ∧ o = ([aI (M1 154 a1)], (SH L), M1)) ∧ (a2 = 1 → (0 ≤ a1 ∧ a1 < aLn (SH L) 1 155) ∧ o = ([aI (M1 155 a1)], (SH L), M1)) ∧ (a2 = 2 → (0 ≤ a1 ∧ a1 < aLn (SH L) 1 156) ∧ o = ([aI (M1 156 a1)], (SH L), M1)) ∧ (a2 = 3 → (0 ≤ a1 ∧ a1 < aLn (SH L) 1 157) ∧ o = ([aI (M1 157 a1)], (SH L), M1)) ∧ (¬ a2 = 0 → ¬ a2 = 1 → ¬ a2 = 2 → ¬ a2 = 3 → o = ([aI ((-1))], (SH L), M1)))) ∧ (¬ (¬ v2 = 0) → o = ([aI ((-1))], (SH L), M1))))) : aE 222 [aR 145, aI a1, aI a2] (SH L) M o := by
  have q : aX xc_222 (aSeek xc_222 0) [aR 145, aI a1, aI a2] [] (SH L) M o := by
    obtain ⟨M1, v2, k3, h⟩ := h
    have h2 : aX xc_222 (aSeek xc_222 5) [aR 145, aI a1, aI a2] [aI v2] (SH L) M1 o := by
      by_cases cc : ¬ v2 = 0
      · replace h := h.1 cc
        have t4 : aX xc_222 (aSeek xc_222 10) [aR 145, aI a1, aI a2] [] (SH L) M1 o := by
          by_cases cc0 : a2 = 0
          · replace h := h.1 cc0
            have ee : aTab 0 3 57 #[29, 36, 43, 50] a2 = 29 := by rw [cc0]; rfl
            have t5 : aX xc_222 (aSeek xc_222 40) [aR 145, aI a1, aI a2] [] (SH L) M1 o := by
              obtain ⟨c6, h⟩ := h
              subst h
              exact ⟨5, ip c6 (rfl)⟩
            exact aX_seg 2 (fun n g => (congrArg (fun tt => aRun tgT gP n xc_222 (aSeek xc_222 (aTo 11 tt)) [aR 145, aI a1, aI a2] [] (SH L) M1) ee).trans g) t5
          by_cases cc1 : a2 = 1
          · replace h := h.2.1 cc1
            have ee : aTab 0 3 57 #[29, 36, 43, 50] a2 = 36 := by rw [cc1]; rfl
            have t7 : aX xc_222 (aSeek xc_222 47) [aR 145, aI a1, aI a2] [] (SH L) M1 o := by
              obtain ⟨c8, h⟩ := h
              subst h
              exact ⟨5, ip c8 (rfl)⟩
            exact aX_seg 2 (fun n g => (congrArg (fun tt => aRun tgT gP n xc_222 (aSeek xc_222 (aTo 11 tt)) [aR 145, aI a1, aI a2] [] (SH L) M1) ee).trans g) t7
          by_cases cc2 : a2 = 2
          · replace h := h.2.2.1 cc2
            have ee : aTab 0 3 57 #[29, 36, 43, 50] a2 = 43 := by rw [cc2]; rfl
            have t9 : aX xc_222 (aSeek xc_222 54) [aR 145, aI a1, aI a2] [] (SH L) M1 o := by
              obtain ⟨c10, h⟩ := h
              subst h
              exact ⟨5, ip c10 (rfl)⟩
            exact aX_seg 2 (fun n g => (congrArg (fun tt => aRun tgT gP n xc_222 (aSeek xc_222 (aTo 11 tt)) [aR 145, aI a1, aI a2] [] (SH L) M1) ee).trans g) t9
          by_cases cc3 : a2 = 3
          · replace h := h.2.2.2.1 cc3
            have ee : aTab 0 3 57 #[29, 36, 43, 50] a2 = 50 := by rw [cc3]; rfl
            have t11 : aX xc_222 (aSeek xc_222 61) [aR 145, aI a1, aI a2] [] (SH L) M1 o := by
              obtain ⟨c12, h⟩ := h
              subst h
              exact ⟨5, ip c12 (rfl)⟩
            exact aX_seg 2 (fun n g => (congrArg (fun tt => aRun tgT gP n xc_222 (aSeek xc_222 (aTo 11 tt)) [aR 145, aI a1, aI a2] [] (SH L) M1) ee).trans g) t11
          replace h := h.2.2.2.2 cc0 cc1 cc2 cc3
          have ee : aTab 0 3 57 #[29, 36, 43, 50] a2 = 57 := by unfold aTab; rw [if_pos (by omega)]
          have t13 : aX xc_222 (aSeek xc_222 68) [aR 145, aI a1, aI a2] [] (SH L) M1 o := by
            subst h
            exact ⟨2, rfl⟩
          exact aX_seg 2 (fun n g => (congrArg (fun tt => aRun tgT gP n xc_222 (aSeek xc_222 (aTo 11 tt)) [aR 145, aI a1, aI a2] [] (SH L) M1) ee).trans g) t13
        exact aX_seg 1 (fun n g => ip cc (g)) t4
      · replace h := h.2 cc
        have t14 : aX xc_222 (aSeek xc_222 8) [aR 145, aI a1, aI a2] [] (SH L) M1 o := by
          subst h
          exact ⟨2, rfl⟩
        exact aX_seg 1 (fun n g => in_ cc (g)) t14
    exact aX_seg 2 (fun n g => g) (aX_callv (rfl) rfl rfl rfl k3 h2)
  exact q
/- TypeLockModel.wideOf(I)I -/
set_option maxRecDepth 100000 in
theorem en_223 {L : Nat} {a1 : Int} {M : aM} {o : aO} (h : (0 ≤ a1 ∧ a1 < aLn (SH L) 4 184) ∧ (((M 184 a1) = 0 → (0 ≤ a1 ∧ a1 < aLn (SH L) 1 181) ∧ (0 ≤ M 181 a1 ∧ M 181 a1 < aLn (SH L) 1 155) ∧ o = ([aI (M 155 (M 181 a1))], (SH L), M)) ∧ (¬ ((M 184 a1) = 0) → (0 ≤ a1 ∧ a1 < aLn (SH L) 1 181) ∧ (0 ≤ M 181 a1 ∧ M 181 a1 < aLn (SH L) 1 156) ∧ o = ([aI (M 156 (M 181 a1))], (SH L), M)))) : aE 223 [aR 145, aI a1] (SH L) M o := by
  have q : aX xc_223 (aSeek xc_223 0) [aR 145, aI a1] [] (SH L) M o := by
    obtain ⟨c1, h⟩ := h
    by_cases cc : (M 184 a1) = 0
    · replace h := h.1 cc
      have t2 : aX xc_223 (aSeek xc_223 23) [aR 145, aI a1] [] (SH L) M o := by
        obtain ⟨c3, h⟩ := h
        obtain ⟨c4, h⟩ := h
        subst h
        exact ⟨8, ip c3 (ip c4 (rfl))⟩
      exact aX_seg 5 (fun n g => ip c1 (ip cc (g))) t2
    · replace h := h.2 cc
      have t5 : aX xc_223 (aSeek xc_223 9) [aR 145, aI a1] [] (SH L) M o := by
        obtain ⟨c6, h⟩ := h
        obtain ⟨c7, h⟩ := h
        subst h
        exact ⟨9, ip c6 (ip c7 (rfl))⟩
      exact aX_seg 5 (fun n g => ip c1 (in_ cc (g))) t5
  exact q
/- TypeLockModel.highOf(I)I -/
set_option maxRecDepth 100000 in
theorem en_224 {L : Nat} {a1 : Int} {M : aM} {o : aO} (h : (0 ≤ a1 ∧ a1 < aLn (SH L) 4 184) ∧ (((M 184 a1) = 0 → (0 ≤ a1 ∧ a1 < aLn (SH L) 1 181) ∧ (0 ≤ M 181 a1 ∧ M 181 a1 < aLn (SH L) 1 156) ∧ o = ([aI (M 156 (M 181 a1))], (SH L), M)) ∧ (¬ ((M 184 a1) = 0) → (0 ≤ a1 ∧ a1 < aLn (SH L) 1 181) ∧ (0 ≤ M 181 a1 ∧ M 181 a1 < aLn (SH L) 1 155) ∧ o = ([aI (M 155 (M 181 a1))], (SH L), M)))) : aE 224 [aR 145, aI a1] (SH L) M o := by
  have q : aX xc_224 (aSeek xc_224 0) [aR 145, aI a1] [] (SH L) M o := by
    obtain ⟨c1, h⟩ := h
    by_cases cc : (M 184 a1) = 0
    · replace h := h.1 cc
      have t2 : aX xc_224 (aSeek xc_224 23) [aR 145, aI a1] [] (SH L) M o := by
        obtain ⟨c3, h⟩ := h
        obtain ⟨c4, h⟩ := h
        subst h
        exact ⟨8, ip c3 (ip c4 (rfl))⟩
      exact aX_seg 5 (fun n g => ip c1 (ip cc (g))) t2
    · replace h := h.2 cc
      have t5 : aX xc_224 (aSeek xc_224 9) [aR 145, aI a1] [] (SH L) M o := by
        obtain ⟨c6, h⟩ := h
        obtain ⟨c7, h⟩ := h
        subst h
        exact ⟨9, ip c6 (ip c7 (rfl))⟩
      exact aX_seg 5 (fun n g => ip c1 (in_ cc (g))) t5
  exact q
end BLK
