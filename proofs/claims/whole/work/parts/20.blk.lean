/-! block rows, written by a program: from one cut of a method to the next ones -/
section BLK
/- TypeLockModel.isWood(I)Z -/
set_option maxRecDepth 100000 in
theorem en_225 {L : Nat} {a1 : Int} {M : aM} {o : aO} (h : (0 ≤ a1 ∧ a1 < aLn (SH L) 1 181) ∧ (0 ≤ M 181 a1 ∧ M 181 a1 < aLn (SH L) 1 154) ∧ ((¬ (M 154 (M 181 a1)) = 2 → o = ([aI 0], (SH L), M)) ∧ (¬ (¬ (M 154 (M 181 a1)) = 2) → o = ([aI 1], (SH L), M)))) : aE 225 [aR 145, aI a1] (SH L) M o := by
  have q : aX xc_225 (aSeek xc_225 0) [aR 145, aI a1] [] (SH L) M o := by
    obtain ⟨c1, h⟩ := h
    obtain ⟨c2, h⟩ := h
    by_cases cc : ¬ (M 154 (M 181 a1)) = 2
    · replace h := h.1 cc
      have t3 : aX xc_225 (aSeek xc_225 19) [aR 145, aI a1] [] (SH L) M o := by
        subst h
        exact ⟨2, rfl⟩
      exact aX_seg 9 (fun n g => ip c1 (ip c2 (ip cc (g)))) t3
    · replace h := h.2 cc
      have t4 : aX xc_225 (aSeek xc_225 15) [aR 145, aI a1] [] (SH L) M o := by
        subst h
        exact ⟨3, rfl⟩
      exact aX_seg 9 (fun n g => ip c1 (ip c2 (in_ cc (g)))) t4
  exact q
/- TypeLockModel.leftOf(I)I -/
set_option maxRecDepth 100000 in
theorem en_226 {L : Nat} {a1 : Int} {M : aM} {o : aO} (h : (0 ≤ a1 ∧ a1 < aLn (SH L) 1 157) ∧ aX xc_226 (aSeek xc_226 9) [aR 145, aI a1, aI (M 157 a1), aI 0] [] (SH L) M o) : aE 226 [aR 145, aI a1] (SH L) M o := by
  have q : aX xc_226 (aSeek xc_226 0) [aR 145, aI a1, aU, aU] [] (SH L) M o := by
    obtain ⟨c1, h⟩ := h
    exact aX_seg 7 (fun n g => ip c1 (g)) (h)
  exact q
set_option maxRecDepth 100000 in
theorem bl_226_9 {L : Nat} {a1 a2 a3 : Int} {M : aM} {o : aO} (h : (((M 179 0) ≤ a3 → o = ([aI a2], (SH L), M)) ∧ (¬ ((M 179 0) ≤ a3) → (0 ≤ a3 ∧ a3 < aLn (SH L) 1 181) ∧ ((¬ (M 181 a3) = a1 → aX xc_226 (aSeek xc_226 32) [aR 145, aI a1, aI a2, aI a3] [] (SH L) M o) ∧ (¬ (¬ (M 181 a3) = a1) → aX xc_226 (aSeek xc_226 32) [aR 145, aI a1, aI (aW (a2 + (-1))), aI a3] [] (SH L) M o))))) : aX xc_226 (aSeek xc_226 9) [aR 145, aI a1, aI a2, aI a3] [] (SH L) M o := by
  by_cases cc : (M 179 0) ≤ a3
  · replace h := h.1 cc
    have t1 : aX xc_226 (aSeek xc_226 38) [aR 145, aI a1, aI a2, aI a3] [] (SH L) M o := by
      subst h
      exact ⟨2, rfl⟩
    exact aX_seg 6 (fun n g => ip cc (g)) t1
  · replace h := h.2 cc
    have t2 : aX xc_226 (aSeek xc_226 19) [aR 145, aI a1, aI a2, aI a3] [] (SH L) M o := by
      obtain ⟨c3, h⟩ := h
      by_cases cc : ¬ (M 181 a3) = a1
      · replace h := h.1 cc
        have t4 : aX xc_226 (aSeek xc_226 32) [aR 145, aI a1, aI a2, aI a3] [] (SH L) M o := by
          exact h
        exact aX_seg 6 (fun n g => ip c3 (ip cc (g))) t4
      · replace h := h.2 cc
        have t5 : aX xc_226 (aSeek xc_226 29) [aR 145, aI a1, aI a2, aI a3] [] (SH L) M o := by
          exact aX_seg 1 (fun n g => g) (h)
        exact aX_seg 6 (fun n g => ip c3 (in_ cc (g))) t5
    exact aX_seg 6 (fun n g => in_ cc (g)) t2
set_option maxRecDepth 100000 in
theorem bl_226_32 {L : Nat} {a1 a2 a3 : Int} {M : aM} {o : aO} (h : aX xc_226 (aSeek xc_226 9) [aR 145, aI a1, aI a2, aI (aW (a3 + 1))] [] (SH L) M o) : aX xc_226 (aSeek xc_226 32) [aR 145, aI a1, aI a2, aI a3] [] (SH L) M o := by
  exact aX_seg 2 (fun n g => g) (h)
/- TypeLockModel.lay(IIIZ)I -/
set_option maxRecDepth 100000 in
theorem en_227 {L : Nat} {a1 a2 a3 a4 : Int} {M : aM} {o : aO} (h : (∃ (M1 : aM) (v2 : Int), aE 220 [aR 145, aI a1] (SH L) M ([aI v2], (SH L), M1) ∧ ((v2 = 0 → o = ([aI ((-1))], (SH L), M1)) ∧ (¬ (v2 = 0) → (∃ (M3 : aM) (v4 : Int), aE 219 [aI a2, aI 0, aI 59] (SH L) M1 ([aI v4], (SH L), M3) ∧ ((v4 = 0 → o = ([aI ((-1))], (SH L), M3)) ∧ (¬ (v4 = 0) → (∃ (M5 : aM) (v6 : Int), aE 219 [aI a3, aI 0, aI 59] (SH L) M3 ([aI v6], (SH L), M5) ∧ ((v6 = 0 → o = ([aI ((-1))], (SH L), M5)) ∧ (¬ (v6 = 0) → ((¬ (M5 179 0) = 40 → (0 ≤ M5 179 0 ∧ M5 179 0 < aLn (SH L) 1 181) ∧ (0 ≤ M5 179 0 ∧ M5 179 0 < aLn (SH L) 1 182) ∧ (0 ≤ M5 179 0 ∧ M5 179 0 < aLn (SH L) 1 183) ∧ ((0 ≤ M5 179 0 ∧ M5 179 0 < aLn (SH L) 4 184) ∧ (a4 = 0 ∨ a4 = 1)) ∧ (∃ (M7 : aM) (v8 : Int), aE 223 [aR 145, aI (M5 179 0)] (SH L) (aSet (aSet (aSet (aSet M5 181 (M5 179 0) a1) 182 (M5 179 0) a2) 183 (M5 179 0) a3) 184 (M5 179 0) a4) ([aI v8], (SH L), M7) ∧ (((M7 151 0) < (aW (a2 + v8)) → o = ([aI ((-2))], (SH L), M7)) ∧ (¬ ((M7 151 0) < (aW (a2 + v8))) → (∃ (M9 : aM) (v10 : Int), aE 224 [aR 145, aI (M5 179 0)] (SH L) M7 ([aI v10], (SH L), M9) ∧ (((aW (a3 + v10)) ≤ (M9 152 0) → aX xc_227 (aSeek xc_227 122) [aR 145, aI a1, aI a2, aI a3, aU, aI (M5 179 0), aI 0] [] (SH L) M9 o) ∧ (¬ ((aW (a3 + v10)) ≤ (M9 152 0)) → o = ([aI ((-2))], (SH L), M9)))))))) ∧ (¬ (¬ (M5 179 0) = 40) → o = ([aI ((-1))], (SH L), M5))))))))))))) : aE 227 [aR 145, aI a1, aI a2, aI a3, aI a4] (SH L) M o := by
  have q : aX xc_227 (aSeek xc_227 0) [aR 145, aI a1, aI a2, aI a3, aI a4, aU, aU] [] (SH L) M o := by
    obtain ⟨M1, v2, k11, h⟩ := h
    have h2 : aX xc_227 (aSeek xc_227 5) [aR 145, aI a1, aI a2, aI a3, aI a4, aU, aU] [aI v2] (SH L) M1 o := by
      by_cases cc : v2 = 0
      · replace h := h.1 cc
        have t12 : aX xc_227 (aSeek xc_227 39) [aR 145, aI a1, aI a2, aI a3, aI a4, aU, aU] [] (SH L) M1 o := by
          subst h
          exact ⟨2, rfl⟩
        exact aX_seg 1 (fun n g => ip cc (g)) t12
      · replace h := h.2 cc
        have t13 : aX xc_227 (aSeek xc_227 8) [aR 145, aI a1, aI a2, aI a3, aI a4, aU, aU] [] (SH L) M1 o := by
          obtain ⟨M3, v4, k14, h⟩ := h
          have h2 : aX xc_227 (aSeek xc_227 15) [aR 145, aI a1, aI a2, aI a3, aI a4, aU, aU] [aI v4] (SH L) M3 o := by
            by_cases cc : v4 = 0
            · replace h := h.1 cc
              have t15 : aX xc_227 (aSeek xc_227 39) [aR 145, aI a1, aI a2, aI a3, aI a4, aU, aU] [] (SH L) M3 o := by
                subst h
                exact ⟨2, rfl⟩
              exact aX_seg 1 (fun n g => ip cc (g)) t15
            · replace h := h.2 cc
              have t16 : aX xc_227 (aSeek xc_227 18) [aR 145, aI a1, aI a2, aI a3, aI a4, aU, aU] [] (SH L) M3 o := by
                obtain ⟨M5, v6, k17, h⟩ := h
                have h2 : aX xc_227 (aSeek xc_227 25) [aR 145, aI a1, aI a2, aI a3, aI a4, aU, aU] [aI v6] (SH L) M5 o := by
                  by_cases cc : v6 = 0
                  · replace h := h.1 cc
                    have t18 : aX xc_227 (aSeek xc_227 39) [aR 145, aI a1, aI a2, aI a3, aI a4, aU, aU] [] (SH L) M5 o := by
                      subst h
                      exact ⟨2, rfl⟩
                    exact aX_seg 1 (fun n g => ip cc (g)) t18
                  · replace h := h.2 cc
                    have t19 : aX xc_227 (aSeek xc_227 28) [aR 145, aI a1, aI a2, aI a3, aI a4, aU, aU] [] (SH L) M5 o := by
                      by_cases cc : ¬ (M5 179 0) = 40
                      · replace h := h.1 cc
                        have t20 : aX xc_227 (aSeek xc_227 41) [aR 145, aI a1, aI a2, aI a3, aI a4, aU, aU] [] (SH L) M5 o := by
                          obtain ⟨c21, h⟩ := h
                          obtain ⟨c22, h⟩ := h
                          obtain ⟨c23, h⟩ := h
                          obtain ⟨c24, h⟩ := h
                          obtain ⟨M7, v8, k25, h⟩ := h
                          have h2 : aX xc_227 (aSeek xc_227 89) [aR 145, aI a1, aI a2, aI a3, aI a4, aI (M5 179 0), aU] [aI v8, aI a2] (SH L) M7 o := by
                            by_cases cc : (M7 151 0) < (aW (a2 + v8))
                            · replace h := h.1 cc
                              have t26 : aX xc_227 (aSeek xc_227 116) [aR 145, aI a1, aI a2, aI a3, aI a4, aI (M5 179 0), aU] [] (SH L) M7 o := by
                                subst h
                                exact ⟨2, rfl⟩
                              exact aX_seg 6 (fun n g => ip cc (g)) t26
                            · replace h := h.2 cc
                              have t27 : aX xc_227 (aSeek xc_227 99) [aR 145, aI a1, aI a2, aI a3, aI a4, aI (M5 179 0), aU] [] (SH L) M7 o := by
                                obtain ⟨M9, v10, k28, h⟩ := h
                                have h2 : aX xc_227 (aSeek xc_227 106) [aR 145, aI a1, aI a2, aI a3, aI a4, aI (M5 179 0), aU] [aI v10, aI a3] (SH L) M9 o := by
                                  by_cases cc : (aW (a3 + v10)) ≤ (M9 152 0)
                                  · replace h := h.1 cc
                                    have t29 : aX xc_227 (aSeek xc_227 119) [aR 145, aI a1, aI a2, aI a3, aI a4, aI (M5 179 0), aU] [] (SH L) M9 o := by
                                      exact aX_seg 2 (fun n g => g) (aX_le (ls := [aR 145, aI a1, aI a2, aI a3, aU, aI (M5 179 0), aI 0]) (ls1 := [aR 145, aI a1, aI a2, aI a3, aI a4, aI (M5 179 0), aI 0]) (⟨Or.inr rfl, ⟨Or.inr rfl, ⟨Or.inr rfl, ⟨Or.inr rfl, ⟨Or.inl rfl, ⟨Or.inr rfl, ⟨Or.inr rfl, trivial⟩⟩⟩⟩⟩⟩⟩) h)
                                    exact aX_seg 6 (fun n g => ip cc (g)) t29
                                  · replace h := h.2 cc
                                    have t30 : aX xc_227 (aSeek xc_227 116) [aR 145, aI a1, aI a2, aI a3, aI a4, aI (M5 179 0), aU] [] (SH L) M9 o := by
                                      subst h
                                      exact ⟨2, rfl⟩
                                    exact aX_seg 6 (fun n g => in_ cc (g)) t30
                                exact aX_seg 3 (fun n g => g) (aX_callv (rfl) rfl rfl rfl k28 h2)
                              exact aX_seg 6 (fun n g => in_ cc (g)) t27
                          exact aX_seg 28 (fun n g => ip c21 (ip c22 (ip c23 (ip c24 (g))))) (aX_callv (rfl) rfl rfl rfl k25 h2)
                        exact aX_seg 6 (fun n g => ip cc (g)) t20
                      · replace h := h.2 cc
                        have t31 : aX xc_227 (aSeek xc_227 39) [aR 145, aI a1, aI a2, aI a3, aI a4, aU, aU] [] (SH L) M5 o := by
                          subst h
                          exact ⟨2, rfl⟩
                        exact aX_seg 6 (fun n g => in_ cc (g)) t31
                    exact aX_seg 1 (fun n g => in_ cc (g)) t19
                exact aX_seg 3 (fun n g => g) (aX_calls rfl rfl rfl k17 h2)
              exact aX_seg 1 (fun n g => in_ cc (g)) t16
          exact aX_seg 3 (fun n g => g) (aX_calls rfl rfl rfl k14 h2)
        exact aX_seg 1 (fun n g => in_ cc (g)) t13
    exact aX_seg 2 (fun n g => g) (aX_callv (rfl) rfl rfl rfl k11 h2)
  exact q
set_option maxRecDepth 100000 in
theorem bl_227_122 {L : Nat} {a1 a2 a3 a5 a6 : Int} {M : aM} {o : aO} (h : ((a5 ≤ a6 → (∃ (M1 : aM) (v2 : Int), aE 226 [aR 145, aI a1] (SH L) M ([aI v2], (SH L), M1) ∧ ((¬ v2 = 0 → o = ([aI a5], (SH L), aSet M1 179 0 (aW ((M1 179 0) + 1)))) ∧ (¬ (¬ v2 = 0) → o = ([aI ((-4))], (SH L), M1))))) ∧ (¬ (a5 ≤ a6) → (0 ≤ a6 ∧ a6 < aLn (SH L) 1 182) ∧ (∃ (M3 : aM) (v4 : Int), aE 223 [aR 145, aI a6] (SH L) M ([aI v4], (SH L), M3) ∧ (((aW ((M 182 a6) + v4)) ≤ a2 → aX xc_227 (aSeek xc_227 204) [aR 145, aI a1, aI a2, aI a3, aU, aI a5, aI a6] [] (SH L) M3 o) ∧ (¬ ((aW ((M 182 a6) + v4)) ≤ a2) → (0 ≤ a6 ∧ a6 < aLn (SH L) 1 182) ∧ (∃ (M5 : aM) (v6 : Int), aE 223 [aR 145, aI a5] (SH L) M3 ([aI v6], (SH L), M5) ∧ (((aW (a2 + v6)) ≤ (M3 182 a6) → aX xc_227 (aSeek xc_227 204) [aR 145, aI a1, aI a2, aI a3, aU, aI a5, aI a6] [] (SH L) M5 o) ∧ (¬ ((aW (a2 + v6)) ≤ (M3 182 a6)) → (0 ≤ a6 ∧ a6 < aLn (SH L) 1 183) ∧ (∃ (M7 : aM) (v8 : Int), aE 224 [aR 145, aI a6] (SH L) M5 ([aI v8], (SH L), M7) ∧ (((aW ((M5 183 a6) + v8)) ≤ a3 → aX xc_227 (aSeek xc_227 204) [aR 145, aI a1, aI a2, aI a3, aU, aI a5, aI a6] [] (SH L) M7 o) ∧ (¬ ((aW ((M5 183 a6) + v8)) ≤ a3) → (0 ≤ a6 ∧ a6 < aLn (SH L) 1 183) ∧ (∃ (M9 : aM) (v10 : Int), aE 224 [aR 145, aI a5] (SH L) M7 ([aI v10], (SH L), M9) ∧ (((aW (a3 + v10)) ≤ (M7 183 a6) → aX xc_227 (aSeek xc_227 204) [aR 145, aI a1, aI a2, aI a3, aU, aI a5, aI a6] [] (SH L) M9 o) ∧ (¬ ((aW (a3 + v10)) ≤ (M7 183 a6)) → o = ([aI ((-3))], (SH L), M9)))))))))))))))) : aX xc_227 (aSeek xc_227 122) [aR 145, aI a1, aI a2, aI a3, aU, aI a5, aI a6] [] (SH L) M o := by
  by_cases cc : a5 ≤ a6
  · replace h := h.1 cc
    have t11 : aX xc_227 (aSeek xc_227 210) [aR 145, aI a1, aI a2, aI a3, aU, aI a5, aI a6] [] (SH L) M o := by
      obtain ⟨M1, v2, k12, h⟩ := h
      have h2 : aX xc_227 (aSeek xc_227 215) [aR 145, aI a1, aI a2, aI a3, aU, aI a5, aI a6] [aI v2] (SH L) M1 o := by
        by_cases cc : ¬ v2 = 0
        · replace h := h.1 cc
          have t13 : aX xc_227 (aSeek xc_227 221) [aR 145, aI a1, aI a2, aI a3, aU, aI a5, aI a6] [] (SH L) M1 o := by
            subst h
            exact ⟨10, rfl⟩
          exact aX_seg 1 (fun n g => ip cc (g)) t13
        · replace h := h.2 cc
          have t14 : aX xc_227 (aSeek xc_227 218) [aR 145, aI a1, aI a2, aI a3, aU, aI a5, aI a6] [] (SH L) M1 o := by
            subst h
            exact ⟨2, rfl⟩
          exact aX_seg 1 (fun n g => in_ cc (g)) t14
      exact aX_seg 2 (fun n g => g) (aX_callv (rfl) rfl rfl rfl k12 h2)
    exact aX_seg 3 (fun n g => ip cc (g)) t11
  · replace h := h.2 cc
    have t15 : aX xc_227 (aSeek xc_227 129) [aR 145, aI a1, aI a2, aI a3, aU, aI a5, aI a6] [] (SH L) M o := by
      obtain ⟨c16, h⟩ := h
      obtain ⟨M3, v4, k17, h⟩ := h
      have h2 : aX xc_227 (aSeek xc_227 143) [aR 145, aI a1, aI a2, aI a3, aU, aI a5, aI a6] [aI v4, aI (M 182 a6), aI a2] (SH L) M3 o := by
        by_cases cc : (aW ((M 182 a6) + v4)) ≤ a2
        · replace h := h.1 cc
          have t18 : aX xc_227 (aSeek xc_227 204) [aR 145, aI a1, aI a2, aI a3, aU, aI a5, aI a6] [] (SH L) M3 o := by
            exact h
          exact aX_seg 2 (fun n g => ip cc (g)) t18
        · replace h := h.2 cc
          have t19 : aX xc_227 (aSeek xc_227 147) [aR 145, aI a1, aI a2, aI a3, aU, aI a5, aI a6] [] (SH L) M3 o := by
            obtain ⟨c20, h⟩ := h
            obtain ⟨M5, v6, k21, h⟩ := h
            have h2 : aX xc_227 (aSeek xc_227 161) [aR 145, aI a1, aI a2, aI a3, aU, aI a5, aI a6] [aI v6, aI a2, aI (M3 182 a6)] (SH L) M5 o := by
              by_cases cc : (aW (a2 + v6)) ≤ (M3 182 a6)
              · replace h := h.1 cc
                have t22 : aX xc_227 (aSeek xc_227 204) [aR 145, aI a1, aI a2, aI a3, aU, aI a5, aI a6] [] (SH L) M5 o := by
                  exact h
                exact aX_seg 2 (fun n g => ip cc (g)) t22
              · replace h := h.2 cc
                have t23 : aX xc_227 (aSeek xc_227 165) [aR 145, aI a1, aI a2, aI a3, aU, aI a5, aI a6] [] (SH L) M5 o := by
                  obtain ⟨c24, h⟩ := h
                  obtain ⟨M7, v8, k25, h⟩ := h
                  have h2 : aX xc_227 (aSeek xc_227 179) [aR 145, aI a1, aI a2, aI a3, aU, aI a5, aI a6] [aI v8, aI (M5 183 a6), aI a3] (SH L) M7 o := by
                    by_cases cc : (aW ((M5 183 a6) + v8)) ≤ a3
                    · replace h := h.1 cc
                      have t26 : aX xc_227 (aSeek xc_227 204) [aR 145, aI a1, aI a2, aI a3, aU, aI a5, aI a6] [] (SH L) M7 o := by
                        exact h
                      exact aX_seg 2 (fun n g => ip cc (g)) t26
                    · replace h := h.2 cc
                      have t27 : aX xc_227 (aSeek xc_227 183) [aR 145, aI a1, aI a2, aI a3, aU, aI a5, aI a6] [] (SH L) M7 o := by
                        obtain ⟨c28, h⟩ := h
                        obtain ⟨M9, v10, k29, h⟩ := h
                        have h2 : aX xc_227 (aSeek xc_227 197) [aR 145, aI a1, aI a2, aI a3, aU, aI a5, aI a6] [aI v10, aI a3, aI (M7 183 a6)] (SH L) M9 o := by
                          by_cases cc : (aW (a3 + v10)) ≤ (M7 183 a6)
                          · replace h := h.1 cc
                            have t30 : aX xc_227 (aSeek xc_227 204) [aR 145, aI a1, aI a2, aI a3, aU, aI a5, aI a6] [] (SH L) M9 o := by
                              exact h
                            exact aX_seg 2 (fun n g => ip cc (g)) t30
                          · replace h := h.2 cc
                            have t31 : aX xc_227 (aSeek xc_227 201) [aR 145, aI a1, aI a2, aI a3, aU, aI a5, aI a6] [] (SH L) M9 o := by
                              subst h
                              exact ⟨2, rfl⟩
                            exact aX_seg 2 (fun n g => in_ cc (g)) t31
                        exact aX_seg 7 (fun n g => ip c28 (g)) (aX_callv (rfl) rfl rfl rfl k29 h2)
                      exact aX_seg 2 (fun n g => in_ cc (g)) t27
                  exact aX_seg 7 (fun n g => ip c24 (g)) (aX_callv (rfl) rfl rfl rfl k25 h2)
                exact aX_seg 2 (fun n g => in_ cc (g)) t23
            exact aX_seg 7 (fun n g => ip c20 (g)) (aX_callv (rfl) rfl rfl rfl k21 h2)
          exact aX_seg 2 (fun n g => in_ cc (g)) t19
      exact aX_seg 7 (fun n g => ip c16 (g)) (aX_callv (rfl) rfl rfl rfl k17 h2)
    exact aX_seg 3 (fun n g => in_ cc (g)) t15
set_option maxRecDepth 100000 in
theorem bl_227_204 {L : Nat} {a1 a2 a3 a5 a6 : Int} {M : aM} {o : aO} (h : aX xc_227 (aSeek xc_227 122) [aR 145, aI a1, aI a2, aI a3, aU, aI a5, aI (aW (a6 + 1))] [] (SH L) M o) : aX xc_227 (aSeek xc_227 204) [aR 145, aI a1, aI a2, aI a3, aU, aI a5, aI a6] [] (SH L) M o := by
  exact aX_seg 2 (fun n g => g) (h)
/- TypeLockModel.take(I)I -/
set_option maxRecDepth 100000 in
theorem en_228 {L : Nat} {a1 : Int} {M : aM} {o : aO} (h : (∃ (M1 : aM) (v2 : Int), aE 221 [aR 145, aI a1] (SH L) M ([aI v2], (SH L), M1) ∧ ((¬ v2 = 0 → aX xc_228 (aSeek xc_228 22) [aR 145, aU, aI a1] [] (SH L) (aSet M1 179 0 (aW ((M1 179 0) - 1))) o) ∧ (¬ (¬ v2 = 0) → o = ([aI ((-1))], (SH L), M1))))) : aE 228 [aR 145, aI a1] (SH L) M o := by
  have q : aX xc_228 (aSeek xc_228 0) [aR 145, aI a1, aU] [] (SH L) M o := by
    obtain ⟨M1, v2, k3, h⟩ := h
    have h2 : aX xc_228 (aSeek xc_228 5) [aR 145, aI a1, aU] [aI v2] (SH L) M1 o := by
      by_cases cc : ¬ v2 = 0
      · replace h := h.1 cc
        have t4 : aX xc_228 (aSeek xc_228 10) [aR 145, aI a1, aU] [] (SH L) M1 o := by
          exact aX_seg 10 (fun n g => g) (aX_le (ls := [aR 145, aU, aI a1]) (ls1 := [aR 145, aI a1, aI a1]) (⟨Or.inr rfl, ⟨Or.inl rfl, ⟨Or.inr rfl, trivial⟩⟩⟩) h)
        exact aX_seg 1 (fun n g => ip cc (g)) t4
      · replace h := h.2 cc
        have t5 : aX xc_228 (aSeek xc_228 8) [aR 145, aI a1, aU] [] (SH L) M1 o := by
          subst h
          exact ⟨2, rfl⟩
        exact aX_seg 1 (fun n g => in_ cc (g)) t5
    exact aX_seg 2 (fun n g => g) (aX_callv (rfl) rfl rfl rfl k3 h2)
  exact q
set_option maxRecDepth 100000 in
theorem bl_228_22 {L : Nat} {a2 : Int} {M : aM} {o : aO} (h : (((M 179 0) ≤ a2 → o = ([aI (M 179 0)], (SH L), M)) ∧ (¬ ((M 179 0) ≤ a2) → (0 ≤ aW (a2 + 1) ∧ aW (a2 + 1) < aLn (SH L) 1 181) ∧ (0 ≤ a2 ∧ a2 < aLn (SH L) 1 181) ∧ (0 ≤ aW (a2 + 1) ∧ aW (a2 + 1) < aLn (SH L) 1 182) ∧ (0 ≤ a2 ∧ a2 < aLn (SH L) 1 182) ∧ (0 ≤ aW (a2 + 1) ∧ aW (a2 + 1) < aLn (SH L) 1 183) ∧ (0 ≤ a2 ∧ a2 < aLn (SH L) 1 183) ∧ (0 ≤ aW (a2 + 1) ∧ aW (a2 + 1) < aLn (SH L) 4 184) ∧ ((0 ≤ a2 ∧ a2 < aLn (SH L) 4 184) ∧ ((aSet (aSet (aSet M 181 a2 (M 181 (aW (a2 + 1)))) 182 a2 ((aSet M 181 a2 (M 181 (aW (a2 + 1)))) 182 (aW (a2 + 1)))) 183 a2 ((aSet (aSet M 181 a2 (M 181 (aW (a2 + 1)))) 182 a2 ((aSet M 181 a2 (M 181 (aW (a2 + 1)))) 182 (aW (a2 + 1)))) 183 (aW (a2 + 1)))) 184 (aW (a2 + 1)) = 0 ∨ (aSet (aSet (aSet M 181 a2 (M 181 (aW (a2 + 1)))) 182 a2 ((aSet M 181 a2 (M 181 (aW (a2 + 1)))) 182 (aW (a2 + 1)))) 183 a2 ((aSet (aSet M 181 a2 (M 181 (aW (a2 + 1)))) 182 a2 ((aSet M 181 a2 (M 181 (aW (a2 + 1)))) 182 (aW (a2 + 1)))) 183 (aW (a2 + 1)))) 184 (aW (a2 + 1)) = 1)) ∧ aX xc_228 (aSeek xc_228 22) [aR 145, aU, aI (aW (a2 + 1))] [] (SH L) (aSet (aSet (aSet (aSet M 181 a2 (M 181 (aW (a2 + 1)))) 182 a2 ((aSet M 181 a2 (M 181 (aW (a2 + 1)))) 182 (aW (a2 + 1)))) 183 a2 ((aSet (aSet M 181 a2 (M 181 (aW (a2 + 1)))) 182 a2 ((aSet M 181 a2 (M 181 (aW (a2 + 1)))) 182 (aW (a2 + 1)))) 183 (aW (a2 + 1)))) 184 a2 ((aSet (aSet (aSet M 181 a2 (M 181 (aW (a2 + 1)))) 182 a2 ((aSet M 181 a2 (M 181 (aW (a2 + 1)))) 182 (aW (a2 + 1)))) 183 a2 ((aSet (aSet M 181 a2 (M 181 (aW (a2 + 1)))) 182 a2 ((aSet M 181 a2 (M 181 (aW (a2 + 1)))) 182 (aW (a2 + 1)))) 183 (aW (a2 + 1)))) 184 (aW (a2 + 1)))) o))) : aX xc_228 (aSeek xc_228 22) [aR 145, aU, aI a2] [] (SH L) M o := by
  by_cases cc : (M 179 0) ≤ a2
  · replace h := h.1 cc
    have t1 : aX xc_228 (aSeek xc_228 94) [aR 145, aU, aI a2] [] (SH L) M o := by
      subst h
      exact ⟨5, rfl⟩
    exact aX_seg 6 (fun n g => ip cc (g)) t1
  · replace h := h.2 cc
    have t2 : aX xc_228 (aSeek xc_228 32) [aR 145, aU, aI a2] [] (SH L) M o := by
      obtain ⟨c3, h⟩ := h
      obtain ⟨c4, h⟩ := h
      obtain ⟨c5, h⟩ := h
      obtain ⟨c6, h⟩ := h
      obtain ⟨c7, h⟩ := h
      obtain ⟨c8, h⟩ := h
      obtain ⟨c9, h⟩ := h
      obtain ⟨c10, h⟩ := h
      exact aX_seg 42 (fun n g => ip c3 (ip c4 (ip c5 (ip c6 (ip c7 (ip c8 (ip c9 (ip c10 (g))))))))) (h)
    exact aX_seg 6 (fun n g => in_ cc (g)) t2
/- TypeLockModel.thing(II)I -/
set_option maxRecDepth 100000 in
theorem en_229 {L : Nat} {a1 a2 : Int} {M : aM} {o : aO} (h : (∃ (M1 : aM) (v2 : Int), aE 221 [aR 145, aI a1] (SH L) M ([aI v2], (SH L), M1) ∧ ((¬ v2 = 0 → ((a2 = 0 → (0 ≤ a1 ∧ a1 < aLn (SH L) 1 181) ∧ o = ([aI (M1 181 a1)], (SH L), M1)) ∧ (a2 = 1 → (0 ≤ a1 ∧ a1 < aLn (SH L) 1 182) ∧ o = ([aI (M1 182 a1)], (SH L), M1)) ∧ (a2 = 2 → (0 ≤ a1 ∧ a1 < aLn (SH L) 1 183) ∧ o = ([aI (M1 183 a1)], (SH L), M1)) ∧ (a2 = 3 → (∃ (M3 : aM) (v4 : Int), aE 223 [aR 145, aI a1] (SH L) M1 ([aI v4], (SH L), M3) ∧ o = ([aI v4], (SH L), M3))) ∧ (a2 = 4 → (∃ (M5 : aM) (v6 : Int), aE 224 [aR 145, aI a1] (SH L) M1 ([aI v6], (SH L), M5) ∧ o = ([aI v6], (SH L), M5))) ∧ (a2 = 5 → (0 ≤ a1 ∧ a1 < aLn (SH L) 4 184) ∧ (((M1 184 a1) = 0 → o = ([aI 0], (SH L), M1)) ∧ (¬ ((M1 184 a1) = 0) → o = ([aI 1], (SH L), M1)))) ∧ (¬ a2 = 0 → ¬ a2 = 1 → ¬ a2 = 2 → ¬ a2 = 3 → ¬ a2 = 4 → ¬ a2 = 5 → o = ([aI ((-1))], (SH L), M1)))) ∧ (¬ (¬ v2 = 0) → o = ([aI ((-1))], (SH L), M1))))) : aE 229 [aR 145, aI a1, aI a2] (SH L) M o := by
  have q : aX xc_229 (aSeek xc_229 0) [aR 145, aI a1, aI a2] [] (SH L) M o := by
    obtain ⟨M1, v2, k7, h⟩ := h
    have h2 : aX xc_229 (aSeek xc_229 5) [aR 145, aI a1, aI a2] [aI v2] (SH L) M1 o := by
      by_cases cc : ¬ v2 = 0
      · replace h := h.1 cc
        have t8 : aX xc_229 (aSeek xc_229 10) [aR 145, aI a1, aI a2] [] (SH L) M1 o := by
          by_cases cc0 : a2 = 0
          · replace h := h.1 cc0
            have ee : aTab 0 5 85 #[37, 44, 51, 58, 64, 70] a2 = 37 := by rw [cc0]; rfl
            have t9 : aX xc_229 (aSeek xc_229 48) [aR 145, aI a1, aI a2] [] (SH L) M1 o := by
              obtain ⟨c10, h⟩ := h
              subst h
              exact ⟨5, ip c10 (rfl)⟩
            exact aX_seg 2 (fun n g => (congrArg (fun tt => aRun tgT gP n xc_229 (aSeek xc_229 (aTo 11 tt)) [aR 145, aI a1, aI a2] [] (SH L) M1) ee).trans g) t9
          by_cases cc1 : a2 = 1
          · replace h := h.2.1 cc1
            have ee : aTab 0 5 85 #[37, 44, 51, 58, 64, 70] a2 = 44 := by rw [cc1]; rfl
            have t11 : aX xc_229 (aSeek xc_229 55) [aR 145, aI a1, aI a2] [] (SH L) M1 o := by
              obtain ⟨c12, h⟩ := h
              subst h
              exact ⟨5, ip c12 (rfl)⟩
            exact aX_seg 2 (fun n g => (congrArg (fun tt => aRun tgT gP n xc_229 (aSeek xc_229 (aTo 11 tt)) [aR 145, aI a1, aI a2] [] (SH L) M1) ee).trans g) t11
          by_cases cc2 : a2 = 2
          · replace h := h.2.2.1 cc2
            have ee : aTab 0 5 85 #[37, 44, 51, 58, 64, 70] a2 = 51 := by rw [cc2]; rfl
            have t13 : aX xc_229 (aSeek xc_229 62) [aR 145, aI a1, aI a2] [] (SH L) M1 o := by
              obtain ⟨c14, h⟩ := h
              subst h
              exact ⟨5, ip c14 (rfl)⟩
            exact aX_seg 2 (fun n g => (congrArg (fun tt => aRun tgT gP n xc_229 (aSeek xc_229 (aTo 11 tt)) [aR 145, aI a1, aI a2] [] (SH L) M1) ee).trans g) t13
          by_cases cc3 : a2 = 3
          · replace h := h.2.2.2.1 cc3
            have ee : aTab 0 5 85 #[37, 44, 51, 58, 64, 70] a2 = 58 := by rw [cc3]; rfl
            have t15 : aX xc_229 (aSeek xc_229 69) [aR 145, aI a1, aI a2] [] (SH L) M1 o := by
              obtain ⟨M3, v4, k16, h⟩ := h
              have h2 : aX xc_229 (aSeek xc_229 74) [aR 145, aI a1, aI a2] [aI v4] (SH L) M3 o := by
                subst h
                exact ⟨1, rfl⟩
              exact aX_seg 2 (fun n g => g) (aX_callv (rfl) rfl rfl rfl k16 h2)
            exact aX_seg 2 (fun n g => (congrArg (fun tt => aRun tgT gP n xc_229 (aSeek xc_229 (aTo 11 tt)) [aR 145, aI a1, aI a2] [] (SH L) M1) ee).trans g) t15
          by_cases cc4 : a2 = 4
          · replace h := h.2.2.2.2.1 cc4
            have ee : aTab 0 5 85 #[37, 44, 51, 58, 64, 70] a2 = 64 := by rw [cc4]; rfl
            have t17 : aX xc_229 (aSeek xc_229 75) [aR 145, aI a1, aI a2] [] (SH L) M1 o := by
              obtain ⟨M5, v6, k18, h⟩ := h
              have h2 : aX xc_229 (aSeek xc_229 80) [aR 145, aI a1, aI a2] [aI v6] (SH L) M5 o := by
                subst h
                exact ⟨1, rfl⟩
              exact aX_seg 2 (fun n g => g) (aX_callv (rfl) rfl rfl rfl k18 h2)
            exact aX_seg 2 (fun n g => (congrArg (fun tt => aRun tgT gP n xc_229 (aSeek xc_229 (aTo 11 tt)) [aR 145, aI a1, aI a2] [] (SH L) M1) ee).trans g) t17
          by_cases cc5 : a2 = 5
          · replace h := h.2.2.2.2.2.1 cc5
            have ee : aTab 0 5 85 #[37, 44, 51, 58, 64, 70] a2 = 70 := by rw [cc5]; rfl
            have t19 : aX xc_229 (aSeek xc_229 81) [aR 145, aI a1, aI a2] [] (SH L) M1 o := by
              obtain ⟨c20, h⟩ := h
              by_cases cc : (M1 184 a1) = 0
              · replace h := h.1 cc
                have t21 : aX xc_229 (aSeek xc_229 94) [aR 145, aI a1, aI a2] [] (SH L) M1 o := by
                  subst h
                  exact ⟨2, rfl⟩
                exact aX_seg 5 (fun n g => ip c20 (ip cc (g))) t21
              · replace h := h.2 cc
                have t22 : aX xc_229 (aSeek xc_229 90) [aR 145, aI a1, aI a2] [] (SH L) M1 o := by
                  subst h
                  exact ⟨3, rfl⟩
                exact aX_seg 5 (fun n g => ip c20 (in_ cc (g))) t22
            exact aX_seg 2 (fun n g => (congrArg (fun tt => aRun tgT gP n xc_229 (aSeek xc_229 (aTo 11 tt)) [aR 145, aI a1, aI a2] [] (SH L) M1) ee).trans g) t19
          replace h := h.2.2.2.2.2.2 cc0 cc1 cc2 cc3 cc4 cc5
          have ee : aTab 0 5 85 #[37, 44, 51, 58, 64, 70] a2 = 85 := by unfold aTab; rw [if_pos (by omega)]
          have t23 : aX xc_229 (aSeek xc_229 96) [aR 145, aI a1, aI a2] [] (SH L) M1 o := by
            subst h
            exact ⟨2, rfl⟩
          exact aX_seg 2 (fun n g => (congrArg (fun tt => aRun tgT gP n xc_229 (aSeek xc_229 (aTo 11 tt)) [aR 145, aI a1, aI a2] [] (SH L) M1) ee).trans g) t23
        exact aX_seg 1 (fun n g => ip cc (g)) t8
      · replace h := h.2 cc
        have t24 : aX xc_229 (aSeek xc_229 8) [aR 145, aI a1, aI a2] [] (SH L) M1 o := by
          subst h
          exact ⟨2, rfl⟩
        exact aX_seg 1 (fun n g => in_ cc (g)) t24
    exact aX_seg 2 (fun n g => g) (aX_callv (rfl) rfl rfl rfl k7 h2)
  exact q
/- TypeLockModel.thingAt(II)I -/
set_option maxRecDepth 100000 in
theorem en_230 {L : Nat} {a1 a2 : Int} {M : aM} {o : aO} (h : aX xc_230 (aSeek xc_230 2) [aR 145, aI a1, aI a2, aI 0] [] (SH L) M o) : aE 230 [aR 145, aI a1, aI a2] (SH L) M o := by
  have q : aX xc_230 (aSeek xc_230 0) [aR 145, aI a1, aI a2, aU] [] (SH L) M o := by
    exact aX_seg 2 (fun n g => g) (h)
  exact q
set_option maxRecDepth 100000 in
theorem bl_230_2 {L : Nat} {a1 a2 a3 : Int} {M : aM} {o : aO} (h : (((M 179 0) ≤ a3 → o = ([aI ((-2))], (SH L), M)) ∧ (¬ ((M 179 0) ≤ a3) → (0 ≤ a3 ∧ a3 < aLn (SH L) 1 182) ∧ ((a1 < (M 182 a3) → aX xc_230 (aSeek xc_230 66) [aR 145, aI a1, aI a2, aI a3] [] (SH L) M o) ∧ (¬ (a1 < (M 182 a3)) → (0 ≤ a3 ∧ a3 < aLn (SH L) 1 182) ∧ (∃ (M1 : aM) (v2 : Int), aE 223 [aR 145, aI a3] (SH L) M ([aI v2], (SH L), M1) ∧ (((aW ((M 182 a3) + v2)) ≤ a1 → aX xc_230 (aSeek xc_230 66) [aR 145, aI a1, aI a2, aI a3] [] (SH L) M1 o) ∧ (¬ ((aW ((M 182 a3) + v2)) ≤ a1) → (0 ≤ a3 ∧ a3 < aLn (SH L) 1 183) ∧ ((a2 < (M1 183 a3) → aX xc_230 (aSeek xc_230 66) [aR 145, aI a1, aI a2, aI a3] [] (SH L) M1 o) ∧ (¬ (a2 < (M1 183 a3)) → (0 ≤ a3 ∧ a3 < aLn (SH L) 1 183) ∧ (∃ (M3 : aM) (v4 : Int), aE 224 [aR 145, aI a3] (SH L) M1 ([aI v4], (SH L), M3) ∧ (((aW ((M1 183 a3) + v4)) ≤ a2 → aX xc_230 (aSeek xc_230 66) [aR 145, aI a1, aI a2, aI a3] [] (SH L) M3 o) ∧ (¬ ((aW ((M1 183 a3) + v4)) ≤ a2) → o = ([aI a3], (SH L), M3)))))))))))))) : aX xc_230 (aSeek xc_230 2) [aR 145, aI a1, aI a2, aI a3] [] (SH L) M o := by
  by_cases cc : (M 179 0) ≤ a3
  · replace h := h.1 cc
    have t5 : aX xc_230 (aSeek xc_230 72) [aR 145, aI a1, aI a2, aI a3] [] (SH L) M o := by
      subst h
      exact ⟨2, rfl⟩
    exact aX_seg 6 (fun n g => ip cc (g)) t5
  · replace h := h.2 cc
    have t6 : aX xc_230 (aSeek xc_230 12) [aR 145, aI a1, aI a2, aI a3] [] (SH L) M o := by
      obtain ⟨c7, h⟩ := h
      by_cases cc : a1 < (M 182 a3)
      · replace h := h.1 cc
        have t8 : aX xc_230 (aSeek xc_230 66) [aR 145, aI a1, aI a2, aI a3] [] (SH L) M o := by
          exact h
        exact aX_seg 6 (fun n g => ip c7 (ip cc (g))) t8
      · replace h := h.2 cc
        have t9 : aX xc_230 (aSeek xc_230 22) [aR 145, aI a1, aI a2, aI a3] [] (SH L) M o := by
          obtain ⟨c10, h⟩ := h
          obtain ⟨M1, v2, k11, h⟩ := h
          have h2 : aX xc_230 (aSeek xc_230 34) [aR 145, aI a1, aI a2, aI a3] [aI v2, aI (M 182 a3), aI a1] (SH L) M1 o := by
            by_cases cc : (aW ((M 182 a3) + v2)) ≤ a1
            · replace h := h.1 cc
              have t12 : aX xc_230 (aSeek xc_230 66) [aR 145, aI a1, aI a2, aI a3] [] (SH L) M1 o := by
                exact h
              exact aX_seg 2 (fun n g => ip cc (g)) t12
            · replace h := h.2 cc
              have t13 : aX xc_230 (aSeek xc_230 38) [aR 145, aI a1, aI a2, aI a3] [] (SH L) M1 o := by
                obtain ⟨c14, h⟩ := h
                by_cases cc : a2 < (M1 183 a3)
                · replace h := h.1 cc
                  have t15 : aX xc_230 (aSeek xc_230 66) [aR 145, aI a1, aI a2, aI a3] [] (SH L) M1 o := by
                    exact h
                  exact aX_seg 6 (fun n g => ip c14 (ip cc (g))) t15
                · replace h := h.2 cc
                  have t16 : aX xc_230 (aSeek xc_230 48) [aR 145, aI a1, aI a2, aI a3] [] (SH L) M1 o := by
                    obtain ⟨c17, h⟩ := h
                    obtain ⟨M3, v4, k18, h⟩ := h
                    have h2 : aX xc_230 (aSeek xc_230 60) [aR 145, aI a1, aI a2, aI a3] [aI v4, aI (M1 183 a3), aI a2] (SH L) M3 o := by
                      by_cases cc : (aW ((M1 183 a3) + v4)) ≤ a2
                      · replace h := h.1 cc
                        have t19 : aX xc_230 (aSeek xc_230 66) [aR 145, aI a1, aI a2, aI a3] [] (SH L) M3 o := by
                          exact h
                        exact aX_seg 2 (fun n g => ip cc (g)) t19
                      · replace h := h.2 cc
                        have t20 : aX xc_230 (aSeek xc_230 64) [aR 145, aI a1, aI a2, aI a3] [] (SH L) M3 o := by
                          subst h
                          exact ⟨2, rfl⟩
                        exact aX_seg 2 (fun n g => in_ cc (g)) t20
                    exact aX_seg 7 (fun n g => ip c17 (g)) (aX_callv (rfl) rfl rfl rfl k18 h2)
                  exact aX_seg 6 (fun n g => ip c14 (in_ cc (g))) t16
              exact aX_seg 2 (fun n g => in_ cc (g)) t13
          exact aX_seg 7 (fun n g => ip c10 (g)) (aX_callv (rfl) rfl rfl rfl k11 h2)
        exact aX_seg 6 (fun n g => ip c7 (in_ cc (g))) t9
    exact aX_seg 6 (fun n g => in_ cc (g)) t6
set_option maxRecDepth 100000 in
theorem bl_230_66 {L : Nat} {a1 a2 a3 : Int} {M : aM} {o : aO} (h : aX xc_230 (aSeek xc_230 2) [aR 145, aI a1, aI a2, aI (aW (a3 + 1))] [] (SH L) M o) : aX xc_230 (aSeek xc_230 66) [aR 145, aI a1, aI a2, aI a3] [] (SH L) M o := by
  exact aX_seg 2 (fun n g => g) (h)
/- TypeLockModel.at(II)I -/
set_option maxRecDepth 100000 in
theorem en_231 {L : Nat} {a1 a2 : Int} {M : aM} {o : aO} (h : ((a1 < 0 → o = ([aI ((-1))], (SH L), M)) ∧ (¬ (a1 < 0) → ((a2 < 0 → o = ([aI ((-1))], (SH L), M)) ∧ (¬ (a2 < 0) → (((M 151 0) ≤ a1 → o = ([aI ((-1))], (SH L), M)) ∧ (¬ ((M 151 0) ≤ a1) → ((a2 < (M 152 0) → (∃ (M1 : aM) (v2 : Int), aE 230 [aR 145, aI a1, aI a2] (SH L) M ([aI v2], (SH L), M1) ∧ o = ([aI v2], (SH L), M1))) ∧ (¬ (a2 < (M 152 0)) → o = ([aI ((-1))], (SH L), M)))))))))) : aE 231 [aR 145, aI a1, aI a2] (SH L) M o := by
  have q : aX xc_231 (aSeek xc_231 0) [aR 145, aI a1, aI a2] [] (SH L) M o := by
    by_cases cc : a1 < 0
    · replace h := h.1 cc
      have t3 : aX xc_231 (aSeek xc_231 28) [aR 145, aI a1, aI a2] [] (SH L) M o := by
        subst h
        exact ⟨3, rfl⟩
      exact aX_seg 2 (fun n g => ip cc (g)) t3
    · replace h := h.2 cc
      have t4 : aX xc_231 (aSeek xc_231 4) [aR 145, aI a1, aI a2] [] (SH L) M o := by
        by_cases cc : a2 < 0
        · replace h := h.1 cc
          have t5 : aX xc_231 (aSeek xc_231 28) [aR 145, aI a1, aI a2] [] (SH L) M o := by
            subst h
            exact ⟨3, rfl⟩
          exact aX_seg 2 (fun n g => ip cc (g)) t5
        · replace h := h.2 cc
          have t6 : aX xc_231 (aSeek xc_231 8) [aR 145, aI a1, aI a2] [] (SH L) M o := by
            by_cases cc : (M 151 0) ≤ a1
            · replace h := h.1 cc
              have t7 : aX xc_231 (aSeek xc_231 28) [aR 145, aI a1, aI a2] [] (SH L) M o := by
                subst h
                exact ⟨3, rfl⟩
              exact aX_seg 6 (fun n g => ip cc (g)) t7
            · replace h := h.2 cc
              have t8 : aX xc_231 (aSeek xc_231 18) [aR 145, aI a1, aI a2] [] (SH L) M o := by
                by_cases cc : a2 < (M 152 0)
                · replace h := h.1 cc
                  have t9 : aX xc_231 (aSeek xc_231 32) [aR 145, aI a1, aI a2] [] (SH L) M o := by
                    obtain ⟨M1, v2, k10, h⟩ := h
                    have h2 : aX xc_231 (aSeek xc_231 38) [aR 145, aI a1, aI a2] [aI v2] (SH L) M1 o := by
                      subst h
                      exact ⟨1, rfl⟩
                    exact aX_seg 3 (fun n g => g) (aX_callv (rfl) rfl rfl rfl k10 h2)
                  exact aX_seg 6 (fun n g => ip cc (g)) t9
                · replace h := h.2 cc
                  have t11 : aX xc_231 (aSeek xc_231 28) [aR 145, aI a1, aI a2] [] (SH L) M o := by
                    subst h
                    exact ⟨3, rfl⟩
                  exact aX_seg 6 (fun n g => in_ cc (g)) t11
              exact aX_seg 6 (fun n g => in_ cc (g)) t8
          exact aX_seg 2 (fun n g => in_ cc (g)) t6
      exact aX_seg 2 (fun n g => in_ cc (g)) t4
  exact q
/- TypeLockModel.empty()I -/
set_option maxRecDepth 100000 in
theorem en_232 {L : Nat} {M : aM} {o : aO} (h : aX xc_232 (aSeek xc_232 16) [aR 145, aI (aW ((M 151 0) * (M 152 0))), aI 0] [] (SH L) M o) : aE 232 [aR 145] (SH L) M o := by
  have q : aX xc_232 (aSeek xc_232 0) [aR 145, aU, aU] [] (SH L) M o := by
    exact aX_seg 12 (fun n g => g) (h)
  exact q
set_option maxRecDepth 100000 in
theorem bl_232_16 {L : Nat} {a1 a2 : Int} {M : aM} {o : aO} (h : (((M 179 0) ≤ a2 → o = ([aI a1], (SH L), M)) ∧ (¬ ((M 179 0) ≤ a2) → (∃ (M1 : aM) (v2 : Int), aE 223 [aR 145, aI a2] (SH L) M ([aI v2], (SH L), M1) ∧ (∃ (M3 : aM) (v4 : Int), aE 224 [aR 145, aI a2] (SH L) M1 ([aI v4], (SH L), M3) ∧ aX xc_232 (aSeek xc_232 16) [aR 145, aI (aW (a1 - (aW (v2 * v4)))), aI (aW (a2 + 1))] [] (SH L) M3 o))))) : aX xc_232 (aSeek xc_232 16) [aR 145, aI a1, aI a2] [] (SH L) M o := by
  by_cases cc : (M 179 0) ≤ a2
  · replace h := h.1 cc
    have t5 : aX xc_232 (aSeek xc_232 46) [aR 145, aI a1, aI a2] [] (SH L) M o := by
      subst h
      exact ⟨2, rfl⟩
    exact aX_seg 6 (fun n g => ip cc (g)) t5
  · replace h := h.2 cc
    have t6 : aX xc_232 (aSeek xc_232 26) [aR 145, aI a1, aI a2] [] (SH L) M o := by
      obtain ⟨M1, v2, k7, h⟩ := h
      have h2 : aX xc_232 (aSeek xc_232 32) [aR 145, aI a1, aI a2] [aI v2, aI a1] (SH L) M1 o := by
        obtain ⟨M3, v4, k8, h⟩ := h
        have h2 : aX xc_232 (aSeek xc_232 37) [aR 145, aI a1, aI a2] [aI v4, aI v2, aI a1] (SH L) M3 o := by
          exact aX_seg 5 (fun n g => g) (h)
        exact aX_seg 2 (fun n g => g) (aX_callv (rfl) rfl rfl rfl k8 h2)
      exact aX_seg 3 (fun n g => g) (aX_callv (rfl) rfl rfl rfl k7 h2)
    exact aX_seg 6 (fun n g => in_ cc (g)) t6
/- TypeLockModel.common(IIII)I -/
set_option maxRecDepth 100000 in
theorem en_233 {L : Nat} {a0 a1 a2 a3 : Int} {M : aM} {o : aO} (h : ((a0 ≤ a2 → aX xc_233 (aSeek xc_233 10) [aU, aI a1, aU, aI a3, aU, aU] [aI a2] (SH L) M o) ∧ (¬ (a0 ≤ a2) → aX xc_233 (aSeek xc_233 10) [aU, aI a1, aU, aI a3, aU, aU] [aI a0] (SH L) M o))) : aE 233 [aI a0, aI a1, aI a2, aI a3] (SH L) M o := by
  have q : aX xc_233 (aSeek xc_233 0) [aI a0, aI a1, aI a2, aI a3, aU, aU] [] (SH L) M o := by
    by_cases cc : a0 ≤ a2
    · replace h := h.1 cc
      have t1 : aX xc_233 (aSeek xc_233 9) [aI a0, aI a1, aI a2, aI a3, aU, aU] [] (SH L) M o := by
        exact aX_seg 1 (fun n g => g) (aX_le (ls := [aU, aI a1, aU, aI a3, aU, aU]) (ls1 := [aI a0, aI a1, aI a2, aI a3, aU, aU]) (⟨Or.inl rfl, ⟨Or.inr rfl, ⟨Or.inl rfl, ⟨Or.inr rfl, ⟨Or.inl rfl, ⟨Or.inl rfl, trivial⟩⟩⟩⟩⟩⟩) h)
      exact aX_seg 3 (fun n g => ip cc (g)) t1
    · replace h := h.2 cc
      have t2 : aX xc_233 (aSeek xc_233 5) [aI a0, aI a1, aI a2, aI a3, aU, aU] [] (SH L) M o := by
        exact aX_seg 2 (fun n g => g) (aX_le (ls := [aU, aI a1, aU, aI a3, aU, aU]) (ls1 := [aI a0, aI a1, aI a2, aI a3, aU, aU]) (⟨Or.inl rfl, ⟨Or.inr rfl, ⟨Or.inl rfl, ⟨Or.inr rfl, ⟨Or.inl rfl, ⟨Or.inl rfl, trivial⟩⟩⟩⟩⟩⟩) h)
      exact aX_seg 3 (fun n g => in_ cc (g)) t2
  exact q
set_option maxRecDepth 100000 in
theorem bl_233_10 {L : Nat} {a1 a3 b0 : Int} {M : aM} {o : aO} (h : ((a3 ≤ a1 → aX xc_233 (aSeek xc_233 22) [aU, aU, aU, aU, aI b0, aU] [aI a3] (SH L) M o) ∧ (¬ (a3 ≤ a1) → aX xc_233 (aSeek xc_233 22) [aU, aU, aU, aU, aI b0, aU] [aI a1] (SH L) M o))) : aX xc_233 (aSeek xc_233 10) [aU, aI a1, aU, aI a3, aU, aU] [aI b0] (SH L) M o := by
  by_cases cc : a3 ≤ a1
  · replace h := h.1 cc
    have t1 : aX xc_233 (aSeek xc_233 21) [aU, aI a1, aU, aI a3, aI b0, aU] [] (SH L) M o := by
      exact aX_seg 1 (fun n g => g) (aX_le (ls := [aU, aU, aU, aU, aI b0, aU]) (ls1 := [aU, aI a1, aU, aI a3, aI b0, aU]) (⟨Or.inl rfl, ⟨Or.inl rfl, ⟨Or.inl rfl, ⟨Or.inl rfl, ⟨Or.inr rfl, ⟨Or.inl rfl, trivial⟩⟩⟩⟩⟩⟩) h)
    exact aX_seg 4 (fun n g => ip cc (g)) t1
  · replace h := h.2 cc
    have t2 : aX xc_233 (aSeek xc_233 17) [aU, aI a1, aU, aI a3, aI b0, aU] [] (SH L) M o := by
      exact aX_seg 2 (fun n g => g) (aX_le (ls := [aU, aU, aU, aU, aI b0, aU]) (ls1 := [aU, aI a1, aU, aI a3, aI b0, aU]) (⟨Or.inl rfl, ⟨Or.inl rfl, ⟨Or.inl rfl, ⟨Or.inl rfl, ⟨Or.inr rfl, ⟨Or.inl rfl, trivial⟩⟩⟩⟩⟩⟩) h)
    exact aX_seg 4 (fun n g => in_ cc (g)) t2
set_option maxRecDepth 100000 in
theorem bl_233_22 {L : Nat} {a4 b0 : Int} {M : aM} {o : aO} (h : ((b0 ≤ a4 → o = ([aI 0], (SH L), M)) ∧ (¬ (b0 ≤ a4) → o = ([aI (aW (b0 - a4))], (SH L), M)))) : aX xc_233 (aSeek xc_233 22) [aU, aU, aU, aU, aI a4, aU] [aI b0] (SH L) M o := by
  by_cases cc : b0 ≤ a4
  · replace h := h.1 cc
    have t1 : aX xc_233 (aSeek xc_233 39) [aU, aU, aU, aU, aI a4, aI b0] [] (SH L) M o := by
      subst h
      exact ⟨2, rfl⟩
    exact aX_seg 4 (fun n g => ip cc (g)) t1
  · replace h := h.2 cc
    have t2 : aX xc_233 (aSeek xc_233 31) [aU, aU, aU, aU, aI a4, aI b0] [] (SH L) M o := by
      subst h
      exact ⟨5, rfl⟩
    exact aX_seg 4 (fun n g => in_ cc (g)) t2
/- TypeLockModel.pointsAt(III)I -/
set_option maxRecDepth 100000 in
theorem en_234 {L : Nat} {a1 a2 a3 : Int} {M : aM} {o : aO} (h : (0 ≤ a1 ∧ a1 < aLn (SH L) 1 182) ∧ (0 ≤ a1 ∧ a1 < aLn (SH L) 1 183) ∧ (∃ (M1 : aM) (v2 : Int), aE 223 [aR 145, aI a1] (SH L) M ([aI v2], (SH L), M1) ∧ (∃ (M3 : aM) (v4 : Int), aE 224 [aR 145, aI a1] (SH L) M1 ([aI v4], (SH L), M3) ∧ ((¬ a2 = 0 → ((¬ a2 = 2 → ((¬ a2 = 1 → (0 ≤ a3 ∧ a3 < aLn (SH L) 1 182) ∧ (∃ (M5 : aM) (v6 : Int), aE 223 [aR 145, aI a3] (SH L) M3 ([aI v6], (SH L), M5) ∧ ((¬ (aW ((M3 182 a3) + v6)) = (M 182 a1) → o = ([aI 0], (SH L), M5)) ∧ (¬ (¬ (aW ((M3 182 a3) + v6)) = (M 182 a1)) → (0 ≤ a3 ∧ a3 < aLn (SH L) 1 183) ∧ (0 ≤ a3 ∧ a3 < aLn (SH L) 1 183) ∧ (∃ (M7 : aM) (v8 : Int), aE 224 [aR 145, aI a3] (SH L) M5 ([aI v8], (SH L), M7) ∧ (∃ (M9 : aM) (v10 : Int), aE 233 [aI (M 183 a1), aI (aW ((M 183 a1) + v4)), aI (M5 183 a3), aI (aW ((M5 183 a3) + v8))] (SH L) M7 ([aI v10], (SH L), M9) ∧ o = ([aI v10], (SH L), M9))))))) ∧ (¬ (¬ a2 = 1) → (0 ≤ a3 ∧ a3 < aLn (SH L) 1 182) ∧ ((¬ (M3 182 a3) = (aW ((M 182 a1) + v2)) → o = ([aI 0], (SH L), M3)) ∧ (¬ (¬ (M3 182 a3) = (aW ((M 182 a1) + v2))) → (0 ≤ a3 ∧ a3 < aLn (SH L) 1 183) ∧ (0 ≤ a3 ∧ a3 < aLn (SH L) 1 183) ∧ (∃ (M11 : aM) (v12 : Int), aE 224 [aR 145, aI a3] (SH L) M3 ([aI v12], (SH L), M11) ∧ (∃ (M13 : aM) (v14 : Int), aE 233 [aI (M 183 a1), aI (aW ((M 183 a1) + v4)), aI (M3 183 a3), aI (aW ((M3 183 a3) + v12))] (SH L) M11 ([aI v14], (SH L), M13) ∧ o = ([aI v14], (SH L), M13)))))))) ∧ (¬ (¬ a2 = 2) → (0 ≤ a3 ∧ a3 < aLn (SH L) 1 183) ∧ ((¬ (M3 183 a3) = (aW ((M 183 a1) + v4)) → o = ([aI 0], (SH L), M3)) ∧ (¬ (¬ (M3 183 a3) = (aW ((M 183 a1) + v4))) → (0 ≤ a3 ∧ a3 < aLn (SH L) 1 182) ∧ (0 ≤ a3 ∧ a3 < aLn (SH L) 1 182) ∧ (∃ (M15 : aM) (v16 : Int), aE 223 [aR 145, aI a3] (SH L) M3 ([aI v16], (SH L), M15) ∧ (∃ (M17 : aM) (v18 : Int), aE 233 [aI (M 182 a1), aI (aW ((M 182 a1) + v2)), aI (M3 182 a3), aI (aW ((M3 182 a3) + v16))] (SH L) M15 ([aI v18], (SH L), M17) ∧ o = ([aI v18], (SH L), M17)))))))) ∧ (¬ (¬ a2 = 0) → (0 ≤ a3 ∧ a3 < aLn (SH L) 1 183) ∧ (∃ (M19 : aM) (v20 : Int), aE 224 [aR 145, aI a3] (SH L) M3 ([aI v20], (SH L), M19) ∧ ((¬ (aW ((M3 183 a3) + v20)) = (M 183 a1) → o = ([aI 0], (SH L), M19)) ∧ (¬ (¬ (aW ((M3 183 a3) + v20)) = (M 183 a1)) → (0 ≤ a3 ∧ a3 < aLn (SH L) 1 182) ∧ (0 ≤ a3 ∧ a3 < aLn (SH L) 1 182) ∧ (∃ (M21 : aM) (v22 : Int), aE 223 [aR 145, aI a3] (SH L) M19 ([aI v22], (SH L), M21) ∧ (∃ (M23 : aM) (v24 : Int), aE 233 [aI (M 182 a1), aI (aW ((M 182 a1) + v2)), aI (M19 182 a3), aI (aW ((M19 182 a3) + v22))] (SH L) M21 ([aI v24], (SH L), M23) ∧ o = ([aI v24], (SH L), M23))))))))))) : aE 234 [aR 145, aI a1, aI a2, aI a3] (SH L) M o := by
  have q : aX xc_234 (aSeek xc_234 0) [aR 145, aI a1, aI a2, aI a3, aU, aU, aU, aU] [] (SH L) M o := by
    obtain ⟨c25, h⟩ := h
    obtain ⟨c26, h⟩ := h
    obtain ⟨M1, v2, k27, h⟩ := h
    have h2 : aX xc_234 (aSeek xc_234 21) [aR 145, aI a1, aI a2, aI a3, aI (M 182 a1), aI (M 183 a1), aU, aU] [aI v2] (SH L) M1 o := by
      obtain ⟨M3, v4, k28, h⟩ := h
      have h2 : aX xc_234 (aSeek xc_234 28) [aR 145, aI a1, aI a2, aI a3, aI (M 182 a1), aI (M 183 a1), aI v2, aU] [aI v4] (SH L) M3 o := by
        by_cases cc : ¬ a2 = 0
        · replace h := h.1 cc
          have t29 : aX xc_234 (aSeek xc_234 84) [aR 145, aI a1, aI a2, aI a3, aI (M 182 a1), aI (M 183 a1), aI v2, aI v4] [] (SH L) M3 o := by
            by_cases cc : ¬ a2 = 2
            · replace h := h.1 cc
              have t30 : aX xc_234 (aSeek xc_234 136) [aR 145, aI a1, aI a2, aI a3, aI (M 182 a1), aI (M 183 a1), aI v2, aI v4] [] (SH L) M3 o := by
                by_cases cc : ¬ a2 = 1
                · replace h := h.1 cc
                  have t31 : aX xc_234 (aSeek xc_234 188) [aR 145, aI a1, aI a2, aI a3, aI (M 182 a1), aI (M 183 a1), aI v2, aI v4] [] (SH L) M3 o := by
                    obtain ⟨c32, h⟩ := h
                    obtain ⟨M5, v6, k33, h⟩ := h
                    have h2 : aX xc_234 (aSeek xc_234 199) [aR 145, aI a1, aI a2, aI a3, aI (M 182 a1), aI (M 183 a1), aI v2, aI v4] [aI v6, aI (M3 182 a3)] (SH L) M5 o := by
                      by_cases cc : ¬ (aW ((M3 182 a3) + v6)) = (M 182 a1)
                      · replace h := h.1 cc
                        have t34 : aX xc_234 (aSeek xc_234 236) [aR 145, aI a1, aI a2, aI a3, aI (M 182 a1), aI (M 183 a1), aI v2, aI v4] [] (SH L) M5 o := by
                          subst h
                          exact ⟨2, rfl⟩
                        exact aX_seg 3 (fun n g => ip cc (g)) t34
                      · replace h := h.2 cc
                        have t35 : aX xc_234 (aSeek xc_234 205) [aR 145, aI a1, aI a2, aI a3, aI (M 182 a1), aI (M 183 a1), aI v2, aI v4] [] (SH L) M5 o := by
                          obtain ⟨c36, h⟩ := h
                          obtain ⟨c37, h⟩ := h
                          obtain ⟨M7, v8, k38, h⟩ := h
                          have h2 : aX xc_234 (aSeek xc_234 229) [aR 145, aI a1, aI a2, aI a3, aI (M 182 a1), aI (M 183 a1), aI v2, aI v4] [aI v8, aI (M5 183 a3), aI (M5 183 a3), aI (aW ((M 183 a1) + v4)), aI (M 183 a1)] (SH L) M7 o := by
                            obtain ⟨M9, v10, k39, h⟩ := h
                            have h2 : aX xc_234 (aSeek xc_234 233) [aR 145, aI a1, aI a2, aI a3, aI (M 182 a1), aI (M 183 a1), aI v2, aI v4] [aI v10] (SH L) M9 o := by
                              subst h
                              exact ⟨2, rfl⟩
                            exact aX_seg 1 (fun n g => g) (aX_calls rfl rfl rfl k39 h2)
                          exact aX_seg 14 (fun n g => ip c36 (ip c37 (g))) (aX_callv (rfl) rfl rfl rfl k38 h2)
                        exact aX_seg 3 (fun n g => in_ cc (g)) t35
                    exact aX_seg 6 (fun n g => ip c32 (g)) (aX_callv (rfl) rfl rfl rfl k33 h2)
                  exact aX_seg 3 (fun n g => ip cc (g)) t31
                · replace h := h.2 cc
                  have t40 : aX xc_234 (aSeek xc_234 141) [aR 145, aI a1, aI a2, aI a3, aI (M 182 a1), aI (M 183 a1), aI v2, aI v4] [] (SH L) M3 o := by
                    obtain ⟨c41, h⟩ := h
                    by_cases cc : ¬ (M3 182 a3) = (aW ((M 182 a1) + v2))
                    · replace h := h.1 cc
                      have t42 : aX xc_234 (aSeek xc_234 186) [aR 145, aI a1, aI a2, aI a3, aI (M 182 a1), aI (M 183 a1), aI v2, aI v4] [] (SH L) M3 o := by
                        subst h
                        exact ⟨2, rfl⟩
                      exact aX_seg 8 (fun n g => ip c41 (ip cc (g))) t42
                    · replace h := h.2 cc
                      have t43 : aX xc_234 (aSeek xc_234 155) [aR 145, aI a1, aI a2, aI a3, aI (M 182 a1), aI (M 183 a1), aI v2, aI v4] [] (SH L) M3 o := by
                        obtain ⟨c44, h⟩ := h
                        obtain ⟨c45, h⟩ := h
                        obtain ⟨M11, v12, k46, h⟩ := h
                        have h2 : aX xc_234 (aSeek xc_234 179) [aR 145, aI a1, aI a2, aI a3, aI (M 182 a1), aI (M 183 a1), aI v2, aI v4] [aI v12, aI (M3 183 a3), aI (M3 183 a3), aI (aW ((M 183 a1) + v4)), aI (M 183 a1)] (SH L) M11 o := by
                          obtain ⟨M13, v14, k47, h⟩ := h
                          have h2 : aX xc_234 (aSeek xc_234 183) [aR 145, aI a1, aI a2, aI a3, aI (M 182 a1), aI (M 183 a1), aI v2, aI v4] [aI v14] (SH L) M13 o := by
                            subst h
                            exact ⟨2, rfl⟩
                          exact aX_seg 1 (fun n g => g) (aX_calls rfl rfl rfl k47 h2)
                        exact aX_seg 14 (fun n g => ip c44 (ip c45 (g))) (aX_callv (rfl) rfl rfl rfl k46 h2)
                      exact aX_seg 8 (fun n g => ip c41 (in_ cc (g))) t43
                  exact aX_seg 3 (fun n g => in_ cc (g)) t40
              exact aX_seg 3 (fun n g => ip cc (g)) t30
            · replace h := h.2 cc
              have t48 : aX xc_234 (aSeek xc_234 89) [aR 145, aI a1, aI a2, aI a3, aI (M 182 a1), aI (M 183 a1), aI v2, aI v4] [] (SH L) M3 o := by
                obtain ⟨c49, h⟩ := h
                by_cases cc : ¬ (M3 183 a3) = (aW ((M 183 a1) + v4))
                · replace h := h.1 cc
                  have t50 : aX xc_234 (aSeek xc_234 134) [aR 145, aI a1, aI a2, aI a3, aI (M 182 a1), aI (M 183 a1), aI v2, aI v4] [] (SH L) M3 o := by
                    subst h
                    exact ⟨2, rfl⟩
                  exact aX_seg 8 (fun n g => ip c49 (ip cc (g))) t50
                · replace h := h.2 cc
                  have t51 : aX xc_234 (aSeek xc_234 103) [aR 145, aI a1, aI a2, aI a3, aI (M 182 a1), aI (M 183 a1), aI v2, aI v4] [] (SH L) M3 o := by
                    obtain ⟨c52, h⟩ := h
                    obtain ⟨c53, h⟩ := h
                    obtain ⟨M15, v16, k54, h⟩ := h
                    have h2 : aX xc_234 (aSeek xc_234 127) [aR 145, aI a1, aI a2, aI a3, aI (M 182 a1), aI (M 183 a1), aI v2, aI v4] [aI v16, aI (M3 182 a3), aI (M3 182 a3), aI (aW ((M 182 a1) + v2)), aI (M 182 a1)] (SH L) M15 o := by
                      obtain ⟨M17, v18, k55, h⟩ := h
                      have h2 : aX xc_234 (aSeek xc_234 131) [aR 145, aI a1, aI a2, aI a3, aI (M 182 a1), aI (M 183 a1), aI v2, aI v4] [aI v18] (SH L) M17 o := by
                        subst h
                        exact ⟨2, rfl⟩
                      exact aX_seg 1 (fun n g => g) (aX_calls rfl rfl rfl k55 h2)
                    exact aX_seg 14 (fun n g => ip c52 (ip c53 (g))) (aX_callv (rfl) rfl rfl rfl k54 h2)
                  exact aX_seg 8 (fun n g => ip c49 (in_ cc (g))) t51
              exact aX_seg 3 (fun n g => in_ cc (g)) t48
          exact aX_seg 3 (fun n g => ip cc (g)) t29
        · replace h := h.2 cc
          have t56 : aX xc_234 (aSeek xc_234 34) [aR 145, aI a1, aI a2, aI a3, aI (M 182 a1), aI (M 183 a1), aI v2, aI v4] [] (SH L) M3 o := by
            obtain ⟨c57, h⟩ := h
            obtain ⟨M19, v20, k58, h⟩ := h
            have h2 : aX xc_234 (aSeek xc_234 45) [aR 145, aI a1, aI a2, aI a3, aI (M 182 a1), aI (M 183 a1), aI v2, aI v4] [aI v20, aI (M3 183 a3)] (SH L) M19 o := by
              by_cases cc : ¬ (aW ((M3 183 a3) + v20)) = (M 183 a1)
              · replace h := h.1 cc
                have t59 : aX xc_234 (aSeek xc_234 82) [aR 145, aI a1, aI a2, aI a3, aI (M 182 a1), aI (M 183 a1), aI v2, aI v4] [] (SH L) M19 o := by
                  subst h
                  exact ⟨2, rfl⟩
                exact aX_seg 3 (fun n g => ip cc (g)) t59
              · replace h := h.2 cc
                have t60 : aX xc_234 (aSeek xc_234 51) [aR 145, aI a1, aI a2, aI a3, aI (M 182 a1), aI (M 183 a1), aI v2, aI v4] [] (SH L) M19 o := by
                  obtain ⟨c61, h⟩ := h
                  obtain ⟨c62, h⟩ := h
                  obtain ⟨M21, v22, k63, h⟩ := h
                  have h2 : aX xc_234 (aSeek xc_234 75) [aR 145, aI a1, aI a2, aI a3, aI (M 182 a1), aI (M 183 a1), aI v2, aI v4] [aI v22, aI (M19 182 a3), aI (M19 182 a3), aI (aW ((M 182 a1) + v2)), aI (M 182 a1)] (SH L) M21 o := by
                    obtain ⟨M23, v24, k64, h⟩ := h
                    have h2 : aX xc_234 (aSeek xc_234 79) [aR 145, aI a1, aI a2, aI a3, aI (M 182 a1), aI (M 183 a1), aI v2, aI v4] [aI v24] (SH L) M23 o := by
                      subst h
                      exact ⟨2, rfl⟩
                    exact aX_seg 1 (fun n g => g) (aX_calls rfl rfl rfl k64 h2)
                  exact aX_seg 14 (fun n g => ip c61 (ip c62 (g))) (aX_callv (rfl) rfl rfl rfl k63 h2)
                exact aX_seg 3 (fun n g => in_ cc (g)) t60
            exact aX_seg 6 (fun n g => ip c57 (g)) (aX_callv (rfl) rfl rfl rfl k58 h2)
          exact aX_seg 3 (fun n g => in_ cc (g)) t56
      exact aX_seg 3 (fun n g => g) (aX_callv (rfl) rfl rfl rfl k28 h2)
    exact aX_seg 12 (fun n g => ip c25 (ip c26 (g))) (aX_callv (rfl) rfl rfl rfl k27 h2)
  exact q
/- TypeLockModel.touchAt(III)I -/
set_option maxRecDepth 100000 in
theorem en_235 {L : Nat} {a1 a2 a3 : Int} {M : aM} {o : aO} (h : (∃ (M1 : aM) (v2 : Int), aE 234 [aR 145, aI a1, aI a2, aI a3] (SH L) M ([aI v2], (SH L), M1) ∧ (∃ (M3 : aM) (v4 : Int), aE 225 [aR 145, aI a1] (SH L) M1 ([aI v4], (SH L), M3) ∧ ((¬ v4 = 0 → o = ([aI (aDiv v2 2)], (SH L), M3)) ∧ (¬ (¬ v4 = 0) → (∃ (M5 : aM) (v6 : Int), aE 225 [aR 145, aI a3] (SH L) M3 ([aI v6], (SH L), M5) ∧ ((v6 = 0 → o = ([aI v2], (SH L), M5)) ∧ (¬ (v6 = 0) → o = ([aI (aDiv v2 2)], (SH L), M5))))))))) : aE 235 [aR 145, aI a1, aI a2, aI a3] (SH L) M o := by
  have q : aX xc_235 (aSeek xc_235 0) [aR 145, aI a1, aI a2, aI a3, aU] [] (SH L) M o := by
    obtain ⟨M1, v2, k7, h⟩ := h
    have h2 : aX xc_235 (aSeek xc_235 7) [aR 145, aI a1, aI a2, aI a3, aU] [aI v2] (SH L) M1 o := by
      obtain ⟨M3, v4, k8, h⟩ := h
      have h2 : aX xc_235 (aSeek xc_235 14) [aR 145, aI a1, aI a2, aI a3, aI v2] [aI v4] (SH L) M3 o := by
        by_cases cc : ¬ v4 = 0
        · replace h := h.1 cc
          have t9 : aX xc_235 (aSeek xc_235 25) [aR 145, aI a1, aI a2, aI a3, aI v2] [] (SH L) M3 o := by
            subst h
            exact ⟨5, rfl⟩
          exact aX_seg 1 (fun n g => ip cc (g)) t9
        · replace h := h.2 cc
          have t10 : aX xc_235 (aSeek xc_235 17) [aR 145, aI a1, aI a2, aI a3, aI v2] [] (SH L) M3 o := by
            obtain ⟨M5, v6, k11, h⟩ := h
            have h2 : aX xc_235 (aSeek xc_235 22) [aR 145, aI a1, aI a2, aI a3, aI v2] [aI v6] (SH L) M5 o := by
              by_cases cc : v6 = 0
              · replace h := h.1 cc
                have t12 : aX xc_235 (aSeek xc_235 32) [aR 145, aI a1, aI a2, aI a3, aI v2] [] (SH L) M5 o := by
                  subst h
                  exact ⟨2, rfl⟩
                exact aX_seg 1 (fun n g => ip cc (g)) t12
              · replace h := h.2 cc
                have t13 : aX xc_235 (aSeek xc_235 25) [aR 145, aI a1, aI a2, aI a3, aI v2] [] (SH L) M5 o := by
                  subst h
                  exact ⟨5, rfl⟩
                exact aX_seg 1 (fun n g => in_ cc (g)) t13
            exact aX_seg 2 (fun n g => g) (aX_callv (rfl) rfl rfl rfl k11 h2)
          exact aX_seg 1 (fun n g => in_ cc (g)) t10
      exact aX_seg 3 (fun n g => g) (aX_callv (rfl) rfl rfl rfl k8 h2)
    exact aX_seg 4 (fun n g => g) (aX_callv (rfl) rfl rfl rfl k7 h2)
  exact q
/- TypeLockModel.touchOf(II)I -/
set_option maxRecDepth 100000 in
theorem en_236 {L : Nat} {a1 a2 : Int} {M : aM} {o : aO} (h : aX xc_236 (aSeek xc_236 5) [aR 145, aI a1, aI a2, aI 0, aI 0] [] (SH L) M o) : aE 236 [aR 145, aI a1, aI a2] (SH L) M o := by
  have q : aX xc_236 (aSeek xc_236 0) [aR 145, aI a1, aI a2, aU, aU] [] (SH L) M o := by
    exact aX_seg 4 (fun n g => g) (h)
  exact q
set_option maxRecDepth 100000 in
theorem bl_236_5 {L : Nat} {a1 a2 a3 a4 : Int} {M : aM} {o : aO} (h : ((4 ≤ a4 → o = ([aI a3], (SH L), M)) ∧ (¬ (4 ≤ a4) → (∃ (M1 : aM) (v2 : Int), aE 235 [aR 145, aI a1, aI a4, aI a2] (SH L) M ([aI v2], (SH L), M1) ∧ aX xc_236 (aSeek xc_236 5) [aR 145, aI a1, aI a2, aI (aW (a3 + v2)), aI (aW (a4 + 1))] [] (SH L) M1 o)))) : aX xc_236 (aSeek xc_236 5) [aR 145, aI a1, aI a2, aI a3, aI a4] [] (SH L) M o := by
  by_cases cc : 4 ≤ a4
  · replace h := h.1 cc
    have t3 : aX xc_236 (aSeek xc_236 28) [aR 145, aI a1, aI a2, aI a3, aI a4] [] (SH L) M o := by
      subst h
      exact ⟨2, rfl⟩
    exact aX_seg 3 (fun n g => ip cc (g)) t3
  · replace h := h.2 cc
    have t4 : aX xc_236 (aSeek xc_236 11) [aR 145, aI a1, aI a2, aI a3, aI a4] [] (SH L) M o := by
      obtain ⟨M1, v2, k5, h⟩ := h
      have h2 : aX xc_236 (aSeek xc_236 20) [aR 145, aI a1, aI a2, aI a3, aI a4] [aI v2, aI a3] (SH L) M1 o := by
        exact aX_seg 4 (fun n g => g) (h)
      exact aX_seg 5 (fun n g => g) (aX_callv (rfl) rfl rfl rfl k5 h2)
    exact aX_seg 3 (fun n g => in_ cc (g)) t4
/- TypeLockModel.touch(II)I -/
set_option maxRecDepth 100000 in
theorem en_237 {L : Nat} {a1 a2 : Int} {M : aM} {o : aO} (h : (∃ (M1 : aM) (v2 : Int), aE 221 [aR 145, aI a1] (SH L) M ([aI v2], (SH L), M1) ∧ ((v2 = 0 → o = ([aI ((-1))], (SH L), M1)) ∧ (¬ (v2 = 0) → (∃ (M3 : aM) (v4 : Int), aE 221 [aR 145, aI a2] (SH L) M1 ([aI v4], (SH L), M3) ∧ ((v4 = 0 → o = ([aI ((-1))], (SH L), M3)) ∧ (¬ (v4 = 0) → ((a1 = a2 → o = ([aI ((-1))], (SH L), M3)) ∧ (¬ (a1 = a2) → (∃ (M5 : aM) (v6 : Int), aE 236 [aR 145, aI a1, aI a2] (SH L) M3 ([aI v6], (SH L), M5) ∧ o = ([aI v6], (SH L), M5))))))))))) : aE 237 [aR 145, aI a1, aI a2] (SH L) M o := by
  have q : aX xc_237 (aSeek xc_237 0) [aR 145, aI a1, aI a2] [] (SH L) M o := by
    obtain ⟨M1, v2, k7, h⟩ := h
    have h2 : aX xc_237 (aSeek xc_237 5) [aR 145, aI a1, aI a2] [aI v2] (SH L) M1 o := by
      by_cases cc : v2 = 0
      · replace h := h.1 cc
        have t8 : aX xc_237 (aSeek xc_237 30) [aR 145, aI a1, aI a2] [] (SH L) M1 o := by
          subst h
          exact ⟨2, rfl⟩
        exact aX_seg 1 (fun n g => ip cc (g)) t8
      · replace h := h.2 cc
        have t9 : aX xc_237 (aSeek xc_237 8) [aR 145, aI a1, aI a2] [] (SH L) M1 o := by
          obtain ⟨M3, v4, k10, h⟩ := h
          have h2 : aX xc_237 (aSeek xc_237 13) [aR 145, aI a1, aI a2] [aI v4] (SH L) M3 o := by
            by_cases cc : v4 = 0
            · replace h := h.1 cc
              have t11 : aX xc_237 (aSeek xc_237 30) [aR 145, aI a1, aI a2] [] (SH L) M3 o := by
                subst h
                exact ⟨2, rfl⟩
              exact aX_seg 1 (fun n g => ip cc (g)) t11
            · replace h := h.2 cc
              have t12 : aX xc_237 (aSeek xc_237 16) [aR 145, aI a1, aI a2] [] (SH L) M3 o := by
                by_cases cc : a1 = a2
                · replace h := h.1 cc
                  have t13 : aX xc_237 (aSeek xc_237 30) [aR 145, aI a1, aI a2] [] (SH L) M3 o := by
                    subst h
                    exact ⟨2, rfl⟩
                  exact aX_seg 3 (fun n g => ip cc (g)) t13
                · replace h := h.2 cc
                  have t14 : aX xc_237 (aSeek xc_237 21) [aR 145, aI a1, aI a2] [] (SH L) M3 o := by
                    obtain ⟨M5, v6, k15, h⟩ := h
                    have h2 : aX xc_237 (aSeek xc_237 27) [aR 145, aI a1, aI a2] [aI v6] (SH L) M5 o := by
                      subst h
                      exact ⟨2, rfl⟩
                    exact aX_seg 3 (fun n g => g) (aX_callv (rfl) rfl rfl rfl k15 h2)
                  exact aX_seg 3 (fun n g => in_ cc (g)) t14
              exact aX_seg 1 (fun n g => in_ cc (g)) t12
          exact aX_seg 2 (fun n g => g) (aX_callv (rfl) rfl rfl rfl k10 h2)
        exact aX_seg 1 (fun n g => in_ cc (g)) t9
    exact aX_seg 2 (fun n g => g) (aX_callv (rfl) rfl rfl rfl k7 h2)
  exact q
/- TypeLockModel.tight(IZ)Z -/
set_option maxRecDepth 100000 in
theorem en_238 {L : Nat} {a1 a2 : Int} {M : aM} {o : aO} (h : ((a1 < 0 → o = ([aI 0], (SH L), M)) ∧ (¬ (a1 < 0) → ((a1 < (M 159 0) → ((a2 = 0 → o = ([aI 1], (SH L), aSet M 180 0 (aAnd (M 180 0) (aXor (aShl 1 a1) ((-1)))))) ∧ (¬ (a2 = 0) → o = ([aI 1], (SH L), aSet M 180 0 (aOr (M 180 0) (aShl 1 a1)))))) ∧ (¬ (a1 < (M 159 0)) → o = ([aI 0], (SH L), M)))))) : aE 238 [aR 145, aI a1, aI a2] (SH L) M o := by
  have q : aX xc_238 (aSeek xc_238 0) [aR 145, aI a1, aI a2] [] (SH L) M o := by
    by_cases cc : a1 < 0
    · replace h := h.1 cc
      have t1 : aX xc_238 (aSeek xc_238 14) [aR 145, aI a1, aI a2] [] (SH L) M o := by
        subst h
        exact ⟨2, rfl⟩
      exact aX_seg 2 (fun n g => ip cc (g)) t1
    · replace h := h.2 cc
      have t2 : aX xc_238 (aSeek xc_238 4) [aR 145, aI a1, aI a2] [] (SH L) M o := by
        by_cases cc : a1 < (M 159 0)
        · replace h := h.1 cc
          have t3 : aX xc_238 (aSeek xc_238 16) [aR 145, aI a1, aI a2] [] (SH L) M o := by
            by_cases cc : a2 = 0
            · replace h := h.1 cc
              have t4 : aX xc_238 (aSeek xc_238 38) [aR 145, aI a1, aI a2] [aI 0, aR 180] (SH L) M o := by
                subst h
                exact ⟨13, rfl⟩
              exact aX_seg 5 (fun n g => ip cc (g)) t4
            · replace h := h.2 cc
              have t5 : aX xc_238 (aSeek xc_238 25) [aR 145, aI a1, aI a2] [aI 0, aR 180] (SH L) M o := by
                subst h
                exact ⟨12, rfl⟩
              exact aX_seg 5 (fun n g => in_ cc (g)) t5
          exact aX_seg 6 (fun n g => ip cc (g)) t3
        · replace h := h.2 cc
          have t6 : aX xc_238 (aSeek xc_238 14) [aR 145, aI a1, aI a2] [] (SH L) M o := by
            subst h
            exact ⟨2, rfl⟩
          exact aX_seg 6 (fun n g => in_ cc (g)) t6
      exact aX_seg 2 (fun n g => in_ cc (g)) t2
  exact q
/- TypeLockModel.sideOf(II)I -/
set_option maxRecDepth 100000 in
theorem en_239 {L : Nat} {a1 a2 : Int} {M : aM} {o : aO} (h : ((a2 = 0 → aX xc_239 (aSeek xc_239 9) [aR 145, aI a1, aU] [] (SH L) M o) ∧ (¬ (a2 = 0) → ((¬ a2 = 2 → (∃ (M1 : aM) (v2 : Int), aE 224 [aR 145, aI a1] (SH L) M ([aI v2], (SH L), M1) ∧ o = ([aI v2], (SH L), M1))) ∧ (¬ (¬ a2 = 2) → aX xc_239 (aSeek xc_239 9) [aR 145, aI a1, aU] [] (SH L) M o))))) : aE 239 [aR 145, aI a1, aI a2] (SH L) M o := by
  have q : aX xc_239 (aSeek xc_239 0) [aR 145, aI a1, aI a2] [] (SH L) M o := by
    by_cases cc : a2 = 0
    · replace h := h.1 cc
      have t3 : aX xc_239 (aSeek xc_239 9) [aR 145, aI a1, aI a2] [] (SH L) M o := by
        exact aX_le (ls := [aR 145, aI a1, aU]) (ls1 := [aR 145, aI a1, aI a2]) (⟨Or.inr rfl, ⟨Or.inr rfl, ⟨Or.inl rfl, trivial⟩⟩⟩) h
      exact aX_seg 2 (fun n g => ip cc (g)) t3
    · replace h := h.2 cc
      have t4 : aX xc_239 (aSeek xc_239 4) [aR 145, aI a1, aI a2] [] (SH L) M o := by
        by_cases cc : ¬ a2 = 2
        · replace h := h.1 cc
          have t5 : aX xc_239 (aSeek xc_239 17) [aR 145, aI a1, aI a2] [] (SH L) M o := by
            obtain ⟨M1, v2, k6, h⟩ := h
            have h2 : aX xc_239 (aSeek xc_239 22) [aR 145, aI a1, aI a2] [aI v2] (SH L) M1 o := by
              subst h
              exact ⟨1, rfl⟩
            exact aX_seg 2 (fun n g => g) (aX_callv (rfl) rfl rfl rfl k6 h2)
          exact aX_seg 3 (fun n g => ip cc (g)) t5
        · replace h := h.2 cc
          have t7 : aX xc_239 (aSeek xc_239 9) [aR 145, aI a1, aI a2] [] (SH L) M o := by
            exact aX_le (ls := [aR 145, aI a1, aU]) (ls1 := [aR 145, aI a1, aI a2]) (⟨Or.inr rfl, ⟨Or.inr rfl, ⟨Or.inl rfl, trivial⟩⟩⟩) h
          exact aX_seg 3 (fun n g => in_ cc (g)) t7
      exact aX_seg 2 (fun n g => in_ cc (g)) t4
  exact q
set_option maxRecDepth 100000 in
theorem bl_239_9 {L : Nat} {a1 : Int} {M : aM} {o : aO} (h : (∃ (M1 : aM) (v2 : Int), aE 223 [aR 145, aI a1] (SH L) M ([aI v2], (SH L), M1) ∧ o = ([aI v2], (SH L), M1))) : aX xc_239 (aSeek xc_239 9) [aR 145, aI a1, aU] [] (SH L) M o := by
  obtain ⟨M1, v2, k3, h⟩ := h
  have h2 : aX xc_239 (aSeek xc_239 14) [aR 145, aI a1, aU] [aI v2] (SH L) M1 o := by
    subst h
    exact ⟨2, rfl⟩
  exact aX_seg 2 (fun n g => g) (aX_callv (rfl) rfl rfl rfl k3 h2)
/- TypeLockModel.isAtFrame(II)Z -/
set_option maxRecDepth 100000 in
theorem en_240 {L : Nat} {a1 a2 : Int} {M : aM} {o : aO} (h : ((¬ a2 = 0 → ((¬ a2 = 3 → ((¬ a2 = 1 → (0 ≤ a1 ∧ a1 < aLn (SH L) 1 183) ∧ (∃ (M1 : aM) (v2 : Int), aE 224 [aR 145, aI a1] (SH L) M ([aI v2], (SH L), M1) ∧ ((¬ (aW ((M 183 a1) + v2)) = (M1 152 0) → o = ([aI 0], (SH L), M1)) ∧ (¬ (¬ (aW ((M 183 a1) + v2)) = (M1 152 0)) → o = ([aI 1], (SH L), M1))))) ∧ (¬ (¬ a2 = 1) → (0 ≤ a1 ∧ a1 < aLn (SH L) 1 182) ∧ (∃ (M3 : aM) (v4 : Int), aE 223 [aR 145, aI a1] (SH L) M ([aI v4], (SH L), M3) ∧ ((¬ (aW ((M 182 a1) + v4)) = (M3 151 0) → o = ([aI 0], (SH L), M3)) ∧ (¬ (¬ (aW ((M 182 a1) + v4)) = (M3 151 0)) → o = ([aI 1], (SH L), M3))))))) ∧ (¬ (¬ a2 = 3) → (0 ≤ a1 ∧ a1 < aLn (SH L) 1 182) ∧ ((¬ (M 182 a1) = 0 → o = ([aI 0], (SH L), M)) ∧ (¬ (¬ (M 182 a1) = 0) → o = ([aI 1], (SH L), M)))))) ∧ (¬ (¬ a2 = 0) → (0 ≤ a1 ∧ a1 < aLn (SH L) 1 183) ∧ ((¬ (M 183 a1) = 0 → o = ([aI 0], (SH L), M)) ∧ (¬ (¬ (M 183 a1) = 0) → o = ([aI 1], (SH L), M)))))) : aE 240 [aR 145, aI a1, aI a2] (SH L) M o := by
  have q : aX xc_240 (aSeek xc_240 0) [aR 145, aI a1, aI a2] [] (SH L) M o := by
    by_cases cc : ¬ a2 = 0
    · replace h := h.1 cc
      have t5 : aX xc_240 (aSeek xc_240 19) [aR 145, aI a1, aI a2] [] (SH L) M o := by
        by_cases cc : ¬ a2 = 3
        · replace h := h.1 cc
          have t6 : aX xc_240 (aSeek xc_240 39) [aR 145, aI a1, aI a2] [] (SH L) M o := by
            by_cases cc : ¬ a2 = 1
            · replace h := h.1 cc
              have t7 : aX xc_240 (aSeek xc_240 73) [aR 145, aI a1, aI a2] [] (SH L) M o := by
                obtain ⟨c8, h⟩ := h
                obtain ⟨M1, v2, k9, h⟩ := h
                have h2 : aX xc_240 (aSeek xc_240 84) [aR 145, aI a1, aI a2] [aI v2, aI (M 183 a1)] (SH L) M1 o := by
                  by_cases cc : ¬ (aW ((M 183 a1) + v2)) = (M1 152 0)
                  · replace h := h.1 cc
                    have t10 : aX xc_240 (aSeek xc_240 98) [aR 145, aI a1, aI a2] [] (SH L) M1 o := by
                      subst h
                      exact ⟨2, rfl⟩
                    exact aX_seg 6 (fun n g => ip cc (g)) t10
                  · replace h := h.2 cc
                    have t11 : aX xc_240 (aSeek xc_240 94) [aR 145, aI a1, aI a2] [] (SH L) M1 o := by
                      subst h
                      exact ⟨3, rfl⟩
                    exact aX_seg 6 (fun n g => in_ cc (g)) t11
                exact aX_seg 6 (fun n g => ip c8 (g)) (aX_callv (rfl) rfl rfl rfl k9 h2)
              exact aX_seg 3 (fun n g => ip cc (g)) t7
            · replace h := h.2 cc
              have t12 : aX xc_240 (aSeek xc_240 44) [aR 145, aI a1, aI a2] [] (SH L) M o := by
                obtain ⟨c13, h⟩ := h
                obtain ⟨M3, v4, k14, h⟩ := h
                have h2 : aX xc_240 (aSeek xc_240 55) [aR 145, aI a1, aI a2] [aI v4, aI (M 182 a1)] (SH L) M3 o := by
                  by_cases cc : ¬ (aW ((M 182 a1) + v4)) = (M3 151 0)
                  · replace h := h.1 cc
                    have t15 : aX xc_240 (aSeek xc_240 69) [aR 145, aI a1, aI a2] [] (SH L) M3 o := by
                      subst h
                      exact ⟨3, rfl⟩
                    exact aX_seg 6 (fun n g => ip cc (g)) t15
                  · replace h := h.2 cc
                    have t16 : aX xc_240 (aSeek xc_240 65) [aR 145, aI a1, aI a2] [] (SH L) M3 o := by
                      subst h
                      exact ⟨3, rfl⟩
                    exact aX_seg 6 (fun n g => in_ cc (g)) t16
                exact aX_seg 6 (fun n g => ip c13 (g)) (aX_callv (rfl) rfl rfl rfl k14 h2)
              exact aX_seg 3 (fun n g => in_ cc (g)) t12
          exact aX_seg 3 (fun n g => ip cc (g)) t6
        · replace h := h.2 cc
          have t17 : aX xc_240 (aSeek xc_240 24) [aR 145, aI a1, aI a2] [] (SH L) M o := by
            obtain ⟨c18, h⟩ := h
            by_cases cc : ¬ (M 182 a1) = 0
            · replace h := h.1 cc
              have t19 : aX xc_240 (aSeek xc_240 37) [aR 145, aI a1, aI a2] [] (SH L) M o := by
                subst h
                exact ⟨2, rfl⟩
              exact aX_seg 5 (fun n g => ip c18 (ip cc (g))) t19
            · replace h := h.2 cc
              have t20 : aX xc_240 (aSeek xc_240 33) [aR 145, aI a1, aI a2] [] (SH L) M o := by
                subst h
                exact ⟨3, rfl⟩
              exact aX_seg 5 (fun n g => ip c18 (in_ cc (g))) t20
          exact aX_seg 3 (fun n g => in_ cc (g)) t17
      exact aX_seg 2 (fun n g => ip cc (g)) t5
    · replace h := h.2 cc
      have t21 : aX xc_240 (aSeek xc_240 4) [aR 145, aI a1, aI a2] [] (SH L) M o := by
        obtain ⟨c22, h⟩ := h
        by_cases cc : ¬ (M 183 a1) = 0
        · replace h := h.1 cc
          have t23 : aX xc_240 (aSeek xc_240 17) [aR 145, aI a1, aI a2] [] (SH L) M o := by
            subst h
            exact ⟨2, rfl⟩
          exact aX_seg 5 (fun n g => ip c22 (ip cc (g))) t23
        · replace h := h.2 cc
          have t24 : aX xc_240 (aSeek xc_240 13) [aR 145, aI a1, aI a2] [] (SH L) M o := by
            subst h
            exact ⟨3, rfl⟩
          exact aX_seg 5 (fun n g => ip c22 (in_ cc (g))) t24
      exact aX_seg 2 (fun n g => in_ cc (g)) t21
  exact q
/- TypeLockModel.isWedged(II)Z -/
set_option maxRecDepth 100000 in
theorem en_241 {L : Nat} {a1 a2 : Int} {M : aM} {o : aO} (h : aX xc_241 (aSeek xc_241 2) [aR 145, aI a1, aI a2, aI 0] [] (SH L) M o) : aE 241 [aR 145, aI a1, aI a2] (SH L) M o := by
  have q : aX xc_241 (aSeek xc_241 0) [aR 145, aI a1, aI a2, aU] [] (SH L) M o := by
    exact aX_seg 2 (fun n g => g) (h)
  exact q
set_option maxRecDepth 100000 in
theorem bl_241_2 {L : Nat} {a1 a2 a3 : Int} {M : aM} {o : aO} (h : (((M 159 0) ≤ a3 → o = ([aI 0], (SH L), M)) ∧ (¬ ((M 159 0) ≤ a3) → ((¬ (aAnd (aShr (M 145 61) a3) 1) = 1 → aX xc_241 (aSeek xc_241 56) [aR 145, aI a1, aI a2, aI a3] [] (SH L) M o) ∧ (¬ (¬ (aAnd (aShr (M 145 61) a3) 1) = 1) → (0 ≤ a3 ∧ a3 < aLn (SH L) 1 160) ∧ ((¬ (M 160 a3) = a1 → aX xc_241 (aSeek xc_241 56) [aR 145, aI a1, aI a2, aI a3] [] (SH L) M o) ∧ (¬ (¬ (M 160 a3) = a1) → (0 ≤ a3 ∧ a3 < aLn (SH L) 1 161) ∧ ((a2 < (M 161 a3) → aX xc_241 (aSeek xc_241 56) [aR 145, aI a1, aI a2, aI a3] [] (SH L) M o) ∧ (¬ (a2 < (M 161 a3)) → (0 ≤ a3 ∧ a3 < aLn (SH L) 1 162) ∧ (((M 162 a3) ≤ a2 → aX xc_241 (aSeek xc_241 56) [aR 145, aI a1, aI a2, aI a3] [] (SH L) M o) ∧ (¬ ((M 162 a3) ≤ a2) → o = ([aI 1], (SH L), M)))))))))))) : aX xc_241 (aSeek xc_241 2) [aR 145, aI a1, aI a2, aI a3] [] (SH L) M o := by
  by_cases cc : (M 159 0) ≤ a3
  · replace h := h.1 cc
    have t1 : aX xc_241 (aSeek xc_241 62) [aR 145, aI a1, aI a2, aI a3] [] (SH L) M o := by
      subst h
      exact ⟨2, rfl⟩
    exact aX_seg 6 (fun n g => ip cc (g)) t1
  · replace h := h.2 cc
    have t2 : aX xc_241 (aSeek xc_241 12) [aR 145, aI a1, aI a2, aI a3] [] (SH L) M o := by
      by_cases cc : ¬ (aAnd (aShr (M 145 61) a3) 1) = 1
      · replace h := h.1 cc
        have t3 : aX xc_241 (aSeek xc_241 56) [aR 145, aI a1, aI a2, aI a3] [] (SH L) M o := by
          exact h
        exact aX_seg 8 (fun n g => ip cc (g)) t3
      · replace h := h.2 cc
        have t4 : aX xc_241 (aSeek xc_241 24) [aR 145, aI a1, aI a2, aI a3] [] (SH L) M o := by
          obtain ⟨c5, h⟩ := h
          by_cases cc : ¬ (M 160 a3) = a1
          · replace h := h.1 cc
            have t6 : aX xc_241 (aSeek xc_241 56) [aR 145, aI a1, aI a2, aI a3] [] (SH L) M o := by
              exact h
            exact aX_seg 6 (fun n g => ip c5 (ip cc (g))) t6
          · replace h := h.2 cc
            have t7 : aX xc_241 (aSeek xc_241 34) [aR 145, aI a1, aI a2, aI a3] [] (SH L) M o := by
              obtain ⟨c8, h⟩ := h
              by_cases cc : a2 < (M 161 a3)
              · replace h := h.1 cc
                have t9 : aX xc_241 (aSeek xc_241 56) [aR 145, aI a1, aI a2, aI a3] [] (SH L) M o := by
                  exact h
                exact aX_seg 6 (fun n g => ip c8 (ip cc (g))) t9
              · replace h := h.2 cc
                have t10 : aX xc_241 (aSeek xc_241 44) [aR 145, aI a1, aI a2, aI a3] [] (SH L) M o := by
                  obtain ⟨c11, h⟩ := h
                  by_cases cc : (M 162 a3) ≤ a2
                  · replace h := h.1 cc
                    have t12 : aX xc_241 (aSeek xc_241 56) [aR 145, aI a1, aI a2, aI a3] [] (SH L) M o := by
                      exact h
                    exact aX_seg 6 (fun n g => ip c11 (ip cc (g))) t12
                  · replace h := h.2 cc
                    have t13 : aX xc_241 (aSeek xc_241 54) [aR 145, aI a1, aI a2, aI a3] [] (SH L) M o := by
                      subst h
                      exact ⟨2, rfl⟩
                    exact aX_seg 6 (fun n g => ip c11 (in_ cc (g))) t13
                exact aX_seg 6 (fun n g => ip c8 (in_ cc (g))) t10
            exact aX_seg 6 (fun n g => ip c5 (in_ cc (g))) t7
        exact aX_seg 8 (fun n g => in_ cc (g)) t4
    exact aX_seg 6 (fun n g => in_ cc (g)) t2
set_option maxRecDepth 100000 in
theorem bl_241_56 {L : Nat} {a1 a2 a3 : Int} {M : aM} {o : aO} (h : aX xc_241 (aSeek xc_241 2) [aR 145, aI a1, aI a2, aI (aW (a3 + 1))] [] (SH L) M o) : aX xc_241 (aSeek xc_241 56) [aR 145, aI a1, aI a2, aI a3] [] (SH L) M o := by
  exact aX_seg 2 (fun n g => g) (h)
/- TypeLockModel.frameAt(IIZ)I -/
set_option maxRecDepth 100000 in
theorem en_242 {L : Nat} {a1 a2 a3 : Int} {M : aM} {o : aO} (h : (∃ (M1 : aM) (v2 : Int), aE 240 [aR 145, aI a1, aI a2] (SH L) M ([aI v2], (SH L), M1) ∧ ((¬ v2 = 0 → ((a2 = 0 → aX xc_242 (aSeek xc_242 20) [aR 145, aI a1, aI a2, aI a3, aU, aU, aU] [] (SH L) M1 o) ∧ (¬ (a2 = 0) → ((¬ a2 = 2 → (0 ≤ a1 ∧ a1 < aLn (SH L) 1 183) ∧ aX xc_242 (aSeek xc_242 35) [aR 145, aI a1, aI a2, aI a3, aU, aU, aU] [aI (M1 183 a1)] (SH L) M1 o) ∧ (¬ (¬ a2 = 2) → aX xc_242 (aSeek xc_242 20) [aR 145, aI a1, aI a2, aI a3, aU, aU, aU] [] (SH L) M1 o))))) ∧ (¬ (¬ v2 = 0) → o = ([aI 0], (SH L), M1))))) : aE 242 [aR 145, aI a1, aI a2, aI a3] (SH L) M o := by
  have q : aX xc_242 (aSeek xc_242 0) [aR 145, aI a1, aI a2, aI a3, aU, aU, aU] [] (SH L) M o := by
    obtain ⟨M1, v2, k3, h⟩ := h
    have h2 : aX xc_242 (aSeek xc_242 6) [aR 145, aI a1, aI a2, aI a3, aU, aU, aU] [aI v2] (SH L) M1 o := by
      by_cases cc : ¬ v2 = 0
      · replace h := h.1 cc
        have t4 : aX xc_242 (aSeek xc_242 11) [aR 145, aI a1, aI a2, aI a3, aU, aU, aU] [] (SH L) M1 o := by
          by_cases cc : a2 = 0
          · replace h := h.1 cc
            have t5 : aX xc_242 (aSeek xc_242 20) [aR 145, aI a1, aI a2, aI a3, aU, aU, aU] [] (SH L) M1 o := by
              exact h
            exact aX_seg 2 (fun n g => ip cc (g)) t5
          · replace h := h.2 cc
            have t6 : aX xc_242 (aSeek xc_242 15) [aR 145, aI a1, aI a2, aI a3, aU, aU, aU] [] (SH L) M1 o := by
              by_cases cc : ¬ a2 = 2
              · replace h := h.1 cc
                have t7 : aX xc_242 (aSeek xc_242 29) [aR 145, aI a1, aI a2, aI a3, aU, aU, aU] [] (SH L) M1 o := by
                  obtain ⟨c8, h⟩ := h
                  exact aX_seg 4 (fun n g => ip c8 (g)) (h)
                exact aX_seg 3 (fun n g => ip cc (g)) t7
              · replace h := h.2 cc
                have t9 : aX xc_242 (aSeek xc_242 20) [aR 145, aI a1, aI a2, aI a3, aU, aU, aU] [] (SH L) M1 o := by
                  exact h
                exact aX_seg 3 (fun n g => in_ cc (g)) t9
            exact aX_seg 2 (fun n g => in_ cc (g)) t6
        exact aX_seg 1 (fun n g => ip cc (g)) t4
      · replace h := h.2 cc
        have t10 : aX xc_242 (aSeek xc_242 9) [aR 145, aI a1, aI a2, aI a3, aU, aU, aU] [] (SH L) M1 o := by
          subst h
          exact ⟨2, rfl⟩
        exact aX_seg 1 (fun n g => in_ cc (g)) t10
    exact aX_seg 3 (fun n g => g) (aX_callv (rfl) rfl rfl rfl k3 h2)
  exact q
set_option maxRecDepth 100000 in
theorem bl_242_20 {L : Nat} {a1 a2 a3 : Int} {M : aM} {o : aO} (h : (0 ≤ a1 ∧ a1 < aLn (SH L) 1 182) ∧ aX xc_242 (aSeek xc_242 35) [aR 145, aI a1, aI a2, aI a3, aU, aU, aU] [aI (M 182 a1)] (SH L) M o) : aX xc_242 (aSeek xc_242 20) [aR 145, aI a1, aI a2, aI a3, aU, aU, aU] [] (SH L) M o := by
  obtain ⟨c1, h⟩ := h
  exact aX_seg 5 (fun n g => ip c1 (g)) (h)
set_option maxRecDepth 100000 in
theorem bl_242_35 {L : Nat} {a1 a2 a3 b0 : Int} {M : aM} {o : aO} (h : aX xc_242 (aSeek xc_242 44) [aR 145, aI a1, aI a2, aI a3, aI b0, aI 0, aI b0] [] (SH L) M o) : aX xc_242 (aSeek xc_242 35) [aR 145, aI a1, aI a2, aI a3, aU, aU, aU] [aI b0] (SH L) M o := by
  exact aX_seg 5 (fun n g => g) (h)
set_option maxRecDepth 100000 in
theorem bl_242_44 {L : Nat} {a1 a2 a3 a4 a5 a6 : Int} {M : aM} {o : aO} (h : (∃ (M1 : aM) (v2 : Int), aE 239 [aR 145, aI a1, aI a2] (SH L) M ([aI v2], (SH L), M1) ∧ (((aW (a4 + v2)) ≤ a6 → (∃ (M3 : aM) (v4 : Int), aE 225 [aR 145, aI a1] (SH L) M1 ([aI v4], (SH L), M3) ∧ ((v4 = 0 → o = ([aI a5], (SH L), M3)) ∧ (¬ (v4 = 0) → o = ([aI (aDiv a5 2)], (SH L), M3))))) ∧ (¬ ((aW (a4 + v2)) ≤ a6) → ((a3 = 0 → aX xc_242 (aSeek xc_242 74) [aR 145, aI a1, aI a2, aI a3, aI a4, aU, aI a6] [aI a5] (SH L) M1 o) ∧ (¬ (a3 = 0) → (∃ (M5 : aM) (v6 : Int), aE 241 [aR 145, aI a2, aI a6] (SH L) M1 ([aI v6], (SH L), M5) ∧ ((v6 = 0 → aX xc_242 (aSeek xc_242 79) [aR 145, aI a1, aI a2, aI a3, aI a4, aU, aI a6] [aI 0, aI a5] (SH L) M5 o) ∧ (¬ (v6 = 0) → aX xc_242 (aSeek xc_242 74) [aR 145, aI a1, aI a2, aI a3, aI a4, aU, aI a6] [aI a5] (SH L) M5 o))))))))) : aX xc_242 (aSeek xc_242 44) [aR 145, aI a1, aI a2, aI a3, aI a4, aI a5, aI a6] [] (SH L) M o := by
  obtain ⟨M1, v2, k7, h⟩ := h
  have h2 : aX xc_242 (aSeek xc_242 54) [aR 145, aI a1, aI a2, aI a3, aI a4, aI a5, aI a6] [aI v2, aI a4, aI a6] (SH L) M1 o := by
    by_cases cc : (aW (a4 + v2)) ≤ a6
    · replace h := h.1 cc
      have t8 : aX xc_242 (aSeek xc_242 88) [aR 145, aI a1, aI a2, aI a3, aI a4, aI a5, aI a6] [] (SH L) M1 o := by
        obtain ⟨M3, v4, k9, h⟩ := h
        have h2 : aX xc_242 (aSeek xc_242 93) [aR 145, aI a1, aI a2, aI a3, aI a4, aI a5, aI a6] [aI v4] (SH L) M3 o := by
          by_cases cc : v4 = 0
          · replace h := h.1 cc
            have t10 : aX xc_242 (aSeek xc_242 103) [aR 145, aI a1, aI a2, aI a3, aI a4, aI a5, aI a6] [] (SH L) M3 o := by
              subst h
              exact ⟨2, rfl⟩
            exact aX_seg 1 (fun n g => ip cc (g)) t10
          · replace h := h.2 cc
            have t11 : aX xc_242 (aSeek xc_242 96) [aR 145, aI a1, aI a2, aI a3, aI a4, aI a5, aI a6] [] (SH L) M3 o := by
              subst h
              exact ⟨5, rfl⟩
            exact aX_seg 1 (fun n g => in_ cc (g)) t11
        exact aX_seg 2 (fun n g => g) (aX_callv (rfl) rfl rfl rfl k9 h2)
      exact aX_seg 2 (fun n g => ip cc (g)) t8
    · replace h := h.2 cc
      have t12 : aX xc_242 (aSeek xc_242 58) [aR 145, aI a1, aI a2, aI a3, aI a4, aI a5, aI a6] [] (SH L) M1 o := by
        by_cases cc : a3 = 0
        · replace h := h.1 cc
          have t13 : aX xc_242 (aSeek xc_242 74) [aR 145, aI a1, aI a2, aI a3, aI a4, aI a5, aI a6] [aI a5] (SH L) M1 o := by
            exact aX_le (ls := [aR 145, aI a1, aI a2, aI a3, aI a4, aU, aI a6]) (ls1 := [aR 145, aI a1, aI a2, aI a3, aI a4, aI a5, aI a6]) (⟨Or.inr rfl, ⟨Or.inr rfl, ⟨Or.inr rfl, ⟨Or.inr rfl, ⟨Or.inr rfl, ⟨Or.inl rfl, ⟨Or.inr rfl, trivial⟩⟩⟩⟩⟩⟩⟩) h
          exact aX_seg 3 (fun n g => ip cc (g)) t13
        · replace h := h.2 cc
          have t14 : aX xc_242 (aSeek xc_242 64) [aR 145, aI a1, aI a2, aI a3, aI a4, aI a5, aI a6] [aI a5] (SH L) M1 o := by
            obtain ⟨M5, v6, k15, h⟩ := h
            have h2 : aX xc_242 (aSeek xc_242 71) [aR 145, aI a1, aI a2, aI a3, aI a4, aI a5, aI a6] [aI v6, aI a5] (SH L) M5 o := by
              by_cases cc : v6 = 0
              · replace h := h.1 cc
                have t16 : aX xc_242 (aSeek xc_242 78) [aR 145, aI a1, aI a2, aI a3, aI a4, aI a5, aI a6] [aI a5] (SH L) M5 o := by
                  exact aX_seg 1 (fun n g => g) (aX_le (ls := [aR 145, aI a1, aI a2, aI a3, aI a4, aU, aI a6]) (ls1 := [aR 145, aI a1, aI a2, aI a3, aI a4, aI a5, aI a6]) (⟨Or.inr rfl, ⟨Or.inr rfl, ⟨Or.inr rfl, ⟨Or.inr rfl, ⟨Or.inr rfl, ⟨Or.inl rfl, ⟨Or.inr rfl, trivial⟩⟩⟩⟩⟩⟩⟩) h)
                exact aX_seg 1 (fun n g => ip cc (g)) t16
              · replace h := h.2 cc
                have t17 : aX xc_242 (aSeek xc_242 74) [aR 145, aI a1, aI a2, aI a3, aI a4, aI a5, aI a6] [aI a5] (SH L) M5 o := by
                  exact aX_le (ls := [aR 145, aI a1, aI a2, aI a3, aI a4, aU, aI a6]) (ls1 := [aR 145, aI a1, aI a2, aI a3, aI a4, aI a5, aI a6]) (⟨Or.inr rfl, ⟨Or.inr rfl, ⟨Or.inr rfl, ⟨Or.inr rfl, ⟨Or.inr rfl, ⟨Or.inl rfl, ⟨Or.inr rfl, trivial⟩⟩⟩⟩⟩⟩⟩) h
                exact aX_seg 1 (fun n g => in_ cc (g)) t17
            exact aX_seg 3 (fun n g => g) (aX_callv (rfl) rfl rfl rfl k15 h2)
          exact aX_seg 3 (fun n g => in_ cc (g)) t14
      exact aX_seg 2 (fun n g => in_ cc (g)) t12
  exact aX_seg 5 (fun n g => g) (aX_callv (rfl) rfl rfl rfl k7 h2)
set_option maxRecDepth 100000 in
theorem bl_242_74 {L : Nat} {a1 a2 a3 a4 a6 b0 : Int} {M : aM} {o : aO} (h : aX xc_242 (aSeek xc_242 79) [aR 145, aI a1, aI a2, aI a3, aI a4, aU, aI a6] [aI 1, aI b0] (SH L) M o) : aX xc_242 (aSeek xc_242 74) [aR 145, aI a1, aI a2, aI a3, aI a4, aU, aI a6] [aI b0] (SH L) M o := by
  exact aX_seg 2 (fun n g => g) (h)
set_option maxRecDepth 100000 in
theorem bl_242_79 {L : Nat} {a1 a2 a3 a4 a6 b0 b1 : Int} {M : aM} {o : aO} (h : aX xc_242 (aSeek xc_242 44) [aR 145, aI a1, aI a2, aI a3, aI a4, aI (aW (b0 + b1)), aI (aW (a6 + 1))] [] (SH L) M o) : aX xc_242 (aSeek xc_242 79) [aR 145, aI a1, aI a2, aI a3, aI a4, aU, aI a6] [aI b1, aI b0] (SH L) M o := by
  exact aX_seg 4 (fun n g => g) (h)
/- TypeLockModel.mark(IZIZ)V -/
set_option maxRecDepth 100000 in
theorem en_243 {L : Nat} {a1 a2 a3 a4 : Int} {M : aM} {o : aO} (h : ((a2 = 0 → ((0 ≤ aW ((aW (40 * a1)) + a3) ∧ aW ((aW (40 * a1)) + a3) < aLn (SH L) 4 195) ∧ (a4 = 0 ∨ a4 = 1)) ∧ o = ([], (SH L), aSet M 195 (aW ((aW (40 * a1)) + a3)) a4)) ∧ (¬ (a2 = 0) → ((0 ≤ aW ((aW (40 * a1)) + a3) ∧ aW ((aW (40 * a1)) + a3) < aLn (SH L) 4 194) ∧ (a4 = 0 ∨ a4 = 1)) ∧ o = ([], (SH L), aSet M 194 (aW ((aW (40 * a1)) + a3)) a4)))) : aE 243 [aR 145, aI a1, aI a2, aI a3, aI a4] (SH L) M o := by
  have q : aX xc_243 (aSeek xc_243 0) [aR 145, aI a1, aI a2, aI a3, aI a4] [] (SH L) M o := by
    by_cases cc : a2 = 0
    · replace h := h.1 cc
      have t1 : aX xc_243 (aSeek xc_243 20) [aR 145, aI a1, aI a2, aI a3, aI a4] [] (SH L) M o := by
        obtain ⟨c2, h⟩ := h
        subst h
        exact ⟨10, ip c2 (rfl)⟩
      exact aX_seg 2 (fun n g => ip cc (g)) t1
    · replace h := h.2 cc
      have t3 : aX xc_243 (aSeek xc_243 4) [aR 145, aI a1, aI a2, aI a3, aI a4] [] (SH L) M o := by
        obtain ⟨c4, h⟩ := h
        subst h
        exact ⟨11, ip c4 (rfl)⟩
      exact aX_seg 2 (fun n g => in_ cc (g)) t3
  exact q
/- TypeLockModel.isMarked(IZI)Z -/
set_option maxRecDepth 100000 in
theorem en_244 {L : Nat} {a1 a2 a3 : Int} {M : aM} {o : aO} (h : ((a2 = 0 → (0 ≤ aW ((aW (40 * a1)) + a3) ∧ aW ((aW (40 * a1)) + a3) < aLn (SH L) 4 195) ∧ ((M 195 (aW ((aW (40 * a1)) + a3)) : Int) = 0 ∨ (M 195 (aW ((aW (40 * a1)) + a3)) : Int) = 1) ∧ o = ([aI (M 195 (aW ((aW (40 * a1)) + a3)))], (SH L), M)) ∧ (¬ (a2 = 0) → (0 ≤ aW ((aW (40 * a1)) + a3) ∧ aW ((aW (40 * a1)) + a3) < aLn (SH L) 4 194) ∧ ((M 194 (aW ((aW (40 * a1)) + a3)) : Int) = 0 ∨ (M 194 (aW ((aW (40 * a1)) + a3)) : Int) = 1) ∧ o = ([aI (M 194 (aW ((aW (40 * a1)) + a3)))], (SH L), M)))) : aE 244 [aR 145, aI a1, aI a2, aI a3] (SH L) M o := by
  have q : aX xc_244 (aSeek xc_244 0) [aR 145, aI a1, aI a2, aI a3] [] (SH L) M o := by
    by_cases cc : a2 = 0
    · replace h := h.1 cc
      have t1 : aX xc_244 (aSeek xc_244 18) [aR 145, aI a1, aI a2, aI a3] [] (SH L) M o := by
        obtain ⟨c2, h⟩ := h
        obtain ⟨c3, h⟩ := h
        subst h
        exact ⟨9, ip c2 (ip c3 (rfl))⟩
      exact aX_seg 2 (fun n g => ip cc (g)) t1
    · replace h := h.2 cc
      have t4 : aX xc_244 (aSeek xc_244 4) [aR 145, aI a1, aI a2, aI a3] [] (SH L) M o := by
        obtain ⟨c5, h⟩ := h
        obtain ⟨c6, h⟩ := h
        subst h
        exact ⟨10, ip c5 (ip c6 (rfl))⟩
      exact aX_seg 2 (fun n g => in_ cc (g)) t4
  exact q
/- TypeLockModel.spread(IZ)V -/
set_option maxRecDepth 100000 in
theorem en_245 {L : Nat} {a1 a2 : Int} {M : aM} {o : aO} (h : aX xc_245 (aSeek xc_245 2) [aR 145, aI a1, aI a2, aI 0, aU, aU] [] (SH L) M o) : aE 245 [aR 145, aI a1, aI a2] (SH L) M o := by
  have q : aX xc_245 (aSeek xc_245 0) [aR 145, aI a1, aI a2, aU, aU, aU] [] (SH L) M o := by
    exact aX_seg 2 (fun n g => g) (h)
  exact q
set_option maxRecDepth 100000 in
theorem bl_245_2 {L : Nat} {a1 a2 a3 : Int} {M : aM} {o : aO} (h : (((M 179 0) ≤ a3 → aX xc_245 (aSeek xc_245 54) [aR 145, aI a1, aI a2, aI 1, aU, aU] [] (SH L) M o) ∧ (¬ ((M 179 0) ≤ a3) → (0 ≤ a3 ∧ a3 < aLn (SH L) 4 193) ∧ (((M 193 a3) = 0 → aX xc_245 (aSeek xc_245 37) [aR 145, aI a1, aI a2, aI a3, aU, aU] [aI 0, aI a3, aR 196] (SH L) M o) ∧ (¬ ((M 193 a3) = 0) → (∃ (M1 : aM) (v2 : Int), aE 242 [aR 145, aI a3, aI a1, aI a2] (SH L) M ([aI v2], (SH L), M1) ∧ aX xc_245 (aSeek xc_245 37) [aR 145, aI a1, aI a2, aI a3, aU, aU] [aI v2, aI a3, aR 196] (SH L) M1 o)))))) : aX xc_245 (aSeek xc_245 2) [aR 145, aI a1, aI a2, aI a3, aU, aU] [] (SH L) M o := by
  by_cases cc : (M 179 0) ≤ a3
  · replace h := h.1 cc
    have t3 : aX xc_245 (aSeek xc_245 52) [aR 145, aI a1, aI a2, aI a3, aU, aU] [] (SH L) M o := by
      exact aX_seg 2 (fun n g => g) (h)
    exact aX_seg 6 (fun n g => ip cc (g)) t3
  · replace h := h.2 cc
    have t4 : aX xc_245 (aSeek xc_245 12) [aR 145, aI a1, aI a2, aI a3, aU, aU] [] (SH L) M o := by
      obtain ⟨c5, h⟩ := h
      by_cases cc : (M 193 a3) = 0
      · replace h := h.1 cc
        have t6 : aX xc_245 (aSeek xc_245 36) [aR 145, aI a1, aI a2, aI a3, aU, aU] [aI a3, aR 196] (SH L) M o := by
          exact aX_seg 1 (fun n g => g) (h)
        exact aX_seg 8 (fun n g => ip c5 (ip cc (g))) t6
      · replace h := h.2 cc
        have t7 : aX xc_245 (aSeek xc_245 26) [aR 145, aI a1, aI a2, aI a3, aU, aU] [aI a3, aR 196] (SH L) M o := by
          obtain ⟨M1, v2, k8, h⟩ := h
          have h2 : aX xc_245 (aSeek xc_245 33) [aR 145, aI a1, aI a2, aI a3, aU, aU] [aI v2, aI a3, aR 196] (SH L) M1 o := by
            exact aX_seg 1 (fun n g => g) (h)
          exact aX_seg 4 (fun n g => g) (aX_callv (rfl) rfl rfl rfl k8 h2)
        exact aX_seg 8 (fun n g => ip c5 (in_ cc (g))) t7
    exact aX_seg 6 (fun n g => in_ cc (g)) t4
set_option maxRecDepth 100000 in
theorem bl_245_37 {L : Nat} {a1 a2 a3 b0 b1 b2 : Int} {M : aM} {o : aO} (h : (0 ≤ b1 ∧ b1 < aLn (SH L) 1 b0) ∧ (∃ (M1 : aM), aE 243 [aR 145, aI a1, aI a2, aI a3, aI 0] (SH L) (aSet M b0 b1 b2) ([], (SH L), M1) ∧ aX xc_245 (aSeek xc_245 2) [aR 145, aI a1, aI a2, aI (aW (a3 + 1)), aU, aU] [] (SH L) M1 o)) : aX xc_245 (aSeek xc_245 37) [aR 145, aI a1, aI a2, aI a3, aU, aU] [aI b2, aI b1, aR b0] (SH L) M o := by
  obtain ⟨c2, h⟩ := h
  obtain ⟨M1, k3, h⟩ := h
  have h2 : aX xc_245 (aSeek xc_245 46) [aR 145, aI a1, aI a2, aI a3, aU, aU] [] (SH L) M1 o := by
    exact aX_seg 2 (fun n g => g) (h)
  exact aX_seg 6 (fun n g => ip c2 (g)) (aX_callv (rfl) rfl rfl rfl k3 h2)
set_option maxRecDepth 100000 in
theorem bl_245_54 {L : Nat} {a1 a2 a3 : Int} {M : aM} {o : aO} (h : ((a3 = 0 → o = ([], (SH L), M)) ∧ (¬ (a3 = 0) → aX xc_245 (aSeek xc_245 63) [aR 145, aI a1, aI a2, aI 0, aI 0, aU] [] (SH L) M o))) : aX xc_245 (aSeek xc_245 54) [aR 145, aI a1, aI a2, aI a3, aU, aU] [] (SH L) M o := by
  by_cases cc : a3 = 0
  · replace h := h.1 cc
    have t1 : aX xc_245 (aSeek xc_245 201) [aR 145, aI a1, aI a2, aI a3, aU, aU] [] (SH L) M o := by
      subst h
      exact ⟨1, rfl⟩
    exact aX_seg 2 (fun n g => ip cc (g)) t1
  · replace h := h.2 cc
    have t2 : aX xc_245 (aSeek xc_245 58) [aR 145, aI a1, aI a2, aI a3, aU, aU] [] (SH L) M o := by
      exact aX_seg 4 (fun n g => g) (h)
    exact aX_seg 2 (fun n g => in_ cc (g)) t2
set_option maxRecDepth 100000 in
theorem bl_245_63 {L : Nat} {a1 a2 a3 a4 : Int} {M : aM} {o : aO} (h : (((M 179 0) ≤ a4 → aX xc_245 (aSeek xc_245 54) [aR 145, aI a1, aI a2, aI a3, aU, aU] [] (SH L) M o) ∧ (¬ ((M 179 0) ≤ a4) → (0 ≤ a4 ∧ a4 < aLn (SH L) 4 193) ∧ (((M 193 a4) = 0 → aX xc_245 (aSeek xc_245 192) [aR 145, aI a1, aI a2, aI a3, aI a4, aU] [] (SH L) M o) ∧ (¬ ((M 193 a4) = 0) → (∃ (M1 : aM) (v2 : Int), aE 244 [aR 145, aI a1, aI a2, aI a4] (SH L) M ([aI v2], (SH L), M1) ∧ ((¬ v2 = 0 → aX xc_245 (aSeek xc_245 192) [aR 145, aI a1, aI a2, aI a3, aI a4, aU] [] (SH L) M1 o) ∧ (¬ (¬ v2 = 0) → (0 ≤ a4 ∧ a4 < aLn (SH L) 1 196) ∧ (∃ (M3 : aM) (v4 : Int), aE 239 [aR 145, aI a4, aI a1] (SH L) M1 ([aI v4], (SH L), M3) ∧ (((aW ((M1 163 0) * v4)) ≤ (aW (100 * (M1 196 a4))) → (∃ (M5 : aM), aE 243 [aR 145, aI a1, aI a2, aI a4, aI 1] (SH L) M3 ([], (SH L), M5) ∧ aX xc_245 (aSeek xc_245 139) [aR 145, aI a1, aI a2, aI 1, aI a4, aI 0] [] (SH L) M5 o)) ∧ (¬ ((aW ((M1 163 0) * v4)) ≤ (aW (100 * (M1 196 a4)))) → aX xc_245 (aSeek xc_245 192) [aR 145, aI a1, aI a2, aI a3, aI a4, aU] [] (SH L) M3 o))))))))))) : aX xc_245 (aSeek xc_245 63) [aR 145, aI a1, aI a2, aI a3, aI a4, aU] [] (SH L) M o := by
  by_cases cc : (M 179 0) ≤ a4
  · replace h := h.1 cc
    have t6 : aX xc_245 (aSeek xc_245 198) [aR 145, aI a1, aI a2, aI a3, aI a4, aU] [] (SH L) M o := by
      exact aX_seg 1 (fun n g => g) (aX_le (ls := [aR 145, aI a1, aI a2, aI a3, aU, aU]) (ls1 := [aR 145, aI a1, aI a2, aI a3, aI a4, aU]) (⟨Or.inr rfl, ⟨Or.inr rfl, ⟨Or.inr rfl, ⟨Or.inr rfl, ⟨Or.inl rfl, ⟨Or.inl rfl, trivial⟩⟩⟩⟩⟩⟩) h)
    exact aX_seg 6 (fun n g => ip cc (g)) t6
  · replace h := h.2 cc
    have t7 : aX xc_245 (aSeek xc_245 74) [aR 145, aI a1, aI a2, aI a3, aI a4, aU] [] (SH L) M o := by
      obtain ⟨c8, h⟩ := h
      by_cases cc : (M 193 a4) = 0
      · replace h := h.1 cc
        have t9 : aX xc_245 (aSeek xc_245 192) [aR 145, aI a1, aI a2, aI a3, aI a4, aU] [] (SH L) M o := by
          exact h
        exact aX_seg 5 (fun n g => ip c8 (ip cc (g))) t9
      · replace h := h.2 cc
        have t10 : aX xc_245 (aSeek xc_245 84) [aR 145, aI a1, aI a2, aI a3, aI a4, aU] [] (SH L) M o := by
          obtain ⟨M1, v2, k11, h⟩ := h
          have h2 : aX xc_245 (aSeek xc_245 92) [aR 145, aI a1, aI a2, aI a3, aI a4, aU] [aI v2] (SH L) M1 o := by
            by_cases cc : ¬ v2 = 0
            · replace h := h.1 cc
              have t12 : aX xc_245 (aSeek xc_245 192) [aR 145, aI a1, aI a2, aI a3, aI a4, aU] [] (SH L) M1 o := by
                exact h
              exact aX_seg 1 (fun n g => ip cc (g)) t12
            · replace h := h.2 cc
              have t13 : aX xc_245 (aSeek xc_245 95) [aR 145, aI a1, aI a2, aI a3, aI a4, aU] [] (SH L) M1 o := by
                obtain ⟨c14, h⟩ := h
                obtain ⟨M3, v4, k15, h⟩ := h
                have h2 : aX xc_245 (aSeek xc_245 118) [aR 145, aI a1, aI a2, aI a3, aI a4, aU] [aI v4, aI (M1 163 0), aI (aW (100 * (M1 196 a4)))] (SH L) M3 o := by
                  by_cases cc : (aW ((M1 163 0) * v4)) ≤ (aW (100 * (M1 196 a4)))
                  · replace h := h.1 cc
                    have t16 : aX xc_245 (aSeek xc_245 125) [aR 145, aI a1, aI a2, aI a3, aI a4, aU] [] (SH L) M3 o := by
                      obtain ⟨M5, k17, h⟩ := h
                      have h2 : aX xc_245 (aSeek xc_245 134) [aR 145, aI a1, aI a2, aI a3, aI a4, aU] [] (SH L) M5 o := by
                        exact aX_seg 4 (fun n g => g) (h)
                      exact aX_seg 5 (fun n g => g) (aX_callv (rfl) rfl rfl rfl k17 h2)
                    exact aX_seg 2 (fun n g => ip cc (g)) t16
                  · replace h := h.2 cc
                    have t18 : aX xc_245 (aSeek xc_245 122) [aR 145, aI a1, aI a2, aI a3, aI a4, aU] [] (SH L) M3 o := by
                      exact aX_seg 1 (fun n g => g) (h)
                    exact aX_seg 2 (fun n g => in_ cc (g)) t18
                exact aX_seg 13 (fun n g => ip c14 (g)) (aX_callv (rfl) rfl rfl rfl k15 h2)
              exact aX_seg 1 (fun n g => in_ cc (g)) t13
          exact aX_seg 4 (fun n g => g) (aX_callv (rfl) rfl rfl rfl k11 h2)
        exact aX_seg 5 (fun n g => ip c8 (in_ cc (g))) t10
    exact aX_seg 6 (fun n g => in_ cc (g)) t7
set_option maxRecDepth 100000 in
theorem bl_245_139 {L : Nat} {a1 a2 a3 a4 a5 : Int} {M : aM} {o : aO} (h : (((M 179 0) ≤ a5 → aX xc_245 (aSeek xc_245 192) [aR 145, aI a1, aI a2, aI a3, aI a4, aU] [] (SH L) M o) ∧ (¬ ((M 179 0) ≤ a5) → (0 ≤ a5 ∧ a5 < aLn (SH L) 4 193) ∧ (((M 193 a5) = 0 → aX xc_245 (aSeek xc_245 186) [aR 145, aI a1, aI a2, aI a3, aI a4, aI a5] [] (SH L) M o) ∧ (¬ ((M 193 a5) = 0) → ((a5 = a4 → aX xc_245 (aSeek xc_245 186) [aR 145, aI a1, aI a2, aI a3, aI a4, aI a5] [] (SH L) M o) ∧ (¬ (a5 = a4) → (0 ≤ a5 ∧ a5 < aLn (SH L) 1 196) ∧ (∃ (M1 : aM) (v2 : Int), aE 235 [aR 145, aI a5, aI a1, aI a4] (SH L) M ([aI v2], (SH L), M1) ∧ (0 ≤ a5 ∧ a5 < aLn (SH L) 1 196) ∧ aX xc_245 (aSeek xc_245 186) [aR 145, aI a1, aI a2, aI a3, aI a4, aI a5] [] (SH L) (aSet M1 196 a5 (aW ((M 196 a5) + v2))) o)))))))) : aX xc_245 (aSeek xc_245 139) [aR 145, aI a1, aI a2, aI a3, aI a4, aI a5] [] (SH L) M o := by
  by_cases cc : (M 179 0) ≤ a5
  · replace h := h.1 cc
    have t3 : aX xc_245 (aSeek xc_245 192) [aR 145, aI a1, aI a2, aI a3, aI a4, aI a5] [] (SH L) M o := by
      exact aX_le (ls := [aR 145, aI a1, aI a2, aI a3, aI a4, aU]) (ls1 := [aR 145, aI a1, aI a2, aI a3, aI a4, aI a5]) (⟨Or.inr rfl, ⟨Or.inr rfl, ⟨Or.inr rfl, ⟨Or.inr rfl, ⟨Or.inr rfl, ⟨Or.inl rfl, trivial⟩⟩⟩⟩⟩⟩) h
    exact aX_seg 6 (fun n g => ip cc (g)) t3
  · replace h := h.2 cc
    have t4 : aX xc_245 (aSeek xc_245 150) [aR 145, aI a1, aI a2, aI a3, aI a4, aI a5] [] (SH L) M o := by
      obtain ⟨c5, h⟩ := h
      by_cases cc : (M 193 a5) = 0
      · replace h := h.1 cc
        have t6 : aX xc_245 (aSeek xc_245 186) [aR 145, aI a1, aI a2, aI a3, aI a4, aI a5] [] (SH L) M o := by
          exact h
        exact aX_seg 5 (fun n g => ip c5 (ip cc (g))) t6
      · replace h := h.2 cc
        have t7 : aX xc_245 (aSeek xc_245 160) [aR 145, aI a1, aI a2, aI a3, aI a4, aI a5] [] (SH L) M o := by
          by_cases cc : a5 = a4
          · replace h := h.1 cc
            have t8 : aX xc_245 (aSeek xc_245 186) [aR 145, aI a1, aI a2, aI a3, aI a4, aI a5] [] (SH L) M o := by
              exact h
            exact aX_seg 3 (fun n g => ip cc (g)) t8
          · replace h := h.2 cc
            have t9 : aX xc_245 (aSeek xc_245 167) [aR 145, aI a1, aI a2, aI a3, aI a4, aI a5] [] (SH L) M o := by
              obtain ⟨c10, h⟩ := h
              obtain ⟨M1, v2, k11, h⟩ := h
              have h2 : aX xc_245 (aSeek xc_245 184) [aR 145, aI a1, aI a2, aI a3, aI a4, aI a5] [aI v2, aI (M 196 a5), aI a5, aR 196] (SH L) M1 o := by
                obtain ⟨c12, h⟩ := h
                exact aX_seg 2 (fun n g => ip c12 (g)) (h)
              exact aX_seg 9 (fun n g => ip c10 (g)) (aX_callv (rfl) rfl rfl rfl k11 h2)
            exact aX_seg 3 (fun n g => in_ cc (g)) t9
        exact aX_seg 5 (fun n g => ip c5 (in_ cc (g))) t7
    exact aX_seg 6 (fun n g => in_ cc (g)) t4
set_option maxRecDepth 100000 in
theorem bl_245_186 {L : Nat} {a1 a2 a3 a4 a5 : Int} {M : aM} {o : aO} (h : aX xc_245 (aSeek xc_245 139) [aR 145, aI a1, aI a2, aI a3, aI a4, aI (aW (a5 + 1))] [] (SH L) M o) : aX xc_245 (aSeek xc_245 186) [aR 145, aI a1, aI a2, aI a3, aI a4, aI a5] [] (SH L) M o := by
  exact aX_seg 2 (fun n g => g) (h)
set_option maxRecDepth 100000 in
theorem bl_245_192 {L : Nat} {a1 a2 a3 a4 : Int} {M : aM} {o : aO} (h : aX xc_245 (aSeek xc_245 63) [aR 145, aI a1, aI a2, aI a3, aI (aW (a4 + 1)), aU] [] (SH L) M o) : aX xc_245 (aSeek xc_245 192) [aR 145, aI a1, aI a2, aI a3, aI a4, aU] [] (SH L) M o := by
  exact aX_seg 2 (fun n g => g) (h)
/- TypeLockModel.spreadAll()V -/
set_option maxRecDepth 100000 in
theorem en_246 {L : Nat} {M : aM} {o : aO} (h : aX xc_246 (aSeek xc_246 2) [aR 145, aI 0] [] (SH L) M o) : aE 246 [aR 145] (SH L) M o := by
  have q : aX xc_246 (aSeek xc_246 0) [aR 145, aU] [] (SH L) M o := by
    exact aX_seg 2 (fun n g => g) (h)
  exact q
set_option maxRecDepth 100000 in
theorem bl_246_2 {L : Nat} {a1 : Int} {M : aM} {o : aO} (h : ((4 ≤ a1 → o = ([], (SH L), M)) ∧ (¬ (4 ≤ a1) → (∃ (M1 : aM), aE 245 [aR 145, aI a1, aI 1] (SH L) M ([], (SH L), M1) ∧ (∃ (M2 : aM), aE 245 [aR 145, aI a1, aI 0] (SH L) M1 ([], (SH L), M2) ∧ aX xc_246 (aSeek xc_246 2) [aR 145, aI (aW (a1 + 1))] [] (SH L) M2 o))))) : aX xc_246 (aSeek xc_246 2) [aR 145, aI a1] [] (SH L) M o := by
  by_cases cc : 4 ≤ a1
  · replace h := h.1 cc
    have t3 : aX xc_246 (aSeek xc_246 25) [aR 145, aI a1] [] (SH L) M o := by
      subst h
      exact ⟨1, rfl⟩
    exact aX_seg 3 (fun n g => ip cc (g)) t3
  · replace h := h.2 cc
    have t4 : aX xc_246 (aSeek xc_246 7) [aR 145, aI a1] [] (SH L) M o := by
      obtain ⟨M1, k5, h⟩ := h
      have h2 : aX xc_246 (aSeek xc_246 13) [aR 145, aI a1] [] (SH L) M1 o := by
        obtain ⟨M2, k6, h⟩ := h
        have h2 : aX xc_246 (aSeek xc_246 19) [aR 145, aI a1] [] (SH L) M2 o := by
          exact aX_seg 2 (fun n g => g) (h)
        exact aX_seg 3 (fun n g => g) (aX_callv (rfl) rfl rfl rfl k6 h2)
      exact aX_seg 3 (fun n g => g) (aX_callv (rfl) rfl rfl rfl k5 h2)
    exact aX_seg 3 (fun n g => in_ cc (g)) t4
/- TypeLockModel.layAll()V -/
set_option maxRecDepth 100000 in
theorem en_247 {L : Nat} {M : aM} {o : aO} (h : aX xc_247 (aSeek xc_247 2) [aR 145, aI 0] [] (SH L) M o) : aE 247 [aR 145] (SH L) M o := by
  have q : aX xc_247 (aSeek xc_247 0) [aR 145, aU] [] (SH L) M o := by
    exact aX_seg 2 (fun n g => g) (h)
  exact q
set_option maxRecDepth 100000 in
theorem bl_247_2 {L : Nat} {a1 : Int} {M : aM} {o : aO} (h : ((40 ≤ a1 → (∃ (M1 : aM), aE 246 [aR 145] (SH L) (aSet M 145 61 (M 180 0)) ([], (SH L), M1) ∧ o = ([], (SH L), M1))) ∧ (¬ (40 ≤ a1) → ((0 ≤ a1 ∧ a1 < aLn (SH L) 4 193) ∧ ((1 : Int) = 0 ∨ (1 : Int) = 1)) ∧ aX xc_247 (aSeek xc_247 2) [aR 145, aI (aW (a1 + 1))] [] (SH L) (aSet M 193 a1 1) o))) : aX xc_247 (aSeek xc_247 2) [aR 145, aI a1] [] (SH L) M o := by
  by_cases cc : 40 ≤ a1
  · replace h := h.1 cc
    have t2 : aX xc_247 (aSeek xc_247 21) [aR 145, aI a1] [] (SH L) M o := by
      obtain ⟨M1, k3, h⟩ := h
      have h2 : aX xc_247 (aSeek xc_247 35) [aR 145, aI a1] [] (SH L) M1 o := by
        subst h
        exact ⟨1, rfl⟩
      exact aX_seg 7 (fun n g => g) (aX_callv (rfl) rfl rfl rfl k3 h2)
    exact aX_seg 3 (fun n g => ip cc (g)) t2
  · replace h := h.2 cc
    have t4 : aX xc_247 (aSeek xc_247 8) [aR 145, aI a1] [] (SH L) M o := by
      obtain ⟨c5, h⟩ := h
      exact aX_seg 7 (fun n g => ip c5 (g)) (h)
    exact aX_seg 3 (fun n g => in_ cc (g)) t4
/- TypeLockModel.isBetween(II)Z -/
set_option maxRecDepth 100000 in
theorem en_248 {L : Nat} {a1 a2 : Int} {M : aM} {o : aO} (h : (0 ≤ aW ((aW (40 * a2)) + a1) ∧ aW ((aW (40 * a2)) + a1) < aLn (SH L) 4 194) ∧ (((M 194 (aW ((aW (40 * a2)) + a1))) = 0 → o = ([aI 0], (SH L), M)) ∧ (¬ ((M 194 (aW ((aW (40 * a2)) + a1))) = 0) → (0 ≤ aW ((aW (40 * (aRem (aW (a2 + 2)) 4))) + a1) ∧ aW ((aW (40 * (aRem (aW (a2 + 2)) 4))) + a1) < aLn (SH L) 4 195) ∧ (((M 195 (aW ((aW (40 * (aRem (aW (a2 + 2)) 4))) + a1))) = 0 → o = ([aI 0], (SH L), M)) ∧ (¬ ((M 195 (aW ((aW (40 * (aRem (aW (a2 + 2)) 4))) + a1))) = 0) → o = ([aI 1], (SH L), M)))))) : aE 248 [aR 145, aI a1, aI a2] (SH L) M o := by
  have q : aX xc_248 (aSeek xc_248 0) [aR 145, aI a1, aI a2] [] (SH L) M o := by
    obtain ⟨c1, h⟩ := h
    by_cases cc : (M 194 (aW ((aW (40 * a2)) + a1))) = 0
    · replace h := h.1 cc
      have t2 : aX xc_248 (aSeek xc_248 36) [aR 145, aI a1, aI a2] [] (SH L) M o := by
        subst h
        exact ⟨2, rfl⟩
      exact aX_seg 9 (fun n g => ip c1 (ip cc (g))) t2
    · replace h := h.2 cc
      have t3 : aX xc_248 (aSeek xc_248 14) [aR 145, aI a1, aI a2] [] (SH L) M o := by
        obtain ⟨c4, h⟩ := h
        by_cases cc : (M 195 (aW ((aW (40 * (aRem (aW (a2 + 2)) 4))) + a1))) = 0
        · replace h := h.1 cc
          have t5 : aX xc_248 (aSeek xc_248 36) [aR 145, aI a1, aI a2] [] (SH L) M o := by
            subst h
            exact ⟨2, rfl⟩
          exact aX_seg 13 (fun n g => ip c4 (ip cc (g))) t5
        · replace h := h.2 cc
          have t6 : aX xc_248 (aSeek xc_248 32) [aR 145, aI a1, aI a2] [] (SH L) M o := by
            subst h
            exact ⟨3, rfl⟩
          exact aX_seg 13 (fun n g => ip c4 (in_ cc (g))) t6
      exact aX_seg 9 (fun n g => ip c1 (in_ cc (g))) t3
  exact q
/- TypeLockModel.heldOf(I)I -/
set_option maxRecDepth 100000 in
theorem en_249 {L : Nat} {a1 : Int} {M : aM} {o : aO} (h : (∃ (M1 : aM) (v2 : Int), aE 248 [aR 145, aI a1, aI 1] (SH L) M ([aI v2], (SH L), M1) ∧ ((¬ v2 = 0 → aX xc_249 (aSeek xc_249 18) [aR 145, aI a1] [] (SH L) M1 o) ∧ (¬ (¬ v2 = 0) → (∃ (M3 : aM) (v4 : Int), aE 248 [aR 145, aI a1, aI 3] (SH L) M1 ([aI v4], (SH L), M3) ∧ ((v4 = 0 → aX xc_249 (aSeek xc_249 23) [aR 145, aI a1] [aI 0] (SH L) M3 o) ∧ (¬ (v4 = 0) → aX xc_249 (aSeek xc_249 18) [aR 145, aI a1] [] (SH L) M3 o))))))) : aE 249 [aR 145, aI a1] (SH L) M o := by
  have q : aX xc_249 (aSeek xc_249 0) [aR 145, aI a1] [] (SH L) M o := by
    obtain ⟨M1, v2, k5, h⟩ := h
    have h2 : aX xc_249 (aSeek xc_249 6) [aR 145, aI a1] [aI v2] (SH L) M1 o := by
      by_cases cc : ¬ v2 = 0
      · replace h := h.1 cc
        have t6 : aX xc_249 (aSeek xc_249 18) [aR 145, aI a1] [] (SH L) M1 o := by
          exact h
        exact aX_seg 1 (fun n g => ip cc (g)) t6
      · replace h := h.2 cc
        have t7 : aX xc_249 (aSeek xc_249 9) [aR 145, aI a1] [] (SH L) M1 o := by
          obtain ⟨M3, v4, k8, h⟩ := h
          have h2 : aX xc_249 (aSeek xc_249 15) [aR 145, aI a1] [aI v4] (SH L) M3 o := by
            by_cases cc : v4 = 0
            · replace h := h.1 cc
              have t9 : aX xc_249 (aSeek xc_249 22) [aR 145, aI a1] [] (SH L) M3 o := by
                exact aX_seg 1 (fun n g => g) (h)
              exact aX_seg 1 (fun n g => ip cc (g)) t9
            · replace h := h.2 cc
              have t10 : aX xc_249 (aSeek xc_249 18) [aR 145, aI a1] [] (SH L) M3 o := by
                exact h
              exact aX_seg 1 (fun n g => in_ cc (g)) t10
          exact aX_seg 3 (fun n g => g) (aX_callv (rfl) rfl rfl rfl k8 h2)
        exact aX_seg 1 (fun n g => in_ cc (g)) t7
    exact aX_seg 3 (fun n g => g) (aX_callv (rfl) rfl rfl rfl k5 h2)
  exact q
set_option maxRecDepth 100000 in
theorem bl_249_18 {L : Nat} {a1 : Int} {M : aM} {o : aO} (h : aX xc_249 (aSeek xc_249 23) [aR 145, aI a1] [aI 1] (SH L) M o) : aX xc_249 (aSeek xc_249 18) [aR 145, aI a1] [] (SH L) M o := by
  exact aX_seg 2 (fun n g => g) (h)
set_option maxRecDepth 100000 in
theorem bl_249_23 {L : Nat} {a1 b0 : Int} {M : aM} {o : aO} (h : (∃ (M1 : aM) (v2 : Int), aE 248 [aR 145, aI a1, aI 0] (SH L) M ([aI v2], (SH L), M1) ∧ ((¬ v2 = 0 → o = ([aI (aW (b0 + 2))], (SH L), M1)) ∧ (¬ (¬ v2 = 0) → (∃ (M3 : aM) (v4 : Int), aE 248 [aR 145, aI a1, aI 2] (SH L) M1 ([aI v4], (SH L), M3) ∧ ((v4 = 0 → o = ([aI (aW (b0 + 0))], (SH L), M3)) ∧ (¬ (v4 = 0) → o = ([aI (aW (b0 + 2))], (SH L), M3)))))))) : aX xc_249 (aSeek xc_249 23) [aR 145, aI a1] [aI b0] (SH L) M o := by
  obtain ⟨M1, v2, k5, h⟩ := h
  have h2 : aX xc_249 (aSeek xc_249 29) [aR 145, aI a1] [aI v2, aI b0] (SH L) M1 o := by
    by_cases cc : ¬ v2 = 0
    · replace h := h.1 cc
      have t6 : aX xc_249 (aSeek xc_249 41) [aR 145, aI a1] [aI b0] (SH L) M1 o := by
        subst h
        exact ⟨4, rfl⟩
      exact aX_seg 1 (fun n g => ip cc (g)) t6
    · replace h := h.2 cc
      have t7 : aX xc_249 (aSeek xc_249 32) [aR 145, aI a1] [aI b0] (SH L) M1 o := by
        obtain ⟨M3, v4, k8, h⟩ := h
        have h2 : aX xc_249 (aSeek xc_249 38) [aR 145, aI a1] [aI v4, aI b0] (SH L) M3 o := by
          by_cases cc : v4 = 0
          · replace h := h.1 cc
            have t9 : aX xc_249 (aSeek xc_249 45) [aR 145, aI a1] [aI b0] (SH L) M3 o := by
              subst h
              exact ⟨3, rfl⟩
            exact aX_seg 1 (fun n g => ip cc (g)) t9
          · replace h := h.2 cc
            have t10 : aX xc_249 (aSeek xc_249 41) [aR 145, aI a1] [aI b0] (SH L) M3 o := by
              subst h
              exact ⟨4, rfl⟩
            exact aX_seg 1 (fun n g => in_ cc (g)) t10
        exact aX_seg 3 (fun n g => g) (aX_callv (rfl) rfl rfl rfl k8 h2)
      exact aX_seg 1 (fun n g => in_ cc (g)) t7
  exact aX_seg 3 (fun n g => g) (aX_callv (rfl) rfl rfl rfl k5 h2)
/- TypeLockModel.isHeldThing(I)Z -/
set_option maxRecDepth 100000 in
theorem en_250 {L : Nat} {a1 : Int} {M : aM} {o : aO} (h : (∃ (M1 : aM) (v2 : Int), aE 249 [aR 145, aI a1] (SH L) M ([aI v2], (SH L), M1) ∧ (0 ≤ a1 ∧ a1 < aLn (SH L) 4 193) ∧ (((M1 193 a1) = 0 → o = ([aI 0], (SH L), M1)) ∧ (¬ ((M1 193 a1) = 0) → (0 ≤ a1 ∧ a1 < aLn (SH L) 1 181) ∧ (0 ≤ M1 181 a1 ∧ M1 181 a1 < aLn (SH L) 1 154) ∧ ((¬ (M1 154 (M1 181 a1)) = 3 → ((v2 ≤ 0 → o = ([aI 0], (SH L), M1)) ∧ (¬ (v2 ≤ 0) → o = ([aI 1], (SH L), M1)))) ∧ (¬ (¬ (M1 154 (M1 181 a1)) = 3) → ((¬ v2 = 3 → o = ([aI 0], (SH L), M1)) ∧ (¬ (¬ v2 = 3) → o = ([aI 1], (SH L), M1))))))))) : aE 250 [aR 145, aI a1] (SH L) M o := by
  have q : aX xc_250 (aSeek xc_250 0) [aR 145, aI a1, aU] [] (SH L) M o := by
    obtain ⟨M1, v2, k3, h⟩ := h
    have h2 : aX xc_250 (aSeek xc_250 5) [aR 145, aI a1, aU] [aI v2] (SH L) M1 o := by
      obtain ⟨c4, h⟩ := h
      by_cases cc : (M1 193 a1) = 0
      · replace h := h.1 cc
        have t5 : aX xc_250 (aSeek xc_250 46) [aR 145, aI a1, aI v2] [] (SH L) M1 o := by
          subst h
          exact ⟨2, rfl⟩
        exact aX_seg 6 (fun n g => ip c4 (ip cc (g))) t5
      · replace h := h.2 cc
        have t6 : aX xc_250 (aSeek xc_250 15) [aR 145, aI a1, aI v2] [] (SH L) M1 o := by
          obtain ⟨c7, h⟩ := h
          obtain ⟨c8, h⟩ := h
          by_cases cc : ¬ (M1 154 (M1 181 a1)) = 3
          · replace h := h.1 cc
            have t9 : aX xc_250 (aSeek xc_250 38) [aR 145, aI a1, aI v2] [] (SH L) M1 o := by
              by_cases cc : v2 ≤ 0
              · replace h := h.1 cc
                have t10 : aX xc_250 (aSeek xc_250 46) [aR 145, aI a1, aI v2] [] (SH L) M1 o := by
                  subst h
                  exact ⟨2, rfl⟩
                exact aX_seg 2 (fun n g => ip cc (g)) t10
              · replace h := h.2 cc
                have t11 : aX xc_250 (aSeek xc_250 42) [aR 145, aI a1, aI v2] [] (SH L) M1 o := by
                  subst h
                  exact ⟨3, rfl⟩
                exact aX_seg 2 (fun n g => in_ cc (g)) t11
            exact aX_seg 9 (fun n g => ip c7 (ip c8 (ip cc (g)))) t9
          · replace h := h.2 cc
            have t12 : aX xc_250 (aSeek xc_250 30) [aR 145, aI a1, aI v2] [] (SH L) M1 o := by
              by_cases cc : ¬ v2 = 3
              · replace h := h.1 cc
                have t13 : aX xc_250 (aSeek xc_250 46) [aR 145, aI a1, aI v2] [] (SH L) M1 o := by
                  subst h
                  exact ⟨2, rfl⟩
                exact aX_seg 3 (fun n g => ip cc (g)) t13
              · replace h := h.2 cc
                have t14 : aX xc_250 (aSeek xc_250 35) [aR 145, aI a1, aI v2] [] (SH L) M1 o := by
                  subst h
                  exact ⟨4, rfl⟩
                exact aX_seg 3 (fun n g => in_ cc (g)) t14
            exact aX_seg 9 (fun n g => ip c7 (ip c8 (in_ cc (g)))) t12
        exact aX_seg 6 (fun n g => ip c4 (in_ cc (g))) t6
    exact aX_seg 2 (fun n g => g) (aX_callv (rfl) rfl rfl rfl k3 h2)
  exact q
/- TypeLockModel.heldMany()I -/
set_option maxRecDepth 100000 in
theorem en_251 {L : Nat} {M : aM} {o : aO} (h : aX xc_251 (aSeek xc_251 4) [aR 145, aI 0, aI 0] [] (SH L) M o) : aE 251 [aR 145] (SH L) M o := by
  have q : aX xc_251 (aSeek xc_251 0) [aR 145, aU, aU] [] (SH L) M o := by
    exact aX_seg 4 (fun n g => g) (h)
  exact q
set_option maxRecDepth 100000 in
theorem bl_251_4 {L : Nat} {a1 a2 : Int} {M : aM} {o : aO} (h : (((M 179 0) ≤ a2 → o = ([aI a1], (SH L), M)) ∧ (¬ ((M 179 0) ≤ a2) → (∃ (M1 : aM) (v2 : Int), aE 250 [aR 145, aI a2] (SH L) M ([aI v2], (SH L), M1) ∧ ((v2 = 0 → aX xc_251 (aSeek xc_251 28) [aR 145, aU, aI a2] [aI 0, aI a1] (SH L) M1 o) ∧ (¬ (v2 = 0) → aX xc_251 (aSeek xc_251 28) [aR 145, aU, aI a2] [aI 1, aI a1] (SH L) M1 o)))))) : aX xc_251 (aSeek xc_251 4) [aR 145, aI a1, aI a2] [] (SH L) M o := by
  by_cases cc : (M 179 0) ≤ a2
  · replace h := h.1 cc
    have t3 : aX xc_251 (aSeek xc_251 36) [aR 145, aI a1, aI a2] [] (SH L) M o := by
      subst h
      exact ⟨2, rfl⟩
    exact aX_seg 6 (fun n g => ip cc (g)) t3
  · replace h := h.2 cc
    have t4 : aX xc_251 (aSeek xc_251 14) [aR 145, aI a1, aI a2] [] (SH L) M o := by
      obtain ⟨M1, v2, k5, h⟩ := h
      have h2 : aX xc_251 (aSeek xc_251 20) [aR 145, aI a1, aI a2] [aI v2, aI a1] (SH L) M1 o := by
        by_cases cc : v2 = 0
        · replace h := h.1 cc
          have t6 : aX xc_251 (aSeek xc_251 27) [aR 145, aI a1, aI a2] [aI a1] (SH L) M1 o := by
            exact aX_seg 1 (fun n g => g) (aX_le (ls := [aR 145, aU, aI a2]) (ls1 := [aR 145, aI a1, aI a2]) (⟨Or.inr rfl, ⟨Or.inl rfl, ⟨Or.inr rfl, trivial⟩⟩⟩) h)
          exact aX_seg 1 (fun n g => ip cc (g)) t6
        · replace h := h.2 cc
          have t7 : aX xc_251 (aSeek xc_251 23) [aR 145, aI a1, aI a2] [aI a1] (SH L) M1 o := by
            exact aX_seg 2 (fun n g => g) (aX_le (ls := [aR 145, aU, aI a2]) (ls1 := [aR 145, aI a1, aI a2]) (⟨Or.inr rfl, ⟨Or.inl rfl, ⟨Or.inr rfl, trivial⟩⟩⟩) h)
          exact aX_seg 1 (fun n g => in_ cc (g)) t7
      exact aX_seg 3 (fun n g => g) (aX_callv (rfl) rfl rfl rfl k5 h2)
    exact aX_seg 6 (fun n g => in_ cc (g)) t4
set_option maxRecDepth 100000 in
theorem bl_251_28 {L : Nat} {a2 b0 b1 : Int} {M : aM} {o : aO} (h : aX xc_251 (aSeek xc_251 4) [aR 145, aI (aW (b0 + b1)), aI (aW (a2 + 1))] [] (SH L) M o) : aX xc_251 (aSeek xc_251 28) [aR 145, aU, aI a2] [aI b1, aI b0] (SH L) M o := by
  exact aX_seg 4 (fun n g => g) (h)
/- TypeLockModel.pushed(II)I -/
set_option maxRecDepth 100000 in
theorem en_252 {L : Nat} {a1 a2 : Int} {M : aM} {o : aO} (h : (∃ (M1 : aM) (v2 : Int), aE 221 [aR 145, aI a1] (SH L) M ([aI v2], (SH L), M1) ∧ ((v2 = 0 → o = ([aI ((-1))], (SH L), M1)) ∧ (¬ (v2 = 0) → (∃ (M3 : aM) (v4 : Int), aE 219 [aI a2, aI 0, aI 3] (SH L) M1 ([aI v4], (SH L), M3) ∧ ((¬ v4 = 0 → (∃ (M5 : aM), aE 247 [aR 145] (SH L) M3 ([], (SH L), M5) ∧ (0 ≤ aW ((aW (40 * a2)) + a1) ∧ aW ((aW (40 * a2)) + a1) < aLn (SH L) 4 194) ∧ (((M5 194 (aW ((aW (40 * a2)) + a1))) = 0 → o = ([aI 0], (SH L), M5)) ∧ (¬ ((M5 194 (aW ((aW (40 * a2)) + a1))) = 0) → o = ([aI 1], (SH L), M5))))) ∧ (¬ (¬ v4 = 0) → o = ([aI ((-1))], (SH L), M3)))))))) : aE 252 [aR 145, aI a1, aI a2] (SH L) M o := by
  have q : aX xc_252 (aSeek xc_252 0) [aR 145, aI a1, aI a2] [] (SH L) M o := by
    obtain ⟨M1, v2, k6, h⟩ := h
    have h2 : aX xc_252 (aSeek xc_252 5) [aR 145, aI a1, aI a2] [aI v2] (SH L) M1 o := by
      by_cases cc : v2 = 0
      · replace h := h.1 cc
        have t7 : aX xc_252 (aSeek xc_252 17) [aR 145, aI a1, aI a2] [] (SH L) M1 o := by
          subst h
          exact ⟨2, rfl⟩
        exact aX_seg 1 (fun n g => ip cc (g)) t7
      · replace h := h.2 cc
        have t8 : aX xc_252 (aSeek xc_252 8) [aR 145, aI a1, aI a2] [] (SH L) M1 o := by
          obtain ⟨M3, v4, k9, h⟩ := h
          have h2 : aX xc_252 (aSeek xc_252 14) [aR 145, aI a1, aI a2] [aI v4] (SH L) M3 o := by
            by_cases cc : ¬ v4 = 0
            · replace h := h.1 cc
              have t10 : aX xc_252 (aSeek xc_252 19) [aR 145, aI a1, aI a2] [] (SH L) M3 o := by
                obtain ⟨M5, k11, h⟩ := h
                have h2 : aX xc_252 (aSeek xc_252 23) [aR 145, aI a1, aI a2] [] (SH L) M5 o := by
                  obtain ⟨c12, h⟩ := h
                  by_cases cc : (M5 194 (aW ((aW (40 * a2)) + a1))) = 0
                  · replace h := h.1 cc
                    have t13 : aX xc_252 (aSeek xc_252 41) [aR 145, aI a1, aI a2] [] (SH L) M5 o := by
                      subst h
                      exact ⟨2, rfl⟩
                    exact aX_seg 9 (fun n g => ip c12 (ip cc (g))) t13
                  · replace h := h.2 cc
                    have t14 : aX xc_252 (aSeek xc_252 37) [aR 145, aI a1, aI a2] [] (SH L) M5 o := by
                      subst h
                      exact ⟨3, rfl⟩
                    exact aX_seg 9 (fun n g => ip c12 (in_ cc (g))) t14
                exact aX_seg 1 (fun n g => g) (aX_callv (rfl) rfl rfl rfl k11 h2)
              exact aX_seg 1 (fun n g => ip cc (g)) t10
            · replace h := h.2 cc
              have t15 : aX xc_252 (aSeek xc_252 17) [aR 145, aI a1, aI a2] [] (SH L) M3 o := by
                subst h
                exact ⟨2, rfl⟩
              exact aX_seg 1 (fun n g => in_ cc (g)) t15
          exact aX_seg 3 (fun n g => g) (aX_calls rfl rfl rfl k9 h2)
        exact aX_seg 1 (fun n g => in_ cc (g)) t8
    exact aX_seg 2 (fun n g => g) (aX_callv (rfl) rfl rfl rfl k6 h2)
  exact q
/- TypeLockModel.borne(II)I -/
set_option maxRecDepth 100000 in
theorem en_253 {L : Nat} {a1 a2 : Int} {M : aM} {o : aO} (h : (∃ (M1 : aM) (v2 : Int), aE 221 [aR 145, aI a1] (SH L) M ([aI v2], (SH L), M1) ∧ ((v2 = 0 → o = ([aI ((-1))], (SH L), M1)) ∧ (¬ (v2 = 0) → (∃ (M3 : aM) (v4 : Int), aE 219 [aI a2, aI 0, aI 3] (SH L) M1 ([aI v4], (SH L), M3) ∧ ((¬ v4 = 0 → (∃ (M5 : aM), aE 247 [aR 145] (SH L) M3 ([], (SH L), M5) ∧ (0 ≤ aW ((aW (40 * a2)) + a1) ∧ aW ((aW (40 * a2)) + a1) < aLn (SH L) 4 195) ∧ (((M5 195 (aW ((aW (40 * a2)) + a1))) = 0 → o = ([aI 0], (SH L), M5)) ∧ (¬ ((M5 195 (aW ((aW (40 * a2)) + a1))) = 0) → o = ([aI 1], (SH L), M5))))) ∧ (¬ (¬ v4 = 0) → o = ([aI ((-1))], (SH L), M3)))))))) : aE 253 [aR 145, aI a1, aI a2] (SH L) M o := by
  have q : aX xc_253 (aSeek xc_253 0) [aR 145, aI a1, aI a2] [] (SH L) M o := by
    obtain ⟨M1, v2, k6, h⟩ := h
    have h2 : aX xc_253 (aSeek xc_253 5) [aR 145, aI a1, aI a2] [aI v2] (SH L) M1 o := by
      by_cases cc : v2 = 0
      · replace h := h.1 cc
        have t7 : aX xc_253 (aSeek xc_253 17) [aR 145, aI a1, aI a2] [] (SH L) M1 o := by
          subst h
          exact ⟨2, rfl⟩
        exact aX_seg 1 (fun n g => ip cc (g)) t7
      · replace h := h.2 cc
        have t8 : aX xc_253 (aSeek xc_253 8) [aR 145, aI a1, aI a2] [] (SH L) M1 o := by
          obtain ⟨M3, v4, k9, h⟩ := h
          have h2 : aX xc_253 (aSeek xc_253 14) [aR 145, aI a1, aI a2] [aI v4] (SH L) M3 o := by
            by_cases cc : ¬ v4 = 0
            · replace h := h.1 cc
              have t10 : aX xc_253 (aSeek xc_253 19) [aR 145, aI a1, aI a2] [] (SH L) M3 o := by
                obtain ⟨M5, k11, h⟩ := h
                have h2 : aX xc_253 (aSeek xc_253 23) [aR 145, aI a1, aI a2] [] (SH L) M5 o := by
                  obtain ⟨c12, h⟩ := h
                  by_cases cc : (M5 195 (aW ((aW (40 * a2)) + a1))) = 0
                  · replace h := h.1 cc
                    have t13 : aX xc_253 (aSeek xc_253 41) [aR 145, aI a1, aI a2] [] (SH L) M5 o := by
                      subst h
                      exact ⟨2, rfl⟩
                    exact aX_seg 9 (fun n g => ip c12 (ip cc (g))) t13
                  · replace h := h.2 cc
                    have t14 : aX xc_253 (aSeek xc_253 37) [aR 145, aI a1, aI a2] [] (SH L) M5 o := by
                      subst h
                      exact ⟨3, rfl⟩
                    exact aX_seg 9 (fun n g => ip c12 (in_ cc (g))) t14
                exact aX_seg 1 (fun n g => g) (aX_callv (rfl) rfl rfl rfl k11 h2)
              exact aX_seg 1 (fun n g => ip cc (g)) t10
            · replace h := h.2 cc
              have t15 : aX xc_253 (aSeek xc_253 17) [aR 145, aI a1, aI a2] [] (SH L) M3 o := by
                subst h
                exact ⟨2, rfl⟩
              exact aX_seg 1 (fun n g => in_ cc (g)) t15
          exact aX_seg 3 (fun n g => g) (aX_calls rfl rfl rfl k9 h2)
        exact aX_seg 1 (fun n g => in_ cc (g)) t8
    exact aX_seg 2 (fun n g => g) (aX_callv (rfl) rfl rfl rfl k6 h2)
  exact q
/- TypeLockModel.held(I)I -/
set_option maxRecDepth 100000 in
theorem en_254 {L : Nat} {a1 : Int} {M : aM} {o : aO} (h : (∃ (M1 : aM) (v2 : Int), aE 221 [aR 145, aI a1] (SH L) M ([aI v2], (SH L), M1) ∧ ((¬ v2 = 0 → (∃ (M3 : aM), aE 247 [aR 145] (SH L) M1 ([], (SH L), M3) ∧ (∃ (M4 : aM) (v5 : Int), aE 249 [aR 145, aI a1] (SH L) M3 ([aI v5], (SH L), M4) ∧ o = ([aI v5], (SH L), M4)))) ∧ (¬ (¬ v2 = 0) → o = ([aI ((-1))], (SH L), M1))))) : aE 254 [aR 145, aI a1] (SH L) M o := by
  have q : aX xc_254 (aSeek xc_254 0) [aR 145, aI a1] [] (SH L) M o := by
    obtain ⟨M1, v2, k6, h⟩ := h
    have h2 : aX xc_254 (aSeek xc_254 5) [aR 145, aI a1] [aI v2] (SH L) M1 o := by
      by_cases cc : ¬ v2 = 0
      · replace h := h.1 cc
        have t7 : aX xc_254 (aSeek xc_254 10) [aR 145, aI a1] [] (SH L) M1 o := by
          obtain ⟨M3, k8, h⟩ := h
          have h2 : aX xc_254 (aSeek xc_254 14) [aR 145, aI a1] [] (SH L) M3 o := by
            obtain ⟨M4, v5, k9, h⟩ := h
            have h2 : aX xc_254 (aSeek xc_254 19) [aR 145, aI a1] [aI v5] (SH L) M4 o := by
              subst h
              exact ⟨1, rfl⟩
            exact aX_seg 2 (fun n g => g) (aX_callv (rfl) rfl rfl rfl k9 h2)
          exact aX_seg 1 (fun n g => g) (aX_callv (rfl) rfl rfl rfl k8 h2)
        exact aX_seg 1 (fun n g => ip cc (g)) t7
      · replace h := h.2 cc
        have t10 : aX xc_254 (aSeek xc_254 8) [aR 145, aI a1] [] (SH L) M1 o := by
          subst h
          exact ⟨2, rfl⟩
        exact aX_seg 1 (fun n g => in_ cc (g)) t10
    exact aX_seg 2 (fun n g => g) (aX_callv (rfl) rfl rfl rfl k6 h2)
  exact q
/- TypeLockModel.holding()I -/
set_option maxRecDepth 100000 in
theorem en_255 {L : Nat} {M : aM} {o : aO} (h : (∃ (M1 : aM), aE 247 [aR 145] (SH L) M ([], (SH L), M1) ∧ (∃ (M2 : aM) (v3 : Int), aE 251 [aR 145] (SH L) M1 ([aI v3], (SH L), M2) ∧ o = ([aI v3], (SH L), M2)))) : aE 255 [aR 145] (SH L) M o := by
  have q : aX xc_255 (aSeek xc_255 0) [aR 145] [] (SH L) M o := by
    obtain ⟨M1, k4, h⟩ := h
    have h2 : aX xc_255 (aSeek xc_255 4) [aR 145] [] (SH L) M1 o := by
      obtain ⟨M2, v3, k5, h⟩ := h
      have h2 : aX xc_255 (aSeek xc_255 8) [aR 145] [aI v3] (SH L) M2 o := by
        subst h
        exact ⟨1, rfl⟩
      exact aX_seg 1 (fun n g => g) (aX_callv (rfl) rfl rfl rfl k5 h2)
    exact aX_seg 1 (fun n g => g) (aX_callv (rfl) rfl rfl rfl k4 h2)
  exact q
/- TypeLockModel.lift()V -/
set_option maxRecDepth 100000 in
theorem en_256 {L : Nat} {M : aM} {o : aO} (h : aX xc_256 (aSeek xc_256 2) [aR 145, aI 0, aU, aU] [] (SH L) M o) : aE 256 [aR 145] (SH L) M o := by
  have q : aX xc_256 (aSeek xc_256 0) [aR 145, aU, aU, aU] [] (SH L) M o := by
    exact aX_seg 2 (fun n g => g) (h)
  exact q
set_option maxRecDepth 100000 in
theorem bl_256_2 {L : Nat} {a1 : Int} {M : aM} {o : aO} (h : ((40 ≤ a1 → aX xc_256 (aSeek xc_256 42) [aR 145, aI 1, aI 1, aU] [] (SH L) (aSet M 145 61 (M 180 0)) o) ∧ (¬ (40 ≤ a1) → ((0 ≤ a1 ∧ a1 < aLn (SH L) 4 193) ∧ ((1 : Int) = 0 ∨ (1 : Int) = 1)) ∧ (0 ≤ a1 ∧ a1 < aLn (SH L) 1 197) ∧ aX xc_256 (aSeek xc_256 2) [aR 145, aI (aW (a1 + 1)), aU, aU] [] (SH L) (aSet (aSet M 193 a1 1) 197 a1 0) o))) : aX xc_256 (aSeek xc_256 2) [aR 145, aI a1, aU, aU] [] (SH L) M o := by
  by_cases cc : 40 ≤ a1
  · replace h := h.1 cc
    have t1 : aX xc_256 (aSeek xc_256 28) [aR 145, aI a1, aU, aU] [] (SH L) M o := by
      exact aX_seg 10 (fun n g => g) (h)
    exact aX_seg 3 (fun n g => ip cc (g)) t1
  · replace h := h.2 cc
    have t2 : aX xc_256 (aSeek xc_256 8) [aR 145, aI a1, aU, aU] [] (SH L) M o := by
      obtain ⟨c3, h⟩ := h
      obtain ⟨c4, h⟩ := h
      exact aX_seg 12 (fun n g => ip c3 (ip c4 (g))) (h)
    exact aX_seg 3 (fun n g => in_ cc (g)) t2
set_option maxRecDepth 100000 in
theorem bl_256_42 {L : Nat} {a1 a2 : Int} {M : aM} {o : aO} (h : ((a1 = 0 → o = ([], (SH L), M)) ∧ (¬ (a1 = 0) → (∃ (M1 : aM), aE 246 [aR 145] (SH L) M ([], (SH L), M1) ∧ aX xc_256 (aSeek xc_256 54) [aR 145, aI 0, aI a2, aI 0] [] (SH L) M1 o)))) : aX xc_256 (aSeek xc_256 42) [aR 145, aI a1, aI a2, aU] [] (SH L) M o := by
  by_cases cc : a1 = 0
  · replace h := h.1 cc
    have t2 : aX xc_256 (aSeek xc_256 142) [aR 145, aI a1, aI a2, aU] [] (SH L) M o := by
      subst h
      exact ⟨1, rfl⟩
    exact aX_seg 2 (fun n g => ip cc (g)) t2
  · replace h := h.2 cc
    have t3 : aX xc_256 (aSeek xc_256 46) [aR 145, aI a1, aI a2, aU] [] (SH L) M o := by
      obtain ⟨M1, k4, h⟩ := h
      have h2 : aX xc_256 (aSeek xc_256 52) [aR 145, aI 0, aI a2, aU] [] (SH L) M1 o := by
        exact aX_seg 2 (fun n g => g) (h)
      exact aX_seg 3 (fun n g => g) (aX_callv (rfl) rfl rfl rfl k4 h2)
    exact aX_seg 2 (fun n g => in_ cc (g)) t3
set_option maxRecDepth 100000 in
theorem bl_256_54 {L : Nat} {a1 a2 a3 : Int} {M : aM} {o : aO} (h : (((M 179 0) ≤ a3 → aX xc_256 (aSeek xc_256 83) [aR 145, aI a1, aI a2, aI 0] [] (SH L) M o) ∧ (¬ ((M 179 0) ≤ a3) → (∃ (M1 : aM) (v2 : Int), aE 250 [aR 145, aI a3] (SH L) M ([aI v2], (SH L), M1) ∧ ((0 ≤ a3 ∧ a3 < aLn (SH L) 4 198) ∧ (v2 = 0 ∨ v2 = 1)) ∧ aX xc_256 (aSeek xc_256 54) [aR 145, aI a1, aI a2, aI (aW (a3 + 1))] [] (SH L) (aSet M1 198 a3 v2) o)))) : aX xc_256 (aSeek xc_256 54) [aR 145, aI a1, aI a2, aI a3] [] (SH L) M o := by
  by_cases cc : (M 179 0) ≤ a3
  · replace h := h.1 cc
    have t3 : aX xc_256 (aSeek xc_256 81) [aR 145, aI a1, aI a2, aI a3] [] (SH L) M o := by
      exact aX_seg 2 (fun n g => g) (h)
    exact aX_seg 6 (fun n g => ip cc (g)) t3
  · replace h := h.2 cc
    have t4 : aX xc_256 (aSeek xc_256 64) [aR 145, aI a1, aI a2, aI a3] [] (SH L) M o := by
      obtain ⟨M1, v2, k5, h⟩ := h
      have h2 : aX xc_256 (aSeek xc_256 74) [aR 145, aI a1, aI a2, aI a3] [aI v2, aI a3, aR 198] (SH L) M1 o := by
        obtain ⟨c6, h⟩ := h
        exact aX_seg 3 (fun n g => ip c6 (g)) (h)
      exact aX_seg 5 (fun n g => g) (aX_callv (rfl) rfl rfl rfl k5 h2)
    exact aX_seg 6 (fun n g => in_ cc (g)) t4
set_option maxRecDepth 100000 in
theorem bl_256_83 {L : Nat} {a1 a2 a3 : Int} {M : aM} {o : aO} (h : (((M 179 0) ≤ a3 → aX xc_256 (aSeek xc_256 42) [aR 145, aI a1, aI (aW (a2 + 1)), aU] [] (SH L) M o) ∧ (¬ ((M 179 0) ≤ a3) → (0 ≤ a3 ∧ a3 < aLn (SH L) 4 193) ∧ (((M 193 a3) = 0 → aX xc_256 (aSeek xc_256 130) [aR 145, aI a1, aI a2, aI a3] [] (SH L) M o) ∧ (¬ ((M 193 a3) = 0) → (0 ≤ a3 ∧ a3 < aLn (SH L) 4 198) ∧ (((M 198 a3) = 0 → (0 ≤ a3 ∧ a3 < aLn (SH L) 1 197) ∧ ((0 ≤ a3 ∧ a3 < aLn (SH L) 4 193) ∧ ((0 : Int) = 0 ∨ (0 : Int) = 1)) ∧ aX xc_256 (aSeek xc_256 130) [aR 145, aI 1, aI a2, aI a3] [] (SH L) (aSet (aSet M 197 a3 a2) 193 a3 0) o) ∧ (¬ ((M 198 a3) = 0) → aX xc_256 (aSeek xc_256 130) [aR 145, aI a1, aI a2, aI a3] [] (SH L) M o))))))) : aX xc_256 (aSeek xc_256 83) [aR 145, aI a1, aI a2, aI a3] [] (SH L) M o := by
  by_cases cc : (M 179 0) ≤ a3
  · replace h := h.1 cc
    have t1 : aX xc_256 (aSeek xc_256 136) [aR 145, aI a1, aI a2, aI a3] [] (SH L) M o := by
      exact aX_seg 2 (fun n g => g) (aX_le (ls := [aR 145, aI a1, aI (aW (a2 + 1)), aU]) (ls1 := [aR 145, aI a1, aI (aW (a2 + 1)), aI a3]) (⟨Or.inr rfl, ⟨Or.inr rfl, ⟨Or.inr rfl, ⟨Or.inl rfl, trivial⟩⟩⟩⟩) h)
    exact aX_seg 6 (fun n g => ip cc (g)) t1
  · replace h := h.2 cc
    have t2 : aX xc_256 (aSeek xc_256 93) [aR 145, aI a1, aI a2, aI a3] [] (SH L) M o := by
      obtain ⟨c3, h⟩ := h
      by_cases cc : (M 193 a3) = 0
      · replace h := h.1 cc
        have t4 : aX xc_256 (aSeek xc_256 130) [aR 145, aI a1, aI a2, aI a3] [] (SH L) M o := by
          exact h
        exact aX_seg 5 (fun n g => ip c3 (ip cc (g))) t4
      · replace h := h.2 cc
        have t5 : aX xc_256 (aSeek xc_256 102) [aR 145, aI a1, aI a2, aI a3] [] (SH L) M o := by
          obtain ⟨c6, h⟩ := h
          by_cases cc : (M 198 a3) = 0
          · replace h := h.1 cc
            have t7 : aX xc_256 (aSeek xc_256 114) [aR 145, aI a1, aI a2, aI a3] [] (SH L) M o := by
              obtain ⟨c8, h⟩ := h
              obtain ⟨c9, h⟩ := h
              exact aX_seg 12 (fun n g => ip c8 (ip c9 (g))) (h)
            exact aX_seg 5 (fun n g => ip c6 (ip cc (g))) t7
          · replace h := h.2 cc
            have t10 : aX xc_256 (aSeek xc_256 111) [aR 145, aI a1, aI a2, aI a3] [] (SH L) M o := by
              exact aX_seg 1 (fun n g => g) (h)
            exact aX_seg 5 (fun n g => ip c6 (in_ cc (g))) t10
        exact aX_seg 5 (fun n g => ip c3 (in_ cc (g))) t5
    exact aX_seg 6 (fun n g => in_ cc (g)) t2
set_option maxRecDepth 100000 in
theorem bl_256_130 {L : Nat} {a1 a2 a3 : Int} {M : aM} {o : aO} (h : aX xc_256 (aSeek xc_256 83) [aR 145, aI a1, aI a2, aI (aW (a3 + 1))] [] (SH L) M o) : aX xc_256 (aSeek xc_256 130) [aR 145, aI a1, aI a2, aI a3] [] (SH L) M o := by
  exact aX_seg 2 (fun n g => g) (h)
/- TypeLockModel.drops(I)I -/
set_option maxRecDepth 100000 in
theorem en_257 {L : Nat} {a1 : Int} {M : aM} {o : aO} (h : (∃ (M1 : aM) (v2 : Int), aE 221 [aR 145, aI a1] (SH L) M ([aI v2], (SH L), M1) ∧ ((¬ v2 = 0 → (∃ (M3 : aM), aE 256 [aR 145] (SH L) M1 ([], (SH L), M3) ∧ (0 ≤ a1 ∧ a1 < aLn (SH L) 1 197) ∧ o = ([aI (M3 197 a1)], (SH L), M3))) ∧ (¬ (¬ v2 = 0) → o = ([aI ((-1))], (SH L), M1))))) : aE 257 [aR 145, aI a1] (SH L) M o := by
  have q : aX xc_257 (aSeek xc_257 0) [aR 145, aI a1] [] (SH L) M o := by
    obtain ⟨M1, v2, k4, h⟩ := h
    have h2 : aX xc_257 (aSeek xc_257 5) [aR 145, aI a1] [aI v2] (SH L) M1 o := by
      by_cases cc : ¬ v2 = 0
      · replace h := h.1 cc
        have t5 : aX xc_257 (aSeek xc_257 10) [aR 145, aI a1] [] (SH L) M1 o := by
          obtain ⟨M3, k6, h⟩ := h
          have h2 : aX xc_257 (aSeek xc_257 14) [aR 145, aI a1] [] (SH L) M3 o := by
            obtain ⟨c7, h⟩ := h
            subst h
            exact ⟨5, ip c7 (rfl)⟩
          exact aX_seg 1 (fun n g => g) (aX_callv (rfl) rfl rfl rfl k6 h2)
        exact aX_seg 1 (fun n g => ip cc (g)) t5
      · replace h := h.2 cc
        have t8 : aX xc_257 (aSeek xc_257 8) [aR 145, aI a1] [] (SH L) M1 o := by
          subst h
          exact ⟨2, rfl⟩
        exact aX_seg 1 (fun n g => in_ cc (g)) t8
    exact aX_seg 2 (fun n g => g) (aX_callv (rfl) rfl rfl rfl k4 h2)
  exact q
/- TypeLockModel.round(I)I -/
set_option maxRecDepth 100000 in
theorem en_258 {L : Nat} {a1 : Int} {M : aM} {o : aO} (h : ((0 ≤ a1 → (∃ (M1 : aM), aE 256 [aR 145] (SH L) M ([], (SH L), M1) ∧ aX xc_258 (aSeek xc_258 14) [aR 145, aI a1, aI 0, aI 0] [] (SH L) M1 o)) ∧ (¬ (0 ≤ a1) → o = ([aI ((-1))], (SH L), M)))) : aE 258 [aR 145, aI a1] (SH L) M o := by
  have q : aX xc_258 (aSeek xc_258 0) [aR 145, aI a1, aU, aU] [] (SH L) M o := by
    by_cases cc : 0 ≤ a1
    · replace h := h.1 cc
      have t2 : aX xc_258 (aSeek xc_258 6) [aR 145, aI a1, aU, aU] [] (SH L) M o := by
        obtain ⟨M1, k3, h⟩ := h
        have h2 : aX xc_258 (aSeek xc_258 10) [aR 145, aI a1, aU, aU] [] (SH L) M1 o := by
          exact aX_seg 4 (fun n g => g) (h)
        exact aX_seg 1 (fun n g => g) (aX_callv (rfl) rfl rfl rfl k3 h2)
      exact aX_seg 2 (fun n g => ip cc (g)) t2
    · replace h := h.2 cc
      have t4 : aX xc_258 (aSeek xc_258 4) [aR 145, aI a1, aU, aU] [] (SH L) M o := by
        subst h
        exact ⟨2, rfl⟩
      exact aX_seg 2 (fun n g => in_ cc (g)) t4
  exact q
set_option maxRecDepth 100000 in
theorem bl_258_14 {L : Nat} {a1 a2 a3 : Int} {M : aM} {o : aO} (h : (((M 179 0) ≤ a3 → o = ([aI a2], (SH L), M)) ∧ (¬ ((M 179 0) ≤ a3) → (0 ≤ a3 ∧ a3 < aLn (SH L) 1 197) ∧ (((M 197 a3) ≤ 0 → aX xc_258 (aSeek xc_258 52) [aR 145, aI a1, aU, aI a3] [aI a2] (SH L) M o) ∧ (¬ ((M 197 a3) ≤ 0) → ((a1 = 0 → aX xc_258 (aSeek xc_258 48) [aR 145, aI a1, aU, aI a3] [aI a2] (SH L) M o) ∧ (¬ (a1 = 0) → (0 ≤ a3 ∧ a3 < aLn (SH L) 1 197) ∧ ((¬ (M 197 a3) = a1 → aX xc_258 (aSeek xc_258 52) [aR 145, aI a1, aU, aI a3] [aI a2] (SH L) M o) ∧ (¬ (¬ (M 197 a3) = a1) → aX xc_258 (aSeek xc_258 48) [aR 145, aI a1, aU, aI a3] [aI a2] (SH L) M o))))))))) : aX xc_258 (aSeek xc_258 14) [aR 145, aI a1, aI a2, aI a3] [] (SH L) M o := by
  by_cases cc : (M 179 0) ≤ a3
  · replace h := h.1 cc
    have t1 : aX xc_258 (aSeek xc_258 61) [aR 145, aI a1, aI a2, aI a3] [] (SH L) M o := by
      subst h
      exact ⟨2, rfl⟩
    exact aX_seg 6 (fun n g => ip cc (g)) t1
  · replace h := h.2 cc
    have t2 : aX xc_258 (aSeek xc_258 24) [aR 145, aI a1, aI a2, aI a3] [] (SH L) M o := by
      obtain ⟨c3, h⟩ := h
      by_cases cc : (M 197 a3) ≤ 0
      · replace h := h.1 cc
        have t4 : aX xc_258 (aSeek xc_258 52) [aR 145, aI a1, aI a2, aI a3] [aI a2] (SH L) M o := by
          exact aX_le (ls := [aR 145, aI a1, aU, aI a3]) (ls1 := [aR 145, aI a1, aI a2, aI a3]) (⟨Or.inr rfl, ⟨Or.inr rfl, ⟨Or.inl rfl, ⟨Or.inr rfl, trivial⟩⟩⟩⟩) h
        exact aX_seg 6 (fun n g => ip c3 (ip cc (g))) t4
      · replace h := h.2 cc
        have t5 : aX xc_258 (aSeek xc_258 34) [aR 145, aI a1, aI a2, aI a3] [aI a2] (SH L) M o := by
          by_cases cc : a1 = 0
          · replace h := h.1 cc
            have t6 : aX xc_258 (aSeek xc_258 48) [aR 145, aI a1, aI a2, aI a3] [aI a2] (SH L) M o := by
              exact aX_le (ls := [aR 145, aI a1, aU, aI a3]) (ls1 := [aR 145, aI a1, aI a2, aI a3]) (⟨Or.inr rfl, ⟨Or.inr rfl, ⟨Or.inl rfl, ⟨Or.inr rfl, trivial⟩⟩⟩⟩) h
            exact aX_seg 2 (fun n g => ip cc (g)) t6
          · replace h := h.2 cc
            have t7 : aX xc_258 (aSeek xc_258 38) [aR 145, aI a1, aI a2, aI a3] [aI a2] (SH L) M o := by
              obtain ⟨c8, h⟩ := h
              by_cases cc : ¬ (M 197 a3) = a1
              · replace h := h.1 cc
                have t9 : aX xc_258 (aSeek xc_258 52) [aR 145, aI a1, aI a2, aI a3] [aI a2] (SH L) M o := by
                  exact aX_le (ls := [aR 145, aI a1, aU, aI a3]) (ls1 := [aR 145, aI a1, aI a2, aI a3]) (⟨Or.inr rfl, ⟨Or.inr rfl, ⟨Or.inl rfl, ⟨Or.inr rfl, trivial⟩⟩⟩⟩) h
                exact aX_seg 6 (fun n g => ip c8 (ip cc (g))) t9
              · replace h := h.2 cc
                have t10 : aX xc_258 (aSeek xc_258 48) [aR 145, aI a1, aI a2, aI a3] [aI a2] (SH L) M o := by
                  exact aX_le (ls := [aR 145, aI a1, aU, aI a3]) (ls1 := [aR 145, aI a1, aI a2, aI a3]) (⟨Or.inr rfl, ⟨Or.inr rfl, ⟨Or.inl rfl, ⟨Or.inr rfl, trivial⟩⟩⟩⟩) h
                exact aX_seg 6 (fun n g => ip c8 (in_ cc (g))) t10
            exact aX_seg 2 (fun n g => in_ cc (g)) t7
        exact aX_seg 6 (fun n g => ip c3 (in_ cc (g))) t5
    exact aX_seg 6 (fun n g => in_ cc (g)) t2
set_option maxRecDepth 100000 in
theorem bl_258_48 {L : Nat} {a1 a3 b0 : Int} {M : aM} {o : aO} (h : aX xc_258 (aSeek xc_258 53) [aR 145, aI a1, aU, aI a3] [aI 1, aI b0] (SH L) M o) : aX xc_258 (aSeek xc_258 48) [aR 145, aI a1, aU, aI a3] [aI b0] (SH L) M o := by
  exact aX_seg 2 (fun n g => g) (h)
set_option maxRecDepth 100000 in
theorem bl_258_52 {L : Nat} {a1 a3 b0 : Int} {M : aM} {o : aO} (h : aX xc_258 (aSeek xc_258 53) [aR 145, aI a1, aU, aI a3] [aI 0, aI b0] (SH L) M o) : aX xc_258 (aSeek xc_258 52) [aR 145, aI a1, aU, aI a3] [aI b0] (SH L) M o := by
  exact aX_seg 1 (fun n g => g) (h)
set_option maxRecDepth 100000 in
theorem bl_258_53 {L : Nat} {a1 a3 b0 b1 : Int} {M : aM} {o : aO} (h : aX xc_258 (aSeek xc_258 14) [aR 145, aI a1, aI (aW (b0 + b1)), aI (aW (a3 + 1))] [] (SH L) M o) : aX xc_258 (aSeek xc_258 53) [aR 145, aI a1, aU, aI a3] [aI b1, aI b0] (SH L) M o := by
  exact aX_seg 4 (fun n g => g) (h)
/- TypeLockModel.keepsOf(I)I -/
set_option maxRecDepth 100000 in
theorem en_259 {L : Nat} {a1 : Int} {M : aM} {o : aO} (h : aX xc_259 (aSeek xc_259 2) [aR 145, aI a1, aI 0, aU] [] (SH L) M o) : aE 259 [aR 145, aI a1] (SH L) M o := by
  have q : aX xc_259 (aSeek xc_259 0) [aR 145, aI a1, aU, aU] [] (SH L) M o := by
    exact aX_seg 2 (fun n g => g) (h)
  exact q
set_option maxRecDepth 100000 in
theorem bl_259_2 {L : Nat} {a1 a2 : Int} {M : aM} {o : aO} (h : ((40 ≤ a2 → (∃ (M1 : aM), aE 246 [aR 145] (SH L) (aSet M 145 61 (M 180 0)) ([], (SH L), M1) ∧ aX xc_259 (aSeek xc_259 48) [aR 145, aI a1, aI 0, aI 0] [] (SH L) M1 o)) ∧ (¬ (40 ≤ a2) → ((a2 = a1 → aX xc_259 (aSeek xc_259 23) [aR 145, aI a1, aI a2, aU] [aI 0, aI a2, aR 193] (SH L) M o) ∧ (¬ (a2 = a1) → aX xc_259 (aSeek xc_259 23) [aR 145, aI a1, aI a2, aU] [aI 1, aI a2, aR 193] (SH L) M o))))) : aX xc_259 (aSeek xc_259 2) [aR 145, aI a1, aI a2, aU] [] (SH L) M o := by
  by_cases cc : 40 ≤ a2
  · replace h := h.1 cc
    have t2 : aX xc_259 (aSeek xc_259 30) [aR 145, aI a1, aI a2, aU] [] (SH L) M o := by
      obtain ⟨M1, k3, h⟩ := h
      have h2 : aX xc_259 (aSeek xc_259 44) [aR 145, aI a1, aI a2, aU] [] (SH L) M1 o := by
        exact aX_seg 4 (fun n g => g) (h)
      exact aX_seg 7 (fun n g => g) (aX_callv (rfl) rfl rfl rfl k3 h2)
    exact aX_seg 3 (fun n g => ip cc (g)) t2
  · replace h := h.2 cc
    have t4 : aX xc_259 (aSeek xc_259 8) [aR 145, aI a1, aI a2, aU] [] (SH L) M o := by
      by_cases cc : a2 = a1
      · replace h := h.1 cc
        have t5 : aX xc_259 (aSeek xc_259 22) [aR 145, aI a1, aI a2, aU] [aI a2, aR 193] (SH L) M o := by
          exact aX_seg 1 (fun n g => g) (h)
        exact aX_seg 6 (fun n g => ip cc (g)) t5
      · replace h := h.2 cc
        have t6 : aX xc_259 (aSeek xc_259 18) [aR 145, aI a1, aI a2, aU] [aI a2, aR 193] (SH L) M o := by
          exact aX_seg 2 (fun n g => g) (h)
        exact aX_seg 6 (fun n g => in_ cc (g)) t6
    exact aX_seg 3 (fun n g => in_ cc (g)) t4
set_option maxRecDepth 100000 in
theorem bl_259_23 {L : Nat} {a1 a2 b0 b1 b2 : Int} {M : aM} {o : aO} (h : ((0 ≤ b1 ∧ b1 < aLn (SH L) 4 b0) ∧ (b2 = 0 ∨ b2 = 1)) ∧ aX xc_259 (aSeek xc_259 2) [aR 145, aI a1, aI (aW (a2 + 1)), aU] [] (SH L) (aSet M b0 b1 b2) o) : aX xc_259 (aSeek xc_259 23) [aR 145, aI a1, aI a2, aU] [aI b2, aI b1, aR b0] (SH L) M o := by
  obtain ⟨c1, h⟩ := h
  exact aX_seg 3 (fun n g => ip c1 (g)) (h)
set_option maxRecDepth 100000 in
theorem bl_259_48 {L : Nat} {a1 a2 a3 : Int} {M : aM} {o : aO} (h : (((M 179 0) ≤ a3 → o = ([aI a2], (SH L), M)) ∧ (¬ ((M 179 0) ≤ a3) → ((a3 = a1 → aX xc_259 (aSeek xc_259 85) [aR 145, aI a1, aU, aI a3] [aI a2] (SH L) M o) ∧ (¬ (a3 = a1) → (0 ≤ a3 ∧ a3 < aLn (SH L) 4 198) ∧ (((M 198 a3) = 0 → aX xc_259 (aSeek xc_259 85) [aR 145, aI a1, aU, aI a3] [aI a2] (SH L) M o) ∧ (¬ ((M 198 a3) = 0) → (∃ (M1 : aM) (v2 : Int), aE 250 [aR 145, aI a3] (SH L) M ([aI v2], (SH L), M1) ∧ ((¬ v2 = 0 → aX xc_259 (aSeek xc_259 85) [aR 145, aI a1, aU, aI a3] [aI a2] (SH L) M1 o) ∧ (¬ (¬ v2 = 0) → aX xc_259 (aSeek xc_259 86) [aR 145, aI a1, aU, aI a3] [aI 1, aI a2] (SH L) M1 o)))))))))) : aX xc_259 (aSeek xc_259 48) [aR 145, aI a1, aI a2, aI a3] [] (SH L) M o := by
  by_cases cc : (M 179 0) ≤ a3
  · replace h := h.1 cc
    have t3 : aX xc_259 (aSeek xc_259 94) [aR 145, aI a1, aI a2, aI a3] [] (SH L) M o := by
      subst h
      exact ⟨2, rfl⟩
    exact aX_seg 6 (fun n g => ip cc (g)) t3
  · replace h := h.2 cc
    have t4 : aX xc_259 (aSeek xc_259 58) [aR 145, aI a1, aI a2, aI a3] [] (SH L) M o := by
      by_cases cc : a3 = a1
      · replace h := h.1 cc
        have t5 : aX xc_259 (aSeek xc_259 85) [aR 145, aI a1, aI a2, aI a3] [aI a2] (SH L) M o := by
          exact aX_le (ls := [aR 145, aI a1, aU, aI a3]) (ls1 := [aR 145, aI a1, aI a2, aI a3]) (⟨Or.inr rfl, ⟨Or.inr rfl, ⟨Or.inl rfl, ⟨Or.inr rfl, trivial⟩⟩⟩⟩) h
        exact aX_seg 4 (fun n g => ip cc (g)) t5
      · replace h := h.2 cc
        have t6 : aX xc_259 (aSeek xc_259 64) [aR 145, aI a1, aI a2, aI a3] [aI a2] (SH L) M o := by
          obtain ⟨c7, h⟩ := h
          by_cases cc : (M 198 a3) = 0
          · replace h := h.1 cc
            have t8 : aX xc_259 (aSeek xc_259 85) [aR 145, aI a1, aI a2, aI a3] [aI a2] (SH L) M o := by
              exact aX_le (ls := [aR 145, aI a1, aU, aI a3]) (ls1 := [aR 145, aI a1, aI a2, aI a3]) (⟨Or.inr rfl, ⟨Or.inr rfl, ⟨Or.inl rfl, ⟨Or.inr rfl, trivial⟩⟩⟩⟩) h
            exact aX_seg 5 (fun n g => ip c7 (ip cc (g))) t8
          · replace h := h.2 cc
            have t9 : aX xc_259 (aSeek xc_259 73) [aR 145, aI a1, aI a2, aI a3] [aI a2] (SH L) M o := by
              obtain ⟨M1, v2, k10, h⟩ := h
              have h2 : aX xc_259 (aSeek xc_259 78) [aR 145, aI a1, aI a2, aI a3] [aI v2, aI a2] (SH L) M1 o := by
                by_cases cc : ¬ v2 = 0
                · replace h := h.1 cc
                  have t11 : aX xc_259 (aSeek xc_259 85) [aR 145, aI a1, aI a2, aI a3] [aI a2] (SH L) M1 o := by
                    exact aX_le (ls := [aR 145, aI a1, aU, aI a3]) (ls1 := [aR 145, aI a1, aI a2, aI a3]) (⟨Or.inr rfl, ⟨Or.inr rfl, ⟨Or.inl rfl, ⟨Or.inr rfl, trivial⟩⟩⟩⟩) h
                  exact aX_seg 1 (fun n g => ip cc (g)) t11
                · replace h := h.2 cc
                  have t12 : aX xc_259 (aSeek xc_259 81) [aR 145, aI a1, aI a2, aI a3] [aI a2] (SH L) M1 o := by
                    exact aX_seg 2 (fun n g => g) (aX_le (ls := [aR 145, aI a1, aU, aI a3]) (ls1 := [aR 145, aI a1, aI a2, aI a3]) (⟨Or.inr rfl, ⟨Or.inr rfl, ⟨Or.inl rfl, ⟨Or.inr rfl, trivial⟩⟩⟩⟩) h)
                  exact aX_seg 1 (fun n g => in_ cc (g)) t12
              exact aX_seg 2 (fun n g => g) (aX_callv (rfl) rfl rfl rfl k10 h2)
            exact aX_seg 5 (fun n g => ip c7 (in_ cc (g))) t9
        exact aX_seg 4 (fun n g => in_ cc (g)) t6
    exact aX_seg 6 (fun n g => in_ cc (g)) t4
set_option maxRecDepth 100000 in
theorem bl_259_85 {L : Nat} {a1 a3 b0 : Int} {M : aM} {o : aO} (h : aX xc_259 (aSeek xc_259 86) [aR 145, aI a1, aU, aI a3] [aI 0, aI b0] (SH L) M o) : aX xc_259 (aSeek xc_259 85) [aR 145, aI a1, aU, aI a3] [aI b0] (SH L) M o := by
  exact aX_seg 1 (fun n g => g) (h)
set_option maxRecDepth 100000 in
theorem bl_259_86 {L : Nat} {a1 a3 b0 b1 : Int} {M : aM} {o : aO} (h : aX xc_259 (aSeek xc_259 48) [aR 145, aI a1, aI (aW (b0 + b1)), aI (aW (a3 + 1))] [] (SH L) M o) : aX xc_259 (aSeek xc_259 86) [aR 145, aI a1, aU, aI a3] [aI b1, aI b0] (SH L) M o := by
  exact aX_seg 4 (fun n g => g) (h)
/- TypeLockModel.layHeld()V -/
set_option maxRecDepth 100000 in
theorem en_260 {L : Nat} {M : aM} {o : aO} (h : (∃ (M1 : aM), aE 247 [aR 145] (SH L) M ([], (SH L), M1) ∧ aX xc_260 (aSeek xc_260 6) [aR 145, aI 0] [] (SH L) M1 o)) : aE 260 [aR 145] (SH L) M o := by
  have q : aX xc_260 (aSeek xc_260 0) [aR 145, aU] [] (SH L) M o := by
    obtain ⟨M1, k2, h⟩ := h
    have h2 : aX xc_260 (aSeek xc_260 4) [aR 145, aU] [] (SH L) M1 o := by
      exact aX_seg 2 (fun n g => g) (h)
    exact aX_seg 1 (fun n g => g) (aX_callv (rfl) rfl rfl rfl k2 h2)
  exact q
set_option maxRecDepth 100000 in
theorem bl_260_6 {L : Nat} {a1 : Int} {M : aM} {o : aO} (h : (((M 179 0) ≤ a1 → o = ([], (SH L), M)) ∧ (¬ ((M 179 0) ≤ a1) → (∃ (M1 : aM) (v2 : Int), aE 250 [aR 145, aI a1] (SH L) M ([aI v2], (SH L), M1) ∧ ((0 ≤ a1 ∧ a1 < aLn (SH L) 4 198) ∧ (v2 = 0 ∨ v2 = 1)) ∧ aX xc_260 (aSeek xc_260 6) [aR 145, aI (aW (a1 + 1))] [] (SH L) (aSet M1 198 a1 v2) o)))) : aX xc_260 (aSeek xc_260 6) [aR 145, aI a1] [] (SH L) M o := by
  by_cases cc : (M 179 0) ≤ a1
  · replace h := h.1 cc
    have t3 : aX xc_260 (aSeek xc_260 33) [aR 145, aI a1] [] (SH L) M o := by
      subst h
      exact ⟨1, rfl⟩
    exact aX_seg 6 (fun n g => ip cc (g)) t3
  · replace h := h.2 cc
    have t4 : aX xc_260 (aSeek xc_260 16) [aR 145, aI a1] [] (SH L) M o := by
      obtain ⟨M1, v2, k5, h⟩ := h
      have h2 : aX xc_260 (aSeek xc_260 26) [aR 145, aI a1] [aI v2, aI a1, aR 198] (SH L) M1 o := by
        obtain ⟨c6, h⟩ := h
        exact aX_seg 3 (fun n g => ip c6 (g)) (h)
      exact aX_seg 5 (fun n g => g) (aX_callv (rfl) rfl rfl rfl k5 h2)
    exact aX_seg 6 (fun n g => in_ cc (g)) t4
/- TypeLockModel.keeps(I)I -/
set_option maxRecDepth 100000 in
theorem en_261 {L : Nat} {a1 : Int} {M : aM} {o : aO} (h : (∃ (M1 : aM) (v2 : Int), aE 221 [aR 145, aI a1] (SH L) M ([aI v2], (SH L), M1) ∧ ((¬ v2 = 0 → (∃ (M3 : aM), aE 260 [aR 145] (SH L) M1 ([], (SH L), M3) ∧ (∃ (M4 : aM) (v5 : Int), aE 259 [aR 145, aI a1] (SH L) M3 ([aI v5], (SH L), M4) ∧ o = ([aI v5], (SH L), M4)))) ∧ (¬ (¬ v2 = 0) → o = ([aI ((-1))], (SH L), M1))))) : aE 261 [aR 145, aI a1] (SH L) M o := by
  have q : aX xc_261 (aSeek xc_261 0) [aR 145, aI a1] [] (SH L) M o := by
    obtain ⟨M1, v2, k6, h⟩ := h
    have h2 : aX xc_261 (aSeek xc_261 5) [aR 145, aI a1] [aI v2] (SH L) M1 o := by
      by_cases cc : ¬ v2 = 0
      · replace h := h.1 cc
        have t7 : aX xc_261 (aSeek xc_261 10) [aR 145, aI a1] [] (SH L) M1 o := by
          obtain ⟨M3, k8, h⟩ := h
          have h2 : aX xc_261 (aSeek xc_261 14) [aR 145, aI a1] [] (SH L) M3 o := by
            obtain ⟨M4, v5, k9, h⟩ := h
            have h2 : aX xc_261 (aSeek xc_261 19) [aR 145, aI a1] [aI v5] (SH L) M4 o := by
              subst h
              exact ⟨1, rfl⟩
            exact aX_seg 2 (fun n g => g) (aX_callv (rfl) rfl rfl rfl k9 h2)
          exact aX_seg 1 (fun n g => g) (aX_callv (rfl) rfl rfl rfl k8 h2)
        exact aX_seg 1 (fun n g => ip cc (g)) t7
      · replace h := h.2 cc
        have t10 : aX xc_261 (aSeek xc_261 8) [aR 145, aI a1] [] (SH L) M1 o := by
          subst h
          exact ⟨2, rfl⟩
        exact aX_seg 1 (fun n g => in_ cc (g)) t10
    exact aX_seg 2 (fun n g => g) (aX_callv (rfl) rfl rfl rfl k6 h2)
  exact q
/- TypeLockModel.key()I -/
set_option maxRecDepth 100000 in
theorem en_262 {L : Nat} {M : aM} {o : aO} (h : (∃ (M1 : aM), aE 260 [aR 145] (SH L) M ([], (SH L), M1) ∧ aX xc_262 (aSeek xc_262 11) [aR 145, aI ((-2)), aI 0, aI 0, aU] [] (SH L) M1 o)) : aE 262 [aR 145] (SH L) M o := by
  have q : aX xc_262 (aSeek xc_262 0) [aR 145, aU, aU, aU, aU] [] (SH L) M o := by
    obtain ⟨M1, k2, h⟩ := h
    have h2 : aX xc_262 (aSeek xc_262 4) [aR 145, aU, aU, aU, aU] [] (SH L) M1 o := by
      exact aX_seg 6 (fun n g => g) (h)
    exact aX_seg 1 (fun n g => g) (aX_callv (rfl) rfl rfl rfl k2 h2)
  exact q
set_option maxRecDepth 100000 in
theorem bl_262_11 {L : Nat} {a1 a2 a3 : Int} {M : aM} {o : aO} (h : (((M 179 0) ≤ a3 → o = ([aI a1], (SH L), M)) ∧ (¬ ((M 179 0) ≤ a3) → (∃ (M1 : aM) (v2 : Int), aE 259 [aR 145, aI a3] (SH L) M ([aI v2], (SH L), M1) ∧ ((a1 < 0 → aX xc_262 (aSeek xc_262 41) [aR 145, aU, aU, aI a3, aI v2] [] (SH L) M1 o) ∧ (¬ (a1 < 0) → ((a2 < v2 → aX xc_262 (aSeek xc_262 41) [aR 145, aU, aU, aI a3, aI v2] [] (SH L) M1 o) ∧ (¬ (a2 < v2) → aX xc_262 (aSeek xc_262 46) [aR 145, aI a1, aI a2, aI a3, aU] [] (SH L) M1 o)))))))) : aX xc_262 (aSeek xc_262 11) [aR 145, aI a1, aI a2, aI a3, aU] [] (SH L) M o := by
  by_cases cc : (M 179 0) ≤ a3
  · replace h := h.1 cc
    have t3 : aX xc_262 (aSeek xc_262 52) [aR 145, aI a1, aI a2, aI a3, aU] [] (SH L) M o := by
      subst h
      exact ⟨2, rfl⟩
    exact aX_seg 6 (fun n g => ip cc (g)) t3
  · replace h := h.2 cc
    have t4 : aX xc_262 (aSeek xc_262 21) [aR 145, aI a1, aI a2, aI a3, aU] [] (SH L) M o := by
      obtain ⟨M1, v2, k5, h⟩ := h
      have h2 : aX xc_262 (aSeek xc_262 26) [aR 145, aI a1, aI a2, aI a3, aU] [aI v2] (SH L) M1 o := by
        by_cases cc : a1 < 0
        · replace h := h.1 cc
          have t6 : aX xc_262 (aSeek xc_262 41) [aR 145, aI a1, aI a2, aI a3, aI v2] [] (SH L) M1 o := by
            exact aX_le (ls := [aR 145, aU, aU, aI a3, aI v2]) (ls1 := [aR 145, aI a1, aI a2, aI a3, aI v2]) (⟨Or.inr rfl, ⟨Or.inl rfl, ⟨Or.inl rfl, ⟨Or.inr rfl, ⟨Or.inr rfl, trivial⟩⟩⟩⟩⟩) h
          exact aX_seg 3 (fun n g => ip cc (g)) t6
        · replace h := h.2 cc
          have t7 : aX xc_262 (aSeek xc_262 32) [aR 145, aI a1, aI a2, aI a3, aI v2] [] (SH L) M1 o := by
            by_cases cc : a2 < v2
            · replace h := h.1 cc
              have t8 : aX xc_262 (aSeek xc_262 41) [aR 145, aI a1, aI a2, aI a3, aI v2] [] (SH L) M1 o := by
                exact aX_le (ls := [aR 145, aU, aU, aI a3, aI v2]) (ls1 := [aR 145, aI a1, aI a2, aI a3, aI v2]) (⟨Or.inr rfl, ⟨Or.inl rfl, ⟨Or.inl rfl, ⟨Or.inr rfl, ⟨Or.inr rfl, trivial⟩⟩⟩⟩⟩) h
              exact aX_seg 3 (fun n g => ip cc (g)) t8
            · replace h := h.2 cc
              have t9 : aX xc_262 (aSeek xc_262 38) [aR 145, aI a1, aI a2, aI a3, aI v2] [] (SH L) M1 o := by
                exact aX_seg 1 (fun n g => g) (aX_le (ls := [aR 145, aI a1, aI a2, aI a3, aU]) (ls1 := [aR 145, aI a1, aI a2, aI a3, aI v2]) (⟨Or.inr rfl, ⟨Or.inr rfl, ⟨Or.inr rfl, ⟨Or.inr rfl, ⟨Or.inl rfl, trivial⟩⟩⟩⟩⟩) h)
              exact aX_seg 3 (fun n g => in_ cc (g)) t9
          exact aX_seg 3 (fun n g => in_ cc (g)) t7
      exact aX_seg 2 (fun n g => g) (aX_callv (rfl) rfl rfl rfl k5 h2)
    exact aX_seg 6 (fun n g => in_ cc (g)) t4
set_option maxRecDepth 100000 in
theorem bl_262_41 {L : Nat} {a3 a4 : Int} {M : aM} {o : aO} (h : aX xc_262 (aSeek xc_262 46) [aR 145, aI a3, aI a4, aI a3, aU] [] (SH L) M o) : aX xc_262 (aSeek xc_262 41) [aR 145, aU, aU, aI a3, aI a4] [] (SH L) M o := by
  exact aX_seg 4 (fun n g => g) (aX_le (ls := [aR 145, aI a3, aI a4, aI a3, aU]) (ls1 := [aR 145, aI a3, aI a4, aI a3, aI a4]) (⟨Or.inr rfl, ⟨Or.inr rfl, ⟨Or.inr rfl, ⟨Or.inr rfl, ⟨Or.inl rfl, trivial⟩⟩⟩⟩⟩) h)
set_option maxRecDepth 100000 in
theorem bl_262_46 {L : Nat} {a1 a2 a3 : Int} {M : aM} {o : aO} (h : aX xc_262 (aSeek xc_262 11) [aR 145, aI a1, aI a2, aI (aW (a3 + 1)), aU] [] (SH L) M o) : aX xc_262 (aSeek xc_262 46) [aR 145, aI a1, aI a2, aI a3, aU] [] (SH L) M o := by
  exact aX_seg 2 (fun n g => g) (h)
/- TypeLockModel.seeming(I)I -/
set_option maxRecDepth 100000 in
theorem en_263 {L : Nat} {a1 : Int} {M : aM} {o : aO} (h : ((0 ≤ a1 → (∃ (M1 : aM), aE 260 [aR 145] (SH L) M ([], (SH L), M1) ∧ aX xc_263 (aSeek xc_263 14) [aR 145, aI a1, aI 0, aI 0] [] (SH L) M1 o)) ∧ (¬ (0 ≤ a1) → o = ([aI ((-1))], (SH L), M)))) : aE 263 [aR 145, aI a1] (SH L) M o := by
  have q : aX xc_263 (aSeek xc_263 0) [aR 145, aI a1, aU, aU] [] (SH L) M o := by
    by_cases cc : 0 ≤ a1
    · replace h := h.1 cc
      have t2 : aX xc_263 (aSeek xc_263 6) [aR 145, aI a1, aU, aU] [] (SH L) M o := by
        obtain ⟨M1, k3, h⟩ := h
        have h2 : aX xc_263 (aSeek xc_263 10) [aR 145, aI a1, aU, aU] [] (SH L) M1 o := by
          exact aX_seg 4 (fun n g => g) (h)
        exact aX_seg 1 (fun n g => g) (aX_callv (rfl) rfl rfl rfl k3 h2)
      exact aX_seg 2 (fun n g => ip cc (g)) t2
    · replace h := h.2 cc
      have t4 : aX xc_263 (aSeek xc_263 4) [aR 145, aI a1, aU, aU] [] (SH L) M o := by
        subst h
        exact ⟨2, rfl⟩
      exact aX_seg 2 (fun n g => in_ cc (g)) t4
  exact q
set_option maxRecDepth 100000 in
theorem bl_263_14 {L : Nat} {a1 a2 a3 : Int} {M : aM} {o : aO} (h : (((M 179 0) ≤ a3 → o = ([aI ((-1))], (SH L), M)) ∧ (¬ ((M 179 0) ≤ a3) → (0 ≤ a3 ∧ a3 < aLn (SH L) 4 198) ∧ ((¬ (M 198 a3) = 0 → aX xc_263 (aSeek xc_263 54) [aR 145, aI a1, aI a2, aI a3] [] (SH L) M o) ∧ (¬ (¬ (M 198 a3) = 0) → (∃ (M1 : aM) (v2 : Int), aE 259 [aR 145, aI a3] (SH L) M ([aI v2], (SH L), M1) ∧ ((¬ v2 = 0 → ((¬ a2 = a1 → aX xc_263 (aSeek xc_263 54) [aR 145, aI a1, aI (aW (a2 + 1)), aI a3] [] (SH L) M1 o) ∧ (¬ (¬ a2 = a1) → o = ([aI a3], (SH L), M1)))) ∧ (¬ (¬ v2 = 0) → aX xc_263 (aSeek xc_263 54) [aR 145, aI a1, aI a2, aI a3] [] (SH L) M1 o)))))))) : aX xc_263 (aSeek xc_263 14) [aR 145, aI a1, aI a2, aI a3] [] (SH L) M o := by
  by_cases cc : (M 179 0) ≤ a3
  · replace h := h.1 cc
    have t3 : aX xc_263 (aSeek xc_263 60) [aR 145, aI a1, aI a2, aI a3] [] (SH L) M o := by
      subst h
      exact ⟨2, rfl⟩
    exact aX_seg 6 (fun n g => ip cc (g)) t3
  · replace h := h.2 cc
    have t4 : aX xc_263 (aSeek xc_263 24) [aR 145, aI a1, aI a2, aI a3] [] (SH L) M o := by
      obtain ⟨c5, h⟩ := h
      by_cases cc : ¬ (M 198 a3) = 0
      · replace h := h.1 cc
        have t6 : aX xc_263 (aSeek xc_263 54) [aR 145, aI a1, aI a2, aI a3] [] (SH L) M o := by
          exact h
        exact aX_seg 5 (fun n g => ip c5 (ip cc (g))) t6
      · replace h := h.2 cc
        have t7 : aX xc_263 (aSeek xc_263 33) [aR 145, aI a1, aI a2, aI a3] [] (SH L) M o := by
          obtain ⟨M1, v2, k8, h⟩ := h
          have h2 : aX xc_263 (aSeek xc_263 38) [aR 145, aI a1, aI a2, aI a3] [aI v2] (SH L) M1 o := by
            by_cases cc : ¬ v2 = 0
            · replace h := h.1 cc
              have t9 : aX xc_263 (aSeek xc_263 44) [aR 145, aI a1, aI a2, aI a3] [] (SH L) M1 o := by
                by_cases cc : ¬ a2 = a1
                · replace h := h.1 cc
                  have t10 : aX xc_263 (aSeek xc_263 51) [aR 145, aI a1, aI a2, aI a3] [] (SH L) M1 o := by
                    exact aX_seg 1 (fun n g => g) (h)
                  exact aX_seg 3 (fun n g => ip cc (g)) t10
                · replace h := h.2 cc
                  have t11 : aX xc_263 (aSeek xc_263 49) [aR 145, aI a1, aI a2, aI a3] [] (SH L) M1 o := by
                    subst h
                    exact ⟨2, rfl⟩
                  exact aX_seg 3 (fun n g => in_ cc (g)) t11
              exact aX_seg 1 (fun n g => ip cc (g)) t9
            · replace h := h.2 cc
              have t12 : aX xc_263 (aSeek xc_263 41) [aR 145, aI a1, aI a2, aI a3] [] (SH L) M1 o := by
                exact aX_seg 1 (fun n g => g) (h)
              exact aX_seg 1 (fun n g => in_ cc (g)) t12
          exact aX_seg 2 (fun n g => g) (aX_callv (rfl) rfl rfl rfl k8 h2)
        exact aX_seg 5 (fun n g => ip c5 (in_ cc (g))) t7
    exact aX_seg 6 (fun n g => in_ cc (g)) t4
set_option maxRecDepth 100000 in
theorem bl_263_54 {L : Nat} {a1 a2 a3 : Int} {M : aM} {o : aO} (h : aX xc_263 (aSeek xc_263 14) [aR 145, aI a1, aI a2, aI (aW (a3 + 1))] [] (SH L) M o) : aX xc_263 (aSeek xc_263 54) [aR 145, aI a1, aI a2, aI a3] [] (SH L) M o := by
  exact aX_seg 2 (fun n g => g) (h)
/- TypeLockModel.isJoint(ZII)Z -/
set_option maxRecDepth 100000 in
theorem en_264 {L : Nat} {a1 a2 a3 : Int} {M : aM} {o : aO} (h : aX xc_264 (aSeek xc_264 6) [aR 145, aI a1, aI a2, aI a3, aI 0, aI 0, aU, aU, aU, aU] [] (SH L) M o) : aE 264 [aR 145, aI a1, aI a2, aI a3] (SH L) M o := by
  have q : aX xc_264 (aSeek xc_264 0) [aR 145, aI a1, aI a2, aI a3, aU, aU, aU, aU, aU, aU] [] (SH L) M o := by
    exact aX_seg 4 (fun n g => g) (h)
  exact q
set_option maxRecDepth 100000 in
theorem bl_264_6 {L : Nat} {a1 a2 a3 a4 a5 : Int} {M : aM} {o : aO} (h : (((M 179 0) ≤ a5 → ((a4 : Int) = 0 ∨ (a4 : Int) = 1) ∧ o = ([aI a4], (SH L), M)) ∧ (¬ ((M 179 0) ≤ a5) → ((a1 = 0 → (0 ≤ a5 ∧ a5 < aLn (SH L) 1 182) ∧ aX xc_264 (aSeek xc_264 38) [aR 145, aI a1, aI a2, aI a3, aI a4, aI a5, aU, aU, aU, aU] [aI (M 182 a5)] (SH L) M o) ∧ (¬ (a1 = 0) → (0 ≤ a5 ∧ a5 < aLn (SH L) 1 183) ∧ aX xc_264 (aSeek xc_264 38) [aR 145, aI a1, aI a2, aI a3, aI a4, aI a5, aU, aU, aU, aU] [aI (M 183 a5)] (SH L) M o))))) : aX xc_264 (aSeek xc_264 6) [aR 145, aI a1, aI a2, aI a3, aI a4, aI a5, aU, aU, aU, aU] [] (SH L) M o := by
  by_cases cc : (M 179 0) ≤ a5
  · replace h := h.1 cc
    have t1 : aX xc_264 (aSeek xc_264 170) [aR 145, aI a1, aI a2, aI a3, aI a4, aI a5, aU, aU, aU, aU] [] (SH L) M o := by
      obtain ⟨c2, h⟩ := h
      subst h
      exact ⟨2, ip c2 (rfl)⟩
    exact aX_seg 6 (fun n g => ip cc (g)) t1
  · replace h := h.2 cc
    have t3 : aX xc_264 (aSeek xc_264 17) [aR 145, aI a1, aI a2, aI a3, aI a4, aI a5, aU, aU, aU, aU] [] (SH L) M o := by
      by_cases cc : a1 = 0
      · replace h := h.1 cc
        have t4 : aX xc_264 (aSeek xc_264 31) [aR 145, aI a1, aI a2, aI a3, aI a4, aI a5, aU, aU, aU, aU] [] (SH L) M o := by
          obtain ⟨c5, h⟩ := h
          exact aX_seg 4 (fun n g => ip c5 (g)) (h)
        exact aX_seg 2 (fun n g => ip cc (g)) t4
      · replace h := h.2 cc
        have t6 : aX xc_264 (aSeek xc_264 21) [aR 145, aI a1, aI a2, aI a3, aI a4, aI a5, aU, aU, aU, aU] [] (SH L) M o := by
          obtain ⟨c7, h⟩ := h
          exact aX_seg 5 (fun n g => ip c7 (g)) (h)
        exact aX_seg 2 (fun n g => in_ cc (g)) t6
    exact aX_seg 6 (fun n g => in_ cc (g)) t3
set_option maxRecDepth 100000 in
theorem bl_264_38 {L : Nat} {a1 a2 a3 a4 a5 b0 : Int} {M : aM} {o : aO} (h : ((a1 = 0 → (∃ (M1 : aM) (v2 : Int), aE 223 [aR 145, aI a5] (SH L) M ([aI v2], (SH L), M1) ∧ aX xc_264 (aSeek xc_264 61) [aR 145, aI a1, aI a2, aI a3, aI a4, aI a5, aI b0, aU, aU, aU] [aI v2, aI b0] (SH L) M1 o)) ∧ (¬ (a1 = 0) → (∃ (M3 : aM) (v4 : Int), aE 224 [aR 145, aI a5] (SH L) M ([aI v4], (SH L), M3) ∧ aX xc_264 (aSeek xc_264 61) [aR 145, aI a1, aI a2, aI a3, aI a4, aI a5, aI b0, aU, aU, aU] [aI v4, aI b0] (SH L) M3 o)))) : aX xc_264 (aSeek xc_264 38) [aR 145, aI a1, aI a2, aI a3, aI a4, aI a5, aU, aU, aU, aU] [aI b0] (SH L) M o := by
  by_cases cc : a1 = 0
  · replace h := h.1 cc
    have t5 : aX xc_264 (aSeek xc_264 55) [aR 145, aI a1, aI a2, aI a3, aI a4, aI a5, aI b0, aU, aU, aU] [aI b0] (SH L) M o := by
      obtain ⟨M1, v2, k6, h⟩ := h
      have h2 : aX xc_264 (aSeek xc_264 61) [aR 145, aI a1, aI a2, aI a3, aI a4, aI a5, aI b0, aU, aU, aU] [aI v2, aI b0] (SH L) M1 o := by
        exact h
      exact aX_seg 2 (fun n g => g) (aX_callv (rfl) rfl rfl rfl k6 h2)
    exact aX_seg 4 (fun n g => ip cc (g)) t5
  · replace h := h.2 cc
    have t7 : aX xc_264 (aSeek xc_264 46) [aR 145, aI a1, aI a2, aI a3, aI a4, aI a5, aI b0, aU, aU, aU] [aI b0] (SH L) M o := by
      obtain ⟨M3, v4, k8, h⟩ := h
      have h2 : aX xc_264 (aSeek xc_264 52) [aR 145, aI a1, aI a2, aI a3, aI a4, aI a5, aI b0, aU, aU, aU] [aI v4, aI b0] (SH L) M3 o := by
        exact aX_seg 1 (fun n g => g) (h)
      exact aX_seg 2 (fun n g => g) (aX_callv (rfl) rfl rfl rfl k8 h2)
    exact aX_seg 4 (fun n g => in_ cc (g)) t7
set_option maxRecDepth 100000 in
theorem bl_264_61 {L : Nat} {a1 a2 a3 a4 a5 a6 b0 b1 : Int} {M : aM} {o : aO} (h : ((a3 < a6 → aX xc_264 (aSeek xc_264 164) [aR 145, aI a1, aI a2, aI a3, aI a4, aI a5, aU, aU, aU, aU] [] (SH L) M o) ∧ (¬ (a3 < a6) → ((a3 < (aW (b0 + b1)) → ((a1 = 0 → (0 ≤ a5 ∧ a5 < aLn (SH L) 1 183) ∧ aX xc_264 (aSeek xc_264 100) [aR 145, aI a1, aI a2, aI a3, aI a4, aI a5, aU, aU, aU, aU] [aI (M 183 a5)] (SH L) M o) ∧ (¬ (a1 = 0) → (0 ≤ a5 ∧ a5 < aLn (SH L) 1 182) ∧ aX xc_264 (aSeek xc_264 100) [aR 145, aI a1, aI a2, aI a3, aI a4, aI a5, aU, aU, aU, aU] [aI (M 182 a5)] (SH L) M o))) ∧ (¬ (a3 < (aW (b0 + b1))) → aX xc_264 (aSeek xc_264 164) [aR 145, aI a1, aI a2, aI a3, aI a4, aI a5, aU, aU, aU, aU] [] (SH L) M o))))) : aX xc_264 (aSeek xc_264 61) [aR 145, aI a1, aI a2, aI a3, aI a4, aI a5, aI a6, aU, aU, aU] [aI b1, aI b0] (SH L) M o := by
  by_cases cc : a3 < a6
  · replace h := h.1 cc
    have t1 : aX xc_264 (aSeek xc_264 164) [aR 145, aI a1, aI a2, aI a3, aI a4, aI a5, aI a6, aI (aW (b0 + b1)), aU, aU] [] (SH L) M o := by
      exact aX_le (ls := [aR 145, aI a1, aI a2, aI a3, aI a4, aI a5, aU, aU, aU, aU]) (ls1 := [aR 145, aI a1, aI a2, aI a3, aI a4, aI a5, aI a6, aI (aW (b0 + b1)), aU, aU]) (⟨Or.inr rfl, ⟨Or.inr rfl, ⟨Or.inr rfl, ⟨Or.inr rfl, ⟨Or.inr rfl, ⟨Or.inr rfl, ⟨Or.inl rfl, ⟨Or.inl rfl, ⟨Or.inl rfl, ⟨Or.inl rfl, trivial⟩⟩⟩⟩⟩⟩⟩⟩⟩⟩) h
    exact aX_seg 5 (fun n g => ip cc (g)) t1
  · replace h := h.2 cc
    have t2 : aX xc_264 (aSeek xc_264 70) [aR 145, aI a1, aI a2, aI a3, aI a4, aI a5, aI a6, aI (aW (b0 + b1)), aU, aU] [] (SH L) M o := by
      by_cases cc : a3 < (aW (b0 + b1))
      · replace h := h.1 cc
        have t3 : aX xc_264 (aSeek xc_264 79) [aR 145, aI a1, aI a2, aI a3, aI a4, aI a5, aI a6, aI (aW (b0 + b1)), aU, aU] [] (SH L) M o := by
          by_cases cc : a1 = 0
          · replace h := h.1 cc
            have t4 : aX xc_264 (aSeek xc_264 93) [aR 145, aI a1, aI a2, aI a3, aI a4, aI a5, aI a6, aI (aW (b0 + b1)), aU, aU] [] (SH L) M o := by
              obtain ⟨c5, h⟩ := h
              exact aX_seg 4 (fun n g => ip c5 (g)) (aX_le (ls := [aR 145, aI a1, aI a2, aI a3, aI a4, aI a5, aU, aU, aU, aU]) (ls1 := [aR 145, aI a1, aI a2, aI a3, aI a4, aI a5, aI a6, aI (aW (b0 + b1)), aU, aU]) (⟨Or.inr rfl, ⟨Or.inr rfl, ⟨Or.inr rfl, ⟨Or.inr rfl, ⟨Or.inr rfl, ⟨Or.inr rfl, ⟨Or.inl rfl, ⟨Or.inl rfl, ⟨Or.inl rfl, ⟨Or.inl rfl, trivial⟩⟩⟩⟩⟩⟩⟩⟩⟩⟩) h)
            exact aX_seg 2 (fun n g => ip cc (g)) t4
          · replace h := h.2 cc
            have t6 : aX xc_264 (aSeek xc_264 83) [aR 145, aI a1, aI a2, aI a3, aI a4, aI a5, aI a6, aI (aW (b0 + b1)), aU, aU] [] (SH L) M o := by
              obtain ⟨c7, h⟩ := h
              exact aX_seg 5 (fun n g => ip c7 (g)) (aX_le (ls := [aR 145, aI a1, aI a2, aI a3, aI a4, aI a5, aU, aU, aU, aU]) (ls1 := [aR 145, aI a1, aI a2, aI a3, aI a4, aI a5, aI a6, aI (aW (b0 + b1)), aU, aU]) (⟨Or.inr rfl, ⟨Or.inr rfl, ⟨Or.inr rfl, ⟨Or.inr rfl, ⟨Or.inr rfl, ⟨Or.inr rfl, ⟨Or.inl rfl, ⟨Or.inl rfl, ⟨Or.inl rfl, ⟨Or.inl rfl, trivial⟩⟩⟩⟩⟩⟩⟩⟩⟩⟩) h)
            exact aX_seg 2 (fun n g => in_ cc (g)) t6
        exact aX_seg 3 (fun n g => ip cc (g)) t3
      · replace h := h.2 cc
        have t8 : aX xc_264 (aSeek xc_264 76) [aR 145, aI a1, aI a2, aI a3, aI a4, aI a5, aI a6, aI (aW (b0 + b1)), aU, aU] [] (SH L) M o := by
          exact aX_seg 1 (fun n g => g) (aX_le (ls := [aR 145, aI a1, aI a2, aI a3, aI a4, aI a5, aU, aU, aU, aU]) (ls1 := [aR 145, aI a1, aI a2, aI a3, aI a4, aI a5, aI a6, aI (aW (b0 + b1)), aU, aU]) (⟨Or.inr rfl, ⟨Or.inr rfl, ⟨Or.inr rfl, ⟨Or.inr rfl, ⟨Or.inr rfl, ⟨Or.inr rfl, ⟨Or.inl rfl, ⟨Or.inl rfl, ⟨Or.inl rfl, ⟨Or.inl rfl, trivial⟩⟩⟩⟩⟩⟩⟩⟩⟩⟩) h)
        exact aX_seg 3 (fun n g => in_ cc (g)) t8
    exact aX_seg 5 (fun n g => in_ cc (g)) t2
set_option maxRecDepth 100000 in
theorem bl_264_100 {L : Nat} {a1 a2 a3 a4 a5 b0 : Int} {M : aM} {o : aO} (h : ((a1 = 0 → (∃ (M1 : aM) (v2 : Int), aE 224 [aR 145, aI a5] (SH L) M ([aI v2], (SH L), M1) ∧ aX xc_264 (aSeek xc_264 123) [aR 145, aI a1, aI a2, aI a3, aI a4, aI a5, aU, aU, aI b0, aU] [aI v2, aI b0] (SH L) M1 o)) ∧ (¬ (a1 = 0) → (∃ (M3 : aM) (v4 : Int), aE 223 [aR 145, aI a5] (SH L) M ([aI v4], (SH L), M3) ∧ aX xc_264 (aSeek xc_264 123) [aR 145, aI a1, aI a2, aI a3, aI a4, aI a5, aU, aU, aI b0, aU] [aI v4, aI b0] (SH L) M3 o)))) : aX xc_264 (aSeek xc_264 100) [aR 145, aI a1, aI a2, aI a3, aI a4, aI a5, aU, aU, aU, aU] [aI b0] (SH L) M o := by
  by_cases cc : a1 = 0
  · replace h := h.1 cc
    have t5 : aX xc_264 (aSeek xc_264 117) [aR 145, aI a1, aI a2, aI a3, aI a4, aI a5, aU, aU, aI b0, aU] [aI b0] (SH L) M o := by
      obtain ⟨M1, v2, k6, h⟩ := h
      have h2 : aX xc_264 (aSeek xc_264 123) [aR 145, aI a1, aI a2, aI a3, aI a4, aI a5, aU, aU, aI b0, aU] [aI v2, aI b0] (SH L) M1 o := by
        exact h
      exact aX_seg 2 (fun n g => g) (aX_callv (rfl) rfl rfl rfl k6 h2)
    exact aX_seg 4 (fun n g => ip cc (g)) t5
  · replace h := h.2 cc
    have t7 : aX xc_264 (aSeek xc_264 108) [aR 145, aI a1, aI a2, aI a3, aI a4, aI a5, aU, aU, aI b0, aU] [aI b0] (SH L) M o := by
      obtain ⟨M3, v4, k8, h⟩ := h
      have h2 : aX xc_264 (aSeek xc_264 114) [aR 145, aI a1, aI a2, aI a3, aI a4, aI a5, aU, aU, aI b0, aU] [aI v4, aI b0] (SH L) M3 o := by
        exact aX_seg 1 (fun n g => g) (h)
      exact aX_seg 2 (fun n g => g) (aX_callv (rfl) rfl rfl rfl k8 h2)
    exact aX_seg 4 (fun n g => in_ cc (g)) t7
set_option maxRecDepth 100000 in
theorem bl_264_123 {L : Nat} {a1 a2 a3 a4 a5 a8 b0 b1 : Int} {M : aM} {o : aO} (h : ((a2 ≤ a8 → aX xc_264 (aSeek xc_264 140) [aR 145, aI a1, aI a2, aI a3, aI a4, aI a5, aU, aU, aI a8, aI (aW (b0 + b1))] [] (SH L) M o) ∧ (¬ (a2 ≤ a8) → (((aW (b0 + b1)) ≤ a2 → aX xc_264 (aSeek xc_264 140) [aR 145, aI a1, aI a2, aI a3, aI a4, aI a5, aU, aU, aI a8, aI (aW (b0 + b1))] [] (SH L) M o) ∧ (¬ ((aW (b0 + b1)) ≤ a2) → o = ([aI 0], (SH L), M)))))) : aX xc_264 (aSeek xc_264 123) [aR 145, aI a1, aI a2, aI a3, aI a4, aI a5, aU, aU, aI a8, aU] [aI b1, aI b0] (SH L) M o := by
  by_cases cc : a2 ≤ a8
  · replace h := h.1 cc
    have t1 : aX xc_264 (aSeek xc_264 140) [aR 145, aI a1, aI a2, aI a3, aI a4, aI a5, aU, aU, aI a8, aI (aW (b0 + b1))] [] (SH L) M o := by
      exact h
    exact aX_seg 5 (fun n g => ip cc (g)) t1
  · replace h := h.2 cc
    have t2 : aX xc_264 (aSeek xc_264 132) [aR 145, aI a1, aI a2, aI a3, aI a4, aI a5, aU, aU, aI a8, aI (aW (b0 + b1))] [] (SH L) M o := by
      by_cases cc : (aW (b0 + b1)) ≤ a2
      · replace h := h.1 cc
        have t3 : aX xc_264 (aSeek xc_264 140) [aR 145, aI a1, aI a2, aI a3, aI a4, aI a5, aU, aU, aI a8, aI (aW (b0 + b1))] [] (SH L) M o := by
          exact h
        exact aX_seg 3 (fun n g => ip cc (g)) t3
      · replace h := h.2 cc
        have t4 : aX xc_264 (aSeek xc_264 138) [aR 145, aI a1, aI a2, aI a3, aI a4, aI a5, aU, aU, aI a8, aI (aW (b0 + b1))] [] (SH L) M o := by
          subst h
          exact ⟨2, rfl⟩
        exact aX_seg 3 (fun n g => in_ cc (g)) t4
    exact aX_seg 5 (fun n g => in_ cc (g)) t2
set_option maxRecDepth 100000 in
theorem bl_264_140 {L : Nat} {a1 a2 a3 a4 a5 a8 a9 : Int} {M : aM} {o : aO} (h : ((¬ a4 = 0 → aX xc_264 (aSeek xc_264 157) [aR 145, aI a1, aI a2, aI a3, aU, aI a5, aU, aU, aU, aU] [] (SH L) M o) ∧ (¬ (¬ a4 = 0) → ((a8 = a2 → aX xc_264 (aSeek xc_264 157) [aR 145, aI a1, aI a2, aI a3, aU, aI a5, aU, aU, aU, aU] [] (SH L) M o) ∧ (¬ (a8 = a2) → ((¬ a9 = a2 → aX xc_264 (aSeek xc_264 162) [aR 145, aI a1, aI a2, aI a3, aU, aI a5, aU, aU, aU, aU] [aI 0] (SH L) M o) ∧ (¬ (¬ a9 = a2) → aX xc_264 (aSeek xc_264 157) [aR 145, aI a1, aI a2, aI a3, aU, aI a5, aU, aU, aU, aU] [] (SH L) M o))))))) : aX xc_264 (aSeek xc_264 140) [aR 145, aI a1, aI a2, aI a3, aI a4, aI a5, aU, aU, aI a8, aI a9] [] (SH L) M o := by
  by_cases cc : ¬ a4 = 0
  · replace h := h.1 cc
    have t1 : aX xc_264 (aSeek xc_264 157) [aR 145, aI a1, aI a2, aI a3, aI a4, aI a5, aU, aU, aI a8, aI a9] [] (SH L) M o := by
      exact aX_le (ls := [aR 145, aI a1, aI a2, aI a3, aU, aI a5, aU, aU, aU, aU]) (ls1 := [aR 145, aI a1, aI a2, aI a3, aI a4, aI a5, aU, aU, aI a8, aI a9]) (⟨Or.inr rfl, ⟨Or.inr rfl, ⟨Or.inr rfl, ⟨Or.inr rfl, ⟨Or.inl rfl, ⟨Or.inr rfl, ⟨Or.inl rfl, ⟨Or.inl rfl, ⟨Or.inl rfl, ⟨Or.inl rfl, trivial⟩⟩⟩⟩⟩⟩⟩⟩⟩⟩) h
    exact aX_seg 2 (fun n g => ip cc (g)) t1
  · replace h := h.2 cc
    have t2 : aX xc_264 (aSeek xc_264 145) [aR 145, aI a1, aI a2, aI a3, aI a4, aI a5, aU, aU, aI a8, aI a9] [] (SH L) M o := by
      by_cases cc : a8 = a2
      · replace h := h.1 cc
        have t3 : aX xc_264 (aSeek xc_264 157) [aR 145, aI a1, aI a2, aI a3, aI a4, aI a5, aU, aU, aI a8, aI a9] [] (SH L) M o := by
          exact aX_le (ls := [aR 145, aI a1, aI a2, aI a3, aU, aI a5, aU, aU, aU, aU]) (ls1 := [aR 145, aI a1, aI a2, aI a3, aI a4, aI a5, aU, aU, aI a8, aI a9]) (⟨Or.inr rfl, ⟨Or.inr rfl, ⟨Or.inr rfl, ⟨Or.inr rfl, ⟨Or.inl rfl, ⟨Or.inr rfl, ⟨Or.inl rfl, ⟨Or.inl rfl, ⟨Or.inl rfl, ⟨Or.inl rfl, trivial⟩⟩⟩⟩⟩⟩⟩⟩⟩⟩) h
        exact aX_seg 3 (fun n g => ip cc (g)) t3
      · replace h := h.2 cc
        have t4 : aX xc_264 (aSeek xc_264 151) [aR 145, aI a1, aI a2, aI a3, aI a4, aI a5, aU, aU, aI a8, aI a9] [] (SH L) M o := by
          by_cases cc : ¬ a9 = a2
          · replace h := h.1 cc
            have t5 : aX xc_264 (aSeek xc_264 161) [aR 145, aI a1, aI a2, aI a3, aI a4, aI a5, aU, aU, aI a8, aI a9] [] (SH L) M o := by
              exact aX_seg 1 (fun n g => g) (aX_le (ls := [aR 145, aI a1, aI a2, aI a3, aU, aI a5, aU, aU, aU, aU]) (ls1 := [aR 145, aI a1, aI a2, aI a3, aI a4, aI a5, aU, aU, aI a8, aI a9]) (⟨Or.inr rfl, ⟨Or.inr rfl, ⟨Or.inr rfl, ⟨Or.inr rfl, ⟨Or.inl rfl, ⟨Or.inr rfl, ⟨Or.inl rfl, ⟨Or.inl rfl, ⟨Or.inl rfl, ⟨Or.inl rfl, trivial⟩⟩⟩⟩⟩⟩⟩⟩⟩⟩) h)
            exact aX_seg 3 (fun n g => ip cc (g)) t5
          · replace h := h.2 cc
            have t6 : aX xc_264 (aSeek xc_264 157) [aR 145, aI a1, aI a2, aI a3, aI a4, aI a5, aU, aU, aI a8, aI a9] [] (SH L) M o := by
              exact aX_le (ls := [aR 145, aI a1, aI a2, aI a3, aU, aI a5, aU, aU, aU, aU]) (ls1 := [aR 145, aI a1, aI a2, aI a3, aI a4, aI a5, aU, aU, aI a8, aI a9]) (⟨Or.inr rfl, ⟨Or.inr rfl, ⟨Or.inr rfl, ⟨Or.inr rfl, ⟨Or.inl rfl, ⟨Or.inr rfl, ⟨Or.inl rfl, ⟨Or.inl rfl, ⟨Or.inl rfl, ⟨Or.inl rfl, trivial⟩⟩⟩⟩⟩⟩⟩⟩⟩⟩) h
            exact aX_seg 3 (fun n g => in_ cc (g)) t6
        exact aX_seg 3 (fun n g => in_ cc (g)) t4
    exact aX_seg 2 (fun n g => in_ cc (g)) t2
set_option maxRecDepth 100000 in
theorem bl_264_157 {L : Nat} {a1 a2 a3 a5 : Int} {M : aM} {o : aO} (h : aX xc_264 (aSeek xc_264 162) [aR 145, aI a1, aI a2, aI a3, aU, aI a5, aU, aU, aU, aU] [aI 1] (SH L) M o) : aX xc_264 (aSeek xc_264 157) [aR 145, aI a1, aI a2, aI a3, aU, aI a5, aU, aU, aU, aU] [] (SH L) M o := by
  exact aX_seg 2 (fun n g => g) (h)
set_option maxRecDepth 100000 in
theorem bl_264_162 {L : Nat} {a1 a2 a3 a5 b0 : Int} {M : aM} {o : aO} (h : aX xc_264 (aSeek xc_264 164) [aR 145, aI a1, aI a2, aI a3, aI b0, aI a5, aU, aU, aU, aU] [] (SH L) M o) : aX xc_264 (aSeek xc_264 162) [aR 145, aI a1, aI a2, aI a3, aU, aI a5, aU, aU, aU, aU] [aI b0] (SH L) M o := by
  exact aX_seg 1 (fun n g => g) (h)
set_option maxRecDepth 100000 in
theorem bl_264_164 {L : Nat} {a1 a2 a3 a4 a5 : Int} {M : aM} {o : aO} (h : aX xc_264 (aSeek xc_264 6) [aR 145, aI a1, aI a2, aI a3, aI a4, aI (aW (a5 + 1)), aU, aU, aU, aU] [] (SH L) M o) : aX xc_264 (aSeek xc_264 164) [aR 145, aI a1, aI a2, aI a3, aI a4, aI a5, aU, aU, aU, aU] [] (SH L) M o := by
  exact aX_seg 2 (fun n g => g) (h)
/- TypeLockModel.jointOf(ZI)I -/
set_option maxRecDepth 100000 in
theorem en_265 {L : Nat} {a1 a2 : Int} {M : aM} {o : aO} (h : ((a1 = 0 → aX xc_265 (aSeek xc_265 24) [aR 145, aI a1, aI a2, aI 0, aI 0, aU, aU] [aI (M 151 0)] (SH L) M o) ∧ (¬ (a1 = 0) → aX xc_265 (aSeek xc_265 24) [aR 145, aI a1, aI a2, aI 0, aI 0, aU, aU] [aI (M 152 0)] (SH L) M o))) : aE 265 [aR 145, aI a1, aI a2] (SH L) M o := by
  have q : aX xc_265 (aSeek xc_265 0) [aR 145, aI a1, aI a2, aU, aU, aU, aU] [] (SH L) M o := by
    by_cases cc : a1 = 0
    · replace h := h.1 cc
      have t1 : aX xc_265 (aSeek xc_265 18) [aR 145, aI a1, aI a2, aI 0, aI 0, aU, aU] [] (SH L) M o := by
        exact aX_seg 4 (fun n g => g) (h)
      exact aX_seg 6 (fun n g => ip cc (g)) t1
    · replace h := h.2 cc
      have t2 : aX xc_265 (aSeek xc_265 9) [aR 145, aI a1, aI a2, aI 0, aI 0, aU, aU] [] (SH L) M o := by
        exact aX_seg 5 (fun n g => g) (h)
      exact aX_seg 6 (fun n g => in_ cc (g)) t2
  exact q
set_option maxRecDepth 100000 in
theorem bl_265_24 {L : Nat} {a1 a2 a3 a4 b0 : Int} {M : aM} {o : aO} (h : aX xc_265 (aSeek xc_265 29) [aR 145, aI a1, aI a2, aI a3, aI a4, aI b0, aI 0] [] (SH L) M o) : aX xc_265 (aSeek xc_265 24) [aR 145, aI a1, aI a2, aI a3, aI a4, aU, aU] [aI b0] (SH L) M o := by
  exact aX_seg 3 (fun n g => g) (h)
set_option maxRecDepth 100000 in
theorem bl_265_29 {L : Nat} {a1 a2 a3 a4 a5 a6 : Int} {M : aM} {o : aO} (h : ((a5 ≤ a6 → o = ([aI a3], (SH L), M)) ∧ (¬ (a5 ≤ a6) → (∃ (M1 : aM) (v2 : Int), aE 264 [aR 145, aI a1, aI a2, aI a6] (SH L) M ([aI v2], (SH L), M1) ∧ ((v2 = 0 → aX xc_265 (aSeek xc_265 55) [aR 145, aI a1, aI a2, aI a3, aU, aI a5, aI a6] [aI 0] (SH L) M1 o) ∧ (¬ (v2 = 0) → aX xc_265 (aSeek xc_265 55) [aR 145, aI a1, aI a2, aI a3, aU, aI a5, aI a6] [aI (aW (a4 + 1))] (SH L) M1 o)))))) : aX xc_265 (aSeek xc_265 29) [aR 145, aI a1, aI a2, aI a3, aI a4, aI a5, aI a6] [] (SH L) M o := by
  by_cases cc : a5 ≤ a6
  · replace h := h.1 cc
    have t3 : aX xc_265 (aSeek xc_265 72) [aR 145, aI a1, aI a2, aI a3, aI a4, aI a5, aI a6] [] (SH L) M o := by
      subst h
      exact ⟨2, rfl⟩
    exact aX_seg 3 (fun n g => ip cc (g)) t3
  · replace h := h.2 cc
    have t4 : aX xc_265 (aSeek xc_265 36) [aR 145, aI a1, aI a2, aI a3, aI a4, aI a5, aI a6] [] (SH L) M o := by
      obtain ⟨M1, v2, k5, h⟩ := h
      have h2 : aX xc_265 (aSeek xc_265 44) [aR 145, aI a1, aI a2, aI a3, aI a4, aI a5, aI a6] [aI v2] (SH L) M1 o := by
        by_cases cc : v2 = 0
        · replace h := h.1 cc
          have t6 : aX xc_265 (aSeek xc_265 54) [aR 145, aI a1, aI a2, aI a3, aI a4, aI a5, aI a6] [] (SH L) M1 o := by
            exact aX_seg 1 (fun n g => g) (aX_le (ls := [aR 145, aI a1, aI a2, aI a3, aU, aI a5, aI a6]) (ls1 := [aR 145, aI a1, aI a2, aI a3, aI a4, aI a5, aI a6]) (⟨Or.inr rfl, ⟨Or.inr rfl, ⟨Or.inr rfl, ⟨Or.inr rfl, ⟨Or.inl rfl, ⟨Or.inr rfl, ⟨Or.inr rfl, trivial⟩⟩⟩⟩⟩⟩⟩) h)
          exact aX_seg 1 (fun n g => ip cc (g)) t6
        · replace h := h.2 cc
          have t7 : aX xc_265 (aSeek xc_265 47) [aR 145, aI a1, aI a2, aI a3, aI a4, aI a5, aI a6] [] (SH L) M1 o := by
            exact aX_seg 4 (fun n g => g) (aX_le (ls := [aR 145, aI a1, aI a2, aI a3, aU, aI a5, aI a6]) (ls1 := [aR 145, aI a1, aI a2, aI a3, aI a4, aI a5, aI a6]) (⟨Or.inr rfl, ⟨Or.inr rfl, ⟨Or.inr rfl, ⟨Or.inr rfl, ⟨Or.inl rfl, ⟨Or.inr rfl, ⟨Or.inr rfl, trivial⟩⟩⟩⟩⟩⟩⟩) h)
          exact aX_seg 1 (fun n g => in_ cc (g)) t7
      exact aX_seg 4 (fun n g => g) (aX_callv (rfl) rfl rfl rfl k5 h2)
    exact aX_seg 3 (fun n g => in_ cc (g)) t4
set_option maxRecDepth 100000 in
theorem bl_265_55 {L : Nat} {a1 a2 a3 a5 a6 b0 : Int} {M : aM} {o : aO} (h : ((b0 ≤ a3 → aX xc_265 (aSeek xc_265 66) [aR 145, aI a1, aI a2, aI a3, aI b0, aI a5, aI a6] [] (SH L) M o) ∧ (¬ (b0 ≤ a3) → aX xc_265 (aSeek xc_265 66) [aR 145, aI a1, aI a2, aI b0, aI b0, aI a5, aI a6] [] (SH L) M o))) : aX xc_265 (aSeek xc_265 55) [aR 145, aI a1, aI a2, aI a3, aU, aI a5, aI a6] [aI b0] (SH L) M o := by
  by_cases cc : b0 ≤ a3
  · replace h := h.1 cc
    have t1 : aX xc_265 (aSeek xc_265 66) [aR 145, aI a1, aI a2, aI a3, aI b0, aI a5, aI a6] [] (SH L) M o := by
      exact h
    exact aX_seg 4 (fun n g => ip cc (g)) t1
  · replace h := h.2 cc
    have t2 : aX xc_265 (aSeek xc_265 63) [aR 145, aI a1, aI a2, aI a3, aI b0, aI a5, aI a6] [] (SH L) M o := by
      exact aX_seg 2 (fun n g => g) (h)
    exact aX_seg 4 (fun n g => in_ cc (g)) t2
set_option maxRecDepth 100000 in
theorem bl_265_66 {L : Nat} {a1 a2 a3 a4 a5 a6 : Int} {M : aM} {o : aO} (h : aX xc_265 (aSeek xc_265 29) [aR 145, aI a1, aI a2, aI a3, aI a4, aI a5, aI (aW (a6 + 1))] [] (SH L) M o) : aX xc_265 (aSeek xc_265 66) [aR 145, aI a1, aI a2, aI a3, aI a4, aI a5, aI a6] [] (SH L) M o := by
  exact aX_seg 2 (fun n g => g) (h)
/- TypeLockModel.joint(ZI)I -/
set_option maxRecDepth 100000 in
theorem en_266 {L : Nat} {a1 a2 : Int} {M : aM} {o : aO} (h : ((a2 < 1 → o = ([aI ((-1))], (SH L), M)) ∧ (¬ (a2 < 1) → ((a1 = 0 → aX xc_266 (aSeek xc_266 25) [aR 145, aI a1, aI a2] [aI (M 152 0), aI a2] (SH L) M o) ∧ (¬ (a1 = 0) → aX xc_266 (aSeek xc_266 25) [aR 145, aI a1, aI a2] [aI (M 151 0), aI a2] (SH L) M o))))) : aE 266 [aR 145, aI a1, aI a2] (SH L) M o := by
  have q : aX xc_266 (aSeek xc_266 0) [aR 145, aI a1, aI a2] [] (SH L) M o := by
    by_cases cc : a2 < 1
    · replace h := h.1 cc
      have t1 : aX xc_266 (aSeek xc_266 28) [aR 145, aI a1, aI a2] [] (SH L) M o := by
        subst h
        exact ⟨3, rfl⟩
      exact aX_seg 3 (fun n g => ip cc (g)) t1
    · replace h := h.2 cc
      have t2 : aX xc_266 (aSeek xc_266 5) [aR 145, aI a1, aI a2] [] (SH L) M o := by
        by_cases cc : a1 = 0
        · replace h := h.1 cc
          have t3 : aX xc_266 (aSeek xc_266 19) [aR 145, aI a1, aI a2] [aI a2] (SH L) M o := by
            exact aX_seg 4 (fun n g => g) (h)
          exact aX_seg 3 (fun n g => ip cc (g)) t3
        · replace h := h.2 cc
          have t4 : aX xc_266 (aSeek xc_266 10) [aR 145, aI a1, aI a2] [aI a2] (SH L) M o := by
            exact aX_seg 5 (fun n g => g) (h)
          exact aX_seg 3 (fun n g => in_ cc (g)) t4
      exact aX_seg 3 (fun n g => in_ cc (g)) t2
  exact q
set_option maxRecDepth 100000 in
theorem bl_266_25 {L : Nat} {a1 a2 b0 b1 : Int} {M : aM} {o : aO} (h : ((b0 < b1 → (∃ (M1 : aM) (v2 : Int), aE 265 [aR 145, aI a1, aI a2] (SH L) M ([aI v2], (SH L), M1) ∧ o = ([aI v2], (SH L), M1))) ∧ (¬ (b0 < b1) → o = ([aI ((-1))], (SH L), M)))) : aX xc_266 (aSeek xc_266 25) [aR 145, aI a1, aI a2] [aI b1, aI b0] (SH L) M o := by
  by_cases cc : b0 < b1
  · replace h := h.1 cc
    have t3 : aX xc_266 (aSeek xc_266 32) [aR 145, aI a1, aI a2] [] (SH L) M o := by
      obtain ⟨M1, v2, k4, h⟩ := h
      have h2 : aX xc_266 (aSeek xc_266 38) [aR 145, aI a1, aI a2] [aI v2] (SH L) M1 o := by
        subst h
        exact ⟨1, rfl⟩
      exact aX_seg 3 (fun n g => g) (aX_callv (rfl) rfl rfl rfl k4 h2)
    exact aX_seg 1 (fun n g => ip cc (g)) t3
  · replace h := h.2 cc
    have t5 : aX xc_266 (aSeek xc_266 28) [aR 145, aI a1, aI a2] [] (SH L) M o := by
      subst h
      exact ⟨3, rfl⟩
    exact aX_seg 1 (fun n g => in_ cc (g)) t5
/- TypeLockModel.longest()I -/
set_option maxRecDepth 100000 in
theorem en_267 {L : Nat} {M : aM} {o : aO} (h : aX xc_267 (aSeek xc_267 6) [aR 145, aI 0, aI 0, aI 1, aU] [] (SH L) M o) : aE 267 [aR 145] (SH L) M o := by
  have q : aX xc_267 (aSeek xc_267 0) [aR 145, aU, aU, aU, aU] [] (SH L) M o := by
    exact aX_seg 6 (fun n g => g) (h)
  exact q
set_option maxRecDepth 100000 in
theorem bl_267_6 {L : Nat} {a1 a2 a3 : Int} {M : aM} {o : aO} (h : (((M 152 0) ≤ a3 → aX xc_267 (aSeek xc_267 46) [aR 145, aI a1, aI a2, aI 1, aU] [] (SH L) M o) ∧ (¬ ((M 152 0) ≤ a3) → (∃ (M1 : aM) (v2 : Int), aE 265 [aR 145, aI 0, aI a3] (SH L) M ([aI v2], (SH L), M1) ∧ ((a1 < v2 → aX xc_267 (aSeek xc_267 38) [aR 145, aI v2, aI a3, aI a3, aU] [] (SH L) M1 o) ∧ (¬ (a1 < v2) → aX xc_267 (aSeek xc_267 38) [aR 145, aI a1, aI a2, aI a3, aU] [] (SH L) M1 o)))))) : aX xc_267 (aSeek xc_267 6) [aR 145, aI a1, aI a2, aI a3, aU] [] (SH L) M o := by
  by_cases cc : (M 152 0) ≤ a3
  · replace h := h.1 cc
    have t3 : aX xc_267 (aSeek xc_267 44) [aR 145, aI a1, aI a2, aI a3, aU] [] (SH L) M o := by
      exact aX_seg 2 (fun n g => g) (h)
    exact aX_seg 6 (fun n g => ip cc (g)) t3
  · replace h := h.2 cc
    have t4 : aX xc_267 (aSeek xc_267 16) [aR 145, aI a1, aI a2, aI a3, aU] [] (SH L) M o := by
      obtain ⟨M1, v2, k5, h⟩ := h
      have h2 : aX xc_267 (aSeek xc_267 22) [aR 145, aI a1, aI a2, aI a3, aU] [aI v2] (SH L) M1 o := by
        by_cases cc : a1 < v2
        · replace h := h.1 cc
          have t6 : aX xc_267 (aSeek xc_267 33) [aR 145, aI a1, aI a2, aI a3, aI v2] [] (SH L) M1 o := by
            exact aX_seg 4 (fun n g => g) (aX_le (ls := [aR 145, aI v2, aI a3, aI a3, aU]) (ls1 := [aR 145, aI v2, aI a3, aI a3, aI v2]) (⟨Or.inr rfl, ⟨Or.inr rfl, ⟨Or.inr rfl, ⟨Or.inr rfl, ⟨Or.inl rfl, trivial⟩⟩⟩⟩⟩) h)
          exact aX_seg 4 (fun n g => ip cc (g)) t6
        · replace h := h.2 cc
          have t7 : aX xc_267 (aSeek xc_267 30) [aR 145, aI a1, aI a2, aI a3, aI v2] [] (SH L) M1 o := by
            exact aX_seg 1 (fun n g => g) (aX_le (ls := [aR 145, aI a1, aI a2, aI a3, aU]) (ls1 := [aR 145, aI a1, aI a2, aI a3, aI v2]) (⟨Or.inr rfl, ⟨Or.inr rfl, ⟨Or.inr rfl, ⟨Or.inr rfl, ⟨Or.inl rfl, trivial⟩⟩⟩⟩⟩) h)
          exact aX_seg 4 (fun n g => in_ cc (g)) t7
      exact aX_seg 3 (fun n g => g) (aX_callv (rfl) rfl rfl rfl k5 h2)
    exact aX_seg 6 (fun n g => in_ cc (g)) t4
set_option maxRecDepth 100000 in
theorem bl_267_38 {L : Nat} {a1 a2 a3 : Int} {M : aM} {o : aO} (h : aX xc_267 (aSeek xc_267 6) [aR 145, aI a1, aI a2, aI (aW (a3 + 1)), aU] [] (SH L) M o) : aX xc_267 (aSeek xc_267 38) [aR 145, aI a1, aI a2, aI a3, aU] [] (SH L) M o := by
  exact aX_seg 2 (fun n g => g) (h)
set_option maxRecDepth 100000 in
theorem bl_267_46 {L : Nat} {a1 a2 a3 : Int} {M : aM} {o : aO} (h : (((M 151 0) ≤ a3 → ((¬ a1 = 0 → o = ([aI (aW ((aW (100 * a1)) + a2))], (SH L), M)) ∧ (¬ (¬ a1 = 0) → o = ([aI 0], (SH L), M)))) ∧ (¬ ((M 151 0) ≤ a3) → (∃ (M1 : aM) (v2 : Int), aE 265 [aR 145, aI 1, aI a3] (SH L) M ([aI v2], (SH L), M1) ∧ ((a1 < v2 → aX xc_267 (aSeek xc_267 82) [aR 145, aI v2, aI (aW (10000 + a3)), aI a3, aU] [] (SH L) M1 o) ∧ (¬ (a1 < v2) → aX xc_267 (aSeek xc_267 82) [aR 145, aI a1, aI a2, aI a3, aU] [] (SH L) M1 o)))))) : aX xc_267 (aSeek xc_267 46) [aR 145, aI a1, aI a2, aI a3, aU] [] (SH L) M o := by
  by_cases cc : (M 151 0) ≤ a3
  · replace h := h.1 cc
    have t3 : aX xc_267 (aSeek xc_267 88) [aR 145, aI a1, aI a2, aI a3, aU] [] (SH L) M o := by
      by_cases cc : ¬ a1 = 0
      · replace h := h.1 cc
        have t4 : aX xc_267 (aSeek xc_267 96) [aR 145, aI a1, aI a2, aI a3, aU] [] (SH L) M o := by
          subst h
          exact ⟨6, rfl⟩
        exact aX_seg 2 (fun n g => ip cc (g)) t4
      · replace h := h.2 cc
        have t5 : aX xc_267 (aSeek xc_267 92) [aR 145, aI a1, aI a2, aI a3, aU] [] (SH L) M o := by
          subst h
          exact ⟨3, rfl⟩
        exact aX_seg 2 (fun n g => in_ cc (g)) t5
    exact aX_seg 6 (fun n g => ip cc (g)) t3
  · replace h := h.2 cc
    have t6 : aX xc_267 (aSeek xc_267 56) [aR 145, aI a1, aI a2, aI a3, aU] [] (SH L) M o := by
      obtain ⟨M1, v2, k7, h⟩ := h
      have h2 : aX xc_267 (aSeek xc_267 62) [aR 145, aI a1, aI a2, aI a3, aU] [aI v2] (SH L) M1 o := by
        by_cases cc : a1 < v2
        · replace h := h.1 cc
          have t8 : aX xc_267 (aSeek xc_267 73) [aR 145, aI a1, aI a2, aI a3, aI v2] [] (SH L) M1 o := by
            exact aX_seg 6 (fun n g => g) (aX_le (ls := [aR 145, aI v2, aI (aW (10000 + a3)), aI a3, aU]) (ls1 := [aR 145, aI v2, aI (aW (10000 + a3)), aI a3, aI v2]) (⟨Or.inr rfl, ⟨Or.inr rfl, ⟨Or.inr rfl, ⟨Or.inr rfl, ⟨Or.inl rfl, trivial⟩⟩⟩⟩⟩) h)
          exact aX_seg 4 (fun n g => ip cc (g)) t8
        · replace h := h.2 cc
          have t9 : aX xc_267 (aSeek xc_267 70) [aR 145, aI a1, aI a2, aI a3, aI v2] [] (SH L) M1 o := by
            exact aX_seg 1 (fun n g => g) (aX_le (ls := [aR 145, aI a1, aI a2, aI a3, aU]) (ls1 := [aR 145, aI a1, aI a2, aI a3, aI v2]) (⟨Or.inr rfl, ⟨Or.inr rfl, ⟨Or.inr rfl, ⟨Or.inr rfl, ⟨Or.inl rfl, trivial⟩⟩⟩⟩⟩) h)
          exact aX_seg 4 (fun n g => in_ cc (g)) t9
      exact aX_seg 3 (fun n g => g) (aX_callv (rfl) rfl rfl rfl k7 h2)
    exact aX_seg 6 (fun n g => in_ cc (g)) t6
set_option maxRecDepth 100000 in
theorem bl_267_82 {L : Nat} {a1 a2 a3 : Int} {M : aM} {o : aO} (h : aX xc_267 (aSeek xc_267 46) [aR 145, aI a1, aI a2, aI (aW (a3 + 1)), aU] [] (SH L) M o) : aX xc_267 (aSeek xc_267 82) [aR 145, aI a1, aI a2, aI a3, aU] [] (SH L) M o := by
  exact aX_seg 2 (fun n g => g) (h)
/- TypeLockModel.isBetter(I)Z -/
set_option maxRecDepth 100000 in
theorem en_268 {L : Nat} {a1 : Int} {M : aM} {o : aO} (h : aX xc_268 (aSeek xc_268 7) [aR 145, aI a1, aI 0, aI 0, aI 0] [] (SH L) M o) : aE 268 [aR 145, aI a1] (SH L) M o := by
  have q : aX xc_268 (aSeek xc_268 0) [aR 145, aI a1, aU, aU, aU] [] (SH L) M o := by
    exact aX_seg 6 (fun n g => g) (h)
  exact q
set_option maxRecDepth 100000 in
theorem bl_268_7 {L : Nat} {a1 a2 a3 a4 : Int} {M : aM} {o : aO} (h : ((a1 ≤ a4 → o = ([aI 0], (SH L), M)) ∧ (¬ (a1 ≤ a4) → (0 ≤ a4 ∧ a4 < aLn (SH L) 1 200) ∧ (0 ≤ a4 ∧ a4 < aLn (SH L) 1 201) ∧ (0 ≤ aOr a2 (aShl 1 (M 200 a4)) ∧ aOr a2 (aShl 1 (M 200 a4)) < aLn (SH L) 1 199) ∧ (0 ≤ aOr a3 (aShl 1 (M 201 a4)) ∧ aOr a3 (aShl 1 (M 201 a4)) < aLn (SH L) 1 199) ∧ (((M 199 (aOr a2 (aShl 1 (M 200 a4)))) = (M 199 (aOr a3 (aShl 1 (M 201 a4)))) → aX xc_268 (aSeek xc_268 7) [aR 145, aI a1, aI (aOr a2 (aShl 1 (M 200 a4))), aI (aOr a3 (aShl 1 (M 201 a4))), aI (aW (a4 + 1))] [] (SH L) M o) ∧ (¬ ((M 199 (aOr a2 (aShl 1 (M 200 a4)))) = (M 199 (aOr a3 (aShl 1 (M 201 a4))))) → (0 ≤ aOr a2 (aShl 1 (M 200 a4)) ∧ aOr a2 (aShl 1 (M 200 a4)) < aLn (SH L) 1 199) ∧ (0 ≤ aOr a3 (aShl 1 (M 201 a4)) ∧ aOr a3 (aShl 1 (M 201 a4)) < aLn (SH L) 1 199) ∧ (((M 199 (aOr a2 (aShl 1 (M 200 a4)))) ≤ (M 199 (aOr a3 (aShl 1 (M 201 a4)))) → o = ([aI 0], (SH L), M)) ∧ (¬ ((M 199 (aOr a2 (aShl 1 (M 200 a4)))) ≤ (M 199 (aOr a3 (aShl 1 (M 201 a4))))) → o = ([aI 1], (SH L), M)))))))) : aX xc_268 (aSeek xc_268 7) [aR 145, aI a1, aI a2, aI a3, aI a4] [] (SH L) M o := by
  by_cases cc : a1 ≤ a4
  · replace h := h.1 cc
    have t1 : aX xc_268 (aSeek xc_268 79) [aR 145, aI a1, aI a2, aI a3, aI a4] [] (SH L) M o := by
      subst h
      exact ⟨2, rfl⟩
    exact aX_seg 3 (fun n g => ip cc (g)) t1
  · replace h := h.2 cc
    have t2 : aX xc_268 (aSeek xc_268 13) [aR 145, aI a1, aI a2, aI a3, aI a4] [] (SH L) M o := by
      obtain ⟨c3, h⟩ := h
      obtain ⟨c4, h⟩ := h
      obtain ⟨c5, h⟩ := h
      obtain ⟨c6, h⟩ := h
      by_cases cc : (M 199 (aOr a2 (aShl 1 (M 200 a4)))) = (M 199 (aOr a3 (aShl 1 (M 201 a4))))
      · replace h := h.1 cc
        have t7 : aX xc_268 (aSeek xc_268 73) [aR 145, aI a1, aI (aOr a2 (aShl 1 (M 200 a4))), aI (aOr a3 (aShl 1 (M 201 a4))), aI a4] [] (SH L) M o := by
          exact aX_seg 2 (fun n g => g) (h)
        exact aX_seg 27 (fun n g => ip c3 (ip c4 (ip c5 (ip c6 (ip cc (g)))))) t7
      · replace h := h.2 cc
        have t8 : aX xc_268 (aSeek xc_268 52) [aR 145, aI a1, aI (aOr a2 (aShl 1 (M 200 a4))), aI (aOr a3 (aShl 1 (M 201 a4))), aI a4] [] (SH L) M o := by
          obtain ⟨c9, h⟩ := h
          obtain ⟨c10, h⟩ := h
          by_cases cc : (M 199 (aOr a2 (aShl 1 (M 200 a4)))) ≤ (M 199 (aOr a3 (aShl 1 (M 201 a4))))
          · replace h := h.1 cc
            have t11 : aX xc_268 (aSeek xc_268 71) [aR 145, aI a1, aI (aOr a2 (aShl 1 (M 200 a4))), aI (aOr a3 (aShl 1 (M 201 a4))), aI a4] [] (SH L) M o := by
              subst h
              exact ⟨2, rfl⟩
            exact aX_seg 9 (fun n g => ip c9 (ip c10 (ip cc (g)))) t11
          · replace h := h.2 cc
            have t12 : aX xc_268 (aSeek xc_268 67) [aR 145, aI a1, aI (aOr a2 (aShl 1 (M 200 a4))), aI (aOr a3 (aShl 1 (M 201 a4))), aI a4] [] (SH L) M o := by
              subst h
              exact ⟨3, rfl⟩
            exact aX_seg 9 (fun n g => ip c9 (ip c10 (in_ cc (g)))) t12
        exact aX_seg 27 (fun n g => ip c3 (ip c4 (ip c5 (ip c6 (in_ cc (g)))))) t8
    exact aX_seg 3 (fun n g => in_ cc (g)) t2
/- TypeLockModel.turn(II)V -/
set_option maxRecDepth 100000 in
theorem en_269 {L : Nat} {a1 a2 : Int} {M : aM} {o : aO} (h : (0 ≤ a1 ∧ a1 < aLn (SH L) 1 200) ∧ (0 ≤ a2 ∧ a2 < aLn (SH L) 1 200) ∧ (0 ≤ a1 ∧ a1 < aLn (SH L) 1 200) ∧ (0 ≤ a2 ∧ a2 < aLn (SH L) 1 200) ∧ o = ([], (SH L), aSet (aSet M 200 a1 (M 200 a2)) 200 a2 (M 200 a1))) : aE 269 [aR 145, aI a1, aI a2] (SH L) M o := by
  have q : aX xc_269 (aSeek xc_269 0) [aR 145, aI a1, aI a2, aU] [] (SH L) M o := by
    obtain ⟨c1, h⟩ := h
    obtain ⟨c2, h⟩ := h
    obtain ⟨c3, h⟩ := h
    obtain ⟨c4, h⟩ := h
    subst h
    exact ⟨19, ip c1 (ip c2 (ip c3 (ip c4 (rfl))))⟩
  exact q
end BLK
