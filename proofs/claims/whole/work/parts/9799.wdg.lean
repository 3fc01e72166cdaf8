/-! reading: the TELL wedge -/
section WDG
variable {L : Nat} {C R C1 R1 C2 R2 K Q : aM}
def s9 (L : Nat) (a : Int) (R : aM) (o : aO) : Prop := ∃ (M3 : aM) (v4 : Int), aE 195 [aR 145, aI 7] (SH L) R ([aI v4], SH L, M3) ∧ ((v4 = 0 → (∃ (M5 : aM) (v6 : Int), aE 195 [aR 145, aI 9] (SH L) M3 ([aI v6], SH L, M5) ∧ ((v6 = 0 → (∃ (M7 : aM) (v8 : Int), aE 195 [aR 145, aI 30] (SH L) M5 ([aI v8], SH L, M7) ∧ ((v8 = 0 → (∃ (M9 : aM) (v10 : Int), aE 195 [aR 145, aI 31] (SH L) M7 ([aI v10], SH L, M9) ∧ ((v10 = 0 → aX xc_209 (aSeek xc_209 89) [aR 145, aI a, aU] [aI ((-1))] (SH L) M9 o) ∧ (¬ (v10 = 0) → aX xc_209 (aSeek xc_209 89) [aR 145, aI a, aU] [aI 3] (SH L) M9 o)))) ∧ (¬ (v8 = 0) → aX xc_209 (aSeek xc_209 89) [aR 145, aI a, aU] [aI 2] (SH L) M7 o)))) ∧ (¬ (v6 = 0) → aX xc_209 (aSeek xc_209 89) [aR 145, aI a, aU] [aI 1] (SH L) M5 o)))) ∧ (¬ (v4 = 0) → aX xc_209 (aSeek xc_209 89) [aR 145, aI a, aU] [aI 0] (SH L) M3 o))
def sid (ty : Int) : Int := if 29 ≤ ty ∧ ty ≤ 32 then ty - 29 else -1
theorem s9_of {N h : Nat} {T a : Int} (s : ST C R N T h) (o : aO) (x : aX xc_209 (aSeek xc_209 89) [aR 145, aI a, aU] [aI (sid (C 5 (h : Int)))] (SH L) R o) : s9 L a R o := by
  have bb := s.2.1
  have hh := ST_h s
  have tk := (ST_tk s).1
  have w13 := tk_word (t := 13) tk (by omega)
  have w14 := tk_word (t := 14) tk (by omega)
  have w15 := tk_word (t := 15) tk (by omega)
  have w16 := tk_word (t := 16) tk (by omega)
  rw [show cmW ((13 : Nat) : Int) = 7 by decide] at w13
  rw [show cmW ((14 : Nat) : Int) = 9 by decide] at w14
  rw [show cmW ((15 : Nat) : Int) = 30 by decide] at w15
  rw [show cmW ((16 : Nat) : Int) = 31 by decide] at w16
  have r7 := s_195 (L := L) (R := R) (c := 7) hh.2.2
  have r9 := s_195 (L := L) (R := R) (c := 9) hh.2.2
  have r30 := s_195 (L := L) (R := R) (c := 30) hh.2.2
  have r31 := s_195 (L := L) (R := R) (c := 31) hh.2.2
  rw [bb.2.2] at r7 r9 r30 r31
  unfold sid at x
  by_cases c7 : C 5 (h : Int) = 29
  · have b7 := w13.mp (by omega)
    rw [bip b7] at r7
    rw [c7] at x
    exact ⟨R, 1, r7, fun z => absurd z (by omega), fun _ => x⟩
  · have n7 : ¬ (R 147 (h : Int) = 3 ∧ R 149 (h : Int) = 7) := fun z => c7 (by have := w13.mpr z; omega)
    rw [bin n7] at r7
    refine ⟨R, 0, r7, fun _ => ?_, fun z => absurd rfl z⟩
    by_cases c9 : C 5 (h : Int) = 30
    · have b9 := w14.mp (by omega)
      rw [bip b9] at r9
      rw [c9] at x
      exact ⟨R, 1, r9, fun z => absurd z (by omega), fun _ => x⟩
    · have n9 : ¬ (R 147 (h : Int) = 3 ∧ R 149 (h : Int) = 9) := fun z => c9 (by have := w14.mpr z; omega)
      rw [bin n9] at r9
      refine ⟨R, 0, r9, fun _ => ?_, fun z => absurd rfl z⟩
      by_cases c30 : C 5 (h : Int) = 31
      · have b30 := w15.mp (by omega)
        rw [bip b30] at r30
        rw [c30] at x
        exact ⟨R, 1, r30, fun z => absurd z (by omega), fun _ => x⟩
      · have n30 : ¬ (R 147 (h : Int) = 3 ∧ R 149 (h : Int) = 30) := fun z => c30 (by have := w15.mpr z; omega)
        rw [bin n30] at r30
        refine ⟨R, 0, r30, fun _ => ?_, fun z => absurd rfl z⟩
        by_cases c31 : C 5 (h : Int) = 32
        · have b31 := w16.mp (by omega)
          rw [bip b31] at r31
          rw [c31] at x
          exact ⟨R, 1, r31, fun z => absurd z (by omega), fun _ => x⟩
        · have n31 : ¬ (R 147 (h : Int) = 3 ∧ R 149 (h : Int) = 31) := fun z => c31 (by have := w16.mpr z; omega)
          rw [bin n31] at r31
          rw [if_neg (by omega)] at x
          exact ⟨R, 0, r31, fun _ => x, fun z => absurd rfl z⟩
theorem SL_r {N h : Nat} {T ra rj y : Int} (s : ST C R N T h) (l : LT C R h) (hr : 151 ≤ ra) : ST C (aSet R ra rj y) N T h ∧ LT C (aSet R ra rj y) h := by
  refine ⟨ST_cg s (fun _ _ _ => rfl) (fun a x y => aSet_c (by omega)) (fun _ _ => rfl) (fun j _ _ => by rw [aSet_c (by omega)]), ?_⟩
  unfold LT LN
  rw [aSet_c (show (145 : Int) ≠ ra by omega)]
  exact l
theorem SL_c {N h : Nat} {T ca cj y : Int} (s : ST C R N T h) (l : LT C R h) (hc : 9 ≤ ca) : ST (aSet C ca cj y) R N T h ∧ LT (aSet C ca cj y) R h := by
  refine ⟨ST_cg s (fun a x y => aSet_c (by omega)) (fun _ _ _ => rfl) (fun j _ => by rw [aSet_c (by omega)]) (fun _ _ _ => rfl), ?_⟩
  unfold LT LN
  rw [aSet_c (show (3 : Int) ≠ ca by omega), aSet_c (show (6 : Int) ≠ ca by omega)]
  exact l
/-- one WEDGE more -/
theorem RD_wedge {N h h1 : Nat} {T w sd x y : Int} (d : RD C R N T h) (hh : h ≤ h1) (cw : C T 9 = w) (w6 : w < 6) (s : ST K Q N T h1) (l : LT K Q h1) (c : ∀ a, a ≠ 3 → a ≠ T + 6 → a ≠ T + 7 → K a = C a) (c6 : ∀ j, j ≠ w → K (T + 6) j = C (T + 6) j ∧ K (T + 7) j = C (T + 7) j) (r : ∀ a, 150 ≤ a → (a < 160 ∨ 162 < a) → Q a = R a) (r6 : ∀ j, j ≠ 6 + w → Q 160 j = R 160 j ∧ Q 161 j = R 161 j ∧ Q 162 j = R 162 j)
    (e : (K (T + 6) w = sd ∧ K (T + 7) w = spn x y) ∧ Q 160 (6 + w) = sd ∧ Q 161 (6 + w) = x ∧ Q 162 (6 + w) = y) (sd0 : 0 ≤ sd ∧ sd < 4) (z : K 3 5 = 0 → C 3 5 = 0 ∧ 0 ≤ x ∧ x < y ∧ y ≤ 60) : RD (aSet K T 9 (w + 1)) (aSet Q 159 1 (w + 1)) N T h1 := by
  have ht := s.2.2.2.2
  have t := tx_le ht
  obtain ⟨_, _, bg, kd, fd, wd, gd, ru, li, b⟩ := id d
  have cT : ∀ j, j ≠ 9 → (aSet K T 9 (w + 1)) T j = C T j := fun j hj => by rw [aSet_i hj, c T (by omega) (by omega) (by omega)]
  have cc : ∀ a, T < a → a ≠ T + 6 → a ≠ T + 7 → (aSet K T 9 (w + 1)) a = C a := fun a ha h1 h2 => by rw [aSet_c (by omega), c a (by omega) h1 h2]
  have rr : ∀ a, 150 ≤ a → (a < 159 ∨ 162 < a) → (aSet Q 159 1 (w + 1)) a = R a := fun a ha h3 => by rw [aSet_c (by omega), r a ha (by omega)]
  have z5 : (aSet K T 9 (w + 1)) 3 5 = 0 → C 3 5 = 0 := fun q => by rw [aSet_c (by omega)] at q; exact (z q).1
  have sl := SL_r (ra := 159) (rj := 1) (y := w + 1) s l (by omega)
  have sl2 := SL_c (ca := T) (cj := 9) (y := w + 1) sl.1 sl.2 (by omega)
  refine RD_w d hh sl2.1 sl2.2 (fun j x y => cT j (by omega)) (fun a x y => cc a (by omega) (by omega) (by omega)) (fun a x y => rr a (by omega) (by omega)) (KD_cg kd z5 (cT 3 (by omega)) (fun a x y => cc a (by omega) (by omega) (by omega)) (fun a x y => rr a (by omega) (by omega))) (FD_cg fd z5 (fun j x y => cT j (by omega)) (fun a x => rr a (by omega) (by omega))) ?_
  unfold WD
  rw [aSet_e, aSet_e, aSet_c (show T + 6 ≠ T by omega), aSet_c (show T + 7 ≠ T by omega), aSet_c (show (160 : Int) ≠ 159 by omega), aSet_c (show (161 : Int) ≠ 159 by omega), aSet_c (show (162 : Int) ≠ 159 by omega), aSet_c (show (3 : Int) ≠ T by omega)]
  have k1 := wd.1
  refine ⟨by omega, fun j j0 j1 => ?_⟩
  by_cases q : j = w
  · subst q
    obtain ⟨⟨e1, e2⟩, e3, e4, e5⟩ := e
    rw [e1, e2, e3, e4, e5]
    exact ⟨⟨sd0.1, sd0.2, rfl⟩, rfl, fun q => (z q).2⟩
  · rw [(c6 j q).1, (c6 j q).2, (r6 (6 + j) (by omega)).1, (r6 (6 + j) (by omega)).2.1, (r6 (6 + j) (by omega)).2.2]
    obtain ⟨x1, x2, x3⟩ := wd.2 j j0 (by omega)
    exact ⟨x1, x2, fun q => x3 (z q).1⟩
end WDG
