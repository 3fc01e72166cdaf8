/-! reading: all of a text, both sides -/
section PAR
variable {L : Nat} {M K C R C1 R1 : aM}
theorem aE_det {z : Nat} {as : List aV} {S : aSh} {o o' : aO} (h : aE z as S M o) (g : aE z as S M o') : o = o' := by
  obtain ⟨n, hn⟩ := h
  obtain ⟨m, hm⟩ := g
  have a := aRun_more (Nat.le_max_left n m) hn
  have b := aRun_more (Nat.le_max_right n m) hm
  rw [a] at b
  exact Option.some.inj b
theorem TK_of {Mc Mr : aM} {N1 N2 : Nat} (h : tR M) (c : tkC M Mc N1) (r : tkM M Mr N2) : TK Mc Mr N1 := by
  have rel : ∀ i : Nat, i ≤ N1 → tkR (tyC M (pl M i)) (vaC M (pl M i)) (tyR M (pl M i)) (whR M (pl M i)) (naR M (pl M i)) := fun i hi => by
    have f := fm_rng h i
    exact tk_rel h f.2.1 f.2.2 (c.2.1 i hi).2.2.2
  have n12 : N1 ≤ N2 := by
    by_cases q : N1 ≤ N2
    · exact q
    · have a := c.2.2.1 N2 (by omega)
      have b := rel N2 (by omega)
      have d := r.2.2.2
      rcases b with ⟨x, y⟩ | ⟨x, y⟩ | ⟨x, y, _⟩ | ⟨x, y, _⟩ | ⟨x, y, _⟩ | ⟨x, w, w0, y, _⟩
      · exact absurd (Or.inl x) a
      · exact absurd (Or.inr x) a
      · omega
      · omega
      · omega
      · omega
  refine ⟨c.1, fun i hi => ?_, fun i hi => ?_, ?_, fun i hi => ?_⟩
  · obtain ⟨c1, c2, c3, c4⟩ := c.2.1 i hi
    obtain ⟨r1, r2, r3, r4⟩ := r.2.1 i (by omega)
    refine ⟨?_, by rw [c2, r2]⟩
    rw [c1, r1]
    rcases rel i hi with ⟨x, y⟩ | ⟨x, y⟩ | ⟨x, y, z⟩ | ⟨x, y, z, u⟩ | ⟨x, y, z⟩ | ⟨x, w, w0, y, z⟩
    · exact Or.inl ⟨x, y⟩
    · exact Or.inr (Or.inl ⟨x, y⟩)
    · exact Or.inr (Or.inr (Or.inl ⟨x, y, by rw [c3 (Or.inl x), r4 y]; exact z⟩))
    · exact Or.inr (Or.inr (Or.inr (Or.inl ⟨x, y, by rw [c3 (Or.inr x), r3 (by omega)]; exact z, by rw [c3 (Or.inr x)]; exact u⟩)))
    · exact Or.inr (Or.inr (Or.inr (Or.inr (Or.inl ⟨x, y, by rw [r3 (by omega)]; exact z⟩))))
    · exact Or.inr (Or.inr (Or.inr (Or.inr (Or.inr ⟨x, w, w0, y, by rw [r3 (by omega)]; exact z⟩))))
  · rw [(c.2.1 i (by omega)).1]; exact c.2.2.1 i hi
  · rw [(c.2.1 N1 (Nat.le_refl _)).1]; exact c.2.2.2
  · rw [(c.2.1 i (by omega)).2.1, (c.2.1 (i + 1) (by omega)).2.1]
    have f := fm_rng h i
    have f1 := fm_rng h (i + 1)
    have n0 := c.2.2.1 i hi
    have lt : pl M i < M 145 0 := by
      by_cases q : M 145 0 ≤ pl M i
      · exact absurd (Or.inl (by unfold tyC; rw [if_pos q])) n0
      · omega
    have e := (en_rng h f.2.1 f.2.2).2.2 lt
    have s := (sk_rng (M := M) f1.1.2).1
    rw [← pl_fm] at s
    have e2 : fm M (i + 1) = enT M (pl M i) := rfl
    omega
theorem parse_pair {T : Int} (h : tR M) (cK : tM M K) (ht : isTx T) (hb : b3 K) : ∃ C1 Rf, aE 50 [aR 3, aR 2, aI (M 1 1), aR T] (SH L) M ([], SH L, C1) ∧ (∀ o, aX xc_214 (aSeek xc_214 54) [aR 145] [] (SH L) Rf o → aE 214 [aR 145] (SH L) K o) ∧ (Rf 145 8 = C1 3 0 ∧ Rf 145 9 = C1 3 1) ∧ (C1 3 0 = 0 → C1 3 5 = 0 ∧ ∃ N h1, RD C1 Rf N T h1) ∧
    (∀ a, (a < 3 ∨ 8 < a) → (a < T ∨ T + 10 < a) → C1 a = M a) ∧ (∀ a b, ¬ zR a b → ¬ (147 ≤ a ∧ a ≤ 150) → ¬ (a = 145 ∧ b = 2) → Rf a b = K a b) ∧ b3 Rf := by
  have t := tx_le ht
  have t19 : aK (SH L) T = 19 := (tx ht).1
  obtain ⟨N1, Mc, c1, c2, c3⟩ := s_25 (L := L) h
  obtain ⟨N2, Mr, r1, r2, r3, r4⟩ := s_190 (L := L) (B := K) h cK
  have tk := TK_of h c3 r4
  -- the class's start
  obtain ⟨Mx, hMx⟩ : ∃ Mx, Mx = aSet Mc 3 3 T := ⟨_, rfl⟩
  obtain ⟨Mt, hMt⟩ : ∃ Mt, Mt = aSet (aSet (aSet (aSet (aSet (aSet (aSet (aSet (aSet Mx T 0 60) T 1 60) T 2 50) T 3 0) T 9 0) T 13 0) T 14 0) T 15 0) T 16 0 := ⟨_, rfl⟩
  obtain ⟨C0, hC0⟩ : ∃ C0, C0 = aSet (aSet (aSet (aSet Mt 3 4 0) 3 0 0) 3 1 (-1)) 3 5 0 := ⟨_, rfl⟩
  have x33 : Mx 3 3 = T := by rw [hMx, aSet_e]
  have r2' : aE 2 [aR T] (SH L) Mx ([], SH L, Mt) := en_2 ⟨t19, t19, t19, t19, t19, t19, t19, t19, t19, by rw [hMt]⟩
  have ca : ∀ a, a ≠ 3 → a ≠ T → C0 a = Mc a := fun a x y => by rw [hC0, aSet_c x, aSet_c x, aSet_c x, aSet_c x, hMt, aSet_c y, aSet_c y, aSet_c y, aSet_c y, aSet_c y, aSet_c y, aSet_c y, aSet_c y, aSet_c y, hMx, aSet_c x]
  have cT : C0 T = Mt T := by rw [hC0, aSet_c (by omega), aSet_c (by omega), aSet_c (by omega), aSet_c (by omega)]
  have m3 : Mt 3 = Mx 3 := by rw [hMt, aSet_c (by omega), aSet_c (by omega), aSet_c (by omega), aSet_c (by omega), aSet_c (by omega), aSet_c (by omega), aSet_c (by omega), aSet_c (by omega), aSet_c (by omega)]
  have q33 : C0 3 3 = T := by rw [hC0, aSet_i (by omega), aSet_i (by omega), aSet_i (by omega), aSet_i (by omega), m3, x33]
  have q34 : C0 3 4 = 0 := by simp [hC0, aSet_a]
  have q30 : C0 3 0 = 0 := by simp [hC0, aSet_a]
  have q31 : C0 3 1 = -1 := by simp [hC0, aSet_a]
  have q35 : C0 3 5 = 0 := by simp [hC0, aSet_a]
  have k0 : C0 T 0 = 60 := by rw [cT]; simp [hMt, aSet_a]
  have k1 : C0 T 1 = 60 := by rw [cT]; simp [hMt, aSet_a]
  have k2 : C0 T 2 = 50 := by rw [cT]; simp [hMt, aSet_a]
  have k3 : C0 T 3 = 0 := by rw [cT]; simp [hMt, aSet_a]
  have k9 : C0 T 9 = 0 := by rw [cT]; simp [hMt, aSet_a]
  have k13 : C0 T 13 = 0 := by rw [cT]; simp [hMt, aSet_a]
  have k14 : C0 T 14 = 0 := by rw [cT]; simp [hMt, aSet_a]
  have k15 : C0 T 15 = 0 := by rw [cT]; simp [hMt, aSet_a]
  have k16 : C0 T 16 = 0 := by rw [cT]; simp [hMt, aSet_a]
  -- the reference's start
  obtain ⟨Ma, hMa⟩ : ∃ Ma, Ma = aSet (aSet (aSet Mr 145 8 0) 145 9 (-1)) 145 10 0 := ⟨_, rfl⟩
  obtain ⟨Mb, hMb⟩ : ∃ Mb, Mb = aSet (aSet (aSet (aSet (aSet (aSet (aSet (aSet (aSet Ma 151 1 60) 152 1 60) 153 1 0) 159 1 0) 163 1 50) 164 1 (-1)) 166 1 0) 169 1 0) 172 1 0 := ⟨_, rfl⟩
  obtain ⟨R0, hR0⟩ : ∃ R0, R0 = aSet Mb 145 7 0 := ⟨_, rfl⟩
  have r178 : aE 178 [aR 145, aI 1] (SH L) Ma ([], SH L, Mb) := by
    have e : ∀ x : Int, (x = 151 ∨ x = 152 ∨ x = 153 ∨ x = 159 ∨ x = 163 ∨ x = 164 ∨ x = 166 ∨ x = 169 ∨ x = 172) → (0 : Int) ≤ 1 ∧ 1 < aLn (SH L) 1 x := by
      rintro x (rfl | rfl | rfl | rfl | rfl | rfl | rfl | rfl | rfl) <;> exact ⟨by decide, by rw [show aLn (SH L) 1 _ = 2 from rfl]; decide⟩
    exact en_178 ⟨e 151 (by omega), e 152 (by omega), e 153 (by omega), e 159 (by omega), e 163 (by omega), e 164 (by omega), e 166 (by omega), e 169 (by omega), e 172 (by omega), by rw [hMb]⟩
  have ra : ∀ a b, a ≠ 145 → ¬ ((a = 151 ∨ a = 152 ∨ a = 153 ∨ a = 159 ∨ a = 163 ∨ a = 164 ∨ a = 166 ∨ a = 169 ∨ a = 172) ∧ b = 1) → R0 a b = Mr a b := fun a b x y => by
    rw [hR0, aSet_c x, hMb, aSet_a, if_neg (by omega), aSet_a, if_neg (by omega), aSet_a, if_neg (by omega), aSet_a, if_neg (by omega), aSet_a, if_neg (by omega), aSet_a, if_neg (by omega), aSet_a, if_neg (by omega), aSet_a, if_neg (by omega), aSet_a, if_neg (by omega), hMa, aSet_c x, aSet_c x, aSet_c x]
  have rj : ∀ j, j < 7 ∨ 10 < j → R0 145 j = Mr 145 j := fun j hj => by
    rw [hR0, aSet_i (by omega), hMb, aSet_c (by omega), aSet_c (by omega), aSet_c (by omega), aSet_c (by omega), aSet_c (by omega), aSet_c (by omega), aSet_c (by omega), aSet_c (by omega), aSet_c (by omega), hMa, aSet_i (by omega), aSet_i (by omega), aSet_i (by omega)]
  have u7 : R0 145 7 = 0 := by rw [hR0, aSet_e]
  have u8 : R0 145 8 = 0 := by simp [hR0, hMb, hMa, aSet_a]
  have u9 : R0 145 9 = -1 := by simp [hR0, hMb, hMa, aSet_a]
  have u10 : R0 145 10 = 0 := by simp [hR0, hMb, hMa, aSet_a]
  have w151 : R0 151 1 = 60 := by simp [hR0, hMb, aSet_a]
  have w152 : R0 152 1 = 60 := by simp [hR0, hMb, aSet_a]
  have w153 : R0 153 1 = 0 := by simp [hR0, hMb, aSet_a]
  have w159 : R0 159 1 = 0 := by simp [hR0, hMb, aSet_a]
  have w163 : R0 163 1 = 50 := by simp [hR0, hMb, aSet_a]
  have w164 : R0 164 1 = -1 := by simp [hR0, hMb, aSet_a]
  have w166 : R0 166 1 = 0 := by simp [hR0, hMb, aSet_a]
  have w169 : R0 169 1 = 0 := by simp [hR0, hMb, aSet_a]
  have w172 : R0 172 1 = 0 := by simp [hR0, hMb, aSet_a]
  have b0 : b3 R0 := fun i i0 i1 => by rw [ra 173 i (by omega) (by omega), r2 173 (by omega) (by omega)]; exact hb i i0 i1
  have st : ST C0 R0 N1 T 0 := ⟨TK_cg tk (fun a x y => ca a (by omega) (by omega)) (fun a x y => funext fun b => ra a b (by omega) (by omega)), ⟨Nat.zero_le _, q34, u7⟩, ⟨q30, q31, u8, u9⟩, q33, ht⟩
  have d0 : RD C0 R0 N1 T 0 := by
    refine ⟨st, ⟨by rw [q35, u10], Or.inl q35⟩, ⟨by rw [k13]; decide, by rw [w169]; decide, by rw [w172]; decide⟩, ⟨by rw [k3, w153]; decide, fun k x y => absurd (by rw [k3] at y; exact y) (by omega)⟩, ⟨⟨by rw [w151, k0], by rw [w152, k1], by rw [w163, k2]⟩, fun _ => by rw [k0, k1, k2]; decide⟩, ⟨by rw [k9, w159]; decide, fun k x y => absurd (by rw [k9] at y; exact y) (by omega)⟩, Or.inl ⟨w164, k14, k15⟩, ⟨by rw [k16, w166]; decide, fun k x y => absurd (by rw [k16] at y; exact y) (by omega)⟩, fun k x y => absurd (by rw [w172] at y; exact y) (by omega), b0⟩
  obtain ⟨C1, R1, v, p1, p2, p3, p4, p5⟩ := parse_loop (L := L) (N := N1) (T := T) 401 0 0 C0 R0 (by omega) d0 (by omega)
  have run : aE 50 [aR 3, aR 2, aI (M 1 1), aR T] (SH L) M ([], SH L, C1) := by
    refine en_50 ⟨Mc, c1, ⟨rfl, by omega⟩, ?_⟩
    rw [← hMx, x33]
    refine ⟨t19, Mt, r2', ?_⟩
    rw [← hC0]
    exact p1
  obtain ⟨Rf, hRf⟩ : ∃ Rf, Rf = if v = 0 then R1 else if R1 145 10 = 0 then R1 else aSet (aSet R1 145 8 (R1 145 10)) 145 9 (R1 145 11) := ⟨_, rfl⟩
  have fr1 : ∀ a b, ¬ (a = 145 ∧ (b = 8 ∨ b = 9)) → Rf a b = R1 a b := fun a b q => by
    rw [hRf]
    split
    · rfl
    · split
      · rfl
      · rw [aSet_a, if_neg (by omega), aSet_a, if_neg (by omega)]
  have fr2 : ∀ a b, ¬ zR a b → ¬ (147 ≤ a ∧ a ≤ 150) → ¬ (a = 145 ∧ b = 2) → Rf a b = K a b := by
    intro a b q1 q2 q3
    have q4 := q1
    unfold zR at q4
    rw [fr1 a b (by omega), p4.1 a b q1]
    by_cases c : a = 145
    · subst c
      rw [rj b (by omega), r3 b (by omega)]
    · rw [ra a b c (by omega), r2 a c (by omega)]
  have b1 : b3 Rf := fun i i0 i1 => by rw [fr1 173 i (by omega)]; exact p4.2 i (b0 i i0 i1)
  refine ⟨C1, Rf, run, fun o x => en_214 ⟨Mr, r1, Mb, by rw [← hMa]; exact r178, R1, v, en_213 (by rw [← hR0]; exact p2), fun q => by rw [hRf, if_pos q] at x; exact x, fun q => ⟨fun q2 => by rw [hRf, if_neg q, if_pos q2] at x; exact x, fun q2 => by rw [hRf, if_neg q, if_neg q2] at x; rw [aSet_i (show (11 : Int) ≠ 8 by omega)]; exact x⟩⟩, ?_, ?_, fun a x y => ?_, fr2, b1⟩
  · rcases p5 with ⟨v1, h1, Ce, d1, e1⟩ | ⟨v0, ft⟩
    · rw [hRf, if_neg (by omega), e1]
      unfold endC
      have l := d1.2.1
      have s1 := d1.1.2.2.1
      by_cases c : Ce 3 5 = 0
      · rw [if_pos (by rw [← l.1]; exact c), if_pos c, s1.1, s1.2.1, s1.2.2.1, s1.2.2.2]; exact ⟨rfl, rfl⟩
      · have c' : ¬ R1 145 10 = 0 := by rw [← l.1]; exact c
        rw [if_neg c', if_neg c, aSet_e, aSet_e, aSet_i (show (8 : Int) ≠ 9 by omega), aSet_i (show (0 : Int) ≠ 1 by omega), aSet_e, aSet_e]
        rcases l.2 with z | ⟨z, _⟩
        · exact absurd z c
        · exact ⟨l.1.symm, z.symm⟩
    · rw [hRf, if_pos v0]; exact ⟨ft.2.1, ft.2.2.1⟩
  · intro q
    rcases p5 with ⟨v1, h1, Ce, d1, e1⟩ | ⟨v0, ft⟩
    · have l := d1.2.1
      by_cases c : Ce 3 5 = 0
      · have e2 : C1 = Ce := by rw [e1]; unfold endC; rw [if_pos c]
        have e3 : Rf = R1 := by rw [hRf, if_neg (by omega), if_pos (by rw [← l.1]; exact c)]
        rw [e2, e3]
        exact ⟨c, N1, h1, d1⟩
      · rw [e1] at q
        unfold endC at q
        rw [if_neg c, aSet_i (by omega), aSet_e] at q
        exact absurd q c
    · exact absurd q ft.1
  · rw [p3 a (by omega) (by omega) y, ca a (by omega) (by omega), c2 a (by omega) (by omega) (by omega) (by omega)]
end PAR
