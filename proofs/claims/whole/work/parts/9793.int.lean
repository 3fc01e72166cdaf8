/-! reading: INTs and NAMES, both sides -/
section INT1
variable {L : Nat} {C R C1 R1 C2 R2 : aM}
/-- the FAULT that waits, both sides: all ahead of place p -/
def LN (C R : aM) (p : Int) (e : Bool) : Prop := C 3 5 = R 145 10 ∧ (C 3 5 = 0 ∨ (C 3 6 = R 145 11 ∧ (C 3 6 < p ∨ (e = true ∧ C 3 6 = p ∧ C 3 5 = 3))))
def LT (C R : aM) (h : Nat) : Prop := LN C R (C 6 (h : Int)) false
/-- what steps over INTs and NAMES leave -/
def nL (C C1 : aM) : Prop := (∀ a, a ≠ 3 → C1 a = C a) ∧ ∀ j, j = 3 ∨ 6 < j → C1 3 j = C 3 j
def nM (R R1 : aM) : Prop := (∀ a, a ≠ 145 → R1 a = R a) ∧ ∀ j, j < 7 ∨ (11 < j ∧ j ≠ 53) → R1 145 j = R 145 j
theorem nL_rf : nL C C := ⟨fun _ _ => rfl, fun _ _ => rfl⟩
theorem nM_rf : nM R R := ⟨fun _ _ => rfl, fun _ _ => rfl⟩
theorem nL_tr (h : nL C C1) (g : nL C1 C2) : nL C C2 := ⟨fun a x => (g.1 a x).trans (h.1 a x), fun j x => (g.2 j x).trans (h.2 j x)⟩
theorem nM_tr (h : nM R R1) (g : nM R1 R2) : nM R R2 := ⟨fun a x => (g.1 a x).trans (h.1 a x), fun j x => (g.2 j x).trans (h.2 j x)⟩
theorem nL_s {j v : Int} (hj : j ≠ 3 ∧ j ≤ 6) : nL C (aSet C 3 j v) := ⟨fun a x => aSet_c x, fun i hi => aSet_i (by omega)⟩
theorem nM_s {j v : Int} (hj : (7 ≤ j ∧ j ≤ 11) ∨ j = 53) : nM R (aSet R 145 j v) := ⟨fun a x => aSet_c x, fun i hi => aSet_i (by omega)⟩
theorem nL_nx : nL C (nxC C) := nL_s (by omega)
theorem nM_nx : nM R (nxR R) := nM_s (by omega)
theorem nL_fl {n : Int} : nL C (flC C n) := nL_tr (nL_s (by omega)) (nL_s (by omega))
theorem nM_fl {n : Int} : nM R (flR R n) := nM_tr (nM_s (by omega)) (nM_s (by omega))
theorem s_31 {n p : Int} : aE 31 [aR 3, aI n, aI p] (SH L) C ([], SH L, if C 3 5 = 0 then aSet (aSet C 3 5 n) 3 6 p else C) := by
  by_cases c : C 3 5 = 0
  · rw [if_pos c]; exact en_31 ⟨fun q => absurd c q, fun _ => rfl⟩
  · rw [if_neg c]; exact en_31 ⟨fun _ => rfl, fun q => absurd c q⟩
/-- it lies at p at most -/
def LL (C R : aM) (p : Int) : Prop := C 3 5 = R 145 10 ∧ (C 3 5 = 0 ∨ (C 3 6 = R 145 11 ∧ C 3 6 ≤ p))
theorem LN_LL {p : Int} {e : Bool} (h : LN C R p e) : LL C R p := by
  refine ⟨h.1, ?_⟩
  rcases h.2 with h | ⟨a, b | ⟨_, b, _⟩⟩
  · exact Or.inl h
  · exact Or.inr ⟨a, by omega⟩
  · exact Or.inr ⟨a, by omega⟩
theorem LN_tt {p : Int} (h : LN C R p false) : LN C R p true := by
  refine ⟨h.1, ?_⟩
  rcases h.2 with h | ⟨a, b | ⟨b, _⟩⟩
  · exact Or.inl h
  · exact Or.inr ⟨a, Or.inl b⟩
  · cases b
/-- a late FAULT, told on both sides -/
theorem late {p n : Int} {e : Bool} {at_ : Int} (h : LN C R p e) (hn : n ≠ 0) (he : e = true → n = 3) (a0 : 0 ≤ at_ ∧ at_ ≤ 400) (hp : R 148 at_ = p) : ∃ C1 R1, aE 31 [aR 3, aI n, aI p] (SH L) C ([], SH L, C1) ∧ aE 192 [aR 145, aI n, aI at_] (SH L) R ([], SH L, R1) ∧ LL C1 R1 p ∧ (n = 3 → LN C1 R1 p true) ∧ nL C C1 ∧ nM R R1 ∧ (∀ j, j ≠ 5 → j ≠ 6 → C1 3 j = C 3 j) ∧ (∀ j, j ≠ 10 → j ≠ 11 → R1 145 j = R 145 j) ∧ ¬ C1 3 5 = 0 := by
  have l8 : aLn (SH L) 1 148 = 2001 := rfl
  have hh := h
  obtain ⟨h1, h2⟩ := h
  have r31 := s_31 (L := L) (C := C) (n := n) (p := p)
  by_cases c : C 3 5 = 0
  · rw [if_pos c] at r31
    have a1 : (aSet (aSet C 3 5 n) 3 6 p) 3 5 = n := by rw [aSet_i (by omega), aSet_e]
    have a2 : (aSet (aSet C 3 5 n) 3 6 p) 3 6 = p := aSet_e
    have b1 : (aSet (aSet R 145 10 n) 145 11 p) 145 10 = n := by rw [aSet_i (by omega), aSet_e]
    have b2 : (aSet (aSet R 145 10 n) 145 11 p) 145 11 = p := aSet_e
    refine ⟨_, aSet (aSet R 145 10 n) 145 11 p, r31, en_192 ⟨by omega, fun _ => bl_192_39 (by rw [hp]), fun q => absurd (by omega) q⟩, ⟨by rw [a1, b1], Or.inr ⟨by rw [a2, b2], by rw [a2]; exact Int.le_refl _⟩⟩, fun q => ⟨by rw [a1, b1], Or.inr ⟨by rw [a2, b2], Or.inr ⟨rfl, a2, by rw [a1]; exact q⟩⟩⟩, nL_tr (nL_s (by omega)) (nL_s (by omega)), nM_tr (nM_s (by omega)) (nM_s (by omega)), fun j a b => by rw [aSet_i b, aSet_i a], fun j a b => by rw [aSet_i b, aSet_i a], by rw [a1]; exact hn⟩
  · rw [if_neg c] at r31
    rcases h2 with h2 | ⟨h2, h3⟩
    · exact absurd h2 c
    · refine ⟨C, R, r31, en_192 ⟨by omega, fun q => absurd (by omega) c, fun _ => ⟨fun _ => rfl, fun q => ⟨fun q2 => absurd ?_ q2, fun _ => ⟨fun q3 => ?_, fun _ => rfl⟩⟩⟩⟩, LN_LL hh, fun q => ⟨h1, Or.inr ⟨h2, ?_⟩⟩, nL_rf, nM_rf, fun _ _ _ => rfl, fun _ _ _ => rfl, c⟩
      · rw [hp] at q ⊢
        rcases h3 with h3 | ⟨h3, h4, h5⟩
        · omega
        · omega
      · rcases h3 with h3 | ⟨h3, h4, h5⟩
        · rw [hp] at q; omega
        · have := he h3; omega
      · rcases h3 with h3 | ⟨h3, h4, h5⟩
        · exact Or.inl h3
        · exact Or.inr ⟨rfl, h4, h5⟩
theorem LT_of {h : Nat} (l : LL C R (C 6 (h : Int))) (lt : C 6 (h : Int) < C1 6 ((h + 1 : Nat) : Int)) (c : ∀ j, j = 5 ∨ j = 6 → C1 3 j = C 3 j) (r : ∀ j, j = 10 ∨ j = 11 → R1 145 j = R 145 j) : LT C1 R1 (h + 1) := by
  refine ⟨by rw [c 5 (by omega), r 10 (by omega)]; exact l.1, ?_⟩
  rw [c 5 (by omega), c 6 (by omega), r 11 (by omega)]
  rcases l.2 with a | ⟨a, b⟩
  · exact Or.inl a
  · exact Or.inr ⟨a, Or.inl (by omega)⟩
theorem LT_LN {h : Nat} (l : LT C R h) : LN C R (C 6 (h : Int)) false := l
theorem ST_nL {N h : Nat} {T : Int} (s : ST C R N T h) (c : nL C C1) (r : nM R R1) (c3 : ∀ j, j = 0 ∨ j = 1 ∨ j = 4 → C1 3 j = C 3 j) (r3 : ∀ j, 7 ≤ j → j ≤ 9 → R1 145 j = R 145 j) : ST C1 R1 N T h :=
  ST_cg s (fun a x y => c.1 a (by omega)) (fun a x y => r.1 a (by omega)) (fun j hj => by
    rcases hj with rfl | rfl | rfl | rfl
    · exact c3 0 (by omega)
    · exact c3 1 (by omega)
    · exact c.2 3 (by omega)
    · exact c3 4 (by omega)) r3
/-- an INT, both sides -/
theorem int_pair {N h : Nat} {T lo hi : Int} (s : ST C R N T h) (l : LT C R h) : ∃ C1 R1 x v, aE 32 [aR 3, aI lo, aI hi] (SH L) C ([aI x], SH L, C1) ∧ aE 197 [aR 145, aI lo, aI hi] (SH L) R ([aI v], SH L, R1) ∧ nL C C1 ∧ nM R R1 ∧
    ((v = 1 ∧ ST C1 R1 N T (h + 1) ∧ LT C1 R1 (h + 1) ∧ R1 145 53 = x ∧ (0 ≤ x ∧ x ≤ 9999) ∧ (C1 3 5 = 0 → C 3 5 = 0 ∧ lo ≤ x ∧ x ≤ hi)) ∨ (v = 0 ∧ FT C1 R1 T)) := by
  have hh := ST_h s
  have bb := s.2.1
  have tk := (ST_tk s).1
  have so := tk_so tk
  have l9 : aLn (SH L) 1 149 = 2001 := rfl
  have l7 : aLn (SH L) 1 147 = 2001 := rfl
  have r30 := s_30 (L := L) (C := C) hh.2.1
  have r27 := s_27 (L := L) (C := C) hh.2.1
  rw [bb.2.1] at r30 r27
  by_cases c : C 5 (h : Int) = 3
  · have v3 : R 149 (h : Int) = C 7 (h : Int) ∧ 0 ≤ C 7 (h : Int) ∧ C 7 (h : Int) ≤ 9999 := by
      rcases tk with ⟨a, _⟩ | ⟨a, _⟩ | ⟨a, _, _⟩ | ⟨a, _, x⟩ | ⟨_, a, _⟩ | ⟨_, _, _, a, _⟩
      · omega
      · omega
      · omega
      · exact x
      · omega
      · omega
    have so1 : R 147 (h : Int) = 1 := so.2.2.1.mp c
    have aWx : aW (C 7 (h : Int)) = C 7 (h : Int) := aWi (by omega) (by omega)
    rcases pass_y (L := L) s c (by omega) with ⟨h4, p1, p2, p3⟩ | ⟨h4, p1, p2, p3⟩
    · have r196 : aE 196 [aR 145, aI 1] (SH L) R ([aI 1], SH L, nxR R) := en_196 ⟨by omega, fun q => absurd (by rw [bb.2.2]; exact so1) q, fun _ => ⟨_, 1, p2, Or.inr rfl, rfl⟩⟩
      obtain ⟨Q, hQ⟩ : ∃ Q, Q = aSet (nxR R) 145 53 (C 7 (h : Int)) := ⟨_, rfl⟩
      have nQ : nM R Q := by rw [hQ]; exact nM_tr nM_nx (nM_s (by omega))
      have eQ : aSet (nxR R) 145 53 ((nxR R) 149 (R 145 7)) = Q := by rw [hQ, nxR_c (by omega), bb.2.2, v3.1]
      have q53 : Q 145 53 = C 7 (h : Int) := by rw [hQ, aSet_e]
      have sQ : ST (nxC C) Q N T (h + 1) := ST_cg p3 (fun _ _ _ => rfl) (fun a x y => by rw [hQ, aSet_c (by omega)]) (fun _ _ => rfl) (fun j x y => by rw [hQ, aSet_i (by omega)])
      have lt : C 6 (h : Int) < C 6 ((h + 1 : Nat) : Int) := s.1.2.2.2.2 h (by have := p3.2.1.1; omega)
      have ln : LN (nxC C) Q (C 6 (h : Int)) false := by
        have l' := l
        unfold LT LN at l'
        unfold LN
        rw [nxC_3 (by omega), nxC_3 (by omega), show Q 145 10 = R 145 10 by rw [hQ, aSet_i (by omega), nxR_1 (by omega)], show Q 145 11 = R 145 11 by rw [hQ, aSet_i (by omega), nxR_1 (by omega)]]
        exact l'
      have st197 : ∀ o, ((C 7 (h : Int) < lo → aX xc_197 (aSeek xc_197 41) [aR 145, aU, aU, aI (h : Int)] [] (SH L) Q o) ∧ (¬ C 7 (h : Int) < lo → ((C 7 (h : Int) ≤ hi → o = ([aI 1], SH L, Q)) ∧ (¬ C 7 (h : Int) ≤ hi → aX xc_197 (aSeek xc_197 41) [aR 145, aU, aU, aI (h : Int)] [] (SH L) Q o)))) → aE 197 [aR 145, aI lo, aI hi] (SH L) R o := by
        intro o x
        refine en_197 ⟨_, 1, r196, fun _ => ⟨by omega, ?_⟩, fun q => absurd (by omega) q⟩
        rw [eQ, q53, bb.2.2]
        exact x
      have st32 : ∀ o, ((C 7 (h : Int) < lo → aX xc_32 (aSeek xc_32 30) [aR 3, aU, aU, aI (C 7 (h : Int)), aI (C 6 (h : Int))] [] (SH L) (nxC C) o) ∧ (¬ C 7 (h : Int) < lo → ((C 7 (h : Int) ≤ hi → o = ([aI (C 7 (h : Int))], SH L, nxC C)) ∧ (¬ C 7 (h : Int) ≤ hi → aX xc_32 (aSeek xc_32 30) [aR 3, aU, aU, aI (C 7 (h : Int)), aI (C 6 (h : Int))] [] (SH L) (nxC C) o)))) → aE 32 [aR 3, aI lo, aI hi] (SH L) C o := by
        intro o x
        refine en_32 ⟨C, _, r30, C, _, r27, _, 1, p1, fun q => absurd q (by omega), fun _ => ?_⟩
        rw [aWx]
        exact x
      by_cases cw : C 7 (h : Int) < lo ∨ ¬ C 7 (h : Int) ≤ hi
      · obtain ⟨C1, R1, b1, b2, b3, -, b5, b6, b7, b8, b9⟩ := late (L := L) (n := 5) (at_ := (h : Int)) ln (by omega) (fun q => by cases q) (by omega) (by rw [nQ.1 148 (by omega)]; exact (ST_tk s).2.symm)
        have k32 : aX xc_32 (aSeek xc_32 30) [aR 3, aU, aU, aI (C 7 (h : Int)), aI (C 6 (h : Int))] [] (SH L) (nxC C) ([aI (C 7 (h : Int))], SH L, C1) := bl_32_30 ⟨C1, b1, rfl⟩
        have k197 : aX xc_197 (aSeek xc_197 41) [aR 145, aU, aU, aI (h : Int)] [] (SH L) Q ([aI 1], SH L, R1) := bl_197_41 ⟨R1, b2, rfl⟩
        refine ⟨C1, R1, C 7 (h : Int), 1, st32 _ ⟨fun _ => k32, fun q => ⟨fun q2 => absurd cw (by omega), fun _ => k32⟩⟩, st197 _ ⟨fun _ => k197, fun q => ⟨fun q2 => absurd cw (by omega), fun _ => k197⟩⟩, nL_tr nL_nx b5, nM_tr nQ b6, Or.inl ⟨rfl, ST_nL sQ b5 b6 (fun j hj => b7 j (by omega) (by omega)) (fun j x y => b8 j (by omega) (by omega)), ?_, ?_, v3.2, fun q => absurd q b9⟩⟩
        · have e6 : C1 6 = C 6 := by rw [b5.1 6 (by omega), nxC_c (by omega)]
          refine ⟨b3.1, ?_⟩
          rw [e6]
          rcases b3.2 with b3 | ⟨x, y⟩
          · exact Or.inl b3
          · exact Or.inr ⟨x, Or.inl (by omega)⟩
        · rw [b8 53 (by omega) (by omega), q53]
      · refine ⟨nxC C, Q, C 7 (h : Int), 1, st32 _ ⟨fun q => absurd (Or.inl q) cw, fun _ => ⟨fun _ => rfl, fun q => absurd (Or.inr q) cw⟩⟩, st197 _ ⟨fun q => absurd (Or.inl q) cw, fun _ => ⟨fun _ => rfl, fun q => absurd (Or.inr q) cw⟩⟩, nL_nx, nQ, Or.inl ⟨rfl, sQ, ?_, q53, v3.2, fun q => ⟨by rw [nxC_3 (by omega)] at q; exact q, by omega⟩⟩⟩
        have l2 := LN_LL ln
        refine ⟨l2.1, ?_⟩
        rw [nxC_c (show (6 : Int) ≠ 3 by omega)]
        rcases l2.2 with b3 | ⟨x, y⟩
        · exact Or.inl b3
        · exact Or.inr ⟨x, Or.inl (by omega)⟩
    · have r196 : aE 196 [aR 145, aI 1] (SH L) R ([aI 0], SH L, flR R 2) := en_196 ⟨by omega, fun q => absurd (by rw [bb.2.2]; exact so1) q, fun _ => ⟨_, 0, p2, Or.inl rfl, rfl⟩⟩
      exact ⟨flC C 2, flR R 2, _, 0, en_32 ⟨C, _, r30, C, _, r27, _, 0, p1, fun _ => rfl, fun q => absurd rfl q⟩, en_197 ⟨_, 0, r196, fun q => absurd rfl q, fun _ => rfl⟩, nL_fl, nM_fl, Or.inr ⟨rfl, p3⟩⟩
  · have so1 : ¬ R 147 (h : Int) = 1 := fun q => c (so.2.2.1.mpr q)
    have r196 : aE 196 [aR 145, aI 1] (SH L) R ([aI 0], SH L, flR R 1) := en_196 ⟨by omega, fun _ => ⟨_, 0, s_191 hh.2.2, Or.inl rfl, rfl⟩, fun q => absurd (by rw [bb.2.2] at q; exact Classical.not_not.mp q) so1⟩
    exact ⟨flC C 1, flR R 1, _, 0, en_32 ⟨C, _, r30, C, _, r27, _, 0, s_29n s.2.2.1.1 hh.2.1 (by rw [bb.2.1]; exact c), fun _ => rfl, fun q => absurd rfl q⟩, en_197 ⟨_, 0, r196, fun q => absurd rfl q, fun _ => rfl⟩, nL_fl, nM_fl, Or.inr ⟨rfl, ST_fl s (by omega)⟩⟩
/-- the class's INT behind a FAULT -/
theorem int_f {T lo hi : Int} (h : FT C R T) : ∃ x, aE 32 [aR 3, aI lo, aI hi] (SH L) C ([aI x], SH L, C) := ⟨_, s_32f h.1 h.2.2.2.1⟩
end INT1
