/-! reading: the two readers' smallest steps -/
section RDR1
variable {L : Nat} {C R C1 R1 C2 R2 : aM}
/-- the TOKENS of both sides: the class's memory C, the reference's R -/
def TK (C R : aM) (N : Nat) : Prop := N ≤ 400 ∧ (∀ i : Nat, i ≤ N → tkR (C 5 (i : Int)) (C 7 (i : Int)) (R 147 (i : Int)) (R 149 (i : Int)) (R 150 (i : Int)) ∧ C 6 (i : Int) = R 148 (i : Int)) ∧
  (∀ i : Nat, i < N → ¬ (C 5 (i : Int) = 0 ∨ C 5 (i : Int) = 1)) ∧ (N = 400 ∨ C 5 (N : Int) = 0 ∨ C 5 (N : Int) = 1) ∧ ∀ i : Nat, i < N → C 6 (i : Int) < C 6 ((i + 1 : Nat) : Int)
theorem TK_cg {N : Nat} (h : TK C R N) (c : ∀ a, 5 ≤ a → a ≤ 7 → C1 a = C a) (r : ∀ a, 147 ≤ a → a ≤ 150 → R1 a = R a) : TK C1 R1 N := by
  unfold TK
  rw [c 5 (by omega) (by omega), c 6 (by omega) (by omega), c 7 (by omega) (by omega), r 147 (by omega) (by omega), r 148 (by omega) (by omega), r 149 (by omega) (by omega), r 150 (by omega) (by omega)]
  exact h
theorem sg_inj : ∀ s : Nat, s < 16 → ∀ t : Nat, t < 16 → 4 ≤ s → 4 ≤ t → sgR (s : Int) = sgR (t : Int) → s = t := by decide +kernel
theorem cm_inj : ∀ s : Nat, s < 24 → ∀ t : Nat, t < 24 → cmW (s : Int) = cmW (t : Int) → s = t := by decide +kernel
theorem tk_sign {ty va so wh na t : Int} (h : tkR ty va so wh na) (t0 : 4 ≤ t ∧ t ≤ 15) : ty = t ↔ so = 2 ∧ wh = sgR t := by
  rcases h with ⟨a, b⟩ | ⟨a, b⟩ | ⟨a, b, _⟩ | ⟨a, b, _⟩ | ⟨a, b, c⟩ | ⟨a, w, w0, b, c⟩
  · omega
  · omega
  · omega
  · omega
  · constructor
    · intro q; rw [← q]; exact ⟨a, c⟩
    · rintro ⟨-, q⟩
      have := sg_inj ty.toNat (by omega) t.toNat (by omega) (by omega) (by omega) (by rw [show ((ty.toNat : Nat) : Int) = ty by omega, show ((t.toNat : Nat) : Int) = t by omega, ← c, q])
      omega
  · omega
theorem tk_word {ty va so wh na : Int} {t : Nat} (h : tkR ty va so wh na) (t0 : t < 24) : ty = 16 + t ↔ so = 3 ∧ wh = cmW t := by
  rcases h with ⟨a, b⟩ | ⟨a, b⟩ | ⟨a, b, _⟩ | ⟨a, b, _⟩ | ⟨a, b, c⟩ | ⟨a, w, w0, b, c⟩
  · omega
  · omega
  · omega
  · omega
  · omega
  · constructor
    · intro q; rw [show t = w by omega]; exact ⟨a, c⟩
    · rintro ⟨-, q⟩
      have := cm_inj w w0 t t0 (by rw [← c, q])
      omega
theorem tk_so {ty va so wh na : Int} (h : tkR ty va so wh na) : (ty = 0 ↔ so = 4) ∧ (ty = 2 ↔ so = 0) ∧ (ty = 3 ↔ so = 1) ∧ (so = 3 ↔ 16 ≤ ty) ∧ ty ≤ 39 ∧ (so = 3 → ∃ w : Nat, w < 24 ∧ ty = 16 + w ∧ wh = cmW w) := by
  rcases h with ⟨a, b⟩ | ⟨a, b⟩ | ⟨a, b, _⟩ | ⟨a, b, _⟩ | ⟨a, b, c⟩ | ⟨a, w, w0, b, c⟩
  · exact ⟨by omega, by omega, by omega, by omega, by omega, fun q => by omega⟩
  · exact ⟨by omega, by omega, by omega, by omega, by omega, fun q => by omega⟩
  · exact ⟨by omega, by omega, by omega, by omega, by omega, fun q => by omega⟩
  · exact ⟨by omega, by omega, by omega, by omega, by omega, fun q => by omega⟩
  · exact ⟨by omega, by omega, by omega, by omega, by omega, fun q => by omega⟩
  · exact ⟨by omega, by omega, by omega, by omega, by omega, fun _ => ⟨w, w0, b, c⟩⟩
theorem s_26 (h : 0 ≤ C 3 4 ∧ C 3 4 ≤ 400) : aE 26 [aR 3] (SH L) C ([aI (C 5 (C 3 4))], SH L, C) :=
  en_26 ⟨fun q => absurd q (by rw [show aL (SH L) 5 = 401 from rfl]; omega), fun _ => ⟨by rw [show aLn (SH L) 1 5 = 401 from rfl]; omega, rfl⟩⟩
theorem s_27 (h : 0 ≤ C 3 4 ∧ C 3 4 ≤ 400) : aE 27 [aR 3] (SH L) C ([aI (C 6 (C 3 4))], SH L, C) :=
  en_27 ⟨fun q => absurd q (by rw [show aL (SH L) 6 = 401 from rfl]; omega), fun _ => ⟨by rw [show aLn (SH L) 1 6 = 401 from rfl]; omega, rfl⟩⟩
theorem s_30 (h : 0 ≤ C 3 4 ∧ C 3 4 ≤ 400) : aE 30 [aR 3] (SH L) C ([aJ (C 7 (C 3 4))], SH L, C) :=
  en_30 ⟨fun q => absurd q (by rw [show aL (SH L) 7 = 401 from rfl]; omega), fun _ => ⟨by rw [show aLn (SH L) 2 7 = 401 from rfl]; omega, rfl⟩⟩
theorem s_28 {n p : Int} : aE 28 [aR 3, aI n, aI p] (SH L) C ([], SH L, if C 3 0 = 0 then aSet (aSet C 3 0 n) 3 1 p else C) := by
  by_cases c : C 3 0 = 0
  · rw [if_pos c]; exact en_28 ⟨fun q => absurd c q, fun _ => rfl⟩
  · rw [if_neg c]; exact en_28 ⟨fun _ => rfl, fun q => absurd c q⟩
def flC (C : aM) (n : Int) : aM := aSet (aSet C 3 0 n) 3 1 (C 6 (C 3 4))
def nxC (C : aM) : aM := aSet C 3 4 (C 3 4 + 1)
def flR (R : aM) (n : Int) : aM := aSet (aSet R 145 8 n) 145 9 (R 148 (R 145 7))
def nxR (R : aM) : aM := aSet R 145 7 (R 145 7 + 1)
theorem s_29y {t : Int} (h0 : C 3 0 = 0) (h : 0 ≤ C 3 4 ∧ C 3 4 < 400) (q : C 5 (C 3 4) = t) : aE 29 [aR 3, aI t] (SH L) C ([aI 1], SH L, nxC C) :=
  en_29 ⟨fun _ => ⟨C, _, s_26 (by omega), fun _ => ⟨fun _ => by unfold nxC; rw [aWi (by omega) (by omega)], fun z => absurd h.2 z⟩, fun z => absurd q z⟩, fun z => absurd h0 z⟩
theorem s_29r {t : Int} (h0 : C 3 0 = 0) (h : C 3 4 = 400) (q : C 5 (C 3 4) = t) : aE 29 [aR 3, aI t] (SH L) C ([aI 0], SH L, flC C 2) := by
  have := s_28 (L := L) (C := C) (n := 2) (p := C 6 (C 3 4))
  rw [if_pos h0] at this
  exact en_29 ⟨fun _ => ⟨C, _, s_26 (by omega), fun _ => ⟨fun z => by omega, fun _ => ⟨C, _, s_27 (by omega), _, this, rfl⟩⟩, fun z => absurd q z⟩, fun z => absurd h0 z⟩
theorem s_29n {t : Int} (h0 : C 3 0 = 0) (h : 0 ≤ C 3 4 ∧ C 3 4 ≤ 400) (q : ¬ C 5 (C 3 4) = t) : aE 29 [aR 3, aI t] (SH L) C ([aI 0], SH L, flC C 1) := by
  have := s_28 (L := L) (C := C) (n := 1) (p := C 6 (C 3 4))
  rw [if_pos h0] at this
  exact en_29 ⟨fun _ => ⟨C, _, s_26 h, fun z => absurd z q, fun _ => ⟨C, _, s_27 h, _, this, rfl⟩⟩, fun z => absurd h0 z⟩
/-- behind a FAULT nothing is passed -/
theorem s_29f {t : Int} (h0 : ¬ C 3 0 = 0) : aE 29 [aR 3, aI t] (SH L) C ([aI 0], SH L, C) := en_29 ⟨fun z => absurd z h0, fun _ => rfl⟩
theorem s_32f {a b : Int} (h0 : ¬ C 3 0 = 0) (h : 0 ≤ C 3 4 ∧ C 3 4 ≤ 400) : aE 32 [aR 3, aI a, aI b] (SH L) C ([aI (aW (C 7 (C 3 4)))], SH L, C) :=
  en_32 ⟨C, _, s_30 h, C, _, s_27 h, C, _, s_29f h0, fun _ => rfl, fun z => absurd rfl z⟩
theorem s_28f {n p : Int} (h0 : ¬ C 3 0 = 0) : aE 28 [aR 3, aI n, aI p] (SH L) C ([], SH L, C) := by
  have := s_28 (L := L) (C := C) (n := n) (p := p)
  rw [if_neg h0] at this
  exact this
theorem s_191 {n : Int} (h : 0 ≤ R 145 7 ∧ R 145 7 ≤ 400) : aE 191 [aR 145, aI n] (SH L) R ([aI 0], SH L, flR R n) := by
  apply en_191
  rw [aSet_i (show (7 : Int) ≠ 8 by omega), aSet_c (show (148 : Int) ≠ 145 by omega)]
  exact ⟨by rw [show aLn (SH L) 1 148 = 2001 from rfl]; omega, rfl⟩
theorem s_193y (h : 0 ≤ R 145 7 ∧ R 145 7 < 400) : aE 193 [aR 145] (SH L) R ([aI 1], SH L, nxR R) :=
  en_193 ⟨fun _ => by unfold nxR; rw [aWi (by omega) (by omega)], fun z => absurd h.2 z⟩
theorem s_193r (h : R 145 7 = 400) : aE 193 [aR 145] (SH L) R ([aI 0], SH L, flR R 2) :=
  en_193 ⟨fun z => by omega, fun _ => ⟨_, 0, s_191 (by omega), Or.inl rfl, rfl⟩⟩
theorem s_194 {c : Int} (h : 0 ≤ R 145 7 ∧ R 145 7 ≤ 400) : aE 194 [aR 145, aI c] (SH L) R ([aI (bi (decide (R 147 (R 145 7) = 2 ∧ R 149 (R 145 7) = c)))], SH L, R) := by
  have l7 : aLn (SH L) 1 147 = 2001 := rfl
  have l9 : aLn (SH L) 1 149 = 2001 := rfl
  exact en_194 ⟨by omega, fun q => rI (bin (fun z => q z.1)), fun q => ⟨by omega, fun q2 => rI (bin (fun z => q2 z.2)), fun q2 => rI (bip ⟨Classical.not_not.mp q, Classical.not_not.mp q2⟩)⟩⟩
theorem s_195 {c : Int} (h : 0 ≤ R 145 7 ∧ R 145 7 ≤ 400) : aE 195 [aR 145, aI c] (SH L) R ([aI (bi (decide (R 147 (R 145 7) = 3 ∧ R 149 (R 145 7) = c)))], SH L, R) := by
  have l7 : aLn (SH L) 1 147 = 2001 := rfl
  have l9 : aLn (SH L) 1 149 = 2001 := rfl
  exact en_195 ⟨by omega, fun q => rI (bin (fun z => q z.1)), fun q => ⟨by omega, fun q2 => rI (bin (fun z => q2 z.2)), fun q2 => rI (bip ⟨Classical.not_not.mp q, Classical.not_not.mp q2⟩)⟩⟩
/-- both stand at TOKEN h, without a FAULT -/
def ST (C R : aM) (N : Nat) (T : Int) (h : Nat) : Prop := TK C R N ∧ (h ≤ N ∧ C 3 4 = (h : Int) ∧ R 145 7 = (h : Int)) ∧ (C 3 0 = 0 ∧ C 3 1 = -1 ∧ R 145 8 = 0 ∧ R 145 9 = -1) ∧ C 3 3 = T ∧ isTx T
theorem ST_cg {N h : Nat} {T : Int} (s : ST C R N T h) (c : ∀ a, 5 ≤ a → a ≤ 7 → C1 a = C a) (r : ∀ a, 147 ≤ a → a ≤ 150 → R1 a = R a) (c3 : ∀ j, j = 0 ∨ j = 1 ∨ j = 3 ∨ j = 4 → C1 3 j = C 3 j) (r3 : ∀ j, 7 ≤ j → j ≤ 9 → R1 145 j = R 145 j) : ST C1 R1 N T h := by
  obtain ⟨a, b, d, e, f⟩ := s
  unfold ST
  rw [c3 0 (by omega), c3 1 (by omega), c3 3 (by omega), c3 4 (by omega), r3 7 (by omega) (by omega), r3 8 (by omega) (by omega), r3 9 (by omega) (by omega)]
  exact ⟨TK_cg a c r, b, d, e, f⟩
theorem ST_h {N h : Nat} {T : Int} (s : ST C R N T h) : h ≤ 400 ∧ (0 ≤ C 3 4 ∧ C 3 4 ≤ 400) ∧ 0 ≤ R 145 7 ∧ R 145 7 ≤ 400 := by
  have a := s.1.1
  have b := s.2.1
  omega
theorem ST_tk {N h : Nat} {T : Int} (s : ST C R N T h) : tkR (C 5 (h : Int)) (C 7 (h : Int)) (R 147 (h : Int)) (R 149 (h : Int)) (R 150 (h : Int)) ∧ C 6 (h : Int) = R 148 (h : Int) := s.1.2.1 h s.2.1.1
/-- the FAULT that both find -/
def FT (C R : aM) (T : Int) : Prop := ¬ C 3 0 = 0 ∧ R 145 8 = C 3 0 ∧ R 145 9 = C 3 1 ∧ (0 ≤ C 3 4 ∧ C 3 4 ≤ 400) ∧ C 3 3 = T ∧ isTx T
theorem FT_cg {T : Int} (s : FT C R T) (c3 : ∀ j, j = 0 ∨ j = 1 ∨ j = 3 ∨ j = 4 → C1 3 j = C 3 j) (r3 : ∀ j, 8 ≤ j → j ≤ 9 → R1 145 j = R 145 j) : FT C1 R1 T := by
  unfold FT
  rw [c3 0 (by omega), c3 1 (by omega), c3 3 (by omega), c3 4 (by omega), r3 8 (by omega) (by omega), r3 9 (by omega) (by omega)]
  exact s
theorem ST_fl {N h : Nat} {T n : Int} (s : ST C R N T h) (hn : n ≠ 0) : FT (flC C n) (flR R n) T := by
  have b := s.2.1
  have k := ST_tk s
  have hh := ST_h s
  unfold FT flC flR
  rw [aSet_i (show (0 : Int) ≠ 1 by omega), aSet_e, aSet_i (show (8 : Int) ≠ 9 by omega), aSet_e, aSet_e, aSet_e, aSet_i (show (4 : Int) ≠ 1 by omega), aSet_i (show (4 : Int) ≠ 0 by omega), aSet_i (show (3 : Int) ≠ 1 by omega), aSet_i (show (3 : Int) ≠ 0 by omega), b.2.1, b.2.2]
  exact ⟨hn, rfl, k.2.symm, by omega, s.2.2.2.1, s.2.2.2.2⟩
theorem ST_nx {N h : Nat} {T : Int} (s : ST C R N T h) (q : ¬ (C 5 (h : Int) = 0 ∨ C 5 (h : Int) = 1)) (h4 : h < 400) : ST (nxC C) (nxR R) N T (h + 1) := by
  obtain ⟨a, b, d, e, f⟩ := s
  have hN : h < N := by
    rcases a.2.2.2.1 with n | n | n
    · omega
    · by_cases z : h = N
      · rw [z] at q; exact absurd (Or.inl n) q
      · omega
    · by_cases z : h = N
      · rw [z] at q; exact absurd (Or.inr n) q
      · omega
  unfold ST nxC nxR
  rw [aSet_e, aSet_e, aSet_i (show (0 : Int) ≠ 4 by omega), aSet_i (show (1 : Int) ≠ 4 by omega), aSet_i (show (3 : Int) ≠ 4 by omega), aSet_i (show (8 : Int) ≠ 7 by omega), aSet_i (show (9 : Int) ≠ 7 by omega)]
  exact ⟨TK_cg a (fun x x1 x2 => aSet_c (by omega)) (fun x x1 x2 => aSet_c (by omega)), by omega, d, e, f⟩
/-- both pass a TOKEN that fits -/
theorem pass_y {N h : Nat} {T t : Int} (s : ST C R N T h) (q : C 5 (h : Int) = t) (t0 : t ≠ 0 ∧ t ≠ 1) : (h < 400 ∧ aE 29 [aR 3, aI t] (SH L) C ([aI 1], SH L, nxC C) ∧ aE 193 [aR 145] (SH L) R ([aI 1], SH L, nxR R) ∧ ST (nxC C) (nxR R) N T (h + 1)) ∨ (h = 400 ∧ aE 29 [aR 3, aI t] (SH L) C ([aI 0], SH L, flC C 2) ∧ aE 193 [aR 145] (SH L) R ([aI 0], SH L, flR R 2) ∧ FT (flC C 2) (flR R 2) T) := by
  have hh := ST_h s
  have b := s.2.1
  have q2 : C 5 (C 3 4) = t := by rw [b.2.1]; exact q
  by_cases c : h < 400
  · exact Or.inl ⟨c, s_29y s.2.2.1.1 (by omega) q2, s_193y (by omega), ST_nx s (by omega) c⟩
  · exact Or.inr ⟨by omega, s_29r s.2.2.1.1 (by omega) q2, s_193r (by omega), ST_fl s (by omega)⟩
/-- ends of the parsing of a part: both went on, or both found the FAULT -/
theorem nxC_c {a : Int} (h : a ≠ 3) : nxC C a = C a := aSet_c h
theorem nxR_c {a : Int} (h : a ≠ 145) : nxR R a = R a := aSet_c h
theorem flC_c {a n : Int} (h : a ≠ 3) : flC C n a = C a := by unfold flC; rw [aSet_c h, aSet_c h]
theorem flR_c {a n : Int} (h : a ≠ 145) : flR R n a = R a := by unfold flR; rw [aSet_c h, aSet_c h]
theorem nxC_3 {j : Int} (h : j ≠ 4) : nxC C 3 j = C 3 j := aSet_i h
theorem nxR_1 {j : Int} (h : j ≠ 7) : nxR R 145 j = R 145 j := aSet_i h
theorem flC_3 {j n : Int} (h : j ≠ 0 ∧ j ≠ 1) : flC C n 3 j = C 3 j := by unfold flC; rw [aSet_i h.2, aSet_i h.1]
theorem flR_1 {j n : Int} (h : j ≠ 8 ∧ j ≠ 9) : flR R n 145 j = R 145 j := by unfold flR; rw [aSet_i h.2, aSet_i h.1]
end RDR1
