/-! reading: a NAME, both sides -/
section NAM
variable {L : Nat} {C R C1 R1 C2 R2 : aM}
/-- nothing was put out -/
theorem RD_w {N h h1 : Nat} {T : Int} (d : RD C R N T h) (hh : h ≤ h1) (s : ST C1 R1 N T h1) (l : LT C1 R1 h1) (c : ∀ j, 13 ≤ j → j ≤ 16 → C1 T j = C T j) (cc : ∀ a, T + 8 ≤ a → a ≤ T + 10 → C1 a = C a) (r : ∀ a, 164 ≤ a → a ≤ 178 → R1 a = R a) (kd : KD C1 R1 T) (fd : FD C1 R1 T) (wd : WD C1 R1 T) : RD C1 R1 N T h1 := by
  obtain ⟨_, _, bg, _, _, _, gd, ru, li, b⟩ := d
  have sh : ∀ a, 164 ≤ a → a ≤ 178 → shR R1 a = shR R a := fun a ha hb => by funext b; unfold shR; rw [r a ha hb]
  refine ⟨s, l, ?_, kd, fd, wd, ?_, ?_, ?_, ?_⟩
  · unfold BG at bg ⊢
    rw [c 13 (by omega) (by omega), r 169 (by omega) (by omega), r 172 (by omega) (by omega)]
    omega
  · exact GD_cg gd ⟨c 14 (by omega) (by omega), c 15 (by omega) (by omega), by rw [c 13 (by omega) (by omega)]; exact Int.le_refl _⟩ (fun i _ => by rw [cc (T + 8) (by omega) (by omega)]) ⟨by rw [r 164 (by omega) (by omega)], by rw [r 165 (by omega) (by omega)], by rw [r 169 (by omega) (by omega)]; exact Int.le_refl _⟩ (fun i _ => by rw [r 170 (by omega) (by omega), r 171 (by omega) (by omega)]; exact ⟨rfl, rfl⟩)
  · unfold RU at ru ⊢
    rw [c 16 (by omega) (by omega), c 13 (by omega) (by omega), cc (T + 8) (by omega) (by omega), cc (T + 9) (by omega) (by omega), cc (T + 10) (by omega) (by omega), r 166 (by omega) (by omega), r 167 (by omega) (by omega), r 168 (by omega) (by omega), r 172 (by omega) (by omega)]
    refine ⟨ru.1, fun r r0 r1 => ?_⟩
    obtain ⟨x1, x2, x3⟩ := ru.2 r r0 r1
    exact ⟨x1, x2, fun vr => by rw [hdV_cg (fun a x y => sh a (by omega) (by omega))]; exact x3 vr⟩
  · intro k k0 k1
    rw [r 172 (by omega) (by omega)] at k1
    obtain ⟨x, y⟩ := li k k0 k1
    refine ⟨?_, liOk_cg y (fun a x y => sh a (by omega) (by omega))⟩
    unfold lB at x ⊢
    rw [r 175 (by omega) (by omega), r 176 (by omega) (by omega), r 177 (by omega) (by omega), r 169 (by omega) (by omega)]
    exact x
  · unfold b3
    rw [r 173 (by omega) (by omega)]
    exact b
/-- an INT that is put away -/
theorem int_put {N h : Nat} {T lo hi ca cj ra rj : Int} (s : ST C R N T h) (l : LT C R h) (hc : 9 ≤ ca) (hr : 151 ≤ ra ∧ ra ≤ 163) : ∃ C1 R1 x v, aE 32 [aR 3, aI lo, aI hi] (SH L) C ([aI x], SH L, C1) ∧ aE 197 [aR 145, aI lo, aI hi] (SH L) R ([aI v], SH L, R1) ∧ nL C C1 ∧ nM R R1 ∧
    ((v = 1 ∧ (R1 145 53 = x ∧ 0 ≤ x ∧ x ≤ 9999) ∧ ST (aSet C1 ca cj x) (aSet R1 ra rj x) N T (h + 1) ∧ LT (aSet C1 ca cj x) (aSet R1 ra rj x) (h + 1) ∧ ((aSet C1 ca cj x) 3 5 = 0 → C 3 5 = 0 ∧ lo ≤ x ∧ x ≤ hi)) ∨ (v = 0 ∧ FT C1 R1 T)) := by
  obtain ⟨C1, R1, x, v, a1, a2, a3, a4, a5⟩ := int_pair (L := L) (lo := lo) (hi := hi) s l
  refine ⟨C1, R1, x, v, a1, a2, a3, a4, ?_⟩
  rcases a5 with ⟨v1, s2, l2, e53, xb, xz⟩ | a5
  · refine Or.inl ⟨v1, ⟨e53, xb⟩, ST_cg s2 (fun a x y => aSet_c (by omega)) (fun a x y => aSet_c (by omega)) (fun j _ => by rw [aSet_c (by omega)]) (fun j _ _ => by rw [aSet_c (by omega)]), ?_, fun q => by rw [aSet_c (by omega)] at q; exact xz q⟩
    unfold LT LN
    rw [aSet_c (show (3 : Int) ≠ ca by omega), aSet_c (show (145 : Int) ≠ ra by omega), aSet_c (show (6 : Int) ≠ ca by omega)]
    exact l2
  · exact Or.inr a5
def kdC (T k : Int) (C C1 : aM) : Prop := ∀ a b, a ≠ 3 → ¬ (T + 1 ≤ a ∧ a ≤ T + 5 ∧ b = k) → C1 a b = C a b
def kdR (k : Int) (R R1 : aM) : Prop := (∀ a b, a ≠ 145 → ¬ (154 ≤ a ∧ a ≤ 158 ∧ b = 14 + k) → R1 a b = R a b) ∧ ∀ j, j < 7 ∨ (11 < j ∧ j ≠ 53) → R1 145 j = R 145 j
theorem kdC_tr {T k : Int} (h : kdC T k C C1) (g : kdC T k C1 C2) : kdC T k C C2 := fun a b x y => (g a b x y).trans (h a b x y)
theorem kdR_tr {k : Int} (h : kdR k R R1) (g : kdR k R1 R2) : kdR k R R2 := ⟨fun a b x y => (g.1 a b x y).trans (h.1 a b x y), fun j x => (g.2 j x).trans (h.2 j x)⟩
theorem kdC_nL {T k : Int} (h : nL C C1) : kdC T k C C1 := fun a b x _ => by rw [h.1 a x]
theorem kdR_nM {k : Int} (h : nM R R1) : kdR k R R1 := ⟨fun a b x _ => by rw [h.1 a x], h.2⟩
theorem kdC_s {T k a v : Int} (h : T + 1 ≤ a ∧ a ≤ T + 5) : kdC T k C (aSet C a k v) := fun x y _ n => by
  rw [aSet_a, if_neg]
  rintro ⟨rfl, rfl⟩
  exact n ⟨h.1, h.2, rfl⟩
theorem kdR_s {k a v : Int} (h : 154 ≤ a ∧ a ≤ 158) : kdR k R (aSet R a (14 + k) v) := ⟨fun x y _ n => by
  rw [aSet_a, if_neg]
  rintro ⟨rfl, rfl⟩
  exact n ⟨h.1, h.2, rfl⟩, fun j _ => by rw [aSet_c (by omega)]⟩
theorem cZ_kd {T k : Int} (h : kdC T k C C1) : cZ T C C1 := fun a x _ y => funext fun b => h a b x (by omega)
theorem rZ_kd {k : Int} (h : kdR k R R1) (k0 : 0 ≤ k) : rZ R R1 := by
  refine ⟨?_, fun i q => by rw [show R1 173 i = R 173 i from h.1 173 i (by omega) (by omega)]; exact q⟩
  intro a b x
  unfold zR at x
  by_cases c : a = 145
  · subst c; exact h.2 b (by omega)
  · exact h.1 a b c (by omega)
/-- a KIND behind its NAME -/
def n6 (L : Nat) (a1 : Int) (R : aM) (o : aO) : Prop := ∃ (M1 : aM) (v2 : Int), aE 197 [aR 145, aI 1, aI 60] (SH L) R ([aI v2], SH L, M1) ∧ ((¬ v2 = 0 → (0 ≤ a1 ∧ a1 < aLn (SH L) 1 155) ∧ (∃ (M3 : aM) (v4 : Int), aE 197 [aR 145, aI 1, aI 60] (SH L) (aSet M1 155 a1 (M1 145 53)) ([aI v4], SH L, M3) ∧ ((¬ v4 = 0 → (0 ≤ a1 ∧ a1 < aLn (SH L) 1 156) ∧ o = ([aI 1], SH L, aSet M3 156 a1 (M3 145 53))) ∧ (¬ (¬ v4 = 0) → o = ([aI 0], SH L, M3))))) ∧ (¬ (¬ v2 = 0) → o = ([aI 0], SH L, M1)))
theorem nm_eq {a b x y : Int} (h : nmR a b) (g : nmR x y) : a = x ↔ b = y := by
  obtain ⟨l, l1, l2, l3⟩ := h
  obtain ⟨m, m1, m2, m3⟩ := g
  constructor
  · intro q
    have := fR_inj (m := 32) (by omega) l m l1 m1 (by rw [← l2, ← m2, q])
    rw [l3, m3, this]
  · intro q
    have := fR_inj (m := 27) (by omega) l m l1 m1 (by rw [← l3, ← m3, q])
    rw [l2, m2, this]
theorem nl {T k p name na : Int} {h : Nat} (ht : isTx T) (hk : 0 ≤ k ∧ k < 14) (hh : h ≤ 400) (hn : nmR name na) : ∀ (m : Nat) (i : Int) (C R : aM), k - i = m → 0 ≤ i → C 3 3 = T → C T 3 = k → R 153 1 = k → R 148 (h : Int) = p → R 150 (h : Int) = na → LN C R p true → (∀ j, 0 ≤ j → j < k → nmR (C (T + 1) j) (R 158 (14 + j))) →
    ∃ C1 R1, aX xc_34 (aSeek xc_34 34) [aR 3, aI p, aJ name, aU, aI i] [] (SH L) C ([], SH L, C1) ∧ (∀ o, n6 L (14 + k) R1 o → aX xc_206 (aSeek xc_206 17) [aR 145, aI (14 + k), aI (h : Int), aI i] [] (SH L) R o) ∧ LL C1 R1 p ∧ kdC T k C C1 ∧ kdR k R R1 ∧ (C1 (T + 1) k = name ∧ R1 158 (14 + k) = na ∧ C1 (T + 2) = C (T + 2) ∧ R1 154 = R 154) ∧ (∀ j, j ≠ 5 → j ≠ 6 → C1 3 j = C 3 j) ∧ (∀ j, j ≠ 10 → j ≠ 11 → R1 145 j = R 145 j) ∧ (C1 3 5 = 0 → C 3 5 = 0) := by
  have l150 : aLn (SH L) 2 150 = 2001 := rfl
  have l158 : aLn (SH L) 2 158 = 28 := rfl
  have t := tx_le ht
  intro m
  induction m with
  | zero =>
    intro i C R hm i0 c3 ck rk rp rn ln hj
    have tt := tx (L := L) ht
    refine ⟨aSet C (T + 1) k name, aSet R 158 (14 + k) na, bl_34_34 ?_, fun o ho => bl_206_17 ⟨fun _ => ⟨by omega, by omega, by rw [rn]; exact ho⟩, fun q => absurd (by omega) q⟩, ?_, kdC_s (by omega), kdR_s (by omega), ⟨aSet_e, aSet_e, aSet_c (by omega), aSet_c (by omega)⟩, fun j _ _ => by rw [aSet_c (by omega)], fun j _ _ => by rw [aSet_c (by omega)], fun q => by rw [aSet_c (by omega)] at q; exact q⟩
    · rw [c3, ck, tt.2.1]
      exact ⟨tt.1, fun _ => ⟨tt.1, tt.1, by rw [tt.2.2.2.2.2.2.2.2.2.2.2.1]; omega, rfl⟩, fun q => absurd (by omega) q⟩
    · unfold LL
      rw [aSet_c (show (3 : Int) ≠ T + 1 by omega), aSet_c (show (145 : Int) ≠ 158 by omega)]
      exact LN_LL ln
  | succ m ih =>
    intro i C R hm i0 c3 ck rk rp rn ln hj
    have tt := tx (L := L) ht
    have e14 : aW (14 + i) = 14 + i := aWi (by omega) (by omega)
    have e1 : aW (i + 1) = i + 1 := aWi (by omega) (by omega)
    have eq := nm_eq (hj i i0 (by omega)) hn
    have aln : 0 ≤ i ∧ i < aLn (SH L) 2 (T + 1) := by rw [tt.2.2.2.2.2.2.2.2.2.2.2.1]; omega
    by_cases q : C (T + 1) i = name
    · obtain ⟨Ca, Ra, b1, b2, b3, b4, b5, b6, b7, b8, b9⟩ := late (L := L) (n := 3) (at_ := (h : Int)) ln (by omega) (fun _ => rfl) (by omega) rp
      obtain ⟨C1, R1, d1, d2, d3, d4, d5, d6, d7, d8, d9⟩ := ih (i + 1) Ca Ra (by omega) (by omega) (by rw [b7 3 (by omega) (by omega), c3]) (by rw [b5.1 T (by omega), ck]) (by rw [b6.1 153 (by omega), rk]) (by rw [b6.1 148 (by omega), rp]) (by rw [b6.1 150 (by omega), rn]) (b4 rfl) (fun j j0 j1 => by rw [b5.1 (T + 1) (by omega), b6.1 158 (by omega)]; exact hj j j0 j1)
      refine ⟨C1, R1, bl_34_34 ?_, fun o ho => bl_206_17 ⟨fun z => absurd z (by omega), fun _ => ⟨by rw [e14]; omega, by omega, fun z => absurd (aCmp0.mpr (by rw [e14, rn]; exact eq.mp q)) z, fun _ => ⟨Ra, b2, bl_206_52 (by rw [e1]; exact d2 o ho)⟩⟩⟩, d3, kdC_tr (kdC_nL b5) d4, kdR_tr (kdR_nM b6) d5, ⟨d6.1, d6.2.1, by rw [d6.2.2.1, b5.1 (T + 2) (by omega)], by rw [d6.2.2.2, b6.1 154 (by omega)]⟩, fun j x y => by rw [d7 j x y, b7 j x y], fun j x y => by rw [d8 j x y, b8 j x y], fun z => absurd (d9 z) b9⟩
      rw [c3, ck, tt.2.1]
      exact ⟨tt.1, fun z => absurd z (by omega), fun _ => ⟨tt.1, aln, fun z => absurd (aCmp0.mpr q) z, fun _ => ⟨Ca, b1, bl_34_67 (by rw [e1]; exact d1)⟩⟩⟩
    · obtain ⟨C1, R1, d1, d2, d⟩ := ih (i + 1) C R (by omega) (by omega) c3 ck rk rp rn ln hj
      refine ⟨C1, R1, bl_34_34 ?_, fun o ho => bl_206_17 ⟨fun z => absurd z (by omega), fun _ => ⟨by rw [e14]; omega, by omega, fun _ => bl_206_52 (by rw [e1]; exact d2 o ho), fun z => absurd (fun u => q (eq.mpr (by rw [e14, rn] at u; exact aCmp0.mp u))) z⟩⟩, d⟩
      rw [c3, ck, tt.2.1]
      exact ⟨tt.1, fun z => absurd z (by omega), fun _ => ⟨tt.1, aln, fun _ => bl_34_67 (by rw [e1]; exact d1), fun z => absurd (fun u => q (aCmp0.mp u)) z⟩⟩
theorem ST_k {N h : Nat} {T k : Int} (s : ST C R N T h) (k0 : 0 ≤ k) (c : kdC T k C C1) (r : kdR k R R1) (c3 : ∀ j, j = 0 ∨ j = 1 ∨ j = 3 ∨ j = 4 → C1 3 j = C 3 j) (r3 : ∀ j, 7 ≤ j → j ≤ 9 → R1 145 j = R 145 j) : ST C1 R1 N T h := by
  have t := tx_le s.2.2.2.2
  exact ST_cg s (fun a x y => funext fun b => c a b (by omega) (by omega)) (fun a x y => funext fun b => r.1 a b (by omega) (by omega)) c3 r3
/-- a NAME, both sides -/
theorem name_pair {N h : Nat} {T k : Int} (s : ST C R N T h) (l : LT C R h) (hk : 0 ≤ k ∧ k < 14) (ck : C T 3 = k) (rk : R 153 1 = k) (hj : ∀ j, 0 ≤ j → j < k → nmR (C (T + 1) j) (R 158 (14 + j))) : ∃ C1 R1, aE 34 [aR 3] (SH L) C ([], SH L, C1) ∧ kdC T k C C1 ∧ kdR k R R1 ∧
    ((ST C1 R1 N T (h + 1) ∧ LT C1 R1 (h + 1) ∧ nmR (C1 (T + 1) k) (R1 158 (14 + k)) ∧ (C1 (T + 2) = C (T + 2) ∧ R1 154 = R 154) ∧ (C1 3 5 = 0 → C 3 5 = 0) ∧ ∀ o, n6 L (14 + k) R1 o → aE 206 [aR 145, aI (14 + k)] (SH L) R o) ∨ (FT C1 R1 T ∧ aE 206 [aR 145, aI (14 + k)] (SH L) R ([aI 0], SH L, R1))) := by
  have hh := ST_h s
  have bb := s.2.1
  have ht := s.2.2.2.2
  have t := tx_le ht
  have tt := tx (L := L) ht
  have c3 := s.2.2.2.1
  have tk := (ST_tk s).1
  have so := (tk_so tk).2.1
  have r30 := s_30 (L := L) (C := C) hh.2.1
  have r27 := s_27 (L := L) (C := C) hh.2.1
  have l7 : aLn (SH L) 1 147 = 2001 := rfl
  rw [bb.2.1] at r30 r27
  by_cases c : C 5 (h : Int) = 2
  · have so2 : R 147 (h : Int) = 0 := so.mp c
    rcases pass_y (L := L) s c (by omega) with ⟨h4, p1, p2, p3⟩ | ⟨h4, p1, p2, p3⟩
    · have r196 : aE 196 [aR 145, aI 0] (SH L) R ([aI 1], SH L, nxR R) := en_196 ⟨by omega, fun q => absurd (by rw [bb.2.2]; exact so2) q, fun _ => ⟨_, 1, p2, Or.inr rfl, rfl⟩⟩
      have nm : nmR (C 7 (h : Int)) (R 150 (h : Int)) := by
        rcases tk with ⟨a, _⟩ | ⟨a, _⟩ | ⟨_, _, x⟩ | ⟨a, _⟩ | ⟨_, a, _⟩ | ⟨_, w, w0, a, _⟩
        · omega
        · omega
        · exact x
        · omega
        · omega
        · omega
      have ln : LN (nxC C) (nxR R) (C 6 (h : Int)) true := by
        refine LN_tt ?_
        have l' := l
        unfold LT LN at l'
        unfold LN
        rw [nxC_3 (by omega), nxC_3 (by omega), nxR_1 (by omega), nxR_1 (by omega)]
        exact l'
      have lt : C 6 (h : Int) < C 6 ((h + 1 : Nat) : Int) := s.1.2.2.2.2 h (by have := p3.2.1.1; omega)
      obtain ⟨C1, R1, d1, d2, d3, d4, d5, d6, d7, d8, d9⟩ := nl (L := L) (p := C 6 (h : Int)) ht hk hh.1 nm (k - 0).toNat 0 (nxC C) (nxR R) (by omega) (by omega) (by rw [nxC_3 (by omega), c3]) (by rw [nxC_c (by omega), ck]) (by rw [nxR_c (by omega), rk]) (by rw [nxR_c (by omega)]; exact (ST_tk s).2.symm) (by rw [nxR_c (by omega)]) ln (fun j j0 j1 => by rw [nxC_c (by omega), nxR_c (by omega)]; exact hj j j0 j1)
      have n33 : nxC C 3 3 = T := by rw [nxC_3 (by omega), c3]
      have nT3 : nxC C T 3 = k := by rw [nxC_c (by omega), ck]
      refine ⟨C1, R1, en_34 ⟨C, _, r27, C, _, r30, _, 1, p1, fun q => absurd q (by omega), fun _ => ?_⟩, kdC_tr (kdC_nL nL_nx) d4, kdR_tr (kdR_nM nM_nx) d5, Or.inl ⟨ST_k p3 hk.1 d4 d5 (fun j hj => d7 j (by omega) (by omega)) (fun j x y => d8 j (by omega) (by omega)), ?_, by rw [d6.1, d6.2.1]; exact nm, ⟨by rw [d6.2.2.1, nxC_c (by omega)], by rw [d6.2.2.2, nxR_c (by omega)]⟩, fun q => by have := d9 q; rw [nxC_3 (by omega)] at this; exact this, fun o ho => en_206 ⟨_, 1, r196, fun _ => by rw [bb.2.2]; exact d2 o ho, fun q => absurd (by omega) q⟩⟩⟩
      · rw [n33, nT3]
        exact ⟨tt.1, fun _ => d1, fun q => absurd hk.2 q⟩
      · have e6 : C1 6 = C 6 := by rw [show C1 6 = nxC C 6 from funext fun b => d4 6 b (by omega) (by omega), nxC_c (by omega)]
        refine ⟨d3.1, ?_⟩
        rw [e6]
        rcases d3.2 with d3 | ⟨x, y⟩
        · exact Or.inl d3
        · exact Or.inr ⟨x, Or.inl (by omega)⟩
    · have r196 : aE 196 [aR 145, aI 0] (SH L) R ([aI 0], SH L, flR R 2) := en_196 ⟨by omega, fun q => absurd (by rw [bb.2.2]; exact so2) q, fun _ => ⟨_, 0, p2, Or.inl rfl, rfl⟩⟩
      exact ⟨flC C 2, flR R 2, en_34 ⟨C, _, r27, C, _, r30, _, 0, p1, fun _ => rfl, fun q => absurd rfl q⟩, kdC_nL nL_fl, kdR_nM nM_fl, Or.inr ⟨p3, en_206 ⟨_, 0, r196, fun q => absurd rfl q, fun _ => rfl⟩⟩⟩
  · have so2 : ¬ R 147 (h : Int) = 0 := fun q => c (so.mpr q)
    have r196 : aE 196 [aR 145, aI 0] (SH L) R ([aI 0], SH L, flR R 1) := en_196 ⟨by omega, fun _ => ⟨_, 0, s_191 hh.2.2, Or.inl rfl, rfl⟩, fun q => absurd (by rw [bb.2.2] at q; exact Classical.not_not.mp q) so2⟩
    exact ⟨flC C 1, flR R 1, en_34 ⟨C, _, r27, C, _, r30, _, 0, s_29n s.2.2.1.1 hh.2.1 (by rw [bb.2.1]; exact c), fun _ => rfl, fun q => absurd rfl q⟩, kdC_nL nL_fl, kdR_nM nM_fl, Or.inr ⟨ST_fl s (by omega), en_206 ⟨_, 0, r196, fun q => absurd rfl q, fun _ => rfl⟩⟩⟩
/-- the class's NAME behind a FAULT -/
theorem name_f {T : Int} (h : FT C R T) : aE 34 [aR 3] (SH L) C ([], SH L, C) :=
  en_34 ⟨C, _, s_27 h.2.2.2.1, C, _, s_30 h.2.2.2.1, C, _, s_29f h.1, fun _ => rfl, fun q => absurd rfl q⟩
end NAM
