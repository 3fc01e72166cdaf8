/-! reading: what stands between TELLs; frame, enough, give -/
section RD1
variable {L : Nat} {C R C1 R1 C2 R2 K K1 : aM}
def KD (C R : aM) (T : Int) : Prop := (0 ≤ C T 3 ∧ C T 3 ≤ 14 ∧ R 153 1 = C T 3) ∧ ∀ k, 0 ≤ k → k < C T 3 → (0 ≤ C (T + 2) k ∧ C (T + 2) k ≤ 3 ∧ R 154 (14 + k) = C (T + 2) k) ∧ R 155 (14 + k) = C (T + 3) k ∧ R 156 (14 + k) = C (T + 4) k ∧ R 157 (14 + k) = C (T + 5) k ∧ nmR (C (T + 1) k) (R 158 (14 + k)) ∧
  (C 3 5 = 0 → (1 ≤ C (T + 3) k ∧ C (T + 3) k ≤ 60) ∧ (1 ≤ C (T + 4) k ∧ C (T + 4) k ≤ 60) ∧ 0 ≤ C (T + 5) k ∧ C (T + 5) k ≤ 99)
def FD (C R : aM) (T : Int) : Prop := (R 151 1 = C T 0 ∧ R 152 1 = C T 1 ∧ R 163 1 = C T 2) ∧ (C 3 5 = 0 → (1 ≤ C T 0 ∧ C T 0 ≤ 60) ∧ (1 ≤ C T 1 ∧ C T 1 ≤ 60) ∧ 1 ≤ C T 2 ∧ C T 2 ≤ 100)
def WD (C R : aM) (T : Int) : Prop := (0 ≤ C T 9 ∧ C T 9 ≤ 6 ∧ R 159 1 = C T 9) ∧ ∀ k, 0 ≤ k → k < C T 9 → (0 ≤ C (T + 6) k ∧ C (T + 6) k < 4 ∧ R 160 (6 + k) = C (T + 6) k) ∧ C (T + 7) k = spn (R 161 (6 + k)) (R 162 (6 + k)) ∧ (C 3 5 = 0 → 0 ≤ R 161 (6 + k) ∧ R 161 (6 + k) < R 162 (6 + k) ∧ R 162 (6 + k) ≤ 60)
def GD (C R : aM) (T : Int) : Prop := (R 164 1 = -1 ∧ C T 14 = 0 ∧ C T 15 = 0) ∨ ((0 ≤ C T 14 ∧ C T 14 ≤ C T 15 ∧ C T 15 ≤ C T 13) ∧ (0 ≤ R 164 1 ∧ R 164 1 ≤ R 165 1 ∧ R 165 1 ≤ R 169 1) ∧ eM (C (T + 8)) (oO R) (oV R) (C T 14) (C T 15 - C T 14).toNat (R 164 1) (R 165 1 - R 164 1).toNat)
def RU (C R : aM) (T : Int) : Prop := (0 ≤ C T 16 ∧ C T 16 ≤ 6 ∧ R 166 1 = C T 16) ∧ ∀ r, 0 ≤ r → r < C T 16 → (0 ≤ C (T + 9) r ∧ C (T + 9) r ≤ C (T + 10) r ∧ C (T + 10) r ≤ C T 13) ∧ (0 ≤ R 167 (6 + r) ∧ R 167 (6 + r) ≤ R 168 (6 + r) ∧ R 168 (6 + r) ≤ R 172 1) ∧
  ∀ vr, evS (C (T + 8)) vr (C (T + 10) r - C (T + 9) r).toNat (C (T + 9) r) [] 0 = some ([hdV (shR R) vr (R 167 (6 + r)) (R 168 (6 + r))], 0)
def LI (R : aM) : Prop := ∀ k, 0 ≤ k → k < R 172 1 → lB R k ∧ liOk (shR R) k
def b3 (R : aM) : Prop := ∀ i, 0 ≤ i → i < 400 → R 173 i = 0 ∨ R 173 i = 1
def BG (C R : aM) (T : Int) (h : Nat) : Prop := (0 ≤ C T 13 ∧ C T 13 ≤ h) ∧ (0 ≤ R 169 1 ∧ R 169 1 ≤ h) ∧ 0 ≤ R 172 1 ∧ 3 * R 172 1 ≤ h
def RD (C R : aM) (N : Nat) (T : Int) (h : Nat) : Prop := ST C R N T h ∧ LT C R h ∧ BG C R T h ∧ KD C R T ∧ FD C R T ∧ WD C R T ∧ GD C R T ∧ RU C R T ∧ LI R ∧ b3 R
theorem KD_cg {T : Int} (h : KD C R T) (z : C1 3 5 = 0 → C 3 5 = 0) (c : C1 T 3 = C T 3) (cc : ∀ a, T + 1 ≤ a → a ≤ T + 5 → C1 a = C a) (r : ∀ a, 153 ≤ a → a ≤ 158 → R1 a = R a) : KD C1 R1 T := by
  unfold KD
  rw [c, cc (T + 1) (by omega) (by omega), cc (T + 2) (by omega) (by omega), cc (T + 3) (by omega) (by omega), cc (T + 4) (by omega) (by omega), cc (T + 5) (by omega) (by omega), r 153 (by omega) (by omega), r 154 (by omega) (by omega), r 155 (by omega) (by omega), r 156 (by omega) (by omega), r 157 (by omega) (by omega), r 158 (by omega) (by omega)]
  refine ⟨h.1, fun k k0 k1 => ?_⟩
  obtain ⟨x1, x2, x3, x4, x5, x6⟩ := h.2 k k0 k1
  exact ⟨x1, x2, x3, x4, x5, fun q => x6 (z q)⟩
theorem FD_cg {T : Int} (h : FD C R T) (z : C1 3 5 = 0 → C 3 5 = 0) (c : ∀ j, 0 ≤ j → j ≤ 2 → C1 T j = C T j) (r : ∀ a, a = 151 ∨ a = 152 ∨ a = 163 → R1 a = R a) : FD C1 R1 T := by
  unfold FD
  rw [c 0 (by omega) (by omega), c 1 (by omega) (by omega), c 2 (by omega) (by omega), r 151 (by omega), r 152 (by omega), r 163 (by omega)]
  exact ⟨h.1, fun q => h.2 (z q)⟩
theorem WD_cg {T : Int} (h : WD C R T) (z : C1 3 5 = 0 → C 3 5 = 0) (c : C1 T 9 = C T 9) (cc : ∀ a, T + 6 ≤ a → a ≤ T + 7 → C1 a = C a) (r : ∀ a, 159 ≤ a → a ≤ 162 → R1 a = R a) : WD C1 R1 T := by
  unfold WD
  rw [c, cc (T + 6) (by omega) (by omega), cc (T + 7) (by omega) (by omega), r 159 (by omega) (by omega), r 160 (by omega) (by omega), r 161 (by omega) (by omega), r 162 (by omega) (by omega)]
  refine ⟨h.1, fun k k0 k1 => ?_⟩
  obtain ⟨x1, x2, x3⟩ := h.2 k k0 k1
  exact ⟨x1, x2, fun q => x3 (z q)⟩
/-- what is put out later changes no GIVE -/
theorem GD_cg {T : Int} (h : GD C R T) (c : C1 T 14 = C T 14 ∧ C1 T 15 = C T 15 ∧ C T 13 ≤ C1 T 13) (c8 : ∀ i, i < C T 13 → C1 (T + 8) i = C (T + 8) i) (r : R1 164 1 = R 164 1 ∧ R1 165 1 = R 165 1 ∧ R 169 1 ≤ R1 169 1) (r0 : ∀ i, i < 500 + R 169 1 → R1 170 i = R 170 i ∧ R1 171 i = R 171 i) : GD C1 R1 T := by
  unfold GD
  rw [c.1, c.2.1, r.1, r.2.1]
  rcases h with h | ⟨h1, h2, h3⟩
  · exact Or.inl h
  · refine Or.inr ⟨by omega, by omega, fun vr base z hb => ?_⟩
    obtain ⟨v, z', e1, e2⟩ := h3 vr base z hb
    refine ⟨v, z', ?_, ?_⟩
    · rw [evS_cg (cd := C1 (T + 8)) (cd' := C (T + 8)) _ _ _ _ (fun j j0 j1 => c8 j (by omega))]; exact e1
    · rw [rsS_cg (O := oO R1) (V := oV R1) (O' := oO R) (V' := oV R) _ _ _ (fun j j0 j1 => r0 (500 + j) (by omega))]; exact e2
theorem LI_cg (h : LI R) (k : rK R R1) (e : R1 172 1 = R 172 1) : LI R1 := by
  intro j j0 j1
  rw [e] at j1
  obtain ⟨a, b⟩ := h j j0 j1
  have := rK_li k j0 j1 a
  exact ⟨this.2.2.2, this.2.2.1 b⟩
theorem hdV_rng {M M1 : aM} {vr : Int → Int} {f t : Int} (h : ∀ j, f ≤ j → j < t → liV M1 vr j = liV M vr j ∧ M1 178 j = M 178 j) : hdV M1 vr f t = hdV M vr f t := by
  by_cases c : f < t
  · rw [hdV_fd c, hdV_fd c, fdV_cg (fun j j0 j1 => h j j0 (by omega))]
  · unfold hdV; rw [if_neg c, if_neg c]
theorem RU_cg {T : Int} (h : RU C R T) (li : LI R) (c : C1 T 16 = C T 16 ∧ C T 13 ≤ C1 T 13) (c8 : ∀ i, i < C T 13 → C1 (T + 8) i = C (T + 8) i) (c9 : ∀ a, a = T + 9 ∨ a = T + 10 → C1 a = C a) (r : R1 166 1 = R 166 1) (r7 : ∀ a, a = 167 ∨ a = 168 → R1 a = R a) (k : rK R R1) : RU C1 R1 T := by
  unfold RU
  rw [c.1, c9 (T + 9) (by omega), c9 (T + 10) (by omega), r, r7 167 (by omega), r7 168 (by omega)]
  have k7 := k.2.2.2.2.2.2.1
  refine ⟨h.1, fun r r0 r1 => ?_⟩
  obtain ⟨x1, x2, x3⟩ := h.2 r r0 r1
  refine ⟨by omega, by omega, fun vr => ?_⟩
  rw [evS_cg (cd := C1 (T + 8)) (cd' := C (T + 8)) _ _ _ _ (fun j j0 j1 => c8 j (by omega)), x3 vr]
  congr 2
  congr 1
  exact (hdV_rng (fun j j0 j1 => by
    have l := li j (by omega) (by omega)
    have := rK_li k (by omega) (by omega) l.1
    exact ⟨this.1 vr, this.2.1⟩)).symm
def zR (a b : Int) : Prop := (a = 145 ∧ ((7 ≤ b ∧ b ≤ 11) ∨ (53 ≤ b ∧ b ≤ 57))) ∨ a = 190 ∨ ((a = 151 ∨ a = 152 ∨ a = 153 ∨ a = 159 ∨ (163 ≤ a ∧ a ≤ 166) ∨ a = 169 ∨ a = 172) ∧ b = 1) ∨ ((154 ≤ a ∧ a ≤ 158) ∧ 14 ≤ b) ∨ (((160 ≤ a ∧ a ≤ 162) ∨ a = 167 ∨ a = 168) ∧ 6 ≤ b) ∨ ((a = 170 ∨ a = 171) ∧ 500 ≤ b) ∨ ((173 ≤ a ∧ a ≤ 178) ∧ 200 ≤ b)
def rZ (R R1 : aM) : Prop := (∀ a b, ¬ zR a b → R1 a b = R a b) ∧ bK R R1
def cZ (T : Int) (C C1 : aM) : Prop := ∀ a, a ≠ 3 → a ≠ 8 → (a < T ∨ T + 10 < a) → C1 a = C a
theorem rZ_rf : rZ R R := ⟨fun _ _ _ => rfl, fun _ q => q⟩
theorem cZ_rf {T : Int} : cZ T C C := fun _ _ _ _ => rfl
theorem rZ_tr (h : rZ R R1) (g : rZ R1 R2) : rZ R R2 := ⟨fun a b x => (g.1 a b x).trans (h.1 a b x), fun i q => g.2 i (h.2 i q)⟩
theorem cZ_tr {T : Int} (h : cZ T C C1) (g : cZ T C1 C2) : cZ T C C2 := fun a x y z => (g a x y z).trans (h a x y z)
theorem rZ_nM (h : nM R R1) : rZ R R1 := by
  refine ⟨?_, fun i q => by rw [h.1 173 (by omega)]; exact q⟩
  intro a b x
  by_cases c : a = 145
  · subst c
    exact h.2 b (by
      have : ¬ ((7 ≤ b ∧ b ≤ 11) ∨ (53 ≤ b ∧ b ≤ 57)) := fun q => x (Or.inl ⟨rfl, q⟩)
      omega)
  · rw [h.1 a c]
theorem rZ_K (h : rK R R1) (h0 : 0 ≤ R 169 1) (h1 : 0 ≤ R 172 1) : rZ R R1 := by
  obtain ⟨g1, g2, g3, g4, g5, -, -, g8⟩ := h
  refine ⟨?_, g8⟩
  intro a b x
  unfold zR at x
  by_cases c : a = 145
  · subst c; exact g2 b (by omega) (by omega)
  · by_cases c2 : a = 190
    · omega
    · by_cases c3 : a < 169 ∨ 178 < a
      · rw [g1 a c c3 c2]
      · by_cases c4 : a = 169
        · subst c4; exact (g3 b (by omega)).1
        · by_cases c5 : a = 172
          · subst c5; exact (g3 b (by omega)).2
          · by_cases c6 : a = 170
            · subst c6; exact (g4 b (by omega)).1
            · by_cases c7 : a = 171
              · subst c7; exact (g4 b (by omega)).2
              · exact g5 a b (by omega) (by omega) (by omega)
theorem rZ_s {a b v : Int} (h : zR a b) (h3 : a ≠ 173 := by omega) : rZ R (aSet R a b v) := by
  refine ⟨?_, fun i q => by rw [aSet_c h3.symm]; exact q⟩
  intro x y n
  rw [aSet_a, if_neg]
  rintro ⟨rfl, rfl⟩
  exact n h
theorem cZ_nL {T : Int} (h : nL C C1) : cZ T C C1 := fun a x _ _ => h.1 a x
theorem cZ_E {T : Int} (h : cE T C C1) : cZ T C C1 := fun a x y z => h.1 a x y (by omega) (by omega)
theorem cZ_s {T a b v : Int} (h : a = 3 ∨ a = 8 ∨ (T ≤ a ∧ a ≤ T + 10)) : cZ T C (aSet C a b v) := fun x x1 x2 x3 => aSet_c (by omega)
theorem FT_T {T a b v : Int} (h : FT C R T) (ha : a ≠ 3) : FT (aSet C a b v) R T := FT_cg h (fun j _ => by rw [aSet_c (by omega)]) (fun _ _ _ => rfl)
/-- how a TELL ends -/
def bdE (C R C1 R1 : aM) (N : Nat) (T : Int) (h : Nat) (v : Int) : Prop := cZ T C C1 ∧ rZ R R1 ∧ ((v = 1 ∧ ∃ h1, h < h1 ∧ RD C1 R1 N T h1) ∨ (v = 0 ∧ FT C1 R1 T))
/-- steps over INTs and NAMES leave the text -/
theorem RD_n {N h h1 : Nat} {T : Int} (d : RD C R N T h) (hh : h ≤ h1) (s : ST C1 R1 N T h1) (l : LT C1 R1 h1) (c : nL C C1) (r : nM R R1) (z : C1 3 5 = 0 → C 3 5 = 0) : RD C1 R1 N T h1 := by
  obtain ⟨_, _, bg, kd, fd, wd, gd, ru, li, b⟩ := d
  have ht := s.2.2.2.2
  have t := tx_le ht
  have sh := sh_cg (R := R) (R1 := R1) (fun a ha => r.1 a (by omega))
  have cT : ∀ a, T ≤ a → C1 a = C a := fun a ha => c.1 a (by omega)
  have rr : ∀ a, 150 ≤ a → R1 a = R a := fun a ha => r.1 a (by omega)
  refine ⟨s, l, ?_, KD_cg kd z (by rw [cT T (by omega)]) (fun a x y => cT a (by omega)) (fun a x y => rr a (by omega)), FD_cg fd z (fun j x y => by rw [cT T (by omega)]) (fun a x => rr a (by omega)), WD_cg wd z (by rw [cT T (by omega)]) (fun a x y => cT a (by omega)) (fun a x y => rr a (by omega)), ?_, ?_, ?_, ?_⟩
  · unfold BG at bg ⊢
    rw [cT T (by omega), rr 169 (by omega), rr 172 (by omega)]
    omega
  · exact GD_cg gd ⟨by rw [cT T (by omega)], by rw [cT T (by omega)], by rw [cT T (by omega)]; exact Int.le_refl _⟩ (fun i _ => by rw [cT (T + 8) (by omega)]) ⟨by rw [rr 164 (by omega)], by rw [rr 165 (by omega)], by rw [rr 169 (by omega)]; exact Int.le_refl _⟩ (fun i _ => by rw [rr 170 (by omega), rr 171 (by omega)]; exact ⟨rfl, rfl⟩)
  · unfold RU at ru ⊢
    rw [cT T (by omega), cT (T + 8) (by omega), cT (T + 9) (by omega), cT (T + 10) (by omega), rr 166 (by omega), rr 167 (by omega), rr 168 (by omega), rr 172 (by omega)]
    refine ⟨ru.1, fun r r0 r1 => ?_⟩
    obtain ⟨x1, x2, x3⟩ := ru.2 r r0 r1
    refine ⟨x1, x2, fun vr => ?_⟩
    rw [hdV_cg (fun a x y => sh a (by omega))]
    exact x3 vr
  · intro k k0 k1
    rw [rr 172 (by omega)] at k1
    obtain ⟨x, y⟩ := li k k0 k1
    refine ⟨?_, liOk_cg y (fun a x y => sh a (by omega))⟩
    unfold lB at x ⊢
    rw [rr 175 (by omega), rr 176 (by omega), rr 177 (by omega), rr 169 (by omega)]
    exact x
  · unfold b3
    rw [rr 173 (by omega)]
    exact b
theorem LT_nx {N h : Nat} {T : Int} (s : ST C R N T h) (l : LT C R h) (hN : h < N) : LT (nxC C) (nxR R) (h + 1) := by
  have lt : C 6 (h : Int) < C 6 ((h + 1 : Nat) : Int) := s.1.2.2.2.2 h hN
  exact LT_of (LN_LL (LT_LN l)) (by rw [nxC_c (by omega)]; exact lt) (fun j hj => nxC_3 (by omega)) (fun j hj => nxR_1 (by omega))
/-- a word or a sign is passed -/
theorem RD_nx {N h : Nat} {T : Int} (d : RD C R N T h) (s : ST (nxC C) (nxR R) N T (h + 1)) : RD (nxC C) (nxR R) N T (h + 1) := by
  refine RD_n d (Nat.le_succ _) s (LT_nx d.1 d.2.1 (by have := s.2.1.1; omega)) nL_nx nM_nx (fun q => by rw [nxC_3 (by omega)] at q; exact q)
theorem tell_frame {N h : Nat} {T : Int} (d : RD C R N T h) (q : C 5 (h : Int) = 25) : ∃ C1 R1 v, aE 33 [aR 3] (SH L) C ([], SH L, C1) ∧ aE 211 [aR 145] (SH L) R ([aI v], SH L, R1) ∧ bdE C R C1 R1 N T h v := by
  have s := d.1
  have ht := s.2.2.2.2
  have t := tx_le ht
  rcases pass_y (L := L) s q (by omega) with ⟨h4, p1, p2, p3⟩ | ⟨h4, p1, p2, p3⟩
  · have d1 := RD_nx d p3
    have g1 := p3.2.2.2.1
    obtain ⟨Ca, Ra, x, v, a1, a2, a3, a4, a5⟩ := int_pair (L := L) (lo := 1) (hi := 60) p3 d1.2.1
    rcases a5 with ⟨v1, s2, l2, e53, xb, xz⟩ | ⟨v0, ft⟩
    · have d2 := RD_n d1 (Nat.le_succ _) s2 l2 a3 a4 (fun q => (xz q).1)
      obtain ⟨Cb, hCb⟩ : ∃ Cb, Cb = aSet Ca T 0 x := ⟨_, rfl⟩
      obtain ⟨Rb, hRb⟩ : ∃ Rb, Rb = aSet Ra 151 1 x := ⟨_, rfl⟩
      have sb : ST Cb Rb N T (h + 1 + 1) := ST_cg s2 (fun a x y => by rw [hCb, aSet_c (by omega)]) (fun a x y => by rw [hRb, aSet_c (by omega)]) (fun j _ => by rw [hCb, aSet_c (by omega)]) (fun j _ _ => by rw [hRb, aSet_c (by omega)])
      have lb' : LT Cb Rb (h + 1 + 1) := by
        unfold LT LN
        rw [show Cb 3 = Ca 3 by rw [hCb, aSet_c (by omega)], show Rb 145 = Ra 145 by rw [hRb, aSet_c (by omega)], show Cb 6 = Ca 6 by rw [hCb, aSet_c (by omega)]]
        exact l2
      obtain ⟨Cc, Rc, y, w, c1, c2, c3, c4, c5⟩ := int_pair (L := L) (lo := 1) (hi := 60) sb lb'
      have k33 : ∀ o, aE 32 [aR 3, aI 1, aI 60] (SH L) Cb ([aI y], SH L, Cc) → o = ([], SH L, aSet Cc T 1 y) → aE 33 [aR 3] (SH L) C o := by
        intro o r e
        refine en_33 ⟨_, 1, by rw [← q]; rw [q]; exact p1, Ca, x, a1, by rw [g1]; exact (tx ht).1, Cc, y, by rw [g1, ← hCb]; exact r, ?_, ?_⟩
        · rw [g1, ← hCb, sb.2.2.2.1]; exact (tx ht).1
        · rw [g1, ← hCb, sb.2.2.2.1]; exact e
      have k211 : ∀ o, ((¬ w = 0 → o = ([aI 1], SH L, aSet Rc 152 1 (Rc 145 53))) ∧ (¬ (¬ w = 0) → o = ([aI 0], SH L, Rc))) → aE 211 [aR 145] (SH L) R o := by
        intro o e
        refine en_211 ⟨_, 1, p2, fun q => absurd q (by omega), fun _ => ⟨Ra, v, a2, fun _ => ⟨Rc, w, by rw [e53, ← hRb]; exact c2, e⟩, fun q => absurd (by omega) q⟩⟩
      have cz : cZ T C Cb := by rw [hCb]; exact cZ_tr (cZ_nL (nL_tr nL_nx a3)) (cZ_s (by omega))
      have rz : rZ R Rb := by rw [hRb]; exact rZ_tr (rZ_nM (nM_tr nM_nx a4)) (rZ_s (by unfold zR; omega))
      rcases c5 with ⟨w1, s3, l3, f53, yb, yz⟩ | ⟨w0, ft⟩
      · refine ⟨aSet Cc T 1 y, aSet Rc 152 1 y, 1, k33 _ c1 rfl, k211 _ ⟨fun _ => by rw [f53], fun q => absurd (by omega) q⟩, cZ_tr cz (cZ_tr (cZ_nL c3) (cZ_s (by omega))), rZ_tr rz (rZ_tr (rZ_nM c4) (rZ_s (by unfold zR; omega))), Or.inl ⟨rfl, h + 1 + 1 + 1, by omega, ?_⟩⟩
        -- the text with its new frame
        obtain ⟨_, _, bg, kd, fd, wd, gd, ru, li, b⟩ := d2
        have cT : ∀ a, a ≠ T → a ≠ 3 → (aSet Cc T 1 y) a = Ca a := fun a x x2 => by rw [aSet_c x, c3.1 a x2, hCb, aSet_c x]
        have cTj : ∀ j, j ≠ 0 → j ≠ 1 → (aSet Cc T 1 y) T j = Ca T j := fun j x x2 => by rw [aSet_i x2, c3.1 T (by omega), hCb, aSet_i x]
        have rr : ∀ a, 150 ≤ a → a ≠ 151 → a ≠ 152 → (aSet Rc 152 1 y) a = Ra a := fun a x x1 x2 => by rw [aSet_c x2, c4.1 a (by omega), hRb, aSet_c x1]
        have z2 : (aSet Cc T 1 y) 3 5 = 0 → Ca 3 5 = 0 := fun q => by
          rw [aSet_c (by omega)] at q
          have := (yz q).1
          rw [hCb, aSet_c (by omega)] at this
          exact this
        have sh : ∀ a, 164 ≤ a → shR (aSet Rc 152 1 y) a = shR Ra a := fun a ha => by funext b; unfold shR; rw [rr a (by omega) (by omega) (by omega)]
        refine ⟨ST_cg s3 (fun a x y => aSet_c (by omega)) (fun a x y => aSet_c (by omega)) (fun j _ => by rw [aSet_c (by omega)]) (fun j _ _ => by rw [aSet_c (by omega)]), ?_, ?_, KD_cg kd z2 (cTj 3 (by omega) (by omega)) (fun a x y => cT a (by omega) (by omega)) (fun a x y => rr a (by omega) (by omega) (by omega)), ?_, WD_cg wd z2 (cTj 9 (by omega) (by omega)) (fun a x y => cT a (by omega) (by omega)) (fun a x y => rr a (by omega) (by omega) (by omega)), ?_, ?_, ?_, ?_⟩
        · unfold LT LN
          rw [aSet_c (show (3 : Int) ≠ T by omega), aSet_c (show (145 : Int) ≠ 152 by omega), aSet_c (show (6 : Int) ≠ T by omega)]
          exact l3
        · unfold BG at bg ⊢
          rw [cTj 13 (by omega) (by omega), rr 169 (by omega) (by omega) (by omega), rr 172 (by omega) (by omega) (by omega)]
          omega
        · have e0 : (aSet Cc T 1 y) T 0 = x := by rw [aSet_i (by omega), c3.1 T (by omega), hCb, aSet_e]
          have e1 : (aSet Cc T 1 y) T 1 = y := aSet_e
          have f0 : (aSet Rc 152 1 y) 151 1 = x := by rw [aSet_c (by omega), c4.1 151 (by omega), hRb, aSet_e]
          unfold FD
          rw [e0, e1, f0, cTj 2 (by omega) (by omega), rr 163 (by omega) (by omega) (by omega), aSet_e]
          refine ⟨⟨rfl, rfl, fd.1.2.2⟩, fun q => ?_⟩
          have z5 := z2 q
          rw [aSet_c (by omega)] at q
          exact ⟨(xz z5).2, (yz q).2, (fd.2 z5).2.2⟩
        · exact GD_cg gd ⟨cTj 14 (by omega) (by omega), cTj 15 (by omega) (by omega), by rw [cTj 13 (by omega) (by omega)]; exact Int.le_refl _⟩ (fun i _ => by rw [cT (T + 8) (by omega) (by omega)]) ⟨by rw [rr 164 (by omega) (by omega) (by omega)], by rw [rr 165 (by omega) (by omega) (by omega)], by rw [rr 169 (by omega) (by omega) (by omega)]; exact Int.le_refl _⟩ (fun i _ => by rw [rr 170 (by omega) (by omega) (by omega), rr 171 (by omega) (by omega) (by omega)]; exact ⟨rfl, rfl⟩)
        · unfold RU at ru ⊢
          rw [cTj 16 (by omega) (by omega), cTj 13 (by omega) (by omega), cT (T + 8) (by omega) (by omega), cT (T + 9) (by omega) (by omega), cT (T + 10) (by omega) (by omega), rr 166 (by omega) (by omega) (by omega), rr 167 (by omega) (by omega) (by omega), rr 168 (by omega) (by omega) (by omega), rr 172 (by omega) (by omega) (by omega)]
          refine ⟨ru.1, fun r r0 r1 => ?_⟩
          obtain ⟨x1, x2, x3⟩ := ru.2 r r0 r1
          exact ⟨x1, x2, fun vr => by rw [hdV_cg (fun a x y => sh a (by omega))]; exact x3 vr⟩
        · intro k k0 k1
          rw [rr 172 (by omega) (by omega) (by omega)] at k1
          obtain ⟨x, y⟩ := li k k0 k1
          refine ⟨?_, liOk_cg y (fun a x y => sh a (by omega))⟩
          unfold lB at x ⊢
          rw [rr 175 (by omega) (by omega) (by omega), rr 176 (by omega) (by omega) (by omega), rr 177 (by omega) (by omega) (by omega), rr 169 (by omega) (by omega) (by omega)]
          exact x
        · unfold b3
          rw [rr 173 (by omega) (by omega) (by omega)]
          exact b
      · exact ⟨aSet Cc T 1 y, Rc, 0, k33 _ c1 rfl, k211 _ ⟨fun q => absurd w0 q, fun _ => rfl⟩, cZ_tr cz (cZ_tr (cZ_nL c3) (cZ_s (by omega))), rZ_tr rz (rZ_nM c4), Or.inr ⟨rfl, FT_T ft (by omega)⟩⟩
    · have ft2 : FT (aSet Ca T 0 x) Ra T := FT_T ft (by omega)
      obtain ⟨y, r2⟩ := int_f (L := L) (lo := 1) (hi := 60) ft2
      refine ⟨aSet (aSet Ca T 0 x) T 1 y, Ra, 0, en_33 ⟨_, 1, p1, Ca, x, a1, by rw [g1]; exact (tx ht).1, _, y, by rw [g1]; exact r2, ?_, ?_⟩, en_211 ⟨_, 1, p2, fun q => absurd q (by omega), fun _ => ⟨Ra, v, a2, fun q => absurd v0 q, fun _ => rfl⟩⟩, cZ_tr (cZ_nL (nL_tr nL_nx a3)) (cZ_tr (cZ_s (by omega)) (cZ_s (by omega))), rZ_nM (nM_tr nM_nx a4), Or.inr ⟨rfl, FT_T ft2 (by omega)⟩⟩
      · rw [g1, aSet_c (by omega), ft.2.2.2.2.1]; exact (tx ht).1
      · rw [g1, aSet_c (show (3 : Int) ≠ T by omega), ft.2.2.2.2.1]
  · obtain ⟨x, r1⟩ := int_f (L := L) (lo := 1) (hi := 60) p3
    have g1 := p3.2.2.2.2.1
    have ft2 : FT (aSet (flC C 2) T 0 x) (flR R 2) T := FT_T p3 (by omega)
    obtain ⟨y, r2⟩ := int_f (L := L) (lo := 1) (hi := 60) ft2
    refine ⟨aSet (aSet (flC C 2) T 0 x) T 1 y, flR R 2, 0, en_33 ⟨_, 0, p1, _, x, r1, by rw [g1]; exact (tx ht).1, _, y, by rw [g1]; exact r2, ?_, ?_⟩, en_211 ⟨_, 0, p2, fun _ => rfl, fun q => absurd rfl q⟩, cZ_tr (cZ_nL nL_fl) (cZ_tr (cZ_s (by omega)) (cZ_s (by omega))), rZ_nM nM_fl, Or.inr ⟨rfl, FT_T ft2 (by omega)⟩⟩
    · rw [g1, aSet_c (by omega), g1]; exact (tx ht).1
    · rw [g1, aSet_c (show (3 : Int) ≠ T by omega), g1]
end RD1
