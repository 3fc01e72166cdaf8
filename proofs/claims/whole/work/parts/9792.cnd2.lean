/-! reading: a COND, both sides -/
section CND2
variable {L : Nat} {C R C1 R1 C2 R2 K K1 M M1 : aM}
def cM (C R : aM) (T c0 l0 : Int) (bo ba : Bool) (row : Int) : Prop := (0 ≤ c0 ∧ c0 ≤ C T 13) ∧ (0 ≤ l0 ∧ l0 ≤ R 172 1) ∧ (∀ k, l0 ≤ k → k < R 172 1 → lB R k ∧ liOk (shR R) k) ∧ ((R 172 1 = l0 ∧ bo = false ∧ ba = false ∧ C T 13 = c0) ∨
  (l0 < R 172 1 ∧ (bo = true ∨ ba = true) ∧ ∀ vr, ∃ O A rw, fdV (shR R) vr l0 (R 172 1 - l0 - 1).toNat = (O, A, rw) ∧ (O = 0 ∨ O = 1) ∧ (A = 0 ∨ A = 1) ∧ (ba = true → rw = row) ∧ (ba = false → rw < row) ∧ (bo = false → O = 0) ∧
    evS (C (T + 8)) vr (C T 13 - c0).toNat c0 [] 0 = some ((if ba = true then A :: (if bo = true then [O] else []) else [if A = 0 then O else 1]), 0)))
/-- behind a LIT, its and put out -/
def pM (C R : aM) (T c0 l0 : Int) (bo : Bool) (row : Int) : Prop := (0 ≤ c0 ∧ c0 ≤ C T 13) ∧ (0 ≤ l0 ∧ l0 < R 172 1) ∧ (∀ k, l0 ≤ k → k < R 172 1 → lB R k ∧ liOk (shR R) k) ∧
  ∀ vr, ∃ O A, fdV (shR R) vr l0 (R 172 1 - l0 - 1).toNat = (O, A, row) ∧ (O = 0 ∨ O = 1) ∧ (A = 0 ∨ A = 1) ∧ (bo = false → O = 0) ∧ evS (C (T + 8)) vr (C T 13 - c0).toNat c0 [] 0 = some (A :: (if bo = true then [O] else []), 0)
def cdE (C R C1 R1 : aM) (N : Nat) (T : Int) (h0 : Nat) (c0 r0 l0 v : Int) : Prop := cE T C C1 ∧ rK R R1 ∧ (0 ≤ C1 T 13 ∧ C1 T 13 ≤ 400) ∧ ((v = 1 ∧ ∃ h1, h0 < h1 ∧ ST C1 R1 N T h1 ∧ (c0 ≤ C1 T 13 ∧ C1 T 13 - c0 ≤ (h1 : Int) - h0) ∧ R1 169 1 - r0 ≤ (h1 : Int) - h0 ∧ (l0 < R1 172 1 ∧ 3 * (R1 172 1 - l0) ≤ (h1 : Int) - h0) ∧
  (∀ k, l0 ≤ k → k < R1 172 1 → lB R1 k ∧ liOk (shR R1) k) ∧ ∀ vr, evS (C1 (T + 8)) vr (C1 T 13 - c0).toNat c0 [] 0 = some ([hdV (shR R1) vr l0 (R1 172 1)], 0)) ∨ (v = 0 ∧ FT C1 R1 T))
theorem cdE_st {N h0 : Nat} {T c0 r0 l0 v : Int} (a : cE T C C1) (b : rK R R1) (h : cdE C1 R1 C2 R2 N T h0 c0 r0 l0 v) : cdE C R C2 R2 N T h0 c0 r0 l0 v := ⟨cE_tr a h.1, rK_tr b h.2.1, h.2.2⟩
theorem and01 {a b : Int} (ha : a = 0 ∨ a = 1) (hb : b = 0 ∨ b = 1) : coB 38 a b = if a = 0 then 0 else b := by
  rcases ha with rfl | rfl <;> rcases hb with rfl | rfl <;> decide
theorem or01 {a b : Int} (ha : a = 0 ∨ a = 1) (hb : b = 0 ∨ b = 1) : coB 37 a b = if b = 0 then a else 1 := by
  rcases ha with rfl | rfl <;> rcases hb with rfl | rfl <;> decide
/-- from the LIT's start to behind its and -/
theorem pM_of {T c0 l0 row : Int} {bo ba : Bool} (ht : isTx T) (h : cM C R T c0 l0 bo ba row) (ce : cE T C C1) (rk : rK R R1) (c4 : C1 T 13 + bi ba ≤ 400) (e172 : R1 172 1 = R 172 1 + 1) (lb_ : lB R1 (R 172 1)) (lo : liOk (shR R1) (R 172 1)) (e178 : R1 178 (200 + R 172 1) = row)
    (ev : ∀ (vr : Int → Int) (st : List Int), st.length ≤ 2 → evS (C1 (T + 8)) vr (C1 T 13 - C T 13).toNat (C T 13) st 0 = some (liV (shR R1) vr (R 172 1) :: st, 0)) : pM (if ba = true then adC C1 T 38 else C1) R1 T c0 l0 bo row := by
  obtain ⟨h1, h2, h3, h4⟩ := h
  have ge : C T 13 ≤ C1 T 13 := ce.2.2.2.2
  have s178 : shR R1 178 (R 172 1) = row := by rw [sh_l (by omega)]; exact e178
  have old : ∀ k, l0 ≤ k → k < R 172 1 → (∀ vr, liV (shR R1) vr k = liV (shR R) vr k) ∧ shR R1 178 k = shR R 178 k ∧ (liOk (shR R) k → liOk (shR R1) k) ∧ lB R1 k := fun k k0 k1 => rK_li rk (by omega) k1 (h3 k k0 k1).1
  have al : ∀ k, l0 ≤ k → k < R1 172 1 → lB R1 k ∧ liOk (shR R1) k := by
    intro k k0 k1
    by_cases q : k = R 172 1
    · rw [q]; exact ⟨lb_, lo⟩
    · have := old k k0 (by omega)
      exact ⟨this.2.2.2, this.2.2.1 (h3 k k0 (by omega)).2⟩
  -- the code up to here
  have run : ∀ (vr : Int → Int) (st : List Int), st.length ≤ 2 → evS (C (T + 8)) vr (C T 13 - c0).toNat c0 [] 0 = some (st, 0) → evS (C1 (T + 8)) vr (C1 T 13 - c0).toNat c0 [] 0 = some (liV (shR R1) vr (R 172 1) :: st, 0) := by
    intro vr st hst e
    rw [show (C1 T 13 - c0).toNat = (C T 13 - c0).toNat + (C1 T 13 - C T 13).toNat by omega, evS_add, evS_cg (cd := C1 (T + 8)) (cd' := C (T + 8)) _ _ _ _ (fun j j0 j1 => ce.2.2.1 j (by omega)), e]
    dsimp only
    rw [show c0 + ((C T 13 - c0).toNat : Int) = C T 13 by omega]
    exact ev vr st hst
  have g8 := adC_8 (C := C1) (T := T) (o := 38)
  have v01 : ∀ vr, liV (shR R1) vr (R 172 1) = 0 ∨ liV (shR R1) vr (R 172 1) = 1 := fun vr => liV_01 lo
  have ge2 : c0 ≤ (if ba = true then adC C1 T 38 else C1) T 13 := by
    split
    · rw [g8.2.2]; omega
    · omega
  refine ⟨⟨h1.1, ge2⟩, by omega, al, fun vr => ?_⟩
  rcases h4 with ⟨q1, q2, q3, q4⟩ | ⟨q1, q2, q3⟩
  · subst q2 q3
    refine ⟨0, liV (shR R1) vr (R 172 1), ?_, Or.inl rfl, v01 vr, fun _ => rfl, ?_⟩
    · rw [e172, show (R 172 1 + 1 - l0 - 1).toNat = 0 by omega]
      show (0, liV (shR R1) vr l0, shR R1 178 l0) = _
      rw [← q1, s178]
    · rw [if_neg (by decide)]
      rw [run vr [] (by decide) (by rw [q4, show (c0 - c0).toNat = 0 by omega]; rfl)]
      rfl
  · obtain ⟨O, A, rw_, f1, f2, f3, f4, f5, f6, f7⟩ := q3 vr
    have fs : fdV (shR R1) vr l0 (R1 172 1 - l0 - 1).toNat = fd1 (shR R1) vr (R 172 1) (O, A, rw_) := by
      rw [e172, show (R 172 1 + 1 - l0 - 1).toNat = (R 172 1 - l0 - 1).toNat + 1 by omega]
      unfold fdV
      rw [fd_snoc]
      have e : fdS (shR R1) vr (R 172 1 - l0 - 1).toNat (l0 + 1) (0, liV (shR R1) vr l0, shR R1 178 l0) = (O, A, rw_) := by
        rw [← f1]
        exact fdV_cg (fun j j0 j1 => ⟨(old j j0 (by omega)).1 vr, (old j j0 (by omega)).2.1⟩)
      rw [e, show l0 + 1 + ((R 172 1 - l0 - 1).toNat : Int) = R 172 1 by omega]
    cases ba with
    | true =>
      have er := f4 rfl
      refine ⟨O, if A = 0 then 0 else liV (shR R1) vr (R 172 1), ?_, f2, ?_, f6, ?_⟩
      · rw [fs]
        unfold fd1
        dsimp only
        rw [if_pos (by rw [s178, er]), er]
      · split
        · exact Or.inl rfl
        · exact v01 vr
      · rw [if_pos rfl] at f7 ⊢
        have st2 : (A :: (if bo = true then [O] else [])).length ≤ 2 := by
          split
          · exact Nat.le_refl 2
          · exact Nat.le_succ 1
        have e := run vr _ st2 f7
        rw [g8.2.2, show (C1 T 13 + 1 - c0).toNat = (C1 T 13 - c0).toNat + 1 by omega, evS_add, evS_cg (cd := adC C1 T 38 (T + 8)) (cd' := C1 (T + 8)) _ _ _ _ (fun j j0 j1 => g8.1 j (by omega)), e]
        dsimp only
        rw [evS_one, show c0 + ((C1 T 13 - c0).toNat : Int) = C1 T 13 by omega, g8.2.1, evO_b (Or.inr rfl), and01 f3 (v01 vr)]
    | false =>
      have er := f5 rfl
      have bt : bo = true := by rcases q2 with q2 | q2; exact q2; cases q2
      subst bt
      refine ⟨if A = 0 then O else 1, liV (shR R1) vr (R 172 1), ?_, ?_, v01 vr, fun q => (by cases q), ?_⟩
      · rw [fs]
        unfold fd1
        dsimp only
        rw [if_neg (by rw [s178]; omega), s178]
      · split
        · exact f2
        · exact Or.inr rfl
      · rw [if_neg (by decide)] at f7 ⊢
        rw [if_pos rfl]
        exact run vr _ (Nat.le_succ 1) f7
/-- a row's end: the or put out, if one is due -/
theorem pM_or {T c0 l0 row : Int} {bo : Bool} (h : pM K R T c0 l0 bo row) (vr : Int → Int) : ∃ O A, fdV (shR R) vr l0 (R 172 1 - l0 - 1).toNat = (O, A, row) ∧ (O = 0 ∨ O = 1) ∧ (A = 0 ∨ A = 1) ∧
    evS ((if bo = true then adC K T 37 else K) (T + 8)) vr ((if bo = true then adC K T 37 else K) T 13 - c0).toNat c0 [] 0 = some ([if A = 0 then O else 1], 0) := by
  obtain ⟨h1, h2, h3, h4⟩ := h
  obtain ⟨O, A, f1, f2, f3, f4, f5⟩ := h4 vr
  refine ⟨O, A, f1, f2, f3, ?_⟩
  have g8 := adC_8 (C := K) (T := T) (o := 37)
  cases bo with
  | true =>
    rw [if_pos rfl] at f5 ⊢
    rw [g8.2.2, show (K T 13 + 1 - c0).toNat = (K T 13 - c0).toNat + 1 by omega, evS_add, evS_cg (cd := adC K T 37 (T + 8)) (cd' := K (T + 8)) _ _ _ _ (fun j j0 j1 => g8.1 j (by omega)), f5]
    dsimp only
    rw [evS_one, show c0 + ((K T 13 - c0).toNat : Int) = K T 13 by omega, g8.2.1, evO_b (Or.inl rfl), or01 f2 f3]
  | false =>
    rw [if_neg (by decide)] at f5 ⊢
    rw [f5, f4 rfl]
    rcases f3 with rfl | rfl <;> rfl
theorem sh_cg (f : ∀ a, 145 < a → R1 a = R a) : ∀ a, 145 < a → shR R1 a = shR R a := by
  intro a ha
  funext b
  unfold shR
  rw [f a ha]
theorem cM_nx {T c0 l0 row : Int} {bo ba : Bool} (ht : isTx T) (h : cM K R T c0 l0 bo ba row) : cM (nxC K) (nxR R) T c0 l0 bo ba row := by
  have t := tx_le ht
  have s := sh_cg (R := R) (R1 := nxR R) (fun a ha => nxR_c (by omega))
  obtain ⟨a, b, c, d⟩ := h
  unfold cM
  rw [nxC_c (show T ≠ 3 by omega), nxC_c (show T + 8 ≠ 3 by omega), nxR_c (show (172 : Int) ≠ 145 by omega)]
  refine ⟨a, b, fun k k0 k1 => ?_, ?_⟩
  · unfold lB
    rw [nxR_c (show (175 : Int) ≠ 145 by omega), nxR_c (show (176 : Int) ≠ 145 by omega), nxR_c (show (177 : Int) ≠ 145 by omega), nxR_c (show (169 : Int) ≠ 145 by omega)]
    exact ⟨(c k k0 k1).1, liOk_cg (c k k0 k1).2 (fun x x1 x2 => s x (by omega))⟩
  · rcases d with d | ⟨d1, d2, d3⟩
    · exact Or.inl d
    · refine Or.inr ⟨d1, d2, fun vr => ?_⟩
      rw [fdV_cg (M1 := shR (nxR R)) (M := shR R) (fun j _ _ => ⟨liV_cg (fun x x1 x2 => s x (by omega)), by rw [s 178 (by omega)]⟩)]
      exact d3 vr
theorem cond_loop {N h0 : Nat} {T c0 r0 l0 : Int} (ch : c0 ≤ h0) (rh : 0 ≤ r0 ∧ r0 ≤ h0) (lh : 3 * l0 ≤ h0) : ∀ (m h : Nat) (bo ba : Bool) (row a3 : Int) (C R : aM), 401 ≤ h + m → h0 ≤ h → ST C R N T h → C T 13 + bi ba + bi bo ≤ c0 + ((h : Int) - h0) → (r0 ≤ R 169 1 ∧ R 169 1 ≤ r0 + ((h : Int) - h0)) → 3 * (R 172 1 - l0) ≤ (h : Int) - h0 → (0 ≤ a3 ∧ a3 ≤ (h : Int) - h0) → (0 ≤ row ∧ row ≤ h) → cM C R T c0 l0 bo ba row →
    ∃ C1 R1 v, aX xc_47 (aSeek xc_47 6) [aR 3, aI (bi bo), aI (bi ba), aI a3, aU, aU] [] (SH L) C ([], SH L, C1) ∧ aX xc_204 (aSeek xc_204 14) [aR 145, aI row, aI 1, aU, aU, aU] [] (SH L) R ([aI v], SH L, R1) ∧ cdE C R C1 R1 N T h0 c0 r0 l0 v := by
  intro m
  induction m with
  | zero => intro h bo ba row a3 C R hm _ s; have := (ST_h s).1; omega
  | succ m ih =>
    intro h bo ba row a3 C R hm h0h s cb rb lb_ i3 rowb cm
    have ht := s.2.2.2.2
    have t := tx_le ht
    have hh := ST_h s
    have b1 := bi_le ba
    have b2 := bi_le bo
    have cm1 := cm.1
    have cm2 := cm.2.1
    obtain ⟨C1, R1, ce, rk, c13, res⟩ := lit_pair (L := L) (row := row) (a1 := bi bo) (a2 := bi ba) (a3 := a3) s (by omega) (by omega) (by omega) (by omega)
    rcases res with ⟨h1, hh1, s1, cc1, rr1, e172, lB1, lo1, e178, ev, k47, k204⟩ | ⟨ft, k47, k204⟩
    · have hh1' := ST_h s1
      obtain ⟨K, hK⟩ : ∃ K, K = if ba = true then adC C1 T 38 else C1 := ⟨_, rfl⟩
      have pm := pM_of ht cm ce rk (by omega) e172 lB1 lo1 e178 ev
      rw [← hK] at pm
      have g33 : C1 3 3 = T := s1.2.2.2.1
      have ceK : cE T C1 K := by
        rw [hK]; split
        · exact cE_ad ht
        · exact cE_rf
      have k3 : ∀ j, K 3 j = C1 3 j := fun j => by
        rw [hK]; split
        · rw [adC_c (by omega) (by omega)]
        · rfl
      have kT : K T 13 = C1 T 13 + bi ba := by
        rw [hK]
        cases ba with
        | true => rw [if_pos rfl, adC_8.2.2, bi_t]
        | false => rw [if_neg (by decide), bi_f]; omega
      have sK : ST K R1 N T h1 := ST_cE s1 ceK rE_rf (fun j _ => k3 j) (fun _ _ _ => rfl)
      have k102 : ∀ o, aX xc_47 (aSeek xc_47 102) [aR 3, aI (bi bo), aU, aI a3, aU, aU] [] (SH L) K o → aX xc_47 (aSeek xc_47 6) [aR 3, aI (bi bo), aI (bi ba), aI a3, aU, aU] [] (SH L) C o := by
        intro o x
        refine k47 o ?_
        cases hb : ba with
        | true =>
          rw [hb] at kT
          rw [hK, hb, if_pos rfl] at x
          rw [bi_t] at kT ⊢
          exact bl_47_89 ⟨fun q => absurd q (by omega), fun _ => ⟨by rw [g33]; exact (tx ht).1, _, by rw [g33]; exact s_40 ht (by rw [hb, bi_t] at cb; omega), x⟩⟩
        | false =>
          rw [hK, hb, if_neg (by decide)] at x
          rw [bi_f]
          exact bl_47_89 ⟨fun _ => x, fun q => absurd rfl q⟩
      obtain ⟨ty, hty⟩ : ∃ ty, ty = K 5 (h1 : Int) := ⟨_, rfl⟩
      have tk := (ST_tk sK).1
      have r26 := s_26 (L := L) (C := K) (ST_h sK).2.1
      rw [sK.2.1.2.1, ← hty] at r26
      have wd : ∀ j : Nat, j < 24 → aE 195 [aR 145, aI (cmW (j : Int))] (SH L) R1 ([aI (bi (decide (ty = 16 + j)))], SH L, R1) := by
        intro j j24
        have := s_195 (L := L) (R := R1) (c := cmW (j : Int)) (ST_h sK).2.2
        rw [sK.2.1.2.2] at this
        rw [show decide (ty = 16 + (j : Int)) = decide (R1 147 (h1 : Int) = 3 ∧ R1 149 (h1 : Int) = cmW (j : Int)) by rw [decide_eq_decide, hty]; exact tk_word tk j24]
        exact this
      have w11 := wd 22 (by omega)
      have w12 := wd 21 (by omega)
      rw [show cmW ((22 : Nat) : Int) = 11 by decide] at w11
      rw [show cmW ((21 : Nat) : Int) = 12 by decide] at w12
      have ai : aW (a3 + 1) = a3 + 1 := aWi (by omega) (by omega)
      have rw1 : aW (row + 1) = row + 1 := aWi (by omega) (by omega)
      have one : ¬ ¬ (1 : Int) = 0 → False := fun q => by omega
      have fe : ∀ (Q : aM) (x y z : Int), ¬ Q 3 0 = 0 → aX xc_47 (aSeek xc_47 6) [aR 3, aI x, aI y, aI z, aU, aU] [] (SH L) Q ([], SH L, Q) := by
        intro Q x y z hq
        by_cases c : 400 < z
        · exact bl_47_6 ⟨fun _ => rfl, fun q => absurd c q⟩
        · exact bl_47_6 ⟨fun q => absurd q c, fun _ => ⟨fun _ => rfl, fun q => absurd hq q⟩⟩
      by_cases c38 : ty = 38
      · -- and
        rw [bip (show ty = 16 + ((22 : Nat) : Int) by omega)] at w11
        rw [bin (show ¬ ty = 16 + ((21 : Nat) : Int) by omega)] at w12
        have st47 : ∀ o, (∃ M3 v4, aE 29 [aR 3, aI 38] (SH L) K ([aI v4], SH L, M3) ∧ aX xc_47 (aSeek xc_47 6) [aR 3, aI (bi bo), aI 1, aI (aW (a3 + 1)), aU, aU] [] (SH L) M3 o) → aX xc_47 (aSeek xc_47 6) [aR 3, aI (bi bo), aI (bi ba), aI a3, aU, aU] [] (SH L) C o := by
          rintro o ⟨M3, v4, p1, x⟩
          refine k102 o (bl_47_102 ⟨K, ty, r26, fun q => absurd c38 q, fun _ => bl_47_116 ⟨fun _ => bl_47_134 ⟨fun _ => bl_47_148 ⟨fun q => ?_, fun q => ⟨fun _ => ?_, fun q2 => absurd (by omega) q2⟩⟩, fun q => absurd (by omega) q⟩, fun q => absurd (by omega) q⟩⟩)
          · have e1 : bi bo = 1 := by omega
            rw [e1] at x
            exact bl_47_156 (bl_47_161 ⟨K, ty, r26, M3, v4, by rw [c38]; exact p1, x⟩)
          · have e0 : bi bo = 0 := Classical.not_not.mp q
            rw [e0] at x
            exact bl_47_161 ⟨K, ty, r26, M3, v4, by rw [c38]; exact p1, x⟩
        have st204 : ∀ o, (∃ M1 v2, aE 193 [aR 145] (SH L) R1 ([aI v2], SH L, M1) ∧ ((¬ v2 = 0 → aX xc_204 (aSeek xc_204 14) [aR 145, aI row, aI 1, aU, aU, aU] [] (SH L) M1 o) ∧ (¬ (¬ v2 = 0) → o = ([aI 0], SH L, M1)))) → aX xc_204 (aSeek xc_204 14) [aR 145, aI row, aI 1, aU, aU, aU] [] (SH L) R o := by
          rintro o ⟨M1, v2, p1, x1, x2⟩
          exact k204 o ⟨R1, 1, w11, fun _ => bl_204_239 (bl_204_244 ⟨R1, 0, w12, fun _ => bl_204_257 ⟨fun q => absurd q (by omega), fun _ => ⟨M1, v2, p1, fun q => bl_204_270 (x1 q), x2⟩⟩, fun q => absurd rfl q⟩), fun q => absurd (by omega) q⟩
        have q5 : K 5 (h1 : Int) = 38 := by rw [← hty]; exact c38
        rcases pass_y (L := L) sK q5 (by omega) with ⟨h4, p1, p2, p3⟩ | ⟨h4, p1, p2, p3⟩
        · have eT : nxC K T = K T := nxC_c (by omega)
          obtain ⟨C2, R2, v, y1, y2, y3⟩ := ih (h1 + 1) bo true row (a3 + 1) (nxC K) (nxR R1) (by omega) (by omega) p3 (by rw [eT, kT, bi_t]; omega) (by rw [nxR_c (by omega)]; omega) (by rw [nxR_c (by omega)]; omega) (by omega) (by omega) (cM_nx ht (by
            obtain ⟨pa, pb, pc, pd⟩ := pm
            refine ⟨pa, by omega, pc, Or.inr ⟨pb.2, Or.inr rfl, fun vr => ?_⟩⟩
            obtain ⟨O, A, f1, f2, f3, f4, f5⟩ := pd vr
            exact ⟨O, A, row, f1, f2, f3, fun _ => rfl, fun q => (by cases q), f4, by rw [if_pos rfl]; exact f5⟩))
          rw [bi_t] at y1
          refine ⟨C2, R2, v, st47 _ ⟨_, 1, p1, by rw [ai]; exact y1⟩, st204 _ ⟨_, 1, p2, fun _ => y2, fun q => (one q).elim⟩, cdE_st (cE_tr ce (cE_tr ceK (nF_E ht nF_nx))) (rK_tr rk (rK_E (rE_nx rE_rf))) y3⟩
        · exact ⟨_, _, 0, st47 _ ⟨_, 0, p1, fe _ _ _ _ p3.1⟩, st204 _ ⟨_, 0, p2, fun q => absurd rfl q, fun _ => rfl⟩, cE_tr ce (cE_tr ceK (nF_E ht nF_fl)), rK_tr rk (rK_E (rE_fl rE_rf)), by rw [flC_c (by omega)]; omega, Or.inr ⟨rfl, p3⟩⟩
      · -- the row ends
        rw [bin (show ¬ ty = 16 + ((22 : Nat) : Int) by omega)] at w11
        obtain ⟨Q, hQ⟩ : ∃ Q, Q = if bo = true then adC K T 37 else K := ⟨_, rfl⟩
        have por := pM_or pm
        rw [← hQ] at por
        have kQ : Q T 13 = K T 13 + bi bo := by
          rw [hQ]
          cases bo with
          | true => rw [if_pos rfl, adC_8.2.2, bi_t]
          | false => rw [if_neg (by decide), bi_f]; omega
        have ceQ : cE T K Q := by
          rw [hQ]; split
          · exact cE_ad ht
          · exact cE_rf
        have q3 : ∀ j, Q 3 j = K 3 j := fun j => by
          rw [hQ]; split
          · rw [adC_c (by omega) (by omega)]
          · rfl
        have sQ : ST Q R1 N T h1 := ST_cE sK ceQ rE_rf (fun j _ => q3 j) (fun _ _ _ => rfl)
        have q5 : Q 5 (h1 : Int) = ty := by rw [ceQ.1 5 (by omega) (by omega) (by omega) (by omega), hty]
        have r26Q := s_26 (L := L) (C := Q) (ST_h sQ).2.1
        rw [sQ.2.1.2.1, q5] at r26Q
        have k33 : K 3 3 = T := by rw [k3, g33]
        have k134 : ∀ o, aX xc_47 (aSeek xc_47 134) [aR 3, aI (bi bo), aI 0, aI a3, aU, aU] [] (SH L) Q o → aX xc_47 (aSeek xc_47 6) [aR 3, aI (bi bo), aI (bi ba), aI a3, aU, aU] [] (SH L) C o := by
          intro o x
          refine k102 o (bl_47_102 ⟨K, ty, r26, fun _ => ?_, fun q => absurd q (fun z => c38 (Classical.not_not.mp (fun w => z w)))⟩)
          cases hb : bo with
          | true =>
            rw [hb] at x hQ kQ
            rw [if_pos rfl] at hQ
            rw [bi_t] at x kQ ⊢
            rw [hQ] at x
            exact bl_47_116 ⟨fun q => absurd rfl q, fun _ => ⟨fun q => absurd q (by omega), fun _ => ⟨by rw [k33]; exact (tx ht).1, _, by rw [k33]; exact s_40 ht (by rw [hb, bi_t] at cb; omega), x⟩⟩⟩
          | false =>
            rw [hb] at x hQ
            rw [if_neg (by decide)] at hQ
            rw [bi_f] at x ⊢
            rw [hQ] at x
            exact bl_47_116 ⟨fun q => absurd rfl q, fun _ => ⟨fun _ => x, fun q => absurd rfl q⟩⟩
        by_cases c37 : ty = 37
        · -- or
          rw [bip (show ty = 16 + ((21 : Nat) : Int) by omega)] at w12
          have st47 : ∀ o, (∃ M3 v4, aE 29 [aR 3, aI 37] (SH L) Q ([aI v4], SH L, M3) ∧ aX xc_47 (aSeek xc_47 6) [aR 3, aI 1, aI 0, aI (aW (a3 + 1)), aU, aU] [] (SH L) M3 o) → aX xc_47 (aSeek xc_47 6) [aR 3, aI (bi bo), aI (bi ba), aI a3, aU, aU] [] (SH L) C o := by
            rintro o ⟨M3, v4, p1, x⟩
            have k156 : aX xc_47 (aSeek xc_47 156) [aR 3, aU, aI 0, aI a3, aU, aU] [] (SH L) Q o := bl_47_156 (bl_47_161 ⟨Q, ty, r26Q, M3, v4, by rw [c37]; exact p1, x⟩)
            exact k134 o (bl_47_134 ⟨fun q => absurd rfl q, fun _ => ⟨Q, ty, r26Q, fun _ => bl_47_148 ⟨fun _ => k156, fun _ => ⟨fun q => absurd rfl q, fun _ => k156⟩⟩, fun q => absurd c37 q⟩⟩)
          have st204 : ∀ o, (∃ M1 v2, aE 193 [aR 145] (SH L) R1 ([aI v2], SH L, M1) ∧ ((¬ v2 = 0 → aX xc_204 (aSeek xc_204 14) [aR 145, aI (row + 1), aI 1, aU, aU, aU] [] (SH L) M1 o) ∧ (¬ (¬ v2 = 0) → o = ([aI 0], SH L, M1)))) → aX xc_204 (aSeek xc_204 14) [aR 145, aI row, aI 1, aU, aU, aU] [] (SH L) R o := by
            rintro o ⟨M1, v2, p1, x1, x2⟩
            refine k204 o ⟨R1, 0, w11, fun q => absurd rfl q, fun _ => ⟨R1, 1, w12, fun q => absurd q (by omega), fun _ => bl_204_239 (bl_204_244 ⟨R1, 1, w12, fun q => absurd q (by omega), fun _ => ?_⟩)⟩⟩
            rw [rw1]
            exact bl_204_257 ⟨fun q => absurd q (by omega), fun _ => ⟨M1, v2, p1, fun q => bl_204_270 (x1 q), x2⟩⟩
          have q37 : Q 5 (h1 : Int) = 37 := by rw [q5, c37]
          rcases pass_y (L := L) sQ q37 (by omega) with ⟨h4, p1, p2, p3⟩ | ⟨h4, p1, p2, p3⟩
          · have eT : nxC Q T = Q T := nxC_c (by omega)
            obtain ⟨C2, R2, v, y1, y2, y3⟩ := ih (h1 + 1) true false (row + 1) (a3 + 1) (nxC Q) (nxR R1) (by omega) (by omega) p3 (by rw [eT, kQ, kT, bi_t, bi_f]; omega) (by rw [nxR_c (by omega)]; omega) (by rw [nxR_c (by omega)]; omega) (by omega) (by omega) (cM_nx ht (by
              obtain ⟨pa, pb, pc, pd⟩ := pm
              refine ⟨by omega, by omega, pc, Or.inr ⟨pb.2, Or.inl rfl, fun vr => ?_⟩⟩
              obtain ⟨O, A, f1, f2, f3, f5⟩ := por vr
              exact ⟨O, A, row, f1, f2, f3, fun q => (by cases q), fun _ => Int.lt_succ row, fun q => (by cases q), by rw [if_neg (by decide)]; exact f5⟩))
            rw [bi_t, bi_f] at y1
            refine ⟨C2, R2, v, st47 _ ⟨_, 1, p1, by rw [ai]; exact y1⟩, st204 _ ⟨_, 1, p2, fun _ => y2, fun q => (one q).elim⟩, cdE_st (cE_tr ce (cE_tr ceK (cE_tr ceQ (nF_E ht nF_nx)))) (rK_tr rk (rK_E (rE_nx rE_rf))) y3⟩
          · exact ⟨_, _, 0, st47 _ ⟨_, 0, p1, fe _ _ _ _ p3.1⟩, st204 _ ⟨_, 0, p2, fun q => absurd rfl q, fun _ => rfl⟩, cE_tr ce (cE_tr ceK (cE_tr ceQ (nF_E ht nF_fl))), rK_tr rk (rK_E (rE_fl rE_rf)), by rw [flC_c (by omega)]; omega, Or.inr ⟨rfl, p3⟩⟩
        · -- the COND ends
          rw [bin (show ¬ ty = 16 + ((21 : Nat) : Int) by omega)] at w12
          have pmc := pm.1.2
          refine ⟨Q, R1, 1, k134 _ (bl_47_134 ⟨fun q => absurd rfl q, fun _ => ⟨Q, ty, r26Q, fun q => absurd q c37, fun _ => rfl⟩⟩), k204 _ ⟨R1, 0, w11, fun q => absurd rfl q, fun _ => ⟨R1, 0, w12, fun _ => bl_204_244 ⟨R1, 0, w12, fun _ => bl_204_257 ⟨fun _ => bl_204_270 (bl_204_14 ⟨fun _ => rfl, fun q => absurd rfl q⟩), fun q => absurd rfl q⟩, fun q => absurd rfl q⟩, fun q => absurd rfl q⟩⟩, cE_tr ce (cE_tr ceK ceQ), rk, by omega, Or.inl ⟨rfl, h1, by omega, sQ, by omega, by omega, by omega, pm.2.2.1, fun vr => ?_⟩⟩
          obtain ⟨O, A, f1, f2, f3, f5⟩ := por vr
          rw [f5, hdV_fd pm.2.1.2, f1]
          dsimp only
          rcases f2 with rfl | rfl <;> rcases f3 with rfl | rfl <;> rfl
    · exact ⟨C1, R1, 0, k47, k204, ce, rk, c13, Or.inr ⟨rfl, ft⟩⟩
theorem cd_pair {N h : Nat} {T : Int} (s : ST C R N T h) (cb : 0 ≤ C T 13 ∧ C T 13 ≤ h) (rb : 0 ≤ R 169 1 ∧ R 169 1 ≤ h) (lb_ : 0 ≤ R 172 1 ∧ 3 * R 172 1 ≤ h) : ∃ C1 R1 v, aE 47 [aR 3] (SH L) C ([], SH L, C1) ∧ aE 204 [aR 145] (SH L) R ([aI v], SH L, R1) ∧ cdE C (aSet R 145 57 (R 172 1)) C1 R1 N T h (C T 13) (R 169 1) (R 172 1) v := by
  have ht := s.2.2.2.2
  have t := tx_le ht
  obtain ⟨Q, hQ⟩ : ∃ Q, Q = aSet R 145 57 (R 172 1) := ⟨_, rfl⟩
  have q1 : ∀ a, a ≠ 145 → Q a = R a := fun a ha => by rw [hQ, aSet_c ha]
  have s1 : ST C Q N T h := ST_cg s (fun _ _ _ => rfl) (fun a x y => q1 a (by omega)) (fun _ _ => rfl) (fun j x y => by rw [hQ, aSet_i (by omega)])
  obtain ⟨C1, R1, v, y1, y2, y3⟩ := cond_loop (L := L) (c0 := C T 13) (r0 := R 169 1) (l0 := R 172 1) (by omega) rb lb_.2 (401 - h) h false false 0 0 C Q (by omega) (Nat.le_refl _) s1 (by rw [bi_f]; omega) (by rw [q1 169 (by omega)]; omega) (by rw [q1 172 (by omega)]; omega) (by omega) (by omega) ⟨by omega, by rw [q1 172 (by omega)]; omega, fun k k0 k1 => by rw [q1 172 (by omega)] at k1; omega, Or.inl ⟨by rw [q1 172 (by omega)], rfl, rfl, rfl⟩⟩
  rw [bi_f] at y1
  rw [hQ] at y2 y3
  exact ⟨C1, R1, v, en_47 y1, en_204 y2, y3⟩
end CND2
