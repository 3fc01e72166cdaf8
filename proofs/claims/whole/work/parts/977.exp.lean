/-! reading: an E, both sides -/
section EXP1
variable {L : Nat} {C R C1 R1 C2 R2 : aM}
theorem ST_cE {N h : Nat} {T : Int} (s : ST C R N T h) (c : cE T C C1) (r : rE R R1) (c3 : ∀ j, j = 0 ∨ j = 1 ∨ j = 4 → C1 3 j = C 3 j) (r3 : ∀ j, 7 ≤ j → j ≤ 9 → R1 145 j = R 145 j) : ST C1 R1 N T h := by
  have t := tx_le s.2.2.2.2
  refine ST_cg s (fun a x y => c.1 a (by omega) (by omega) (by omega) (by omega)) (fun a x y => r.1 a (by omega) (by omega) (by omega) (by omega) (by omega)) (fun j hj => ?_) r3
  rcases hj with rfl | rfl | rfl | rfl
  · exact c3 0 (by omega)
  · exact c3 1 (by omega)
  · exact c.2.2.2.1 3 (by omega) (by omega) (by omega) (by omega)
  · exact c3 4 (by omega)
def awC (C : aM) (t : Int) : aM := aSet (aSet C 8 (C 3 8) t) 3 8 (C 3 8 + 1)
def awR (R : aM) (o : Int) : aM := aSet (aSet R 190 (R 145 54) o) 145 54 (R 145 54 + 1)
theorem s_39 {t : Int} (h : 0 ≤ C 3 8 ∧ C 3 8 < 28) : aE 39 [aR 3, aI t] (SH L) C ([], SH L, awC C t) := by
  refine en_39 ⟨fun q => absurd q (by omega), fun _ => ⟨fun q => absurd q (by rw [show aL (SH L) 8 = 28 from rfl]; omega), fun _ => ⟨by rw [show aLn (SH L) 1 8 = 28 from rfl]; omega, ?_⟩⟩⟩
  unfold awC
  rw [aSet_c (show (3 : Int) ≠ 8 by omega), aWi (z := C 3 8 + 1) (by omega) (by omega)]
theorem s_201 {t : Int} (h : 0 ≤ R 145 54 ∧ R 145 54 < 500) : aE 201 [aR 145, aI t] (SH L) R ([], SH L, awR R t) := by
  refine en_201 ⟨by rw [show aLn (SH L) 1 190 = 500 from rfl]; omega, ?_⟩
  unfold awR
  rw [aSet_c (show (145 : Int) ≠ 190 by omega), aWi (z := R 145 54 + 1) (by omega) (by omega)]
theorem awC_3 {t j : Int} (h : j ≠ 8) : awC C t 3 j = C 3 j := by unfold awC; rw [aSet_i h, aSet_c (by omega)]
theorem awR_1 {t j : Int} (h : j ≠ 54) : awR R t 145 j = R 145 j := by unfold awR; rw [aSet_i h, aSet_c (by omega)]
theorem awC_c {t a : Int} (h : a ≠ 3) (h8 : a ≠ 8) : awC C t a = C a := by unfold awC; rw [aSet_c h, aSet_c h8]
theorem awR_c {t a : Int} (h : a ≠ 145) (h8 : a ≠ 190) : awR R t a = R a := by unfold awR; rw [aSet_c h, aSet_c h8]
theorem cE_aw {T t : Int} (h : cE T C C1) (ht : isTx T) : cE T C (awC C1 t) := by unfold awC; exact cE_3 (cE_8 h ht) (by omega) ht
theorem rE_aw {t : Int} (h : rE R R1) : rE R (awR R1 t) := by unfold awR; exact rE_1 (rE_190 h) (by omega)
theorem cE_nx {T : Int} (h : cE T C C1) (ht : isTx T) : cE T C (nxC C1) := by unfold nxC; exact cE_3 h (by omega) ht
theorem rE_nx (h : rE R R1) : rE R (nxR R1) := by unfold nxR; exact rE_1 h (by omega)
theorem cE_fl {T n : Int} (h : cE T C C1) (ht : isTx T) : cE T C (flC C1 n) := by unfold flC; exact cE_3 (cE_3 h (by omega) ht) (by omega) ht
theorem rE_fl {n : Int} (h : rE R R1) : rE R (flR R1 n) := by unfold flR; exact rE_1 (rE_1 h (by omega)) (by omega)
theorem WT_aw {w : List Int} {t : Int} (h : WT C R w) : WT (awC C t) (awR R (opq t)) (t :: w) := by
  obtain ⟨a, b, c⟩ := h
  unfold WT awC awR
  rw [a, b]
  refine ⟨by rw [aSet_e, List.length_cons]; omega, by rw [aSet_e, List.length_cons]; omega, by rw [aSet_c (by omega), aSet_e], by rw [aSet_c (by omega), aSet_e], wtV_cg w c (fun i hi => ⟨by rw [aSet_c (by omega), aSet_i (by omega)], by rw [aSet_c (by omega), aSet_i (by omega)]⟩)⟩
theorem WT_cg {w : List Int} (h : WT C R w) (a : C1 3 8 = C 3 8) (b : R1 145 54 = R 145 54) (c : C1 8 = C 8) (d : R1 190 = R 190) : WT C1 R1 w := by
  unfold WT
  rw [a, b]
  exact ⟨h.1, h.2.1, wtV_cg w h.2.2 (fun i _ => ⟨by rw [c], by rw [d]⟩)⟩
theorem s_202 {a : Int} (h : 0 ≤ a ∧ a ≤ 40) : aE 202 [aI a] (SH L) R ([aI (if 13 ≤ a ∧ a ≤ 21 then a - 13 else -1)], SH L, R) := by
  refine en_202 ⟨fun q => rI (by rw [if_neg (by omega)]), fun q => ⟨fun q2 => rI (by rw [if_neg (by omega)]), fun q2 => rI ?_⟩⟩
  rw [if_pos (by omega), aWi (by omega) (by omega)]
theorem cm_var : ∀ w : Nat, w < 24 → (0 ≤ cmW (w : Int) ∧ cmW (w : Int) ≤ 40) ∧ (13 ≤ cmW (w : Int) ∧ cmW (w : Int) ≤ 21 ↔ w < 9) ∧ (w < 9 → cmW (w : Int) = 13 + w) := by decide +kernel
/-- how an E ends -/
def exE (C R C1 R1 : aM) (N : Nat) (T : Int) (h0 : Nat) (cc0 rc0 v : Int) : Prop := cE T C C1 ∧ rE R R1 ∧ (0 ≤ C1 T 13 ∧ C1 T 13 ≤ 400) ∧ ((v = 1 ∧ ∃ h1, h0 < h1 ∧ ST C1 R1 N T h1 ∧ C1 T 13 - cc0 ≤ (h1 : Int) - h0 ∧ R1 169 1 - rc0 ≤ (h1 : Int) - h0 ∧ (cc0 ≤ C1 T 13 ∧ rc0 ≤ R1 169 1) ∧
  eM (C1 (T + 8)) (oO R1) (oV R1) cc0 (C1 T 13 - cc0).toNat rc0 (R1 169 1 - rc0).toNat) ∨ (v = 0 ∧ FT C1 R1 T))
theorem exE_st {N h0 : Nat} {T cc0 rc0 v : Int} (a : cE T C C1) (b : rE R R1) (h : exE C1 R1 C2 R2 N T h0 cc0 rc0 v) : exE C R C2 R2 N T h0 cc0 rc0 v := ⟨cE_tr a h.1, rE_tr b h.2.1, h.2.2⟩
theorem ex_loop {N h0 : Nat} {T cc0 rc0 : Int} (ch : cc0 ≤ h0) (rh : rc0 ≤ h0) : ∀ (m h : Nat) (w : List Int) (due : Bool) (C R : aM), h + m = 401 → h0 ≤ h → ST C R N T h → WT C R w → wV w → noW w ≤ 6 → SM C R T cc0 rc0 (nbW w + (if due = true then 0 else 1)) → C T 13 + nbW w ≤ cc0 + (h - h0) → R 169 1 + nbW w ≤ rc0 + (h - h0) → (due = false → h0 < h) →
    ∃ C1 R1 v, aX xc_44 (aSeek xc_44 11) [aR 3, aI (noW w : Int), aI (bi due), aI ((h : Int) - h0), aU] [] (SH L) C ([], SH L, C1) ∧ aX xc_203 (aSeek xc_203 21) [aR 145, aI (noW w : Int), aI (bi due), aI 1, aU] [] (SH L) R ([aI v], SH L, R1) ∧ exE C R C1 R1 N T h0 cc0 rc0 v := by
  intro m
  induction m with
  | zero => intro h w due C R hm _ s; have := (ST_h s).1; omega
  | succ m ih =>
    intro h w due C R hm h0h s hw hv no sm cb rb hd
    have ht := s.2.2.2.2
    have t := tx_le ht
    have hh := ST_h s
    have b := s.2.1
    have f0 := s.2.2.1.1
    have tk := (ST_tk s).1
    have so := tk_so tk
    have sm1 := sm.1
    have sm2 := sm.2.1
    have nb := nb_le w hv
    have tp := tp_le (w := w)
    have lw_ := len_W w
    obtain ⟨ty, hty⟩ : ∃ ty, ty = C 5 (h : Int) := ⟨_, rfl⟩
    have r26 : aE 26 [aR 3] (SH L) C ([aI ty], SH L, C) := by
      have := s_26 (L := L) (C := C) hh.2.1
      rw [b.2.1, ← hty] at this
      exact this
    have l7 : aLn (SH L) 1 147 = 2001 := rfl
    have l9 : aLn (SH L) 1 149 = 2001 := rfl
    -- the reference's look at a sign
    have sg : ∀ tt : Int, 4 ≤ tt ∧ tt ≤ 15 → aE 194 [aR 145, aI (sgR tt)] (SH L) R ([aI (bi (decide (ty = tt)))], SH L, R) := by
      intro tt h15
      have := s_194 (L := L) (R := R) (c := sgR tt) hh.2.2
      rw [b.2.2] at this
      rw [show decide (ty = tt) = decide (R 147 (h : Int) = 2 ∧ R 149 (h : Int) = sgR tt) by rw [decide_eq_decide, hty]; exact tk_sign tk h15]
      exact this
    have g0 : ¬ (400 : Int) < (h : Int) - h0 := by omega
    -- behind a FAULT the class's loop ends
    have fe : ∀ (K : aM) (x y z : Int), ¬ K 3 0 = 0 → aX xc_44 (aSeek xc_44 11) [aR 3, aI x, aI y, aI z, aU] [] (SH L) K ([], SH L, K) := by
      intro K x y z q
      by_cases c : 400 < z
      · exact bl_44_11 ⟨fun _ => rfl, fun q2 => absurd c q2⟩
      · exact bl_44_11 ⟨fun q2 => absurd q2 c, fun _ => ⟨fun _ => rfl, fun q2 => absurd q q2⟩⟩
    have pf : ∀ (K K2 : aM) (x y z u : Int), aE 29 [aR 3, aI u] (SH L) K ([aI 0], SH L, K2) → ¬ K2 3 0 = 0 → aX xc_44 (aSeek xc_44 180) [aR 3, aI x, aI y, aI z, aI u] [] (SH L) K ([], SH L, K2) := fun K K2 x y z u r q => bl_44_180 ⟨K2, 0, r, fe K2 _ _ _ q⟩
    cases due with
    | true =>
      have c44 : ∀ o, ((¬ ty = 14 → aX xc_44 (aSeek xc_44 69) [aR 3, aI (noW w : Int), aI 1, aI ((h : Int) - h0), aI ty] [] (SH L) C o) ∧ (ty = 14 → (((noW w : Int) < 6 → aX xc_44 (aSeek xc_44 57) [aR 3, aI (noW w : Int), aI 1, aI ((h : Int) - h0), aI ty] [] (SH L) C o) ∧ (¬ (noW w : Int) < 6 → ∃ M3 v4, aE 27 [aR 3] (SH L) C ([aI v4], SH L, M3) ∧ ∃ M5, aE 28 [aR 3, aI 2, aI v4] (SH L) M3 ([], SH L, M5) ∧ aX xc_44 (aSeek xc_44 57) [aR 3, aI (noW w : Int), aI 1, aI ((h : Int) - h0), aI ty] [] (SH L) M5 o)))) → aX xc_44 (aSeek xc_44 11) [aR 3, aI (noW w : Int), aI (bi true), aI ((h : Int) - h0), aU] [] (SH L) C o := by
        intro o x
        rw [bi_t]
        exact bl_44_11 ⟨fun q => absurd q g0, fun _ => ⟨fun q => absurd f0 q, fun _ => ⟨C, ty, r26, fun q => absurd q (by omega), fun _ => ⟨fun q => x.1 q, fun q => ⟨fun q2 => (x.2 (Classical.not_not.mp q)).1 q2, fun q2 => (x.2 (Classical.not_not.mp q)).2 q2⟩⟩⟩⟩⟩
      have w28 : 0 ≤ C 3 8 ∧ C 3 8 < 28 := by rw [hw.1]; omega
      have w500 : 0 ≤ R 145 54 ∧ R 145 54 < 500 := by rw [hw.2.1]; omega
      have r194 := sg 14 (by omega)
      by_cases c14 : ty = 14
      · rw [bip c14] at r194
        by_cases o6 : (noW w : Int) < 6
        · -- an open ( more
          have s1 : ST (awC C 14) R N T h := ST_cE s (cE_aw cE_rf ht) rE_rf (fun j hj => awC_3 (by omega)) (fun _ _ _ => rfl)
          have st44 : ∀ o, aX xc_44 (aSeek xc_44 180) [aR 3, aI ((noW w : Int) + 1), aI 1, aI ((h : Int) - h0), aI 14] [] (SH L) (awC C 14) o → aX xc_44 (aSeek xc_44 11) [aR 3, aI (noW w : Int), aI (bi true), aI ((h : Int) - h0), aU] [] (SH L) C o := by
            intro o r
            refine c44 o ⟨fun q => absurd c14 q, fun _ => ⟨fun _ => ?_, fun q => absurd o6 q⟩⟩
            rw [c14]
            refine bl_44_57 ⟨_, s_39 w28, ?_⟩
            rw [aWi (z := (noW w : Int) + 1) (by omega) (by omega)]
            exact r
          have st203 : ∀ o, ((∃ M21 v22, aE 193 [aR 145] (SH L) R ([aI v22], SH L, M21) ∧ ((¬ v22 = 0 → ∃ M23, aE 201 [aR 145, aI 0] (SH L) M21 ([], SH L, M23) ∧ aX xc_203 (aSeek xc_203 21) [aR 145, aI (aW ((noW w : Int) + 1)), aI 1, aI 1, aU] [] (SH L) M23 o) ∧ (¬ ¬ v22 = 0 → o = ([aI 0], SH L, M21))))) → aX xc_203 (aSeek xc_203 21) [aR 145, aI (noW w : Int), aI (bi true), aI 1, aU] [] (SH L) R o := by
            intro o x
            rw [bi_t]
            exact bl_203_21 ⟨fun q => absurd q (by omega), fun _ => ⟨fun q => absurd q (by omega), fun _ => ⟨R, 1, r194, fun q => absurd q (by omega), fun _ => ⟨fun _ => x, fun q => absurd (by omega) q⟩⟩⟩⟩
          have q5 : (awC C 14) 5 (h : Int) = 14 := by rw [awC_c (by omega) (by omega), ← hty, c14]
          rcases pass_y (L := L) s1 q5 (by omega) with ⟨h4, p1, p2, p3⟩ | ⟨h4, p1, p2, p3⟩
          · have wt : WT (nxC (awC C 14)) (awR (nxR R) 0) (14 :: w) := WT_cg (WT_aw (t := 14) (WT_cg (C1 := C) (R1 := nxR R) hw rfl (nxR_1 (by omega)) rfl (nxR_c (by omega)))) (nxC_3 (by omega)) rfl (nxC_c (by omega)) rfl
            obtain ⟨C1, R1, v, y1, y2, y3⟩ := ih (h + 1) (14 :: w) true (nxC (awC C 14)) (awR (nxR R) 0) (by omega) (by omega) (ST_cE p3 cE_rf (rE_aw rE_rf) (fun _ _ => rfl) (fun j j0 j1 => awR_1 (by omega))) wt ⟨Or.inl rfl, hv⟩ (by show (if (14 : Int) = 14 then 1 else 0) + noW w ≤ 6; rw [if_pos rfl]; omega) (by
                show SM _ _ T cc0 rc0 ((if (14 : Int) = 14 then 0 else 1) + nbW w + 0)
                rw [if_pos rfl, Nat.zero_add]
                exact SM_cg sm (by rw [nxC_c (by omega), awC_c (by omega) (by omega)]) (fun i _ => by rw [nxC_c (by omega), awC_c (by omega) (by omega)]) (by rw [awR_c (by omega) (by omega), nxR_c (by omega)]) (fun i _ => by rw [awR_c (by omega) (by omega), awR_c (by omega) (by omega), nxR_c (by omega), nxR_c (by omega)]; exact ⟨rfl, rfl⟩)) (by
                rw [nxC_c (by omega), awC_c (by omega) (by omega)]
                show C T 13 + (((if (14 : Int) = 14 then 0 else 1) + nbW w : Nat) : Int) ≤ _
                rw [if_pos rfl]; omega) (by
                rw [awR_c (by omega) (by omega), nxR_c (by omega)]
                show R 169 1 + (((if (14 : Int) = 14 then 0 else 1) + nbW w : Nat) : Int) ≤ _
                rw [if_pos rfl]; omega) (fun q => by cases q)
            have no1 : ((noW (14 :: w) : Nat) : Int) = (noW w : Int) + 1 := by show (((if (14 : Int) = 14 then 1 else 0) + noW w : Nat) : Int) = _; rw [if_pos rfl]; omega
            rw [no1, bi_t] at y1 y2
            refine ⟨C1, R1, v, st44 _ (bl_44_180 ⟨_, 1, p1, ?_⟩), st203 _ ⟨_, 1, p2, fun _ => ⟨_, s_201 (by rw [nxR_1 (by omega)]; exact w500), ?_⟩, fun q => absurd (by omega) q⟩, exE_st (cE_nx (cE_aw cE_rf ht) ht) (rE_aw (rE_nx rE_rf)) y3⟩
            · rw [aWi (z := (h : Int) - h0 + 1) (by omega) (by omega), show (h : Int) - h0 + 1 = ((h + 1 : Nat) : Int) - h0 by omega]
              exact y1
            · rw [aWi (z := (noW w : Int) + 1) (by omega) (by omega)]
              exact y2
          · exact ⟨_, _, 0, st44 _ (pf _ _ _ _ _ _ p1 p3.1), st203 _ ⟨_, 0, p2, fun q => absurd rfl q, fun _ => rfl⟩, cE_fl (cE_aw cE_rf ht) ht, rE_fl rE_rf, by rw [flC_c (by omega), awC_c (by omega) (by omega)]; omega, Or.inr ⟨rfl, p3⟩⟩
        · -- a seventh (
          have fl := ST_fl (n := 2) s (by omega)
          have e28 := s_28 (L := L) (C := C) (n := 2) (p := C 6 (h : Int))
          rw [if_pos f0, show aSet (aSet C 3 0 2) 3 1 (C 6 (h : Int)) = flC C 2 by unfold flC; rw [b.2.1]] at e28
          have e27 := s_27 (L := L) (C := C) hh.2.1
          rw [b.2.1] at e27
          have k8 : flC C 2 3 8 = C 3 8 := flC_3 (by omega)
          have fl2 : FT (awC (flC C 2) 14) (flR R 2) T := FT_cg fl (fun j hj => awC_3 (by omega)) (fun _ _ _ => rfl)
          refine ⟨awC (flC C 2) 14, flR R 2, 0, c44 _ ⟨fun q => absurd c14 q, fun _ => ⟨fun q => absurd q o6, fun _ => ⟨C, _, e27, _, e28, ?_⟩⟩⟩, ?_, cE_aw (cE_fl cE_rf ht) ht, rE_fl rE_rf, by rw [awC_c (by omega) (by omega), flC_c (by omega)]; omega, Or.inr ⟨rfl, fl2⟩⟩
          · rw [c14]
            refine bl_44_57 ⟨_, s_39 (by rw [k8]; exact w28), ?_⟩
            exact pf _ _ _ _ _ _ (s_29f fl2.1) fl2.1
          · rw [bi_t]
            exact bl_203_21 ⟨fun q => absurd q (by omega), fun _ => ⟨fun q => absurd q (by omega), fun _ => ⟨R, 1, r194, fun q => absurd q (by omega), fun _ => ⟨fun q => absurd (show (noW w : Int) = 6 by omega) q, fun _ => ⟨_, 0, s_191 hh.2.2, Or.inl rfl, rfl⟩⟩⟩⟩⟩
      · rw [bin c14] at r194
        -- a unit
        have st203 : ∀ o, ((0 ≤ R 145 7 ∧ R 145 7 < aLn (SH L) 1 147) ∧ ((¬ (R 147 (R 145 7)) = 3 → aX xc_203 (aSeek xc_203 99) [aR 145, aI (noW w : Int), aU, aI 1, aU] [aI (-1)] (SH L) R o) ∧ (¬ (¬ (R 147 (R 145 7)) = 3) → (0 ≤ R 145 7 ∧ R 145 7 < aLn (SH L) 1 149) ∧ (∃ M19 v20, aE 202 [aI (R 149 (R 145 7))] (SH L) R ([aI v20], SH L, M19) ∧ aX xc_203 (aSeek xc_203 99) [aR 145, aI (noW w : Int), aU, aI 1, aU] [aI v20] (SH L) M19 o)))) → aX xc_203 (aSeek xc_203 21) [aR 145, aI (noW w : Int), aI (bi true), aI 1, aU] [] (SH L) R o := by
          intro o x
          rw [bi_t]
          exact bl_203_21 ⟨fun q => absurd q (by omega), fun _ => ⟨fun q => absurd q (by omega), fun _ => ⟨R, 0, r194, fun _ => x, fun q => absurd rfl q⟩⟩⟩
        -- the class puts out o and passes u
        have st44 : ∀ (o : aO) (cd u : Int) (K : aM), ((¬ ty = 3 → cd = ty) ∧ (ty = 3 → cd = aW (1000 + aW (C 7 (h : Int))))) → aE 40 [aR T, aI cd] (SH L) C ([], SH L, K) → (16 ≤ ty ∧ ty < 25 → u = ty) → (¬ (16 ≤ ty ∧ ty < 25) → u = 3) → aX xc_44 (aSeek xc_44 180) [aR 3, aI (noW w : Int), aI 0, aI ((h : Int) - h0), aI u] [] (SH L) K o → aX xc_44 (aSeek xc_44 11) [aR 3, aI (noW w : Int), aI (bi true), aI ((h : Int) - h0), aU] [] (SH L) C o := by
          intro o cd u K hcd r40 u1 u2 r
          have k97 : aX xc_44 (aSeek xc_44 97) [aR 3, aI (noW w : Int), aU, aI ((h : Int) - h0), aI ty] [aI cd, aR T] (SH L) C o := by
            refine bl_44_97 ⟨(tx ht).1, K, r40, K, _, s_41, fun q => ?_, fun q => ?_⟩
            · rw [u2 (bid0.mp q)] at r
              exact bl_44_116 r
            · rw [u1 (Classical.not_not.mp (fun z => q (bid0.mpr z)))] at r
              exact bl_44_116 r
          refine c44 o ⟨fun _ => bl_44_69 ⟨fun q => absurd q (by omega), fun _ => ⟨fun q => ?_, fun q => ?_⟩⟩, fun q => absurd q c14⟩
          · rw [s.2.2.2.1]; rw [hcd.1 q] at k97; exact k97
          · have r30 := s_30 (L := L) (C := C) hh.2.1
            rw [b.2.1] at r30
            refine ⟨C, _, r30, ?_⟩
            rw [s.2.2.2.1, ← hcd.2 (Classical.not_not.mp q)]; exact k97
        obtain ⟨good, hgood⟩ : ∃ good : Prop, good = (ty = 3 ∨ 16 ≤ ty ∧ ty < 25) := ⟨_, rfl⟩
        by_cases cg : ty = 3 ∨ 16 ≤ ty ∧ ty < 25
        · -- what is put out
          obtain ⟨cd, op, vv, u, hcd, hu, r40s, r155⟩ : ∃ cd op vv u : Int, ((¬ ty = 3 → cd = ty) ∧ (ty = 3 → cd = aW (1000 + aW (C 7 (h : Int))))) ∧ (u = ty ∧ (16 ≤ ty ∧ ty < 25 → u = ty) ∧ (¬ (16 ≤ ty ∧ ty < 25) → u = 3)) ∧ (C T 13 < 400 → R 169 1 < 400 → SM (adC C T cd) (adR R op vv) T cc0 rc0 (nbW w + 1)) ∧
              ∀ o, aX xc_203 (aSeek xc_203 155) [aR 145, aI (noW w : Int), aU, aI 1, aU] [aI vv, aI op, aR 145] (SH L) R o → aX xc_203 (aSeek xc_203 21) [aR 145, aI (noW w : Int), aI (bi true), aI 1, aU] [] (SH L) R o := by
            by_cases c3 : ty = 3
            · have v3 : R 149 (h : Int) = C 7 (h : Int) ∧ 0 ≤ C 7 (h : Int) ∧ C 7 (h : Int) ≤ 9999 := by
                rw [← hty] at tk
                rcases tk with ⟨a, _⟩ | ⟨a, _⟩ | ⟨a, _, _⟩ | ⟨a, _, x⟩ | ⟨_, a, _⟩ | ⟨_, _, _, a, _⟩
                · omega
                · omega
                · omega
                · exact x
                · omega
                · omega
              have so1 : R 147 (h : Int) = 1 := so.2.2.1.mp (by rw [← hty]; exact c3)
              refine ⟨1000 + C 7 (h : Int), 0, C 7 (h : Int), 3, ⟨fun q => absurd c3 q, fun _ => by rw [aWi (z := C 7 (h : Int)) (by omega) (by omega), aWi (by omega) (by omega)]⟩, ⟨by omega, fun q => by omega, fun _ => rfl⟩, fun x y => SM_int sm x y (by show nbW w + 0 ≤ 14; omega) v3.2, fun o r => ?_⟩
              refine st203 o ⟨by omega, fun _ => ?_, fun q => absurd (by rw [b.2.2]; omega) q⟩
              refine bl_203_99 ⟨by omega, fun _ => ?_, fun q => absurd (by rw [b.2.2]; exact so1) q⟩
              refine bl_203_125 ⟨fun q => by omega, fun _ => bl_203_136 ⟨fun q => by omega, fun _ => ⟨by omega, ?_⟩⟩⟩
              rw [b.2.2, v3.1]
              exact r
            · have cv : 16 ≤ ty ∧ ty < 25 := by omega
              obtain ⟨j, j24, ej, ew⟩ := so.2.2.2.2.2 (so.2.2.2.1.mpr (by rw [← hty]; omega))
              rw [← hty] at ej
              have cv2 := cm_var j j24
              have so3 : R 147 (h : Int) = 3 := so.2.2.2.1.mpr (by rw [← hty]; omega)
              refine ⟨16 + (j : Int), 1, (j : Int), ty, ⟨fun _ => ej.symm, fun q => absurd q c3⟩, ⟨rfl, fun _ => rfl, fun q => absurd cv q⟩, fun x y => SM_var sm x y (by show nbW w + 0 ≤ 14; omega) (by omega), fun o r => ?_⟩
              refine st203 o ⟨by omega, fun q => absurd (by rw [b.2.2]; exact so3) q, fun _ => ⟨by omega, R, (j : Int), ?_, ?_⟩⟩
              · have := s_202 (L := L) (R := R) (a := cmW (j : Int)) cv2.1
                rw [if_pos (cv2.2.1.mpr (by omega)), cv2.2.2 (by omega), show (13 : Int) + j - 13 = j by omega] at this
                rw [b.2.2, ew, cv2.2.2 (by omega)]
                exact this
              · refine bl_203_99 ⟨by omega, fun q => absurd q (by rw [b.2.2]; omega), fun _ => ⟨fun _ => ?_, fun q => absurd (by omega) q⟩⟩
                exact bl_203_125 ⟨fun _ => bl_203_136 ⟨fun _ => r, fun q => absurd (by omega) q⟩, fun q => absurd (by omega) q⟩
          have r198 := s_198 (L := L) (R := R) (o := op) (v := vv) ⟨by omega, by omega⟩
          have t5 : (h : Int) < 400 → C T 13 < 400 ∧ R 169 1 < 400 := fun q => by omega
          by_cases h4 : h < 400
          · have c4 := t5 (by omega)
            have s1 : ST (adC C T cd) (adR R op vv) N T h := ST_cE s (cE_ad ht) rE_ad (fun j _ => by rw [adC_c (by omega) (by omega)]) (fun j _ _ => by rw [adR_c (by omega) (by omega) (by omega)])
            have q5 : (adC C T cd) 5 (h : Int) = u := by rw [adC_c (by omega) (by omega), ← hty, hu.1]
            rcases pass_y (L := L) s1 q5 (by omega) with ⟨-, p1, p2, p3⟩ | ⟨h4', _⟩
            · have smn := r40s c4.1 c4.2
              obtain ⟨C1, R1, v, y1, y2, y3⟩ := ih (h + 1) w false (nxC (adC C T cd)) (nxR (adR R op vv)) (by omega) (by omega) p3 (WT_cg hw (by rw [nxC_3 (by omega), adC_c (by omega) (by omega)]) (by rw [nxR_1 (by omega), adR_c (by omega) (by omega) (by omega)]) (by rw [nxC_c (by omega), adC_c (by omega) (by omega)]) (by rw [nxR_c (by omega), adR_c (by omega) (by omega) (by omega)])) hv no (SM_cg smn (by rw [nxC_c (by omega)]) (fun i _ => by rw [nxC_c (by omega)]) (by rw [nxR_c (by omega)]) (fun i _ => by rw [nxR_c (by omega), nxR_c (by omega)]; exact ⟨rfl, rfl⟩)) (by rw [nxC_c (by omega), adC_8.2.2]; omega) (by rw [nxR_c (by omega), adR_0.2.2.2]; omega) (fun _ => by omega)
              rw [bi_f] at y1 y2
              refine ⟨C1, R1, v, st44 _ cd u _ hcd (s_40 ht (by omega)) hu.2.1 hu.2.2 (bl_44_180 ⟨_, 1, p1, ?_⟩), r155 _ (bl_203_155 ⟨rfl, _, r198, _, 1, p2, fun _ => y2, fun q => absurd (by omega) q⟩), exE_st (cE_nx (cE_ad ht) ht) (rE_nx rE_ad) y3⟩
              rw [aWi (z := (h : Int) - h0 + 1) (by omega) (by omega), show (h : Int) - h0 + 1 = ((h + 1 : Nat) : Int) - h0 by omega]
              exact y1
            · omega
          · obtain ⟨K, r40, hK⟩ := s_40f (L := L) (C := C) (o := cd) ht ⟨by omega, sm1.2.2⟩
            have cK : cE T C K ∧ (∀ j, K 3 j = C 3 j) ∧ K 5 = C 5 ∧ 0 ≤ K T 13 ∧ K T 13 ≤ 400 := by
              rcases hK with rfl | ⟨c4, rfl⟩
              · exact ⟨cE_rf, fun _ => rfl, rfl, by omega, by omega⟩
              · exact ⟨cE_ad ht, fun j => by rw [adC_c (by omega) (by omega)], adC_c (by omega) (by omega), by rw [adC_8.2.2]; omega, by rw [adC_8.2.2]; omega⟩
            have s1 : ST K (adR R op vv) N T h := ST_cE s cK.1 rE_ad (fun j _ => cK.2.1 j) (fun j _ _ => by rw [adR_c (by omega) (by omega) (by omega)])
            have q5 : K 5 (h : Int) = u := by rw [cK.2.2.1, ← hty, hu.1]
            rcases pass_y (L := L) s1 q5 (by omega) with ⟨h4', _⟩ | ⟨-, p1, p2, p3⟩
            · omega
            · exact ⟨_, _, 0, st44 _ cd u K hcd r40 hu.2.1 hu.2.2 (pf _ _ _ _ _ _ p1 p3.1), r155 _ (bl_203_155 ⟨rfl, _, r198, _, 0, p2, fun q => absurd rfl q, fun _ => rfl⟩), cE_fl cK.1 ht, rE_fl rE_ad, by rw [flC_c (by omega)]; exact cK.2.2.2, Or.inr ⟨rfl, p3⟩⟩
        · -- no unit: SYNTAX
          obtain ⟨K, r40, hK⟩ := s_40f (L := L) (C := C) (o := ty) ht ⟨by omega, sm1.2.2⟩
          have cK : cE T C K ∧ (∀ j, K 3 j = C 3 j) ∧ K 5 = C 5 ∧ 0 ≤ K T 13 ∧ K T 13 ≤ 400 := by
            rcases hK with rfl | ⟨c4, rfl⟩
            · exact ⟨cE_rf, fun _ => rfl, rfl, by omega, by omega⟩
            · exact ⟨cE_ad ht, fun j => by rw [adC_c (by omega) (by omega)], adC_c (by omega) (by omega), by rw [adC_8.2.2]; omega, by rw [adC_8.2.2]; omega⟩
          have s1 : ST K R N T h := ST_cE s cK.1 rE_rf (fun j _ => cK.2.1 j) (fun j _ _ => rfl)
          have fl := ST_fl (n := 1) s1 (by omega)
          have h1 := ST_h s1
          have r29 := s_29n (L := L) (C := K) (t := 3) s1.2.2.1.1 h1.2.1 (by rw [s1.2.1.2.1, cK.2.2.1, ← hty]; omega)
          refine ⟨_, _, 0, st44 _ ty 3 K ⟨fun _ => rfl, fun q => by omega⟩ r40 (fun q => by omega) (fun _ => rfl) (pf _ _ _ _ _ _ r29 fl.1), ?_, cE_fl cK.1 ht, rE_fl rE_rf, by rw [flC_c (by omega)]; exact cK.2.2.2, Or.inr ⟨rfl, fl⟩⟩
          have so1 : ¬ R 147 (h : Int) = 1 := fun q => by have := so.2.2.1.mpr q; omega
          have fin : ∀ x, x < 0 → aX xc_203 (aSeek xc_203 99) [aR 145, aI (noW w : Int), aU, aI 1, aU] [aI x] (SH L) R ([aI 0], SH L, flR R 1) := fun x hx => bl_203_99 ⟨by omega, fun q => absurd q (by rw [b.2.2]; exact so1), fun _ => ⟨fun q => by omega, fun _ => ⟨_, 0, s_191 hh.2.2, Or.inl rfl, rfl⟩⟩⟩
          refine st203 _ ⟨by omega, fun _ => fin (-1) (by omega), fun q => ⟨by omega, R, _, ?_, fin (-1) (by omega)⟩⟩
          rw [b.2.2] at q ⊢
          obtain ⟨j, j24, ej, ew⟩ := so.2.2.2.2.2 (Classical.not_not.mp q)
          have cv2 := cm_var j j24
          have := s_202 (L := L) (R := R) (a := cmW (j : Int)) cv2.1
          rw [if_neg (fun z => by have := cv2.2.1.mp z; omega)] at this
          rw [ew]
          exact this
    | false =>
      have hlt := hd rfl
      have c44 : ∀ o, aX xc_44 (aSeek xc_44 69) [aR 3, aI (noW w : Int), aI 0, aI ((h : Int) - h0), aI ty] [] (SH L) C o → aX xc_44 (aSeek xc_44 11) [aR 3, aI (noW w : Int), aI (bi false), aI ((h : Int) - h0), aU] [] (SH L) C o := fun o x => bl_44_11 ⟨fun q => absurd q g0, fun _ => ⟨fun q => absurd f0 q, fun _ => ⟨C, ty, r26, fun _ => x, fun q => absurd rfl q⟩⟩⟩
      have smd : SM C R T cc0 rc0 (nbW w + 1) := sm
      have s8 := sg 8 (by omega)
      have s9 := sg 9 (by omega)
      have s6 := sg 6 (by omega)
      have s7 := sg 7 (by omega)
      have k42 : (42 : Int) = sgR 8 := by decide
      have k47 : (47 : Int) = sgR 9 := by decide
      have k43 : (43 : Int) = sgR 6 := by decide
      have k45 : (45 : Int) = sgR 7 := by decide
      have k41 : (41 : Int) = sgR 15 := by decide
      rw [← k42] at s8
      rw [← k47] at s9
      rw [← k43] at s6
      rw [← k45] at s7
      have wl : w.length ≤ 28 := by omega
      by_cases co : 6 ≤ ty ∧ ty ≤ 9
      · have rkt : rk ty = 1 ∧ (ty = 6 ∨ ty = 7) ∨ rk ty = 2 ∧ (ty = 8 ∨ ty = 9) := by
          unfold rk
          by_cases q : ty = 8 ∨ ty = 9
          · rw [if_pos q]; exact Or.inr ⟨rfl, q⟩
          · rw [if_neg q, if_pos (by omega)]; exact Or.inl ⟨rfl, by omega⟩
        obtain ⟨C', R', p1, p2, p3, p4, p5, p6, p7, p8, p9, p10, p11, p12⟩ := rel_pair (L := L) (k := rk ty) ht (by omega) w C R s.2.2.2.1 hw hv wl smd (by omega) (by omega)
        have rv := rel_wV (k := rk ty) w hv
        have rn := rel_no (k := rk ty) (by omega) w
        have rl2 := len_W (relW (rk ty) w)
        have rnb := nb_le _ rv.1
        have rtp := tp_le (w := relW (rk ty) w)
        have w28 : 0 ≤ C' 3 8 ∧ C' 3 8 < 28 := by rw [p3.1]; omega
        have w500 : 0 ≤ R' 145 54 ∧ R' 145 54 < 500 := by rw [p3.2.1]; omega
        have s1 : ST (awC C' ty) R' N T h := ST_cE s (cE_aw p7 ht) p8 (fun j hj => by rw [awC_3 (by omega), p9 j (by omega)]) (fun j j0 j1 => p10 j (by omega))
        have s2 : ST (awC C' ty) (awR R' (opq ty)) N T h := ST_cE s1 cE_rf (rE_aw rE_rf) (fun _ _ => rfl) (fun j j0 j1 => awR_1 (by omega))
        have q5 : (awC C' ty) 5 (h : Int) = ty := by rw [awC_c (by omega) (by omega), p7.1 5 (by omega) (by omega) (by omega) (by omega), ← hty]
        have st44 : ∀ o, aX xc_44 (aSeek xc_44 180) [aR 3, aI (noW w : Int), aI 1, aI ((h : Int) - h0), aI ty] [] (SH L) (awC C' ty) o → aX xc_44 (aSeek xc_44 11) [aR 3, aI (noW w : Int), aI (bi false), aI ((h : Int) - h0), aU] [] (SH L) C o := fun o r => c44 o (bl_44_69 ⟨fun _ => ⟨C, _, s_42, fun q => absurd q (by omega), fun _ => ⟨C, _, s_42, C', p1, _, s_39 w28, r⟩⟩, fun q => absurd rfl q⟩)
        -- the reference's road to its await
        have st203 : ∀ (o : aO), (∃ M2 v3, aE 193 [aR 145] (SH L) (awR R' (opq ty)) ([aI v3], SH L, M2) ∧ ((¬ v3 = 0 → aX xc_203 (aSeek xc_203 21) [aR 145, aI (noW w : Int), aI 1, aI 1, aU] [] (SH L) M2 o) ∧ (¬ (¬ v3 = 0) → o = ([aI 0], SH L, M2)))) → aX xc_203 (aSeek xc_203 21) [aR 145, aI (noW w : Int), aI (bi false), aI 1, aU] [] (SH L) R o := by
          intro o x
          have sg2 : ∀ tt : Int, 4 ≤ tt ∧ tt ≤ 15 → aE 194 [aR 145, aI (sgR tt)] (SH L) R' ([aI (bi (decide (ty = tt)))], SH L, R') := by
            intro tt h15
            have := s_194 (L := L) (R := R') (c := sgR tt) (by rw [p10 7 (by omega)]; exact hh.2.2)
            rw [p10 7 (by omega), b.2.2, p8.1 147 (by omega) (by omega) (by omega) (by omega) (by omega), p8.1 149 (by omega) (by omega) (by omega) (by omega) (by omega)] at this
            rw [show decide (ty = tt) = decide (R 147 (h : Int) = 2 ∧ R 149 (h : Int) = sgR tt) by rw [decide_eq_decide, hty]; exact tk_sign tk h15]
            exact this
          have t8 := sg2 8 (by omega)
          have t6 := sg2 6 (by omega)
          rw [← k42] at t8
          rw [← k43] at t6
          rw [bi_f]
          rcases rkt with ⟨rk1, ct⟩ | ⟨rk2, ct⟩
          · rw [bin (show ¬ ty = 8 by omega)] at s8
            rw [bin (show ¬ ty = 9 by omega)] at s9
            rw [rk1] at p2
            have k246 : aX xc_203 (aSeek xc_203 246) [aR 145, aI (noW w : Int), aU, aI 1, aU] [] (SH L) R o := by
              refine bl_203_246 ⟨R', p2, R', _, t6, fun q => ?_, fun q => ?_⟩
              · have e7 : ty = 7 := by have := bid0.mp q; omega
                rw [e7] at x
                exact bl_203_267 ⟨rfl, _, s_201 w500, x⟩
              · have e6 : ty = 6 := Classical.not_not.mp (fun z => q (bid0.mpr z))
                rw [e6] at x
                exact bl_203_267 ⟨rfl, _, s_201 w500, x⟩
            refine bl_203_21 ⟨fun q => absurd q (by omega), fun _ => ⟨fun _ => ⟨R, 0, s8, fun q => absurd rfl q, fun _ => ⟨R, 0, s9, fun _ => ⟨R, _, s6, fun _ => k246, fun q => ⟨R, _, s7, fun q2 => ?_, fun _ => k246⟩⟩, fun q => absurd rfl q⟩⟩, fun q => absurd rfl q⟩⟩
            have := bid0.mp (Classical.not_not.mp q)
            have := bid0.mp q2
            omega
          · rw [rk2] at p2
            have k190 : aX xc_203 (aSeek xc_203 190) [aR 145, aI (noW w : Int), aU, aI 1, aU] [] (SH L) R o := by
              refine bl_203_190 ⟨R', p2, R', _, t8, fun q => ?_, fun q => ?_⟩
              · have e9 : ty = 9 := by have := bid0.mp q; omega
                rw [e9] at x
                exact bl_203_211 ⟨rfl, _, s_201 w500, x⟩
              · have e8 : ty = 8 := Classical.not_not.mp (fun z => q (bid0.mpr z))
                rw [e8] at x
                exact bl_203_211 ⟨rfl, _, s_201 w500, x⟩
            refine bl_203_21 ⟨fun q => absurd q (by omega), fun _ => ⟨fun _ => ⟨R, _, s8, fun _ => k190, fun q => ⟨R, _, s9, fun q2 => ?_, fun _ => k190⟩⟩, fun q => absurd rfl q⟩⟩
            have := bid0.mp (Classical.not_not.mp q)
            have := bid0.mp q2
            omega
        have nw : nbW (ty :: relW (rk ty) w) = nbW (relW (rk ty) w) + 1 := by show (if ty = 14 then 0 else 1) + _ = _; rw [if_neg (by omega)]; omega
        have now : noW (ty :: relW (rk ty) w) = noW w := by show (if ty = 14 then 1 else 0) + noW (relW (rk ty) w) = _; rw [if_neg (by omega), rn.1]; omega
        rcases pass_y (L := L) s2 q5 (by omega) with ⟨h4, q1, q2, q3⟩ | ⟨h4, q1, q2, q3⟩
        · obtain ⟨C1, R1, v, y1, y2, y3⟩ := ih (h + 1) (ty :: relW (rk ty) w) true (nxC (awC C' ty)) (nxR (awR R' (opq ty))) (by omega) (by omega) q3 (WT_cg (WT_aw (t := ty) p3) (nxC_3 (by omega)) (nxR_1 (by omega)) (nxC_c (by omega)) (nxR_c (by omega))) ⟨Or.inr ⟨co.1, co.2, by omega⟩, rv.1⟩ (by rw [now]; exact no) (by
              rw [nw, if_pos rfl, Nat.add_zero]
              exact SM_cg p4 (by rw [nxC_c (by omega), awC_c (by omega) (by omega)]) (fun i _ => by rw [nxC_c (by omega), awC_c (by omega) (by omega)]) (by rw [nxR_c (by omega), awR_c (by omega) (by omega)]) (fun i _ => by rw [nxR_c (by omega), nxR_c (by omega), awR_c (by omega) (by omega), awR_c (by omega) (by omega)]; exact ⟨rfl, rfl⟩)) (by rw [nw, nxC_c (by omega), awC_c (by omega) (by omega)]; omega) (by rw [nw, nxR_c (by omega), awR_c (by omega) (by omega)]; omega) (fun q => by cases q)
          rw [now, bi_t] at y1 y2
          refine ⟨C1, R1, v, st44 _ (bl_44_180 ⟨_, 1, q1, ?_⟩), st203 _ ⟨_, 1, q2, fun _ => y2, fun q => absurd (by omega) q⟩, exE_st (cE_nx (cE_aw p7 ht) ht) (rE_nx (rE_aw p8)) y3⟩
          rw [aWi (z := (h : Int) - h0 + 1) (by omega) (by omega), show (h : Int) - h0 + 1 = ((h + 1 : Nat) : Int) - h0 by omega]
          exact y1
        · exact ⟨_, _, 0, st44 _ (pf _ _ _ _ _ _ q1 q3.1), st203 _ ⟨_, 0, q2, fun q => absurd rfl q, fun _ => rfl⟩, cE_fl (cE_aw p7 ht) ht, rE_fl (rE_aw p8), by rw [flC_c (by omega), awC_c (by omega) (by omega)]; have := p4.1; omega, Or.inr ⟨rfl, q3⟩⟩
      · have rk0 : rk ty = 0 := by
          unfold rk
          rw [if_neg (by omega), if_neg (by omega)]
        rw [bin (show ¬ ty = 8 by omega)] at s8
        rw [bin (show ¬ ty = 9 by omega)] at s9
        rw [bin (show ¬ ty = 6 by omega)] at s6
        rw [bin (show ¬ ty = 7 by omega)] at s7
        have st203 : ∀ (o : aO), (((noW w : Int) ≤ 0 → aX xc_203 (aSeek xc_203 21) [aR 145, aI (noW w : Int), aI 0, aI 0, aU] [] (SH L) R o) ∧ (¬ ((noW w : Int) ≤ 0) → (∃ (M10 : aM) (v11 : Int), aE 194 [aR 145, aI 41] (SH L) R ([aI v11], SH L, M10) ∧ ((¬ v11 = 0 → (∃ (M12 : aM) (v13 : Int), aE 193 [aR 145] (SH L) M10 ([aI v13], SH L, M12) ∧ ((¬ v13 = 0 → (∃ (M14 : aM), aE 200 [aR 145, aI 1, aI 0] (SH L) M12 ([], SH L, M14) ∧ aX xc_203 (aSeek xc_203 21) [aR 145, aI (aW ((noW w : Int) + (-1))), aI 0, aI 1, aU] [] (SH L) (aSet M14 145 54 (aW ((M14 145 54) - 1))) o)) ∧ (¬ (¬ v13 = 0) → o = ([aI 0], SH L, M12))))) ∧ (¬ (¬ v11 = 0) → (∃ (M15 : aM) (v16 : Int), aE 191 [aR 145, aI 1] (SH L) M10 ([aI v16], SH L, M15) ∧ ((v16 : Int) = 0 ∨ (v16 : Int) = 1) ∧ o = ([aI v16], SH L, M15))))))) → aX xc_203 (aSeek xc_203 21) [aR 145, aI (noW w : Int), aI (bi false), aI 1, aU] [] (SH L) R o := by
          intro o x
          rw [bi_f]
          exact bl_203_21 ⟨fun q => absurd q (by omega), fun _ => ⟨fun _ => ⟨R, 0, s8, fun q => absurd rfl q, fun _ => ⟨R, 0, s9, fun _ => ⟨R, 0, s6, fun q => absurd rfl q, fun _ => ⟨R, 0, s7, fun _ => x, fun q => absurd rfl q⟩⟩, fun q => absurd rfl q⟩⟩, fun q => absurd rfl q⟩⟩
        by_cases n0 : noW w = 0
        · -- the E ends
          obtain ⟨C', R', p1, p2, p3, p4, p5, p6, p7, p8, p9, p10, p11, p12⟩ := rel_pair (L := L) (k := 1) ht (by omega) w C R s.2.2.2.1 hw hv wl smd (by omega) (by omega)
          rw [rel_0 w hv n0] at p3 p4 p5 p6
          have p5' : C' T 13 = C T 13 + nbW w := by have : C' T 13 + ((0 : Nat) : Int) = C T 13 + nbW w := p5; omega
          have p6' : R' 169 1 = R 169 1 + nbW w := by have : R' 169 1 + ((0 : Nat) : Int) = R 169 1 + nbW w := p6; omega
          have s1 : ST C' R' N T h := ST_cE s p7 p8 (fun j hj => p9 j (by omega)) (fun j j0 j1 => p10 j (by omega))
          refine ⟨C', R', 1, c44 _ (bl_44_69 ⟨fun _ => ⟨C, _, s_42, fun _ => ⟨C', p1, fun q => absurd (by omega) q, fun _ => rfl⟩, fun q => absurd (by omega) q⟩, fun q => absurd rfl q⟩), st203 _ ⟨fun _ => bl_203_21 ⟨fun _ => ⟨R', p2, rfl⟩, fun q => absurd rfl q⟩, fun q => absurd (by omega) q⟩, p7, p8, by have := p4.1; omega, Or.inl ⟨rfl, h, hlt, s1, by omega, by omega, by omega, fun vr base z hb => ?_⟩⟩
          obtain ⟨l, z', hl, e1, e2⟩ := p4.2.2 vr base z hb
          have : l.length = 1 := hl
          cases l with
          | nil => cases this
          | cons v r =>
            cases r with
            | nil => exact ⟨v, z', e1, e2⟩
            | cons _ _ => rw [List.length_cons, List.length_cons] at this; omega
        · -- a ) is due
          have s15 := sg 15 (by omega)
          rw [← k41] at s15
          obtain ⟨r, er, nr⟩ := rel_o w hv (by omega)
          have rv := rel_wV (k := 1) w hv
          rw [er] at rv
          have rn := rel_no (k := 1) (by omega) w
          rw [er] at rn
          have nbr : nbW r ≤ nbW w := by have a : (if (14 : Int) = 14 then 0 else 1) + nbW r ≤ nbW w := rn.2; rw [if_pos rfl] at a; omega
          -- the class's way to its pass
          have cls : ∀ (C' : aM) (o : aO), aE 43 [aR 3, aI 1] (SH L) C ([], SH L, C') → C' 3 8 = ((14 :: r).length : Int) → aX xc_44 (aSeek xc_44 180) [aR 3, aI (aW ((noW w : Int) + -1)), aI 0, aI ((h : Int) - h0), aI 15] [] (SH L) (aSet C' 3 8 (r.length : Int)) o → aX xc_44 (aSeek xc_44 11) [aR 3, aI (noW w : Int), aI (bi false), aI ((h : Int) - h0), aU] [] (SH L) C o := by
            intro C' o p1 e8 x
            rw [List.length_cons] at e8
            have rl3 := len_W r
            have lr := len_W (14 :: r)
            refine c44 _ (bl_44_69 ⟨fun _ => ⟨C, _, s_42, fun _ => ⟨C', p1, fun _ => ?_, fun q => absurd (fun z => n0 (by omega)) q⟩, fun q => absurd (by omega) q⟩, fun q => absurd rfl q⟩)
            have nn := nb_le r rv.1.2
            have tt := tp_le (w := r)
            rw [e8, aWi (z := ((r.length + 1 : Nat) : Int) - 1) (by omega) (by omega), show max 0 (((r.length + 1 : Nat) : Int) - 1) = (r.length : Int) by omega]
            exact x
          by_cases c15 : ty = 15
          · rw [bip c15] at s15
            have hwn : WT C (nxR R) w := WT_cg hw rfl (nxR_1 (by omega)) rfl (nxR_c (by omega))
            have smn : SM C (nxR R) T cc0 rc0 (nbW w + 1) := SM_cg smd rfl (fun _ _ => rfl) (by rw [nxR_c (by omega)]) (fun i _ => by rw [nxR_c (by omega), nxR_c (by omega)]; exact ⟨rfl, rfl⟩)
            obtain ⟨C', R', p1, p2, p3, p4, p5, p6, p7, p8, p9, p10, p11, p12⟩ := rel_pair (L := L) (k := 1) ht (by omega) w C (nxR R) s.2.2.2.1 hwn hv wl smn (by omega) (by rw [nxR_c (by omega)]; omega)
            rw [er] at p3 p4 p5 p6
            have nb14 : nbW (14 :: r) = nbW r := by show (if (14 : Int) = 14 then 0 else 1) + nbW r = _; rw [if_pos rfl]; omega
            rw [nb14] at p4 p5 p6
            obtain ⟨K, hK⟩ : ∃ K, K = aSet C' 3 8 (r.length : Int) := ⟨_, rfl⟩
            have cK : cE T C K := by rw [hK]; exact cE_3 p7 (by omega) ht
            have k3 : ∀ j, j ≠ 8 → K 3 j = C 3 j := fun j hj => by rw [hK, aSet_i hj, p9 j hj]
            have s1 : ST K R N T h := ST_cE s cK rE_rf (fun j hj => k3 j (by omega)) (fun _ _ _ => rfl)
            have q5 : K 5 (h : Int) = 15 := by rw [cK.1 5 (by omega) (by omega) (by omega) (by omega), ← hty]; exact c15
            rcases pass_y (L := L) s1 q5 (by omega) with ⟨h4, q1, q2, q3⟩ | ⟨h4, q1, q2, q3⟩
            · obtain ⟨Q, hQ⟩ : ∃ Q, Q = aSet R' 145 54 (r.length : Int) := ⟨_, rfl⟩
              have rQ : rE (nxR R) Q := by rw [hQ]; exact rE_1 p8 (by omega)
              have e54 : aSet R' 145 54 (aW (R' 145 54 - 1)) = Q := by
                have rl3 := len_W r
                have nn := nb_le r rv.1.2
                have tt := tp_le (w := r)
                rw [hQ, p3.2.1, List.length_cons, aWi (by omega) (by omega), show ((r.length + 1 : Nat) : Int) - 1 = (r.length : Int) by omega]
              have s2 : ST (nxC K) Q N T (h + 1) := ST_cE q3 cE_rf rQ (fun _ _ => rfl) (fun j j0 j1 => by rw [hQ, aSet_i (by omega), p10 j (by omega)])
              have kT : K T = C' T := by rw [hK, aSet_c (by omega)]
              have kT8 : K (T + 8) = C' (T + 8) := by rw [hK, aSet_c (by omega)]
              obtain ⟨C1, R1, v, y1, y2, y3⟩ := ih (h + 1) r false (nxC K) Q (by omega) (by omega) s2 ⟨by rw [nxC_3 (by omega), hK, aSet_e], by rw [hQ, aSet_e], wtV_cg r p3.2.2.2.2 (fun i _ => ⟨by rw [nxC_c (by omega), hK, aSet_c (by omega)], by rw [hQ, aSet_c (by omega)]⟩)⟩ rv.1.2 (by omega) (by
                  refine SM_cg p4 ?_ (fun i _ => ?_) ?_ (fun i _ => ?_)
                  · rw [nxC_c (by omega), kT]
                  · rw [nxC_c (by omega), kT8]
                  · rw [hQ, aSet_c (by omega)]
                  · rw [hQ, aSet_c (by omega), aSet_c (by omega)]; exact ⟨rfl, rfl⟩) (by rw [nxC_c (by omega), kT]; omega) (by rw [hQ, aSet_c (by omega)]; rw [nxR_c (by omega)] at p6; omega) (fun _ => by omega)
              rw [bi_f] at y1 y2
              have no1 : aW ((noW w : Int) + -1) = (noW r : Int) := by rw [aWi (by omega) (by omega)]; omega
              refine ⟨C1, R1, v, cls C' _ p1 p3.1 (by rw [← hK]; exact bl_44_180 ⟨_, 1, q1, by rw [no1, aWi (z := (h : Int) - h0 + 1) (by omega) (by omega), show (h : Int) - h0 + 1 = ((h + 1 : Nat) : Int) - h0 by omega]; exact y1⟩), st203 _ ⟨fun q => absurd q (by omega), fun _ => ⟨R, 1, s15, fun _ => ⟨_, 1, q2, fun _ => ⟨R', p2, by rw [e54, no1]; exact y2⟩, fun q => absurd (by omega) q⟩, fun q => absurd (by omega) q⟩⟩, exE_st (cE_nx cK ht) (rE_tr (rE_nx rE_rf) rQ) y3⟩
            · refine ⟨_, _, 0, cls C' _ p1 p3.1 (by rw [← hK]; exact pf _ _ _ _ _ _ q1 q3.1), st203 _ ⟨fun q => absurd q (by omega), fun _ => ⟨R, 1, s15, fun _ => ⟨_, 0, q2, fun q => absurd rfl q, fun _ => rfl⟩, fun q => absurd (by omega) q⟩⟩, cE_fl cK ht, rE_fl rE_rf, ?_, Or.inr ⟨rfl, q3⟩⟩
              rw [flC_c (by omega), hK, aSet_c (by omega)]
              have := p4.1
              omega
          · rw [bin c15] at s15
            obtain ⟨C', R', p1, p2, p3, p4, p5, p6, p7, p8, p9, p10, p11, p12⟩ := rel_pair (L := L) (k := 1) ht (by omega) w C R s.2.2.2.1 hw hv wl smd (by omega) (by omega)
            rw [er] at p3
            obtain ⟨K, hK⟩ : ∃ K, K = aSet C' 3 8 (r.length : Int) := ⟨_, rfl⟩
            have cK : cE T C K := by rw [hK]; exact cE_3 p7 (by omega) ht
            have k3 : ∀ j, j ≠ 8 → K 3 j = C 3 j := fun j hj => by rw [hK, aSet_i hj, p9 j hj]
            have s1 : ST K R N T h := ST_cE s cK rE_rf (fun j hj => k3 j (by omega)) (fun _ _ _ => rfl)
            have fl := ST_fl (n := 1) s1 (by omega)
            have h1 := ST_h s1
            have r29 := s_29n (L := L) (C := K) (t := 15) s1.2.2.1.1 h1.2.1 (by rw [s1.2.1.2.1, cK.1 5 (by omega) (by omega) (by omega) (by omega), ← hty]; exact c15)
            refine ⟨_, _, 0, cls C' _ p1 p3.1 (by rw [← hK]; exact pf _ _ _ _ _ _ r29 fl.1), st203 _ ⟨fun q => absurd q (by omega), fun _ => ⟨R, 0, s15, fun q => absurd rfl q, fun _ => ⟨_, 0, s_191 hh.2.2, Or.inl rfl, rfl⟩⟩⟩, cE_fl cK ht, rE_fl rE_rf, ?_, Or.inr ⟨rfl, fl⟩⟩
            rw [flC_c (by omega), hK, aSet_c (by omega)]
            have := p4.1
            omega
theorem ex_pair {N h : Nat} {T : Int} (s : ST C R N T h) (cb : 0 ≤ C T 13 ∧ C T 13 ≤ h) (rb : 0 ≤ R 169 1 ∧ R 169 1 ≤ h) : ∃ C1 R1 v, aE 44 [aR 3] (SH L) C ([], SH L, C1) ∧ aE 203 [aR 145] (SH L) R ([aI v], SH L, R1) ∧ exE C (aSet R 145 56 (R 169 1)) C1 R1 N T h (C T 13) (R 169 1) v := by
  have ht := s.2.2.2.2
  have t := tx_le ht
  have hh := ST_h s
  obtain ⟨K, hK⟩ : ∃ K, K = aSet C 3 8 0 := ⟨_, rfl⟩
  obtain ⟨Q, hQ⟩ : ∃ Q, Q = aSet (aSet R 145 56 (R 169 1)) 145 54 0 := ⟨_, rfl⟩
  have cK : cE T C K := by rw [hK]; exact cE_3 cE_rf (by omega) ht
  have rQ : rE (aSet R 145 56 (R 169 1)) Q := by rw [hQ]; exact rE_1 rE_rf (by omega)
  have s0 : ST C (aSet R 145 56 (R 169 1)) N T h := ST_cg s (fun _ _ _ => rfl) (fun a x y => aSet_c (by omega)) (fun _ _ => rfl) (fun j x y => aSet_i (by omega))
  have s1 : ST K Q N T h := ST_cE s0 cK rQ (fun j hj => by rw [hK, aSet_i (by omega)]) (fun j j0 j1 => by rw [hQ, aSet_i (by omega)])
  have kT : K T = C T := by rw [hK, aSet_c (by omega)]
  have q1 : Q 169 = R 169 := by rw [hQ, aSet_c (by omega), aSet_c (by omega)]
  have sm : SM K Q T (C T 13) (R 169 1) 0 := by
    unfold SM
    rw [kT, q1]
    refine ⟨by omega, by omega, fun vr base z hb => ⟨[], z, rfl, ?_, ?_⟩⟩
    · rw [show (C T 13 - C T 13).toNat = 0 by omega]; rfl
    · rw [show (R 169 1 - R 169 1).toNat = 0 by omega]; exact Or.inl ⟨rfl, rfl⟩
  obtain ⟨C1, R1, v, y1, y2, y3⟩ := ex_loop (L := L) (cc0 := C T 13) (rc0 := R 169 1) (by omega) (by omega) (401 - h) h [] true K Q (by omega) (Nat.le_refl _) s1 ⟨by rw [hK, aSet_e]; rfl, by rw [hQ, aSet_e]; rfl, trivial⟩ trivial (by decide) sm (by rw [kT]; show C T 13 + ((0 : Nat) : Int) ≤ _; omega) (by rw [q1]; show R 169 1 + ((0 : Nat) : Int) ≤ _; omega) (fun q => by cases q)
  rw [show (h : Int) - h = 0 by omega, bi_t] at y1
  rw [bi_t] at y2
  refine ⟨C1, R1, v, en_44 (by rw [← hK]; exact y1), en_203 (by rw [← hQ]; exact y2), exE_st cK rQ y3⟩
end EXP1
