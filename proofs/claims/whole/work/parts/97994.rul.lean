/-! reading: the TELL rule -/
section RUL
variable {L : Nat} {C R C1 R1 C2 R2 K Q : aM}
theorem c48 {T r v w : Int} {M1 M3 M5 : aM} (ht : isTx T) (t0 : C 3 3 = T) (cr : C T 16 = r) (r0 : 0 ≤ r ∧ r < 6) (e1 : aE 29 [aR 3, aI 35] (SH L) C ([aI v], SH L, M1)) (e2 : aE 29 [aR 3, aI 36] (SH L) M1 ([aI w], SH L, M3)) (t3 : M3 3 3 = T) (e3 : aE 47 [aR 3] (SH L) (aSet M3 (T + 9) r (M3 T 13)) ([], SH L, M5)) (t5 : M5 3 3 = T) (r5 : M5 T 16 = r) : aE 48 [aR 3] (SH L) C ([], SH L, aSet (aSet M5 (T + 10) r (M5 T 13)) T 16 (r + 1)) := by
  have t := tx_le ht
  have t19 : aK (SH L) T = 19 := (tx ht).1
  have f17 : aF (SH L) T 17 = T + 9 := (tx ht).2.2.2.2.2.2.2.2.2.1
  have f18 : aF (SH L) T 18 = T + 10 := (tx ht).2.2.2.2.2.2.2.2.2.2.1
  have n9 : aLn (SH L) 1 (T + 9) = 6 := by rcases ht with rfl | rfl <;> rfl
  have n10 : aLn (SH L) 1 (T + 10) = 6 := by rcases ht with rfl | rfl <;> rfl
  have u1 : (aSet M5 (T + 10) r (M5 T 13)) 3 3 = T := by rw [aSet_c (by omega), t5]
  have u2 : (aSet M5 (T + 10) r (M5 T 13)) T 16 = r := by rw [aSet_c (by omega), r5]
  refine en_48 ?_
  rw [t0, cr]
  refine ⟨t19, fun _ => ⟨M1, v, e1, M3, w, e2, by rw [t3]; exact t19, by rw [t3]; exact t19, by rw [t3, f17, n9]; exact r0, M5, by rw [t3, f17]; exact e3, ?_⟩, fun q => absurd r0.2 q⟩
  rw [t5, f18, n10, u1, u2, aWi (z := r + 1) (by omega) (by omega)]
  exact ⟨t19, t19, r0, t19, t19, rfl⟩
theorem af47 {T : Int} (h : FT C R T) : aE 47 [aR 3] (SH L) C ([], SH L, C) := en_47 (bl_47_6 ⟨fun q => absurd q (by omega), fun _ => ⟨fun _ => rfl, fun q => absurd h.1 q⟩⟩)
theorem tell_rule {N h : Nat} {T : Int} (d : RD C R N T h) (q : C 5 (h : Int) = 35) : ∃ C1 R1 v, aE 48 [aR 3] (SH L) C ([], SH L, C1) ∧ aE 210 [aR 145] (SH L) R ([aI v], SH L, R1) ∧ bdE C R C1 R1 N T h v := by
  have s := d.1
  have ht := s.2.2.2.2
  have t := tx_le ht
  have hN := s.1.1
  have l167 : aLn (SH L) 1 167 = 12 := rfl
  have l168 : aLn (SH L) 1 168 = 12 := rfl
  obtain ⟨r, cr⟩ : ∃ r, r = C T 16 := ⟨_, rfl⟩
  have r01 := d.2.2.2.2.2.2.2.1.1
  rw [← cr] at r01
  by_cases hr : r < 6
  · -- behind a FAULT
    have flt : ∀ {M1 M3 Q : aM} {v w : Int}, aE 29 [aR 3, aI 35] (SH L) C ([aI v], SH L, M1) → aE 29 [aR 3, aI 36] (SH L) M1 ([aI w], SH L, M3) → FT M3 Q T → nL C M3 → nM R Q → aE 210 [aR 145] (SH L) R ([aI 0], SH L, Q) → ∃ C1 R1 v, aE 48 [aR 3] (SH L) C ([], SH L, C1) ∧ aE 210 [aR 145] (SH L) R ([aI v], SH L, R1) ∧ bdE C R C1 R1 N T h v := by
      intro M1 M3 Q v w e1 e2 ft n1 n2 z
      have ft2 : FT (aSet M3 (T + 9) r (M3 T 13)) Q T := FT_T ft (by omega)
      exact ⟨_, Q, 0, c48 ht s.2.2.2.1 cr.symm ⟨r01.1, hr⟩ e1 e2 ft.2.2.2.2.1 (af47 ft2) ft2.2.2.2.2.1 (by rw [aSet_c (by omega), n1.1 T (by omega), ← cr]), z, cZ_tr (cZ_nL n1) (cZ_tr (cZ_s (by omega)) (cZ_tr (cZ_s (by omega)) (cZ_s (by omega)))), rZ_nM n2, Or.inr ⟨rfl, FT_T (FT_T ft2 (by omega)) (by omega)⟩⟩
    rcases pass_y (L := L) s q (by omega) with ⟨h4, p1, p2, p3⟩ | ⟨h4, p1, p2, p3⟩
    · have d1 := RD_nx d p3
      have hh := ST_h p3
      have tk := (ST_tk p3).1
      have sg := tk_word (t := 20) tk (by omega)
      rw [show cmW ((20 : Nat) : Int) = 8 by decide] at sg
      have r8_ := s_195 (L := L) (R := nxR R) (c := 8) hh.2.2
      rw [p3.2.1.2.2] at r8_
      by_cases c5 : (nxC C) 5 ((h + 1 : Nat) : Int) = 36
      · rw [bip (sg.mp (by omega))] at r8_
        rcases pass_y (L := L) p3 c5 (by omega) with ⟨g4, y1, y2, y3⟩ | ⟨g4, y1, y2, y3⟩
        · have d2 := RD_nx d1 y3
          obtain ⟨C2, hC2⟩ : ∃ C2, C2 = nxC (nxC C) := ⟨_, rfl⟩
          obtain ⟨R2, hR2⟩ : ∃ R2, R2 = nxR (nxR R) := ⟨_, rfl⟩
          rw [← hC2, ← hR2] at d2
          rw [← hC2] at y1
          rw [← hR2] at y2
          have s2 := d2.1
          have bg := d2.2.2.1
          have r2 : C2 T 16 = r := by rw [hC2, nxC_c (by omega), nxC_c (by omega), ← cr]
          obtain ⟨Ca, hCa⟩ : ∃ Ca, Ca = aSet C2 (T + 9) r (C2 T 13) := ⟨_, rfl⟩
          have caT : Ca T = C2 T := by rw [hCa, aSet_c (by omega)]
          have sa : ST Ca R2 N T (h + 1 + 1) := by rw [hCa]; exact (SL_c s2 d2.2.1 (by omega)).1
          obtain ⟨C1, R1, v, e1, e2, x1, x2, x3, x4⟩ := cd_pair (L := L) sa (by rw [caT]; exact bg.1) bg.2.1 bg.2.2
          rw [caT] at x4
          obtain ⟨R3, hR3⟩ : ∃ R3, R3 = aSet R2 145 57 (R2 172 1) := ⟨_, rfl⟩
          rw [← hR3] at x2
          have e3 : ∀ a, a ≠ 145 → R3 a = R2 a := fun a ha => by rw [hR3, aSet_c ha]
          have e3j : ∀ j, j ≠ 57 → R3 145 j = R2 145 j := fun j hj => by rw [hR3, aSet_i hj]
          have d3 : RD C2 R3 N T (h + 1 + 1) := RD_w d2 (Nat.le_refl _) (ST_cg s2 (fun _ _ _ => rfl) (fun a x y => e3 a (by omega)) (fun _ _ => rfl) (fun j x y => e3j j (by omega))) (by
            have l2 := d2.2.1
            unfold LT LN at l2 ⊢
            rw [e3j 10 (by omega), e3j 11 (by omega)]
            exact l2) (fun _ _ _ => rfl) (fun _ _ _ => rfl) (fun a x y => e3 a (by omega)) (KD_cg d2.2.2.2.1 (fun q => q) rfl (fun _ _ _ => rfl) (fun a x y => e3 a (by omega))) (FD_cg d2.2.2.2.2.1 (fun q => q) (fun _ _ _ => rfl) (fun a x => e3 a (by omega))) (WD_cg d2.2.2.2.2.2.1 (fun q => q) rfl (fun _ _ _ => rfl) (fun a x y => e3 a (by omega)))
          have rk : rK R3 R1 := x2
          have r57 : R1 145 57 = R3 172 1 := by rw [x2.2.1 57 (by omega) (by omega), hR3, aSet_e, aSet_c (by omega)]
          have bg := d3.2.2.1
          rw [← e3 172 (by omega), ← e3 169 (by omega)] at x4
          have c33 : C1 3 3 = T := by
            rcases x4 with ⟨-, h1, -, s1, -⟩ | ⟨-, ft⟩
            · exact s1.2.2.2.1
            · exact ft.2.2.2.2.1
          have c16 : C1 T 16 = r := by rw [x1.2.1 16 (by omega), caT, r2]
          have q166 : R1 166 1 = r := by rw [rk.1 166 (by omega) (by omega) (by omega), e3 166 (by omega), hR2, nxR_c (by omega), nxR_c (by omega), r01.2.2]
          have run := c48 (L := L) ht s.2.2.2.1 cr.symm ⟨r01.1, hr⟩ p1 y1 s2.2.2.2.1 (by rw [← hCa]; exact e1) c33 c16
          have cz0 : cZ T C C2 := by rw [hC2]; exact cZ_nL (nL_tr nL_nx nL_nx)
          have rz0 : rZ R R2 := by rw [hR2]; exact rZ_nM (nM_tr nM_nx nM_nx)
          have cz : cZ T C (aSet (aSet C1 (T + 10) r (C1 T 13)) T 16 (r + 1)) := cZ_tr cz0 (cZ_tr (by rw [hCa]; exact cZ_s (by omega)) (cZ_tr (cZ_E x1) (cZ_tr (cZ_s (by omega)) (cZ_s (by omega)))))
          have rz : rZ R R1 := rZ_tr rz0 (rZ_tr (by rw [hR3]; exact rZ_s (by unfold zR; omega)) (rZ_K rk bg.2.1.1 bg.2.2.1))
          have ea : aW (6 + r) = 6 + r := aWi (by omega) (by omega)
          have eb : aW (r + 1) = r + 1 := aWi (by omega) (by omega)
          obtain ⟨Q, hQ⟩ : ∃ Q, Q = aSet (aSet (aSet R1 167 (6 + r) (R3 172 1)) 168 (6 + r) (R1 172 1)) 166 1 (r + 1) := ⟨_, rfl⟩
          have run2 : ∀ o, ((¬ v = 0 → o = ([aI 1], SH L, Q)) ∧ (¬ (¬ v = 0) → o = ([aI 0], SH L, R1))) → aE 210 [aR 145] (SH L) R o := by
            intro o z
            refine en_210 ⟨fun _ => ⟨_, 1, p2, fun _ => ⟨_, 1, r8_, fun _ => ⟨R2, 1, y2, fun q => absurd q (by omega), fun _ => ⟨R1, v, e2, fun u => ?_, z.2⟩⟩, fun q => absurd (by omega) q⟩, fun q => absurd (by omega) q⟩, fun q => absurd (by omega) q⟩
            have w1 : (aSet R1 167 (6 + r) (R3 172 1)) 166 1 = r := by rw [aSet_c (by omega), q166]
            have w2 : (aSet (aSet R1 167 (6 + r) (R3 172 1)) 168 (6 + r) (R1 172 1)) 166 1 = r := by rw [aSet_c (by omega), w1]
            rw [q166, ea, r57, w1, ea, aSet_c (show (172 : Int) ≠ 167 by omega), w2, eb, ← hQ]
            exact ⟨by omega, by omega, z.1 u⟩
          rcases x4 with ⟨v1, h1, hh1, s1, b1, b2, b4, nl_, ev⟩ | ⟨v0, ft⟩
          · obtain ⟨K, hK⟩ : ∃ K, K = aSet (aSet C1 (T + 10) r (C1 T 13)) T 16 (r + 1) := ⟨_, rfl⟩
            have kc : ∀ a, a ≠ T → a ≠ T + 10 → K a = C1 a := fun a ha hb => by rw [hK, aSet_c ha, aSet_c hb]
            have kj : ∀ j, j ≠ 16 → K T j = C1 T j := fun j hj => by rw [hK, aSet_i hj, aSet_c (by omega)]
            have qc : ∀ a, a ≠ 166 → a ≠ 167 → a ≠ 168 → Q a = R1 a := fun a x y z => by rw [hQ, aSet_c x, aSet_c z, aSet_c y]
            have c1j : ∀ j, j ≠ 13 → C1 T j = C2 T j := fun j x => by rw [x1.2.1 j x, caT]
            have c1a : ∀ a, a ≠ 3 → a ≠ 8 → a ≠ T → a ≠ T + 8 → a ≠ T + 9 → C1 a = C2 a := fun a x y z w u => by rw [x1.1 a x y z w, hCa, aSet_c u]
            have c13 : ∀ j, j ≠ 0 → j ≠ 1 → j ≠ 4 → j ≠ 8 → C1 3 j = C2 3 j := fun j x y z w => by rw [x1.2.2.2.1 j x y z w, hCa, aSet_c (by omega)]
            have c8 : ∀ i, i < C2 T 13 → K (T + 8) i = C2 (T + 8) i := fun i hi => by rw [kc (T + 8) (by omega) (by omega), x1.2.2.1 i (by rw [caT]; exact hi), hCa, aSet_c (by omega)]
            have c9 : C1 (T + 9) = Ca (T + 9) := x1.1 _ (by omega) (by omega) (by omega) (by omega)
            have li := d3.2.2.2.2.2.2.2.2.1
            have ru := d3.2.2.2.2.2.2.2.1
            have gd := GD_cg (C1 := K) (R1 := Q) d3.2.2.2.2.2.2.1 ⟨by rw [kj 14 (by omega), c1j 14 (by omega)], by rw [kj 15 (by omega), c1j 15 (by omega)], by rw [kj 13 (by omega)]; omega⟩ c8 ⟨by rw [qc 164 (by omega) (by omega) (by omega), rk.1 164 (by omega) (by omega) (by omega)], by rw [qc 165 (by omega) (by omega) (by omega), rk.1 165 (by omega) (by omega) (by omega)], by rw [qc 169 (by omega) (by omega) (by omega)]; exact rk.2.2.2.2.2.1⟩ (fun i hi => by rw [qc 170 (by omega) (by omega) (by omega), qc 171 (by omega) (by omega) (by omega)]; exact rk.2.2.2.1 i hi)
            have li1 : LI R1 := by
              intro k k0 k1
              by_cases c : k < R3 172 1
              · obtain ⟨a, b⟩ := li k k0 c
                have := rK_li rk k0 c a
                exact ⟨this.2.2.2, this.2.2.1 b⟩
              · exact nl_ k (by omega) k1
            have shQ : ∀ a, 170 ≤ a → a ≤ 178 → shR Q a = shR R1 a := fun a ha hb => by funext b; unfold shR; rw [qc a (by omega) (by omega) (by omega)]
            have q172 : Q 172 1 = R1 172 1 := by rw [qc 172 (by omega) (by omega) (by omega)]
            have ruK : RU K Q T := by
              have ru1 := ru.1
              have e16 : K T 16 = r + 1 := by rw [hK, aSet_e]
              have e66 : Q 166 1 = r + 1 := by rw [hQ, aSet_e]
              have k10 : K (T + 10) r = C1 T 13 := by rw [hK, aSet_c (by omega), aSet_e]
              have k9 : K (T + 9) r = C2 T 13 := by rw [kc (T + 9) (by omega) (by omega), c9, hCa, aSet_e]
              have q7 : Q 167 (6 + r) = R3 172 1 := by rw [hQ, aSet_c (by omega), aSet_c (by omega), aSet_e]
              have q8 : Q 168 (6 + r) = R1 172 1 := by rw [hQ, aSet_c (by omega), aSet_e]
              have k13 : K T 13 = C1 T 13 := kj 13 (by omega)
              refine ⟨by omega, fun j j0 j1 => ?_⟩
              rw [e16] at j1
              by_cases c : j = r
              · subst c
                rw [k9, k10, k13, q7, q8, q172]
                have := bg.1
                have := bg.2.2
                refine ⟨by omega, by omega, fun vr => ?_⟩
                rw [hdV_cg shQ, kc (T + 8) (by omega) (by omega)]
                exact ev vr
              · have k10j : K (T + 10) j = C2 (T + 10) j := by rw [hK, aSet_c (by omega), aSet_i c, c1a (T + 10) (by omega) (by omega) (by omega) (by omega) (by omega)]
                have k9j : K (T + 9) j = C2 (T + 9) j := by rw [kc (T + 9) (by omega) (by omega), c9, hCa, aSet_i c]
                have q7j : Q 167 (6 + j) = R3 167 (6 + j) := by rw [hQ, aSet_c (by omega), aSet_c (by omega), aSet_i (by omega), rk.1 167 (by omega) (by omega) (by omega)]
                have q8j : Q 168 (6 + j) = R3 168 (6 + j) := by rw [hQ, aSet_c (by omega), aSet_i (by omega), aSet_c (by omega), rk.1 168 (by omega) (by omega) (by omega)]
                obtain ⟨y1, y2, y3⟩ := ru.2 j j0 (by omega)
                rw [k9j, k10j, k13, q7j, q8j, q172]
                refine ⟨by omega, by omega, fun vr => ?_⟩
                rw [hdV_cg shQ, evS_cg (cd := K (T + 8)) (cd' := C2 (T + 8)) _ _ _ _ (fun i i0 i1 => c8 i (by omega)), y3 vr]
                congr 2
                congr 1
                exact (hdV_rng (fun i i0 i1 => by
                  have l := li i (by omega) (by omega)
                  have := rK_li rk (by omega) (by omega) l.1
                  exact ⟨this.1 vr, this.2.1⟩)).symm
            have nw : RD K Q N T h1 := by
              refine RD_x d3 (by omega) (ST_cg s1 (fun a x y => kc a (by omega) (by omega)) (fun a x y => qc a (by omega) (by omega) (by omega)) (fun j _ => by rw [kc 3 (by omega) (by omega)]) (fun j _ _ => by rw [qc 145 (by omega) (by omega) (by omega)])) (fun a x y z => by rw [kc a (by omega) (by omega), c1a a x y (by omega) (by omega) (by omega)]) (fun j hj => by rw [kj j (by omega), c1j j (by omega)]) ⟨by rw [kc 3 (by omega) (by omega), c13 5 (by omega) (by omega) (by omega) (by omega)], by rw [kc 3 (by omega) (by omega), c13 6 (by omega) (by omega) (by omega) (by omega)]⟩ (fun a x y => by rw [qc a (by omega) (by omega) (by omega), rk.1 a (by omega) (by omega) (by omega)]) ⟨by rw [qc 145 (by omega) (by omega) (by omega), rk.2.1 10 (by omega) (by omega)], by rw [qc 145 (by omega) (by omega) (by omega), rk.2.1 11 (by omega) (by omega)]⟩ ?_ gd ruK (LI_q li1 (fun a x y => qc a (by omega) (by omega) (by omega))) (fun i i0 i1 => by rw [qc 173 (by omega) (by omega) (by omega)]; exact b3_K d3.2.2.2.2.2.2.2.2.2 rk i i0 i1)
              unfold BG at bg ⊢
              rw [kj 13 (by omega), qc 169 (by omega) (by omega) (by omega), q172]
              have := rk.2.2.2.2.2.1
              omega
            exact ⟨K, Q, 1, by rw [hK]; exact run, run2 _ ⟨fun _ => rfl, fun q => absurd (by omega) q⟩, by rw [hK]; exact cz, by rw [hQ]; exact rZ_tr rz (rZ_tr (rZ_s (by unfold zR; omega)) (rZ_tr (rZ_s (by unfold zR; omega)) (rZ_s (by unfold zR; omega)))), Or.inl ⟨rfl, h1, by omega, nw⟩⟩
          · exact ⟨_, R1, 0, run, run2 _ ⟨fun q => absurd v0 q, fun _ => rfl⟩, cz, rz, Or.inr ⟨rfl, FT_T (FT_T ft (by omega)) (by omega)⟩⟩
        · exact flt p1 y1 y3 (nL_tr nL_nx nL_fl) (nM_tr nM_nx nM_fl) (en_210 ⟨fun _ => ⟨_, 1, p2, fun _ => ⟨_, 1, r8_, fun _ => ⟨_, 0, y2, fun _ => rfl, fun q => absurd rfl q⟩, fun q => absurd (by omega) q⟩, fun q => absurd (by omega) q⟩, fun q => absurd (by omega) q⟩)
      · rw [bin (fun z => c5 (by have := sg.mpr z; omega))] at r8_
        exact flt p1 (s_29n p3.2.2.1.1 hh.2.1 (by rw [p3.2.1.2.1]; exact c5)) (ST_fl p3 (show (1 : Int) ≠ 0 by omega)) (nL_tr nL_nx nL_fl) (nM_tr nM_nx nM_fl) (en_210 ⟨fun _ => ⟨_, 1, p2, fun _ => ⟨_, 0, r8_, fun q => absurd rfl q, fun _ => ⟨_, 0, s_191 hh.2.2, Or.inl rfl, rfl⟩⟩, fun q => absurd (by omega) q⟩, fun q => absurd (by omega) q⟩)
    · exact flt p1 (s_29f p3.1) p3 nL_fl nM_fl (en_210 ⟨fun _ => ⟨_, 0, p2, fun q => absurd rfl q, fun _ => rfl⟩, fun q => absurd (by omega) q⟩)
  · obtain ⟨⟨M2, v, f1, f1'⟩, z, f⟩ := full (L := L) s (n := 2) (by omega)
    refine ⟨_, _, 0, en_48 ?_, en_210 ⟨fun q => absurd (by omega) q, fun _ => ⟨_, 0, z, Or.inl rfl, rfl⟩⟩, cZ_nL nL_fl, rZ_nM nM_fl, Or.inr ⟨rfl, f⟩⟩
    rw [s.2.2.2.1, ← cr]
    exact ⟨(tx ht).1, fun q => absurd q hr, fun _ => ⟨M2, v, f1, _, f1', rfl⟩⟩
end RUL
