/-! reading: the TELLs give and rule -/
section GIV
variable {L : Nat} {C R C1 R1 C2 R2 K Q : aM}
theorem c45 {T v w : Int} {M1 M3 M5 : aM} (ht : isTx T) (e1 : aE 29 [aR 3, aI 34] (SH L) C ([aI v], SH L, M1)) (e2 : aE 29 [aR 3, aI 5] (SH L) M1 ([aI w], SH L, M3)) (t3 : M3 3 3 = T) (e3 : aE 44 [aR 3] (SH L) (aSet M3 T 14 (M3 T 13)) ([], SH L, M5)) (t5 : M5 3 3 = T) : aE 45 [aR 3] (SH L) C ([], SH L, aSet M5 T 15 (M5 T 13)) := by
  have t19 : aK (SH L) T = 19 := (tx ht).1
  refine en_45 ⟨M1, v, e1, M3, w, e2, by rw [t3]; exact t19, by rw [t3]; exact t19, M5, by rw [t3]; exact e3, by rw [t5]; exact t19, by rw [t5]; exact t19, by rw [t5]⟩
theorem give_f {T : Int} (ft : FT C R T) (b : 0 ≤ C T 13 ∧ C T 13 ≤ 400) : ∃ K, aE 44 [aR 3] (SH L) (aSet C T 14 (C T 13)) ([], SH L, K) ∧ K 3 3 = T ∧ cZ T C K ∧ FT K R T := by
  have t := tx_le ft.2.2.2.2.2
  have ft2 : FT (aSet C T 14 (C T 13)) R T := FT_T ft (by omega)
  obtain ⟨K, x, y⟩ := af44 (L := L) (FT_fK ft2 (by rw [aSet_i (by omega)]; exact b))
  have ft3 := FT_wk ft2 y
  exact ⟨K, x, ft3.2.2.2.2.1, cZ_tr (cZ_s (by omega)) (cZ_E y.1), ft3⟩
theorem tell_give {N h : Nat} {T : Int} (d : RD C R N T h) (q : C 5 (h : Int) = 34) : ∃ C1 R1 v, aE 45 [aR 3] (SH L) C ([], SH L, C1) ∧ aX xc_212 (aSeek xc_212 93) [aR 145, aI 5] [] (SH L) R ([aI v], SH L, R1) ∧ bdE C R C1 R1 N T h v := by
  have s := d.1
  have ht := s.2.2.2.2
  have t := tx_le ht
  have hN := s.1.1
  have bgC := d.2.2.1
  have b400 : 0 ≤ C T 13 ∧ C T 13 ≤ 400 := by have := bgC.1; have := s.2.1.1; omega
  -- behind a FAULT
  have flt : ∀ {M1 M3 Q : aM} {v w : Int}, aE 29 [aR 3, aI 34] (SH L) C ([aI v], SH L, M1) → aE 29 [aR 3, aI 5] (SH L) M1 ([aI w], SH L, M3) → FT M3 Q T → nL C M3 → nM R Q → aX xc_212 (aSeek xc_212 93) [aR 145, aI 5] [] (SH L) R ([aI 0], SH L, Q) → ∃ C1 R1 v, aE 45 [aR 3] (SH L) C ([], SH L, C1) ∧ aX xc_212 (aSeek xc_212 93) [aR 145, aI 5] [] (SH L) R ([aI v], SH L, R1) ∧ bdE C R C1 R1 N T h v := by
    intro M1 M3 Q v w e1 e2 ft n1 n2 r
    obtain ⟨K, k1, k2, k3, k4⟩ := give_f (L := L) ft (by rw [n1.1 T (by omega)]; exact b400)
    exact ⟨_, Q, 0, c45 ht e1 e2 ft.2.2.2.2.1 k1 k2, r, cZ_tr (cZ_tr (cZ_nL n1) k3) (cZ_s (by omega)), rZ_nM n2, Or.inr ⟨rfl, FT_T k4 (by omega)⟩⟩
  rcases pass_y (L := L) s q (by omega) with ⟨h4, p1, p2, p3⟩ | ⟨h4, p1, p2, p3⟩
  · have d1 := RD_nx d p3
    have hh := ST_h p3
    have tk := (ST_tk p3).1
    have sg := tk_sign (t := 5) tk (by omega)
    rw [show sgR 5 = 61 by decide] at sg
    have r61 := s_194 (L := L) (R := nxR R) (c := 61) hh.2.2
    rw [p3.2.1.2.2] at r61
    by_cases c5 : (nxC C) 5 ((h + 1 : Nat) : Int) = 5
    · rw [bip (sg.mp c5)] at r61
      rcases pass_y (L := L) p3 c5 (by omega) with ⟨g4, y1, y2, y3⟩ | ⟨g4, y1, y2, y3⟩
      · have d2 := RD_nx d1 y3
        obtain ⟨C2, hC2⟩ : ∃ C2, C2 = nxC (nxC C) := ⟨_, rfl⟩
        obtain ⟨R2, hR2⟩ : ∃ R2, R2 = nxR (nxR R) := ⟨_, rfl⟩
        rw [← hC2, ← hR2] at d2
        rw [← hC2] at y1
        rw [← hR2] at y2
        have s2 := d2.1
        have bg := d2.2.2.1
        obtain ⟨Ca, hCa⟩ : ∃ Ca, Ca = aSet C2 T 14 (C2 T 13) := ⟨_, rfl⟩
        have ca13 : Ca T 13 = C2 T 13 := by rw [hCa, aSet_i (by omega)]
        have sa : ST Ca R2 N T (h + 1 + 1) := by rw [hCa]; exact (SL_c s2 d2.2.1 (by omega)).1
        obtain ⟨C1, R1, v, e1, e2, x1, x2, x3, x4⟩ := ex_pair (L := L) sa (by rw [ca13]; exact bg.1) bg.2.1
        rw [ca13] at x4
        have rk : rK R2 R1 := rK_tr (rK_1 (by omega)) (rK_E x2)
        have r56 : R1 145 56 = R2 169 1 := by rw [x2.2.1 56 (by omega) (by omega), aSet_e]
        have c33 : C1 3 3 = T := by
          rcases x4 with ⟨-, h1, -, s1, -⟩ | ⟨-, ft⟩
          · exact s1.2.2.2.1
          · exact ft.2.2.2.2.1
        have run := c45 (L := L) ht p1 y1 s2.2.2.2.1 (by rw [← hCa]; exact e1) c33
        have cz0 : cZ T C C2 := by rw [hC2]; exact cZ_nL (nL_tr nL_nx nL_nx)
        have rz0 : rZ R R2 := by rw [hR2]; exact rZ_nM (nM_tr nM_nx nM_nx)
        have cz : cZ T C (aSet C1 T 15 (C1 T 13)) := cZ_tr cz0 (cZ_tr (by rw [hCa]; exact cZ_s (by omega)) (cZ_tr (cZ_E x1) (cZ_s (by omega))))
        have rz : rZ R R1 := rZ_tr rz0 (rZ_K rk bg.2.1.1 bg.2.2.1)
        have run2 : ∀ o, ((¬ v = 0 → o = ([aI 1], SH L, aSet (aSet R1 164 1 (R1 145 56)) 165 1 ((aSet R1 164 1 (R1 145 56)) 169 1))) ∧ (¬ (¬ v = 0) → o = ([aI 0], SH L, R1))) → aX xc_212 (aSeek xc_212 93) [aR 145, aI 5] [] (SH L) R o := fun o z => bl_212_93 ⟨_, 1, p2, fun _ => ⟨fun _ => ⟨_, 1, r61, fun _ => ⟨R2, 1, y2, fun q => absurd q (by omega), fun _ => ⟨R1, v, e2, z⟩⟩, fun q => absurd (by omega) q⟩, fun q => absurd (show ¬ (5 : Int) = 4 by omega) q⟩, fun q => absurd (by omega) q⟩
        rcases x4 with ⟨v1, h1, hh1, s1, b1, b2, b4, em⟩ | ⟨v0, ft⟩
        · obtain ⟨K, hK⟩ : ∃ K, K = aSet C1 T 15 (C1 T 13) := ⟨_, rfl⟩
          obtain ⟨Q, hQ⟩ : ∃ Q, Q = aSet (aSet R1 164 1 (R2 169 1)) 165 1 (R1 169 1) := ⟨_, rfl⟩
          have kc : ∀ a, a ≠ T → K a = C1 a := fun a ha => by rw [hK, aSet_c ha]
          have kj : ∀ j, j ≠ 15 → K T j = C1 T j := fun j hj => by rw [hK, aSet_i hj]
          have qc : ∀ a, a ≠ 164 → a ≠ 165 → Q a = R1 a := fun a x y => by rw [hQ, aSet_c y, aSet_c x]
          have c1j : ∀ j, j ≠ 13 → j ≠ 14 → C1 T j = C2 T j := fun j x y => by rw [x1.2.1 j x, hCa, aSet_i y]
          have c1a : ∀ a, a ≠ 3 → a ≠ 8 → a ≠ T → a ≠ T + 8 → C1 a = C2 a := fun a x y z w => by rw [x1.1 a x y z w, hCa, aSet_c z]
          have c13 : ∀ j, j ≠ 0 → j ≠ 1 → j ≠ 4 → j ≠ 8 → C1 3 j = C2 3 j := fun j x y z w => by rw [x1.2.2.2.1 j x y z w, hCa, aSet_c (by omega)]
          have e172 : R1 172 1 = R2 172 1 := by rw [x2.1 172 (by omega) (by omega) (by omega) (by omega) (by omega), aSet_c (by omega)]
          have c8 : ∀ i, i < C2 T 13 → K (T + 8) i = C2 (T + 8) i := fun i hi => by rw [kc (T + 8) (by omega), x1.2.2.1 i (by rw [ca13]; exact hi), hCa, aSet_c (by omega)]
          have li := d2.2.2.2.2.2.2.2.2.1
          have ru := RU_cg (C1 := K) (R1 := R1) d2.2.2.2.2.2.2.2.1 li ⟨by rw [kj 16 (by omega), c1j 16 (by omega) (by omega)], by rw [kj 13 (by omega)]; omega⟩ c8 (fun a ha => by rw [kc a (by omega), c1a a (by omega) (by omega) (by omega) (by omega)]) (by rw [rk.1 166 (by omega) (by omega) (by omega)]) (fun a ha => by rw [rk.1 a (by omega) (by omega) (by omega)]) rk
          have nw : RD K Q N T h1 := by
            refine RD_x d2 (by omega) (ST_cg s1 (fun a x y => kc a (by omega)) (fun a x y => qc a (by omega) (by omega)) (fun j _ => by rw [kc 3 (by omega)]) (fun j _ _ => by rw [qc 145 (by omega) (by omega)])) (fun a x y z => by rw [kc a (by omega), c1a a x y (by omega) (by omega)]) (fun j hj => by rw [kj j (by omega), c1j j (by omega) (by omega)]) ⟨by rw [kc 3 (by omega), c13 5 (by omega) (by omega) (by omega) (by omega)], by rw [kc 3 (by omega), c13 6 (by omega) (by omega) (by omega) (by omega)]⟩ (fun a x y => by rw [qc a (by omega) (by omega), rk.1 a (by omega) (by omega) (by omega)]) ⟨by rw [qc 145 (by omega) (by omega), rk.2.1 10 (by omega) (by omega)], by rw [qc 145 (by omega) (by omega), rk.2.1 11 (by omega) (by omega)]⟩ ?_ (Or.inr ⟨?_, ?_, ?_⟩) (RU_q ru (fun a x y => qc a (by omega) (by omega))) (LI_q (LI_cg li rk e172) (fun a x y => qc a (by omega) (by omega))) (fun i i0 i1 => by rw [qc 173 (by omega) (by omega)]; exact b3_K d2.2.2.2.2.2.2.2.2.2 rk i i0 i1)
            · unfold BG at bg ⊢
              rw [kj 13 (by omega), qc 169 (by omega) (by omega), qc 172 (by omega) (by omega), e172]
              omega
            · rw [kj 14 (by omega), kj 13 (by omega), hK, aSet_e, x1.2.1 14 (by omega), hCa, aSet_e]
              have := bg.1
              omega
            · rw [qc 169 (by omega) (by omega), hQ, aSet_e, aSet_c (by omega), aSet_e]
              have := bg.2.1
              omega
            · have o1 : oO Q = oO R1 := by funext b; unfold oO; rw [qc 170 (by omega) (by omega)]
              have o2 : oV Q = oV R1 := by funext b; unfold oV; rw [qc 171 (by omega) (by omega)]
              rw [kc (T + 8) (by omega), o1, o2, kj 14 (by omega), x1.2.1 14 (by omega), hCa, aSet_e, hK, aSet_e, hQ, aSet_e, aSet_c (by omega), aSet_e]
              exact em
          refine ⟨K, Q, 1, by rw [hK]; exact run, run2 _ ⟨fun _ => ?_, fun q => absurd (by omega) q⟩, by rw [hK]; exact cz, by rw [hQ]; exact rZ_tr rz (rZ_tr (rZ_s (by unfold zR; omega)) (rZ_s (by unfold zR; omega))), Or.inl ⟨rfl, h1, by omega, nw⟩⟩
          rw [r56, aSet_c (show (169 : Int) ≠ 164 by omega), hQ]
        · exact ⟨_, R1, 0, run, run2 _ ⟨fun q => absurd v0 q, fun _ => rfl⟩, cz, rz, Or.inr ⟨rfl, FT_T ft (by omega)⟩⟩
      · exact flt p1 y1 y3 (nL_tr nL_nx nL_fl) (nM_tr nM_nx nM_fl) (bl_212_93 ⟨_, 1, p2, fun _ => ⟨fun _ => ⟨_, 1, r61, fun _ => ⟨_, 0, y2, fun _ => rfl, fun q => absurd rfl q⟩, fun q => absurd (by omega) q⟩, fun q => absurd (show ¬ (5 : Int) = 4 by omega) q⟩, fun q => absurd (by omega) q⟩)
    · rw [bin (fun z => c5 (sg.mpr z))] at r61
      exact flt p1 (s_29n p3.2.2.1.1 hh.2.1 (by rw [p3.2.1.2.1]; exact c5)) (ST_fl p3 (show (1 : Int) ≠ 0 by omega)) (nL_tr nL_nx nL_fl) (nM_tr nM_nx nM_fl) (bl_212_93 ⟨_, 1, p2, fun _ => ⟨fun _ => ⟨_, 0, r61, fun q => absurd rfl q, fun _ => ⟨_, 0, s_191 hh.2.2, Or.inl rfl, rfl⟩⟩, fun q => absurd (show ¬ (5 : Int) = 4 by omega) q⟩, fun q => absurd (by omega) q⟩)
  · exact flt p1 (s_29f p3.1) p3 nL_fl nM_fl (bl_212_93 ⟨_, 0, p2, fun q => absurd rfl q, fun _ => rfl⟩)
end GIV
