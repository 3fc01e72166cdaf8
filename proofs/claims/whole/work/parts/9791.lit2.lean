/-! reading: a LIT, both sides -/
section LIT3
variable {L : Nat} {C R C1 R1 C2 R2 K K1 M M1 : aM}
def ltR (L : Nat) (C R C1 R1 : aM) (N : Nat) (T : Int) (h : Nat) (row a1 a2 a3 : Int) : Prop := cE T C C1 ∧ rK R R1 ∧ (0 ≤ C1 T 13 ∧ C1 T 13 ≤ 400) ∧
  ((∃ h1 : Nat, h + 3 ≤ h1 ∧ ST C1 R1 N T h1 ∧ C1 T 13 - C T 13 ≤ (h1 : Int) - h ∧ (R 169 1 ≤ R1 169 1 ∧ R1 169 1 - R 169 1 ≤ (h1 : Int) - h) ∧ R1 172 1 = R 172 1 + 1 ∧ lB R1 (R 172 1) ∧ liOk (shR R1) (R 172 1) ∧ R1 178 (200 + R 172 1) = row ∧
    (∀ (vr : Int → Int) (st : List Int), st.length ≤ 2 → evS (C1 (T + 8)) vr (C1 T 13 - C T 13).toNat (C T 13) st 0 = some (liV (shR R1) vr (R 172 1) :: st, 0)) ∧
    (∀ o, aX xc_47 (aSeek xc_47 89) [aR 3, aI a1, aI a2, aI a3, aU, aU] [] (SH L) C1 o → aX xc_47 (aSeek xc_47 6) [aR 3, aI a1, aI a2, aI a3, aU, aU] [] (SH L) C o) ∧
    ∀ o, cnt L R1 row o → aX xc_204 (aSeek xc_204 14) [aR 145, aI row, aI 1, aU, aU, aU] [] (SH L) R o) ∨
   (FT C1 R1 T ∧ aX xc_47 (aSeek xc_47 6) [aR 3, aI a1, aI a2, aI a3, aU, aU] [] (SH L) C ([], SH L, C1) ∧ aX xc_204 (aSeek xc_204 14) [aR 145, aI row, aI 1, aU, aU, aU] [] (SH L) R ([aI 0], SH L, R1)))
theorem lit_pair {N h : Nat} {T row a1 a2 a3 : Int} (s : ST C R N T h) (cb : 0 ≤ C T 13 ∧ C T 13 ≤ h) (rb : 0 ≤ R 169 1 ∧ R 169 1 ≤ h) (lb_ : 0 ≤ R 172 1 ∧ 3 * R 172 1 ≤ h) (i3 : a3 ≤ 400) : ∃ C1 R1, ltR L C R C1 R1 N T h row a1 a2 a3 := by
  have ht := s.2.2.2.2
  have t := tx_le ht
  have hh := ST_h s
  obtain ⟨k, hk⟩ : ∃ k, k = 200 + R 172 1 := ⟨_, rfl⟩
  have kb : 200 ≤ k ∧ k < 400 := by omega
  have l3 : aLn (SH L) 4 173 = 400 := rfl
  have l4 : aLn (SH L) 1 174 = 400 := rfl
  have l5 : aLn (SH L) 1 175 = 400 := rfl
  have l6 : aLn (SH L) 1 176 = 400 := rfl
  have l7 : aLn (SH L) 1 177 = 400 := rfl
  have l8 : aLn (SH L) 1 178 = 400 := rfl
  have l9 : aLn (SH L) 1 149 = 2001 := rfl
  obtain ⟨Ca, Ra, b, n1, n2, n3, n4, n5⟩ := nots (L := L) (row := row) (k := k) (401 - h) h false C R 0 (by omega) s (Int.le_refl _) (by omega)
  rw [bi_f] at n1 n5
  have aT : Ca T = C T := n2.1 T (by omega)
  have aT8 : Ca (T + 8) = C (T + 8) := n2.1 _ (by omega)
  have a172 : Ra 172 = R 172 := n3.1 172 (by omega) (by omega) (by omega) (by omega) (by omega)
  have cls : ∀ o, (∃ M3, aE 44 [aR 3] (SH L) Ca ([], SH L, M3) ∧ (∃ M4 v5, aE 26 [aR 3] (SH L) M3 ([aI v5], SH L, M4) ∧ ((v5 < 10 → aX xc_47 (aSeek xc_47 56) [aR 3, aI a1, aI a2, aI a3, aI (bi b), aI v5] [aR 3] (SH L) M4 o) ∧ (¬ v5 < 10 → ((13 < v5 → aX xc_47 (aSeek xc_47 56) [aR 3, aI a1, aI a2, aI a3, aI (bi b), aI v5] [aR 3] (SH L) M4 o) ∧ (¬ 13 < v5 → aX xc_47 (aSeek xc_47 58) [aR 3, aI a1, aI a2, aI a3, aI (bi b), aI v5] [aI v5, aR 3] (SH L) M4 o)))))) → aX xc_47 (aSeek xc_47 6) [aR 3, aI a1, aI a2, aI a3, aU, aU] [] (SH L) C o := fun o x => bl_47_6 ⟨fun q => by omega, fun _ => ⟨fun q => absurd s.2.2.1.1 q, fun _ => ⟨Ca, bi b, en_46 n1, x⟩⟩⟩
  have rfs : ∀ o, aX xc_204 (aSeek xc_204 32) [aR 145, aI row, aU, aI k, aI 0, aU] [] (SH L) R o → aX xc_204 (aSeek xc_204 14) [aR 145, aI row, aI 1, aU, aU, aU] [] (SH L) R o := fun o x => bl_204_14 ⟨fun q => absurd q (by omega), fun _ => by rw [aWi (z := 200 + R 172 1) (by omega) (by omega), ← hk]; exact x⟩
  have cEa : cE T C Ca := nF_E ht n2
  have cTa : 0 ≤ Ca T 13 ∧ Ca T 13 ≤ 400 := by rw [aT]; omega
  rcases n5 with ⟨h2, s2, hh2, hb2, nn, r32⟩ | ⟨ft, r32⟩
  · have hh2' := ST_h s2
    have bb2 := s2.2.1
    have tk2 := (ST_tk s2).1
    have r195 : aE 195 [aR 145, aI 10] (SH L) Ra ([aI 0], SH L, Ra) := by
      have := s_195 (L := L) (R := Ra) (c := 10) hh2'.2.2
      rw [bb2.2.2, bin (fun q => nn ((tk_word (t := 23) tk2 (by omega)).mpr ⟨q.1, by rw [q.2]; decide⟩))] at this
      exact this
    obtain ⟨Cb, Rb, v, e1, e2, ex1, ex2, ex3, ex4⟩ := ex_pair (L := L) s2 (by rw [aT]; omega) (by rw [n4]; omega)
    have rKb : rK R Rb := rK_tr (rK_E n3) (rK_tr (rK_1 (by omega)) (rK_E ex2))
    have r32b : ∀ o, ((¬ v = 0 → (0 ≤ k ∧ k < aLn (SH L) 1 175) ∧ (0 ≤ k ∧ k < aLn (SH L) 1 176) ∧ (∃ (M5 : aM) (v6 : Int), aE 194 [aR 145, aI 300] (SH L) (aSet (aSet Rb 175 k (Rb 145 56)) 176 k ((aSet Rb 175 k (Rb 145 56)) 169 1)) ([aI v6], SH L, M5) ∧ ((¬ v6 = 0 → aX xc_204 (aSeek xc_204 135) [aR 145, aI row, aU, aI k, aI (bi b), aU] [] (SH L) M5 o) ∧ (¬ (¬ v6 = 0) → (∃ (M7 : aM) (v8 : Int), aE 194 [aR 145, aI 301] (SH L) M5 ([aI v8], SH L, M7) ∧ ((¬ v8 = 0 → aX xc_204 (aSeek xc_204 135) [aR 145, aI row, aU, aI k, aI (bi b), aU] [] (SH L) M7 o) ∧ (¬ (¬ v8 = 0) → (∃ (M9 : aM) (v10 : Int), aE 194 [aR 145, aI 302] (SH L) M7 ([aI v10], SH L, M9) ∧ ((¬ v10 = 0 → aX xc_204 (aSeek xc_204 135) [aR 145, aI row, aU, aI k, aI (bi b), aU] [] (SH L) M9 o) ∧ (¬ (¬ v10 = 0) → (∃ (M11 : aM) (v12 : Int), aE 194 [aR 145, aI 60] (SH L) M9 ([aI v12], SH L, M11) ∧ ((v12 = 0 → aX xc_204 (aSeek xc_204 140) [aR 145, aI row, aU, aI k, aI (bi b), aU] [aI 0] (SH L) M11 o) ∧ (¬ (v12 = 0) → aX xc_204 (aSeek xc_204 135) [aR 145, aI row, aU, aI k, aI (bi b), aU] [] (SH L) M11 o))))))))))))) ∧ (¬ (¬ v = 0) → o = ([aI 0], SH L, Rb))) → aX xc_204 (aSeek xc_204 14) [aR 145, aI row, aI 1, aU, aU, aU] [] (SH L) R o := fun o x => rfs o (r32 o (bl_204_32 ⟨Ra, 0, r195, fun _ => ⟨Rb, v, e2, x⟩, fun q => absurd rfl q⟩))
    rcases ex4 with ⟨v1, h3, hh3, s3, c3, r3, cr3, em1⟩ | ⟨v0, ft⟩
    · have hh3' := ST_h s3
      have bb3 := s3.2.1
      have b172 : Rb 172 = R 172 := by rw [ex2.1 172 (by omega) (by omega) (by omega) (by omega) (by omega), aSet_c (by omega), a172]
      have b56 : Rb 145 56 = R 169 1 := by rw [ex2.2.1 56 (by omega) (by omega), aSet_e, n4]
      obtain ⟨ra, hra⟩ : ∃ ra, ra = Rb 169 1 := ⟨_, rfl⟩
      obtain ⟨rc, hrc⟩ : ∃ rc, rc = R 169 1 := ⟨_, rfl⟩
      obtain ⟨cc, hcc⟩ : ∃ cc, cc = C T 13 := ⟨_, rfl⟩
      obtain ⟨ca, hca⟩ : ∃ ca, ca = Cb T 13 := ⟨_, rfl⟩
      simp only [aT, n4, ← hcc, ← hrc, ← hra, ← hca] at c3 r3 cr3 em1
      obtain ⟨Rc, hRc⟩ : ∃ Rc, Rc = aSet (aSet Rb 175 k rc) 176 k ra := ⟨_, rfl⟩
      have eRc : aSet (aSet Rb 175 k (Rb 145 56)) 176 k ((aSet Rb 175 k (Rb 145 56)) 169 1) = Rc := by rw [hRc, b56, aSet_c (show (169 : Int) ≠ 175 by omega), hrc, hra]
      have cRc : ∀ a, a ≠ 175 → a ≠ 176 → Rc a = Rb a := fun a x y => by rw [hRc, aSet_c y, aSet_c x]
      have s3c : ST Cb Rc N T h3 := ST_cg s3 (fun _ _ _ => rfl) (fun a x y => cRc a (by omega) (by omega)) (fun _ _ => rfl) (fun j _ _ => by rw [cRc 145 (by omega) (by omega)])
      have rKc : rK R Rc := by
        rw [hRc]
        refine rK_tr rKb (rK_tr (rK_l (by omega) (by rw [b172]; omega)) (rK_l (by omega) ?_))
        rw [aSet_c (by omega), b172]; omega
      obtain ⟨ty, hty⟩ : ∃ ty, ty = Cb 5 (h3 : Int) := ⟨_, rfl⟩
      have tk3 := (ST_tk s3c).1
      have sg : ∀ tt : Int, 4 ≤ tt ∧ tt ≤ 15 → aE 194 [aR 145, aI (sgR tt)] (SH L) Rc ([aI (bi (decide (ty = tt)))], SH L, Rc) := by
        intro tt h15
        have := s_194 (L := L) (R := Rc) (c := sgR tt) (ST_h s3c).2.2
        rw [s3c.2.1.2.2] at this
        rw [show decide (ty = tt) = decide (Rc 147 (h3 : Int) = 2 ∧ Rc 149 (h3 : Int) = sgR tt) by rw [decide_eq_decide, hty]; exact tk_sign tk3 h15]
        exact this
      have s10 := sg 10 (by omega)
      have s11 := sg 11 (by omega)
      have s13 := sg 13 (by omega)
      have s12 := sg 12 (by omega)
      rw [show sgR 10 = 300 by decide] at s10
      rw [show sgR 11 = 301 by decide] at s11
      rw [show sgR 13 = 302 by decide] at s13
      rw [show sgR 12 = 60 by decide] at s12
      have r26 := s_26 (L := L) (C := Cb) hh3'.2.1
      rw [bb3.2.1, ← hty] at r26
      by_cases cs : 10 ≤ ty ∧ ty ≤ 13
      · have go140 : ∀ o, aX xc_204 (aSeek xc_204 140) [aR 145, aI row, aU, aI k, aI (bi b), aU] [aI 1] (SH L) Rc o → aX xc_204 (aSeek xc_204 14) [aR 145, aI row, aI 1, aU, aU, aU] [] (SH L) R o := by
          intro o x
          have y := bl_204_135 x
          refine r32b o ⟨fun _ => ⟨by omega, by omega, Rc, _, by rw [eRc]; exact s10, fun _ => y, fun q10 => ⟨Rc, _, s11, fun _ => y, fun q11 => ⟨Rc, _, s13, fun _ => y, fun q13 => ⟨Rc, _, s12, fun q12 => ?_, fun _ => y⟩⟩⟩⟩, fun q => absurd (by omega) q⟩
          have z10 := bid0.mp (Classical.not_not.mp q10)
          have z11 := bid0.mp (Classical.not_not.mp q11)
          have z13 := bid0.mp (Classical.not_not.mp q13)
          have z12 := bid0.mp q12
          omega
        have clb : ∀ o, aX xc_47 (aSeek xc_47 58) [aR 3, aI a1, aI a2, aI a3, aI (bi b), aI ty] [aI ty, aR 3] (SH L) Cb o → aX xc_47 (aSeek xc_47 6) [aR 3, aI a1, aI a2, aI a3, aU, aU] [] (SH L) C o := fun o x => cls o ⟨Cb, e1, Cb, ty, r26, fun q => by omega, fun _ => ⟨fun q => by omega, fun _ => x⟩⟩
        obtain ⟨Rd, hRd⟩ : ∃ Rd, Rd = aSet Rc 174 k (sgR ty) := ⟨_, rfl⟩
        have wh : Rc 149 (Rc 145 7) = sgR ty := by rw [s3c.2.1.2.2]; exact ((tk_sign tk3 (by omega)).mp hty.symm).2
        have cRd : ∀ a, a ≠ 174 → Rd a = Rc a := fun a x => by rw [hRd, aSet_c x]
        have s3d : ST Cb Rd N T h3 := ST_cg s3c (fun _ _ _ => rfl) (fun a x y => cRd a (by omega)) (fun _ _ => rfl) (fun j _ _ => by rw [cRd 145 (by omega)])
        have c172 : Rc 172 = R 172 := by rw [cRc 172 (by omega) (by omega), b172]
        have rKd : rK R Rd := by rw [hRd]; exact rK_tr rKc (rK_l (by omega) (by rw [c172]; omega))
        have go140b : ∀ o, (∃ M1 v2, aE 193 [aR 145] (SH L) Rd ([aI v2], SH L, M1) ∧ ((v2 = 0 → o = ([aI 0], SH L, M1)) ∧ (¬ v2 = 0 → ∃ M3 v4, aE 203 [aR 145] (SH L) M1 ([aI v4], SH L, M3) ∧ ((¬ v4 = 0 → (0 ≤ k ∧ k < aLn (SH L) 1 177) ∧ ((0 ≤ k ∧ k < aLn (SH L) 4 173) ∧ (bi b = 0 ∨ bi b = 1)) ∧ (0 ≤ k ∧ k < aLn (SH L) 1 178) ∧ cnt L (aSet (aSet (aSet (aSet M3 177 k (M3 169 1)) 173 k (bi b)) 178 k row) 172 1 (aW (((aSet (aSet (aSet M3 177 k (M3 169 1)) 173 k (bi b)) 178 k row) 172 1) + 1))) row o) ∧ (¬ (¬ v4 = 0) → o = ([aI 0], SH L, M3)))))) → aX xc_204 (aSeek xc_204 14) [aR 145, aI row, aI 1, aU, aU, aU] [] (SH L) R o := by
          intro o x
          refine go140 o (bl_204_140 ⟨fun _ => ⟨by rw [s3c.2.1.2.2]; omega, by omega, ?_⟩, fun q => absurd (by omega) q⟩)
          rw [wh, ← hRd]
          exact x
        have q5 : Cb 5 (h3 : Int) = ty := hty.symm
        rcases pass_y (L := L) s3d q5 (by omega) with ⟨h4, p1, p2, p3⟩ | ⟨h4, p1, p2, p3⟩
        · have eT : nxC Cb T = Cb T := nxC_c (by omega)
          have e169 : nxR Rd 169 = Rb 169 := by rw [nxR_c (by omega), cRd 169 (by omega), cRc 169 (by omega) (by omega)]
          obtain ⟨Cf, Rf, w, f1, f2, fx1, fx2, fx3, fx4⟩ := ex_pair (L := L) p3 (by rw [eT, ← hca]; omega) (by rw [e169, ← hra]; omega)
          have cEf : cE T C Cf := cE_tr cEa (cE_tr ex1 (cE_tr (nF_E ht nF_nx) fx1))
          have rKf : rK R Rf := rK_tr rKd (rK_tr (rK_E (rE_nx rE_rf)) (rK_tr (rK_1 (by omega)) (rK_E fx2)))
          rcases fx4 with ⟨w1, h5, hh5, s5, c5, r5, cr5, em2⟩ | ⟨w0, ft⟩
          · have hh5' := ST_h s5
            obtain ⟨rd, hrd⟩ : ∃ rd, rd = Rf 169 1 := ⟨_, rfl⟩
            obtain ⟨cd, hcd⟩ : ∃ cd, cd = Cf T 13 := ⟨_, rfl⟩
            simp only [eT, e169, ← hca, ← hra, ← hrd, ← hcd] at c5 r5 cr5 em2
            -- the class's end
            obtain ⟨Cg, hCg⟩ : ∃ Cg, Cg = adC Cf T ty := ⟨_, rfl⟩
            have tn : bi b ≤ (h2 : Int) - h := by
              cases hb : b with
              | false => rw [bi_f]; omega
              | true => have := hb2 (by rw [hb]; decide); rw [bi_t]; omega
            have b01 := bi_le b
            have cg13 : Cg T 13 = cd + 1 := by rw [hCg, adC_8.2.2, ← hcd]
            obtain ⟨C1, r40, hC1⟩ : ∃ C1, (∀ o, aX xc_47 (aSeek xc_47 89) [aR 3, aI a1, aI a2, aI a3, aU, aU] [] (SH L) C1 o → aX xc_47 (aSeek xc_47 6) [aR 3, aI a1, aI a2, aI a3, aU, aU] [] (SH L) C o) ∧ C1 = if b = true then adC Cg T 39 else Cg := by
              refine ⟨_, fun o x => clb o (bl_47_58 ⟨rfl, _, 1, p1, Cf, f1, by rw [s5.2.2.2.1]; exact (tx ht).1, Cg, by rw [s5.2.2.2.1, hCg]; exact s_40 ht (by omega), fun q => ?_, fun q => ?_⟩), rfl⟩
              · have : b = false := bi_0.mp q
                rw [this, if_neg (by decide)] at x
                exact x
              · have : b = true := by cases hb : b with
                  | false => rw [hb] at q; exact absurd rfl q
                  | true => rfl
                rw [this, if_pos rfl] at x
                have g33 : Cg 3 3 = T := by rw [hCg, adC_c (by omega) (by omega)]; exact s5.2.2.2.1
                rw [this, bi_t] at tn
                exact ⟨by rw [g33]; exact (tx ht).1, _, by rw [g33]; exact s_40 ht (by rw [cg13]; omega), x⟩
            -- the reference's end
            obtain ⟨R1, hR1⟩ : ∃ R1, R1 = aSet (aSet (aSet (aSet Rf 177 k rd) 173 k (bi b)) 178 k row) 172 1 (Rf 172 1 + 1) := ⟨_, rfl⟩
            have f172 : Rf 172 = R 172 := by rw [fx2.1 172 (by omega) (by omega) (by omega) (by omega) (by omega), aSet_c (by omega), nxR_c (by omega), cRd 172 (by omega), c172]
            have eR1 : aSet (aSet (aSet (aSet Rf 177 k (Rf 169 1)) 173 k (bi b)) 178 k row) 172 1 (aW (((aSet (aSet (aSet Rf 177 k (Rf 169 1)) 173 k (bi b)) 178 k row) 172 1) + 1)) = R1 := by
              rw [hR1, aSet_c (show (172 : Int) ≠ 178 by omega), aSet_c (show (172 : Int) ≠ 173 by omega), aSet_c (show (172 : Int) ≠ 177 by omega), aWi (z := Rf 172 1 + 1) (by rw [f172]; omega) (by rw [f172]; omega), hrd]
            have rK1 : rK R R1 := by
              have e2 : R1 = aSet (aSet (aSet (aSet Rf 177 k rd) 173 k (bi b)) 178 k row) 172 1 ((aSet (aSet (aSet Rf 177 k rd) 173 k (bi b)) 178 k row) 172 1 + 1) := by rw [hR1, aSet_c (show (172 : Int) ≠ 178 by omega), aSet_c (show (172 : Int) ≠ 173 by omega), aSet_c (show (172 : Int) ≠ 177 by omega)]
              rw [e2]
              refine rK_tr rKf (rK_tr (rK_l (by omega) (by rw [f172]; omega)) (rK_tr (rK_l (by omega) ?_ (by cases b; exact Or.inr (Or.inl rfl); exact Or.inr (Or.inr rfl))) (rK_tr (rK_l (by omega) ?_) rK_n)))
              · rw [aSet_c (by omega), f172]; omega
              · rw [aSet_c (by omega), aSet_c (by omega), f172]; omega
            have g1 : ∀ a, a ≠ 172 → a ≠ 173 → a ≠ 177 → a ≠ 178 → R1 a = Rf a := fun a x y z u => by rw [hR1, aSet_c x, aSet_c u, aSet_c y, aSet_c z]
            have f175 : Rf 175 k = rc := by rw [fx2.1 175 (by omega) (by omega) (by omega) (by omega) (by omega), aSet_c (by omega), nxR_c (by omega), cRd 175 (by omega), hRc, aSet_c (by omega), aSet_e]
            have f176 : Rf 176 k = ra := by rw [fx2.1 176 (by omega) (by omega) (by omega) (by omega) (by omega), aSet_c (by omega), nxR_c (by omega), cRd 176 (by omega), hRc, aSet_e]
            have f174 : Rf 174 k = sgR ty := by rw [fx2.1 174 (by omega) (by omega) (by omega) (by omega) (by omega), aSet_c (by omega), nxR_c (by omega), hRd, aSet_e]
            have v175 : R1 175 k = rc := by rw [g1 175 (by omega) (by omega) (by omega) (by omega), f175]
            have v176 : R1 176 k = ra := by rw [g1 176 (by omega) (by omega) (by omega) (by omega), f176]
            have v174 : R1 174 k = sgR ty := by rw [g1 174 (by omega) (by omega) (by omega) (by omega), f174]
            have v177 : R1 177 k = rd := by rw [hR1, aSet_c (by omega), aSet_c (by omega), aSet_c (by omega), aSet_e]
            have v173 : R1 173 k = bi b := by rw [hR1, aSet_c (by omega), aSet_c (by omega), aSet_e]
            have v178 : R1 178 k = row := by rw [hR1, aSet_c (by omega), aSet_e]
            have v169 : R1 169 1 = rd := by rw [g1 169 (by omega) (by omega) (by omega) (by omega), ← hrd]
            have v172 : R1 172 1 = R 172 1 + 1 := by rw [hR1, aSet_e, f172]
            have o1 : oO R1 = oO Rf := by unfold oO; rw [g1 170 (by omega) (by omega) (by omega) (by omega)]
            have o2 : oV R1 = oV Rf := by unfold oV; rw [g1 171 (by omega) (by omega) (by omega) (by omega)]
            have o3 : ∀ (vr : Int → Int), rsS (oO R1) (oV R1) vr (ra - rc).toNat rc [] = rsS (oO Rb) (oV Rb) vr (ra - rc).toNat rc [] := by
              intro vr
              rw [o1, o2]
              refine rsS_cg _ _ _ (fun j j0 j1 => ?_)
              have z := fx2.2.2.2.1 (500 + j) (by rw [aSet_c (by omega), e169, ← hra]; omega)
              unfold oO oV
              rw [z.1, z.2, aSet_c (by omega), aSet_c (by omega), nxR_c (by omega), nxR_c (by omega), cRd 170 (by omega), cRd 171 (by omega), cRc 170 (by omega) (by omega), cRc 171 (by omega) (by omega)]
              exact ⟨rfl, rfl⟩
            have sm1 : ∀ a, 173 ≤ a → a ≤ 178 → shR R1 a (R 172 1) = R1 a k := fun a x y => by rw [sh_l ⟨x, y⟩, hk]
            have wf1 : wfE (oO R1) (oV R1) rc ra := by
              refine ⟨by omega, fun vr => ?_⟩
              rw [o3]
              obtain ⟨x, z, _, e⟩ := em1 vr [] 0 (by decide)
              rcases e with ⟨e, _⟩ | ⟨e, _⟩
              · exact Or.inr ⟨x, e⟩
              · exact Or.inl e
            have wf2 : wfE (oO R1) (oV R1) ra rd := by
              refine ⟨by omega, fun vr => ?_⟩
              rw [o1, o2]
              obtain ⟨x, z, _, e⟩ := em2 vr [] 0 (by decide)
              rcases e with ⟨e, _⟩ | ⟨e, _⟩
              · exact Or.inr ⟨x, e⟩
              · exact Or.inl e
            -- the code of the class
            have k1 : ∀ j, cc ≤ j → j < ca → C1 (T + 8) j = Cb (T + 8) j := by
              intro j j0 j1
              have x1 : Cf (T + 8) j = nxC Cb (T + 8) j := fx1.2.2.1 j (by rw [eT, ← hca]; exact j1)
              have x2 : Cg (T + 8) j = Cf (T + 8) j := by rw [hCg]; exact adC_8.1 j (by omega)
              rw [hC1]
              split
              · rw [adC_8.1 j (by rw [cg13]; omega), x2, x1, nxC_c (by omega)]
              · rw [x2, x1, nxC_c (by omega)]
            have k2 : ∀ j, ca ≤ j → j < cd → C1 (T + 8) j = Cf (T + 8) j := by
              intro j j0 j1
              have x2 : Cg (T + 8) j = Cf (T + 8) j := by rw [hCg]; exact adC_8.1 j (by omega)
              rw [hC1]
              split
              · rw [adC_8.1 j (by rw [cg13]; omega), x2]
              · exact x2
            have x3 : Cg (T + 8) cd = ty := by rw [hCg, hcd]; exact adC_8.2.1
            have k3 : C1 (T + 8) cd = ty := by
              rw [hC1]
              split
              · rw [adC_8.1 cd (by rw [cg13]; omega), x3]
              · exact x3
            have c13 : C1 T 13 = cd + 1 + bi b := by
              rw [hC1]
              cases hb : b with
              | false => rw [if_neg (by decide), cg13, bi_f]; omega
              | true => rw [if_pos rfl, adC_8.2.2, cg13, bi_t]
            have k4 : b = true → C1 (T + 8) (cd + 1) = 39 := by
              intro hb
              rw [hC1, if_pos hb, ← cg13]
              exact adC_8.2.1
            have cE1 : cE T Cf C1 := by
              rw [hC1]
              split
              · rw [hCg]; exact cE_tr (cE_ad ht) (cE_ad ht)
              · rw [hCg]; exact cE_ad ht
            have d3 : ∀ j, C1 3 j = Cf 3 j := by
              intro j
              rw [hC1, hCg]
              split
              · rw [adC_c (by omega) (by omega), adC_c (by omega) (by omega)]
              · rw [adC_c (by omega) (by omega)]
            have s1 : ST C1 R1 N T h5 := ST_cg s5 (fun a x y => cE1.1 a (by omega) (by omega) (by omega) (by omega)) (fun a x y => g1 a (by omega) (by omega) (by omega) (by omega)) (fun j _ => d3 j) (fun j x y => by rw [g1 145 (by omega) (by omega) (by omega) (by omega)])
            refine ⟨C1, R1, cE_tr cEf cE1, rK1, by rw [c13]; omega, Or.inl ⟨h5, by omega, s1, by rw [c13, ← hcc]; omega, by rw [v169, ← hrc]; omega, v172, ?_, ?_, by rw [← hk]; exact v178, fun vr st hst => ?_, r40, fun o x => go140b o ⟨_, 1, p2, fun q => absurd q (by omega), fun _ => ⟨Rf, w, f2, fun _ => ⟨by omega, ⟨by omega, by omega⟩, by omega, by rw [eR1]; exact x⟩, fun q => absurd (by omega) q⟩⟩⟩⟩
            · unfold lB
              rw [← hk, v175, v176, v177, v169]
              omega
            · unfold liOk
              rw [sh_O.1, sh_O.2, sm1 173 (by omega) (by omega), sm1 175 (by omega) (by omega), sm1 176 (by omega) (by omega), sm1 177 (by omega) (by omega), v173, v175, v176, v177]
              exact ⟨bi_01 b, wf1, wf2⟩
            · rw [c13, ← hcc]
              obtain ⟨x, z1, y1, w1'⟩ := em1 vr st 0 (by omega)
              obtain ⟨y, z2, y2, w2'⟩ := em2 vr (x :: st) z1 (by rw [List.length_cons]; omega)
              have g1' : evS (C1 (T + 8)) vr (ca - cc).toNat cc st 0 = some (x :: st, z1) := by
                rw [evS_cg (cd := C1 (T + 8)) (cd' := Cb (T + 8)) _ _ _ _ (fun j j0 j1 => k1 j j0 (by omega))]; exact y1
              have g2' : evS (C1 (T + 8)) vr (cd - ca).toNat ca (x :: st) z1 = some (y :: x :: st, z2) := by
                rw [evS_cg (cd := C1 (T + 8)) (cd' := Cf (T + 8)) _ _ _ _ (fun j j0 j1 => k2 j j0 (by omega))]; exact y2
              have val : liV (shR R1) vr (R 172 1) = if z2 = 0 then bi (decide (¬ cmR (sgR ty) x y = bi b)) else bi b := by
                unfold liV exV
                rw [sh_O.1, sh_O.2, sm1 173 (by omega) (by omega), sm1 174 (by omega) (by omega), sm1 175 (by omega) (by omega), sm1 176 (by omega) (by omega), sm1 177 (by omega) (by omega), v173, v174, v175, v176, v177, o3, o1, o2]
                rcases w1' with ⟨w1', q1⟩ | ⟨w1', q1⟩
                · rw [w1']
                  dsimp only
                  rcases w2' with ⟨w2', q2⟩ | ⟨w2', q2⟩
                  · rw [w2']
                    dsimp only
                    rw [if_pos (by omega)]
                  · rw [w2']
                    dsimp only
                    rw [if_neg (by omega)]
                · rw [w1']
                  dsimp only
                  rcases w2' with ⟨w2', q2⟩ | ⟨w2', q2⟩
                  · rw [if_neg (by omega)]
                  · rw [if_neg (by omega)]
              obtain ⟨u, hu⟩ : ∃ u, u = (if z2 = 0 then cmV ty x y else 0) := ⟨_, rfl⟩
              have e1' : evS (C1 (T + 8)) vr ((ca - cc).toNat + ((cd - ca).toNat + 1)) cc st 0 = some (u :: st, 0) := by
                rw [evS_add, g1']
                dsimp only
                rw [evS_add, show cc + ((ca - cc).toNat : Int) = ca by omega, g2']
                dsimp only
                rw [evS_one, show ca + ((cd - ca).toNat : Int) = cd by omega, k3, evO_sg cs, ← hu]
              cases hb : b with
              | false =>
                rw [bi_f, show (cd + 1 + 0 - cc).toNat = (ca - cc).toNat + ((cd - ca).toNat + 1) by omega, e1', val, hb, hu]
                by_cases zz : z2 = 0
                · rw [if_pos zz, if_pos zz, cmR_b, if_neg (by decide), cm_sg cs]
                · rw [if_neg zz, if_neg zz]; rfl
              | true =>
                rw [bi_t, show (cd + 1 + 1 - cc).toNat = ((ca - cc).toNat + ((cd - ca).toNat + 1)) + 1 by omega, evS_add, e1']
                dsimp only
                rw [evS_one, show cc + (((ca - cc).toNat + ((cd - ca).toNat + 1) : Nat) : Int) = cd + 1 by omega, k4 hb, evO_nt, val, hb, hu]
                by_cases zz : z2 = 0
                · rw [if_pos zz, if_pos zz, cmR_b, if_pos rfl, cm_sg cs]
                · rw [if_neg zz, if_neg zz]; rfl
          · -- the second E has a FAULT
            have kf := FT_fK ft fx3
            obtain ⟨C1, ⟨k19, M4, q1, q2, q3⟩, wk1⟩ := af40b (L := L) (a1 := a1) (a2 := a2) (a3 := a3) (a4 := bi b) (a5 := ty) kf
            exact ⟨C1, Rf, cE_tr cEf wk1.1, rKf, wk1.2.2, Or.inr ⟨FT_wk ft wk1, clb _ (bl_47_58 ⟨rfl, _, 1, p1, Cf, f1, k19, M4, q1, q2, q3⟩), go140b _ ⟨_, 1, p2, fun q => absurd q (by omega), fun _ => ⟨Rf, w, f2, fun q => absurd w0 q, fun _ => rfl⟩⟩⟩⟩
        · -- no ROOM for the sign
          have kf := FT_fK p3 (by rw [flC_c (by omega), ← hca]; omega)
          obtain ⟨K0, r44, w0⟩ := af44 (L := L) kf
          obtain ⟨C1, ⟨k19, M4, q1, q2, q3⟩, wk1⟩ := af40b (L := L) (a1 := a1) (a2 := a2) (a3 := a3) (a4 := bi b) (a5 := ty) (wk_fK kf w0)
          exact ⟨C1, flR Rd 2, cE_tr cEa (cE_tr ex1 (cE_tr (nF_E ht nF_fl) (cE_tr w0.1 wk1.1))), rK_tr rKd (rK_E (rE_fl rE_rf)), wk1.2.2, Or.inr ⟨FT_wk p3 (wk_tr w0 wk1), clb _ (bl_47_58 ⟨rfl, _, 0, p1, K0, r44, k19, M4, q1, q2, q3⟩), go140b _ ⟨_, 0, p2, fun _ => rfl, fun q => absurd rfl q⟩⟩⟩
      · -- no sign
        have fl := ST_fl (n := 1) s3c (by omega)
        have kf := FT_fK fl (by rw [flC_c (by omega), ← hca]; omega)
        obtain ⟨K0, r44, w0⟩ := af44 (L := L) kf
        obtain ⟨C1, ⟨k19, M4, q1, q2, q3⟩, wk1⟩ := af40b (L := L) (a1 := a1) (a2 := a2) (a3 := a3) (a4 := bi b) (a5 := ty) (wk_fK kf w0)
        have r29 := s_29n (L := L) (C := Cb) (t := 10) s3.2.2.1.1 hh3'.2.1 (by rw [bb3.2.1, ← hty]; omega)
        have k58 : aX xc_47 (aSeek xc_47 56) [aR 3, aI a1, aI a2, aI a3, aI (bi b), aI ty] [aR 3] (SH L) Cb ([], SH L, C1) := bl_47_56 (bl_47_58 ⟨rfl, _, 0, r29, K0, r44, k19, M4, q1, q2, q3⟩)
        refine ⟨C1, flR Rc 1, cE_tr cEa (cE_tr ex1 (cE_tr (nF_E ht nF_fl) (cE_tr w0.1 wk1.1))), rK_tr rKc (rK_E (rE_fl rE_rf)), wk1.2.2, Or.inr ⟨FT_wk fl (wk_tr w0 wk1), cls _ ⟨Cb, e1, Cb, ty, r26, fun _ => k58, fun _ => ⟨fun _ => k58, fun q => by omega⟩⟩, r32b _ ⟨fun _ => ⟨by omega, by omega, Rc, _, by rw [eRc]; exact s10, fun q => absurd (bin (by omega)) q, fun _ => ⟨Rc, _, s11, fun q => absurd (bin (by omega)) q, fun _ => ⟨Rc, _, s13, fun q => absurd (bin (by omega)) q, fun _ => ⟨Rc, _, s12, fun _ => bl_204_140 ⟨fun q => absurd rfl q, fun _ => ⟨_, 0, s_191 (ST_h s3c).2.2, Or.inl rfl, rfl⟩⟩, fun q => absurd (bin (by omega)) q⟩⟩⟩⟩, fun q => absurd (by omega) q⟩⟩⟩
    · -- the first E has a FAULT
      have kf := FT_fK ft ex3
      obtain ⟨C1, ⟨M4, v5, q1, q2⟩, wk1⟩ := af26 (L := L) (a1 := a1) (a2 := a2) (a3 := a3) (a4 := bi b) kf
      exact ⟨C1, Rb, cE_tr cEa (cE_tr ex1 wk1.1), rKb, wk1.2.2, Or.inr ⟨FT_wk ft wk1, cls _ ⟨Cb, e1, M4, v5, q1, q2⟩, r32b _ ⟨fun q => absurd v0 q, fun _ => rfl⟩⟩⟩
  · -- a not has no ROOM
    have kf := FT_fK ft cTa
    obtain ⟨K0, r44, w0⟩ := af44 (L := L) kf
    obtain ⟨C1, ⟨M4, v5, q1, q2⟩, wk1⟩ := af26 (L := L) (a1 := a1) (a2 := a2) (a3 := a3) (a4 := bi b) (wk_fK kf w0)
    exact ⟨C1, Ra, cE_tr cEa (cE_tr w0.1 wk1.1), rK_E n3, wk1.2.2, Or.inr ⟨FT_wk ft (wk_tr w0 wk1), cls _ ⟨K0, r44, M4, v5, q1, q2⟩, rfs _ r32⟩⟩
end LIT3
