/-! reading: the TELL piece -/
section KN3
variable {L : Nat} {C R C1 R1 C2 R2 K Q : aM}
def r8 (L : Nat) (k : Int) (R : aM) (o : aO) : Prop := ∃ (M3 : aM) (v4 : Int), aE 195 [aR 145, aI 20] (SH L) R ([aI v4], SH L, M3) ∧ ((v4 = 0 → (∃ (M5 : aM) (v6 : Int), aE 195 [aR 145, aI 21] (SH L) M3 ([aI v6], SH L, M5) ∧ ((v6 = 0 → aX xc_208 (aSeek xc_208 68) [aR 145, aI (14 + k)] [aI 1, aI (14 + k), aR 154] (SH L) M5 o) ∧ (¬ (v6 = 0) → aX xc_208 (aSeek xc_208 68) [aR 145, aI (14 + k)] [aI 3, aI (14 + k), aR 154] (SH L) M5 o)))) ∧ (¬ (v4 = 0) → aX xc_208 (aSeek xc_208 68) [aR 145, aI (14 + k)] [aI 2, aI (14 + k), aR 154] (SH L) M3 o))
def sorR (L : Nat) (C R Cs Rs : aM) (N : Nat) (T : Int) (h : Nat) (k : Int) : Prop := kdC T k C Cs ∧ kdR k R Rs ∧ (∀ o, aX xc_35 (aSeek xc_35 106) [aR 3, aI 27, aI k] [] (SH L) Cs o → aX xc_35 (aSeek xc_35 49) [aR 3, aI 27, aI k] [aI 1, aI k, aR (T + 2)] (SH L) C o) ∧
  ((∃ h1, h ≤ h1 ∧ ST Cs Rs N T h1 ∧ LT Cs Rs h1 ∧ (0 ≤ Cs (T + 2) k ∧ Cs (T + 2) k ≤ 3 ∧ Rs 154 (14 + k) = Cs (T + 2) k) ∧ (Cs 3 5 = 0 → C 3 5 = 0) ∧ ∀ o, aX xc_208 (aSeek xc_208 88) [aR 145, aI (14 + k)] [] (SH L) Rs o → r8 L k R o) ∨ (FT Cs Rs T ∧ r8 L k R ([aI 0], SH L, Rs)))
theorem sort_w {N h : Nat} {T k ty b : Int} (s : ST C R N T h) (l : LT C R h) (hk : 0 ≤ k ∧ k < 14) (q : C 5 (h : Int) = ty) (hb : (ty = 23 ∧ b = 2) ∨ (ty = 24 ∧ b = 3)) (r : ∀ o, aX xc_208 (aSeek xc_208 68) [aR 145, aI (14 + k)] [aI b, aI (14 + k), aR 154] (SH L) R o → r8 L k R o) : ∃ Cs Rs, sorR L C R Cs Rs N T h k := by
  have ht := s.2.2.2.2
  have t := tx_le ht
  have tt := tx (L := L) ht
  have bb := s.2.1
  have hh := ST_h s
  have l154 : aLn (SH L) 1 154 = 28 := rfl
  have n2 : aLn (SH L) 1 (T + 2) = 14 := tt.2.2.2.2.2.2.2.2.2.2.2.2.2.2.1
  obtain ⟨K0, hK0⟩ : ∃ K0, K0 = aSet C (T + 2) k 1 := ⟨_, rfl⟩
  obtain ⟨K1, hK1⟩ : ∃ K1, K1 = aSet K0 (T + 2) k b := ⟨_, rfl⟩
  obtain ⟨Q1, hQ1⟩ : ∃ Q1, Q1 = aSet R 154 (14 + k) b := ⟨_, rfl⟩
  have k0 : ∀ a, a ≠ T + 2 → K0 a = C a := fun a ha => by rw [hK0, aSet_c ha]
  have k1 : ∀ a, a ≠ T + 2 → K1 a = C a := fun a ha => by rw [hK1, aSet_c ha, k0 a ha]
  have q1 : ∀ a, a ≠ 154 → Q1 a = R a := fun a ha => by rw [hQ1, aSet_c ha]
  have r0 : aE 26 [aR 3] (SH L) K0 ([aI ty], SH L, K0) := by
    have := s_26 (L := L) (C := K0) (by rw [k0 3 (by omega)]; exact hh.2.1)
    rw [k0 3 (by omega), k0 5 (by omega), bb.2.1, q] at this
    exact this
  have r1 : aE 26 [aR 3] (SH L) K1 ([aI ty], SH L, K1) := by
    have := s_26 (L := L) (C := K1) (by rw [k1 3 (by omega)]; exact hh.2.1)
    rw [k1 3 (by omega), k1 5 (by omega), bb.2.1, q] at this
    exact this
  have s1 : ST K1 Q1 N T h := ST_cg s (fun a x y => k1 a (by omega)) (fun a x y => q1 a (by omega)) (fun j _ => by rw [k1 3 (by omega)]) (fun j _ _ => by rw [q1 145 (by omega)])
  have l1 : LT K1 Q1 h := by
    unfold LT LN
    rw [k1 3 (by omega), q1 145 (by omega), k1 6 (by omega)]
    exact l
  have cl : ∀ o {v : Int} {M : aM}, aE 29 [aR 3, aI ty] (SH L) K1 ([aI v], SH L, M) → aX xc_35 (aSeek xc_35 106) [aR 3, aI 27, aI k] [] (SH L) M o → aX xc_35 (aSeek xc_35 49) [aR 3, aI 27, aI k] [aI 1, aI k, aR (T + 2)] (SH L) C o := by
    intro o v M e x
    have k74 : aX xc_35 (aSeek xc_35 74) [aR 3, aI 27, aI k] [] (SH L) K0 o := by
      refine bl_35_74 ?_
      rw [k0 3 (by omega), s.2.2.2.1, tt.2.2.1]
      refine ⟨tt.1, K0, ty, r0, fun z => ?_, fun z => ?_⟩
      · refine bl_35_96 ⟨by rw [n2]; exact hk, K1, ty, ?_, M, v, e, x⟩
        have e := hK1; rw [show b = 3 by omega] at e; rw [← e]; exact r1
      · refine bl_35_96 ⟨by rw [n2]; exact hk, K1, ty, ?_, M, v, e, x⟩
        have e := hK1; rw [show b = 2 by omega] at e; rw [← e]; exact r1
    refine bl_35_49 ⟨by rw [n2]; exact hk, fun z => absurd rfl z, fun _ => ?_⟩
    rw [← hK0]
    exact ⟨K0, ty, r0, fun _ => k74, fun _ => ⟨K0, ty, r0, fun z => absurd z (by omega), fun _ => k74⟩⟩
  have c1 : kdC T k C K1 := by rw [hK1, hK0]; exact kdC_tr (kdC_s (by omega)) (kdC_s (by omega))
  have d1 : kdR k R Q1 := by rw [hQ1]; exact kdR_s (by omega)
  have rf : ∀ o {v : Int} {M : aM}, aE 193 [aR 145] (SH L) Q1 ([aI v], SH L, M) → (¬ v = 0 → aX xc_208 (aSeek xc_208 88) [aR 145, aI (14 + k)] [] (SH L) M o) → (¬ ¬ v = 0 → o = ([aI 0], SH L, M)) → r8 L k R o := by
    intro o v M e x y
    refine r o (bl_208_68 ⟨by omega, by omega, fun z => absurd z (by rw [aSet_e]; omega), fun _ => ⟨M, v, ?_, x, y⟩⟩)
    rw [← hQ1]; exact e
  rcases pass_y (L := L) (t := ty) s1 (by rw [k1 5 (by omega)]; exact q) (by omega) with ⟨h4, p1, p2, p3⟩ | ⟨h4, p1, p2, p3⟩
  · refine ⟨nxC K1, nxR Q1, kdC_tr c1 (kdC_nL nL_nx), kdR_tr d1 (kdR_nM nM_nx), fun o x => cl o p1 x, Or.inl ⟨h + 1, Nat.le_succ _, p3, LT_nx s1 l1 (by have := p3.2.1.1; omega), ?_, fun u => ?_, fun o x => rf o p2 (fun _ => x) (fun z => absurd (by omega) z)⟩⟩
    · rw [nxC_c (by omega), nxR_c (by omega), hK1, hQ1, aSet_e, aSet_e]
      omega
    · rw [nxC_3 (by omega), k1 3 (by omega)] at u; exact u
  · exact ⟨flC K1 2, flR Q1 2, kdC_tr c1 (kdC_nL nL_fl), kdR_tr d1 (kdR_nM nM_fl), fun o x => cl o p1 x, Or.inr ⟨p3, rf _ p2 (fun z => absurd rfl z) (fun _ => rfl)⟩⟩
theorem sort_27 {N h : Nat} {T k : Int} (s : ST C R N T h) (l : LT C R h) (hk : 0 ≤ k ∧ k < 14) : ∃ Cs Rs, sorR L C R Cs Rs N T h k := by
  have ht := s.2.2.2.2
  have t := tx_le ht
  have tt := tx (L := L) ht
  have bb := s.2.1
  have hh := ST_h s
  have tk := (ST_tk s).1
  have l154 : aLn (SH L) 1 154 = 28 := rfl
  have n2 : aLn (SH L) 1 (T + 2) = 14 := tt.2.2.2.2.2.2.2.2.2.2.2.2.2.2.1
  have w7 := tk_word (t := 7) tk (by omega)
  have w8 := tk_word (t := 8) tk (by omega)
  rw [show cmW ((7 : Nat) : Int) = 20 by decide] at w7
  rw [show cmW ((8 : Nat) : Int) = 21 by decide] at w8
  have r20 := s_195 (L := L) (R := R) (c := 20) hh.2.2
  have r21 := s_195 (L := L) (R := R) (c := 21) hh.2.2
  rw [bb.2.2] at r20 r21
  by_cases c7 : C 5 (h : Int) = 23
  · have b7 := w7.mp (by omega)
    rw [bip b7] at r20
    exact sort_w s l hk c7 (Or.inl ⟨rfl, rfl⟩) (fun o x => ⟨R, 1, r20, fun z => absurd z (by omega), fun _ => x⟩)
  · have n7 : ¬ (R 147 (h : Int) = 3 ∧ R 149 (h : Int) = 20) := fun z => c7 (by have := w7.mpr z; omega)
    rw [bin n7] at r20
    by_cases c8 : C 5 (h : Int) = 24
    · have b8 := w8.mp (by omega)
      rw [bip b8] at r21
      exact sort_w s l hk c8 (Or.inr ⟨rfl, rfl⟩) (fun o x => ⟨R, 0, r20, fun _ => ⟨R, 1, r21, fun z => absurd z (by omega), fun _ => x⟩, fun z => absurd rfl z⟩)
    · have n8 : ¬ (R 147 (h : Int) = 3 ∧ R 149 (h : Int) = 21) := fun z => c8 (by have := w8.mpr z; omega)
      rw [bin n8] at r21
      obtain ⟨K0, hK0⟩ : ∃ K0, K0 = aSet C (T + 2) k 1 := ⟨_, rfl⟩
      obtain ⟨Q1, hQ1⟩ : ∃ Q1, Q1 = aSet R 154 (14 + k) 1 := ⟨_, rfl⟩
      have k0 : ∀ a, a ≠ T + 2 → K0 a = C a := fun a ha => by rw [hK0, aSet_c ha]
      have q1 : ∀ a, a ≠ 154 → Q1 a = R a := fun a ha => by rw [hQ1, aSet_c ha]
      have r0 := s_26 (L := L) (C := K0) (by rw [k0 3 (by omega)]; exact hh.2.1)
      rw [k0 3 (by omega), k0 5 (by omega), bb.2.1] at r0
      refine ⟨K0, Q1, by rw [hK0]; exact kdC_s (by omega), by rw [hQ1]; exact kdR_s (by omega), fun o x => bl_35_49 ⟨by rw [n2]; exact hk, fun z => absurd rfl z, fun _ => ?_⟩, Or.inl ⟨h, Nat.le_refl _, ST_cg s (fun a x y => k0 a (by omega)) (fun a x y => q1 a (by omega)) (fun j _ => by rw [k0 3 (by omega)]) (fun j _ _ => by rw [q1 145 (by omega)]), ?_, ?_, fun u => by rw [k0 3 (by omega)] at u; exact u, fun o x => ⟨R, 0, r20, fun _ => ⟨R, 0, r21, fun _ => bl_208_68 ⟨by omega, by omega, fun _ => by rw [← hQ1]; exact x, fun z => absurd (by rw [aSet_e]; omega) z⟩, fun z => absurd rfl z⟩, fun z => absurd rfl z⟩⟩⟩
      · rw [← hK0]
        exact ⟨K0, _, r0, fun z => absurd z c7, fun _ => ⟨K0, _, r0, fun _ => x, fun z => absurd z (not_not_intro c8)⟩⟩
      · unfold LT LN
        rw [k0 3 (by omega), q1 145 (by omega), k0 6 (by omega)]
        exact l
      · rw [hK0, hQ1, aSet_e, aSet_e]; omega
theorem tell_piece {N h : Nat} {T : Int} (d : RD C R N T h) (q : C 5 (h : Int) = 27) : ∃ C1 R1 v, aE 35 [aR 3, aI 27] (SH L) C ([], SH L, C1) ∧ aE 208 [aR 145] (SH L) R ([aI v], SH L, R1) ∧ bdE C R C1 R1 N T h v := by
  have s := d.1
  have ht := s.2.2.2.2
  have t := tx_le ht
  have t19 : aK (SH L) T = 19 := (tx ht).1
  have f8 : aF (SH L) T 8 = T + 5 := (tx ht).2.2.2.2.2.1
  have kd := d.2.2.2.1
  have l157 : aLn (SH L) 1 157 = 28 := rfl
  obtain ⟨k, ck⟩ : ∃ k, k = C T 3 := ⟨_, rfl⟩
  have k01 := kd.1
  rw [← ck] at k01
  have e14 : aW (14 + R 153 1) = 14 + k := by rw [k01.2.2]; exact aWi (by omega) (by omega)
  by_cases hk : k < 14
  · have n2 : aLn (SH L) 1 (T + 2) = 14 := (tx ht).2.2.2.2.2.2.2.2.2.2.2.2.2.2.1
    have g35 : ∀ {M1 : aM} {v : Int}, aE 29 [aR 3, aI 27] (SH L) C ([aI v], SH L, M1) → M1 3 3 = T → ∀ o, aX xc_35 (aSeek xc_35 49) [aR 3, aI 27, aI k] [aI 1, aI k, aR (T + 2)] (SH L) M1 o → aE 35 [aR 3, aI 27] (SH L) C o := by
      intro M1 v e t1 o x
      refine e_35 (L := L) (a1 := 27) ht s.2.2.2.1 (by omega) e t1 o ?_
      rw [if_neg (by omega), ← ck]
      exact x
    rcases pass_y (L := L) s q (by omega) with ⟨h4, p1, p2, p3⟩ | ⟨h4, p1, p2, p3⟩
    · have d1 := RD_nx d p3
      obtain ⟨Cs, Rs, m1, m2, m3, m4⟩ := sort_27 (L := L) (k := k) p3 d1.2.1 ⟨k01.1, hk⟩
      have cs : kdC T k C Cs := kdC_tr (kdC_nL nL_nx) m1
      have rs : kdR k R Rs := kdR_tr (kdR_nM nM_nx) m2
      have n33 : nxC C 3 3 = T := by rw [nxC_3 (by omega)]; exact s.2.2.2.1
      have g208 : ∀ o, r8 L k (nxR R) o → aE 208 [aR 145] (SH L) R o := fun o x => en_208 ⟨fun _ => ⟨_, 1, p2, fun _ => by rw [e14]; exact x, fun z => absurd (by omega) z⟩, fun z => absurd (by omega) z⟩
      have csk : Cs T 3 = k := by rw [cs T 3 (by omega) (by omega), ← ck]
      rcases m4 with ⟨h1, hh1, s1, l1, so, z1, m5⟩ | ⟨ft, m5⟩
      · obtain ⟨C3, R3, v, a1, a2, a3, a4, a5⟩ := kin2 (L := L) (a1 := 27) (k := k) s1 l1 ⟨k01.1, hk⟩ csk (by rw [rs.1 153 1 (by omega) (by omega), k01.2.2]) (fun j j0 j1 => by
          rw [cs (T + 1) j (by omega) (by omega), rs.1 158 _ (by omega) (by omega)]
          exact (kd.2 j j0 (by omega)).2.2.2.2.1)
        have cF := kdC_tr cs a3
        have rF := kdR_tr rs a4
        have c3k : C3 T 3 = k := by rw [cF T 3 (by omega) (by omega), ← ck]
        have t3 : C3 3 3 = T := by
          rcases a5 with ⟨-, x, -⟩ | ⟨-, x⟩
          · exact x.2.2.2.1
          · exact x.2.2.2.2.1
        have run : ∀ o, (∃ (M6 : aM) (v7 : Int), aE 32 [aR 3, aI 0, aI 99] (SH L) C3 ([aI v7], SH L, M6) ∧ aX xc_35 (aSeek xc_35 167) [aR 3, aU, aU] [aI v7, aI k, aR (T + 5)] (SH L) M6 o) → aE 35 [aR 3, aI 27] (SH L) C o := fun o x => g35 p1 n33 _ (m3 _ (a1 _ ⟨by rw [t3]; exact t19, fun z => absurd rfl z, fun _ => by rw [t3, f8]; exact x⟩))
        rcases a5 with ⟨v1, s3, l3, n3, e5, e6, e2, z3⟩ | ⟨v0, ft⟩
        · obtain ⟨Cb, Rb, x, w, c1, c2, c3, c4, c5⟩ := int_put (L := L) (lo := 0) (hi := 99) (ca := T + 5) (cj := k) (ra := 157) (rj := 14 + k) s3 l3 (by omega) (by omega)
          have cb := kdC_tr cF (kdC_nL (T := T) (k := k) c3)
          have rb := kdR_tr rF (kdR_nM (k := k) c4)
          have cb3 : Cb T 3 = k := by rw [cb T 3 (by omega) (by omega), ← ck]
          have tb : Cb 3 3 = T := by rw [c3.2 3 (by omega), t3]
          have runF := run _ ⟨Cb, x, c1, c167 ht ⟨k01.1, hk⟩ tb cb3⟩
          have cZF : cZ T C (aSet (aSet Cb (T + 5) k x) T 3 (k + 1)) := cZ_tr (cZ_kd cb) (cZ_tr (cZ_s (by omega)) (cZ_s (by omega)))
          rcases c5 with ⟨w1, e53, s4, l4, z4⟩ | ⟨w0, ft⟩
          · obtain ⟨Q, hQ⟩ : ∃ Q, Q = aSet Rb 157 (14 + k) x := ⟨_, rfl⟩
            rw [← hQ] at s4 l4
            have rQ : kdR k R Q := by rw [hQ]; exact kdR_tr rb (kdR_s (by omega))
            have q153 : Q 153 1 = k := by rw [rQ.1 153 1 (by omega) (by omega), k01.2.2]
            have nw := RD_kind (K := aSet Cb (T + 5) k x) (Q := Q) d (by omega) ck.symm hk s4 l4 (kdC_tr cb (kdC_s (by omega))) rQ
              (fun u => by
                have y4 := z4 u
                have y3 := z3 y4.1
                have y1 := z1 y3.1
                rw [nxC_3 (by omega)] at y1
                rw [aSet_c (show T + 3 ≠ T + 5 by omega), aSet_c (show T + 4 ≠ T + 5 by omega), aSet_e, c3.1 (T + 3) (by omega), c3.1 (T + 4) (by omega)]
                exact ⟨y1, y3.2.1, y3.2.2, y4.2⟩)
              (by
                rw [aSet_c (show T + 2 ≠ T + 5 by omega), c3.1 (T + 2) (by omega), e2.1, hQ, aSet_c (by omega), c4.1 154 (by omega), e2.2]
                exact so)
              (by rw [hQ, aSet_c (by omega), c4.1 155 (by omega), aSet_c (by omega), c3.1 (T + 3) (by omega)]; exact e5) (by rw [hQ, aSet_c (by omega), c4.1 156 (by omega), aSet_c (by omega), c3.1 (T + 4) (by omega)]; exact e6) (by rw [hQ, aSet_e, aSet_e]) (by rw [hQ, aSet_c (show T + 1 ≠ T + 5 by omega), aSet_c (show (158 : Int) ≠ 157 by omega), c4.1 158 (by omega), c3.1 (T + 1) (by omega)]; exact n3)
            refine ⟨_, aSet Q 153 1 (k + 1), 1, runF, g208 _ (m5 _ (bl_208_88 ⟨R3, v, a2, fun z => absurd z (by omega), fun _ => ⟨Rb, w, c2, fun _ => ?_, fun z => absurd (by omega) z⟩⟩)), cZF, rZ_tr (rZ_kd rQ k01.1) (rZ_s (by unfold zR; omega)), Or.inl ⟨rfl, _, by omega, nw⟩⟩
            rw [e53.1, ← hQ, q153, aWi (z := k + 1) (by omega) (by omega)]
            exact ⟨by omega, rfl⟩
          · exact ⟨_, Rb, 0, runF, g208 _ (m5 _ (bl_208_88 ⟨R3, v, a2, fun z => absurd z (by omega), fun _ => ⟨Rb, w, c2, fun z => absurd w0 z, fun _ => rfl⟩⟩)), cZF, rZ_kd rb k01.1, Or.inr ⟨rfl, FT_T (FT_T ft (by omega)) (by omega)⟩⟩
        · obtain ⟨x, c1⟩ := int_f (L := L) (lo := 0) (hi := 99) ft
          exact ⟨_, R3, 0, run _ ⟨C3, x, c1, c167 ht ⟨k01.1, hk⟩ t3 c3k⟩, g208 _ (m5 _ (bl_208_88 ⟨R3, v, a2, fun _ => rfl, fun z => absurd v0 z⟩)), cZ_tr (cZ_kd cF) (cZ_tr (cZ_s (by omega)) (cZ_s (by omega))), rZ_kd rF k01.1, Or.inr ⟨rfl, FT_T (FT_T ft (by omega)) (by omega)⟩⟩
      · obtain ⟨C1, r1, r2, r3⟩ := kin_f (L := L) (a1 := 27) ft ⟨k01.1, hk⟩ csk
        exact ⟨C1, Rs, 0, g35 p1 n33 _ (m3 _ r1), g208 _ m5, cZ_tr (cZ_kd cs) r2, rZ_kd rs k01.1, Or.inr ⟨rfl, r3⟩⟩
    · -- behind the fault
      have ft2 : FT (aSet (flC C 2) (T + 2) k 1) (flR R 2) T := FT_T p3 (by omega)
      have so := tk_so (ST_tk s).1
      obtain ⟨C1, r1, r2, r3⟩ := kin_f (L := L) (a1 := 27) ft2 ⟨k01.1, hk⟩ (by rw [aSet_c (by omega), flC_c (by omega), ck])
      have u26 := s_26 (L := L) (C := aSet (flC C 2) (T + 2) k 1) ft2.2.2.2.1
      have e5 : (aSet (flC C 2) (T + 2) k 1) 5 ((aSet (flC C 2) (T + 2) k 1) 3 4) = 27 := by rw [aSet_c (by omega), aSet_c (by omega), flC_c (by omega), flC_3 (by omega), s.2.1.2.1]; exact q
      rw [e5] at u26
      exact ⟨C1, flR R 2, 0, g35 p1 p3.2.2.2.2.1 _ (bl_35_49 ⟨by rw [n2]; omega, fun z => absurd rfl z, fun _ => ⟨_, 27, u26, fun z => absurd z (by omega), fun _ => ⟨_, 27, u26, fun _ => r1, fun z => absurd (show ¬ (27 : Int) = 24 by omega) z⟩⟩⟩), en_208 ⟨fun _ => ⟨_, 0, p2, fun z => absurd rfl z, fun _ => rfl⟩, fun z => absurd (by omega) z⟩, cZ_tr (cZ_nL nL_fl) (cZ_tr (cZ_s (by omega)) r2), rZ_nM nM_fl, Or.inr ⟨rfl, r3⟩⟩
  · obtain ⟨-, r, f⟩ := full (L := L) s (n := 2) (by omega)
    exact ⟨_, _, 0, e_35f s (by omega), en_208 ⟨fun z => absurd (by omega) z, fun _ => ⟨_, 0, r, Or.inl rfl, rfl⟩⟩, cZ_nL nL_fl, rZ_nM nM_fl, Or.inr ⟨rfl, f⟩⟩
end KN3
