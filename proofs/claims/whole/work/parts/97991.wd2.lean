/-! reading: the TELL wedge -/
section WD2
variable {L : Nat} {C R C1 R1 C2 R2 K Q : aM}
theorem c38 {T w x y v v1 ty : Int} {M1 M9 M11 M13 : aM} (ht : isTx T) (t3 : C 3 3 = T) (cw : C T 9 = w) (w0 : 0 ≤ w ∧ w < 6) (e1 : aE 29 [aR 3, aI 28] (SH L) C ([aI v], SH L, M1)) (e2 : aE 26 [aR 3] (SH L) M1 ([aI ty], SH L, M1)) (sd : 29 ≤ ty ∧ ty ≤ 32) (e3 : aE 29 [aR 3, aI ty] (SH L) M1 ([aI v1], SH L, M9)) (e4 : aE 32 [aR 3, aI 0, aI 9999] (SH L) M9 ([aI x], SH L, M11)) (e5 : aE 32 [aR 3, aI (aW (x + 1)), aI 60] (SH L) M11 ([aI y], SH L, M13)) (t13 : M13 3 3 = T) (w13 : M13 T 9 = w) : aE 38 [aR 3] (SH L) C ([], SH L, aSet (aSet (aSet M13 (T + 6) w (ty - 29)) (T + 7) w (spn x y)) T 9 (w + 1)) := by
  have t := tx_le ht
  have t19 : aK (SH L) T = 19 := (tx ht).1
  have f10 : aF (SH L) T 10 = T + 6 := (tx ht).2.2.2.2.2.2.1
  have f11 : aF (SH L) T 11 = T + 7 := (tx ht).2.2.2.2.2.2.2.1
  have n6 : aLn (SH L) 1 (T + 6) = 6 := by rcases ht with rfl | rfl <;> rfl
  have n7 : aLn (SH L) 2 (T + 7) = 6 := by rcases ht with rfl | rfl <;> rfl
  have s36 := s_36 (L := L) (M := M1) (a0 := ty - 29)
  rw [bip (by omega)] at s36
  have ea : aW (ty - 29) = ty - 29 := aWi (by omega) (by omega)
  refine en_38 ?_
  rw [t3, cw]
  refine ⟨t19, fun _ => ⟨M1, v, e1, M1, ty, e2, M1, 1, by rw [ea]; exact s36, fun _ => ⟨M1, ty, e2, M9, v1, e3, M11, x, e4, M13, y, e5, ?_⟩, fun z => absurd (by omega) z⟩, fun z => absurd w0.2 z⟩
  have u1 : (aSet M13 (T + 6) w (ty - 29)) 3 3 = T := by rw [aSet_c (by omega), t13]
  have u2 : (aSet (aSet M13 (T + 6) w (ty - 29)) (T + 7) w (spn x y)) 3 3 = T := by rw [aSet_c (by omega), u1]
  have u3 : (aSet (aSet M13 (T + 6) w (ty - 29)) (T + 7) w (spn x y)) T 9 = w := by rw [aSet_c (by omega), aSet_c (by omega), w13]
  have ew : aW (w + 1) = w + 1 := aWi (by omega) (by omega)
  rw [t13, f10, n6, ea, u1, f11, n7]
  refine ⟨t19, w0, t19, _, _, s_37, w0, ?_⟩
  rw [u2, u3, ew]
  exact ⟨t19, t19, rfl⟩
theorem c38n {T w v ty : Int} {M1 M2 : aM} (ht : isTx T) (t3 : C 3 3 = T) (cw : C T 9 = w) (w0 : 0 ≤ w ∧ w < 6) (e1 : aE 29 [aR 3, aI 28] (SH L) C ([aI v], SH L, M1)) (e2 : aE 26 [aR 3] (SH L) M1 ([aI ty], SH L, M1)) (sd : ¬ (29 ≤ ty ∧ ty ≤ 32)) (tr : 0 ≤ ty ∧ ty ≤ 39) (e3 : ∃ M3 v3, aE 27 [aR 3] (SH L) M1 ([aI v3], SH L, M3) ∧ aE 28 [aR 3, aI 1, aI v3] (SH L) M3 ([], SH L, M2)) : aE 38 [aR 3] (SH L) C ([], SH L, M2) := by
  have t19 : aK (SH L) T = 19 := (tx ht).1
  have s36 := s_36 (L := L) (M := M1) (a0 := ty - 29)
  rw [bin (by omega)] at s36
  have ea : aW (ty - 29) = ty - 29 := aWi (by omega) (by omega)
  obtain ⟨M3, v3, x, y⟩ := e3
  refine en_38 ?_
  rw [t3, cw]
  exact ⟨t19, fun _ => ⟨M1, v, e1, M1, ty, e2, M1, 0, by rw [ea]; exact s36, fun z => absurd rfl z, fun _ => ⟨M3, v3, x, M2, y, rfl⟩⟩, fun z => absurd w0.2 z⟩
theorem tell_wedge {N h : Nat} {T : Int} (d : RD C R N T h) (q : C 5 (h : Int) = 28) : ∃ C1 R1 v, aE 38 [aR 3] (SH L) C ([], SH L, C1) ∧ aE 209 [aR 145] (SH L) R ([aI v], SH L, R1) ∧ bdE C R C1 R1 N T h v := by
  have s := d.1
  have ht := s.2.2.2.2
  have t := tx_le ht
  have wd := d.2.2.2.2.2.1
  have l160 : aLn (SH L) 1 160 = 12 := rfl
  have l161 : aLn (SH L) 1 161 = 12 := rfl
  have l162 : aLn (SH L) 1 162 = 12 := rfl
  obtain ⟨w, cw⟩ : ∃ w, w = C T 9 := ⟨_, rfl⟩
  have w01 := wd.1
  rw [← cw] at w01
  have e6 : aW (6 + R 159 1) = 6 + w := by rw [w01.2.2]; exact aWi (by omega) (by omega)
  by_cases hw : w < 6
  · rcases pass_y (L := L) s q (by omega) with ⟨h4, p1, p2, p3⟩ | ⟨h4, p1, p2, p3⟩
    · have d1 := RD_nx d p3
      have hh := ST_h p3
      have tk := (ST_tk p3).1
      have so := tk_so tk
      have g209 : ∀ o, s9 L (6 + w) (nxR R) o → aE 209 [aR 145] (SH L) R o := fun o x => en_209 ⟨fun _ => ⟨_, 1, p2, fun _ => by rw [e6]; exact x, fun z => absurd (by omega) z⟩, fun z => absurd (by omega) z⟩
      obtain ⟨ty, hty⟩ : ∃ ty, ty = (nxC C) 5 ((h + 1 : Nat) : Int) := ⟨_, rfl⟩
      have r26 := s_26 (L := L) (C := nxC C) hh.2.1
      rw [p3.2.1.2.1, ← hty] at r26
      by_cases c : 29 ≤ ty ∧ ty ≤ 32
      · have esd : sid ty = ty - 29 := if_pos c
        have sl := SL_r (ra := 160) (rj := 6 + w) (y := ty - 29) p3 d1.2.1 (by omega)
        have g9 : ∀ o, (∃ (M1 : aM) (v2 : Int), aE 193 [aR 145] (SH L) (aSet (nxR R) 160 (6 + w) (ty - 29)) ([aI v2], SH L, M1) ∧ ((v2 = 0 → o = ([aI 0], SH L, M1)) ∧ (¬ (v2 = 0) → (∃ (M3 : aM) (v4 : Int), aE 197 [aR 145, aI 0, aI 9999] (SH L) M1 ([aI v4], SH L, M3) ∧ ((¬ v4 = 0 → (0 ≤ 6 + w ∧ 6 + w < aLn (SH L) 1 161) ∧ (∃ (M5 : aM) (v6 : Int), aE 197 [aR 145, aI (aW (((aSet M3 161 (6 + w) (M3 145 53)) 145 53) + 1)), aI 60] (SH L) (aSet M3 161 (6 + w) (M3 145 53)) ([aI v6], SH L, M5) ∧ ((¬ v6 = 0 → (0 ≤ 6 + w ∧ 6 + w < aLn (SH L) 1 162) ∧ o = ([aI 1], SH L, aSet (aSet M5 162 (6 + w) (M5 145 53)) 159 1 (aW (((aSet M5 162 (6 + w) (M5 145 53)) 159 1) + 1)))) ∧ (¬ (¬ v6 = 0) → o = ([aI 0], SH L, M5))))) ∧ (¬ (¬ v4 = 0) → o = ([aI 0], SH L, M3))))))) → aE 209 [aR 145] (SH L) R o := by
          intro o x
          refine g209 o (s9_of p3 o ?_)
          rw [← hty, esd]
          exact bl_209_89 ⟨fun _ => ⟨by omega, x⟩, fun z => absurd (by omega) z⟩
        rcases pass_y (L := L) (t := ty) sl.1 hty.symm (by omega) with ⟨g4, y1, y2, y3⟩ | ⟨g4, y1, y2, y3⟩
        · have lw := LT_nx sl.1 sl.2 (by have := y3.2.1.1; omega)
          obtain ⟨Ca, Ra, x, v, a1, a2, a3, a4, a5⟩ := int_pair (L := L) (lo := 0) (hi := 9999) y3 lw
          have rz1 : rZ R Ra := rZ_tr (rZ_nM nM_nx) (rZ_tr (rZ_s (by unfold zR; omega)) (rZ_nM (nM_tr nM_nx a4)))
          have cl1 : nL C Ca := nL_tr nL_nx (nL_tr nL_nx a3)
          rcases a5 with ⟨v1, s2, l2, e53, xb, xz⟩ | ⟨v0, ft⟩
          · have ex : aW (x + 1) = x + 1 := aWi (by omega) (by omega)
            have sl2 := SL_r (ra := 161) (rj := 6 + w) (y := x) s2 l2 (by omega)
            obtain ⟨Cb, Rb, y, u, b1, b2, b3, b4, b5⟩ := int_pair (L := L) (lo := x + 1) (hi := 60) sl2.1 sl2.2
            have cl2 := nL_tr cl1 b3
            have tb : Cb 3 3 = T := by rw [cl2.2 3 (by omega)]; exact s.2.2.2.1
            have run := c38 (L := L) ht s.2.2.2.1 cw.symm ⟨w01.1, hw⟩ p1 r26 c y1 a1 (by rw [ex]; exact b1) tb (by rw [cl2.1 T (by omega), ← cw])
            have cz : cZ T C (aSet (aSet (aSet Cb (T + 6) w (ty - 29)) (T + 7) w (spn x y)) T 9 (w + 1)) := cZ_tr (cZ_nL cl2) (cZ_tr (cZ_s (by omega)) (cZ_tr (cZ_s (by omega)) (cZ_s (by omega))))
            have rz2 : rZ R Rb := rZ_tr rz1 (rZ_tr (rZ_s (by unfold zR; omega)) (rZ_nM b4))
            have e145 : (aSet Ra 161 (6 + w) x) 145 53 = x := by rw [aSet_c (by omega), e53]
            rcases b5 with ⟨u1, s3, l3, f53, yb, yz⟩ | ⟨u0, ft⟩
            · have sl3 := SL_r (ra := 162) (rj := 6 + w) (y := y) s3 l3 (by omega)
              have sl4 := SL_c (ca := T + 6) (cj := w) (y := ty - 29) sl3.1 sl3.2 (by omega)
              have sl5 := SL_c (ca := T + 7) (cj := w) (y := spn x y) sl4.1 sl4.2 (by omega)
              have q9 : (aSet Rb 162 (6 + w) y) 159 1 = w := by rw [aSet_c (by omega), b4.1 159 (by omega), aSet_c (by omega), a4.1 159 (by omega), nxR_c (by omega), aSet_c (by omega), nxR_c (by omega), w01.2.2]
              have nw := RD_wedge (sd := ty - 29) (x := x) (y := y) d (show h ≤ h + 1 + 1 + 1 + 1 by omega) cw.symm hw sl5.1 sl5.2 (fun a x1 x2 x3 => by rw [aSet_c x3, aSet_c x2, cl2.1 a x1]) (fun j hj => ⟨by rw [aSet_c (by omega), aSet_i hj, cl2.1 (T + 6) (by omega)], by rw [aSet_i hj, aSet_c (by omega), cl2.1 (T + 7) (by omega)]⟩) (fun a x1 x2 => by rw [aSet_c (by omega), b4.1 a (by omega), aSet_c (by omega), a4.1 a (by omega), nxR_c (by omega), aSet_c (by omega), nxR_c (by omega)]) (fun j hj => ⟨by rw [aSet_c (by omega), b4.1 160 (by omega), aSet_c (by omega), a4.1 160 (by omega), nxR_c (by omega), aSet_i hj, nxR_c (by omega)], by rw [aSet_c (by omega), b4.1 161 (by omega), aSet_i hj, a4.1 161 (by omega), nxR_c (by omega), aSet_c (by omega), nxR_c (by omega)], by rw [aSet_i hj, b4.1 162 (by omega), aSet_c (by omega), a4.1 162 (by omega), nxR_c (by omega), aSet_c (by omega), nxR_c (by omega)]⟩)
                ⟨⟨by rw [aSet_c (by omega), aSet_e], aSet_e⟩, by rw [aSet_c (by omega), b4.1 160 (by omega), aSet_c (by omega), a4.1 160 (by omega), nxR_c (by omega), aSet_e], by rw [aSet_c (by omega), b4.1 161 (by omega), aSet_e], aSet_e⟩ (by omega) (fun z => by
                  rw [aSet_c (by omega), aSet_c (by omega)] at z
                  have z2 := yz z
                  have z3 := xz z2.1
                  rw [nxC_3 (by omega), nxC_3 (by omega)] at z3
                  exact ⟨z3.1, by omega⟩)
              refine ⟨_, aSet (aSet Rb 162 (6 + w) y) 159 1 (w + 1), 1, run, g9 _ ⟨_, 1, y2, fun z => absurd z (by omega), fun _ => ⟨Ra, v, a2, fun _ => ⟨by omega, Rb, u, ?_, fun _ => ⟨by omega, ?_⟩, fun z => absurd (by omega) z⟩, fun z => absurd (by omega) z⟩⟩, cz, rZ_tr rz2 (rZ_tr (rZ_s (by unfold zR; omega)) (rZ_s (by unfold zR; omega))), Or.inl ⟨rfl, _, by omega, nw⟩⟩
              · rw [e53, e145, ex]; exact b2
              · rw [f53, q9, aWi (z := w + 1) (by omega) (by omega)]
            · refine ⟨_, Rb, 0, run, g9 _ ⟨_, 1, y2, fun z => absurd z (by omega), fun _ => ⟨Ra, v, a2, fun _ => ⟨by omega, Rb, u, ?_, fun z => absurd u0 z, fun _ => rfl⟩, fun z => absurd (by omega) z⟩⟩, cz, rz2, Or.inr ⟨rfl, FT_T (FT_T (FT_T ft (by omega)) (by omega)) (by omega)⟩⟩
              rw [e53, e145, ex]; exact b2
          · obtain ⟨y, b1⟩ := int_f (L := L) (lo := aW (x + 1)) (hi := 60) ft
            exact ⟨_, Ra, 0, c38 (L := L) ht s.2.2.2.1 cw.symm ⟨w01.1, hw⟩ p1 r26 c y1 a1 b1 ft.2.2.2.2.1 (by rw [cl1.1 T (by omega), ← cw]), g9 _ ⟨_, 1, y2, fun z => absurd z (by omega), fun _ => ⟨Ra, v, a2, fun z => absurd v0 z, fun _ => rfl⟩⟩, cZ_tr (cZ_nL cl1) (cZ_tr (cZ_s (by omega)) (cZ_tr (cZ_s (by omega)) (cZ_s (by omega)))), rz1, Or.inr ⟨rfl, FT_T (FT_T (FT_T ft (by omega)) (by omega)) (by omega)⟩⟩
        · obtain ⟨x, b0⟩ := int_f (L := L) (lo := 0) (hi := 9999) y3
          obtain ⟨y, b1⟩ := int_f (L := L) (lo := aW (x + 1)) (hi := 60) y3
          have cl1 : nL C (flC (nxC C) 2) := nL_tr nL_nx nL_fl
          exact ⟨_, _, 0, c38 (L := L) ht s.2.2.2.1 cw.symm ⟨w01.1, hw⟩ p1 r26 c y1 b0 b1 y3.2.2.2.2.1 (by rw [cl1.1 T (by omega), ← cw]), g9 _ ⟨_, 0, y2, fun _ => rfl, fun z => absurd rfl z⟩, cZ_tr (cZ_nL cl1) (cZ_tr (cZ_s (by omega)) (cZ_tr (cZ_s (by omega)) (cZ_s (by omega)))), rZ_tr (rZ_nM nM_nx) (rZ_tr (rZ_s (by unfold zR; omega)) (rZ_nM nM_fl)), Or.inr ⟨rfl, FT_T (FT_T (FT_T y3 (by omega)) (by omega)) (by omega)⟩⟩
      · obtain ⟨f1, f2, f3⟩ := full (L := L) p3 (n := 1) (by omega)
        have esd : sid ty = -1 := if_neg c
        have t0 : 0 ≤ ty ∧ ty ≤ 39 := by
          rw [hty]
          refine ⟨?_, so.2.2.2.2.1⟩
          rcases tk with ⟨a, _⟩ | ⟨a, _⟩ | ⟨a, _⟩ | ⟨a, _⟩ | ⟨_, a, _⟩ | ⟨_, _, _, a, _⟩ <;> omega
        refine ⟨_, _, 0, c38n ht s.2.2.2.1 cw.symm ⟨w01.1, hw⟩ p1 r26 c t0 f1, g209 _ (s9_of p3 _ ?_), cZ_nL (nL_tr nL_nx nL_fl), rZ_nM (nM_tr nM_nx nM_fl), Or.inr ⟨rfl, f3⟩⟩
        rw [← hty, esd]
        exact bl_209_89 ⟨fun z => absurd z (by omega), fun _ => ⟨_, 0, f2, Or.inl rfl, rfl⟩⟩
    · have r26 := s_26 (L := L) (C := flC C 2) p3.2.2.2.1
      rw [flC_c (by omega), flC_3 (by omega), s.2.1.2.1, q] at r26
      exact ⟨_, _, 0, c38n ht s.2.2.2.1 cw.symm ⟨w01.1, hw⟩ p1 r26 (by omega) (by omega) ⟨_, _, s_27 p3.2.2.2.1, s_28f p3.1⟩, en_209 ⟨fun _ => ⟨_, 0, p2, fun z => absurd rfl z, fun _ => rfl⟩, fun z => absurd (by omega) z⟩, cZ_nL nL_fl, rZ_nM nM_fl, Or.inr ⟨rfl, p3⟩⟩
  · obtain ⟨⟨M2, v, f1, f1'⟩, r, f⟩ := full (L := L) s (n := 2) (by omega)
    refine ⟨_, _, 0, en_38 ?_, en_209 ⟨fun z => absurd (by omega) z, fun _ => ⟨_, 0, r, Or.inl rfl, rfl⟩⟩, cZ_nL nL_fl, rZ_nM nM_fl, Or.inr ⟨rfl, f⟩⟩
    rw [s.2.2.2.1, ← cw]
    exact ⟨(tx ht).1, fun z => absurd z hw, fun _ => ⟨M2, v, f1, _, f1', rfl⟩⟩
end WD2
