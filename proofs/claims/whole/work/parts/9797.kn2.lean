/-! reading: the TELLs block and piece -/
section KN2
variable {L : Nat} {C R C1 R1 C2 R2 K Q : aM}
theorem LT_k {h : Nat} {T k : Int} (l : LT C R h) (t : 9 ≤ T) (c : kdC T k C C1) (c3 : C1 3 = C 3) (r3 : R1 145 = R 145) : LT C1 R1 h := by
  unfold LT LN
  rw [c3, r3, show C1 6 = C 6 from funext fun b => c 6 b (by omega) (by omega)]
  exact l
/-- no room for one more -/
theorem full {N h : Nat} {T n : Int} (s : ST C R N T h) (hn : n ≠ 0) : (∃ M2 v, aE 27 [aR 3] (SH L) C ([aI v], SH L, M2) ∧ aE 28 [aR 3, aI n, aI v] (SH L) M2 ([], SH L, flC C n)) ∧ aE 191 [aR 145, aI n] (SH L) R ([aI 0], SH L, flR R n) ∧ FT (flC C n) (flR R n) T := by
  have hh := ST_h s
  have r := s_28 (L := L) (C := C) (n := n) (p := C 6 (C 3 4))
  rw [if_pos s.2.2.1.1] at r
  exact ⟨⟨C, _, s_27 hh.2.1, r⟩, s_191 hh.2.2, ST_fl s hn⟩
theorem e_35 {T a1 : Int} (ht : isTx T) (t3 : C 3 3 = T) (hk : C T 3 < 14) {M1 : aM} {v : Int} (e : aE 29 [aR 3, aI a1] (SH L) C ([aI v], SH L, M1)) (t1 : M1 3 3 = T) (o : aO) (h : aX xc_35 (aSeek xc_35 49) [aR 3, aI a1, aI (C T 3)] [aI (if a1 = 26 then 0 else 1), aI (C T 3), aR (T + 2)] (SH L) M1 o) : aE 35 [aR 3, aI a1] (SH L) C o := by
  have tt := tx (L := L) ht
  refine en_35 ?_
  rw [t3]
  refine ⟨tt.1, fun _ => ⟨M1, v, e, by rw [t1]; exact tt.1, fun q => ?_, fun q => ?_⟩, fun q => absurd hk q⟩
  · rw [t1, tt.2.2.1]; rw [if_neg q] at h; exact h
  · rw [t1, tt.2.2.1]; rw [if_pos (Classical.not_not.mp q)] at h; exact h
theorem e_35f {N h : Nat} {T a1 : Int} (s : ST C R N T h) (hk : ¬ C T 3 < 14) : aE 35 [aR 3, aI a1] (SH L) C ([], SH L, flC C 2) := by
  have tt := tx (L := L) s.2.2.2.2
  obtain ⟨⟨M2, v, x, y⟩, -, -⟩ := full (L := L) s (n := 2) (by omega)
  refine en_35 ?_
  rw [s.2.2.2.1]
  exact ⟨tt.1, fun q => absurd q hk, fun _ => ⟨M2, v, x, _, y, rfl⟩⟩
/-- what stands behind two faults: the class goes on for nothing -/
theorem kin_f {T a1 k : Int} (ft : FT C R T) (hk : 0 ≤ k ∧ k < 14) (ck : C T 3 = k) : ∃ C1, aX xc_35 (aSeek xc_35 106) [aR 3, aI a1, aI k] [] (SH L) C ([], SH L, C1) ∧ cZ T C C1 ∧ FT C1 R T := by
  have ht := ft.2.2.2.2.2
  have t := tx_le ht
  have tt := tx (L := L) ht
  have t3 := ft.2.2.2.2.1
  obtain ⟨x, b1⟩ := int_f (L := L) (lo := 1) (hi := 60) ft
  have ft2 : FT (aSet C (T + 3) k x) R T := FT_T ft (by omega)
  obtain ⟨y, c1⟩ := int_f (L := L) (lo := 1) (hi := 60) ft2
  obtain ⟨K, hK⟩ : ∃ K, K = aSet (aSet C (T + 3) k x) (T + 4) k y := ⟨_, rfl⟩
  have ft3 : FT K R T := by rw [hK]; exact FT_T ft2 (by omega)
  have cK : cZ T C K := by rw [hK]; exact cZ_tr (cZ_s (by omega)) (cZ_s (by omega))
  have k3 : K T 3 = k := by rw [hK, aSet_c (by omega), aSet_c (by omega), ck]
  obtain ⟨w, d1⟩ := int_f (L := L) (lo := 0) (hi := 99) ft3
  have go : ∀ o, t35 L a1 k K o → aX xc_35 (aSeek xc_35 106) [aR 3, aI a1, aI k] [] (SH L) C o := by
    rw [hK]
    exact c106 ht hk (name_f ft) t3 b1 t3 c1 ft2.2.2.2.2.1
  by_cases q : a1 = 27
  · refine ⟨_, go _ ⟨by rw [ft3.2.2.2.2.1]; exact tt.1, fun z => absurd q z, fun _ => ⟨K, w, d1, by rw [ft3.2.2.2.2.1, tt.2.2.2.2.2.1]; exact c167 ht hk ft3.2.2.2.2.1 k3⟩⟩, cZ_tr cK (cZ_tr (cZ_s (by omega)) (cZ_s (by omega))), FT_T (FT_T ft3 (by omega)) (by omega)⟩
  · refine ⟨_, go _ ⟨by rw [ft3.2.2.2.2.1]; exact tt.1, fun _ => by rw [ft3.2.2.2.2.1, tt.2.2.2.2.2.1]; exact c167 ht hk ft3.2.2.2.2.1 k3, fun z => absurd q z⟩, cZ_tr cK (cZ_tr (cZ_s (by omega)) (cZ_s (by omega))), FT_T (FT_T ft3 (by omega)) (by omega)⟩
theorem nL_kd {T k : Int} (h : nL C C1) (t : 9 ≤ T) (f : ∀ j, 0 ≤ j → j < k → nmR (C (T + 1) j) (R 158 (14 + j))) (r : R1 158 = R 158) : ∀ j, 0 ≤ j → j < k → nmR (C1 (T + 1) j) (R1 158 (14 + j)) := by
  rw [h.1 (T + 1) (by omega), r]; exact f
theorem tell_block {N h : Nat} {T : Int} (d : RD C R N T h) (q : C 5 (h : Int) = 26) : ∃ C1 R1 v, aE 35 [aR 3, aI 26] (SH L) C ([], SH L, C1) ∧ aE 207 [aR 145] (SH L) R ([aI v], SH L, R1) ∧ bdE C R C1 R1 N T h v := by
  have s := d.1
  have ht := s.2.2.2.2
  have t := tx_le ht
  have tt := tx (L := L) ht
  have kd := d.2.2.2.1
  have l154 : aLn (SH L) 1 154 = 28 := rfl
  have l157 : aLn (SH L) 1 157 = 28 := rfl
  obtain ⟨k, ck⟩ : ∃ k, k = C T 3 := ⟨_, rfl⟩
  have k01 := kd.1
  rw [← ck] at k01
  have e14 : aW (14 + R 153 1) = 14 + k := by rw [k01.2.2]; exact aWi (by omega) (by omega)
  by_cases hk : k < 14
  · have e0 : (if (26 : Int) = 26 then (0 : Int) else 1) = 0 := rfl
    have g35 := fun {M1 : aM} {v : Int} (e : aE 29 [aR 3, aI 26] (SH L) C ([aI v], SH L, M1)) (t1 : M1 3 3 = T) (o : aO) (h : aX xc_35 (aSeek xc_35 49) [aR 3, aI 26, aI (C T 3)] [aI (if (26 : Int) = 26 then 0 else 1), aI (C T 3), aR (T + 2)] (SH L) M1 o) => e_35 (L := L) (a1 := 26) ht s.2.2.2.1 (by omega) e t1 o h
    have b49 : ∀ {M : aM} {o : aO}, aX xc_35 (aSeek xc_35 106) [aR 3, aI 26, aI k] [] (SH L) (aSet M (T + 2) k 0) o → aX xc_35 (aSeek xc_35 49) [aR 3, aI 26, aI (C T 3)] [aI (if (26 : Int) = 26 then 0 else 1), aI (C T 3), aR (T + 2)] (SH L) M o := fun {M o} x => by
      rw [e0, ← ck]
      exact bl_35_49 ⟨by rw [tt.2.2.2.2.2.2.2.2.2.2.2.2.2.2.1]; omega, fun _ => x, fun z => absurd (show ¬ (26 : Int) = 27 by omega) z⟩
    rcases pass_y (L := L) s q (by omega) with ⟨h4, p1, p2, p3⟩ | ⟨h4, p1, p2, p3⟩
    · obtain ⟨Ca, hCa⟩ : ∃ Ca, Ca = aSet (nxC C) (T + 2) k 0 := ⟨_, rfl⟩
      have cA : kdC T k C Ca := by rw [hCa]; exact kdC_tr (kdC_nL nL_nx) (kdC_s (by omega))
      have rA : kdR k R (nxR R) := kdR_nM nM_nx
      have d1 := RD_nx d p3
      have sa : ST Ca (nxR R) N T (h + 1) := ST_cg p3 (fun a x y => by rw [hCa, aSet_c (by omega)]) (fun _ _ _ => rfl) (fun j _ => by rw [hCa, aSet_c (by omega)]) (fun _ _ _ => rfl)
      have la : LT Ca (nxR R) (h + 1) := LT_k (T := T) (k := k) d1.2.1 (by omega) (by rw [hCa]; exact kdC_s (by omega)) (by rw [hCa, aSet_c (by omega)]) rfl
      obtain ⟨C3, R3, v, a1, a2, a3, a4, a5⟩ := kin2 (L := L) (a1 := 26) (k := k) sa la ⟨k01.1, hk⟩ (by rw [cA T 3 (by omega) (by omega), ← ck]) (by rw [nxR_c (by omega), k01.2.2]) (fun j j0 j1 => by
        rw [cA (T + 1) j (by omega) (by omega), nxR_c (by omega)]
        exact (kd.2 j j0 (by omega)).2.2.2.2.1)
      have cF := kdC_tr cA a3
      have rF := kdR_tr rA a4
      have t3 : C3 3 3 = T := by
        rcases a5 with ⟨-, x, -⟩ | ⟨-, x⟩
        · exact x.2.2.2.1
        · exact x.2.2.2.2.1
      have c3k : C3 T 3 = k := by rw [cF T 3 (by omega) (by omega), ← ck]
      have run : aE 35 [aR 3, aI 26] (SH L) C ([], SH L, aSet (aSet C3 (T + 5) k 1) T 3 (k + 1)) := by
        refine g35 p1 (by rw [nxC_3 (by omega)]; exact s.2.2.2.1) _ (b49 ?_)
        rw [← hCa]
        exact a1 _ ⟨by rw [t3]; exact tt.1, fun _ => by rw [t3, tt.2.2.2.2.2.1]; exact c167 ht ⟨k01.1, hk⟩ t3 c3k, fun z => absurd (show ¬ (26 : Int) = 27 by omega) z⟩
      have cZF : cZ T C (aSet (aSet C3 (T + 5) k 1) T 3 (k + 1)) := cZ_tr (cZ_kd cF) (cZ_tr (cZ_s (by omega)) (cZ_s (by omega)))
      rcases a5 with ⟨v1, s3, l3, n3, e5, e6, e2, z3⟩ | ⟨v0, ft⟩
      · obtain ⟨Q, hQ⟩ : ∃ Q, Q = aSet (aSet R3 154 (14 + k) 0) 157 (14 + k) 1 := ⟨_, rfl⟩
        have q153 : Q 153 1 = k := by rw [hQ, aSet_c (by omega), aSet_c (by omega), rF.1 153 1 (by omega) (by omega), k01.2.2]
        have rQ : kdR k R Q := by rw [hQ]; exact kdR_tr rF (kdR_tr (kdR_s (by omega)) (kdR_s (by omega)))
        have nw := RD_kind (h1 := h + 1 + 1 + 1 + 1) (K := aSet C3 (T + 5) k 1) (Q := Q) d (by omega) ck.symm hk (ST_cg s3 (fun a x y => aSet_c (by omega)) (fun a x y => by rw [hQ, aSet_c (by omega), aSet_c (by omega)]) (fun j _ => by rw [aSet_c (by omega)]) (fun j _ _ => by rw [hQ, aSet_c (by omega), aSet_c (by omega)])) (LT_k (T := T) (k := k) l3 (by omega) (kdC_s (by omega)) (aSet_c (by omega)) (by rw [hQ, aSet_c (by omega), aSet_c (by omega)])) (kdC_tr cF (kdC_s (by omega))) rQ
          (fun u => by
            rw [aSet_c (by omega)] at u
            have z4 := z3 u
            have c5 : Ca 3 5 = C 3 5 := by rw [hCa, aSet_c (by omega), nxC_3 (by omega)]
            rw [c5] at z4
            rw [aSet_c (show T + 3 ≠ T + 5 by omega), aSet_c (show T + 4 ≠ T + 5 by omega), aSet_e]
            exact ⟨z4.1, z4.2.1, z4.2.2, by omega⟩)
          (by
            rw [aSet_c (show T + 2 ≠ T + 5 by omega), e2.1, hCa, aSet_e, hQ, aSet_c (by omega), aSet_e]
            omega)
          (by rw [hQ, aSet_c (by omega), aSet_c (by omega), aSet_c (by omega)]; exact e5) (by rw [hQ, aSet_c (by omega), aSet_c (by omega), aSet_c (by omega)]; exact e6) (by rw [hQ, aSet_e, aSet_e]) (by rw [hQ, aSet_c (by omega), aSet_c (by omega), aSet_c (by omega)]; exact n3)
        refine ⟨_, aSet Q 153 1 (k + 1), 1, run, en_207 ⟨fun _ => ⟨_, 1, p2, fun z => absurd z (by omega), fun _ => ⟨R3, v, by rw [e14]; exact a2, fun _ => ?_, fun z => absurd (by omega) z⟩⟩, fun z => absurd (by omega) z⟩, cZF, rZ_tr (rZ_kd rQ k01.1) (rZ_s (by unfold zR; omega)), Or.inl ⟨rfl, _, by omega, nw⟩⟩
        rw [e14, ← hQ, q153, aWi (z := k + 1) (by omega) (by omega)]
        exact ⟨by omega, by omega, rfl⟩
      · exact ⟨_, R3, 0, run, en_207 ⟨fun _ => ⟨_, 1, p2, fun z => absurd z (by omega), fun _ => ⟨R3, v, by rw [e14]; exact a2, fun z => absurd v0 z, fun _ => rfl⟩⟩, fun z => absurd (by omega) z⟩, cZF, rZ_kd rF k01.1, Or.inr ⟨rfl, FT_T (FT_T ft (by omega)) (by omega)⟩⟩
    · have ft2 : FT (aSet (flC C 2) (T + 2) k 0) (flR R 2) T := FT_T p3 (by omega)
      obtain ⟨C1, r1, r2, r3⟩ := kin_f (L := L) (a1 := 26) ft2 ⟨k01.1, hk⟩ (by rw [aSet_c (by omega), flC_c (by omega), ck])
      exact ⟨C1, flR R 2, 0, g35 p1 p3.2.2.2.2.1 _ (b49 r1), en_207 ⟨fun _ => ⟨_, 0, p2, fun _ => rfl, fun z => absurd rfl z⟩, fun z => absurd (by omega) z⟩, cZ_tr (cZ_nL nL_fl) (cZ_tr (cZ_s (by omega)) r2), rZ_nM nM_fl, Or.inr ⟨rfl, r3⟩⟩
  · obtain ⟨-, r, f⟩ := full (L := L) s (n := 2) (by omega)
    exact ⟨_, _, 0, e_35f s (by omega), en_207 ⟨fun z => absurd (by omega) z, fun _ => ⟨_, 0, r, Or.inl rfl, rfl⟩⟩, cZ_nL nL_fl, rZ_nM nM_fl, Or.inr ⟨rfl, f⟩⟩
end KN2
