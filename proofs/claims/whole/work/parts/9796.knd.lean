/-! reading: the TELLs block and piece, both sides -/
section KND
variable {L : Nat} {C R C1 R1 C2 R2 K Q : aM}
def t35 (L : Nat) (a1 k : Int) (C : aM) (o : aO) : Prop := aK (SH L) (C 3 3) = 19 ∧ ((¬ a1 = 27 → aX xc_35 (aSeek xc_35 167) [aR 3, aU, aU] [aI 1, aI k, aR (aF (SH L) (C 3 3) 8)] (SH L) C o) ∧ (¬ (¬ a1 = 27) → (∃ (M6 : aM) (v7 : Int), aE 32 [aR 3, aI 0, aI 99] (SH L) C ([aI v7], SH L, M6) ∧ aX xc_35 (aSeek xc_35 167) [aR 3, aU, aU] [aI v7, aI k, aR (aF (SH L) (C 3 3) 8)] (SH L) M6 o)))
theorem c106 {T a1 k x y : Int} {Ca Cb : aM} (ht : isTx T) (hk : 0 ≤ k ∧ k < 14) (e1 : aE 34 [aR 3] (SH L) C ([], SH L, C1)) (t1 : C1 3 3 = T) (e2 : aE 32 [aR 3, aI 1, aI 60] (SH L) C1 ([aI x], SH L, Ca)) (ta : Ca 3 3 = T) (e3 : aE 32 [aR 3, aI 1, aI 60] (SH L) (aSet Ca (T + 3) k x) ([aI y], SH L, Cb)) (tb : Cb 3 3 = T) (o : aO) (h : t35 L a1 k (aSet Cb (T + 4) k y) o) : aX xc_35 (aSeek xc_35 106) [aR 3, aI a1, aI k] [] (SH L) C o := by
  have tt := tx (L := L) ht
  have t := tx_le ht
  obtain ⟨t19, -, -, f6, f7, -, -, -, -, -, -, -, -, -, -, -, -, n3, -, -, n4, -⟩ := tt
  have u1 : (aSet Ca (T + 3) k x) 3 3 = T := by rw [aSet_c (by omega), ta]
  refine bl_35_106 ⟨C1, e1, by rw [t1]; exact t19, Ca, x, e2, by rw [t1, f6, n3]; exact hk, by rw [t1, f6, u1]; exact t19, Cb, y, by rw [t1, f6]; exact e3, ?_⟩
  rw [t1, f6, u1, f7, n4]
  exact ⟨hk, h⟩
theorem kin2 {N h : Nat} {T k a1 : Int} (s : ST C R N T h) (l : LT C R h) (hk : 0 ≤ k ∧ k < 14) (ck : C T 3 = k) (rk : R 153 1 = k) (hj : ∀ j, 0 ≤ j → j < k → nmR (C (T + 1) j) (R 158 (14 + j))) : ∃ C3 R3 v, (∀ o, t35 L a1 k C3 o → aX xc_35 (aSeek xc_35 106) [aR 3, aI a1, aI k] [] (SH L) C o) ∧ aE 206 [aR 145, aI (14 + k)] (SH L) R ([aI v], SH L, R3) ∧ kdC T k C C3 ∧ kdR k R R3 ∧
    ((v = 1 ∧ ST C3 R3 N T (h + 1 + 1 + 1) ∧ LT C3 R3 (h + 1 + 1 + 1) ∧ nmR (C3 (T + 1) k) (R3 158 (14 + k)) ∧ R3 155 (14 + k) = C3 (T + 3) k ∧ R3 156 (14 + k) = C3 (T + 4) k ∧ (C3 (T + 2) = C (T + 2) ∧ R3 154 = R 154) ∧ (C3 3 5 = 0 → C 3 5 = 0 ∧ (1 ≤ C3 (T + 3) k ∧ C3 (T + 3) k ≤ 60) ∧ 1 ≤ C3 (T + 4) k ∧ C3 (T + 4) k ≤ 60)) ∨ (v = 0 ∧ FT C3 R3 T)) := by
  have ht := s.2.2.2.2
  have t := tx_le ht
  have l5 : aLn (SH L) 1 155 = 28 := rfl
  have l6 : aLn (SH L) 1 156 = 28 := rfl
  obtain ⟨C1, R1, a1_, a2, a3, a4⟩ := name_pair (L := L) s l hk ck rk hj
  rcases a4 with ⟨s1, l1, n1, n2, z1, r1⟩ | ⟨ft, r1⟩
  · have t1 := s1.2.2.2.1
    obtain ⟨Ca, Ra, x, v, b1, b2, b3, b4, b5⟩ := int_put (L := L) (lo := 1) (hi := 60) (ca := T + 3) (cj := k) (ra := 155) (rj := 14 + k) s1 l1 (by omega) (by omega)
    have ta : Ca 3 3 = T := by rw [b3.2 3 (by omega), t1]
    rcases b5 with ⟨v1, e53, s2, l2, z2⟩ | ⟨v0, ft⟩
    · obtain ⟨Cb, Rb, y, w, c1, c2, c3, c4, c5⟩ := int_put (L := L) (lo := 1) (hi := 60) (ca := T + 4) (cj := k) (ra := 156) (rj := 14 + k) s2 l2 (by omega) (by omega)
      have tb : Cb 3 3 = T := by rw [c3.2 3 (by omega)]; exact s2.2.2.2.1
      have kc : kdC T k C (aSet Cb (T + 4) k y) := kdC_tr (kdC_tr (kdC_tr a2 (kdC_nL b3)) (kdC_tr (kdC_s (by omega)) (kdC_nL c3))) (kdC_s (by omega))
      have kr : kdR k R Rb := kdR_tr (kdR_tr a3 (kdR_nM b4)) (kdR_tr (kdR_s (by omega)) (kdR_nM c4))
      rcases c5 with ⟨w1, f53, s3, l3, z3⟩ | ⟨w0, ft⟩
      · refine ⟨aSet Cb (T + 4) k y, aSet Rb 156 (14 + k) y, 1, c106 ht hk a1_ t1 b1 ta c1 tb, r1 _ ⟨Ra, v, b2, fun _ => ⟨by omega, Rb, w, by rw [e53.1]; exact c2, fun _ => ⟨by omega, by rw [f53.1]⟩, fun q => absurd (by omega) q⟩, fun q => absurd (by omega) q⟩, kc, kdR_tr kr (kdR_s (by omega)), Or.inl ⟨rfl, s3, l3, ?_, ?_, by rw [aSet_e, aSet_e], ⟨by rw [aSet_c (by omega), c3.1 _ (by omega), aSet_c (by omega), b3.1 _ (by omega), n2.1], by rw [aSet_c (by omega), c4.1 _ (by omega), aSet_c (by omega), b4.1 _ (by omega), n2.2]⟩, ?_⟩⟩
        · rw [aSet_c (by omega), c3.1 _ (by omega), aSet_c (by omega), b3.1 _ (by omega), aSet_c (by omega), c4.1 _ (by omega), aSet_c (by omega), b4.1 _ (by omega)]
          exact n1
        · rw [aSet_c (by omega), c4.1 _ (by omega), aSet_e, aSet_c (by omega), c3.1 _ (by omega), aSet_e]
        · intro q
          have q3 := z3 q
          have q2 := z2 q3.1
          refine ⟨z1 q2.1, ?_, ?_⟩
          · rw [aSet_c (by omega), c3.1 _ (by omega), aSet_e]; exact q2.2
          · rw [aSet_e]; exact q3.2
      · exact ⟨aSet Cb (T + 4) k y, Rb, 0, c106 ht hk a1_ t1 b1 ta c1 tb, r1 _ ⟨Ra, v, b2, fun _ => ⟨by omega, Rb, w, by rw [e53.1]; exact c2, fun q => absurd w0 q, fun _ => rfl⟩, fun q => absurd (by omega) q⟩, kc, kr, Or.inr ⟨rfl, FT_T ft (by omega)⟩⟩
    · have ft2 : FT (aSet Ca (T + 3) k x) Ra T := FT_T ft (by omega)
      obtain ⟨y, c1⟩ := int_f (L := L) (lo := 1) (hi := 60) ft2
      exact ⟨aSet (aSet Ca (T + 3) k x) (T + 4) k y, Ra, 0, c106 ht hk a1_ t1 b1 ta c1 ft2.2.2.2.2.1, r1 _ ⟨Ra, v, b2, fun q => absurd v0 q, fun _ => rfl⟩, kdC_tr (kdC_tr a2 (kdC_nL b3)) (kdC_tr (kdC_s (by omega)) (kdC_s (by omega))), kdR_tr a3 (kdR_nM b4), Or.inr ⟨rfl, FT_T ft2 (by omega)⟩⟩
  · obtain ⟨x, b1⟩ := int_f (L := L) (lo := 1) (hi := 60) ft
    have ft2 : FT (aSet C1 (T + 3) k x) R1 T := FT_T ft (by omega)
    obtain ⟨y, c1⟩ := int_f (L := L) (lo := 1) (hi := 60) ft2
    exact ⟨aSet (aSet C1 (T + 3) k x) (T + 4) k y, R1, 0, c106 ht hk a1_ ft.2.2.2.2.1 b1 ft.2.2.2.2.1 c1 ft2.2.2.2.2.1, r1, kdC_tr a2 (kdC_tr (kdC_s (by omega)) (kdC_s (by omega))), a3, Or.inr ⟨rfl, FT_T ft2 (by omega)⟩⟩
/-- one KIND more -/
theorem RD_kind {N h h1 : Nat} {T k : Int} (d : RD C R N T h) (hh : h ≤ h1) (ck : C T 3 = k) (k14 : k < 14) (s : ST K Q N T h1) (l : LT K Q h1) (c : kdC T k C K) (r : kdR k R Q) (z : K 3 5 = 0 → C 3 5 = 0 ∧ (1 ≤ K (T + 3) k ∧ K (T + 3) k ≤ 60) ∧ (1 ≤ K (T + 4) k ∧ K (T + 4) k ≤ 60) ∧ 0 ≤ K (T + 5) k ∧ K (T + 5) k ≤ 99) (so : 0 ≤ K (T + 2) k ∧ K (T + 2) k ≤ 3 ∧ Q 154 (14 + k) = K (T + 2) k) (e5 : Q 155 (14 + k) = K (T + 3) k) (e6 : Q 156 (14 + k) = K (T + 4) k) (e7 : Q 157 (14 + k) = K (T + 5) k) (nm : nmR (K (T + 1) k) (Q 158 (14 + k))) : RD (aSet K T 3 (k + 1)) (aSet Q 153 1 (k + 1)) N T h1 := by
  have ht := s.2.2.2.2
  have t := tx_le ht
  obtain ⟨_, _, bg, kd, fd, wd, gd, ru, li, b⟩ := id d
  have cT : ∀ j, j ≠ 3 → (aSet K T 3 (k + 1)) T j = C T j := fun j hj => by rw [aSet_i hj, c T j (by omega) (by omega)]
  have cc : ∀ a, T + 6 ≤ a → (aSet K T 3 (k + 1)) a = C a := fun a ha => by rw [aSet_c (by omega)]; exact funext fun b => c a b (by omega) (by omega)
  have rr : ∀ a, 150 ≤ a → a ≠ 153 → (a < 154 ∨ 158 < a) → (aSet Q 153 1 (k + 1)) a = R a := fun a ha h3 h4 => by rw [aSet_c h3]; exact funext fun b => r.1 a b (by omega) (by omega)
  have z5 : (aSet K T 3 (k + 1)) 3 5 = 0 → C 3 5 = 0 := fun q => by rw [aSet_c (by omega)] at q; exact (z q).1
  refine RD_w d hh (ST_cg s (fun a x y => aSet_c (by omega)) (fun a x y => aSet_c (by omega)) (fun j _ => by rw [aSet_c (by omega)]) (fun j _ _ => by rw [aSet_c (by omega)])) ?_ (fun j x y => cT j (by omega)) (fun a x y => cc a (by omega)) (fun a x y => rr a (by omega) (by omega) (by omega)) ?_ (FD_cg fd z5 (fun j x y => cT j (by omega)) (fun a x => rr a (by omega) (by omega) (by omega))) (WD_cg wd z5 (cT 9 (by omega)) (fun a x y => cc a (by omega)) (fun a x y => rr a (by omega) (by omega) (by omega)))
  · unfold LT LN
    rw [aSet_c (show (3 : Int) ≠ T by omega), aSet_c (show (145 : Int) ≠ 153 by omega), aSet_c (show (6 : Int) ≠ T by omega)]
    exact l
  · unfold KD
    rw [aSet_e, aSet_e, aSet_c (show T + 1 ≠ T by omega), aSet_c (show T + 2 ≠ T by omega), aSet_c (show T + 3 ≠ T by omega), aSet_c (show T + 4 ≠ T by omega), aSet_c (show T + 5 ≠ T by omega), aSet_c (show (154 : Int) ≠ 153 by omega), aSet_c (show (155 : Int) ≠ 153 by omega), aSet_c (show (156 : Int) ≠ 153 by omega), aSet_c (show (157 : Int) ≠ 153 by omega), aSet_c (show (158 : Int) ≠ 153 by omega), aSet_c (show (3 : Int) ≠ T by omega)]
    have k1 := kd.1
    refine ⟨by omega, fun j j0 j1 => ?_⟩
    by_cases q : j = k
    · subst q
      exact ⟨so, e5, e6, e7, nm, fun q => (z q).2⟩
    · rw [c (T + 1) j (by omega) (by omega), c (T + 2) j (by omega) (by omega), c (T + 3) j (by omega) (by omega), c (T + 4) j (by omega) (by omega), c (T + 5) j (by omega) (by omega), r.1 154 _ (by omega) (by omega), r.1 155 _ (by omega) (by omega), r.1 156 _ (by omega) (by omega), r.1 157 _ (by omega) (by omega), r.1 158 _ (by omega) (by omega)]
      obtain ⟨x1, x2, x3, x4, x5, x6⟩ := kd.2 j j0 (by omega)
      exact ⟨x1, x2, x3, x4, x5, fun q => x6 (z q).1⟩
theorem c167 {T k x : Int} (ht : isTx T) (hk : 0 ≤ k ∧ k < 14) (t3 : C 3 3 = T) (c3 : C T 3 = k) : aX xc_35 (aSeek xc_35 167) [aR 3, aU, aU] [aI x, aI k, aR (T + 5)] (SH L) C ([], SH L, aSet (aSet C (T + 5) k x) T 3 (k + 1)) := by
  have tt := tx (L := L) ht
  have t := tx_le ht
  obtain ⟨t19, -, -, -, -, -, -, -, -, -, -, -, -, -, -, -, -, -, -, -, -, -, -, n5, -⟩ := tt
  have u1 : (aSet C (T + 5) k x) 3 3 = T := by rw [aSet_c (by omega), t3]
  have u2 : (aSet C (T + 5) k x) T 3 = k := by rw [aSet_c (by omega), c3]
  refine bl_35_167 ?_
  rw [u1, u2, n5, aWi (by omega) (by omega)]
  exact ⟨hk, t19, t19, rfl⟩
end KND
