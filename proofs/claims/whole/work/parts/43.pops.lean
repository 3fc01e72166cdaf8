/-! the calls about pushes, drops, keeping: the class */ -/
section POPS
variable {L : Nat} {M M1 M2 : aM}
theorem binn {p C : Prop} {d : Decidable p} (h : p) (q : ¬ ¬ bi (@decide p d) = 0) : C := (q (fun e => by rw [bid0] at e; exact e h)).elim
theorem lok_cP (hc : cP M) (h1 : M1 1 = M 1) (hk : lok M1) : cP M1 := by
  obtain ⟨a, b, c, d, e⟩ := hk
  have x := hc.1
  have y := hc.2.1
  exact ⟨⟨by rw [b, h1]; omega, by omega⟩, ⟨by rw [c, h1]; omega, by omega⟩, fun _ => a.2.2, fun _ => ⟨b, d, e⟩⟩
theorem lok_hF (h : rP M) (hk : lok M) (f : hF M M1) : lok M1 := by
  have k := hF_ke f
  refine ⟨hF_lk hk.1 f, ?_, ?_, liR_cg h k hk.2.2.2.1 (f.2 12 (by omega) (by omega)) (f.1 65 (by omega) (by omega)) (f.1 66 (by omega) (by omega)), kpR_cg h k hk.2.2.2.2 (f.1 83 (by omega) (by omega))⟩
  · rw [f.2 13 (by omega) (by omega), k 1 (by omega)]; exact hk.2.1
  · rw [f.2 14 (by omega) (by omega), k 1 (by omega)]; exact hk.2.2.1
theorem lb_ev (h : rP M) {t : Int} (t0 : 0 ≤ t) (t1 : t < 64) : lb (aWL (aLsl 1 (M 31 0) - 1)) t = decide (t < M 31 0) := by
  have n := rP_n h
  exact lb_all n.1 (by omega) t0 t1
theorem s_94 (h : rP M) (hc : cP M) {t s : Int} : ∃ M1, aE 94 [aR 1, aI t, aI s] (SH L) M ([aI (if (0 ≤ t ∧ t < M 31 0) ∧ 0 ≤ s ∧ s < 4 then bi (psh M (fun _ => true) (M 31 8) s t) else -1)], SH L, M1) ∧ fr 64 83 M M1 ∧ cP M1 := by
  have n := rP_n h
  by_cases c : (0 ≤ t ∧ t < M 31 0) ∧ 0 ≤ s ∧ s < 4
  · rw [if_pos c]
    obtain ⟨M1, r1, f1, k1⟩ := s_80 (L := L) h hc
    have e1 := ke_fr f1 (by omega) (by omega)
    have P1 := ke_rP h e1
    have e31 : M1 31 = M 31 := e1 31 (by omega)
    obtain ⟨y, M2, r2, f2, x2, -, v2, -⟩ := s_93 (L := L) P1 k1.1 (s := s) (tg := M 31 8) (ly := fun _ => true) (lz := aWL (aLsl 1 (M1 31 0) - 1)) c.2 (fun t t0 t1 => by rw [lb_ev P1 t0 (by have := rP_n P1; omega), decide_eq_true t1])
    have k2 := lok_hF P1 k1 (hF_77 f2)
    refine ⟨M2, en_94 ⟨M, _, s_63 bd31, fun q => absurd c.1 (by rw [bid0] at q; exact q), fun _ => ⟨M, _, s_36, fun _ => ⟨M1, r1, M1, _, s_81 bd31, M2, y, ?_, M2, _, s_84 c.1.1 (by omega), ?_⟩, fun q => binn c.2 q⟩⟩, fr_tr f1 (fr_mn f2 (by omega) (by omega)), lok_cP hc (by rw [f2 1 (by omega), e1 1 (by omega)]) k2⟩
    · rw [e31] at r2 ⊢; exact r2
    · rw [v2 t c.1.1 (by rw [e31]; exact c.1.2), psh_ke h e1]
  · rw [if_neg c]
    refine ⟨M, en_94 ⟨M, _, s_63 bd31, fun q => rfl, fun q => ⟨M, _, s_36, fun q2 => ?_, fun q => rfl⟩⟩, fr_rf, hc⟩
    rw [bid0, Classical.not_not] at q q2
    exact absurd ⟨q, q2⟩ c
theorem s_96 (h : rP M) (hc : cP M) {t s : Int} : ∃ M1, aE 96 [aR 1, aI t, aI s] (SH L) M ([aI (if (0 ≤ t ∧ t < M 31 0) ∧ 0 ≤ s ∧ s < 4 then bi (brn M (fun _ => true) s t) else -1)], SH L, M1) ∧ fr 64 83 M M1 ∧ cP M1 := by
  have n := rP_n h
  by_cases c : (0 ≤ t ∧ t < M 31 0) ∧ 0 ≤ s ∧ s < 4
  · rw [if_pos c]
    obtain ⟨M1, r1, f1, k1⟩ := s_80 (L := L) h hc
    have e1 := ke_fr f1 (by omega) (by omega)
    have P1 := ke_rP h e1
    have e31 : M1 31 = M 31 := e1 31 (by omega)
    obtain ⟨y, M2, r2, f2, x2, -, v2⟩ := s_95 (L := L) P1 k1.1 (s := s) (ly := fun _ => true) (lz := aWL (aLsl 1 (M1 31 0) - 1)) c.2 (fun t t0 t1 => by rw [lb_ev P1 t0 (by have := rP_n P1; omega), decide_eq_true t1])
    have k2 := lok_hF P1 k1 (hF_77 f2)
    refine ⟨M2, en_96 ⟨M, _, s_63 bd31, fun q => absurd c.1 (by rw [bid0] at q; exact q), fun _ => ⟨M, _, s_36, fun _ => ⟨M1, r1, M1, _, s_81 bd31, M2, y, ?_, M2, _, s_84 c.1.1 (by omega), ?_⟩, fun q => binn c.2 q⟩⟩, fr_tr f1 (fr_mn f2 (by omega) (by omega)), lok_cP hc (by rw [f2 1 (by omega), e1 1 (by omega)]) k2⟩
    · exact r2
    · rw [v2 t c.1.1 (by rw [e31]; exact c.1.2), brn_ke h e1]
  · rw [if_neg c]
    refine ⟨M, en_96 ⟨M, _, s_63 bd31, fun q => rfl, fun q => ⟨M, _, s_36, fun q2 => ?_, fun q => rfl⟩⟩, fr_rf, hc⟩
    rw [bid0, Classical.not_not] at q q2
    exact absurd ⟨q, q2⟩ c
/-- all lies: heldOf(everything, tight) -/
theorem s_98a (h : rP M) (hk : lok M) : ∃ y M1, aE 98 [aR 64, aJ (aWL (aLsl 1 (M 31 0) - 1)), aI (M 31 8)] (SH L) M ([aJ y], SH L, M1) ∧ hF M M1 ∧ lok M1 ∧ xL y ∧ (∀ t, 0 ≤ t → t < 64 → lb y t = (decide (t < M 31 0) && hld M (fun _ => true) (M 31 8) t)) ∧
    (∀ t, 0 ≤ t → t < M 31 0 → lb (M1 64 0) t = hAc M (fun _ => true) (M 31 8) t ∧ lb (M1 64 1) t = hAl M (fun _ => true) (M 31 8) t) := by
  have n := rP_n h
  obtain ⟨y, M1, r, f, x, v, w⟩ := s_98 (L := L) h hk.1 (lz := aWL (aLsl 1 (M 31 0) - 1)) (tg := M 31 8) (ly := fun _ => true) (fun t t0 t1 => by rw [lb_ev h t0 (by omega), decide_eq_true t1])
  exact ⟨y, M1, r, f, lok_hF h hk f, x, v, w⟩
theorem s_99 (h : rP M) (hc : cP M) {t : Int} : ∃ M1, aE 99 [aR 1, aI t] (SH L) M ([aI (if 0 ≤ t ∧ t < M 31 0 then bi (hAc M (fun _ => true) (M 31 8) t) + 2 * bi (hAl M (fun _ => true) (M 31 8) t) else -1)], SH L, M1) ∧ fr 64 83 M M1 ∧ cP M1 := by
  have n := rP_n h
  by_cases c : 0 ≤ t ∧ t < M 31 0
  · rw [if_pos c]
    obtain ⟨M1, r1, f1, k1⟩ := s_80 (L := L) h hc
    have e1 := ke_fr f1 (by omega) (by omega)
    have P1 := ke_rP h e1
    have e31 : M1 31 = M 31 := e1 31 (by omega)
    obtain ⟨y, M2, r2, f2, k2, x2, v2, w2⟩ := s_98a (L := L) P1 k1
    have w := w2 t c.1 (by rw [e31]; exact c.2)
    have b1 := bi_le (hAc M (fun _ => true) (M 31 8) t)
    have b2 := bi_le (hAl M (fun _ => true) (M 31 8) t)
    refine ⟨M2, en_99 ⟨M, _, s_63 bd31, fun _ => ⟨M1, r1, M1, _, s_81 bd31, M2, y, r2, M2, _, s_84 c.1 (by omega), M2, _, s_84 c.1 (by omega), rI ?_⟩, fun q => binn c q⟩, fr_tr f1 (fr_mn (hF_fr f2) (by omega) (by omega)), lok_cP hc (by rw [f2.1 1 (by omega) (by omega), e1 1 (by omega)]) k2⟩
    rw [w.1, w.2, e31, hAc_ke h e1, hAl_ke h e1, aWi (z := 2 * bi (hAl M (fun _ => true) (M 31 8) t)) (by omega) (by omega), aWi (by omega) (by omega)]
    omega
  · rw [if_neg c]
    exact ⟨M, en_99 ⟨M, _, s_63 bd31, fun q => absurd (bin c) q, fun q => rfl⟩, fr_rf, hc⟩
theorem s_100 (h : rP M) (hc : cP M) : ∃ M1, aE 100 [aR 1] (SH L) M ([aI (sumI (fun t => bi (hld M (fun _ => true) (M 31 8) t)) 0 (M 31 0))], SH L, M1) ∧ fr 64 83 M M1 ∧ cP M1 := by
  have n := rP_n h
  obtain ⟨M1, r1, f1, k1⟩ := s_80 (L := L) h hc
  have e1 := ke_fr f1 (by omega) (by omega)
  have P1 := ke_rP h e1
  have e31 : M1 31 = M 31 := e1 31 (by omega)
  obtain ⟨y, M2, r2, f2, k2, x2, v2, w2⟩ := s_98a (L := L) P1 k1
  refine ⟨M2, en_100 ⟨M1, r1, M1, _, s_81 bd31, M2, y, r2, M2, _, s_86, rI ?_⟩, fr_tr f1 (fr_mn (hF_fr f2) (by omega) (by omega)), lok_cP hc (by rw [f2.1 1 (by omega) (by omega), e1 1 (by omega)]) k2⟩
  rw [pop_n P1 v2, e31]
  simp only [hld_ke h e1]
theorem s_102 (h : rP M) (hc : cP M) {t : Int} : ∃ M1, aE 102 [aR 1, aI t] (SH L) M ([aI (if 0 ≤ t ∧ t < M 31 0 then drp M (M 31 8) t else -1)], SH L, M1) ∧ fr 64 83 M M1 ∧ cP M1 := by
  have n := rP_n h
  by_cases c : 0 ≤ t ∧ t < M 31 0
  · rw [if_pos c]
    obtain ⟨M1, r1, f1, k1⟩ := s_80 (L := L) h hc
    have e1 := ke_fr f1 (by omega) (by omega)
    have P1 := ke_rP h e1
    obtain ⟨M2, r2, f2, k2, l2⟩ := s_101 (L := L) P1 k1
    have e2 := ke_tr e1 (ke_fr f2 (by omega) (by omega))
    refine ⟨M2, en_102 ⟨M, _, s_63 bd31, fun _ => ⟨M1, r1, M2, r2, ?_⟩, fun q => binn c q⟩, fr_tr f1 f2, lok_cP hc (e2 1 (by omega)) k2⟩
    simp only [ln0, ln1, ln2, ln3, ln4]
    refine ⟨by omega, rI ?_⟩
    rcases k2.2.2.2.1 with q | q
    · rw [q] at l2; omega
    · rw [q.2.1 t c.1 (by rw [e2 31 (by omega)]; exact c.2), e2 31 (by omega), drp_ke h e2]
  · rw [if_neg c]
    exact ⟨M, en_102 ⟨M, _, s_63 bd31, fun q => absurd (bin c) q, fun q => rfl⟩, fr_rf, hc⟩
theorem s_103 (h : rP M) (hc : cP M) {r : Int} : ∃ M1, aE 103 [aR 1, aI r] (SH L) M ([aI (if 0 ≤ r then rndV M (M 31 8) r else -1)], SH L, M1) ∧ fr 64 83 M M1 ∧ cP M1 := by
  have n := rP_n h
  by_cases c : 0 ≤ r
  · rw [if_pos c]
    obtain ⟨M1, r1, f1, k1⟩ := s_80 (L := L) h hc
    have e1 := ke_fr f1 (by omega) (by omega)
    have P1 := ke_rP h e1
    obtain ⟨M2, r2, f2, k2, l2⟩ := s_101 (L := L) P1 k1
    have e2 := ke_tr e1 (ke_fr f2 (by omega) (by omega))
    refine ⟨M2, en_103 ⟨fun _ => ⟨M1, r1, M2, r2, fun q => rI ?_, fun q => ?_⟩, fun q => absurd c q⟩, fr_tr f1 f2, lok_cP hc (e2 1 (by omega)) k2⟩
    · unfold rndV
      refine (sumI_0 0 (fun t t0 t1 => bin (fun z => ?_)))
      have := drp_le (M := M) (tg := M 31 8) (t := t)
      omega
    · simp only [ln0, ln1, ln2, ln3, ln4]
      refine ⟨by omega, rI ?_⟩
      rcases k2.2.2.2.1 with z | z
      · rw [z] at l2; omega
      · rw [z.2.2 r c (by omega), e2 31 (by omega), rndV_ke h e2]
  · rw [if_neg c]
    exact ⟨M, en_103 ⟨fun q => absurd q c, fun q => rfl⟩, fr_rf, hc⟩
theorem s_104 (h : rP M) (hk : lok M) {k : Int} (k0 : 0 ≤ k) (k1 : k < M 31 0) : ∃ M1, aE 104 [aR 64, aI k] (SH L) M ([aI (kpV M (M 31 8) k)], SH L, M1) ∧ fr 64 83 M M1 ∧ lok M1 := by
  have n := rP_n h
  have h5 := hk.1.2.1
  by_cases c : M 83 k = -1
  · obtain ⟨y, M1, r1, f1, g1, x1, v1, -⟩ := s_98a (L := L) h hk
    have e1 := hF_ke f1
    have P1 := ke_rP h e1
    have e31 : M1 31 = M 31 := e1 31 (by omega)
    have h51 : M1 64 5 = 31 := g1.1.2.1
    have ot : ∀ t, 0 ≤ t → t < 64 → lb (aLand (aWL (aLsl 1 (M 31 0) - 1)) (aLxor (aLsl 1 k) (-1))) t = (decide (t < M 31 0) && decide (¬ t = k)) := by
      intro t t0 t1
      rw [lb_and, lb_ev h t0 t1, lb_not t1, lb_one k0 (by omega) t0 t1]
      congr 1
      by_cases z : t = k
      · rw [decide_eq_true z, decide_eq_false (fun q => q z)]; rfl
      · rw [decide_eq_false z, decide_eq_true z]; rfl
    obtain ⟨z, M2, r2, f2, x2, v2, -⟩ := s_98 (L := L) P1 g1.1 (lz := aLand (aWL (aLsl 1 (M 31 0) - 1)) (aLxor (aLsl 1 k) (-1))) (tg := M 31 8) (ly := fun t => decide (¬ t = k)) (fun t t0 t1 => by
      rw [e31] at t1
      rw [ot t t0 (by omega), decide_eq_true t1, Bool.true_and])
    have g2 := lok_hF P1 g1 f2
    have e2 := ke_tr e1 (hF_ke f2)
    have P2 := ke_rP h e2
    have ek : ∀ v : Int, ke M2 (aSet M2 83 k v) := fun v a ha => aSet_c (by omega)
    have val : sumI (fun i => bi (lb (aLand (aLand y (aLand (aWL (aLsl 1 (M 31 0) - 1)) (aLxor (aLsl 1 k) (-1)))) (aLxor z (-1))) i)) 0 64 = kpV M (M 31 8) k := by
      rw [pop_n h (f := fun t => decide (¬ t = k) && hld M (fun _ => true) (M 31 8) t && !hld M (fun t => decide (¬ t = k)) (M 31 8) t) (fun t t0 t1 => by
        rw [lb_and, lb_and, lb_not t1, v1 t t0 t1, ot t t0 t1, v2 t t0 t1, e31, hld_ke h e1]
        cases decide (t < M 31 0)
        · rfl
        · cases decide (¬ t = k) <;> cases hld M (fun _ => true) (M 31 8) t <;> simp)]
      rfl
    refine ⟨aSet M2 83 k (kpV M (M 31 8) k), en_104 ?_, fr_set (fr_mn (fr_tr (hF_fr f1) (hF_fr f2)) (by omega) (by omega)) (by omega), ?_⟩
    · rw [h5]
      refine ⟨rfl, M, _, s_63 bd31, fun _ => ?_, fun q => binn ⟨k0, k1⟩ q⟩
      simp only [ln0, ln1, ln2, ln3, ln4]
      refine ⟨by omega, fun q => absurd c q, fun _ => ?_⟩
      rw [h5]
      refine ⟨rfl, M, _, s_81 bd31, ?_⟩
      rw [h5]
      refine ⟨rfl, M, _, s_81 bd31, ?_⟩
      rw [h5]
      refine ⟨rfl, M1, y, r1, ?_⟩
      rw [h51, e31]
      refine ⟨rfl, M2, z, r2, M2, _, s_86, by omega, by omega, ?_⟩
      rw [val, aSet_e]
    · refine ⟨lkd_cg g2.1 (aSet_r (by omega)) (fun a x y => aSet_c (by omega)) (fun a x y => aSet_c (by omega)) (aSet_r (by omega)) (aSet_r (by omega)) (aSet_r (by omega)), ?_, ?_, liR_cg P2 (ek _) g2.2.2.2.1 (aSet_r (by omega)) (aSet_c (by omega)) (aSet_c (by omega)), fun t t0 t1 => ?_⟩
      · rw [aSet_r (by omega), aSet_c (by omega)]; exact g2.2.1
      · rw [aSet_r (by omega), aSet_c (by omega)]; exact g2.2.2.1
      · rw [aSet_r (by omega)] at t1
        rw [aSet_q, aSet_r (show (31 : Int) ≠ 83 by omega), kpV_ke P2 (ek _)]
        by_cases z : t = k
        · rw [if_pos z, z, e2 31 (by omega), kpV_ke h e2]; exact Or.inr rfl
        · rw [if_neg z]; exact g2.2.2.2.2 t t0 t1
  · refine ⟨M, en_104 ?_, fr_rf, hk⟩
    rw [h5]
    refine ⟨rfl, M, _, s_63 bd31, fun _ => ?_, fun q => binn ⟨k0, k1⟩ q⟩
    simp only [ln0, ln1, ln2, ln3, ln4]
    refine ⟨by omega, fun _ => ⟨by omega, rI ?_⟩, fun q => absurd c q⟩
    rcases hk.2.2.2.2 k k0 k1 with q | q
    · exact absurd q c
    · exact q.symm
theorem s_105 (h : rP M) (hc : cP M) {t : Int} : ∃ M1, aE 105 [aR 1, aI t] (SH L) M ([aI (if 0 ≤ t ∧ t < M 31 0 then kpV M (M 31 8) t else -1)], SH L, M1) ∧ fr 64 83 M M1 ∧ cP M1 := by
  by_cases c : 0 ≤ t ∧ t < M 31 0
  · rw [if_pos c]
    obtain ⟨M1, r1, f1, k1⟩ := s_80 (L := L) h hc
    have e1 := ke_fr f1 (by omega) (by omega)
    have P1 := ke_rP h e1
    obtain ⟨M2, r2, f2, k2⟩ := s_104 (L := L) P1 k1 c.1 (by rw [e1 31 (by omega)]; exact c.2)
    rw [e1 31 (by omega), kpV_ke h e1] at r2
    exact ⟨M2, en_105 ⟨M, _, s_63 bd31, fun _ => ⟨M1, r1, M2, _, r2, rfl⟩, fun q => binn c q⟩, fr_tr f1 f2, lok_cP hc (by rw [f2 1 (by omega), e1 1 (by omega)]) k2⟩
  · rw [if_neg c]
    exact ⟨M, en_105 ⟨M, _, s_63 bd31, fun q => absurd (bin c) q, fun q => rfl⟩, fr_rf, hc⟩
theorem s_106 (h : rP M) (hc : cP M) : ∃ M1, aE 106 [aR 1] (SH L) M ([aI (if M 31 0 = 0 then -2 else wrI (kpV M (M 31 8)) (M 31 0) 1 0 (kpV M (M 31 8) 0))], SH L, M1) ∧ fr 64 83 M M1 ∧ cP M1 := by
  have n := rP_n h
  by_cases c : M 31 0 = 0
  · rw [if_pos c]
    exact ⟨M, en_106 ⟨fun q => absurd c q, fun q => rfl⟩, fr_rf, hc⟩
  · rw [if_neg c]
    obtain ⟨M1, r1, f1, k1⟩ := s_80 (L := L) h hc
    have key : ∀ i, ∀ b : Int, ∀ M' : aM, 0 ≤ i → (0 ≤ b ∧ b < M 31 0) → fr 64 83 M M' → lok M' → ∃ M2, aX xc_106 (aSeek xc_106 21) [aR 1, aI b, aI i] [] (SH L) M' ([aI (wrI (kpV M (M 31 8)) (M 31 0) i b (kpV M (M 31 8) b))], SH L, M2) ∧ fr 64 83 M M2 ∧ lok M2 := by
      refine upto (M 31 0) (fun i hi b M' i0 hb f k => ?_) (fun i hi ih b M' i0 hb f k => ?_)
      · have e31 : M' 31 = M 31 := f 31 (by omega)
        exact ⟨M', bl_106_21 ⟨fun _ => rI (wrI_nil hi), fun q => absurd hi (by rw [e31] at q; exact q)⟩, f, k⟩
      · have e := ke_fr f (by omega) (by omega)
        have e31 : M' 31 = M 31 := e 31 (by omega)
        have P' := ke_rP h e
        obtain ⟨M2, r2, f2, k2⟩ := s_104 (L := L) P' k i0 (by rw [e31]; exact hi)
        have ee2 := ke_tr e (ke_fr f2 (by omega) (by omega))
        obtain ⟨M3, r3, f3, k3⟩ := s_104 (L := L) (ke_rP h ee2) k2 hb.1 (by rw [ee2 31 (by omega)]; exact hb.2)
        rw [e31, kpV_ke h e] at r2
        rw [ee2 31 (by omega), kpV_ke h ee2] at r3
        have f123 := fr_tr f (fr_tr f2 f3)
        by_cases cc : kpV M (M 31 8) i ≤ kpV M (M 31 8) b
        · obtain ⟨M4, r4, x⟩ := ih b M3 (by omega) hb f123 k3
          refine ⟨M4, bl_106_21 ⟨fun q => absurd hi (by rw [e31] at q; omega), fun _ => ⟨M2, _, r2, M3, _, r3, fun _ => bl_106_53 ?_, fun q => absurd cc q⟩⟩, x⟩
          rw [aWi (by omega) (by omega), wrI_no hi (by omega)]
          exact r4
        · obtain ⟨M4, r4, x⟩ := ih i M3 (by omega) ⟨i0, hi⟩ f123 k3
          refine ⟨M4, bl_106_21 ⟨fun q => absurd hi (by rw [e31] at q; omega), fun _ => ⟨M2, _, r2, M3, _, r3, fun q => absurd q cc, fun _ => bl_106_53 ?_⟩⟩, x⟩
          rw [aWi (by omega) (by omega), wrI_yes hi (by omega)]
          exact r4
    obtain ⟨M2, r2, f2, k2⟩ := key 1 0 M1 (by omega) ⟨by omega, by omega⟩ f1 k1
    exact ⟨M2, en_106 ⟨fun _ => ⟨M1, r1, r2⟩, fun q => absurd c q⟩, f2, lok_cP hc (f2 1 (by omega)) k2⟩
/-- the c-th from t on with p -/
def ntN (p : Int → Bool) : Nat → Int → Int → Int
  | 0, _, _ => -1
  | k + 1, t, c => if p t = true then (if c = 0 then t else ntN p k (t + 1) (c - 1)) else ntN p k (t + 1) c
def ntI (p : Int → Bool) (n t c : Int) : Int := ntN p (n - t).toNat t c
theorem ntI_nil {p : Int → Bool} {n t c : Int} (h : n ≤ t) : ntI p n t c = -1 := by
  unfold ntI
  rw [show (n - t).toNat = 0 by omega]
  rfl
theorem ntI_step {p : Int → Bool} {n t c : Int} (h : t < n) : ntI p n t c = if p t = true then (if c = 0 then t else ntI p n (t + 1) (c - 1)) else ntI p n (t + 1) c := by
  unfold ntI
  rw [show (n - t).toNat = (n - (t + 1)).toNat + 1 by omega]
  rfl
noncomputable def smP (M : aM) (tg t : Int) : Bool := !hld M (fun _ => true) tg t && decide (0 < kpV M tg t)
theorem smP_ke (h : rP M) (k : ke M M1) {tg t : Int} : smP M1 tg t = smP M tg t := by unfold smP; rw [hld_ke h k, kpV_ke h k]
theorem s_107 (h : rP M) (hc : cP M) {i : Int} (hi32 : i < 2147483648) : ∃ M1, aE 107 [aR 1, aI i] (SH L) M ([aI (if i < 0 then -1 else ntI (smP M (M 31 8)) (M 31 0) 0 i)], SH L, M1) ∧ fr 64 83 M M1 ∧ cP M1 := by
  have n := rP_n h
  obtain ⟨M1, r1, f1, k1⟩ := s_80 (L := L) h hc
  have e1 := ke_fr f1 (by omega) (by omega)
  have P1 := ke_rP h e1
  have e31 : M1 31 = M 31 := e1 31 (by omega)
  obtain ⟨y, M2, r2, f2, k2, x2, v2, -⟩ := s_98a (L := L) P1 k1
  have f12 := fr_tr f1 (fr_mn (hF_fr f2) (show 64 ≤ 64 by omega) (show 77 ≤ 83 by omega))
  have hz : ∀ t, 0 ≤ t → t < M 31 0 → lb (aLand (aWL (aLsl 1 (M1 31 0) - 1)) (aLxor y (-1))) t = !hld M (fun _ => true) (M 31 8) t := by
    intro t t0 t1
    rw [lb_and, lb_ev P1 t0 (by omega), lb_not (by omega), v2 t t0 (by omega), e31, decide_eq_true t1, hld_ke h e1]
    rfl
  have key : ∀ t, ∀ c : Int, ∀ M' : aM, 0 ≤ t → c < 2147483648 → fr 64 83 M M' → lok M' → ∃ M3, aX xc_107 (aSeek xc_107 44) [aR 1, aU, aJ (aLand (aWL (aLsl 1 (M1 31 0) - 1)) (aLxor y (-1))), aU, aI c, aI t] [] (SH L) M' ([aI (if c < 0 then -1 else ntI (smP M (M 31 8)) (M 31 0) t c)], SH L, M3) ∧ fr 64 83 M M3 ∧ lok M3 := by
    refine upto (M 31 0) (fun t ht c M' t0 hc f k => ?_) (fun t ht ih c M' t0 hc f k => ?_)
    · have e31' : M' 31 = M 31 := f 31 (by omega)
      refine ⟨M', bl_107_44 ⟨fun _ => rI ?_, fun q => absurd ht (by rw [e31'] at q; exact q)⟩, f, k⟩
      rw [ntI_nil ht]; split <;> rfl
    · have e := ke_fr f (by omega) (by omega)
      have e31' : M' 31 = M 31 := e 31 (by omega)
      have P' := ke_rP h e
      by_cases c0 : c < 0
      · exact ⟨M', bl_107_44 ⟨fun q => absurd ht (by rw [e31'] at q; omega), fun _ => ⟨fun _ => rI (if_pos c0), fun q => absurd c0 q⟩⟩, f, k⟩
      · rw [if_neg c0, ntI_step ht]
        have nx : ∀ (c' : Int) (M3 : aM), c' < 2147483648 → fr 64 83 M M3 → lok M3 → ∃ M4, aX xc_107 (aSeek xc_107 94) [aR 1, aU, aJ (aLand (aWL (aLsl 1 (M1 31 0) - 1)) (aLxor y (-1))), aU, aI c', aI t] [] (SH L) M3 ([aI (if c' < 0 then -1 else ntI (smP M (M 31 8)) (M 31 0) (t + 1) c')], SH L, M4) ∧ fr 64 83 M M4 ∧ lok M4 := by
          intro c' M3 hc' f3 k3
          obtain ⟨M4, r4, x⟩ := ih c' M3 (by omega) hc' f3 k3
          refine ⟨M4, bl_107_94 ?_, x⟩
          rw [aWi (by omega) (by omega)]
          exact r4
        by_cases cl : hld M (fun _ => true) (M 31 8) t = true
        · have sp : ¬ smP M (M 31 8) t = true := by unfold smP; rw [cl]; simp
          obtain ⟨M4, r4, x⟩ := nx c M' hc f k
          rw [if_neg c0] at r4
          refine ⟨M4, bl_107_44 ⟨fun q => absurd ht (by rw [e31'] at q; omega), fun _ => ⟨fun q => absurd q c0, fun _ => ⟨M', _, s_84 t0 (by omega), fun _ => ?_, fun q => ?_⟩⟩⟩, x⟩
          · rw [if_neg sp]; exact r4
          · rw [Classical.not_not, bi_1, hz t t0 ht, cl] at q; cases q
        · have cl' : hld M (fun _ => true) (M 31 8) t = false := by simpa using cl
          obtain ⟨M3, r3, f3, k3⟩ := s_104 (L := L) P' k t0 (by rw [e31']; exact ht)
          rw [e31', kpV_ke h e] at r3
          have f123 := fr_tr f f3
          have hz1 : bi (lb (aLand (aWL (aLsl 1 (M1 31 0) - 1)) (aLxor y (-1))) t) = 1 := by rw [hz t t0 ht, cl']; rfl
          by_cases cp : kpV M (M 31 8) t ≤ 0
          · have sp : ¬ smP M (M 31 8) t = true := by unfold smP; rw [decide_eq_false (by omega), Bool.and_false]; decide
            obtain ⟨M4, r4, x⟩ := nx c M3 hc f123 k3
            rw [if_neg c0] at r4
            refine ⟨M4, bl_107_44 ⟨fun q => absurd ht (by rw [e31'] at q; omega), fun _ => ⟨fun q => absurd q c0, fun _ => ⟨M', _, s_84 t0 (by omega), fun q => absurd hz1 q, fun _ => ⟨M3, _, r3, fun _ => ?_, fun q => absurd cp q⟩⟩⟩⟩, x⟩
            rw [if_neg sp]; exact r4
          · have sp : smP M (M 31 8) t = true := by unfold smP; rw [cl', decide_eq_true (by omega)]; rfl
            rw [if_pos sp]
            by_cases cz : c = 0
            · rw [if_pos cz]
              exact ⟨M3, bl_107_44 ⟨fun q => absurd ht (by rw [e31'] at q; omega), fun _ => ⟨fun q => absurd q c0, fun _ => ⟨M', _, s_84 t0 (by omega), fun q => absurd hz1 q, fun _ => ⟨M3, _, r3, fun q => absurd q cp, fun _ => ⟨fun q => absurd cz q, fun _ => rfl⟩⟩⟩⟩⟩, f123, k3⟩
            · obtain ⟨M4, r4, x⟩ := nx (c - 1) M3 (by omega) f123 k3
              rw [if_neg (show ¬ c - 1 < 0 by omega)] at r4
              refine ⟨M4, bl_107_44 ⟨fun q => absurd ht (by rw [e31'] at q; omega), fun _ => ⟨fun q => absurd q c0, fun _ => ⟨M', _, s_84 t0 (by omega), fun q => absurd hz1 q, fun _ => ⟨M3, _, r3, fun q => absurd q cp, fun _ => ⟨fun _ => ?_, fun q => absurd cz q⟩⟩⟩⟩⟩, x⟩
              rw [if_neg cz, aWi (by omega) (by omega), show c + (-1) = c - 1 by omega]
              exact r4
  obtain ⟨M3, r3, f3, k3⟩ := key 0 i M2 (by omega) hi32 f12 k2
  refine ⟨M3, en_107 ⟨M1, r1, M1, _, s_81 bd31, M1, _, s_81 bd31, M2, y, r2, r3⟩, f3, lok_cP hc (f3 1 (by omega)) k3⟩
end POPS
