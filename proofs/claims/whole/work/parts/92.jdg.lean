/-! judge and breaks, both sides -/
section JDG1
variable {L : Nat} {M M1 M2 : aM}
noncomputable def quV (M : aM) (t r : Int) : Int := hdV M (asV M t (tcV M t) (bi (hld M (fun _ => true) (M 31 8) t))) (M 167 r) (M 168 r)
noncomputable def jrV (M : aM) (t r : Int) : Int := fndI (fun r => decide (quV M t r = 1)) (-1) r (M 166 0)
noncomputable def jdT (M : aM) (t : Int) : Int := fndI (fun t => decide (¬ jrV M t 0 = -1)) (-2) t (M 31 0)
noncomputable def jdV (M : aM) (t : Int) : Int := if jdT M t = -2 then -2 else 10 * jdT M t + jrV M (jdT M t) 0
theorem qu_ke (h : rP M) (k : ke M M1) {t r : Int} : quV M1 t r = quV M t r := by
  unfold quV
  rw [k 167 (by omega), k 168 (by omega), hdV_cg (fun a x y => k a (by omega)), tc_ke h k, hld_ke h k, k 31 (by omega)]
  exact hdV_vr (fun j _ _ => asV_ke k)
theorem jr_ke (h : rP M) (k : ke M M1) {t r : Int} : jrV M1 t r = jrV M t r := by
  unfold jrV
  rw [k 166 (by omega)]
  exact fndI_congr r (fun j _ _ => by rw [qu_ke h k])
theorem jd_ke (h : rP M) (k : ke M M1) {t : Int} : jdV M1 t = jdV M t := by
  have e : jdT M1 t = jdT M t := by
    unfold jdT
    rw [k 31 (by omega)]
    exact fndI_congr t (fun j _ _ => by rw [jr_ke h k])
  unfold jdV
  rw [e, jr_ke h k]
theorem jd_nil {t : Int} (h : M 31 0 ≤ t) : jdV M t = -2 := by
  unfold jdV jdT
  rw [fndI_nil h, if_pos rfl]
theorem jd_no {t : Int} (h : t < M 31 0) (q : jrV M t 0 = -1) : jdV M t = jdV M (t + 1) := by
  unfold jdV jdT
  rw [fndI_no h (by rw [decide_eq_true_eq]; exact fun z => z q)]
theorem jd_yes {t : Int} (t0 : 0 ≤ t) (h : t < M 31 0) (q : ¬ jrV M t 0 = -1) : jdV M t = 10 * t + jrV M t 0 := by
  unfold jdV jdT
  rw [fndI_yes h (by rw [decide_eq_true_eq]; exact q), if_neg (by omega)]
theorem jr_rng {t : Int} : ∀ r, 0 ≤ r → jrV M t r = -1 ∨ (r ≤ jrV M t r ∧ jrV M t r < M 166 0) := by
  unfold jrV
  refine upto (M 166 0) (fun r hr r0 => Or.inl (fndI_nil hr)) (fun r hr ih r0 => ?_)
  by_cases q : (fun r => decide (quV M t r = 1)) r = true
  · rw [fndI_yes hr q]; omega
  · rw [fndI_no hr q]
    have := ih (by omega)
    omega
theorem qu_01 (hr : rR M (M 1 3)) {t r : Int} (r0 : 0 ≤ r) (r1 : r < M 166 0) : quV M t r = 0 ∨ quV M t r = 1 := by
  obtain ⟨a, b, c, d⟩ := hr.2 r r0 (by rw [← hr.1.2.2]; exact r1)
  exact hdV_01 c
theorem rR_ke (h : rP M) (k : ke M M1) (hr : rR M (M 1 3)) : rR M1 (M 1 3) := by
  have t := tx_le (rP_tx h)
  have hh : ∀ vr a b, hdV M1 vr a b = hdV M vr a b := fun vr a b => hdV_cg (fun a x y => k a (by omega))
  have ho : ∀ j, liOk M j → liOk M1 j := fun j hk => liOk_cg hk (fun a x y => k a (by omega))
  unfold rR
  rw [k 166 (by omega), k 167 (by omega), k 168 (by omega), k (M 1 3) (by omega), k (M 1 3 + 8) (by omega), k (M 1 3 + 9) (by omega), k (M 1 3 + 10) (by omega)]
  refine ⟨hr.1, fun r r0 r1 => ?_⟩
  obtain ⟨a, b, c, d⟩ := hr.2 r r0 r1
  refine ⟨a, b, fun k k0 k1 => ho k (c k k0 k1), fun vr => ?_⟩
  rw [hh]
  exact d vr
theorem s_135 {T r : Int} (ht : isTx T) (hr : rR M T) (e2 : M 90 2 = T) (r0 : 0 ≤ r) (r1 : r < M 166 0) : ∃ M1, aE 135 [aR 90, aI r] (SH L) M ([aI (hdV M (M 97) (M 167 r) (M 168 r))], SH L, M1) ∧ (∀ a, a ≠ 90 → a ≠ 98 → M1 a = M a) ∧ ∀ j, j ≠ 7 → j ≠ 8 → M1 90 j = M 90 j := by
  have h6 := hr.1
  obtain ⟨⟨a1, a2, a3⟩, b, c, d⟩ := hr.2 r r0 (by omega)
  obtain ⟨z, ev⟩ := d (M 97)
  obtain ⟨M1, r2, -, f1, f2⟩ := s_125 (L := L) (M := M) ht e2 a1 a3 a2 ev
  have v01 := hdV_01 (M := M) (vr := M 97) (f := M 167 r) (t := M 168 r) c
  refine ⟨M1, en_135 ?_, f1, f2⟩
  rw [e2]
  simp only [tx ht]
  refine ⟨trivial, by omega, trivial, by omega, M1, _, r2, fun q => rI (by omega), fun q => rI (by omega)⟩
def jF (K M' : aM) : Prop := (∀ a, a ≠ 90 → a ≠ 97 → a ≠ 98 → M' a = K a) ∧ ∀ j, j ≠ 7 → j ≠ 8 → M' 90 j = K 90 j
theorem jF_rf : jF M M := ⟨fun _ _ _ _ => rfl, fun _ _ _ => rfl⟩
/-- the class's start of judge and breaks -/
theorem jd_st (h : rP M) (hc : cP M) (hg : rG M (M 1 3)) (hw : cW M) : ∃ K1 K2 y, aE 128 [aR 1] (SH L) M ([], SH L, K1) ∧ aE 81 [aR 31] (SH L) K1 ([aJ (aWL (aLsl 1 (K1 31 0) - 1))], SH L, K1) ∧ aE 98 [aR 64, aJ (aWL (aLsl 1 (K1 31 0) - 1)), aI (K1 31 8)] (SH L) K1 ([aJ y], SH L, K2) ∧ fw M K2 ∧ lok K2 ∧ cWd K2 ∧ K2 90 9 = K2 1 10 ∧
    ∀ t, 0 ≤ t → t < M 31 0 → lb y t = hld M (fun _ => true) (M 31 8) t := by
  obtain ⟨K1, r, f, hk, e, d⟩ := s_128 (L := L) h hc hg hw
  have k : ke M K1 := ke_fw f
  have h1 := ke_rP h k
  obtain ⟨y, K2, r2, f2, hk2, -, hv, -⟩ := s_98a (L := L) h1 hk
  have k2 := hF_ke f2
  refine ⟨K1, K2, y, r, s_81 bd31, r2, fun a ha => ((hF_fr f2) a (by omega)).trans (f a ha), hk2, cWd_cg k2 (fun a x y => f2.1 a (by omega) (by omega)) d, ?_, fun t t0 t1 => ?_⟩
  · rw [f2.1 90 (by omega) (by omega), e, k2 1 (by omega)]
  · have n := rP_n h
    rw [hv t t0 (by omega), k 31 (by omega), decide_eq_true t1, Bool.true_and, hld_ke h k]
theorem jF_k (h : rP M) {K M' : aM} (kK : ke M K) (hk : lok K) (hW : cWd K) (f : jF K M') : rP M' ∧ lkd M' ∧ ke M M' ∧ M' 90 2 = M 1 3 ∧ M' 90 3 = 31 ∧ M' 90 4 = 64 ∧ lok M' ∧ cWd M' := by
  have k2 : ke K M' := fun a ha => f.1 a (by omega) (by omega) (by omega)
  have k3 := ke_tr kK k2
  have hK := ke_rP h kK
  have g9 : cWd M' := by
    obtain ⟨a, b, c, d, e⟩ := hW
    have ge : gvV M' = gvV K := funext fun t => gv_ke k2
    unfold cWd
    rw [f.2 2 (by omega) (by omega), f.2 3 (by omega) (by omega), f.2 4 (by omega) (by omega), k2 1 (by omega), k2 31 (by omega), f.1 91 (by omega) (by omega) (by omega), ge]
    refine ⟨a, b, c, d, fun s s0 s1 => ?_⟩
    rw [f.1 (93 + s) (by omega) (by omega) (by omega)]
    exact ⟨SQ_ke k2 (e s s0 s1).1, (e s s0 s1).2⟩
  have lk := lok_hi hK hk (fun a ha => f.1 a (by omega) (by omega) (by omega))
  exact ⟨ke_rP h k3, lk.1, k3, by rw [g9.1, k3 1 (by omega)], g9.2.1, g9.2.2.1, lk, g9⟩
/-- the class asks of a thing -/
theorem jd_ask (h : rP M) {K M' : aM} (kK : ke M K) (hk : lok K) (hW : cWd K) (f : jF K M') {t : Int} (t0 : 0 ≤ t) (t1 : t < M 31 0) : ∃ M2, aE 134 [aR 90, aI t, aI (bi (hld M (fun _ => true) (M 31 8) t))] (SH L) M' ([], SH L, M2) ∧ jF K M2 ∧ ∀ j, 0 ≤ j → j < 9 → M2 97 j = asV M t (tcV M t) (bi (hld M (fun _ => true) (M 31 8) t)) j := by
  obtain ⟨a, b, c, d, e, e4, -, -⟩ := jF_k h kK hk hW f
  obtain ⟨M2, r, g, v⟩ := s_134 (L := L) a b e e4 (t := t) (hl := bi (hld M (fun _ => true) (M 31 8) t)) t0 (by rw [c 31 (by omega)]; exact t1)
  refine ⟨M2, r, ⟨fun x x0 x1 x2 => by rw [g x x1]; exact f.1 x x0 x1 x2, fun j j0 j1 => by rw [g 90 (by omega)]; exact f.2 j j0 j1⟩, fun j j0 j1 => ?_⟩
  rw [v j j0 j1, asV_ke c, tc_ke h c]
/-- the class's rule -/
theorem jd_rule (h : rP M) (hr : rR M (M 1 3)) {K M' : aM} (kK : ke M K) (hk : lok K) (hW : cWd K) (f : jF K M') {t r : Int} (v : ∀ j, 0 ≤ j → j < 9 → M' 97 j = asV M t (tcV M t) (bi (hld M (fun _ => true) (M 31 8) t)) j) (r0 : 0 ≤ r) (r1 : r < M 166 0) : ∃ M2, aE 135 [aR 90, aI r] (SH L) M' ([aI (quV M t r)], SH L, M2) ∧ jF K M2 ∧ M2 97 = M' 97 := by
  obtain ⟨a, b, c, d, e, e4, -, -⟩ := jF_k h kK hk hW f
  obtain ⟨M2, r2, g1, g2⟩ := s_135 (L := L) (rP_tx h) (rR_ke h c hr) d r0 (by rw [c 166 (by omega)]; exact r1)
  rw [c 167 (by omega), c 168 (by omega), hdV_cg (fun a x y => c a (by omega)), hdV_vr v] at r2
  exact ⟨M2, r2, ⟨fun x x0 x1 x2 => by rw [g1 x x0 x2]; exact f.1 x x0 x1 x2, fun j j0 j1 => by rw [g2 j j0 j1]; exact f.2 j j0 j1⟩, g1 97 (by omega) (by omega)⟩
theorem jd_end (h : rP M) (hc : cP M) {K M' : aM} (fK : fw M K) (hk : lok K) (hW : cWd K) (e : K 90 9 = K 1 10) (f : jF K M') : fw M M' ∧ cP M' ∧ cW M' := by
  have kK : ke M K := ke_fw fK
  obtain ⟨a, b, c, d, _, _, lk, g9⟩ := jF_k h kK hk hW f
  have f1 : M' 1 = M 1 := c 1 (by omega)
  have e9 : M' 90 9 = M' 1 10 := by rw [f.2 9 (by omega) (by omega), e, f.1 1 (by omega) (by omega) (by omega)]
  exact ⟨fun x hx => by rw [f.1 x (by omega) (by omega) (by omega)]; exact fK x hx, lok_cP hc f1 lk, by omega, fun _ => g9⟩
theorem s_136 (h : rP M) (hc : cP M) (hl : rW M (M 1 3)) (hw : cW M) : ∃ M1, aE 136 [aR 1] (SH L) M ([aI (jdV M 0)], SH L, M1) ∧ fw M M1 ∧ cP M1 ∧ cW M1 := by
  have n := rP_n h
  have h6 := hl.2.1
  obtain ⟨K1, K, y, r1, r2, r3, fK, hk, hW, e9, hy⟩ := jd_st (L := L) h hc hl.1 hw
  have kK : ke M K := ke_fw fK
  have tl := rP_tx h
  have lp : ∀ t, ∀ M' : aM, 0 ≤ t → t ≤ M 31 0 → jF K M' → ∃ M1, aX xc_136 (aSeek xc_136 28) [aR 1, aJ y, aU, aI t, aU] [] (SH L) M' ([aI (jdV M t)], SH L, M1) ∧ jF K M1 := by
    refine upto (M 31 0) (fun t ht M' t0 t1 f => ?_) (fun t ht ih M' t0 t1 f => ?_)
    · have k := jF_k h kK hk hW f
      refine ⟨M', bl_136_28 ⟨fun _ => rI (jd_nil ht), fun q => absurd ?_ q⟩, f⟩
      rw [k.2.2.1 31 (by omega)]; exact ht
    · have k := jF_k h kK hk hW f
      obtain ⟨M2, ra, f2, v2⟩ := jd_ask (L := L) h kK hk hW f t0 ht
      have rl : ∀ r, ∀ M3 : aM, 0 ≤ r → r ≤ M 166 0 → jF K M3 → M3 97 = M2 97 → ∃ M1, aX xc_136 (aSeek xc_136 55) [aR 1, aJ y, aU, aI t, aI r] [] (SH L) M3 ([aI (if jrV M t r = -1 then jdV M (t + 1) else 10 * t + jrV M t r)], SH L, M1) ∧ jF K M1 := by
        refine upto (M 166 0) (fun r hr M3 r0 r1 f3 e3 => ?_) (fun r hr ih2 M3 r0 r1 f3 e3 => ?_)
        · have k3 := jF_k h kK hk hW f3
          obtain ⟨M1, r4, y4⟩ := ih M3 (by omega) (by omega) f3
          have e0 : jrV M t r = -1 := fndI_nil hr
          refine ⟨M1, bl_136_55 ⟨by rw [k3.2.2.1 1 (by omega)]; exact (tx tl).1, fun _ => ?_, fun q => absurd ?_ q⟩, y4⟩
          · rw [if_pos e0, aWi (z := t + 1) (by omega) (by omega)]; exact r4
          · rw [k3.2.2.1 1 (by omega), k3.2.2.1 (M 1 3) (by have := tx_le tl; omega)]; omega
        · have k3 := jF_k h kK hk hW f3
          obtain ⟨M4, r4, f4, e4⟩ := jd_rule (L := L) h hl.2 kK hk hW f3 (t := t) (r := r) (fun j j0 j1 => by rw [e3]; exact v2 j j0 j1) r0 hr
          have q01 := qu_01 hl.2 (t := t) r0 hr
          have q16 : ¬ M3 (M3 1 3) 16 ≤ r := by rw [k3.2.2.1 1 (by omega), k3.2.2.1 (M 1 3) (by have := tx_le tl; omega)]; omega
          have aK0 : aK (SH L) (M3 1 3) = 19 := by rw [k3.2.2.1 1 (by omega)]; exact (tx tl).1
          by_cases c : quV M t r = 1
          · have e0 : jrV M t r = r := fndI_yes hr (decide_eq_true c)
            refine ⟨M4, bl_136_55 ⟨aK0, fun q => absurd q q16, fun _ => ⟨M4, _, r4, fun q => by omega, fun _ => rI ?_⟩⟩, f4⟩
            rw [e0, if_neg (by omega), aWi (z := 10 * t) (by omega) (by omega), aWi (by omega) (by omega)]
          · have e0 : jrV M t r = jrV M t (r + 1) := fndI_no hr (by rw [decide_eq_true_eq]; exact c)
            obtain ⟨M1, r5, y5⟩ := ih2 M4 (by omega) (by omega) f4 (e4.trans e3)
            refine ⟨M1, bl_136_55 ⟨aK0, fun q => absurd q q16, fun _ => ⟨M4, _, r4, fun _ => ?_, fun q => by omega⟩⟩, y5⟩
            rw [e0, aWi (z := r + 1) (by omega) (by omega)]
            exact r5
      obtain ⟨M1, rr, fr1⟩ := rl 0 M2 (by omega) (by omega) f2 rfl
      have ev : (if jrV M t 0 = -1 then jdV M (t + 1) else 10 * t + jrV M t 0) = jdV M t := by
        by_cases q : jrV M t 0 = -1
        · rw [if_pos q, jd_no ht q]
        · rw [if_neg q, jd_yes t0 ht q]
      rw [ev] at rr
      have r84 : aE 84 [aJ y, aI t] (SH L) M' ([aI (bi (hld M (fun _ => true) (M 31 8) t))], SH L, M') := by
        rw [← hy t t0 ht]
        exact s_84 t0 (by omega)
      exact ⟨M1, bl_136_28 ⟨fun q => absurd q (by rw [k.2.2.1 31 (by omega)]; omega), fun _ => ⟨M', _, r84, M2, ra, rr⟩⟩, fr1⟩
  obtain ⟨M1, r4, f4⟩ := lp 0 K (by omega) n.1 jF_rf
  exact ⟨M1, en_136 ⟨K1, r1, K1, _, r2, K, y, r3, r4⟩, jd_end h hc fK hk hW e9 f4⟩
theorem s_137 (h : rP M) (hc : cP M) (hl : rW M (M 1 3)) (hw : cW M) {r : Int} : ∃ M1, aE 137 [aR 1, aI r] (SH L) M ([aI (if 0 ≤ r ∧ r < M 166 0 then sumI (fun t => quV M t r) 0 (M 31 0) else -1)], SH L, M1) ∧ fw M M1 ∧ cP M1 ∧ cW M1 := by
  have n := rP_n h
  have h6 := hl.2.1
  have tl := rP_tx h
  by_cases c0 : r < 0
  · exact ⟨M, en_137 ⟨fun _ => rI (by rw [if_neg (by omega)]), fun q => absurd c0 q⟩, fw_rf, hc, hw⟩
  by_cases c1 : r < M 166 0
  · obtain ⟨K1, K, y, r1, r2, r3, fK, hk, hW, e9, hy⟩ := jd_st (L := L) h hc hl.1 hw
    have kK : ke M K := ke_fw fK
    have lp : ∀ t, ∀ b, ∀ M' : aM, 0 ≤ t → t ≤ M 31 0 → 0 ≤ b → b ≤ t → jF K M' → ∃ M1, aX xc_137 (aSeek xc_137 49) [aR 1, aI r, aJ y, aU, aI b, aI t] [] (SH L) M' ([aI (b + sumI (fun t => quV M t r) t (M 31 0))], SH L, M1) ∧ jF K M1 := by
      refine upto (M 31 0) (fun t ht b M' t0 t1 b0 b1 f => ?_) (fun t ht ih b M' t0 t1 b0 b1 f => ?_)
      · have k := jF_k h kK hk hW f
        refine ⟨M', bl_137_49 ⟨fun _ => rI (by rw [sumI_nil ht, Int.add_zero]), fun q => absurd ?_ q⟩, f⟩
        rw [k.2.2.1 31 (by omega)]; exact ht
      · have k := jF_k h kK hk hW f
        obtain ⟨M2, ra, f2, v2⟩ := jd_ask (L := L) h kK hk hW f t0 ht
        obtain ⟨M4, r4, f4, e4⟩ := jd_rule (L := L) h hl.2 kK hk hW f2 (t := t) (r := r) v2 (by omega) c1
        have q01 := qu_01 hl.2 (t := t) (r := r) (by omega) c1
        obtain ⟨M1, r5, y5⟩ := ih (b + quV M t r) M4 (by omega) (by omega) (by omega) (by omega) f4
        have r84 : aE 84 [aJ y, aI t] (SH L) M' ([aI (bi (hld M (fun _ => true) (M 31 8) t))], SH L, M') := by
          rw [← hy t t0 ht]
          exact s_84 t0 (by omega)
        refine ⟨M1, bl_137_49 ⟨fun q => absurd q (by rw [k.2.2.1 31 (by omega)]; omega), fun _ => ⟨M', _, r84, M2, ra, M4, _, r4, fun q => bl_137_90 ?_, fun q => bl_137_90 ?_⟩⟩, y5⟩
        · rw [sumI_step ht, ← Int.add_assoc, aWi (z := t + 1) (by omega) (by omega), show b = b + quV M t r by omega]
          rw [show b + quV M t r + quV M t r = b + quV M t r by omega]
          exact r5
        · rw [sumI_step ht, ← Int.add_assoc, aWi (z := t + 1) (by omega) (by omega), aWi (z := b + 1) (by omega) (by omega)]
          rw [show quV M t r = 1 by omega] at r5 ⊢
          exact r5
    obtain ⟨M1, r4, f4⟩ := lp 0 0 K (by omega) n.1 (by omega) (by omega) jF_rf
    rw [Int.zero_add] at r4
    rw [if_pos ⟨by omega, c1⟩]
    exact ⟨M1, en_137 ⟨fun q => absurd q c0, fun _ => ⟨(tx tl).1, fun _ => ⟨K1, r1, K1, _, r2, K, y, r3, r4⟩, fun q => absurd (by omega) q⟩⟩, jd_end h hc fK hk hW e9 f4⟩
  · exact ⟨M, en_137 ⟨fun _ => rI (by rw [if_neg (by omega)]), fun _ => ⟨(tx tl).1, fun q => absurd q (by omega), fun _ => rI (by rw [if_neg (by omega)])⟩⟩, fw_rf, hc, hw⟩
def mJ (M M' : aM) : Prop := sc M M' ∧ mS M' (fun _ => true) (M 31 8)
theorem mJ_st (h : rP M) : ∃ K, aE 247 [aR 145] (SH L) M ([], SH L, K) ∧ mJ M K := by
  obtain ⟨K, r, a, -, -, m⟩ := s_247 (L := L) h
  rw [rP_tg h] at m
  exact ⟨K, r, a, m⟩
theorem mJ_ask (h : rP M) {M' : aM} (f : mJ M M') {t : Int} (t0 : 0 ≤ t) (t1 : t < M 31 0) : ∃ M2, aE 281 [aR 145, aI t] (SH L) M' ([], SH L, M2) ∧ mJ M M2 ∧ ∀ j, 0 ≤ j → j < 9 → M2 191 j = asV M t (tcV M t) (bi (hld M (fun _ => true) (M 31 8) t)) j := by
  have k := ke_sc f.1
  have h1 := ke_rP h k
  obtain ⟨M2, r, g, v⟩ := s_281 (L := L) h1 f.2 (t := t) t0 (by rw [k 31 (by omega)]; exact t1)
  have k2 : ke M' M2 := fun a ha => g a (by omega)
  refine ⟨M2, r, ⟨sc_tr f.1 ⟨fun a x y z => g a (by omega), fun j hj => by rw [g 145 (by omega)]⟩, mS_ke h1 k2 f.2 (g 193 (by omega)) (g 194 (by omega)) (g 195 (by omega))⟩, fun j j0 j1 => ?_⟩
  rw [v j j0 j1, asV_ke k, tc_ke h k, hld_ke h k]
theorem mJ_rule (h : rP M) (hr : rR M (M 1 3)) {M' : aM} (f : mJ M M') {t r : Int} (v : ∀ j, 0 ≤ j → j < 9 → M' 191 j = asV M t (tcV M t) (bi (hld M (fun _ => true) (M 31 8) t)) j) (r0 : 0 ≤ r) (r1 : r < M 166 0) : ∃ M2, aE 218 [aR 145, aI (M' 167 r), aI (M' 168 r)] (SH L) M' ([aI (quV M t r)], SH L, M2) ∧ mJ M M2 ∧ M2 191 = M' 191 := by
  have k := ke_sc f.1
  have h1 := ke_rP h k
  obtain ⟨-, b, c, -⟩ := hr.2 r r0 (by rw [← hr.1.2.2]; exact r1)
  rw [k 167 (by omega), k 168 (by omega)]
  obtain ⟨M2, r2, g⟩ := s_218 (L := L) (M := M') (f := M 167 r) (t := M 168 r) b.1 (by omega) (fun j j0 j1 => liOk_cg (c j j0 j1) (fun a x y => k a (by omega)))
  rw [hdV_cg (fun a x y => k a (by omega)), hdV_vr v] at r2
  have k2 : ke M' M2 := ke_sc (smF_sc g)
  exact ⟨M2, r2, ⟨sc_tr f.1 (smF_sc g), mS_ke h1 k2 f.2 (g.1 193 (by omega) (by omega)) (g.1 194 (by omega) (by omega)) (g.1 195 (by omega) (by omega))⟩, g.1 191 (by omega) (by omega)⟩
theorem s_282 (h : rP M) (hl : rW M (M 1 3)) : ∃ M1, aE 282 [aR 145] (SH L) M ([aI (jdV M 0)], SH L, M1) ∧ sc M M1 := by
  have n := rP_n h
  have h6 := hl.2.1
  have l7 : aLn (SH L) 1 167 = 12 := rfl
  have l8 : aLn (SH L) 1 168 = 12 := rfl
  obtain ⟨K, r1, fK⟩ := mJ_st (L := L) h
  have lp : ∀ t, ∀ M' : aM, 0 ≤ t → t ≤ M 31 0 → mJ M M' → ∃ M1, aX xc_282 (aSeek xc_282 6) [aR 145, aI t, aU] [] (SH L) M' ([aI (jdV M t)], SH L, M1) ∧ mJ M M1 := by
    refine upto (M 31 0) (fun t ht M' t0 t1 f => ?_) (fun t ht ih M' t0 t1 f => ?_)
    · have k := ke_sc f.1
      refine ⟨M', bl_282_6 ⟨fun _ => rI (jd_nil ht), fun q => absurd ?_ q⟩, f⟩
      rw [k 179 (by omega), n.2.2]; exact ht
    · have k := ke_sc f.1
      obtain ⟨M2, ra, f2, v2⟩ := mJ_ask (L := L) h f t0 ht
      have rl : ∀ r, ∀ M3 : aM, 0 ≤ r → r ≤ M 166 0 → mJ M M3 → M3 191 = M2 191 → ∃ M1, aX xc_282 (aSeek xc_282 23) [aR 145, aI t, aI r] [] (SH L) M3 ([aI (if jrV M t r = -1 then jdV M (t + 1) else 10 * t + jrV M t r)], SH L, M1) ∧ mJ M M1 := by
        refine upto (M 166 0) (fun r hr M3 r0 r1 f3 e3 => ?_) (fun r hr ih2 M3 r0 r1 f3 e3 => ?_)
        · have k3 := ke_sc f3.1
          obtain ⟨M1, r4, y4⟩ := ih M3 (by omega) (by omega) f3
          have e0 : jrV M t r = -1 := fndI_nil hr
          refine ⟨M1, bl_282_23 ⟨fun _ => ?_, fun q => absurd ?_ q⟩, y4⟩
          · rw [if_pos e0, aWi (z := t + 1) (by omega) (by omega)]; exact r4
          · rw [k3 166 (by omega)]; omega
        · have k3 := ke_sc f3.1
          obtain ⟨M4, r4, f4, e4⟩ := mJ_rule (L := L) h hl.2 f3 (t := t) (r := r) (fun j j0 j1 => by rw [e3]; exact v2 j j0 j1) r0 hr
          have q01 := qu_01 hl.2 (t := t) r0 hr
          have q16 : ¬ M3 166 0 ≤ r := by rw [k3 166 (by omega)]; omega
          by_cases c : quV M t r = 1
          · have e0 : jrV M t r = r := fndI_yes hr (decide_eq_true c)
            refine ⟨M4, bl_282_23 ⟨fun q => absurd q q16, fun _ => ⟨by omega, by omega, M4, _, r4, fun q => by omega, fun _ => rI ?_⟩⟩, f4⟩
            rw [e0, if_neg (by omega), aWi (z := 10 * t) (by omega) (by omega), aWi (by omega) (by omega)]
          · have e0 : jrV M t r = jrV M t (r + 1) := fndI_no hr (by rw [decide_eq_true_eq]; exact c)
            obtain ⟨M1, r5, y5⟩ := ih2 M4 (by omega) (by omega) f4 (e4.trans e3)
            refine ⟨M1, bl_282_23 ⟨fun q => absurd q q16, fun _ => ⟨by omega, by omega, M4, _, r4, fun _ => ?_, fun q => by omega⟩⟩, y5⟩
            rw [e0, aWi (z := r + 1) (by omega) (by omega)]
            exact r5
      obtain ⟨M1, rr, fr1⟩ := rl 0 M2 (by omega) (by omega) f2 rfl
      have ev : (if jrV M t 0 = -1 then jdV M (t + 1) else 10 * t + jrV M t 0) = jdV M t := by
        by_cases q : jrV M t 0 = -1
        · rw [if_pos q, jd_no ht q]
        · rw [if_neg q, jd_yes t0 ht q]
      rw [ev] at rr
      exact ⟨M1, bl_282_6 ⟨fun q => absurd q (by rw [k 179 (by omega), n.2.2]; omega), fun _ => ⟨M2, ra, rr⟩⟩, fr1⟩
  obtain ⟨M1, r4, f4⟩ := lp 0 K (by omega) n.1 fK
  exact ⟨M1, en_282 ⟨K, r1, r4⟩, f4.1⟩
theorem s_283 (h : rP M) (hl : rW M (M 1 3)) {r : Int} : ∃ M1, aE 283 [aR 145, aI r] (SH L) M ([aI (if 0 ≤ r ∧ r < M 166 0 then sumI (fun t => quV M t r) 0 (M 31 0) else -1)], SH L, M1) ∧ sc M M1 := by
  have n := rP_n h
  have h6 := hl.2.1
  have l7 : aLn (SH L) 1 167 = 12 := rfl
  have l8 : aLn (SH L) 1 168 = 12 := rfl
  by_cases c0 : r < 0
  · exact ⟨M, en_283 ⟨fun _ => rI (by rw [if_neg (by omega)]), fun q => absurd c0 q⟩, sc_rf⟩
  by_cases c1 : r < M 166 0
  · obtain ⟨K, r1, fK⟩ := mJ_st (L := L) h
    have lp : ∀ t, ∀ b, ∀ M' : aM, 0 ≤ t → t ≤ M 31 0 → 0 ≤ b → b ≤ t → mJ M M' → ∃ M1, aX xc_283 (aSeek xc_283 24) [aR 145, aI r, aI b, aI t] [] (SH L) M' ([aI (b + sumI (fun t => quV M t r) t (M 31 0))], SH L, M1) ∧ mJ M M1 := by
      refine upto (M 31 0) (fun t ht b M' t0 t1 b0 b1 f => ?_) (fun t ht ih b M' t0 t1 b0 b1 f => ?_)
      · have k := ke_sc f.1
        refine ⟨M', bl_283_24 ⟨fun _ => rI (by rw [sumI_nil ht, Int.add_zero]), fun q => absurd ?_ q⟩, f⟩
        rw [k 179 (by omega), n.2.2]; exact ht
      · have k := ke_sc f.1
        obtain ⟨M2, ra, f2, v2⟩ := mJ_ask (L := L) h f t0 ht
        obtain ⟨M4, r4, f4, e4⟩ := mJ_rule (L := L) h hl.2 f2 (t := t) (r := r) v2 (by omega) c1
        have q01 := qu_01 hl.2 (t := t) (r := r) (by omega) c1
        obtain ⟨M1, r5, y5⟩ := ih (b + quV M t r) M4 (by omega) (by omega) (by omega) (by omega) f4
        refine ⟨M1, bl_283_24 ⟨fun q => absurd q (by rw [k 179 (by omega), n.2.2]; omega), fun _ => ⟨M2, ra, by omega, by omega, M4, _, r4, fun q => bl_283_64 ?_, fun q => bl_283_64 ?_⟩⟩, y5⟩
        · rw [sumI_step ht, ← Int.add_assoc, aWi (z := t + 1) (by omega) (by omega), aWi (z := b + 0) (by omega) (by omega)]
          rw [q] at r5 ⊢
          exact r5
        · rw [sumI_step ht, ← Int.add_assoc, aWi (z := t + 1) (by omega) (by omega), aWi (z := b + 1) (by omega) (by omega)]
          rw [show quV M t r = 1 by omega] at r5 ⊢
          exact r5
    obtain ⟨M1, r4, f4⟩ := lp 0 0 K (by omega) n.1 (by omega) (by omega) fK
    rw [Int.zero_add] at r4
    rw [if_pos ⟨by omega, c1⟩]
    exact ⟨M1, en_283 ⟨fun q => absurd q c0, fun _ => ⟨fun _ => ⟨K, r1, r4⟩, fun q => absurd c1 q⟩⟩, f4.1⟩
  · exact ⟨M, en_283 ⟨fun _ => rI (by rw [if_neg (by omega)]), fun _ => ⟨fun q => absurd q c1, fun _ => rI (by rw [if_neg (by omega)])⟩⟩, sc_rf⟩
theorem o_judge (h : rP M) (hc : cP M) (hl : rW M (M 1 3)) (hw : cW M) : ∃ v M1 M2, aE 136 [aR 1] (SH L) M ([aI v], SH L, M1) ∧ aE 282 [aR 145] (SH L) M1 ([aI v], SH L, M2) ∧ fw M M1 ∧ cP M1 ∧ cW M1 ∧ sc M1 M2 := by
  obtain ⟨M1, r, f, a, b⟩ := s_136 (L := L) h hc hl hw
  have k : ke M M1 := ke_fw f
  obtain ⟨M2, r2, s⟩ := s_282 (L := L) (ke_rP h k) ⟨rG_ke h k hl.1, by rw [k 1 (by omega)]; exact rR_ke h k hl.2⟩
  rw [jd_ke h k] at r2
  exact ⟨_, M1, M2, r, r2, f, a, b, s⟩
theorem o_breaks (h : rP M) (hc : cP M) (hl : rW M (M 1 3)) (hw : cW M) {r : Int} : ∃ v M1 M2, aE 137 [aR 1, aI r] (SH L) M ([aI v], SH L, M1) ∧ aE 283 [aR 145, aI r] (SH L) M1 ([aI v], SH L, M2) ∧ fw M M1 ∧ cP M1 ∧ cW M1 ∧ sc M1 M2 := by
  obtain ⟨M1, r1, f, a, b⟩ := s_137 (L := L) h hc hl hw (r := r)
  have k : ke M M1 := ke_fw f
  obtain ⟨M2, r2, s⟩ := s_283 (L := L) (ke_rP h k) ⟨rG_ke h k hl.1, by rw [k 1 (by omega)]; exact rR_ke h k hl.2⟩ (r := r)
  rw [k 166 (by omega), k 31 (by omega)] at r2
  have e : sumI (fun t => quV M1 t r) 0 (M 31 0) = sumI (fun t => quV M t r) 0 (M 31 0) := sumI_congr 0 (fun t _ _ => qu_ke h k)
  rw [e] at r2
  exact ⟨_, M1, M2, r1, r2, f, a, b, s⟩
end JDG1
