/-! the class weighs its laws; gives and shift -/
section WGH1
variable {L : Nat} {M M1 M2 : aM}
def cWd (M : aM) : Prop := M 90 2 = M 1 3 ∧ M 90 3 = 31 ∧ M 90 4 = 64 ∧ (∀ t, 0 ≤ t → t < M 31 0 → M 91 t = gvV M t) ∧ ∀ s, 0 ≤ s → s < 4 → SQ M s (gvV M) (M (93 + s)) ∧ ∀ t, 0 ≤ t → t < M 31 0 → M (93 + s) t ≤ 720
def cW (M : aM) : Prop := M 90 9 ≤ M 1 10 ∧ (M 90 9 = M 1 10 → cWd M)
theorem cWd_cg (k : ke M M1) (f : ∀ a, 90 ≤ a → a ≤ 96 → M1 a = M a) (h : cWd M) : cWd M1 := by
  obtain ⟨a, b, c, d, e⟩ := h
  have ge : gvV M1 = gvV M := funext fun t => gv_ke k
  unfold cWd
  rw [f 90 (by omega) (by omega), f 91 (by omega) (by omega), k 1 (by omega), k 31 (by omega), ge]
  refine ⟨a, b, c, d, fun s s0 s1 => ?_⟩
  rw [f (93 + s) (by omega) (by omega)]
  exact ⟨SQ_ke k (e s s0 s1).1, (e s s0 s1).2⟩
theorem cW_cg (k : ke M M1) (f : ∀ a, 90 ≤ a → a ≤ 96 → M1 a = M a) (h : cW M) : cW M1 := by
  unfold cW
  rw [f 90 (by omega) (by omega), k 1 (by omega)]
  exact ⟨h.1, fun q => cWd_cg k f (h.2 q)⟩
theorem lok_hi (h : rP M) (hk : lok M) (f : ∀ a, a ≤ 76 ∨ a = 83 ∨ (151 ≤ a ∧ a ≤ 184) → M1 a = M a) : lok M1 := by
  have k : ke M M1 := fun a ha => f a (by omega)
  obtain ⟨a, b, c, d, e⟩ := hk
  refine ⟨lkd_cg a (by rw [f 1 (by omega)]) (fun a x y => f a (by omega)) (fun a x y => f a (by omega)) (by rw [f 64 (by omega)]) (by rw [f 64 (by omega)]) (by rw [f 64 (by omega)]), by rw [f 64 (by omega), f 1 (by omega)]; exact b, by rw [f 64 (by omega), f 1 (by omega)]; exact c, liR_cg h k d (by rw [f 64 (by omega)]) (f 65 (by omega)) (f 66 (by omega)), kpR_cg h k e (f 83 (by omega))⟩
theorem s_119v (h : rP M) (e3 : M 90 3 = 31) {t : Int} (t0 : 0 ≤ t) (t1 : t < M 31 0) : ∃ M1, aE 119 [aR 90, aI t] (SH L) M ([], SH L, M1) ∧ (∀ a, a ≠ 97 → M1 a = M a) ∧ ∀ j, 0 ≤ j → j < 9 → M1 97 j = asV M t 0 0 j := by
  obtain ⟨K, r, f, v0, v1, v2, v3, v4, v5, v6, v7, v8⟩ := s_119 (L := L) h e3 t0 t1
  refine ⟨K, r, f, fun j j0 j1 => ?_⟩
  unfold asV
  have : j = 0 ∨ j = 1 ∨ j = 2 ∨ j = 3 ∨ j = 4 ∨ j = 5 ∨ j = 6 ∨ j = 7 ∨ j = 8 := by omega
  rcases this with rfl | rfl | rfl | rfl | rfl | rfl | rfl | rfl | rfl
  · exact v0
  · exact v1
  · exact v2
  · exact v3
  · exact v4
  · exact v5
  · exact v6
  · exact v7
  · exact v8
theorem s_125z : aE 125 [aR 90, aI 0, aI 0] (SH L) M ([aI 0], SH L, aSet (aSet M 90 7 0) 90 8 0) :=
  en_125 (bl_125_12 ⟨fun _ => bl_125_48 ⟨_, 0, s_121z (by rw [aSet_i (by omega), aSet_e]), rfl⟩, fun q => absurd (Int.le_refl _) q⟩)
/-- the class's GIVE -/
theorem s_125g {T : Int} (ht : isTx T) (hg : rG M T) (e2 : M 90 2 = T) : ∃ v M1, aE 125 [aR 90, aI (M T 14), aI (M T 15)] (SH L) M ([aI v], SH L, M1) ∧ (∀ a, a ≠ 90 → a ≠ 98 → M1 a = M a) ∧ (∀ j, j ≠ 7 → j ≠ 8 → M1 90 j = M 90 j) ∧
    (if M1 90 8 = 0 then clp v else 0) = (if M 164 0 < 0 then 0 else clp ((exV (M 170) (M 171) (M 97) (M 164 0) (M 165 0)).getD 0)) := by
  rcases hg with ⟨g0, g1, g2⟩ | ⟨⟨g0, g1, g2⟩, w, e⟩
  · refine ⟨0, _, by rw [g1, g2]; exact s_125z, fun a x y => by rw [aSet_c x, aSet_c x], fun j x y => by rw [aSet_i y, aSet_i x], ?_⟩
    rw [aSet_e, if_pos rfl, if_pos (by omega)]; rfl
  · have w0 := w.1.1
    obtain ⟨v, z, ev, hz⟩ := e (M 97) [] 0 (by decide)
    obtain ⟨M1, r, z1, f1, f2⟩ := s_125 (L := L) (M := M) (f := M T 14) (t := M T 15) ht e2 g0 g2 g1 ev
    refine ⟨v, M1, r, f1, f2, ?_⟩
    rw [z1, if_neg (show ¬ M 164 0 < 0 by omega)]
    unfold exV
    rcases hz with ⟨e1, rfl⟩ | ⟨e1, rfl⟩
    · rw [e1, if_pos rfl]; rfl
    · rw [e1, if_neg (by omega)]; rfl
theorem s_127 (h : rP M) (hk : lkd M) (hg : rG M (M 1 3)) (hw : cW M) : ∃ M1, aE 127 [aR 90, aR (M 1 3), aR 31, aR 64, aI (M 1 10)] (SH L) M ([], SH L, M1) ∧ fr 90 98 M M1 ∧ M1 90 9 = M 1 10 ∧ cWd M1 := by
  have n := rP_n h
  have tl := tx_le (rP_tx h)
  by_cases c : M 90 9 = M 1 10
  · exact ⟨M, en_127 ⟨fun q => absurd c q, fun _ => rfl⟩, fr_rf, c, hw.2 c⟩
  · have l91 : aLn (SH L) 1 91 = 40 := rfl
    have l90 : aK (SH L) 90 = 13 := rfl
    have kF : ∀ M' : aM, fr 90 98 M M' → rP M' ∧ lkd M' ∧ ke M M' := fun M' f => ⟨rP_fr h f (by omega) (by omega), lkd_cg hk (by rw [f 1 (by omega)]) (fun a x y => f a (by omega)) (fun a x y => f a (by omega)) (by rw [f 64 (by omega)]) (by rw [f 64 (by omega)]) (by rw [f 64 (by omega)]), ke_fr f (by omega) (by omega)⟩
    let P : aM → Prop := fun M' => fr 90 98 M M' ∧ M' 90 2 = M 1 3 ∧ M' 90 3 = 31 ∧ M' 90 4 = 64 ∧ M' 90 9 = M 1 10
    have lp2 : ∀ s, ∀ M' : aM, 0 ≤ s → P M' → (∀ x, 0 ≤ x → x < M 31 0 → M' 91 x = gvV M x) → (∀ u, 0 ≤ u → u < s → u < 4 → SQ M u (gvV M) (M' (93 + u)) ∧ ∀ t, 0 ≤ t → t < M 31 0 → M' (93 + u) t ≤ 720) →
        ∃ M1, aX xc_127 (aSeek xc_127 110) [aR 90, aU, aU, aU, aU, aI s, aU] [] (SH L) M' ([], SH L, M1) ∧ fr 90 98 M M1 ∧ M1 90 9 = M 1 10 ∧ cWd M1 := by
      refine upto 4 (fun s hs M' s0 hP hv hq => ?_) (fun s hs ih M' s0 hP hv hq => ?_)
      · obtain ⟨k1, k2, k3⟩ := kF M' hP.1
        refine ⟨M', bl_127_110 ⟨fun _ => rfl, fun q => absurd hs q⟩, hP.1, hP.2.2.2.2, ?_⟩
        have ge : gvV M' = gvV M := funext fun t => gv_ke k3
        unfold cWd
        rw [hP.1 1 (by omega), hP.1 31 (by omega), ge]
        exact ⟨hP.2.1, hP.2.2.1, hP.2.2.2.1, hv, fun u u0 u1 => ⟨SQ_ke k3 (hq u u0 (by omega) u1).1, (hq u u0 (by omega) u1).2⟩⟩
      · obtain ⟨k1, k2, k3⟩ := kF M' hP.1
        obtain ⟨K, r, f, sq, sb⟩ := s_126 (L := L) k1 k2 hP.2.2.2.1 ⟨s0, hs⟩ (fun t t0 t1 => by rw [hP.1 31 (by omega)] at t1; rw [hv t t0 t1]; exact gv_le)
        have kb : ke M' M := fun a ha => (k3 a ha).symm
        have sq2 : SQ M s (gvV M) (K (93 + s)) := SQ_g (SQ_ke kb sq) (fun t t0 t1 => hv t t0 t1)
        rw [hP.1 31 (by omega)] at sb
        obtain ⟨M1, r1, y⟩ := ih K (by omega) ⟨fr_tr hP.1 (fr_mn f (by omega) (by omega)), by rw [f 90 (by omega)]; exact hP.2⟩ (fun x x0 x1 => by rw [f 91 (by omega)]; exact hv x x0 x1) (fun u u0 u1 u2 => by
          by_cases q : u = s
          · rw [q]; exact ⟨sq2, sb⟩
          · rw [f (93 + u) (by omega)]; exact hq u u0 (by omega) u2)
        refine ⟨M1, bl_127_110 ⟨fun q => absurd q (by omega), fun _ => ⟨K, r, ?_⟩⟩, y⟩
        rw [aWi (z := s + 1) (by omega) (by omega)]
        exact r1
    have lp1 : ∀ i, ∀ M' : aM, 0 ≤ i → P M' → (∀ x, 0 ≤ x → x < i → x < M 31 0 → M' 91 x = gvV M x) → ∃ M1, aX xc_127 (aSeek xc_127 34) [aR 90, aU, aU, aU, aU, aI i, aU] [] (SH L) M' ([], SH L, M1) ∧ fr 90 98 M M1 ∧ M1 90 9 = M 1 10 ∧ cWd M1 := by
      refine upto (M 31 0) (fun i hi M' i0 hP hv => ?_) (fun i hi ih M' i0 hP hv => ?_)
      · obtain ⟨M1, r, y⟩ := lp2 0 M' (by omega) hP (fun x x0 x1 => hv x x0 (by omega) x1) (fun u u0 u1 => by omega)
        refine ⟨M1, bl_127_34 ⟨by rw [hP.2.2.1]; rfl, fun _ => r, fun q => absurd ?_ q⟩, y⟩
        rw [hP.2.2.1, hP.1 31 (by omega)]; exact hi
      · obtain ⟨k1, k2, k3⟩ := kF M' hP.1
        obtain ⟨K, r, f, v⟩ := s_119v (L := L) k1 hP.2.2.1 (t := i) i0 (by rw [hP.1 31 (by omega)]; exact hi)
        have kK : ke M K := fun a ha => by rw [f a (by omega)]; exact k3 a ha
        have hgK := rG_ke h kK hg
        rw [kK 1 (by omega)] at hgK
        obtain ⟨w, K2, r2, g1, g2, gv⟩ := s_125g (L := L) (M := K) (rP_tx h) hgK (by rw [f 90 (by omega)]; exact hP.2.1)
        have gE : (if K2 90 8 = 0 then clp w else 0) = gvV M i := by
          rw [gv]
          unfold gvV
          rw [kK 164 (by omega), kK 165 (by omega), kK 170 (by omega), kK 171 (by omega)]
          rw [exV_vr (vr := K 97) (vs := asV M i 0 0) (fun j j0 j1 => by rw [v j j0 j1, asV_ke k3])]
        have fK2 : ∀ a, a ≠ 90 → a ≠ 97 → a ≠ 98 → K2 a = M' a := fun a x y z => by rw [g1 a x z, f a y]
        have f90 : ∀ j, j ≠ 7 → j ≠ 8 → K2 90 j = M' 90 j := fun j x y => by rw [g2 j x y, f 90 (by omega)]
        obtain ⟨g, hgg⟩ : ∃ g, g = gvV M i := ⟨_, rfl⟩
        have P2 : P (aSet K2 91 i g) := ⟨fun a ha => by rw [aSet_c (by omega), fK2 a (by omega) (by omega) (by omega)]; exact hP.1 a ha, by rw [aSet_c (by omega), f90 2 (by omega) (by omega)]; exact hP.2.1, by rw [aSet_c (by omega), f90 3 (by omega) (by omega)]; exact hP.2.2.1, by rw [aSet_c (by omega), f90 4 (by omega) (by omega)]; exact hP.2.2.2.1, by rw [aSet_c (by omega), f90 9 (by omega) (by omega)]; exact hP.2.2.2.2⟩
        obtain ⟨M1, r3, y⟩ := ih (aSet K2 91 i g) (by omega) P2 (fun x x0 x1 x2 => by
          rw [aSet_q]
          by_cases q : x = i
          · rw [if_pos q, hgg, q]
          · rw [if_neg q, fK2 91 (by omega) (by omega) (by omega)]; exact hv x x0 (by omega) x2)
        have nx : aX xc_127 (aSeek xc_127 100) [aR 90, aU, aU, aU, aU, aI i, aU] [aI g, aI i, aR 91] (SH L) K2 ([], SH L, M1) := by
          refine bl_127_100 ⟨by omega, ?_⟩
          rw [aWi (z := i + 1) (by omega) (by omega)]
          exact r3
        have e31 : M' 90 3 = 31 := hP.2.2.1
        have eT : K 90 2 = M 1 3 := by rw [f 90 (by omega)]; exact hP.2.1
        refine ⟨M1, bl_127_34 ⟨by rw [e31]; rfl, fun q => absurd q (by rw [e31, hP.1 31 (by omega)]; omega), fun _ => ⟨K, r, by rw [eT]; exact (tx (rP_tx h)).1, by rw [eT]; exact (tx (rP_tx h)).1, K2, w, by rw [eT]; exact r2, fun q => ?_, fun q => ?_⟩⟩, y⟩
        · rw [if_pos q, ← hgg] at gE
          rw [show max 0 (min 9 w) = g from gE]
          exact nx
        · rw [if_neg q, ← hgg] at gE
          rw [show (0 : Int) = g from gE]
          exact nx
    obtain ⟨M1, r, y⟩ := lp1 0 (aSet (aSet (aSet (aSet M 90 9 (M 1 10)) 90 2 (M 1 3)) 90 3 31) 90 4 64) (by omega) ⟨fr_set (fr_set (fr_set (fr_set fr_rf (by omega)) (by omega)) (by omega)) (by omega), rfl, rfl, rfl, rfl⟩ (fun x a b => by omega)
    exact ⟨M1, en_127 ⟨fun _ => ⟨⟨rfl, by omega⟩, ⟨rfl, by omega⟩, ⟨rfl, by omega⟩, r⟩, fun q => absurd c q⟩, y⟩
/-- what the pushes and the shifts may change -/
def fw (M M1 : aM) : Prop := ∀ a, (a < 64 ∨ 98 < a ∨ (84 ≤ a ∧ a ≤ 89)) → M1 a = M a
theorem fw_rf : fw M M := fun _ _ => rfl
theorem ke_fw (h : fw M M1) : ke M M1 := fun a ha => h a (by omega)
theorem s_128 (h : rP M) (hc : cP M) (hg : rG M (M 1 3)) (hw : cW M) : ∃ M1, aE 128 [aR 1] (SH L) M ([], SH L, M1) ∧ fw M M1 ∧ lok M1 ∧ M1 90 9 = M1 1 10 ∧ cWd M1 := by
  obtain ⟨K, r, f, hk⟩ := s_80 (L := L) h hc
  have k : ke M K := ke_fr f (by omega) (by omega)
  have hK := ke_rP h k
  obtain ⟨M1, r1, f1, e, d⟩ := s_127 (L := L) hK hk.1 (rG_ke h k hg) (cW_cg k (fun a x y => f a (by omega)) hw)
  refine ⟨M1, en_128 ⟨K, r, M1, r1, rfl⟩, fun a ha => (f1 a (by omega)).trans (f a (by omega)), lok_hi hK hk (fun a ha => f1 a (by omega)), ?_, d⟩
  rw [e, f1 1 (by omega)]
theorem o_gives (h : rP M) (hc : cP M) (hg : rG M (M 1 3)) (hw : cW M) {t : Int} : ∃ v M1 M2, aE 129 [aR 1, aI t] (SH L) M ([aI v], SH L, M1) ∧ aE 277 [aR 145, aI t] (SH L) M1 ([aI v], SH L, M2) ∧ fw M M1 ∧ cP M1 ∧ cW M1 ∧ sc M1 M2 := by
  have n := rP_n h
  have l91 : aLn (SH L) 1 91 = 40 := rfl
  by_cases c : 0 ≤ t ∧ t < M 31 0
  · obtain ⟨M1, r, f, hk, e, d⟩ := s_128 (L := L) h hc hg hw
    have k : ke M M1 := ke_fw f
    obtain ⟨M2, r2, s2⟩ := s_277 (L := L) (ke_rP h k) (rG_ke h k hg) (t := t)
    have v : M1 91 t = gvV M1 t := d.2.2.2.1 t c.1 (by rw [k 31 (by omega)]; exact c.2)
    rw [if_pos (by rw [k 31 (by omega)]; exact c), ← v] at r2
    refine ⟨M1 91 t, M1, M2, en_129 ⟨M, _, s_63 bd31, fun _ => ⟨M1, r, by omega, rfl⟩, fun q => absurd (by rw [bid0]; omega) q⟩, r2, f, lok_cP hc (f 1 (by omega)) hk, ⟨by omega, fun _ => d⟩, s2⟩
  · obtain ⟨M2, r2, s2⟩ := s_277 (L := L) h hg (t := t)
    rw [if_neg c] at r2
    exact ⟨-1, M, M2, en_129 ⟨M, _, s_63 bd31, fun q => absurd (bid0.mpr c) q, fun _ => rfl⟩, r2, fw_rf, hc, hw, s2⟩
theorem s_279 (h : rP M) (hg : rG M (M 1 3)) (d : cWd M) {t s : Int} : ∃ M1, aE 279 [aR 145, aI t, aI s] (SH L) M ([aI (if (0 ≤ t ∧ t < M 31 0) ∧ 0 ≤ s ∧ s < 4 then M (93 + s) t else -1)], SH L, M1) ∧ sc M M1 := by
  have n := rP_n h
  have l3 : aLn (SH L) 1 203 = 40 := rfl
  by_cases c : 0 ≤ t ∧ t < M 31 0
  · by_cases c2 : 0 ≤ s ∧ s < 4
    · obtain ⟨M1, r, f, y⟩ := s_278 (L := L) h hg c2 (d.2.2.2.2 s c2.1 c2.2).1 (d.2.2.2.2 s c2.1 c2.2).2
      rw [if_pos ⟨c, c2⟩]
      refine ⟨M1, en_279 ⟨M, _, s_221, fun q => absurd (bid0.mp q) (by omega), fun _ => ⟨M, _, s_219, fun _ => ⟨M1, r, by omega, rI (y t c.1 c.2).symm⟩, fun q => absurd (by rw [bid0]; omega) q⟩⟩, f⟩
    · rw [if_neg (fun q => c2 q.2)]
      exact ⟨M, en_279 ⟨M, _, s_221, fun q => absurd (bid0.mp q) (by omega), fun _ => ⟨M, _, s_219, fun q => absurd (by rw [bid0]; omega) q, fun _ => rfl⟩⟩, sc_rf⟩
  · rw [if_neg (fun q => c q.1)]
    exact ⟨M, en_279 ⟨M, _, s_221, fun _ => rfl, fun q => absurd (bid0.mpr (by omega)) q⟩, sc_rf⟩
theorem o_shift (h : rP M) (hc : cP M) (hg : rG M (M 1 3)) (hw : cW M) {t s : Int} : ∃ v M1 M2, aE 130 [aR 1, aI t, aI s] (SH L) M ([aI v], SH L, M1) ∧ aE 279 [aR 145, aI t, aI s] (SH L) M1 ([aI v], SH L, M2) ∧ fw M M1 ∧ cP M1 ∧ cW M1 ∧ sc M1 M2 := by
  have n := rP_n h
  have l6 : aLn (SH L) 6 92 = 4 := rfl
  by_cases c : 0 ≤ t ∧ t < M 31 0
  · by_cases c2 : 0 ≤ s ∧ s < 4
    · obtain ⟨M1, r, f, hk, e, d⟩ := s_128 (L := L) h hc hg hw
      have k : ke M M1 := ke_fw f
      obtain ⟨M2, r2, s2⟩ := s_279 (L := L) (ke_rP h k) (rG_ke h k hg) d (t := t) (s := s)
      rw [if_pos (by rw [k 31 (by omega)]; exact ⟨c, c2⟩)] at r2
      have an := an_92 (L := L) c2.1 c2.2
      refine ⟨M1 (93 + s) t, M1, M2, en_130 ⟨M, _, s_63 bd31, fun q => absurd (bid0.mp q) (by omega), fun _ => ⟨M, _, s_36, fun _ => ⟨M1, r, by omega, by rw [ar_92 c2.1 c2.2, an.1]; omega, by rw [ar_92 c2.1 c2.2]⟩, fun q => absurd (by rw [bid0]; omega) q⟩⟩, r2, f, lok_cP hc (f 1 (by omega)) hk, ⟨by omega, fun _ => d⟩, s2⟩
    · have r2 : aE 279 [aR 145, aI t, aI s] (SH L) M ([aI (-1)], SH L, M) := en_279 ⟨M, _, s_221, fun q => absurd (bid0.mp q) (by omega), fun _ => ⟨M, _, s_219, fun q => absurd (by rw [bid0]; omega) q, fun _ => rfl⟩⟩
      exact ⟨-1, M, M, en_130 ⟨M, _, s_63 bd31, fun q => absurd (bid0.mp q) (by omega), fun _ => ⟨M, _, s_36, fun q => absurd (bid0.mpr c2) q, fun _ => rfl⟩⟩, r2, fw_rf, hc, hw, sc_rf⟩
  · have r2 : aE 279 [aR 145, aI t, aI s] (SH L) M ([aI (-1)], SH L, M) := en_279 ⟨M, _, s_221, fun _ => rfl, fun q => absurd (bid0.mpr (by omega)) q⟩
    exact ⟨-1, M, M, en_130 ⟨M, _, s_63 bd31, fun _ => rfl, fun q => absurd (bid0.mpr c) q⟩, r2, fw_rf, hc, hw, sc_rf⟩
end WGH1
