/-! gaps: both -/
section GAPB
variable {L : Nat} {M M1 M2 : aM}
/-- what a gap answers, by the class's table -/
def gaV (M : aM) (x w : Int) : Int := if M 120 x < 1000000 then (if w = 0 then M 120 x else if ¬ aRem w 2 = 0 then (abG M (((w - 10) / 2).toNat : Int) (xsG M x ((w - 10) / 2).toNat)).2 else (abG M (((w - 10) / 2).toNat : Int) (xsG M x ((w - 10) / 2).toNat)).1) else -2
/-- the table of gaps is either old or right -/
def cG (M : aM) : Prop := M 118 7 ≤ M 1 9 ∧ (M 118 7 = M 1 9 → (0 ≤ M 118 8 ∧ M 118 8 ≤ 60) ∧ gpR M (M 118 8))
theorem cG_cg (h : rP M) (hc : cG M) (f : ∀ a, a ≤ 137 → a ≠ 118 → M1 a = M a) (f6 : ∀ j, j = 6 ∨ j = 7 ∨ j = 8 → M1 118 j = M 118 j) : cG M1 := by
  unfold cG
  rw [f 1 (by omega) (by omega), f6 7 (by omega), f6 8 (by omega)]
  exact ⟨hc.1, fun q => ⟨(hc.2 q).1, gpR_cg h (hc.2 q).2 f (f6 6 (by omega))⟩⟩
theorem gaV_cg (h : rP M) (f : ∀ a, a ≠ 118 → a ≤ 137 → M1 a = M a) {x w : Int} (hw : w = 0 ∨ (10 ≤ w ∧ (w - 10) / 2 < 14)) : gaV M1 x w = gaV M x w := by
  unfold gaV
  rw [f 120 (by omega) (by omega)]
  by_cases c : M 120 x < 1000000
  · rw [if_pos c, if_pos c]
    by_cases d : w = 0
    · rw [if_pos d, if_pos d]
    · rw [if_neg d, if_neg d, xsG_cg h f _ (by omega), abG_cg h f (by omega) (by omega)]
  · rw [if_neg c, if_neg c]
theorem s_156 (h : rP M) (hc : cG M) {W x w : Int} (hw : w < 2147483648) (hW : 1 ≤ W ∧ W ≤ 60) (x0 : 1 ≤ x ∧ x ≤ 60) (ok : w = 0 ∨ (10 ≤ w ∧ (w - 10) / 2 < M (M 1 3) 3 ∧ ¬ M (M 1 3 + 2) ((w - 10) / 2) = 0)) : ∃ M1, aE 156 [aR 1, aI W, aI x, aI w] (SH L) M ([aI (gaV M1 x w)], SH L, M1) ∧ fr 118 137 M M1 ∧ M1 118 7 = M 1 9 ∧ M1 118 8 = W ∧ gpR M1 W := by
  have tx0 := rP_tx h
  have tl := tx_le tx0
  have t14 := h.1.1.2.2.2.2.1
  obtain ⟨K, r1, f1, e7, e8, gK⟩ := s_152 (L := L) h hW (fun q => (hc.2 q).2)
  have pK : rP K := rP_fr h f1 (by omega) (by omega)
  have k13 : K 1 3 = M 1 3 := by rw [f1 1 (by omega)]
  have kT : K (M 1 3) = M (M 1 3) := f1 _ (by omega)
  have s153 : aE 153 [aR 118, aI x] (SH L) K ([aI (bi (decide (0 ≤ x ∧ x ≤ 60 ∧ K 120 x < 1000000)))], SH L, K) := s_153
  have into : ∀ o : aO, ((K 120 x < 1000000 → (¬ w = 0 → ∃ M4, aE 155 [aR 118, aI x, aI (aDiv (aW (w - 10)) 2)] (SH L) K ([], SH L, M4) ∧ (¬ aRem w 2 = 0 → o = ([aI (M4 118 1)], SH L, M4)) ∧ (¬ ¬ aRem w 2 = 0 → o = ([aI (M4 118 0)], SH L, M4))) ∧ (¬ ¬ w = 0 → o = ([aI (K 120 x)], SH L, K))) ∧ (¬ K 120 x < 1000000 → o = ([aI (-2)], SH L, K))) → aE 156 [aR 1, aI W, aI x, aI w] (SH L) M o := by
    intro o ho
    have k36 : aX xc_156 (aSeek xc_156 36) [aR 1, aI W, aI x, aI w] [] (SH L) M o := by
      refine bl_156_36 ⟨K, r1, K, _, s153, fun q => ?_, fun q => ?_⟩
      · have c : K 120 x < 1000000 := (Classical.byContradiction (fun z => q (bid0.mpr z)) : 0 ≤ x ∧ x ≤ 60 ∧ K 120 x < 1000000).2.2
        refine ⟨fun q1 => (ho.1 c).1 q1, fun q1 => ⟨K, _, s_154, ?_⟩⟩
        rw [if_pos ⟨by omega, by omega⟩]
        exact (ho.1 c).2 q1
      · exact ho.2 (fun c => bid0.mp (Classical.not_not.mp q) ⟨by omega, by omega, c⟩)
    refine en_156 ⟨fun q => absurd q (by omega), fun _ => ⟨fun q => absurd q (by omega), fun _ => ⟨fun q => absurd q (by omega), fun _ => ⟨fun q => absurd q (by omega), fun _ => ⟨fun _ => k36, fun q => ⟨M, _, s_140 tx0 (by omega) hw, fun _ => k36, fun q2 => ?_⟩⟩⟩⟩⟩⟩
    rcases ok with z | z
    · exact absurd z q
    · exact binn z q2
  have wk : w = 0 ∨ (10 ≤ w ∧ (w - 10) / 2 < 14) := by omega
  by_cases c : K 120 x < 1000000
  · by_cases d : w = 0
    · refine ⟨K, into _ ⟨fun _ => ⟨fun q => absurd d q, fun _ => rI ?_⟩, fun q => absurd c q⟩, f1, e7, e8, gK⟩
      unfold gaV; rw [if_pos c, if_pos d]
    · obtain ⟨n, hn⟩ : ∃ n : Nat, n = ((w - 10) / 2).toNat := ⟨_, rfl⟩
      have nz : (n : Int) = (w - 10) / 2 := by omega
      obtain ⟨M4, r4, g1, g2, g3, g4⟩ := s_155 (L := L) pK (W := W) (by omega) gK (x := x) (by omega) c (K := n) (by rw [k13, kT]; omega)
      have gv := gaV_cg pK (fun a a1 _ => g1 a a1) (x := x) (w := w) wk
      refine ⟨M4, into _ ⟨fun _ => ⟨fun _ => ⟨M4, ?_, fun q => rI ?_, fun q => rI ?_⟩, fun q => absurd d q⟩, fun q => absurd c q⟩, fun b hb => by rw [g1 b (by omega)]; exact f1 b hb, by rw [g2 7 (by omega) (by omega)]; exact e7, by rw [g2 8 (by omega) (by omega)]; exact e8, gpR_cg pK gK (fun a _ a1 => g1 a a1) (g2 6 (by omega) (by omega))⟩
      · rw [aWi (by omega) (by omega), aDiv_nn (by omega) (by omega) (by omega) (by omega), ← nz]
        exact r4
      · rw [gv]; unfold gaV; rw [if_pos c, if_neg d, if_pos q, ← hn, g4]
      · rw [gv]; unfold gaV; rw [if_pos c, if_neg d, if_neg q, ← hn, g3]
  · refine ⟨K, into _ ⟨fun q => absurd q c, fun _ => rI ?_⟩, f1, e7, e8, gK⟩
    unfold gaV; rw [if_neg c]
theorem abH_cg (hp : rP M) (h : ∀ a, a ≠ 145 → M1 a = M a) {k W x : Int} : abH M1 k W x = abH M k W x := by
  have tl := tx_le (rP_tx hp)
  unfold abH QH
  rw [lfT_cg hp (fun a ha => h a (by omega)) (by rw [h 1 (by omega)]), h 1 (by omega), h (M 1 3 + 3) (by omega), h (M 1 3 + 4) (by omega), h 205 (by omega)]
theorem s_295 (h : rP M) {W x w : Int} (hw : w < 2147483648) (hW : 1 ≤ W ∧ W ≤ 60) (hg : gpR M W) (x0 : 1 ≤ x ∧ x ≤ 60) (ok : w = 0 ∨ (10 ≤ w ∧ (w - 10) / 2 < M (M 1 3) 3 ∧ ¬ M (M 1 3 + 2) ((w - 10) / 2) = 0)) : ∃ M1, aE 295 [aR 145, aI W, aI x, aI w] (SH L) M ([aI (gaV M x w)], SH L, M1) ∧ sc M M1 := by
  have l205 : aLn (SH L) 1 205 = 915 := rfl
  have l155 : aLn (SH L) 1 155 = 28 := rfl
  have l156 : aLn (SH L) 1 156 = 28 := rfl
  have t14 := h.1.1.2.2.2.2.1
  have tl := tx_le (rP_tx h)
  obtain ⟨F, r, fF, hH⟩ := s_293 (L := L) h (W := W) (by omega) hg (x := x) (by omega)
  have pF := rP_sc h (sc_205 fF)
  have gF' := gpR_cg h hg (fun a a1 a2 => fF a (by omega)) (by rw [fF 118 (by omega)])
  have f1 : F 1 3 = M 1 3 := by rw [fF 1 (by omega)]
  have fT : F (M 1 3) = M (M 1 3) := fF _ (by omega)
  have h0 := hH 0 x (by omega) (by omega) (by omega) (by omega)
  rw [show (120 : Int) + 0 = 120 by omega, show (61 : Int) * 0 + x = x by omega] at h0
  have fd : ∀ a, a ≠ 118 → a ≤ 137 → F a = M a := fun a _ a2 => fF a (by omega)
  have start : ∀ o : aO, ((F 205 x < 100000000 → (¬ w = 0 → aX xc_295 (aSeek xc_295 69) [aR 145, aI W, aU, aI w, aI x, aI 0] [] (SH L) F o) ∧ (¬ ¬ w = 0 → o = ([aI (F 205 x)], SH L, F))) ∧ (¬ F 205 x < 100000000 → o = ([aI (-2)], SH L, F))) → aE 295 [aR 145, aI W, aI x, aI w] (SH L) M o := by
    intro o ho
    refine en_295 ⟨M, _, s_219, fun q => absurd hW (bid0.mp q), fun _ => ⟨M, _, s_219, fun q => absurd x0 (bid0.mp q), fun _ => ⟨M, _, s_287 h hw, fun _ => ⟨F, r, by omega, fun q => ⟨fun q1 => (ho.1 q).1 q1, fun q1 => ⟨by omega, (ho.1 q).2 q1⟩⟩, fun q => ho.2 q⟩, fun q => binn ?_ q⟩⟩⟩
    rcases ok with z | z
    · exact Or.inl (by omega)
    · exact Or.inr z
  by_cases c : M 120 x < 1000000
  · have h0' : F 205 x = M 120 x := by unfold cvR at h0; omega
    by_cases d : w = 0
    · refine ⟨F, start _ ⟨fun _ => ⟨fun q => absurd d q, fun _ => rI ?_⟩, fun q => absurd (by omega) q⟩, sc_205 fF⟩
      unfold gaV; rw [if_pos c, if_pos d, h0']
    · have wk : 10 ≤ w ∧ (w - 10) / 2 < M (M 1 3) 3 := by omega
      obtain ⟨K, hK⟩ : ∃ K : Nat, K = ((w - 10) / 2).toNat := ⟨_, rfl⟩
      have Kz : (K : Int) = (w - 10) / 2 := by omega
      have step : ∀ j : Nat, (j : Int) < M (M 1 3) 3 → ∀ M' : aM, (∀ a, a ≠ 145 → M' a = F a) → ∃ M2, aE 294 [aR 145, aI j, aI W, aI (xsG M x j)] (SH L) M' ([], SH L, M2) ∧ ps 145 74 75 M' M2 (abG M j (xsG M x j)).1 (abG M j (xsG M x j)).2 ∧ ∃ t m : Nat, abG M j (xsG M x j) = ((t : Int), (m : Int)) ∧ (0 ≤ (t : Int) * M (M 1 3 + 4) j ∧ (t : Int) * M (M 1 3 + 4) j ≤ 60) ∧ (0 ≤ (m : Int) * M (M 1 3 + 3) j ∧ (m : Int) * M (M 1 3 + 3) j ≤ 60) := by
        intro j hj M' g
        obtain ⟨xb, xf⟩ := xsG_at h (W := W) (by omega) hg (x := x) (by omega) c j (by omega)
        have tk := h.1.1.2.2.2.2.2 j (by omega) hj
        have up : ∀ y, 0 ≤ y → y ≤ x → cvR (M (121 + j) y) (F 205 (61 * j + 61 + y)) := by
          intro y y0 y1
          have := hH (j + 1) y (by omega) (by omega) y0 y1
          rw [show 120 + ((j : Int) + 1) = 121 + j by omega, show 61 * ((j : Int) + 1) = 61 * j + 61 by omega] at this
          exact this
        have rb := (gpR_rw h (by omega) hg (j + 1) (by omega) (by omega)).1
        rw [show 120 + ((j : Int) + 1) = 121 + j by omega] at rb
        have pM : rP M' := rP_cg pF (fun a ha => g a (by omega)) (by rw [g 1 (by omega)])
        obtain ⟨M2, rr, z⟩ := s_294 (L := L) pM (k := j) (W := W) (x := xsG M x j) (by omega) (by rw [g 1 (by omega), f1, g (M 1 3) (by omega), fT]; exact hj) (by omega) (by omega) (fun y y0 y1 => by
          rw [g 205 (by omega)]
          have u := up y y0 (by omega)
          have b := rb y y0 (by omega)
          unfold cvR at u; omega)
        rw [abH_cg pF g] at z
        obtain ⟨t, m, e, o, -, ag⟩ := ab_fin pF (W := W) (by omega) gF' (k := j) (x := xsG M x j) (by omega) (by rw [f1, fT]; exact hj) (by omega) (by rw [fF (120 + (j : Int)) (by omega)]; exact xf)
        rw [fF (121 + (j : Int)) (by omega), fF (120 + (j : Int)) (by omega)] at ag
        have ah := ag (fun y y0 y1 => up y y0 (by omega)) (hH j _ (by omega) (by omega) xb.1 xb.2)
        rw [ah] at z
        rw [abG_cg h fd (by omega) (by omega)] at e
        rw [f1, fF (M 1 3 + 3) (by omega), fF (M 1 3 + 4) (by omega)] at o
        obtain ⟨y1, y2, y3, y4, -⟩ := gOk_b (by omega) (lfT_bd pF) (rO_bd (by omega) tk.2.1.1).1 (urK_bd (by omega) tk.2.2.1.1).1 tk.2.2.1.1 tk.2.1.1 o
        rw [e]
        exact ⟨M2, rr, z, t, m, rfl, y3, y4⟩
      have loop : ∀ d j : Nat, j + d = K → ∀ M' : aM, (∀ a, a ≠ 145 → M' a = F a) → (∀ i, i ≠ 74 → i ≠ 75 → M' 145 i = F 145 i) → ∃ M1, aX xc_295 (aSeek xc_295 69) [aR 145, aI W, aU, aI w, aI (xsG M x j), aI j] [] (SH L) M' ([aI (if ¬ aRem w 2 = 0 then (abG M K (xsG M x K)).2 else (abG M K (xsG M x K)).1)], SH L, M1) ∧ (∀ a, a ≠ 145 → M1 a = F a) ∧ ∀ i, i ≠ 74 → i ≠ 75 → M1 145 i = F 145 i := by
        intro d
        induction d with
        | zero =>
          intro j jk M' g1 g2
          have e : j = K := by omega
          subst e
          obtain ⟨M2, rr, ⟨p1, p2, p3, p4⟩, -⟩ := step j (by omega) M' g1
          refine ⟨M2, bl_295_69 ⟨fun q => absurd q ?_, fun _ => ⟨M2, rr, by omega, by omega, bl_295_69 ⟨fun _ => ⟨fun q => rI ?_, fun q => rI ?_⟩, fun q => absurd ?_ q⟩⟩⟩, fun a ha => by rw [p1 a ha]; exact g1 a ha, fun i i0 i1 => by rw [p2 i i0 i1]; exact g2 i i0 i1⟩
          · rw [aWi (by omega) (by omega), aDiv_nn (by omega) (by omega) (by omega) (by omega)]; omega
          · rw [if_pos q, p4]
          · rw [if_neg q, p3]
          · rw [aWi (z := w - 10) (by omega) (by omega), aDiv_nn (by omega) (by omega) (by omega) (by omega), aWi (z := (j : Int) + 1) (by omega) (by omega)]; omega
        | succ d ih =>
          intro j jk M' g1 g2
          obtain ⟨M2, rr, ⟨p1, p2, p3, p4⟩, t, m, e, b1, b2⟩ := step j (by omega) M' g1
          have mk := h.1.2.2.1 j (by omega) (by omega)
          have xb := (xsG_at h (W := W) (by omega) hg (x := x) (by omega) c j (by omega)).1
          obtain ⟨M1, r1, z⟩ := ih (j + 1) (by omega) M2 (fun a ha => by rw [p1 a ha]; exact g1 a ha) (fun i i0 i1 => by rw [p2 i i0 i1]; exact g2 i i0 i1)
          rw [e] at p3 p4
          rw [show xsG M x (j + 1) = xsG M x j - (abG M j (xsG M x j)).1 * M (M 1 3 + 4) j - (abG M j (xsG M x j)).2 * M (M 1 3 + 3) j from rfl, e] at r1
          obtain ⟨u1, hu1⟩ : ∃ u : Int, u = (t : Int) * M (M 1 3 + 4) j := ⟨_, rfl⟩
          obtain ⟨u2, hu2⟩ : ∃ u : Int, u = (m : Int) * M (M 1 3 + 3) j := ⟨_, rfl⟩
          refine ⟨M1, bl_295_69 ⟨fun q => absurd q ?_, fun _ => ⟨M2, rr, by omega, by omega, ?_⟩⟩, z⟩
          · rw [aWi (by omega) (by omega), aDiv_nn (by omega) (by omega) (by omega) (by omega)]; omega
          · rw [p3, p4, p1 155 (by omega), p1 156 (by omega), g1 155 (by omega), g1 156 (by omega), fF 155 (by omega), fF 156 (by omega), mk.2.1, mk.2.2.1]
            show aX xc_295 (aSeek xc_295 69) [aR 145, aI W, aU, aI w, aI (aW (xsG M x j - aW (aW ((t : Int) * M (M 1 3 + 4) j) + aW ((m : Int) * M (M 1 3 + 3) j)))), aI (aW ((j : Int) + 1))] [] (SH L) M2 _
            have r1 : aX xc_295 (aSeek xc_295 69) [aR 145, aI W, aU, aI w, aI (xsG M x j - (t : Int) * M (M 1 3 + 4) j - (m : Int) * M (M 1 3 + 3) j), aI ((j + 1 : Nat) : Int)] [] (SH L) M2 _ := r1
            rw [← hu1, ← hu2] at r1 ⊢
            rw [← hu1] at b1
            rw [← hu2] at b2
            rw [aWi (z := u1) (by omega) (by omega), aWi (z := u2) (by omega) (by omega), aWi (z := u1 + u2) (by omega) (by omega), aWi (z := xsG M x j - (u1 + u2)) (by omega) (by omega), aWi (z := (j : Int) + 1) (by omega) (by omega), show xsG M x j - (u1 + u2) = xsG M x j - u1 - u2 by omega]
            exact r1
      obtain ⟨M1, r1, g1, g2⟩ := loop K 0 (by omega) F (fun _ _ => rfl) (fun _ _ _ => rfl)
      refine ⟨M1, start _ ⟨fun _ => ⟨fun _ => ?_, fun q => absurd d q⟩, fun q => absurd (by omega) q⟩, ⟨fun b b1 b2 b3 => by rw [g1 b b1, fF b (by omega)], fun i hi => by rw [g2 i (by omega) (by omega), fF 145 (by omega)]⟩⟩
      unfold gaV
      rw [if_pos c, if_neg d, ← hK]
      exact r1
  · have h0' : F 205 x = 100000000 := by unfold cvR at h0; omega
    refine ⟨F, start _ ⟨fun q => absurd q (by omega), fun _ => rI ?_⟩, sc_205 fF⟩
    unfold gaV; rw [if_neg c]
end GAPB
