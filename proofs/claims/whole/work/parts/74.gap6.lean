/-! gaps: the model's table, row by row -/
section GAP6
variable {L : Nat} {M M1 M2 : aM}
theorem s_293 (h : rP M) {W x : Int} (hW : 0 ≤ W ∧ W ≤ 60) (hg : gpR M W) (x0 : 0 ≤ x ∧ x ≤ 60) : ∃ M1, aE 293 [aR 145, aI W, aI x] (SH L) M ([], SH L, M1) ∧ fr 205 205 M M1 ∧ ∀ k y, 0 ≤ k → k ≤ M (M 1 3) 3 → 0 ≤ y → y ≤ x → cvR (M (120 + k) y) (M1 205 (61 * k + y)) := by
  have l205 : aLn (SH L) 1 205 = 915 := rfl
  have l154 : aLn (SH L) 1 154 = 28 := rfl
  have tl := tx_le (rP_tx h)
  obtain ⟨n, hn⟩ : ∃ n, n = M (M 1 3) 3 := ⟨_, rfl⟩
  have n14 : 0 ≤ n ∧ n ≤ 14 := by rw [hn]; exact h.1.1.2.2.2.2.1
  have n153 : M 153 0 = n := by rw [hn]; exact h.1.2.1.2.2.2
  have rb := gpR_rw h hW hg
  rw [← hn] at rb ⊢
  obtain ⟨P, hP⟩ : ∃ P : Int → Int → Int, P = fun k => M (120 + min k n) := ⟨_, rfl⟩
  have Pk : ∀ k, k ≤ n → P k = M (120 + k) := fun k hk => by rw [hP]; show M (120 + min k n) = _; rw [show min k n = k by omega]
  have Pn : ∀ k, n ≤ k → P k = M (120 + n) := fun k hk => by rw [hP]; show M (120 + min k n) = _; rw [show min k n = n by omega]
  have cvb : ∀ k y v, 0 ≤ k → k ≤ 14 → 0 ≤ y → y ≤ 60 → cvR (P k y) v → 0 ≤ v ∧ v ≤ 100000000 := by
    intro k y v k0 k1 y0 y1 c
    have := (rb (min k n) (by omega) (by omega)).1 y y0 y1
    rw [show M (120 + min k n) y = P k y by rw [hP]] at this
    unfold cvR at c
    omega
  have rows : ∀ k : Int, ∀ M' : aM, -1 ≤ k → k < 14 → fr 205 205 M M' → (∀ j y, k < j → j ≤ 14 → 0 ≤ y → y ≤ x → cvR (P j y) (M' 205 (61 * j + y))) → ∃ M1, aX xc_293 (aSeek xc_293 37) [aR 145, aI W, aI x, aI k, aU, aU] [] (SH L) M' ([], SH L, M1) ∧ fr 205 205 M M1 ∧ ∀ j y, -1 < j → j ≤ 14 → 0 ≤ y → y ≤ x → cvR (P j y) (M1 205 (61 * j + y)) := by
    refine downto (-1) (fun k hk M' k0 k1 f v => ?_) (fun k hk ih M' k0 k1 f v => ?_)
    · have e : k = -1 := by omega
      subst e
      exact ⟨M', bl_293_37 ⟨fun _ => rfl, fun q => absurd (by omega) q⟩, f, v⟩
    · obtain ⟨rs, hrs⟩ : ∃ rs, rs = if k < n then lfT M k else 0 := ⟨_, rfl⟩
      have lb := lfT_bd h (k := k)
      have rsb : 0 ≤ rs ∧ rs ≤ 99 := by rw [hrs]; split <;> omega
      have hM' := rP_sc h (sc_205 f)
      have fill : ∀ y : Int, ∀ M2 : aM, 0 ≤ y → y ≤ x + 1 → fr 205 205 M M2 → (∀ i, (i < 61 * k ∨ 61 * k + 61 ≤ i) → M2 205 i = M' 205 i) → (∀ z, 0 ≤ z → z < y → cvR (P k z) (M2 205 (61 * k + z))) → ∃ M1, aX xc_293 (aSeek xc_293 74) [aR 145, aI W, aI x, aI k, aI rs, aI y] [] (SH L) M2 ([], SH L, M1) ∧ fr 205 205 M M1 ∧ ∀ j y, -1 < j → j ≤ 14 → 0 ≤ y → y ≤ x → cvR (P j y) (M1 205 (61 * j + y)) := by
        refine upto (x + 1) (fun y hy M2 y0 y1 f2 g2 v2 => ?_) (fun y hy ihy M2 y0 y1 f2 g2 v2 => ?_)
        · obtain ⟨M1, r, z⟩ := ih M2 (by omega) (by omega) f2 (fun j z j0 j1 z0 z1 => by
            by_cases e : j = k
            · rw [e]; exact v2 z z0 (by omega)
            · rw [g2 _ (by omega)]; exact v j z (by omega) j1 z0 z1)
          refine ⟨M1, bl_293_74 ⟨fun _ => ?_, fun q => absurd (by omega) q⟩, z⟩
          rw [aWi (by omega) (by omega)]
          exact r
        · have up : ∀ z, 0 ≤ z → z ≤ x → cvR (P (k + 1) z) (M2 205 (61 * k + 61 + z)) := by
            intro z z0 z1
            have := v (k + 1) z (by omega) (by omega) z0 z1
            rw [show 61 * (k + 1) + z = 61 * k + 61 + z by omega] at this
            rw [g2 _ (by omega)]; exact this
          have nx : ∀ vv, cvR (P k y) vv → ∃ M1, aX xc_293 (aSeek xc_293 124) [aR 145, aI W, aI x, aI k, aI rs, aI y] [aI vv, aI (61 * k + y), aR 205] (SH L) M2 ([], SH L, M1) ∧ fr 205 205 M M1 ∧ ∀ j y, -1 < j → j ≤ 14 → 0 ≤ y → y ≤ x → cvR (P j y) (M1 205 (61 * j + y)) := by
            intro vv hv
            obtain ⟨M1, r, z⟩ := ihy (aSet M2 205 (61 * k + y) vv) (by omega) (by omega) (fr_set f2 (by omega)) (fun i hi => by rw [aSet_i (by omega)]; exact g2 i hi) (fun z z0 z1 => by
              by_cases e : z = y
              · subst e; rw [aSet_e]; exact hv
              · rw [aSet_i (by omega)]; exact v2 z z0 (by omega))
            refine ⟨M1, bl_293_124 ⟨by omega, ?_⟩, z⟩
            rw [aWi (z := y + 1) (by omega) (by omega)]
            exact r
          by_cases c : rs = 0
          · have u := up y y0 (by omega)
            have pe : P k y = P (k + 1) y := by
              by_cases d : k < n
              · rw [if_pos d] at hrs
                rw [Pk k (by omega), Pk (k + 1) (by omega), show 120 + (k + 1) = 121 + k by omega]
                have gm := (hg.2.2 k (by omega) (by rw [← hn]; exact d)).2.2.2 y y0 (by omega)
                rw [← hrs, c] at gm
                obtain ⟨m1, m2, m3⟩ := gm
                have bx := (rb (k + 1) (by omega) (by omega)).1 y y0 (by omega)
                rw [show 120 + (k + 1) = 121 + k by omega] at bx
                have z0 : gFv (M (121 + k)) (rO W (M (M 1 3 + 3) k)) (urK W (M (M 1 3 + 3) k) (M (M 1 3 + 4) k)) (M (M 1 3 + 4) k) (M (M 1 3 + 3) k) y 0 0 = M (121 + k) y := by
                  unfold gFv
                  rw [Int.zero_mul, Int.zero_mul, Int.zero_mul, Int.zero_mul, Int.sub_zero, Int.sub_zero]; omega
                have le := m2 0 0 ⟨⟨Int.le_refl _, rsN_nn (Int.le_refl _) y0⟩, Int.le_refl _, by rw [Int.zero_mul, Int.zero_mul, Int.sub_zero, Int.sub_zero]; exact rsN_nn (Int.le_refl _) y0⟩
                rw [z0] at le
                rcases m3 with m3 | ⟨t, m, o, e⟩
                · omega
                · have t0 : t = 0 := by
                    have a := o.1.1
                    have b := o.1.2
                    have q := rsN_0 (r := rO W (M (M 1 3 + 3) k)) (q := y) (e := M (M 1 3 + 4) k)
                    omega
                  have o2 := o.2
                  rw [t0, Int.zero_mul, Int.sub_zero] at o2
                  have q := rsN_0 (r := urK W (M (M 1 3 + 3) k) (M (M 1 3 + 4) k)) (q := y - 0 * M (M 1 3 + 4) k) (e := M (M 1 3 + 3) k)
                  have mz : m = 0 := by omega
                  rw [t0, mz, z0] at e
                  exact e
              · rw [Pn k (by omega), Pn (k + 1) (by omega)]
            obtain ⟨M1, r, z⟩ := nx _ (by rw [pe]; exact u)
            refine ⟨M1, bl_293_74 ⟨fun q => absurd q (by omega), fun _ => ⟨fun q => absurd c q, fun _ => ?_⟩⟩, z⟩
            rw [aWi (z := 61 * k) (by omega) (by omega), aWi (z := 61 * k + 61) (by omega) (by omega), aWi (z := 61 * k + 61 + y) (by omega) (by omega), aWi (z := 61 * k + y) (by omega) (by omega)]
            exact ⟨by omega, r⟩
          · have d : k < n := by
              by_cases d : k < n
              · exact d
              · rw [if_neg d] at hrs; exact absurd hrs c
            rw [if_pos d] at hrs
            have tk := h.1.2.2.1 k (by omega) (by rw [← hn]; exact d)
            have bk := h.1.1.2.2.2.2.2 k (by omega) (by rw [← hn]; exact d)
            obtain ⟨vv, rv, z0, z1, z2⟩ := s_292 (L := L) (M := M2) (k := k) (W := W) (x := y) (l := rs) (w := M (M 1 3 + 3) k) (h := M (M 1 3 + 4) k) (by omega) (by omega) hW (by rw [f2 155 (by omega)]; exact tk.2.1) (by rw [f2 156 (by omega)]; exact tk.2.2.1) bk.2.1 bk.2.2.1 (by omega) rsb (fun z z0 z1 => cvb (k + 1) z _ (by omega) (by omega) z0 (by omega) (up z z0 (by omega)))
            have cv : cvR (P k y) vv := by
              rw [Pk k (by omega)]
              have gm := (hg.2.2 k (by omega) (by rw [← hn]; exact d)).2.2.2 y y0 (by omega)
              rw [← hrs] at gm
              have fn := (rb (k + 1) (by omega) (by omega)).2
              rw [show 120 + (k + 1) = 121 + k by omega] at fn
              refine g_eq (H' := fun z => M2 205 (61 * k + 61 + z)) rsb ⟨y0, by omega⟩ hW bk.2.1 bk.2.2.1 fn gm (fun z z0 z1 => ?_) z1 z2 z0.2
              have := up z z0 (by omega)
              rw [Pk (k + 1) (by omega), show 120 + (k + 1) = 121 + k by omega] at this
              exact this
            obtain ⟨M1, r, z⟩ := nx vv cv
            refine ⟨M1, bl_293_74 ⟨fun q => absurd q (by omega), fun _ => ⟨fun _ => ⟨M2, vv, rv, ?_⟩, fun q => absurd c q⟩⟩, z⟩
            rw [aWi (z := 61 * k) (by omega) (by omega), aWi (z := 61 * k + y) (by omega) (by omega)]
            exact r
      obtain ⟨M1, r, z⟩ := fill 0 M' (by omega) (by omega) f (fun i _ => rfl) (fun z z0 z1 => by omega)
      have k69 : aX xc_293 (aSeek xc_293 69) [aR 145, aI W, aI x, aI k, aU, aU] [aI rs] (SH L) M' ([], SH L, M1) := bl_293_69 r
      refine ⟨M1, bl_293_37 ⟨fun q => absurd q (by omega), fun _ => ?_⟩, z⟩
      rw [f 153 (by omega), n153, f 154 (by omega)]
      refine ⟨fun q => ?_, fun q => ⟨by omega, fun q1 => ?_, fun q1 => ?_⟩⟩
      · rw [if_neg (by omega)] at hrs
        rw [hrs] at k69
        exact bl_293_68 k69
      · have tk := h.1.2.2.1 k (by omega) (by rw [← hn]; omega)
        have bk := h.1.1.2.2.2.2.2 k (by omega) (by rw [← hn]; omega)
        rw [if_pos (by omega)] at hrs
        unfold lfT at hrs
        rw [if_neg (fun z => z.2.2 (by omega))] at hrs
        rw [hrs] at k69
        exact bl_293_68 k69
      · have tk := h.1.2.2.1 k (by omega) (by rw [← hn]; omega)
        rw [if_pos (by omega)] at hrs
        unfold lfT at hrs
        rw [if_pos ⟨by omega, by rw [← hn]; omega, by omega⟩] at hrs
        refine ⟨M', rs, ?_, k69⟩
        have s := s_226 (L := L) hM' (k := k) (by omega) (by rw [f 153 (by omega), n153]; omega)
        rw [f 157 (by omega), tk.2.2.2] at s
        have ec : cntK M' 31 k = cntK M 31 k := by unfold cntK; rw [f 31 (by omega), f (31 + 1) (by omega)]
        rw [ec, ← hrs] at s
        exact s
  have base : ∀ v : Int, ∀ M' : aM, 0 ≤ v → v ≤ x + 1 → fr 205 205 M M' → (∀ y, 0 ≤ y → y < v → M' 205 (854 + y) = if y = 0 then 0 else 100000000) → ∃ M1, aX xc_293 (aSeek xc_293 2) [aR 145, aI W, aI x, aI v, aU, aU] [] (SH L) M' ([], SH L, M1) ∧ fr 205 205 M M1 ∧ ∀ j y, -1 < j → j ≤ 14 → 0 ≤ y → y ≤ x → cvR (P j y) (M1 205 (61 * j + y)) := by
    refine upto (x + 1) (fun v hv M' v0 v1 f g => ?_) (fun v hv ih M' v0 v1 f g => ?_)
    · obtain ⟨M1, r, z⟩ := rows 13 M' (by omega) (by omega) f (fun j y j0 j1 y0 y1 => by
        have e : j = 14 := by omega
        subst e
        rw [Pn 14 (by omega), show (61 : Int) * 14 + y = 854 + y by omega, g y y0 (by omega)]
        have pr := hg.2.1 y y0 (by omega)
        rw [← hn] at pr
        rw [pr]
        by_cases c : y = 0
        · rw [if_pos c, if_pos c]; exact Or.inl ⟨by omega, rfl⟩
        · rw [if_neg c, if_neg c]; exact Or.inr ⟨rfl, rfl⟩)
      exact ⟨M1, bl_293_2 ⟨fun _ => r, fun q => absurd (by omega) q⟩, z⟩
    · obtain ⟨M1, r, z⟩ := ih (aSet M' 205 (854 + v) (if v = 0 then 0 else 100000000)) (by omega) (by omega) (fr_set f (by omega)) (fun y y0 y1 => by
        by_cases e : y = v
        · subst e; rw [aSet_e]
        · rw [aSet_i (by omega)]; exact g y y0 (by omega))
      refine ⟨M1, bl_293_2 ⟨fun q => absurd q (by omega), fun _ => ⟨fun q => ?_, fun q => ?_⟩⟩, z⟩
      · rw [if_neg q] at r
        rw [aWi (z := 854 + v) (by omega) (by omega)]
        refine bl_293_27 ⟨by omega, ?_⟩
        rw [aWi (by omega) (by omega)]
        exact r
      · rw [if_pos (Classical.not_not.mp q)] at r
        rw [aWi (z := 854 + v) (by omega) (by omega)]
        refine bl_293_27 ⟨by omega, ?_⟩
        rw [aWi (by omega) (by omega)]
        exact r
  obtain ⟨M1, r, f, z⟩ := base 0 M (by omega) (by omega) fr_rf (fun y y0 y1 => by omega)
  refine ⟨M1, en_293 r, f, fun k y k0 k1 y0 y1 => ?_⟩
  have := z k y (by omega) (by omega) y0 y1
  rw [Pk k k1] at this
  exact this
end GAP6
