/-! the model's table of lines, row by row -/
section LIN7
variable {L : Nat} {M M1 M2 : aM}
theorem hO_st {P P' H : Int → Int} {w h r a x v : Int} (bd : rwB P') (w1 : 1 ≤ w) (h1 : 1 ≤ h) (r0 : 0 ≤ r) (x0 : 0 ≤ x) (x1 : x ≤ 240) (hP : ∀ y, 0 ≤ y → y ≤ 240 → P y = gLn P' w h r.toNat y) (hH : ∀ y, 0 ≤ y → y ≤ x → hO P' a y (H y)) (v0 : 0 ≤ v ∧ v ≤ 100000000)
    (v1 : ∀ b d : Nat, (b : Int) + d ≤ r → b * w + d * h ≤ x → v ≤ H (x - b * w - d * h) + 1000 * (b + d)) (v2 : v = 100000000 ∨ ∃ b d : Nat, (b : Int) + d ≤ r ∧ b * w + d * h ≤ x ∧ v = H (x - b * w - d * h) + 1000 * (b + d)) : hO P a x v := by
  have le : ∀ c : Int, 0 ≤ c → c ≤ a → c ≤ x → v ≤ 1000 * (P (x - c) + c) + c := by
    intro c c0 ca cx
    rw [hP (x - c) (by omega) (by omega)]
    obtain ⟨b, d, q1, q2, e⟩ := gLn_at bd w1 h1 r.toNat (x - c) (by omega) (by omega)
    have g1 := Int.mul_nonneg (show 0 ≤ (b : Int) by omega) (show 0 ≤ w by omega)
    have g2 := Int.mul_nonneg (show 0 ≤ (d : Int) by omega) (show 0 ≤ h by omega)
    have y1 := v1 b d (by omega) (by omega)
    have y2 := (hH (x - b * w - d * h) (by omega) (by omega)).2.2.1 c c0 ca (by omega)
    rw [show x - c - b * w - d * h = x - b * w - d * h - c by omega] at e
    omega
  refine ⟨v0.1, v0.2, le, ?_⟩
  rcases v2 with v2 | ⟨b, d, q1, q2, e⟩
  · exact Or.inl v2
  · have g1 := Int.mul_nonneg (show 0 ≤ (b : Int) by omega) (show 0 ≤ w by omega)
    have g2 := Int.mul_nonneg (show 0 ≤ (d : Int) by omega) (show 0 ≤ h by omega)
    obtain ⟨z1, z2, -, z3⟩ := hH (x - b * w - d * h) (by omega) (by omega)
    rcases z3 with z3 | ⟨c, c0, ca, cx, z3⟩
    · exact Or.inl (by omega)
    · refine Or.inr ⟨c, c0, ca, by omega, ?_⟩
      have y1 := le c c0 ca (by omega)
      have y2 := gLn_le (F := P') w1 h1 r.toNat (x - c) b d (by omega) (by omega) (by omega)
      rw [← hP (x - c) (by omega) (by omega), show x - c - b * w - d * h = x - b * w - d * h - c by omega] at y2
      omega
def rwF (P : Int → Int) : Prop := ∀ x, 0 ≤ x → x ≤ 240 → P x ≤ x ∨ P x = 1000000
theorem rwF_st {P P' : Int → Int} {w h : Int} {r : Nat} (bd : rwB P') (f : rwF P') (w1 : 1 ≤ w) (h1 : 1 ≤ h) (hP : ∀ y, 0 ≤ y → y ≤ 240 → P y = gLn P' w h r y) : rwF P := by
  intro x x0 x1
  rw [hP x x0 x1]
  have b := (gLn_bd bd w1 h1 r x x0 x1).2
  obtain ⟨n, d, q1, q2, e⟩ := gLn_at bd w1 h1 r x x0 x1
  have g1 := Int.mul_le_mul_of_nonneg_left w1 (show 0 ≤ (n : Int) by omega)
  have g2 := Int.mul_le_mul_of_nonneg_left h1 (show 0 ≤ (d : Int) by omega)
  rw [Int.mul_one] at g1 g2
  rcases f (x - n * w - d * h) (by omega) (by omega) with q | q
  · omega
  · omega
theorem lnR_fn (h : rP M) (hl : lnR M) : ∀ k, 0 ≤ k → k ≤ M (M 1 3) 3 → rwF (M (101 + k)) := by
  refine upto (M (M 1 3) 3) (fun k hk k0 k1 => ?_) (fun k hk ih k0 k1 => ?_)
  · have e : k = M (M 1 3) 3 := by omega
    rw [e]
    intro x x0 x1
    rw [hl.2.1 x x0 x1]
    split <;> omega
  · have a := ih (by omega) (by omega)
    have c := lnR_bd h hl (k + 1) (by omega) (by omega)
    rw [show 101 + (k + 1) = 102 + k by omega] at a c
    have b := h.1.1.2.2.2.2.2 k k0 hk
    exact rwF_st c a b.2.1.1 b.2.2.1.1 (hl.2.2 k k0 hk).2
theorem sc_204 (f : fr 204 204 M M1) : sc M M1 := ⟨fun a x y z => f a (by omega), fun j hj => by rw [f 145 (by omega)]⟩
theorem s_285 (h : rP M) (hl : lnR M) {x a : Int} (x0 : 0 ≤ x ∧ x ≤ 240) (a0 : 0 ≤ a ∧ a ≤ 99) : ∃ M1, aE 285 [aR 145, aI x, aI a] (SH L) M ([], SH L, M1) ∧ fr 204 204 M M1 ∧ ∀ k y, 0 ≤ k → k ≤ M (M 1 3) 3 → 0 ≤ y → y ≤ x → hO (M (101 + k)) a y (M1 204 (241 * k + y)) := by
  have l204 : aLn (SH L) 1 204 = 3615 := rfl
  have l154 : aLn (SH L) 1 154 = 28 := rfl
  have tl := tx_le (rP_tx h)
  obtain ⟨n, hn⟩ : ∃ n, n = M (M 1 3) 3 := ⟨_, rfl⟩
  have n14 : 0 ≤ n ∧ n ≤ 14 := by rw [hn]; exact h.1.1.2.2.2.2.1
  have n153 : M 153 0 = n := by rw [hn]; exact h.1.2.1.2.2.2
  rw [← hn]
  obtain ⟨P, hP⟩ : ∃ P : Int → Int → Int, P = fun k => M (101 + min k n) := ⟨_, rfl⟩
  have Pk : ∀ k, k ≤ n → P k = M (101 + k) := fun k hk => by rw [hP]; show M (101 + min k n) = _; rw [show min k n = k by omega]
  have Pn : ∀ k, n ≤ k → P k = M (101 + n) := fun k hk => by rw [hP]; show M (101 + min k n) = _; rw [show min k n = n by omega]
  have rows : ∀ k : Int, ∀ M' : aM, -1 ≤ k → k < 14 → fr 204 204 M M' → (∀ j y, k < j → j ≤ 14 → 0 ≤ y → y ≤ x → hO (P j) a y (M' 204 (241 * j + y))) → ∃ M1, aX xc_285 (aSeek xc_285 42) [aR 145, aI x, aU, aI k, aU, aU] [] (SH L) M' ([], SH L, M1) ∧ fr 204 204 M M1 ∧ ∀ j y, -1 < j → j ≤ 14 → 0 ≤ y → y ≤ x → hO (P j) a y (M1 204 (241 * j + y)) := by
    refine downto (-1) (fun k hk M' k0 k1 f v => ?_) (fun k hk ih M' k0 k1 f v => ?_)
    · have e : k = -1 := by omega
      subst e
      exact ⟨M', bl_285_42 ⟨fun _ => rfl, fun q => absurd (by omega) q⟩, f, v⟩
    · obtain ⟨rs, hrs⟩ : ∃ rs, rs = if k < n then lfT M k else 0 := ⟨_, rfl⟩
      have lb := lfT_bd h (k := k)
      have rsb : 0 ≤ rs ∧ rs ≤ 99 := by rw [hrs]; split <;> omega
      have hM' := rP_sc h (sc_204 f)
      have fill : ∀ y : Int, ∀ M2 : aM, 0 ≤ y → y ≤ x + 1 → fr 204 204 M M2 → (∀ i, (i < 241 * k ∨ 241 * k + 241 ≤ i) → M2 204 i = M' 204 i) → (∀ z, 0 ≤ z → z < y → hO (P k) a z (M2 204 (241 * k + z))) → ∃ M1, aX xc_285 (aSeek xc_285 79) [aR 145, aI x, aU, aI k, aI rs, aI y] [] (SH L) M2 ([], SH L, M1) ∧ fr 204 204 M M1 ∧ ∀ j y, -1 < j → j ≤ 14 → 0 ≤ y → y ≤ x → hO (P j) a y (M1 204 (241 * j + y)) := by
        refine upto (x + 1) (fun y hy M2 y0 y1 f2 g2 v2 => ?_) (fun y hy ihy M2 y0 y1 f2 g2 v2 => ?_)
        · obtain ⟨M1, r, z⟩ := ih M2 (by omega) (by omega) f2 (fun j z j0 j1 z0 z1 => by
            by_cases e : j = k
            · rw [e]; exact v2 z z0 (by omega)
            · rw [g2 _ (by omega)]; exact v j z (by omega) j1 z0 z1)
          refine ⟨M1, bl_285_79 ⟨fun _ => ?_, fun q => absurd (by omega) q⟩, z⟩
          rw [aWi (by omega) (by omega)]
          exact r
        · have hM2 := rP_sc h (sc_204 f2)
          have up : ∀ z, 0 ≤ z → z ≤ x → hO (P (k + 1)) a z (M2 204 (241 * k + 241 + z)) := by
            intro z z0 z1
            have := v (k + 1) z (by omega) (by omega) z0 z1
            rw [show 241 * (k + 1) + z = 241 * k + 241 + z by omega] at this
            rw [g2 _ (by omega)]; exact this
          have val : ∃ v, aE 284 [aR 145, aI k, aI y, aI rs] (SH L) M2 ([aI v], SH L, M2) ∧ hO (P k) a y v := by
            by_cases c : k < n
            · rw [if_pos c] at hrs
              have tk := h.1.2.2.1 k (by omega) (by rw [← hn]; exact c)
              have bk := h.1.1.2.2.2.2.2 k (by omega) (by rw [← hn]; exact c)
              obtain ⟨v, r, z0, z1, z2⟩ := s_284 (L := L) (M := M2) (k := k) (x := y) (r := rs) (w := M (M 1 3 + 3) k) (h := M (M 1 3 + 4) k) (by omega) (by omega) y0 (by omega) rsb (by rw [f2 155 (by omega)]; exact tk.2.1) (by rw [f2 156 (by omega)]; exact tk.2.2.1) bk.2.1 bk.2.2.1 (fun z z0 z1 => by have := up z z0 (by omega); exact ⟨this.1, this.2.1⟩)
              have bd := lnR_bd h hl (k + 1) (by omega) (by omega)
              rw [show 101 + (k + 1) = 102 + k by omega] at bd
              refine ⟨v, r, hO_st (H := fun z => M2 204 (241 * k + 241 + z)) bd bk.2.1.1 bk.2.2.1.1 rsb.1 y0 (by omega) (fun z z0 z1 => ?_) (fun z z0 z1 => ?_) z0 z1 z2⟩
              · rw [Pk k (by omega), hrs]; exact (hl.2.2 k (by omega) (by rw [← hn]; exact c)).2 z z0 z1
              · have := up z z0 (by omega)
                rw [Pk (k + 1) (by omega), show 101 + (k + 1) = 102 + k by omega] at this
                exact this
            · rw [if_neg c] at hrs
              have u := up y y0 (by omega)
              rw [Pn (k + 1) (by omega)] at u
              rw [hrs, Pn k (by omega)]
              exact ⟨_, s_284z (by omega) (by omega) y0 (by omega) ⟨u.1, u.2.1⟩, u⟩
          obtain ⟨vv, rv, hv⟩ := val
          obtain ⟨M1, r, z⟩ := ihy (aSet M2 204 (241 * k + y) vv) (by omega) (by omega) (fr_set f2 (by omega)) (fun i hi => by rw [aSet_i (by omega)]; exact g2 i hi) (fun z z0 z1 => by
            by_cases e : z = y
            · subst e; rw [aSet_e]; exact hv
            · rw [aSet_i (by omega)]; exact v2 z z0 (by omega))
          refine ⟨M1, bl_285_79 ⟨fun q => absurd q (by omega), fun _ => ⟨M2, vv, rv, ?_⟩⟩, z⟩
          rw [aWi (z := 241 * k) (by omega) (by omega), aWi (z := 241 * k + y) (by omega) (by omega), aWi (z := y + 1) (by omega) (by omega)]
          exact ⟨by omega, r⟩
      obtain ⟨M1, r, z⟩ := fill 0 M' (by omega) (by omega) f (fun i _ => rfl) (fun z z0 z1 => by omega)
      have k74 : aX xc_285 (aSeek xc_285 74) [aR 145, aI x, aU, aI k, aU, aU] [aI rs] (SH L) M' ([], SH L, M1) := bl_285_74 r
      refine ⟨M1, bl_285_42 ⟨fun q => absurd q (by omega), fun _ => ?_⟩, z⟩
      rw [f 153 (by omega), n153, f 154 (by omega)]
      refine ⟨fun q => ?_, fun q => ⟨by omega, fun q1 => ?_, fun q1 => ?_⟩⟩
      · rw [if_neg (by omega)] at hrs
        rw [hrs] at k74
        exact bl_285_73 k74
      · have tk := h.1.2.2.1 k (by omega) (by rw [← hn]; omega)
        have bk := h.1.1.2.2.2.2.2 k (by omega) (by rw [← hn]; omega)
        rw [if_pos (by omega)] at hrs
        unfold lfT at hrs
        rw [if_neg (fun z => z.2.2 (by omega))] at hrs
        rw [hrs] at k74
        exact bl_285_73 k74
      · have tk := h.1.2.2.1 k (by omega) (by rw [← hn]; omega)
        rw [if_pos (by omega)] at hrs
        unfold lfT at hrs
        rw [if_pos ⟨by omega, by rw [← hn]; omega, by omega⟩] at hrs
        refine ⟨M', rs, ?_, k74⟩
        have s := s_226 (L := L) hM' (k := k) (by omega) (by rw [f 153 (by omega), n153]; omega)
        rw [f 157 (by omega), tk.2.2.2] at s
        have ec : cntK M' 31 k = cntK M 31 k := by unfold cntK; rw [f 31 (by omega), f (31 + 1) (by omega)]
        rw [ec, ← hrs] at s
        exact s
  have base : ∀ v : Int, ∀ M' : aM, 0 ≤ v → v ≤ x + 1 → fr 204 204 M M' → (∀ y, 0 ≤ y → y < v → M' 204 (3374 + y) = if y ≤ a then 1001 * y else 100000000) → ∃ M1, aX xc_285 (aSeek xc_285 2) [aR 145, aI x, aI a, aI v, aU, aU] [] (SH L) M' ([], SH L, M1) ∧ fr 204 204 M M1 ∧ ∀ j y, -1 < j → j ≤ 14 → 0 ≤ y → y ≤ x → hO (P j) a y (M1 204 (241 * j + y)) := by
    refine upto (x + 1) (fun v hv M' v0 v1 f g => ?_) (fun v hv ih M' v0 v1 f g => ?_)
    · obtain ⟨M1, r, z⟩ := rows 13 M' (by omega) (by omega) f (fun j y j0 j1 y0 y1 => by
        have e : j = 14 := by omega
        subst e
        rw [Pn 14 (by omega), show (241 : Int) * 14 + y = 3374 + y by omega, g y y0 (by omega)]
        have pr : ∀ z, 0 ≤ z → z ≤ 240 → M (101 + n) z = if z = 0 then 0 else 1000000 := by rw [hn]; exact hl.2.1
        by_cases c : y ≤ a
        · rw [if_pos c]
          refine ⟨by omega, by omega, fun d d0 d1 d2 => ?_, Or.inr ⟨y, y0, c, by omega, ?_⟩⟩
          · rw [pr (y - d) (by omega) (by omega)]; split <;> omega
          · rw [pr (y - y) (by omega) (by omega), if_pos (by omega)]; omega
        · rw [if_neg c]
          refine ⟨by omega, by omega, fun d d0 d1 d2 => ?_, Or.inl rfl⟩
          rw [pr (y - d) (by omega) (by omega), if_neg (by omega)]; omega)
      exact ⟨M1, bl_285_2 ⟨fun _ => r, fun q => absurd (by omega) q⟩, z⟩
    · obtain ⟨M1, r, z⟩ := ih (aSet M' 204 (3374 + v) (if v ≤ a then 1001 * v else 100000000)) (by omega) (by omega) (fr_set f (by omega)) (fun y y0 y1 => by
        by_cases e : y = v
        · subst e; rw [aSet_e]
        · rw [aSet_i (by omega)]; exact g y y0 (by omega))
      refine ⟨M1, bl_285_2 ⟨fun q => absurd q (by omega), fun _ => ⟨fun q => ?_, fun q => ?_⟩⟩, z⟩
      · rw [if_neg (by omega)] at r
        rw [aWi (z := 3374 + v) (by omega) (by omega)]
        refine bl_285_32 ⟨by omega, ?_⟩
        rw [aWi (by omega) (by omega)]
        exact r
      · rw [if_pos (by omega)] at r
        rw [aWi (z := 3374 + v) (by omega) (by omega), aWi (z := 1001 * v) (by omega) (by omega)]
        refine bl_285_32 ⟨by omega, ?_⟩
        rw [aWi (by omega) (by omega)]
        exact r
  obtain ⟨M1, r, f, z⟩ := base 0 M (by omega) (by omega) fr_rf (fun y y0 y1 => by omega)
  refine ⟨M1, en_285 r, f, fun k y k0 k1 y0 y1 => ?_⟩
  have := z k y (by omega) (by omega) y0 y1
  rw [Pk k k1] at this
  exact this
end LIN7
