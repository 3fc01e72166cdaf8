/-! the class's table of gaps -/
section GAP2
variable {L : Nat} {M M1 M2 : aM}
def urK (W w h : Int) : Int := if w = h then 0 else rO W h
/-- the table is right for a width of W -/
def gpR (M : aM) (W : Int) : Prop := M 118 6 = M 1 3 ∧ (∀ x, 0 ≤ x → x ≤ 60 → M (120 + M (M 1 3) 3) x = if x = 0 then 0 else 1000000) ∧
  ∀ k, 0 ≤ k → k < M (M 1 3) 3 → M 135 k = lfT M k ∧ M 136 k = rO W (M (M 1 3 + 3) k) ∧ M 137 k = urK W (M (M 1 3 + 3) k) (M (M 1 3 + 4) k) ∧ ∀ x, 0 ≤ x → x ≤ 60 → gMn (M (121 + k)) (lfT M k) (rO W (M (M 1 3 + 3) k)) (urK W (M (M 1 3 + 3) k) (M (M 1 3 + 4) k)) (M (M 1 3 + 4) k) (M (M 1 3 + 3) k) x (M (120 + k) x)
theorem urK_bd {W w h : Int} (hW : 0 ≤ W ∧ W ≤ 60) (hd : 1 ≤ h) : 0 ≤ urK W w h ∧ urK W w h ≤ 60 := by
  unfold urK
  have := rO_bd hW hd
  split <;> omega
theorem gMn_bd {P Q : Int → Int} {l tr ur br ln : Int} (hP : rwG P) (l0 : 0 ≤ l ∧ l ≤ 99) (r0 : 0 ≤ tr) (u0 : 0 ≤ ur) (b1 : 1 ≤ br) (n1 : 1 ≤ ln) (h : ∀ x, 0 ≤ x → x ≤ 60 → gMn P l tr ur br ln x (Q x)) : rwG Q := by
  intro x x0 x1
  obtain ⟨a, -, c⟩ := h x x0 x1
  rcases c with c | ⟨t, m, o, e⟩
  · omega
  · have := (gOk_bd hP ⟨x0, x1⟩ l0 r0 u0 b1 n1 o).2.2.2.2.2.1
    omega
theorem s_152 (h : rP M) {W : Int} (hW : 1 ≤ W ∧ W ≤ 60) (hc : M 118 7 = M 1 9 → gpR M (M 118 8)) : ∃ M1, aE 152 [aR 118, aR (M 1 3), aR 31, aI (M 1 9), aI W] (SH L) M ([], SH L, M1) ∧ fr 118 137 M M1 ∧ M1 118 7 = M 1 9 ∧ M1 118 8 = W ∧ gpR M1 W := by
  have tx0 := rP_tx h
  have tl := tx_le tx0
  have l135 : aLn (SH L) 1 135 = 14 := rfl
  have l136 : aLn (SH L) 1 136 = 14 := rfl
  have l137 : aLn (SH L) 1 137 = 14 := rfl
  have l119 : aLn (SH L) 6 119 = 15 := rfl
  obtain ⟨T, hT⟩ : ∃ T, T = M 1 3 := ⟨_, rfl⟩
  obtain ⟨n, hn⟩ : ∃ n, n = M T 3 := ⟨_, rfl⟩
  have n14 : 0 ≤ n ∧ n ≤ 14 := by rw [hn, hT]; exact h.1.1.2.2.2.2.1
  have txT : isTx T := by rw [hT]; exact tx0
  have bk : ∀ k, 0 ≤ k → k < n → (0 ≤ M (T + 2) k ∧ M (T + 2) k ≤ 3) ∧ (1 ≤ M (T + 3) k ∧ M (T + 3) k ≤ 60) ∧ (1 ≤ M (T + 4) k ∧ M (T + 4) k ≤ 60) ∧ (0 ≤ M (T + 5) k ∧ M (T + 5) k ≤ 99) := by rw [hn, hT]; exact h.1.1.2.2.2.2.2
  have fA : ∀ {K : aM}, fr 118 137 M K → rP K ∧ K 1 3 = T ∧ K T = M T ∧ ∀ k, lfT K k = lfT M k := by
    intro K f
    have e1 : K 1 3 = M 1 3 := by rw [f 1 (by omega)]
    refine ⟨rP_fr h f (by omega) (by omega), by rw [e1, hT], f T (by omega), fun k => lfT_cg h (fun a ha => f a (by omega)) e1⟩
  have loop : ∀ k : Int, ∀ M' : aM, -1 ≤ k → k < n → fr 118 137 M M' → M' 118 6 = T → M' 118 7 = M 1 9 → M' 118 8 = W → (∀ x, 0 ≤ x → x ≤ 60 → M' (120 + n) x = if x = 0 then 0 else 1000000) → (∀ j, k < j → j < n → M' 135 j = lfT M j ∧ M' 136 j = rO W (M (T + 3) j) ∧ M' 137 j = urK W (M (T + 3) j) (M (T + 4) j) ∧ ∀ x, 0 ≤ x → x ≤ 60 → gMn (M' (121 + j)) (lfT M j) (rO W (M (T + 3) j)) (urK W (M (T + 3) j) (M (T + 4) j)) (M (T + 4) j) (M (T + 3) j) x (M' (120 + j) x)) → (∀ j, k < j → j ≤ n → rwG (M' (120 + j))) →
      ∃ M1, aX xc_152 (aSeek xc_152 77) [aR 118, aU, aR 31, aU, aI W, aI k, aU, aU] [] (SH L) M' ([], SH L, M1) ∧ fr 118 137 M M1 ∧ M1 118 7 = M 1 9 ∧ M1 118 8 = W ∧ gpR M1 W := by
    refine downto (-1) (fun k hk M' k0 k1 f e6 e7 e8 bs rw_ bd => ?_) (fun k hk ih M' k0 k1 f e6 e7 e8 bs rw_ bd => ?_)
    · obtain ⟨-, g1, g2, g3⟩ := fA f
      refine ⟨M', bl_152_77 ⟨fun _ => rfl, fun q => absurd (by omega) q⟩, f, e7, e8, ?_⟩
      unfold gpR
      rw [g1, g2, ← hn]
      refine ⟨e6, bs, fun j j0 j1 => ?_⟩
      rw [g3, f (T + 3) (by omega), f (T + 4) (by omega)]
      exact rw_ j (by omega) j1
    · obtain ⟨g0, g1, g2, g3⟩ := fA f
      have l0 := lfT_bd h (k := k)
      have bkk := bk k (by omega) k1
      obtain ⟨w, hw⟩ : ∃ w, w = M (T + 3) k := ⟨_, rfl⟩
      obtain ⟨g, hg⟩ : ∃ g, g = M (T + 4) k := ⟨_, rfl⟩
      rw [← hw, ← hg] at bkk
      have tb := rO_bd (W := W) (d := w) (by omega) bkk.2.1.1
      have ub := urK_bd (W := W) (w := w) (h := g) (by omega) bkk.2.2.1.1
      obtain ⟨tr, htr⟩ : ∃ tr, tr = rO W w := ⟨_, rfl⟩
      obtain ⟨ur, hur⟩ : ∃ ur, ur = urK W w g := ⟨_, rfl⟩
      rw [← htr] at tb
      rw [← hur] at ub
      have tO : tOk M' T := by have := g0.1.1; rw [g1] at this; exact this
      have bO := g0.2.1.1
      have n3 : M' T 3 = n := by rw [g2, hn]
      obtain ⟨K, hK⟩ : ∃ K, K = aSet (aSet (aSet M' 135 k (lfT M k)) 136 k tr) 137 k ur := ⟨_, rfl⟩
      have fK : fr 118 137 M K := by rw [hK]; exact fr_set (fr_set (fr_set f (by omega)) (by omega)) (by omega)
      have kr : ∀ a, a < 135 → K a = M' a := fun a ha => by rw [hK, aSet_c (by omega), aSet_c (by omega), aSet_c (by omega)]
      have k135 : K 135 k = lfT M k := by rw [hK, aSet_r (by omega), aSet_r (by omega), aSet_e]
      have k136 : K 136 k = tr := by rw [hK, aSet_r (by omega), aSet_e]
      have k137 : K 137 k = ur := by rw [hK, aSet_e]
      have kj : ∀ a j, 135 ≤ a → j ≠ k → K a j = M' a j := fun a j ha hj => by rw [hK, aSet_i hj, aSet_i hj, aSet_i hj]
      obtain ⟨pg1, pg2, pg3⟩ := p_119 (L := L) (k := k) (by omega) (by omega)
      have b121 : rwG (K (121 + k)) := by
        have := bd (k + 1) (by omega) (by omega)
        rw [show 120 + (k + 1) = 121 + k by omega] at this
        rw [kr (121 + k) (by omega)]; exact this
      have fill : ∀ x : Int, ∀ N : aM, 0 ≤ x → x ≤ 61 → (∀ a, a ≠ 118 → a ≠ 120 + k → N a = K a) → (∀ j, j ≠ 0 → j ≠ 1 → N 118 j = K 118 j) → (∀ y, 0 ≤ y → y < x → gMn (K (121 + k)) (lfT M k) tr ur g w y (N (120 + k) y)) → ∃ M1, aX xc_152 (aSeek xc_152 201) [aR 118, aU, aR 31, aU, aI W, aI k, aU, aI x] [] (SH L) N ([], SH L, M1) ∧ fr 118 137 M M1 ∧ M1 118 7 = M 1 9 ∧ M1 118 8 = W ∧ gpR M1 W := by
        refine upto 61 (fun x hx N x0 x1 nf nj nv => ?_) (fun x hx ihx N x0 x1 nf nj nv => ?_)
        · obtain ⟨M1, r, z⟩ := ih N (by omega) (by omega) (fun a ha => by rw [nf a (by omega) (by omega)]; exact fK a ha) (by rw [nj 6 (by omega) (by omega), kr 118 (by omega)]; exact e6) (by rw [nj 7 (by omega) (by omega), kr 118 (by omega)]; exact e7) (by rw [nj 8 (by omega) (by omega), kr 118 (by omega)]; exact e8) (fun y y0 y1 => by rw [nf (120 + n) (by omega) (by omega), kr (120 + n) (by omega)]; exact bs y y0 y1) (fun j j0 j1 => by
              rw [nf 135 (by omega) (by omega), nf 136 (by omega) (by omega), nf 137 (by omega) (by omega), nf (121 + j) (by omega) (by omega)]
              by_cases e : j = k
              · subst e
                rw [k135, k136, k137, ← hw, ← hg, ← htr, ← hur]
                exact ⟨rfl, rfl, rfl, fun y y0 y1 => nv y y0 (by omega)⟩
              · rw [nf (120 + j) (by omega) (by omega), kr (121 + j) (by omega), kr (120 + j) (by omega), kj 135 j (by omega) e, kj 136 j (by omega) e, kj 137 j (by omega) e]
                exact rw_ j (by omega) j1) (fun j j0 j1 => by
              by_cases e : j = k
              · subst e
                exact gMn_bd b121 l0 tb.1 ub.1 bkk.2.2.1.1 bkk.2.1.1 (fun y y0 y1 => nv y y0 (by omega))
              · rw [nf (120 + j) (by omega) (by omega), kr (120 + j) (by omega)]
                exact bd j (by omega) j1)
          refine ⟨M1, bl_152_201 ⟨fun _ => ?_, fun q => absurd (by omega) q⟩, z⟩
          rw [aWi (by omega) (by omega)]
          exact r
        · obtain ⟨N2, hN2⟩ : ∃ N2, N2 = aSet N (120 + k) x 1000000 := ⟨_, rfl⟩
          have n2c : ∀ a, a ≠ 120 + k → N2 a = N a := fun a ha => by rw [hN2, aSet_c ha]
          have n2k : ∀ a, a ≠ 118 → a ≠ 120 + k → N2 a = K a := fun a a1 a2 => by rw [n2c a a2, nf a a1 a2]
          have n2f : fr 118 137 M N2 := fun a ha => by rw [n2k a (by omega) (by omega)]; exact fK a ha
          obtain ⟨M3, v, r3, mn, q1, q2, q3, q4⟩ := s_151s (L := L) (M := N2) (T := T) (k := k) (x := x) (l := lfT M k) (tr := tr) (ur := ur) (br := g) (ln := w) txT (by rw [n2f T (by omega), ← hn]; omega) (by rw [n2c 118 (by omega), nj 6 (by omega) (by omega), kr 118 (by omega)]; exact e6) (by omega) (by rw [n2f T (by omega), ← hn]; exact k1) (by omega) (by rw [n2k (121 + k) (by omega) (by omega)]; exact b121) (by rw [n2k 135 (by omega) (by omega)]; exact k135) (by rw [n2k 136 (by omega) (by omega)]; exact k136) (by rw [n2k 137 (by omega) (by omega)]; exact k137) (by rw [n2f (T + 4) (by omega)]; exact hg.symm) (by rw [n2f (T + 3) (by omega)]; exact hw.symm) l0 tb ub bkk.2.2.1 bkk.2.1 (by rw [hN2, aSet_e])
          rw [n2k (121 + k) (by omega) (by omega)] at mn
          obtain ⟨M1, r, z⟩ := ihx M3 (by omega) (by omega) (fun a a1 a2 => by rw [q1 a a1 a2]; exact n2k a a1 a2) (fun j j0 j1 => by rw [q2 j j0 j1, n2c 118 (by omega)]; exact nj j j0 j1) (fun y y0 y1 => by
            by_cases e : y = x
            · subst e; rw [q4]; exact mn
            · rw [q3 y e, hN2, aSet_i e]; exact nv y y0 (by omega))
          refine ⟨M1, bl_152_201 ⟨fun q => absurd q (by omega), fun _ => ⟨by omega, ?_⟩⟩, z⟩
          rw [ar_119 (by omega) (by omega), pg3, ← hN2, aWi (z := x + 1) (by omega) (by omega)]
          exact ⟨by omega, M3, _, r3, r⟩
      obtain ⟨M1, r, z⟩ := fill 0 K (by omega) (by omega) (fun _ _ _ => rfl) (fun _ _ _ => rfl) (fun y y0 y1 => by omega)
      have r197 : ∀ u : Int, u = ur → aX xc_152 (aSeek xc_152 197) [aR 118, aU, aR 31, aU, aI W, aI k, aU, aU] [aI u, aI k, aR 137] (SH L) (aSet (aSet M' 135 k (lfT M k)) 136 k tr) ([], SH L, M1) := by
        intro u hu
        refine bl_152_197 ⟨by omega, ?_⟩
        rw [hu, ← hK]
        exact r
      have mw : M' (T + 3) k = w := by rw [f (T + 3) (by omega), hw]
      have mg : M' (T + 4) k = g := by rw [f (T + 4) (by omega), hg]
      have r144 : ∀ b : Int, (b = if w = g then 1 else 0) → aX xc_152 (aSeek xc_152 144) [aR 118, aU, aR 31, aU, aI W, aI k, aI b, aU] [aI (lfT M k), aI k, aR 135] (SH L) M' ([], SH L, M1) := by
        intro b hb
        apply bl_152_144
        rw [aSet_r (show (118 : Int) ≠ 135 by omega), e6]
        simp only [tx txT]
        rw [aSet_r (show T + 3 ≠ 135 by omega), mw]
        have e1 : aE 149 [aI W, aI w] (SH L) (aSet M' 135 k (lfT M k)) ([aI tr], SH L, aSet M' 135 k (lfT M k)) := by rw [htr]; exact s_149 (by omega) (by omega)
        refine ⟨by omega, trivial, by omega, _, _, e1, by omega, fun q => ?_, fun q => r197 0 ?_⟩
        · rw [aSet_r (show (118 : Int) ≠ 136 by omega), aSet_r (show (118 : Int) ≠ 135 by omega), e6]
          simp only [tx txT]
          rw [aSet_r (show T + 4 ≠ 136 by omega), aSet_r (show T + 4 ≠ 135 by omega), mg]
          have ne : ¬ w = g := fun z => by rw [if_pos z] at hb; omega
          have e2 : aE 149 [aI W, aI g] (SH L) (aSet (aSet M' 135 k (lfT M k)) 136 k tr) ([aI ur], SH L, aSet (aSet M' 135 k (lfT M k)) 136 k tr) := by
            rw [hur]; unfold urK; rw [if_neg ne]; exact s_149 (by omega) (by omega)
          exact ⟨trivial, by omega, _, _, e2, r197 ur rfl⟩
        · have eq : w = g := Classical.byContradiction (fun z => by rw [if_neg z] at hb; omega)
          rw [hur]; unfold urK; rw [if_pos eq]
      have lv : lfT M k = if 0 ≤ k ∧ k < M' T 3 ∧ ¬ M' (T + 2) k = 0 then M' (T + 5) k - cntK M' 31 k else 0 := by
        rw [← g3 k]; unfold lfT; rw [g1]
      have e139 : aE 139 [aR T, aI k] (SH L) M' ([aI (bi (decide (0 ≤ k ∧ k < M' T 3 ∧ ¬ M' (T + 2) k = 0)))], SH L, M') := s_139 tO.1 (by omega)
      have e60 : aE 60 [aR 31, aR T, aI k] (SH L) M' ([aI (if 0 ≤ k ∧ k < M' T 3 then M' (T + 5) k - cntK M' 31 k else 0)], SH L, M') := s_60 bO tO
      have r110 : ∀ b : Int, (b = if w = g then 1 else 0) → aX xc_152 (aSeek xc_152 110) [aR 118, aU, aR 31, aU, aI W, aI k, aU, aU] [aI b] (SH L) M' ([], SH L, M1) := by
        intro b hb
        apply bl_152_110
        rw [e6]
        refine ⟨(tx txT).1, M', _, e139, fun q => ?_, fun q => ?_⟩
        · rw [if_neg (bid0.mp q)] at lv
          rw [← lv]; exact r144 b hb
        · have q1 : 0 ≤ k ∧ k < M' T 3 ∧ ¬ M' (T + 2) k = 0 := Classical.byContradiction (fun z => q (bid0.mpr z))
          rw [if_pos q1] at lv
          rw [if_pos ⟨q1.1, q1.2.1⟩, ← lv] at e60
          rw [e6]
          exact ⟨rfl, M', _, e60, r144 b hb⟩
      refine ⟨M1, bl_152_77 ⟨fun q => absurd q (by omega), fun _ => ?_⟩, z⟩
      rw [e6]
      simp only [tx txT]
      rw [mw, mg]
      exact ⟨trivial, by omega, trivial, by omega, fun q => r110 0 (by rw [if_neg q]), fun q => r110 1 (by rw [if_pos (Classical.not_not.mp q)])⟩
  obtain ⟨K, hK⟩ : ∃ K, K = aSet (aSet (aSet M 118 7 (M 1 9)) 118 8 W) 118 6 T := ⟨_, rfl⟩
  have k6 : K 118 6 = T := by rw [hK, aSet_e]
  have k7 : K 118 7 = M 1 9 := by rw [hK, aSet_i (by omega), aSet_i (by omega), aSet_e]
  have k8 : K 118 8 = W := by rw [hK, aSet_i (by omega), aSet_e]
  have kc : ∀ a, a ≠ 118 → K a = M a := fun a ha => by rw [hK, aSet_c ha, aSet_c ha, aSet_c ha]
  have kT : K T 3 = n := by rw [kc T (by omega), hn]
  obtain ⟨p1, p2, p3⟩ := p_119 (L := L) (k := n) n14.1 (by omega)
  obtain ⟨K2, hK2⟩ : ∃ K2, K2 = aFill K (120 + n) 61 1000000 := ⟨_, rfl⟩
  have k2c : ∀ a, a ≠ 120 + n → K2 a = K a := fun a ha => by rw [hK2, aFill_c ha]
  obtain ⟨K3, hK3⟩ : ∃ K3, K3 = aSet K2 (120 + n) 0 0 := ⟨_, rfl⟩
  have k3c : ∀ a, a ≠ 120 + n → K3 a = K a := fun a ha => by rw [hK3, aSet_c ha, k2c a ha]
  have k3r : ∀ x, 0 ≤ x → x ≤ 60 → K3 (120 + n) x = if x = 0 then 0 else 1000000 := by
    intro x x0 x1
    rw [hK3, aSet_q]
    by_cases e : x = 0
    · rw [if_pos e, if_pos e]
    · rw [if_neg e, if_neg e, hK2, aFill_in (by omega) (by omega)]
  obtain ⟨M1, r, z⟩ := loop (n - 1) K3 (by omega) (by omega) (fun a ha => by rw [k3c a (by omega), kc a (by omega)]) (by rw [k3c 118 (by omega)]; exact k6) (by rw [k3c 118 (by omega)]; exact k7) (by rw [k3c 118 (by omega)]; exact k8) k3r (fun j j0 j1 => by omega) (fun j j0 j1 => by
    have : j = n := by omega
    subst this
    intro x x0 x1
    rw [k3r x x0 x1]
    split <;> omega)
  have s78 : aE 78 [aR (120 + n), aI 1000000] (SH L) K ([], SH L, K2) := by rw [hK2]; exact s_78 p1 p2 (by omega)
  have a119 := ar_119 (L := L) n14.1 (show n < 15 by omega)
  have k26 : K2 118 6 = T := by rw [k2c 118 (by omega)]; exact k6
  have k2T : K2 T 3 = n := by rw [k2c T (by omega)]; exact kT
  have k36 : K3 118 6 = T := by rw [k3c 118 (by omega)]; exact k6
  have k3T : K3 T 3 = n := by rw [k3c T (by omega)]; exact kT
  have r18 : aX xc_152 (aSeek xc_152 18) [aR 118, aR T, aR 31, aI (M 1 9), aI W, aU, aU, aU] [] (SH L) M ([], SH L, M1) := by
    apply bl_152_18
    rw [← hK, k6, kT, a119]
    refine ⟨⟨rfl, by omega⟩, (tx txT).1, by omega, K2, s78, ?_⟩
    rw [k26, k2T, a119, ← hK3, k36, k3T, p3, aWi (by omega) (by omega)]
    exact ⟨(tx txT).1, by omega, by omega, (tx txT).1, r⟩
  rw [← hT]
  by_cases c : M 118 7 = M 1 9
  · by_cases d : M 118 8 = W
    · have := hc c
      rw [d] at this
      exact ⟨M, en_152 ⟨fun q => absurd c q, fun _ => ⟨fun q => absurd d q, fun _ => rfl⟩⟩, fr_rf, c, d, this⟩
    · exact ⟨M1, en_152 ⟨fun q => absurd c q, fun _ => ⟨fun _ => r18, fun q => absurd d q⟩⟩, z⟩
  · exact ⟨M1, en_152 ⟨fun _ => r18, fun q => absurd c q⟩, z⟩
end GAP2
