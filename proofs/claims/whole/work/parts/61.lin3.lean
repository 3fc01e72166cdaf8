/-! the class's table of lines -/
section LIN3
variable {L : Nat} {M M1 M2 : aM}
/-- what is left of a kind that can lie -/
def lfT (M : aM) (k : Int) : Int := if 0 ≤ k ∧ k < M (M 1 3) 3 ∧ ¬ M (M 1 3 + 2) k = 0 then M (M 1 3 + 5) k - cntK M 31 k else 0
theorem lfT_cg (h : rP M) (h0 : ∀ a, 9 ≤ a ∧ a ≤ 63 → M1 a = M a) (h1 : M1 1 3 = M 1 3) {k : Int} : lfT M1 k = lfT M k := by
  have tl := tx_le (rP_tx h)
  unfold lfT cntK
  rw [h1, h0 (M 1 3) (by omega), h0 (M 1 3 + 2) (by omega), h0 (M 1 3 + 5) (by omega), h0 31 (by omega), h0 (31 + 1) (by omega)]
theorem lfT_bd (h : rP M) {k : Int} : 0 ≤ lfT M k ∧ lfT M k ≤ 99 := by
  unfold lfT
  split
  · rename_i c
    have a := h.2.2.2 k c.1 c.2.1
    have b := h.1.1.2.2.2.2.2 k c.1 c.2.1
    have d := ck_le (k := k) h.2.1.1
    omega
  · omega
/-- the row of cell r: its values are those of the kinds from k on -/
def lnR (M : aM) : Prop := M 99 7 = M 1 3 ∧ (∀ x, 0 ≤ x → x ≤ 240 → M (101 + M (M 1 3) 3) x = if x = 0 then 0 else 1000000) ∧
  ∀ k, 0 ≤ k → k < M (M 1 3) 3 → M 117 k = lfT M k ∧ ∀ x, 0 ≤ x → x ≤ 240 → M (101 + k) x = gLn (M (102 + k)) (M (M 1 3 + 3) k) (M (M 1 3 + 4) k) (lfT M k).toNat x
theorem rwB_cg {F G : Int → Int} (h : rwB F) (e : ∀ x, 0 ≤ x → x ≤ 240 → G x = F x) : rwB G := fun x x0 x1 => by rw [e x x0 x1]; exact h x x0 x1
theorem lnR_bd (h : rP M) (hl : lnR M) : ∀ k, 0 ≤ k → k ≤ M (M 1 3) 3 → rwB (M (101 + k)) := by
  refine upto (M (M 1 3) 3) (fun k hk k0 k1 => ?_) (fun k hk ih k0 k1 => ?_)
  · have e : k = M (M 1 3) 3 := by omega
    rw [e]
    intro x x0 x1
    rw [hl.2.1 x x0 x1]
    split <;> omega
  · have a := ih (by omega) (by omega)
    rw [show 101 + (k + 1) = 102 + k by omega] at a
    have b := h.1.1.2.2.2.2.2 k k0 hk
    exact rwB_cg (gLn_bd a b.2.1.1 b.2.2.1.1 _) (hl.2.2 k k0 hk).2
theorem s_142 (h : rP M) (hc : M 99 8 = M 1 9 → lnR M) : ∃ M1, aE 142 [aR 99, aR (M 1 3), aR 31, aI (M 1 9)] (SH L) M ([], SH L, M1) ∧ fr 99 117 M M1 ∧ M1 99 8 = M 1 9 ∧ lnR M1 := by
  by_cases c : M 99 8 = M 1 9
  · exact ⟨M, en_142 ⟨fun q => absurd c q, fun _ => rfl⟩, fr_rf, c, hc c⟩
  · have tx0 := rP_tx h
    have tl := tx_le tx0
    obtain ⟨T, hT⟩ : ∃ T, T = M 1 3 := ⟨_, rfl⟩
    obtain ⟨n, hn⟩ : ∃ n, n = M T 3 := ⟨_, rfl⟩
    have n14 : 0 ≤ n ∧ n ≤ 14 := by rw [hn, hT]; exact h.1.1.2.2.2.2.1
    have fA : ∀ {K : aM}, fr 99 117 M K → rP K ∧ K 1 3 = T ∧ K T = M T ∧ ∀ k, lfT K k = lfT M k := by
      intro K f
      have e1 : K 1 3 = M 1 3 := by rw [f 1 (by omega)]
      refine ⟨rP_fr h f (by omega) (by omega), by rw [e1, hT], f T (by omega), fun k => lfT_cg h (fun a ha => f a (by omega)) e1⟩
    have loop : ∀ k : Int, ∀ M' : aM, -1 ≤ k → k < n → fr 99 117 M M' → M' 99 7 = T → M' 99 8 = M 1 9 → (∀ x, 0 ≤ x → x ≤ 240 → M' (101 + n) x = if x = 0 then 0 else 1000000) → (∀ j, k < j → j < n → M' 117 j = lfT M j ∧ ∀ x, 0 ≤ x → x ≤ 240 → M' (101 + j) x = gLn (M' (102 + j)) (M (T + 3) j) (M (T + 4) j) (lfT M j).toNat x) → (∀ j, k < j → j ≤ n → rwB (M' (101 + j))) →
        ∃ M1, aX xc_142 (aSeek xc_142 62) [aR 99, aU, aR 31, aU, aI k] [] (SH L) M' ([], SH L, M1) ∧ fr 99 117 M M1 ∧ M1 99 8 = M 1 9 ∧ lnR M1 := by
      refine downto (-1) (fun k hk M' k0 k1 f e7 e8 bs rw_ bd => ?_) (fun k hk ih M' k0 k1 f e7 e8 bs rw_ bd => ?_)
      · obtain ⟨-, g1, g2, g3⟩ := fA f
        refine ⟨M', bl_142_62 ⟨fun _ => rfl, fun q => absurd (by omega) q⟩, f, e8, ?_⟩
        unfold lnR
        rw [g1, g2, ← hn]
        refine ⟨e7, bs, fun j j0 j1 => ?_⟩
        have := rw_ j (by omega) j1
        rw [g3, f (T + 3) (by omega), f (T + 4) (by omega)]
        exact this
      · obtain ⟨g0, g1, g2, g3⟩ := fA f
        have l0 := lfT_bd h (k := k)
        have tO : tOk M' T := by have := g0.1.1; rw [g1] at this; exact this
        have bO := g0.2.1.1
        have n3 : M' T 3 = n := by rw [g2, hn]

        obtain ⟨K, hK⟩ : ∃ K, K = aSet M' 117 k (lfT M k) := ⟨_, rfl⟩
        have fK : fr 99 117 M K := by rw [hK]; exact fr_set f (by omega)
        obtain ⟨kg0, kg1, kg2, kg3⟩ := fA fK
        have tK : tOk K T := by have := kg0.1.1; rw [kg1] at this; exact this
        have kr : ∀ a, a ≠ 117 → K a = M' a := fun a ha => by rw [hK, aSet_c ha]
        have b102 : rwB (K (102 + k)) := by
          have := bd (k + 1) (by omega) (by omega)
          rw [show 101 + (k + 1) = 102 + k by omega] at this
          rw [kr (102 + k) (by omega)]; exact this
        have k117 : K 117 k = lfT M k := by rw [hK, aSet_e]
        obtain ⟨M2, r2, f2, v2⟩ := s_141 (L := L) (k := k) tK (by rw [kr 99 (by omega)]; exact e7) (by omega) (by rw [kg2, ← hn]; exact k1) b102 (by rw [k117]; exact l0)
        rw [k117, kg0.1.1.1 |> fun _ => kr (102 + k) (by omega), fK (T + 3) (by omega), fK (T + 4) (by omega)] at v2
        have fM2 : ∀ a, a ≠ 117 → a ≠ 101 + k → a ≠ 116 → M2 a = M' a := fun a a1 a2 a3 => by rw [f2 a a2 a3, kr a a1]
        have m117 : ∀ j, M2 117 j = K 117 j := fun j => by rw [f2 117 (by omega) (by omega)]
        have bdk := h.1.1.2.2.2.2.2 k (by omega) (by rw [← hT, ← hn]; exact k1)
        rw [← hT] at bdk
        obtain ⟨M1, r1, z⟩ := ih M2 (by omega) (by omega) (fun a ha => by rw [f2 a (by omega) (by omega)]; exact fK a ha) (by rw [fM2 99 (by omega) (by omega) (by omega)]; exact e7) (by rw [fM2 99 (by omega) (by omega) (by omega)]; exact e8) (fun x x0 x1 => by rw [fM2 (101 + n) (by omega) (by omega) (by omega)]; exact bs x x0 x1) (fun j j0 j1 => by
            by_cases e : j = k
            · subst e
              refine ⟨by rw [m117]; exact k117, fun x x0 x1 => ?_⟩
              rw [v2 x x0 x1, fM2 (102 + j) (by omega) (by omega) (by omega)]
            · obtain ⟨y1, y2⟩ := rw_ j (by omega) j1
              refine ⟨by rw [m117, hK, aSet_i e]; exact y1, fun x x0 x1 => ?_⟩
              rw [fM2 (101 + j) (by omega) (by omega) (by omega), fM2 (102 + j) (by omega) (by omega) (by omega)]
              exact y2 x x0 x1) (fun j j0 j1 => by
            by_cases e : j = k
            · subst e
              have b2 := b102
              rw [kr (102 + j) (by omega)] at b2
              exact rwB_cg (gLn_bd b2 bdk.2.1.1 bdk.2.2.1.1 _) v2
            · rw [fM2 (101 + j) (by omega) (by omega) (by omega)]
              exact bd j (by omega) j1)
        have r99 : aX xc_142 (aSeek xc_142 99) [aR 99, aU, aR 31, aU, aI k] [aI (lfT M k), aI k, aR 117] (SH L) M' ([], SH L, M1) := by
          refine bl_142_99 ⟨by rw [show aLn (SH L) 1 117 = 14 from rfl]; omega, M2, by rw [← hK]; exact r2, ?_⟩
          rw [aWi (by omega) (by omega)]
          exact r1
        have lv : lfT M k = if 0 ≤ k ∧ k < M' T 3 ∧ ¬ M' (T + 2) k = 0 then M' (T + 5) k - cntK M' 31 k else 0 := by
          rw [← g3 k]; unfold lfT; rw [g1]
        have e139 : aE 139 [aR T, aI k] (SH L) M' ([aI (bi (decide (0 ≤ k ∧ k < M' T 3 ∧ ¬ M' (T + 2) k = 0)))], SH L, M') := s_139 tO.1 (by omega)
        have e60 : aE 60 [aR 31, aR T, aI k] (SH L) M' ([aI (if 0 ≤ k ∧ k < M' T 3 then M' (T + 5) k - cntK M' 31 k else 0)], SH L, M') := s_60 bO tO
        refine ⟨M1, bl_142_62 ⟨fun q => absurd q (by omega), fun _ => ?_⟩, z⟩
        rw [e7]
        refine ⟨(tx tO.1).1, M', _, e139, fun q => ?_, fun q => ?_⟩
        · rw [if_neg (bid0.mp q)] at lv
          rw [← lv]; exact r99
        · have q1 : 0 ≤ k ∧ k < M' T 3 ∧ ¬ M' (T + 2) k = 0 := Classical.byContradiction (fun z => q (bid0.mpr z))
          rw [if_pos q1] at lv
          rw [if_pos ⟨q1.1, q1.2.1⟩, ← lv] at e60
          rw [e7]
          exact ⟨rfl, M', _, e60, r99⟩
    obtain ⟨K, hK⟩ : ∃ K, K = aSet (aSet M 99 8 (M 1 9)) 99 7 T := ⟨_, rfl⟩
    have k7 : K 99 7 = T := by rw [hK, aSet_e]
    have kT : K T 3 = n := by rw [hK, aSet_c (by omega), aSet_c (by omega), hn]
    obtain ⟨p1, p2, p3⟩ := p_100 (L := L) (k := n) n14.1 (by omega)
    obtain ⟨K2, hK2⟩ : ∃ K2, K2 = aFill K (101 + n) 241 1000000 := ⟨_, rfl⟩
    have k2c : ∀ a, a ≠ 101 + n → K2 a = K a := fun a ha => by rw [hK2, aFill_c ha]
    obtain ⟨K3, hK3⟩ : ∃ K3, K3 = aSet K2 (101 + n) 0 0 := ⟨_, rfl⟩
    have k3c : ∀ a, a ≠ 101 + n → K3 a = K a := fun a ha => by rw [hK3, aSet_c ha, k2c a ha]
    have k3r : ∀ x, 0 ≤ x → x ≤ 240 → K3 (101 + n) x = if x = 0 then 0 else 1000000 := by
      intro x x0 x1
      rw [hK3, aSet_q]
      by_cases e : x = 0
      · rw [if_pos e, if_pos e]
      · rw [if_neg e, if_neg e, hK2, aFill_in (by omega) (by omega)]
    obtain ⟨M1, r, z⟩ := loop (n - 1) K3 (by omega) (by omega) (fun a ha => by rw [k3c a (by omega), hK, aSet_c (by omega), aSet_c (by omega)]) (by rw [k3c 99 (by omega)]; exact k7) (by rw [k3c 99 (by omega), hK, aSet_i (by omega), aSet_e]) k3r (fun j j0 j1 => by omega) (fun j j0 j1 => by
      have : j = n := by omega
      subst this
      intro x x0 x1
      rw [k3r x x0 x1]
      split <;> omega)
    have s78 : aE 78 [aR (101 + n), aI 1000000] (SH L) K ([], SH L, K2) := by rw [hK2]; exact s_78 p1 p2 (by omega)
    have a100 := ar_100 (L := L) n14.1 (show n < 15 by omega)
    have k27 : K2 99 7 = T := by rw [k2c 99 (by omega)]; exact k7
    have k2T : K2 T 3 = n := by rw [k2c T (by omega)]; exact kT
    have k37 : K3 99 7 = T := by rw [k3c 99 (by omega)]; exact k7
    have k3T : K3 T 3 = n := by rw [k3c T (by omega)]; exact kT
    refine ⟨M1, en_142 ⟨fun _ => ?_, fun q => absurd c q⟩, z⟩
    rw [← hT, ← hK, k7, kT, a100]
    refine ⟨⟨rfl, by omega⟩, (tx (hT ▸ tx0)).1, by rw [show aLn (SH L) 6 100 = 15 from rfl]; omega, K2, s78, ?_⟩
    rw [k27, k2T, a100, ← hK3, k37, k3T, p3, aWi (by omega) (by omega)]
    exact ⟨(tx (hT ▸ tx0)).1, by rw [show aLn (SH L) 6 100 = 15 from rfl]; omega, by omega, (tx (hT ▸ tx0)).1, r⟩
end LIN3
