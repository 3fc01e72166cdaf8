/-! lifting: the class -/
section LIFT
variable {L : Nat} {M M1 M2 : aM}
theorem drp_sp {tg t : Int} : (drp M tg t = 0 ∧ lfS M tg 40 t = true) ∨ ∃ q : Nat, q < 40 ∧ drp M tg t = (q : Int) + 1 ∧ lfS M tg q t = true ∧ lfS M tg (q + 1) t = false := by
  by_cases h : lfS M tg 40 t = true
  · exact Or.inl ⟨drp_0 h, h⟩
  · have key : ∀ k : Nat, k ≤ 40 → lfS M tg (40 - k) t = true → ∃ r : Nat, r < 40 ∧ lfS M tg r t = true ∧ lfS M tg (r + 1) t = false := by
      intro k
      induction k with
      | zero => intro _ hk; exact absurd hk h
      | succ k ih =>
        intro hk hh
        by_cases c : lfS M tg (40 - k) t = true
        · exact ih (by omega) c
        · refine ⟨40 - (k + 1), by omega, hh, ?_⟩
          rw [show 40 - (k + 1) + 1 = 40 - k by omega]
          simpa using c
    obtain ⟨r, r0, r1, r2⟩ := key 40 (Nat.le_refl _) rfl
    exact Or.inr ⟨r, r0, drp_is r0 r1 r2, r1, r2⟩
theorem drp_rng {tg t : Int} {r : Nat} (hr : r ≤ 40) (h : lfS M tg r t = false) : 1 ≤ drp M tg t ∧ drp M tg t ≤ r := by
  rcases drp_sp (M := M) (tg := tg) (t := t) with ⟨-, q⟩ | ⟨q, q0, q1, q2, q3⟩
  · rw [lfS_mono hr q] at h; cases h
  · rw [q1]
    refine ⟨by omega, ?_⟩
    by_cases c : r ≤ q
    · rw [lfS_mono c q2] at h; cases h
    · omega
theorem drp_eq {tg t : Int} {r : Nat} (hr : r < 40) : drp M tg t = (r : Int) + 1 ↔ lfS M tg r t = true ∧ lfS M tg (r + 1) t = false := by
  constructor
  · intro e
    rcases drp_sp (M := M) (tg := tg) (t := t) with ⟨q, -⟩ | ⟨q, q0, q1, q2, q3⟩
    · omega
    · have : q = r := by omega
      rw [← this]; exact ⟨q2, q3⟩
  · rintro ⟨a, b⟩; exact drp_is hr a b
theorem drp_stab (h : rP M) {tg : Int} {r : Nat} (hr : r ≤ 40) (hs : ∀ t, 0 ≤ t → t < M 31 0 → lfS M tg (r + 1) t = lfS M tg r t) {t : Int} (t0 : 0 ≤ t) (t1 : t < M 31 0) (hl : lfS M tg r t = true) : drp M tg t = 0 := by
  refine drp_0 ?_
  rw [lfS_st h hs 40 hr t t0 t1]
  exact hl
theorem rnd_is {tg : Int} {r : Nat} (hr : r < 40) : rndV M tg ((r : Int) + 1) = sumI (fun t => bi (lfS M tg r t && !lfS M tg (r + 1) t)) 0 (M 31 0) := by
  unfold rndV
  refine sumI_congr 0 (fun t t0 t1 => ?_)
  by_cases c : lfS M tg r t = true ∧ lfS M tg (r + 1) t = false
  · have e := (drp_eq hr).mpr c
    rw [bip (by omega), c.1, c.2]; rfl
  · have e : ¬ drp M tg t = (r : Int) + 1 := fun q => c ((drp_eq hr).mp q)
    rw [bin (by omega)]
    cases x : lfS M tg r t
    · rfl
    · cases y : lfS M tg (r + 1) t
      · exact absurd ⟨x, y⟩ c
      · rfl
theorem rnd_0 {tg : Int} {r : Nat} (hr : r ≤ 40) (hz : ∀ t, 0 ≤ t → t < M 31 0 → lfS M tg r t = true → drp M tg t = 0) : rndV M tg 0 = sumI (fun t => bi (!lfS M tg r t)) 0 (M 31 0) := by
  unfold rndV
  refine sumI_congr 0 (fun t t0 t1 => ?_)
  cases x : lfS M tg r t
  · have := drp_rng hr x
    rw [bip (by omega)]; rfl
  · rw [hz t t0 t1 x, bin (by omega)]; rfl
theorem rnd_far {tg k : Int} {r : Nat} (hr : r ≤ 40) (hk : (r : Int) < k) (hz : ∀ t, 0 ≤ t → t < M 31 0 → lfS M tg r t = true → drp M tg t = 0) : rndV M tg k = 0 := by
  unfold rndV
  refine sumI_0 0 (fun t t0 t1 => bin (fun q => ?_))
  cases x : lfS M tg r t
  · have := drp_rng hr x; omega
  · have := hz t t0 t1 x; omega
def lF (M M1 : aM) : Prop := (∀ a, a ≠ 64 → a ≠ 65 → a ≠ 66 → a ≠ 77 → M1 a = M a) ∧ ∀ j, j ≠ 0 → j ≠ 1 → j ≠ 12 → M1 64 j = M 64 j
theorem lF_rf : lF M M := ⟨fun _ _ _ _ _ => rfl, fun _ _ _ _ => rfl⟩
theorem lF_h (h : lF M M1) (h2 : hF M1 M2) : lF M M2 := ⟨fun a x y z w => (h2.1 a x w).trans (h.1 a x y z w), fun j x y z => (h2.2 j x y).trans (h.2 j x y z)⟩
theorem lF_set {r i v : Int} (h : lF M M1) (hr : r = 65 ∨ r = 66) : lF M (aSet M1 r i v) := ⟨fun a x y z w => (aSet_c (by omega)).trans (h.1 a x y z w), fun j x y z => (aSet_r (by omega)).trans (h.2 j x y z)⟩
theorem lF_ke (h : lF M M1) : ke M M1 := fun a ha => h.1 a (by omega) (by omega) (by omega) (by omega)
theorem lF_fr (h : lF M M1) : fr 64 83 M M1 := fun a ha => h.1 a (by omega) (by omega) (by omega) (by omega)
theorem lF_lk (hk : lkd M) (h : lF M M1) : lkd M1 := lkd_cg hk (by rw [h.1 1 (by omega) (by omega) (by omega) (by omega)]) (fun a x y => h.1 a (by omega) (by omega) (by omega) (by omega)) (fun a x y => h.1 a (by omega) (by omega) (by omega) (by omega)) (h.2 4 (by omega) (by omega) (by omega)) (h.2 5 (by omega) (by omega) (by omega)) (h.2 8 (by omega) (by omega) (by omega))
theorem aCmp_0 {x : Int} : aCmp x 0 = 0 ↔ x = 0 := by unfold aCmp; repeat' split; all_goals omega
theorem pop_n (h : rP M) {z : Int} {f : Int → Bool} (hz : ∀ t, 0 ≤ t → t < 64 → lb z t = (decide (t < M 31 0) && f t)) : sumI (fun i => bi (lb z i)) 0 64 = sumI (fun t => bi (f t)) 0 (M 31 0) := by
  have n := rP_n h
  rw [sumI_cut (m := M 31 0) (by omega) 0 n.1, sumI_0 (M 31 0) (fun t t0 t1 => by rw [hz t (by omega) t1, decide_eq_false (by omega)]; rfl), Int.add_zero]
  exact sumI_congr 0 (fun t t0 t1 => by rw [hz t t0 (by omega), decide_eq_true t1, Bool.true_and])
/-- the state of a lift behind r rounds -/
def lvI (M M1 : aM) (r : Nat) : Prop := lF M M1 ∧ M1 64 12 = 1 ∧ (∀ t, 0 ≤ t → t < M 31 0 → M1 65 t = if lfS M (M 31 8) r t = true then 0 else drp M (M 31 8) t) ∧
  (∀ k, 1 ≤ k → k ≤ 40 → M1 66 k = if k ≤ r then rndV M (M 31 8) k else 0) ∧ M1 66 0 = sumI (fun t => bi (!lfS M (M 31 8) r t)) 0 (M 31 0)
theorem lv_end (h : rP M) (hk : lok M) {r : Nat} (hr : r ≤ 40) (hi : lvI M M1 r) (hz : ∀ t, 0 ≤ t → t < M 31 0 → lfS M (M 31 8) r t = true → drp M (M 31 8) t = 0) : fr 64 83 M M1 ∧ lok M1 ∧ M1 64 12 = 1 := by
  obtain ⟨f, e12, v1, v2, v3⟩ := hi
  have kk := lF_ke f
  have c : ∀ a, a ≠ 64 → a ≠ 65 → a ≠ 66 → a ≠ 77 → M1 a = M a := f.1
  refine ⟨lF_fr f, ⟨lF_lk hk.1 f, ?_, ?_, Or.inr ⟨e12, fun t t0 t1 => ?_, fun k k0 k1 => ?_⟩, kpR_cg h kk hk.2.2.2.2 (c 83 (by omega) (by omega) (by omega) (by omega))⟩, e12⟩
  · rw [f.2 13 (by omega) (by omega) (by omega), kk 1 (by omega)]; exact hk.2.1
  · rw [f.2 14 (by omega) (by omega) (by omega), kk 1 (by omega)]; exact hk.2.2.1
  · rw [kk 31 (by omega)] at t1 ⊢
    rw [drp_ke h kk, v1 t t0 t1]
    by_cases x : lfS M (M 31 8) r t = true
    · rw [if_pos x, hz t t0 t1 x]
    · rw [if_neg x]
  · rw [kk 31 (by omega), rndV_ke h kk]
    by_cases x : k = 0
    · rw [x, v3, rnd_0 hr hz]
    · rw [v2 k (by omega) k1]
      by_cases y : k ≤ r
      · rw [if_pos y]
      · rw [if_neg y, rnd_far hr (by omega) hz]
theorem s_101 (h : rP M) (hk : lok M) : ∃ M1, aE 101 [aR 64] (SH L) M ([], SH L, M1) ∧ fr 64 83 M M1 ∧ lok M1 ∧ M1 64 12 = 1 := by
  have n := rP_n h
  by_cases c12 : M 64 12 = 0
  · have h5 := hk.1.2.1
    -- one round's falling ones
    have inner : ∀ (r : Nat) (ly fa : Int), r < 40 → (∀ t, 0 ≤ t → t < 64 → lb fa t = (decide (t < M 31 0) && (lfS M (M 31 8) r t && !lfS M (M 31 8) (r + 1) t))) → ∀ t, ∀ M' : aM, 0 ≤ t → t ≤ M 31 0 → lF M M' → M' 64 12 = 1 →
        (∀ k, 0 ≤ k → k < M 31 0 → M' 65 k = if lfS M (M 31 8) (if k < t then r + 1 else r) k = true then 0 else drp M (M 31 8) k) → (∀ k, 1 ≤ k → k ≤ 40 → M' 66 k = if k ≤ r then rndV M (M 31 8) k else 0) → M' 66 0 = sumI (fun t => bi (!lfS M (M 31 8) r t)) 0 (M 31 0) →
        ∃ M2, lvI M M2 (r + 1) ∧ ∀ o, (¬ fa = 0 → aX xc_101 (aSeek xc_101 39) [aR 64, aJ (aLand ly (aLxor fa (-1))), aU, aI ((r : Int) + 2), aU, aU, aU] [] (SH L) M2 o) → (fa = 0 → o = ([], SH L, M2)) → aX xc_101 (aSeek xc_101 74) [aR 64, aJ ly, aU, aI ((r : Int) + 1), aJ fa, aU, aI t] [] (SH L) M' o := by
      intro r ly fa hr hfa
      have hp : sumI (fun i => bi (lb fa i)) 0 64 = rndV M (M 31 8) ((r : Int) + 1) := by rw [rnd_is hr]; exact pop_n h hfa
      have hq : sumI (fun t => bi (!lfS M (M 31 8) (r + 1) t)) 0 (M 31 0) = sumI (fun t => bi (!lfS M (M 31 8) r t)) 0 (M 31 0) + rndV M (M 31 8) ((r : Int) + 1) := by
        rw [rnd_is hr, ← sumI_add]
        refine sumI_congr 0 (fun t t0 t1 => ?_)
        cases x : lfS M (M 31 8) r t
        · cases y : lfS M (M 31 8) (r + 1) t
          · rfl
          · rw [lfS_le y] at x; cases x
        · cases y : lfS M (M 31 8) (r + 1) t <;> rfl
      have b1 := cnt_le (f := fun t => !lfS M (M 31 8) r t) (n := M 31 0) n.1
      have b2 := cnt_le (f := fun t => lfS M (M 31 8) r t && !lfS M (M 31 8) (r + 1) t) (n := M 31 0) n.1
      rw [← rnd_is hr] at b2
      refine upto (M 31 0) (fun t ht M' t0 t1 f e12 v1 v2 v3 => ?_) (fun t ht ih M' t0 t1 f e12 v1 v2 v3 => ?_)
      · have e5 : M' 64 5 = 31 := by rw [f.2 5 (by omega) (by omega) (by omega), h5]
        have e31 : M' 31 = M 31 := lF_ke f 31 (by omega)
        refine ⟨aSet (aSet M' 66 ((r : Int) + 1) (rndV M (M 31 8) ((r : Int) + 1))) 66 0 (sumI (fun t => bi (!lfS M (M 31 8) (r + 1) t)) 0 (M 31 0)), ⟨lF_set (lF_set f (Or.inr rfl)) (Or.inr rfl), ?_, fun k k0 k1 => ?_, fun k k0 k1 => ?_, aSet_e⟩, fun o o1 o2 => bl_101_74 ?_⟩
        · rw [aSet_r (by omega), aSet_r (by omega), e12]
        · rw [aSet_r (by omega), aSet_r (by omega), v1 k k0 k1, if_pos (show k < t by omega)]
        · rw [aSet_i (by omega), aSet_q]
          by_cases x : k = (r : Int) + 1
          · rw [if_pos x, if_pos (by omega), x]
          · rw [if_neg x, v2 k k0 k1]
            by_cases y : k ≤ r
            · rw [if_pos y, if_pos (by omega)]
            · rw [if_neg y, if_neg (by omega)]
        · rw [e5, e31]
          refine ⟨rfl, fun _ => ⟨M', _, s_86, ?_⟩, fun q => absurd ht q⟩
          simp only [ln0, ln1, ln2, ln3, ln4]
          rw [hp, aSet_i (show (0 : Int) ≠ (r : Int) + 1 by omega), aSet_e, v3, ← hq, aWi (z := (r : Int) + 1 + 1) (by omega) (by omega), show (r : Int) + 1 + 1 = (r : Int) + 2 by omega, aWi (by omega) (by omega)]
          exact ⟨by omega, by omega, fun q => o1 (fun e => q (aCmp_0.mpr e)), fun q => o2 (aCmp_0.mp (Classical.not_not.mp q))⟩
      · have e5 : M' 64 5 = 31 := by rw [f.2 5 (by omega) (by omega) (by omega), h5]
        have e31 : M' 31 = M 31 := lF_ke f 31 (by omega)
        have hft := hfa t t0 (by omega)
        rw [decide_eq_true ht, Bool.true_and] at hft
        have nx : ∀ M3 o, aX xc_101 (aSeek xc_101 74) [aR 64, aJ ly, aU, aI ((r : Int) + 1), aJ fa, aU, aI (t + 1)] [] (SH L) M3 o → aX xc_101 (aSeek xc_101 105) [aR 64, aJ ly, aU, aI ((r : Int) + 1), aJ fa, aU, aI t] [] (SH L) M3 o := by
          intro M3 o q
          apply bl_101_105
          rw [aWi (by omega) (by omega)]
          exact q
        by_cases cf : lb fa t = true
        · have cf2 := cf
          rw [hft, Bool.and_eq_true, Bool.not_eq_true'] at cf2
          obtain ⟨M2, i2, r2⟩ := ih (aSet M' 65 t ((r : Int) + 1)) (by omega) (by omega) (lF_set f (Or.inl rfl)) (by rw [aSet_r (by omega), e12]) (fun k k0 k1 => by
            rw [aSet_q]
            by_cases x : k = t
            · rw [if_pos x, x, if_pos (show t < t + 1 by omega), cf2.2, if_neg (by decide), (drp_eq hr).mpr cf2]
            · rw [if_neg x, v1 k k0 k1]
              by_cases y : k < t
              · rw [if_pos y, if_pos (show k < t + 1 by omega)]
              · rw [if_neg y, if_neg (show ¬ k < t + 1 by omega)]) (fun k k0 k1 => by rw [aSet_r (by omega)]; exact v2 k k0 k1) (by rw [aSet_r (by omega)]; exact v3)
          refine ⟨M2, i2, fun o o1 o2 => bl_101_74 ?_⟩
          rw [e5, e31]
          refine ⟨rfl, fun q => absurd ht (by omega), fun _ => ⟨M', _, s_84 t0 (by omega), fun q => absurd (bi_1.mpr cf) q, fun _ => ?_⟩⟩
          simp only [ln0, ln1, ln2, ln3, ln4]
          exact ⟨by omega, nx _ o (r2 o o1 o2)⟩
        · obtain ⟨M2, i2, r2⟩ := ih M' (by omega) (by omega) f e12 (fun k k0 k1 => by
            rw [v1 k k0 k1]
            by_cases x : k = t
            · subst x
              rw [if_neg (show ¬ k < k by omega), if_pos (show k < k + 1 by omega)]
              have : lfS M (M 31 8) (r + 1) k = lfS M (M 31 8) r k := by
                rw [hft] at cf
                cases x : lfS M (M 31 8) r k
                · cases y : lfS M (M 31 8) (r + 1) k
                  · rfl
                  · rw [lfS_le y] at x; cases x
                · cases y : lfS M (M 31 8) (r + 1) k
                  · rw [x, y] at cf; exact absurd rfl cf
                  · rfl
              rw [this]
            · by_cases y : k < t
              · rw [if_pos y, if_pos (show k < t + 1 by omega)]
              · rw [if_neg y, if_neg (show ¬ k < t + 1 by omega)]) v2 v3
          refine ⟨M2, i2, fun o o1 o2 => bl_101_74 ?_⟩
          rw [e5, e31]
          exact ⟨rfl, fun q => absurd ht (by omega), fun _ => ⟨M', _, s_84 t0 (by omega), fun q => nx _ o (r2 o o1 o2), fun q => absurd (bi_1.mp (Classical.not_not.mp q)) cf⟩⟩
    have outer : ∀ k : Nat, ∀ (r : Nat) (ly : Int) (M' : aM), k + r = 40 → lvI M M' r → cnL M (M 31 8) r + r ≤ 40 → (∀ t, 0 ≤ t → t < 64 → lb ly t = (decide (t < M 31 0) && lfS M (M 31 8) r t)) →
        ∃ M1, aX xc_101 (aSeek xc_101 39) [aR 64, aJ ly, aU, aI ((r : Int) + 1), aU, aU, aU] [] (SH L) M' ([], SH L, M1) ∧ fr 64 83 M M1 ∧ lok M1 ∧ M1 64 12 = 1 := by
      intro k
      induction k with
      | zero =>
        intro r ly M' hkr hi hc hl
        have e : r = 40 := by omega
        subst e
        have z := cnL_0 (M := M) (tg := M 31 8) (r := 40) (by omega)
        exact ⟨M', bl_101_39 ⟨fun _ => rfl, fun q => absurd (by omega) q⟩, lv_end h hk (by omega) hi (fun t t0 t1 ht => by rw [z t t0 t1] at ht; cases ht)⟩
      | succ k ih =>
        intro r ly M' hkr hi hc hl
        by_cases c0 : ly = 0
        · have z : ∀ t, 0 ≤ t → t < M 31 0 → lfS M (M 31 8) r t = false := by
            intro t t0 t1
            have := hl t t0 (by omega)
            rw [c0, lb_0, decide_eq_true t1, Bool.true_and] at this
            exact this.symm
          exact ⟨M', bl_101_39 ⟨fun _ => rfl, fun _ => ⟨fun _ => rfl, fun q => absurd (aCmp_0.mpr c0) q⟩⟩, lv_end h hk (by omega) hi (fun t t0 t1 ht => by rw [z t t0 t1] at ht; cases ht)⟩
        · obtain ⟨f, e12, v1, v2, v3⟩ := hi
          have kk := lF_ke f
          have hP' := ke_rP h kk
          have hk' := lF_lk hk.1 f
          have e31 : M' 31 = M 31 := kk 31 (by omega)
          have e5 : M' 64 5 = 31 := by rw [f.2 5 (by omega) (by omega) (by omega), h5]
          obtain ⟨y, M3, r3, f3, x3, b3, -⟩ := s_98 (L := L) hP' hk' (lz := ly) (tg := M 31 8) (ly := lfS M (M 31 8) r) (fun t t0 t1 => by
            rw [e31] at t1
            rw [hl t t0 (by omega), decide_eq_true t1, Bool.true_and])
          have hfa : ∀ t, 0 ≤ t → t < 64 → lb (aLand ly (aLxor y (-1))) t = (decide (t < M 31 0) && (lfS M (M 31 8) r t && !lfS M (M 31 8) (r + 1) t)) := by
            intro t t0 t1
            rw [lb_and, lb_not t1, hl t t0 t1, b3 t t0 t1, e31, hld_ke h kk]
            show _ = (decide (t < M 31 0) && (lfS M (M 31 8) r t && !hld M (lfS M (M 31 8) r) (M 31 8) t))
            cases decide (t < M 31 0)
            · rfl
            · simp
          obtain ⟨M2, i2, r2⟩ := inner r ly (aLand ly (aLxor y (-1))) (by omega) hfa 0 M3 (by omega) n.1 (lF_h f f3) (by rw [f3.2 12 (by omega) (by omega), e12]) (fun k k0 k1 => by
            rw [if_neg (show ¬ k < 0 by omega), f3.1 65 (by omega) (by omega)]
            exact v1 k k0 k1) (fun k k0 k1 => by rw [f3.1 66 (by omega) (by omega)]; exact v2 k k0 k1) (by rw [f3.1 66 (by omega) (by omega)]; exact v3)
          have st : ∀ o, aX xc_101 (aSeek xc_101 74) [aR 64, aJ ly, aU, aI ((r : Int) + 1), aJ (aLand ly (aLxor y (-1))), aU, aI 0] [] (SH L) M3 o → aX xc_101 (aSeek xc_101 39) [aR 64, aJ ly, aU, aI ((r : Int) + 1), aU, aU, aU] [] (SH L) M' o := by
            intro o q
            refine bl_101_39 ⟨fun q => absurd q (by omega), fun _ => ⟨fun q => absurd (aCmp_0.mp q) c0, fun _ => ?_⟩⟩
            rw [e5, e31]
            exact ⟨rfl, M3, y, r3, q⟩
          by_cases cf : aLand ly (aLxor y (-1)) = 0
          · have stab : ∀ t, 0 ≤ t → t < M 31 0 → lfS M (M 31 8) (r + 1) t = lfS M (M 31 8) r t := by
              intro t t0 t1
              have := hfa t t0 (by omega)
              rw [cf, lb_0, decide_eq_true t1, Bool.true_and] at this
              cases x : lfS M (M 31 8) r t
              · cases y : lfS M (M 31 8) (r + 1) t
                · rfl
                · rw [lfS_le y] at x; cases x
              · cases y : lfS M (M 31 8) (r + 1) t
                · rw [x, y] at this; cases this
                · rfl
            refine ⟨M2, st _ (r2 _ (fun q => absurd cf q) (fun _ => rfl)), lv_end h hk (by omega) i2 (fun t t0 t1 ht => ?_)⟩
            exact drp_stab h (by omega) stab t0 t1 (lfS_le ht)
          · have ex : ∃ t, 0 ≤ t ∧ t < M 31 0 ∧ lfS M (M 31 8) r t = true ∧ lfS M (M 31 8) (r + 1) t = false := by
              refine Classical.byContradiction fun q => cf ?_
              refine lb_ext xL_and ⟨by omega, by omega⟩ (fun t t0 t1 => ?_)
              rw [lb_0, hfa t t0 t1]
              by_cases x : t < M 31 0
              · rw [decide_eq_true x, Bool.true_and]
                cases y : lfS M (M 31 8) r t
                · rfl
                · cases z : lfS M (M 31 8) (r + 1) t
                  · exact absurd ⟨t, t0, x, y, z⟩ q
                  · rfl
              · rw [decide_eq_false x]; rfl
            obtain ⟨t, t0, t1, t2, t3⟩ := ex
            have lt := cnL_lt t0 t1 t2 t3
            obtain ⟨M1, rr, x⟩ := ih (r + 1) (aLand ly (aLxor (aLand ly (aLxor y (-1))) (-1))) M2 (by omega) i2 (by omega) (fun t t0 t1 => by
              rw [lb_and, lb_not t1, hl t t0 t1, hfa t t0 t1]
              cases decide (t < M 31 0)
              · rfl
              · cases x : lfS M (M 31 8) r t
                · cases y : lfS M (M 31 8) (r + 1) t
                  · rfl
                  · rw [lfS_le y] at x; cases x
                · cases y : lfS M (M 31 8) (r + 1) t <;> rfl)
            refine ⟨M1, st _ (r2 _ (fun _ => ?_) (fun q => absurd q cf)), x⟩
            rw [show (((r + 1 : Nat) : Int) + 1) = (r : Int) + 2 by omega] at rr
            exact rr
    have g0 : lF M (aFill (aFill (aSet M 64 12 1) 65 40 0) 66 41 0) := ⟨fun a x y z w => (aFill_c z).trans ((aFill_c y).trans (aSet_c x)), fun j x y z => by rw [aFill_c (by omega), aFill_c (by omega), aSet_i z]⟩
    have e31 : aFill (aFill (aSet M 64 12 1) 65 40 0) 66 41 0 31 = M 31 := lF_ke g0 31 (by omega)
    obtain ⟨M1, r1, x⟩ := outer 40 0 (aWL (aLsl 1 (M 31 0) - 1)) (aFill (aFill (aSet M 64 12 1) 65 40 0) 66 41 0) (by omega) ⟨g0, by rw [aFill_c (by omega), aFill_c (by omega), aSet_e], fun t t0 t1 => by
        rw [aFill_c (by omega), aFill_in t0 (by omega)]
        exact (if_pos rfl).symm, fun k k0 k1 => by
        rw [aFill_in (by omega) (by omega), if_neg (by omega)], by
        rw [aFill_in (by omega) (by omega)]
        exact (sumI_0 0 (fun t t0 t1 => rfl)).symm⟩ (by have := cnL_n h (tg := M 31 8); omega) (fun t t0 t1 => by
        rw [lb_all n.1 (by omega) t0 t1]
        show _ = (decide (t < M 31 0) && true)
        rw [Bool.and_true])
    refine ⟨M1, en_101 ⟨fun _ => ⟨_, s_78 (n := 40) rfl rfl (by omega), _, s_78 (n := 41) rfl rfl (by omega), ?_⟩, fun q => absurd c12 q⟩, x⟩
    rw [g0.2 5 (by omega) (by omega) (by omega), h5]
    refine ⟨rfl, _, _, s_81 bd31, ?_⟩
    rw [e31]
    exact r1
  · refine ⟨M, en_101 ⟨fun q => absurd q c12, fun _ => rfl⟩, fr_rf, hk, ?_⟩
    rcases hk.2.2.2.1 with q | q
    · exact absurd q c12
    · exact q.1
end LIFT
