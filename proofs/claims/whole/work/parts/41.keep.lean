/-! what Pushes remembers; lifting; keeping: values, and the class -/
section KEEP
variable {L : Nat} {M M1 M2 : aM}
/-- there is such a set -/
theorem ex_EQ (h : rP M) {s p tg : Int} {ly : Int → Bool} (hs : 0 ≤ s ∧ s < 4) : ∃ F, EQ M ly (frB M s (wB M p tg s)) s F := by
  obtain ⟨M', hsc, h193, h61⟩ : ∃ M' : aM, sc M M' ∧ (∀ b, M' 193 b = bi (ly b)) ∧ M' 145 61 = tg := by
    refine ⟨fun a b => if a = 193 then bi (ly b) else if a = 145 ∧ b = 61 then tg else M a b, ⟨fun a x y z => funext fun b => ?_, fun j hj => ?_⟩, fun b => if_pos rfl, ?_⟩
    · show (if a = 193 then bi (ly b) else if a = 145 ∧ b = 61 then tg else M a b) = M a b
      rw [if_neg (by omega), if_neg (fun q => x q.1)]
    · show (if (145 : Int) = 193 then bi (ly j) else if (145 : Int) = 145 ∧ j = 61 then tg else M 145 j) = M 145 j
      rw [if_neg (by omega), if_neg (by omega)]
    · show (if (145 : Int) = 193 then bi (ly 61) else if (145 : Int) = 145 ∧ (61 : Int) = 61 then tg else M 145 61) = tg
      rw [if_neg (by omega), if_pos ⟨rfl, rfl⟩]
  have k := ke_sc hsc
  obtain ⟨M1, -, -, -, e⟩ := s_245 (L := 0) (ke_rP h k) (s := s) (p := p) hs
  rw [ke_EQ h k] at e
  refine ⟨fun t => mkB M1 s p t, fun t t0 t1 => ?_⟩
  have e1 := e t t0 t1
  have x1 : lyM M' t = ly t := by
    unfold lyM
    rw [h193]
    cases ly t <;> rfl
  have x2 : wB M' p (M' 145 61) s = wB M p tg s := by
    unfold wB
    simp only [ke_wdg h k, h61]
  rw [x1, ke_frB h k, x2] at e1
  exact e1
theorem ex_psh (h : rP M) {s tg : Int} {ly : Int → Bool} (hs : 0 ≤ s ∧ s < 4) : EQ M ly (frB M s (fun p => wdg M tg s p)) s (psh M ly tg s) := by
  obtain ⟨F, e⟩ := ex_EQ h (p := 1) (tg := tg) (ly := ly) hs
  rw [show wB M 1 tg s = fun p => wdg M tg s p from if_neg (by omega)] at e
  exact @Classical.epsilon_spec _ (fun F => EQ M ly (frB M s (fun p => wdg M tg s p)) s F) ⟨F, e⟩
theorem ex_brn (h : rP M) {s : Int} {ly : Int → Bool} (hs : 0 ≤ s ∧ s < 4) : EQ M ly (frB M s (fun _ => true)) s (brn M ly s) := by
  obtain ⟨F, e⟩ := ex_EQ h (p := 0) (tg := 0) (ly := ly) hs
  rw [show wB M 0 0 s = fun _ => true from if_pos rfl] at e
  exact @Classical.epsilon_spec _ (fun F => EQ M ly (frB M s (fun _ => true)) s F) ⟨F, e⟩
theorem psh_cg (h : rP M) {s tg : Int} {ly ly' : Int → Bool} (hs : 0 ≤ s ∧ s < 4) (hl : ∀ t, 0 ≤ t → t < M 31 0 → ly t = ly' t) : ∀ t, 0 ≤ t → t < M 31 0 → psh M ly tg s t = psh M ly' tg s t := EQ_one h hs hl (fun _ _ _ => rfl) (ex_psh h hs) (ex_psh h hs)
theorem brn_cg (h : rP M) {s : Int} {ly ly' : Int → Bool} (hs : 0 ≤ s ∧ s < 4) (hl : ∀ t, 0 ≤ t → t < M 31 0 → ly t = ly' t) : ∀ t, 0 ≤ t → t < M 31 0 → brn M ly s t = brn M ly' s t := EQ_one h hs hl (fun _ _ _ => rfl) (ex_brn h hs) (ex_brn h hs)
theorem hld_cg (h : rP M) {tg : Int} {ly ly' : Int → Bool} (hl : ∀ t, 0 ≤ t → t < M 31 0 → ly t = ly' t) : ∀ t, 0 ≤ t → t < M 31 0 → hld M ly tg t = hld M ly' tg t := by
  intro t t0 t1
  unfold hld hRd hAc hAl
  rw [hl t t0 t1, psh_cg h (by omega) hl t t0 t1, psh_cg h (by omega) hl t t0 t1, psh_cg h (by omega) hl t t0 t1, psh_cg h (by omega) hl t t0 t1, brn_cg h (by omega) hl t t0 t1, brn_cg h (by omega) hl t t0 t1, brn_cg h (by omega) hl t t0 t1, brn_cg h (by omega) hl t t0 t1]
/-- what still lies behind r rounds -/
noncomputable def lfS (M : aM) (tg : Int) : Nat → Int → Bool
  | 0 => fun _ => true
  | r + 1 => fun t => hld M (lfS M tg r) tg t
theorem lfS_le {tg : Int} {r : Nat} {t : Int} (h : lfS M tg (r + 1) t = true) : lfS M tg r t = true := by
  have h' : hld M (lfS M tg r) tg t = true := h
  unfold hld at h'
  rw [Bool.and_eq_true] at h'
  exact h'.1
theorem lfS_mono {tg : Int} {r k : Nat} {t : Int} (hk : r ≤ k) (h : lfS M tg k t = true) : lfS M tg r t = true := by
  induction hk with
  | refl => exact h
  | step _ ih => exact ih (lfS_le h)
theorem lfS_st (h : rP M) {tg : Int} {r : Nat} (hs : ∀ t, 0 ≤ t → t < M 31 0 → lfS M tg (r + 1) t = lfS M tg r t) : ∀ k, r ≤ k → ∀ t, 0 ≤ t → t < M 31 0 → lfS M tg k t = lfS M tg r t := by
  intro k hk
  induction hk with
  | refl => intro t _ _; rfl
  | step _ ih =>
    intro t t0 t1
    rw [← hs t t0 t1]
    exact hld_cg h ih t t0 t1
theorem lfS_ke (h : rP M) (k : ke M M1) {tg : Int} : ∀ r : Nat, lfS M1 tg r = lfS M tg r
  | 0 => rfl
  | r + 1 => by
    funext t
    show hld M1 (lfS M1 tg r) tg t = hld M (lfS M tg r) tg t
    rw [lfS_ke h k r, hld_ke h k]
/-- the round in which a thing drops -/
noncomputable def drp (M : aM) (tg t : Int) : Int := fndI (fun r => !lfS M tg r.toNat t) 0 1 41
noncomputable def rndV (M : aM) (tg r : Int) : Int := sumI (fun t => bi (decide (0 < drp M tg t ∧ (r = 0 ∨ drp M tg t = r)))) 0 (M 31 0)
noncomputable def kpV (M : aM) (tg k : Int) : Int := sumI (fun t => bi (decide (¬ t = k) && hld M (fun _ => true) tg t && !hld M (fun t => decide (¬ t = k)) tg t)) 0 (M 31 0)
theorem drp_ke (h : rP M) (k : ke M M1) {tg t : Int} : drp M1 tg t = drp M tg t := by unfold drp; simp only [lfS_ke h k]
theorem rndV_ke (h : rP M) (k : ke M M1) {tg r : Int} : rndV M1 tg r = rndV M tg r := by unfold rndV; simp only [drp_ke h k]; rw [k 31 (by omega)]
theorem kpV_ke (h : rP M) (k : ke M M1) {tg r : Int} : kpV M1 tg r = kpV M tg r := by unfold kpV; simp only [hld_ke h k]; rw [k 31 (by omega)]
theorem fndI_is {p : Int → Bool} {d n j : Int} : ∀ i, i ≤ j → j < n → p j = true → (∀ k, i ≤ k → k < j → p k = false) → fndI p d i n = j := by
  refine upto n (fun i hi a b _ _ => by omega) (fun i hi ih a b c e => ?_)
  by_cases q : i = j
  · rw [fndI_yes hi (by rw [q]; exact c), q]
  · rw [fndI_no hi (by rw [e i (by omega) (by omega)]; decide)]
    exact ih (by omega) b c (fun k x y => e k (by omega) y)
theorem fndI_d {p : Int → Bool} {d n : Int} : ∀ i, (∀ k, i ≤ k → k < n → p k = false) → fndI p d i n = d := by
  refine upto n (fun i hi _ => fndI_nil hi) (fun i hi ih e => ?_)
  rw [fndI_no hi (by rw [e i (by omega) hi]; decide)]
  exact ih (fun k x y => e k (by omega) y)
/-- a round in which a thing drops is that one -/
theorem drp_is {tg t : Int} {r : Nat} (hr : r < 40) (h1 : lfS M tg r t = true) (h2 : lfS M tg (r + 1) t = false) : drp M tg t = (r : Int) + 1 := by
  unfold drp
  refine fndI_is 1 (by omega) (by omega) ?_ (fun k k0 k1 => ?_)
  · rw [show ((r : Int) + 1).toNat = r + 1 by omega, h2]; rfl
  · rw [lfS_mono (show k.toNat ≤ r by omega) h1]; rfl
theorem drp_0 {tg t : Int} (h : lfS M tg 40 t = true) : drp M tg t = 0 := by
  unfold drp
  refine fndI_d 1 (fun k k0 k1 => ?_)
  rw [lfS_mono (show k.toNat ≤ 40 by omega) h]; rfl
theorem drp_le {tg t : Int} : 0 ≤ drp M tg t ∧ drp M tg t ≤ 40 := by
  by_cases h : lfS M tg 40 t = true
  · rw [drp_0 h]; omega
  · have key : ∀ k : Nat, k ≤ 40 → lfS M tg (40 - k) t = true → ∃ r : Nat, r < 40 ∧ lfS M tg r t = true ∧ lfS M tg (r + 1) t = false := by
      intro k
      induction k with
      | zero => intro _ hk; exact absurd hk h
      | succ k ih =>
        intro hk hh
        by_cases c : lfS M tg (40 - k) t = true
        · exact ih (by omega) c
        · refine ⟨40 - (k + 1), by omega, hh, ?_⟩
          rw [show 40 - (k + 1) + 1 = 40 - k by omega]
          simpa using c
    obtain ⟨r, r0, r1, r2⟩ := key 40 (Nat.le_refl _) rfl
    rw [drp_is r0 r1 r2]; omega
/-- as many as lie -/
noncomputable def cnL (M : aM) (tg : Int) (r : Nat) : Int := sumI (fun t => bi (lfS M tg r t)) 0 (M 31 0)
theorem cnL_le {tg : Int} {r : Nat} : 0 ≤ cnL M tg r := (sumI_le (f := fun t => bi (lfS M tg r t)) (n := M 31 0) (c := 1) 0 (fun _ _ _ => bi_le _)).1
theorem cnL_n (h : rP M) {tg : Int} : cnL M tg 0 ≤ 40 := by
  have n := rP_n h
  have := (sumI_le (f := fun t => bi (lfS M tg 0 t)) (n := M 31 0) (c := 1) 0 (fun _ _ _ => bi_le _)).2 n.1
  unfold cnL
  omega
theorem cnL_lt {tg : Int} {r : Nat} {t : Int} (t0 : 0 ≤ t) (t1 : t < M 31 0) (h1 : lfS M tg r t = true) (h2 : lfS M tg (r + 1) t = false) : cnL M tg (r + 1) + 1 ≤ cnL M tg r := by
  unfold cnL
  have e := sumI_add (f := fun t => bi (lfS M tg (r + 1) t)) (g := fun o => if o = t then (1 : Int) else 0) (n := M 31 0) 0
  rw [sumI_pick (f := fun o => if o = t then (1 : Int) else 0) (t := t) 0 t0 t1 (fun o _ _ ho => if_neg ho), if_pos rfl] at e
  rw [← e]
  refine sumI_mono 0 (fun o o0 o1 => ?_)
  by_cases c : o = t
  · rw [if_pos c, c, h1, h2]; decide
  · rw [if_neg c]
    cases x : lfS M tg (r + 1) o
    · have := bi_le (lfS M tg r o); rw [bi_f]; omega
    · rw [lfS_le x]; omega
theorem cnL_0 {tg : Int} {r : Nat} (h : cnL M tg r ≤ 0) : ∀ t, 0 ≤ t → t < M 31 0 → lfS M tg r t = false := by
  intro t t0 t1
  by_cases c : lfS M tg r t = true
  · unfold cnL at h
    have a := sumI_mono (f := fun o => if o = t then (1 : Int) else 0) (g := fun t => bi (lfS M tg r t)) (n := M 31 0) 0 (fun o _ _ => by
      have := bi_le (lfS M tg r o)
      by_cases q : o = t
      · rw [if_pos q, q, c]; decide
      · rw [if_neg q]; omega)
    rw [sumI_pick (f := fun o => if o = t then (1 : Int) else 0) (t := t) 0 t0 t1 (fun o _ _ ho => if_neg ho), if_pos rfl] at a
    omega
  · simpa using c
def liR (M : aM) : Prop := M 64 12 = 0 ∨ M 64 12 = 1 ∧ (∀ t, 0 ≤ t → t < M 31 0 → M 65 t = drp M (M 31 8) t) ∧ ∀ r, 0 ≤ r → r ≤ 40 → M 66 r = rndV M (M 31 8) r
def kpR (M : aM) : Prop := ∀ t, 0 ≤ t → t < M 31 0 → M 83 t = -1 ∨ M 83 t = kpV M (M 31 8) t
/-- what Pushes remembers is right, where it is of now -/
def cP (M : aM) : Prop := (-1 ≤ M 64 13 ∧ M 64 13 ≤ M 1 9) ∧ (-1 ≤ M 64 14 ∧ M 64 14 ≤ M 1 10) ∧ (M 64 13 = M 1 9 → ctR M) ∧ (M 64 14 = M 1 10 → M 64 13 = M 1 9 ∧ liR M ∧ kpR M)
/-- what has been looked at -/
def lok (M : aM) : Prop := lkd M ∧ M 64 13 = M 1 9 ∧ M 64 14 = M 1 10 ∧ liR M ∧ kpR M
theorem liR_cg (h : rP M) (k : ke M M1) (hl : liR M) (h1 : M1 64 12 = M 64 12) (h2 : M1 65 = M 65) (h3 : M1 66 = M 66) : liR M1 := by
  unfold liR
  rw [h1, h2, h3, k 31 (by omega)]
  simp only [drp_ke h k, rndV_ke h k]
  exact hl
theorem kpR_cg (h : rP M) (k : ke M M1) (hl : kpR M) (h1 : M1 83 = M 83) : kpR M1 := by
  unfold kpR
  rw [h1, k 31 (by omega)]
  simp only [kpV_ke h k]
  exact hl
theorem s_80 (h : rP M) (hc : cP M) : ∃ M1, aE 80 [aR 1] (SH L) M ([], SH L, M1) ∧ fr 64 83 M M1 ∧ lok M1 := by
  obtain ⟨⟨c1, c1'⟩, ⟨c2, c2'⟩, c3, c4⟩ := hc
  have ht := tx_le (rP_tx h)
  have fin : ∀ M' : aM, fr 64 76 M M' → M' 64 4 = M 1 3 → M' 64 5 = 31 → M' 64 13 = M 1 9 → ¬ M' 64 14 = M 1 10 → ctR M' → ∃ M1, aX xc_79 (aSeek xc_79 27) [aR 64, aU, aU, aU, aI (M 1 10)] [] (SH L) M' ([], SH L, M1) ∧ fr 64 83 M M1 ∧ lok M1 := by
    intro M' f e4 e5 e13 e14 hr
    have hP' := rP_fr h f (by omega) (by omega)
    have e1 : M' 1 = M 1 := f 1 (by omega)
    have g : fr 64 83 M' (aFill (aSet (aSet M' 64 14 (M 1 10)) 64 12 0) 83 40 (-1)) := fun a ha => (aFill_c (by omega)).trans ((aSet_c (by omega)).trans (aSet_c (by omega)))
    have kk : ke M' (aFill (aSet (aSet M' 64 14 (M 1 10)) 64 12 0) 83 40 (-1)) := ke_fr g (by omega) (by omega)
    have ev : ∀ j, j ≠ 12 → j ≠ 14 → aFill (aSet (aSet M' 64 14 (M 1 10)) 64 12 0) 83 40 (-1) 64 j = M' 64 j := fun j x y => by
      rw [aFill_c (by omega), aSet_i x, aSet_i y]
    have e1' : aFill (aSet (aSet M' 64 14 (M 1 10)) 64 12 0) 83 40 (-1) 1 = M 1 := (g 1 (by omega)).trans e1
    refine ⟨_, bl_79_27 ⟨fun q => absurd q e14, fun _ => ⟨_, s_78 (n := 40) rfl rfl (by omega), rfl⟩⟩, fr_tr (fr_mn f (by omega) (by omega)) g, ⟨?_, ?_, ?_⟩, ?_, ?_, ?_, ?_⟩
    · rw [ev 4 (by omega) (by omega), e1', e4]
    · rw [ev 5 (by omega) (by omega), e5]
    · exact ctR_cg hr (fun a x y => g a (by omega)) (fun a x y => (aFill_c (by omega)).trans ((aSet_c (by omega)).trans (aSet_c (by omega)))) (ev 8 (by omega) (by omega))
    · rw [ev 13 (by omega) (by omega), e1', e13]
    · rw [e1', aFill_c (by omega), aSet_i (by omega), aSet_e]
    · exact Or.inl (by rw [aFill_c (by omega), aSet_e])
    · intro t t0 t1
      have n := rP_n hP'
      rw [kk 31 (by omega)] at t1
      exact Or.inl (aFill_in t0 (by omega))
  have g2 : fr 64 64 M (aSet (aSet M 64 4 (M 1 3)) 64 5 31) := fr_set (fr_set fr_rf (by omega)) (by omega)
  have ev : ∀ j, j ≠ 4 → j ≠ 5 → aSet (aSet M 64 4 (M 1 3)) 64 5 31 64 j = M 64 j := fun j x y => by rw [aSet_i y, aSet_i x]
  have v4 : aSet (aSet M 64 4 (M 1 3)) 64 5 31 64 4 = M 1 3 := by rw [aSet_i (by omega), aSet_e]
  have v5 : aSet (aSet M 64 4 (M 1 3)) 64 5 31 64 5 = 31 := aSet_e
  have kk : ke M (aSet (aSet M 64 4 (M 1 3)) 64 5 31) := ke_fr g2 (by omega) (by omega)
  have ct2 : ctR M → ctR (aSet (aSet M 64 4 (M 1 3)) 64 5 31) := fun hr => ctR_cg hr (fun a x y => g2 a (by omega)) (fun a x y => g2 a (by omega)) (ev 8 (by omega) (by omega))
  have go : ∃ M1, aE 79 [aR 64, aR (M 1 3), aR 31, aI (M 1 9), aI (M 1 10)] (SH L) M ([], SH L, M1) ∧ fr 64 83 M M1 ∧ lok M1 := by
    by_cases c : M 64 13 = M 1 9
    · by_cases c' : M 64 14 = M 1 10
      · obtain ⟨-, d2, d3⟩ := c4 c'
        have q14 : aSet (aSet M 64 4 (M 1 3)) 64 5 31 64 14 = M 1 10 := by rw [ev 14 (by omega) (by omega)]; exact c'
        refine ⟨_, en_79 ⟨⟨rfl, by omega⟩, ⟨rfl, by omega⟩, fun _ => bl_79_27 ⟨fun _ => rfl, fun q => absurd q14 q⟩, fun q => absurd ((ev 13 (by omega) (by omega)).trans c) q⟩, fr_mn g2 (by omega) (by omega), ⟨?_, v5, ct2 (c3 c)⟩, ?_, ?_, ?_, ?_⟩
        · rw [v4, g2 1 (by omega)]
        · rw [ev 13 (by omega) (by omega), g2 1 (by omega)]; exact c
        · rw [q14, g2 1 (by omega)]
        · exact liR_cg h kk d2 (ev 12 (by omega) (by omega)) (g2 65 (by omega)) (g2 66 (by omega))
        · exact kpR_cg h kk d3 (g2 83 (by omega))
      · obtain ⟨M1, r, x⟩ := fin _ (fr_mn g2 (by omega) (by omega)) v4 v5 (by rw [ev 13 (by omega) (by omega)]; exact c) (by rw [ev 14 (by omega) (by omega)]; exact c') (ct2 (c3 c))
        exact ⟨M1, en_79 ⟨⟨rfl, by omega⟩, ⟨rfl, by omega⟩, fun _ => r, fun q => absurd ((ev 13 (by omega) (by omega)).trans c) q⟩, x⟩
    · have g3 : fr 64 64 M (aSet (aSet (aSet M 64 4 (M 1 3)) 64 5 31) 64 13 (M 1 9)) := fr_set g2 (by omega)
      have hP3 := rP_fr h g3 (by omega) (by omega)
      have n3 : aSet (aSet (aSet M 64 4 (M 1 3)) 64 5 31) 64 13 (M 1 9) 31 0 = M 31 0 := by rw [g3 31 (by omega)]
      obtain ⟨M2, r2, f2, b2, rd2, t0, t1⟩ := s_77 (L := L) hP3 (by rw [aSet_i (by omega)]; exact v5)
      have gg : fr 64 76 M M2 := fr_tr (fr_mn g3 (by omega) (by omega)) f2
      have hr : ctR M2 := by
        have e31 : ∀ a, 31 ≤ a → a ≤ 37 → M2 a = aSet (aSet (aSet M 64 4 (M 1 3)) 64 5 31) 64 13 (M 1 9) a := fun a x y => f2 a (by omega)
        refine ⟨?_, ?_, fun k k0 k1 => ?_⟩
        · rw [e31 31 (by omega) (by omega)]; exact CT_cg (Or.inl rfl) t0 e31
        · rw [e31 31 (by omega) (by omega)]; exact CT_cg (Or.inr rfl) t1 e31
        · rw [e31 31 (by omega) (by omega), e31 33 (by omega) (by omega)]; exact rd2 k k0 k1
      obtain ⟨M1, r, x⟩ := fin M2 gg (by rw [b2 4 (by omega), aSet_i (by omega)]; exact v4) (by rw [b2 5 (by omega), aSet_i (by omega)]; exact v5) (by rw [b2 13 (by omega), aSet_e]) (by
        rw [b2 14 (by omega), aSet_i (by omega), ev 14 (by omega) (by omega)]
        exact fun q => c (c4 q).1) hr
      exact ⟨M1, en_79 ⟨⟨rfl, by omega⟩, ⟨rfl, by omega⟩, fun q => absurd ((ev 13 (by omega) (by omega)).symm.trans q) c, fun _ => ⟨M2, r2, r⟩⟩, x⟩
  obtain ⟨M1, r, x⟩ := go
  exact ⟨M1, en_80 ⟨M1, r, rfl⟩, x⟩
end KEEP
