/-! pushes spread: the class -/
section SPR2
variable {L : Nat} {M M1 M2 : aM}
theorem axS_01 {s : Int} : axS s = 0 ∨ axS s = 1 := by unfold axS; split <;> omega
theorem ctS_is {s : Int} : isCt (67 + 5 * axS s) := by
  unfold isCt
  rcases axS_01 (s := s) with e | e <;> rw [e] <;> omega
def prI (M : aM) (s i : Int) : Int := if s = 0 ∨ s = 3 then i else M (67 + 5 * axS s) 0 - 1 - i
def nbI (M : aM) (s i : Int) : Int := M (67 + 5 * axS s + (if s = 0 ∨ s = 3 then 1 else 2)) (prI M s i)
def fbI (M : aM) (s i : Int) : Int := M (67 + 5 * axS s + (if s = 0 ∨ s = 3 then 2 else 1)) (prI M s i)
def ptI (M : aM) (s i : Int) : Int := M (67 + 5 * axS s + 3) (prI M s i)
theorem ctR_at (hk : ctR M) (s : Int) : CT M M (axS s) (M 31 0) 0 := by
  rcases axS_01 (s := s) with e | e <;> rw [e]
  · exact hk.1
  · exact hk.2.1
theorem ct_P (h : rP M) (hk : ctR M) {s : Int} : 0 ≤ M (67 + 5 * axS s) 0 ∧ M (67 + 5 * axS s) 0 ≤ 80 := by
  have n := rP_n h
  exact ⟨(ctR_at hk s).1, CT_n h axS_01 (ctR_at hk s) n.1 (by omega) (by omega) n.1 (fun _ => rfl)⟩
theorem prI_in {s i : Int} (h0 : 0 ≤ i) (h1 : i < M (67 + 5 * axS s) 0) : 0 ≤ prI M s i ∧ prI M s i < M (67 + 5 * axS s) 0 := by
  unfold prI; split <;> omega
theorem pr_f (h : rP M) (hk : ctR M) {s i : Int} (hs : 0 ≤ s ∧ s < 4) (h0 : 0 ≤ i) (h1 : i < M (67 + 5 * axS s) 0) : (0 ≤ nbI M s i ∧ nbI M s i < M 31 0) ∧ (0 ≤ fbI M s i ∧ fbI M s i < M 31 0) ∧ (0 < ptI M s i ∧ ptI M s i ≤ 60) := by
  have p := prI_in h0 h1
  obtain ⟨a, b, c, d, -⟩ := (ctR_at hk s).2.1 _ p.1 p.2
  have c2 := c
  unfold adj at c2
  rw [decide_eq_true_eq] at c2
  have g := ctc_ge h a.1 a.2 b.1 b.2 (by
    rcases axS_01 (s := s) with e | e
    · rw [e] at c2 ⊢; exact Or.inl c2.1
    · rw [e] at c2 ⊢; exact Or.inr c2.1)
  unfold nbI fbI ptI
  rw [d]
  by_cases e : s = 0 ∨ s = 3
  · rw [if_pos e, if_pos e]; exact ⟨a, b, c2.2, g.2⟩
  · rw [if_neg e, if_neg e]; exact ⟨b, a, c2.2, g.2⟩
theorem pr_ne (h : rP M) (hk : ctR M) {s i k : Int} (hs : 0 ≤ s ∧ s < 4) (h0 : 0 ≤ i) (hik : i ≤ k) (h1 : k < M (67 + 5 * axS s) 0) : fbI M s k ≠ nbI M s i := by
  have p := prI_in (M := M) (s := s) h0 (by omega)
  have q := prI_in (M := M) (s := s) (show 0 ≤ k by omega) h1
  obtain ⟨-, hb, hc, -⟩ := ctR_at hk s
  have bp := hb _ p.1 p.2
  have bq := hb _ q.1 q.2
  have ap := bp.2.2.1
  have aq := bq.2.2.1
  unfold adj at ap aq
  rw [decide_eq_true_eq] at ap aq
  have si : ∀ t, 0 ≤ t → t < M 31 0 → 1 ≤ M (36 + axS s) t := by
    intro t t0 t1
    have a := rP_i h t0 t1
    rcases axS_01 (s := s) with e | e <;> rw [e]
    · exact a.2.2.1.2.1
    · exact a.2.2.2.1.2.1
  intro e
  unfold nbI fbI at e
  by_cases c : s = 0 ∨ s = 3
  · rw [if_pos c, if_pos c] at e
    have e1 : prI M s i = i := if_pos c
    have e2 : prI M s k = k := if_pos c
    have w := hc i k h0 hik h1
    rw [e1] at bp ap e
    rw [e2] at bq aq e
    have s1 := si _ bp.1.1 bp.1.2
    rw [bp.2.2.2.2, bq.2.2.2.2, e] at w
    omega
  · rw [if_neg c, if_neg c] at e
    have e1 : prI M s i = M (67 + 5 * axS s) 0 - 1 - i := if_neg c
    have e2 : prI M s k = M (67 + 5 * axS s) 0 - 1 - k := if_neg c
    have w := hc (prI M s k) (prI M s i) q.1 (by omega) p.2
    have s1 := si _ bq.1.1 bq.1.2
    rw [bp.2.2.2.2, bq.2.2.2.2] at w
    rw [e] at aq s1
    omega
theorem s_88 {c s i : Int} (hc : isCt c) (h0 : 0 ≤ i ∧ i ≤ 1000) (h1 : 0 ≤ M c 0 ∧ M c 0 ≤ 1000) : aE 88 [aR c, aI s, aI i] (SH L) M ([aI (if s = 0 ∨ s = 3 then i else M c 0 - 1 - i)], SH L, M) := by
  apply en_88
  refine ⟨fun q => rI (if_pos (Or.inl q)), fun q => ⟨fun q2 => ⟨(ct hc).1, rI ?_⟩, fun q2 => rI (if_pos (Or.inr (by omega)))⟩⟩
  rw [if_neg (by omega), aWi (z := M c 0 - 1) (by omega) (by omega), aWi (by omega) (by omega)]
theorem s_89 {c s p : Int} (hc : isCt c) (h0 : 0 ≤ p ∧ p < 120) : aE 89 [aR c, aI s, aI p] (SH L) M ([aI (M (c + (if s = 0 ∨ s = 3 then 1 else 2)) p)], SH L, M) := by
  apply en_89
  simp only [ct hc]
  refine ⟨fun q => ⟨trivial, by omega, rI ?_⟩, fun q => ⟨fun q2 => ⟨trivial, by omega, rI ?_⟩, fun q2 => ⟨trivial, by omega, rI ?_⟩⟩⟩
  · rw [if_pos (by omega)]
  · rw [if_neg (by omega)]
  · rw [if_pos (by omega)]
theorem s_91 {c s p : Int} (hc : isCt c) (h0 : 0 ≤ p ∧ p < 120) : aE 91 [aR c, aI s, aI p] (SH L) M ([aI (M (c + (if s = 0 ∨ s = 3 then 2 else 1)) p)], SH L, M) := by
  apply en_91
  simp only [ct hc]
  refine ⟨fun q => ⟨trivial, by omega, rI ?_⟩, fun q => ⟨fun q2 => ⟨trivial, by omega, rI ?_⟩, fun q2 => ⟨trivial, by omega, rI ?_⟩⟩⟩
  · rw [if_pos (by omega)]
  · rw [if_neg (by omega)]
  · rw [if_pos (by omega)]
def exR (s : Int) : Int := if s = 0 ∨ s = 2 then 36 else 37
theorem exR_is {s : Int} : (exR s = 36 ∨ exR s = 37) := by unfold exR; split <;> omega
theorem exR_e {s t : Int} : M (exR s) t = ext M s t := by unfold exR ext; split <;> rfl
def qF (M M2 : aM) (s ly a : Int) : Bool := lb ly a && decide (M (M 1 3) 2 * ext M s a ≤ 100 * M2 77 a)
theorem rP_77 (h : rP M) (hk : lkd M) (hf : fr 77 77 M M1) : rP M1 ∧ lkd M1 := ⟨rP_fr h hf (by omega) (by omega), lkd_cg hk (by rw [hf 1 (by omega)]) (fun a x y => hf a (by omega)) (fun a x y => hf a (by omega)) (by rw [hf 64 (by omega)]) (by rw [hf 64 (by omega)]) (by rw [hf 64 (by omega)])⟩
theorem spL (h : rP M) (hk : lkd M) {s ly : Int} (hs : 0 ≤ s ∧ s < 4) : ∀ i, ∀ M' : aM, 0 ≤ i → i ≤ M (67 + 5 * axS s) 0 → fr 77 77 M M' → (∀ t, 0 ≤ t → t < M 31 0 → 0 ≤ M' 77 t ∧ M' 77 t ≤ 60 + 60 * i) →
    ∃ M2, fr 77 77 M M2 ∧ (∀ t, 0 ≤ t → t < M 31 0 → (0 ≤ M2 77 t ∧ M2 77 t ≤ 10000) ∧ M2 77 t = M' 77 t + sumI (fun k => if fbI M s k = t ∧ qF M M2 s ly (nbI M s k) = true then ptI M s k else 0) i (M (67 + 5 * axS s) 0)) ∧
    ∀ o, aX xc_92 (aSeek xc_92 191) [aR 64, aU, aJ ly, aU, aU, aU, aU, aR (exR s), aJ 0, aU, aI 0] [] (SH L) M2 o → aX xc_92 (aSeek xc_92 96) [aR 64, aI s, aJ ly, aU, aU, aU, aR (67 + 5 * axS s), aR (exR s), aI i, aU, aU] [] (SH L) M' o := by
  have np := ct_P h hk.2.2 (s := s)
  have n := rP_n h
  have hx : 67 + 5 * axS s ≠ 77 ∧ 67 + 5 * axS s + 1 ≠ 77 ∧ 67 + 5 * axS s + 2 ≠ 77 ∧ 67 + 5 * axS s + 3 ≠ 77 := by have := axS_01 (s := s); omega
  have hC := ctS_is (s := s)
  refine upto (M (67 + 5 * axS s) 0) (fun i hi M' i0 i1 hf hb => ?_) (fun i hi ih M' i0 i1 hf hb => ?_)
  · refine ⟨M', hf, fun t t0 t1 => ⟨⟨(hb t t0 t1).1, by have := (hb t t0 t1).2; omega⟩, by rw [sumI_nil hi]; omega⟩, fun o r => bl_92_96 ⟨(ct hC).1, fun _ => r, fun q => absurd hi ?_⟩⟩
    rw [hf _ (by omega)] at q
    exact q
  · have f := pr_f h hk.2.2 hs i0 hi
    have pin := prI_in (M := M) (s := s) i0 hi
    obtain ⟨hP', hk'⟩ := rP_77 h hk hf
    have eC : ∀ a, a ≠ 77 → M' a = M a := fun a ha => hf a (by omega)
    have ne := fun k (hk1 : i ≤ k) (hk2 : k < M (67 + 5 * axS s) 0) => pr_ne h hk.2.2 hs i0 hk1 hk2
    -- the support of the nearer one is settled
    have set : ∀ M'' M2 : aM, (∀ t, t ≠ fbI M s i → M'' 77 t = M' 77 t) → (∀ t, 0 ≤ t → t < M 31 0 → (0 ≤ M2 77 t ∧ M2 77 t ≤ 10000) ∧ M2 77 t = M'' 77 t + sumI (fun k => if fbI M s k = t ∧ qF M M2 s ly (nbI M s k) = true then ptI M s k else 0) (i + 1) (M (67 + 5 * axS s) 0)) → M2 77 (nbI M s i) = M' 77 (nbI M s i) := by
      intro M'' M2 h1 h2
      rw [(h2 _ f.1.1 f.1.2).2, h1 _ (fun q => ne i (Int.le_refl _) hi q.symm), sumI_0 (i + 1) (fun k k0 k1 => if_neg (fun q => ne k (by omega) k1 q.1)), Int.add_zero]
    have nx : ∀ M'' : aM, ∀ o, aX xc_92 (aSeek xc_92 96) [aR 64, aI s, aJ ly, aU, aU, aU, aR (67 + 5 * axS s), aR (exR s), aI (i + 1), aU, aU] [] (SH L) M'' o → aX xc_92 (aSeek xc_92 179) [aR 64, aI s, aJ ly, aU, aU, aU, aR (67 + 5 * axS s), aR (exR s), aI i, aU, aU] [] (SH L) M'' o := by
      intro M'' o r
      apply bl_92_179
      rw [aWi (by omega) (by omega)]
      exact r
    have e88 : aE 88 [aR (67 + 5 * axS s), aI s, aI i] (SH L) M' ([aI (prI M s i)], SH L, M') := by
      have := s_88 (L := L) (M := M') (s := s) (i := i) hC ⟨i0, by omega⟩ (by rw [eC _ hx.1]; omega)
      rw [eC _ hx.1] at this
      exact this
    have e89 : aE 89 [aR (67 + 5 * axS s), aI s, aI (prI M s i)] (SH L) M' ([aI (nbI M s i)], SH L, M') := by
      have := s_89 (L := L) (M := M') (s := s) (p := prI M s i) hC (by omega)
      rw [eC _ (by split <;> omega)] at this
      exact this
    have e91 : aE 91 [aR (67 + 5 * axS s), aI s, aI (prI M s i)] (SH L) M' ([aI (fbI M s i)], SH L, M') := by
      have := s_91 (L := L) (M := M') (s := s) (p := prI M s i) hC (by omega)
      rw [eC _ (by split <;> omega)] at this
      exact this
    have l77 : aLn (SH L) 1 77 = 40 := rfl
    have lx : aLn (SH L) 1 (exR s) = 40 := by rcases exR_is (s := s) with e | e <;> rw [e] <;> rfl
    have vx : M' (exR s) (nbI M s i) = ext M s (nbI M s i) := by rw [eC _ (by have := exR_is (s := s); omega), exR_e (M := M)]
    by_cases c1 : lb ly (nbI M s i) = true
    · have hb1 := hb _ f.1.1 f.1.2
      have e90 : aE 90 [aR 64, aI (M' 77 (nbI M s i)), aI (M' (exR s) (nbI M s i))] (SH L) M' ([aI (bi (decide (M (M 1 3) 2 * ext M s (nbI M s i) ≤ 100 * M' 77 (nbI M s i))))], SH L, M') := by
        have ex := ext_le h (s := s) f.1.1 f.1.2
        have := s_90 (L := L) hP' hk' (p := M' 77 (nbI M s i)) (e := M' (exR s) (nbI M s i)) (by omega) (by rw [vx]; omega)
        rw [vx, eC 1 (by omega), eC (M 1 3) (by have := tx_le (rP_tx h); omega)] at this
        rw [vx]
        exact this
      by_cases c2 : M (M 1 3) 2 * ext M s (nbI M s i) ≤ 100 * M' 77 (nbI M s i)
      · have hbf := hb _ f.2.1.1 f.2.1.2
        obtain ⟨M2, f2, v2, r2⟩ := ih (aSet M' 77 (fbI M s i) (M' 77 (fbI M s i) + ptI M s i)) (by omega) (by omega) (fr_set hf (by omega)) (fun t t0 t1 => by
          rw [aSet_q]
          have := hb t t0 t1
          split
          · omega
          · omega)
        have st := set _ M2 (fun t ht => aSet_i ht) v2
        have q : qF M M2 s ly (nbI M s i) = true := by
          unfold qF
          rw [st, c1, decide_eq_true c2]
          rfl
        refine ⟨M2, f2, fun t t0 t1 => ⟨(v2 t t0 t1).1, ?_⟩, fun o r => bl_92_96 ?_⟩
        · rw [(v2 t t0 t1).2, sumI_step hi, aSet_q]
          by_cases c3 : t = fbI M s i
          · rw [if_pos c3, if_pos ⟨c3.symm, q⟩, c3]; omega
          · rw [if_neg c3, if_neg (fun z => c3 z.1.symm)]; omega
        · simp only [ct hC]
          rw [eC _ hx.1]
          refine ⟨trivial, fun z => absurd hi (by omega), fun _ => ⟨trivial, M', _, e88, trivial, M', _, e89, M', _, s_84 f.1.1 (by omega), fun z => absurd (bi_1.mpr c1) z, fun _ => ⟨by omega, by omega, M', _, e90, fun z => absurd c2 (by rw [bid0] at z; exact z), fun _ => ⟨trivial, M', _, e91, by omega, trivial, by omega, by omega, ?_⟩⟩⟩⟩
          rw [eC _ hx.2.2.2, aWi (by show -2147483648 ≤ M' 77 (fbI M s i) + ptI M s i; omega) (by show M' 77 (fbI M s i) + ptI M s i < 2147483648; omega)]
          exact nx _ o (r2 o r)
      · obtain ⟨M2, f2, v2, r2⟩ := ih M' (by omega) (by omega) hf (fun t t0 t1 => by have := hb t t0 t1; omega)
        have st := set _ M2 (fun t ht => rfl) v2
        have q : ¬ qF M M2 s ly (nbI M s i) = true := by
          unfold qF
          rw [st, decide_eq_false c2, Bool.and_false]
          decide
        refine ⟨M2, f2, fun t t0 t1 => ⟨(v2 t t0 t1).1, ?_⟩, fun o r => bl_92_96 ?_⟩
        · rw [(v2 t t0 t1).2, sumI_step hi, if_neg (fun z => q z.2)]; omega
        · simp only [ct hC]
          rw [eC _ hx.1]
          exact ⟨trivial, fun z => absurd hi (by omega), fun _ => ⟨trivial, M', _, e88, trivial, M', _, e89, M', _, s_84 f.1.1 (by omega), fun z => absurd (bi_1.mpr c1) z, fun _ => ⟨by omega, by omega, M', _, e90, fun z => nx _ o (r2 o r), fun z => absurd (bin c2) z⟩⟩⟩
    · obtain ⟨M2, f2, v2, r2⟩ := ih M' (by omega) (by omega) hf (fun t t0 t1 => by have := hb t t0 t1; omega)
      have q : ¬ qF M M2 s ly (nbI M s i) = true := by
        unfold qF
        rw [Bool.and_eq_true]
        exact fun z => c1 z.1
      refine ⟨M2, f2, fun t t0 t1 => ⟨(v2 t t0 t1).1, ?_⟩, fun o r => bl_92_96 ?_⟩
      · rw [(v2 t t0 t1).2, sumI_step hi, if_neg (fun z => q z.2)]; omega
      · simp only [ct hC]
        rw [eC _ hx.1]
        exact ⟨trivial, fun z => absurd hi (by omega), fun _ => ⟨trivial, M', _, e88, trivial, M', _, e89, M', _, s_84 f.1.1 (by omega), fun _ => nx _ o (r2 o r), fun z => absurd (bi_1.mp (Classical.not_not.mp z)) c1⟩⟩
/-- sums over pairs are sums over things -/
theorem pr_sum (h : rP M) (hk : ctR M) {s t : Int} (hs : 0 ≤ s ∧ s < 4) (t0 : 0 ≤ t) (t1 : t < M 31 0) (Q : Int → Bool) : sumI (fun k => if fbI M s k = t ∧ Q (nbI M s k) = true then ptI M s k else 0) 0 (M (67 + 5 * axS s) 0) = sumI (fun o => if Q o = true then tA M t s o else 0) 0 (M 31 0) := by
  have np := ct_P h hk (s := s)
  obtain ⟨-, hb, -, hd⟩ := ctR_at hk s
  by_cases c : s = 0 ∨ s = 3
  · have e1 : sumI (fun k => if fbI M s k = t ∧ Q (nbI M s k) = true then ptI M s k else 0) 0 (M (67 + 5 * axS s) 0) = sumI (fun p => (fun a b => if b = t ∧ Q a = true then ctc M a b else 0) (M (67 + 5 * axS s + 1) p) (M (67 + 5 * axS s + 2) p)) 0 (M (67 + 5 * axS s) 0) := by
      refine sumI_congr 0 (fun p p0 p1 => ?_)
      unfold fbI nbI ptI prI
      simp only [if_pos c]
      rw [(hb p p0 p1).2.2.2.1]
    rw [e1, hd (fun a b => if b = t ∧ Q a = true then ctc M a b else 0)]
    unfold adT
    rw [show adS M (axS s) (fun a b => if b = t ∧ Q a = true then ctc M a b else 0) (M 31 0) 0 = 0 from sumI_nil (by omega), Int.add_zero]
    refine sumI_congr 0 (fun o o0 o1 => ?_)
    unfold adS
    rw [sumI_pick (t := t) 0 t0 t1 (fun j j0 j1 jt => by
      split
      · exact if_neg (fun z => jt z.1)
      · rfl)]
    have := adj_tA h hs t0 t1 o0 o1
    rw [if_pos c] at this
    rw [← this]
    dsimp only
    by_cases q : Q o = true
    · rw [if_pos (c := t = t ∧ Q o = true) ⟨rfl, q⟩, if_pos q]
    · rw [if_neg (c := t = t ∧ Q o = true) (fun z => q z.2), if_neg q]; split <;> rfl
  · have e1 : sumI (fun k => if fbI M s k = t ∧ Q (nbI M s k) = true then ptI M s k else 0) 0 (M (67 + 5 * axS s) 0) = sumI (fun p => (fun a b => if a = t ∧ Q b = true then ctc M a b else 0) (M (67 + 5 * axS s + 1) p) (M (67 + 5 * axS s + 2) p)) 0 (M (67 + 5 * axS s) 0) := by
      rw [← sumI_rev (f := fun p => (fun a b => if a = t ∧ Q b = true then ctc M a b else 0) (M (67 + 5 * axS s + 1) p) (M (67 + 5 * axS s + 2) p)) np.1]
      refine sumI_congr 0 (fun p p0 p1 => ?_)
      unfold fbI nbI ptI prI
      simp only [if_neg c]
      rw [(hb (M (67 + 5 * axS s) 0 - 1 - p) (by omega) (by omega)).2.2.2.1]
    rw [e1, hd (fun a b => if a = t ∧ Q b = true then ctc M a b else 0)]
    unfold adT
    rw [show adS M (axS s) (fun a b => if a = t ∧ Q b = true then ctc M a b else 0) (M 31 0) 0 = 0 from sumI_nil (by omega), Int.add_zero]
    rw [sumI_pick (t := t) 0 t0 t1 (fun j j0 j1 jt => by
      unfold adS
      refine sumI_0 0 (fun b b0 b1 => ?_)
      split
      · exact if_neg (fun z => jt z.1)
      · rfl)]
    unfold adS
    refine sumI_congr 0 (fun o o0 o1 => ?_)
    have := adj_tA h hs t0 t1 o0 o1
    rw [if_neg c] at this
    rw [← this]
    dsimp only
    by_cases q : Q o = true
    · rw [if_pos (c := t = t ∧ Q o = true) ⟨rfl, q⟩, if_pos q]
    · rw [if_neg (c := t = t ∧ Q o = true) (fun z => q z.2), if_neg q]; split <;> rfl
theorem s_92 (h : rP M) (hk : lkd M) {s ly z : Int} (hs : 0 ≤ s ∧ s < 4) : ∃ y M1, aE 92 [aR 64, aI s, aJ ly, aJ z] (SH L) M ([aJ y], SH L, M1) ∧ fr 77 77 M M1 ∧ xL y ∧ (∀ t, M 31 0 ≤ t → t < 64 → lb y t = false) ∧ EQ M (fun t => lb ly t) (frB M s (fun p => lb z p)) s (fun t => lb y t) := by
  have n := rP_n h
  have np := ct_P h hk.2.2 (s := s)
  have l77 : aLn (SH L) 1 77 = 40 := rfl
  have lx : aLn (SH L) 1 (exR s) = 40 := by rcases exR_is (s := s) with e | e <;> rw [e] <;> rfl
  -- the FRAME's side
  have base : ∀ t, ∀ M' : aM, 0 ≤ t → t ≤ M 31 0 → fr 77 77 M M' → (∀ k, 0 ≤ k → k < t → M' 77 k = if lb ly k = true then frB M s (fun p => lb z p) k else 0) →
      ∃ M2, fr 77 77 M M2 ∧ (∀ k, 0 ≤ k → k < M 31 0 → M2 77 k = if lb ly k = true then frB M s (fun p => lb z p) k else 0) ∧ ∀ o, aX xc_92 (aSeek xc_92 96) [aR 64, aI s, aJ ly, aU, aU, aU, aR (67 + 5 * axS s), aR (exR s), aI 0, aU, aU] [] (SH L) M2 o →
        aX xc_92 (aSeek xc_92 38) [aR 64, aI s, aJ ly, aU, aJ z, aU, aR (67 + 5 * axS s), aR (exR s), aI t, aU, aU] [] (SH L) M' o := by
    refine upto (M 31 0) (fun t ht M' t0 t1 hf hb => ?_) (fun t ht ih M' t0 t1 hf hb => ?_)
    · have e : t = M 31 0 := by omega
      subst e
      refine ⟨M', hf, hb, fun o r => bl_92_38 ?_⟩
      rw [hf 64 (by omega), hk.2.1, hf 31 (by omega)]
      exact ⟨rfl, fun _ => r, fun q => absurd ht q⟩
    · obtain ⟨hP', hk'⟩ := rP_77 h hk hf
      obtain ⟨M2, f2, v2, r2⟩ := ih (aSet M' 77 t (if lb ly t = true then frB M s (fun p => lb z p) t else 0)) (by omega) (by omega) (fr_set hf (by omega)) (fun k k0 k1 => by
        rw [aSet_q]
        by_cases c : k = t
        · rw [if_pos c, c]
        · rw [if_neg c]; exact hb k k0 (by omega))
      have k86 : ∀ o, aX xc_92 (aSeek xc_92 96) [aR 64, aI s, aJ ly, aU, aU, aU, aR (67 + 5 * axS s), aR (exR s), aI 0, aU, aU] [] (SH L) M2 o → aX xc_92 (aSeek xc_92 86) [aR 64, aI s, aJ ly, aU, aJ z, aU, aR (67 + 5 * axS s), aR (exR s), aI t, aU, aU] [aI (if lb ly t = true then frB M s (fun p => lb z p) t else 0), aI t, aR 77] (SH L) M' o := by
        intro o r
        apply bl_92_86
        rw [aWi (by omega) (by omega)]
        exact ⟨by omega, r2 o r⟩
      refine ⟨M2, f2, v2, fun o r => bl_92_38 ?_⟩
      have k := k86 o r
      have e64 : M' 64 = M 64 := hf 64 (by omega)
      rw [e64, hk.2.1, hf 31 (by omega)]
      refine ⟨rfl, fun q => absurd ht (by omega), fun _ => ⟨M', _, s_84 t0 (by omega), fun q => ?_, fun q => ?_⟩⟩
      · rw [if_neg (fun z => q (bi_1.mpr z))] at k; exact k
      · rw [Classical.not_not, bi_1] at q
        rw [if_pos q] at k
        rw [e64, hk.2.1, hk.1]
        refine ⟨rfl, M', _, ?_, k⟩
        have := s_87 (L := L) hP' (s := s) (t := t) (z := z) t0 (by rw [hf 31 (by omega)]; exact ht)
        have e1 : frB M' s (fun p => lb z p) t = frB M s (fun p => lb z p) t := by
          unfold frB onF cnW lo ext
          rw [hf 1 (by omega), hf (M 1 3) (by have := tx_le (rP_tx h); omega), hf 33 (by omega), hf 34 (by omega), hf 35 (by omega), hf 36 (by omega), hf 37 (by omega)]
        rw [e1, hf 1 (by omega)] at this
        exact this
  obtain ⟨M2, f2, v2, r2⟩ := base 0 M (by omega) n.1 fr_rf (fun k k0 k1 => by omega)
  obtain ⟨M3, f3, v3, r3⟩ := spL (L := L) h hk (ly := ly) hs 0 M2 (by omega) np.1 f2 (fun t t0 t1 => by
    rw [v2 t t0 t1]
    have := frB_le h (s := s) (w := fun p => lb z p) t0 t1
    split <;> omega)
  obtain ⟨hP3, hk3⟩ := rP_77 h hk f3
  -- what was found
  have fnd : ∀ t, ∀ y : Int, 0 ≤ t → t ≤ M 31 0 → xL y → (∀ k, 0 ≤ k → k < 64 → lb y k = (decide (k < t) && qF M M3 s ly k)) →
      ∃ y', aX xc_92 (aSeek xc_92 191) [aR 64, aU, aJ ly, aU, aU, aU, aU, aR (exR s), aJ y, aU, aI t] [] (SH L) M3 ([aJ y'], SH L, M3) ∧ xL y' ∧ ∀ k, 0 ≤ k → k < 64 → lb y' k = (decide (k < M 31 0) && qF M M3 s ly k) := by
    refine upto (M 31 0) (fun t ht y t0 t1 hx hy => ?_) (fun t ht ih y t0 t1 hx hy => ?_)
    · have e : t = M 31 0 := by omega
      subst e
      refine ⟨y, bl_92_191 ?_, hx, hy⟩
      rw [f3 64 (by omega), hk.2.1, f3 31 (by omega)]
      exact ⟨rfl, fun _ => rfl, fun q => absurd ht q⟩
    · have ex := ext_le h (s := s) t0 ht
      have b3 := v3 t t0 ht
      have ve : M3 (exR s) t = ext M s t := by rw [f3 _ (by have := exR_is (s := s); omega), exR_e (M := M)]
      have e90 : aE 90 [aR 64, aI (M3 77 t), aI (M3 (exR s) t)] (SH L) M3 ([aI (bi (decide (M (M 1 3) 2 * ext M s t ≤ 100 * M3 77 t)))], SH L, M3) := by
        have := s_90 (L := L) hP3 hk3 (p := M3 77 t) (e := M3 (exR s) t) (by omega) (by rw [ve]; omega)
        rw [ve, f3 1 (by omega), f3 (M 1 3) (by have := tx_le (rP_tx h); omega)] at this
        rw [ve]
        exact this
      have nx : ∀ y' : Int, xL y' → (∀ k, 0 ≤ k → k < 64 → lb y' k = (lb y k || (decide (k = t) && qF M M3 s ly t))) → ∃ y'', aX xc_92 (aSeek xc_92 241) [aR 64, aU, aJ ly, aU, aU, aU, aU, aR (exR s), aJ y', aU, aI t] [] (SH L) M3 ([aJ y''], SH L, M3) ∧ xL y'' ∧ ∀ k, 0 ≤ k → k < 64 → lb y'' k = (decide (k < M 31 0) && qF M M3 s ly k) := by
        intro y' hx' hy'
        obtain ⟨y'', r, x⟩ := ih y' (by omega) (by omega) hx' (fun k k0 k1 => by
          rw [hy' k k0 k1, hy k k0 k1]
          by_cases c : k = t
          · rw [c, decide_eq_true (show t = t from rfl), decide_eq_true (show t < t + 1 by omega), decide_eq_false (show ¬ t < t by omega)]
            simp
          · rw [decide_eq_false c, Bool.false_and, Bool.or_false]
            congr 1
            apply decide_eq_decide.mpr
            omega)
        refine ⟨y'', bl_92_241 ?_, x⟩
        rw [aWi (by omega) (by omega)]
        exact r
      have e64 : M3 64 = M 64 := f3 64 (by omega)
      by_cases c1 : lb ly t = true
      · by_cases c2 : M (M 1 3) 2 * ext M s t ≤ 100 * M3 77 t
        · have q : qF M M3 s ly t = true := by unfold qF; rw [c1, decide_eq_true c2]; rfl
          obtain ⟨y'', r, x⟩ := nx (aLor y (aLsl 1 t)) xL_or (fun k k0 k1 => by
            rw [lb_or, lb_one t0 (by omega) k0 k1, q, Bool.and_true])
          refine ⟨y'', bl_92_191 ?_, x⟩
          rw [e64, hk.2.1, f3 31 (by omega)]
          exact ⟨rfl, fun q => absurd ht (by omega), fun _ => ⟨M3, _, s_84 t0 (by omega), fun q => absurd (bi_1.mpr c1) q, fun _ => ⟨by omega, by omega, M3, _, e90, fun q => absurd c2 (bid0.mp q), fun _ => r⟩⟩⟩
        · have q : qF M M3 s ly t = false := by unfold qF; rw [decide_eq_false c2, Bool.and_false]
          obtain ⟨y'', r, x⟩ := nx y hx (fun k k0 k1 => by rw [q, Bool.and_false, Bool.or_false])
          refine ⟨y'', bl_92_191 ?_, x⟩
          rw [e64, hk.2.1, f3 31 (by omega)]
          exact ⟨rfl, fun q => absurd ht (by omega), fun _ => ⟨M3, _, s_84 t0 (by omega), fun q => absurd (bi_1.mpr c1) q, fun _ => ⟨by omega, by omega, M3, _, e90, fun _ => r, fun q => absurd (bin c2) q⟩⟩⟩
      · have q : qF M M3 s ly t = false := by
          unfold qF
          cases e : lb ly t
          · rfl
          · exact absurd e c1
        obtain ⟨y'', r, x⟩ := nx y hx (fun k k0 k1 => by rw [q, Bool.and_false, Bool.or_false])
        refine ⟨y'', bl_92_191 ?_, x⟩
        rw [e64, hk.2.1, f3 31 (by omega)]
        exact ⟨rfl, fun q => absurd ht (by omega), fun _ => ⟨M3, _, s_84 t0 (by omega), fun _ => r, fun q => absurd (bi_1.mp (Classical.not_not.mp q)) c1⟩⟩
  obtain ⟨y, r4, hx, hy⟩ := fnd 0 0 (by omega) n.1 ⟨by omega, by omega⟩ (fun k k0 k1 => by rw [lb_0, decide_eq_false (by omega)]; rfl)
  have go : aX xc_92 (aSeek xc_92 33) [aR 64, aI s, aJ ly, aU, aJ z, aU, aR (67 + 5 * axS s), aU, aU, aU, aU] [aR (exR s)] (SH L) M ([aJ y], SH L, M3) := bl_92_33 (r2 _ (r3 _ r4))
  refine ⟨y, M3, en_92 ⟨M, 67 + 5 * axS s, ?_, fun c => ?_, fun c => ⟨fun c2 => ?_, fun c2 => ?_⟩⟩, f3, hx, fun t t0 t1 => ?_, fun t t0 t1 => ?_⟩
  · have := s_83 (L := L) (M := M) (a1 := s)
    have e : (if s = 0 ∨ s = 2 then (72 : Int) else 67) = 67 + 5 * axS s := by unfold axS; split <;> rfl
    rw [e] at this
    exact this
  · apply bl_92_16
    rw [hk.2.1]
    have e : exR s = 36 := if_pos (Or.inl c)
    rw [e] at go
    exact ⟨rfl, go⟩
  · rw [hk.2.1]
    have e : exR s = 37 := if_neg (by omega)
    rw [e] at go
    exact ⟨rfl, go⟩
  · apply bl_92_16
    rw [hk.2.1]
    have e : exR s = 36 := if_pos (Or.inr (by omega))
    rw [e] at go
    exact ⟨rfl, go⟩
  · rw [hy t (by omega) t1, decide_eq_false (by omega)]
    rfl
  · show lb y t = true ↔ _
    have e : ∀ o, 0 ≤ o → o < M 31 0 → lb y o = qF M M3 s ly o := fun o o0 o1 => by rw [hy o o0 (by omega), decide_eq_true o1, Bool.true_and]
    have es : sumI (fun o => if lb y o = true then tA M t s o else 0) 0 (M 31 0) = sumI (fun o => if qF M M3 s ly o = true then tA M t s o else 0) 0 (M 31 0) := sumI_congr 0 (fun o o0 o1 => by rw [e o o0 o1])
    rw [es, ← pr_sum h hk.2.2 hs t0 t1 (fun o => qF M M3 s ly o), e t t0 t1]
    have v := (v3 t t0 t1).2
    rw [v2 t t0 t1] at v
    unfold qF
    rw [Bool.and_eq_true, decide_eq_true_eq]
    constructor
    · rintro ⟨c1, c2⟩
      refine ⟨c1, ?_⟩
      rw [if_pos c1] at v
      unfold qF at v
      rw [← v]
      exact c2
    · rintro ⟨c1, c2⟩
      refine ⟨c1, ?_⟩
      rw [if_pos c1] at v
      unfold qF at v
      rw [v]
      exact c2
end SPR2
