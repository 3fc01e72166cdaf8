/-! tuesday: both -/
section TUE2
variable {L : Nat} {M M1 M2 : aM}
/-- thing i of the bed lies just so as thing j of bed c -/
def alk (M : aM) (c i j : Int) : Bool := decide (M (c + 1) j = M 32 i ∧ M (c + 3) j = M 34 i ∧ M (c + 4) j = M 35 i ∧ M (c + 7) j = M 38 i)
def alC (M : aM) (c k : Int) : Int := sumI (fun i => bi (decide (k = -1 ∨ M 32 i = k) && anyI (fun j => alk M c i j) 0 (M c 0))) 0 (M 31 0)
theorem s_170 {c i : Int} (hc : bOk M c) : aE 170 [aR c, aI (M 32 i), aI (M 34 i), aI (M 35 i), aI (M 38 i)] (SH L) M ([aI (bi (anyI (fun j => alk M c i j) 0 (M c 0)))], SH L, M) := by
  have n := hc.2.1
  have key : ∀ j, 0 ≤ j → aX xc_170 (aSeek xc_170 3) [aR c, aI (M 32 i), aI (M 34 i), aI (M 35 i), aI (M 38 i), aI j] [] (SH L) M ([aI (bi (anyI (fun j => alk M c i j) j (M c 0)))], SH L, M) := by
    refine upto (M c 0) (fun j hj j0 => ?_) (fun j hj ih j0 => ?_)
    · exact bl_170_3 ⟨(bd hc.1).1, fun _ => rI (by rw [anyI_nil hj]; rfl), fun q => absurd hj q⟩
    · have nx : ¬ alk M c i j = true → aX xc_170 (aSeek xc_170 59) [aR c, aI (M 32 i), aI (M 34 i), aI (M 35 i), aI (M 38 i), aI j] [] (SH L) M ([aI (bi (anyI (fun j => alk M c i j) j (M c 0)))], SH L, M) := by
        intro q
        rw [anyI_no hj q]
        apply bl_170_59
        rw [aWi (by omega) (by omega)]
        exact ih (by omega)
      apply bl_170_3
      simp only [bd hc.1]
      refine ⟨trivial, fun q => absurd hj (by omega), fun _ => ⟨trivial, by omega, fun q => nx (fun z => ?_), fun q => ⟨trivial, by omega, fun q1 => nx (fun z => ?_), fun q1 => ⟨trivial, by omega, fun q2 => nx (fun z => ?_), fun q2 => ⟨trivial, by omega, fun q3 => nx (fun z => ?_), fun q3 => rI ?_⟩⟩⟩⟩⟩
      · unfold alk at z; have := of_decide_eq_true z; exact q this.1
      · unfold alk at z; have := of_decide_eq_true z; exact q1 this.2.1
      · unfold alk at z; have := of_decide_eq_true z; exact q2 this.2.2.1
      · unfold alk at z; have := of_decide_eq_true z; exact q3 this.2.2.2
      · rw [anyI_yes hj (by unfold alk; rw [decide_eq_true_eq]; exact ⟨Classical.not_not.mp q, Classical.not_not.mp q1, Classical.not_not.mp q2, Classical.not_not.mp q3⟩)]
        rfl
  exact en_170 (key 0 (by omega))
theorem s_171 (hb : bOk M 31) {c k : Int} (hc : bOk M c) : aE 171 [aR 31, aR c, aI k] (SH L) M ([aI (alC M c k)], SH L, M) := by
  have n := hb.2.1
  have key : ∀ i, ∀ a, 0 ≤ i → 0 ≤ a → a ≤ i → aX xc_171 (aSeek xc_171 5) [aR 31, aR c, aI k, aI a, aI i] [] (SH L) M ([aI (a + sumI (fun i => bi (decide (k = -1 ∨ M 32 i = k) && anyI (fun j => alk M c i j) 0 (M c 0))) i (M 31 0))], SH L, M) := by
    refine upto (M 31 0) (fun i hi a i0 a0 a1 => ?_) (fun i hi ih a i0 a0 a1 => ?_)
    · exact bl_171_5 ⟨rfl, fun _ => rI (by rw [sumI_nil hi]; omega), fun q => absurd hi q⟩
    · have nx : ∀ v : Int, v = a + bi (decide (k = -1 ∨ M 32 i = k) && anyI (fun j => alk M c i j) 0 (M c 0)) → aX xc_171 (aSeek xc_171 68) [aR 31, aR c, aI k, aI v, aI i] [] (SH L) M ([aI (a + sumI (fun i => bi (decide (k = -1 ∨ M 32 i = k) && anyI (fun j => alk M c i j) 0 (M c 0))) i (M 31 0))], SH L, M) := by
        intro v hv
        have b := bi_le (decide (k = -1 ∨ M 32 i = k) && anyI (fun j => alk M c i j) 0 (M c 0))
        apply bl_171_68
        rw [aWi (by omega) (by omega), sumI_step hi, ← Int.add_assoc, ← hv]
        exact ih v (by omega) (by omega) (by omega)
      have k30 : (k = -1 ∨ M 32 i = k) → aX xc_171 (aSeek xc_171 30) [aR 31, aR c, aI k, aI a, aI i] [] (SH L) M ([aI (a + sumI (fun i => bi (decide (k = -1 ∨ M 32 i = k) && anyI (fun j => alk M c i j) 0 (M c 0))) i (M 31 0))], SH L, M) := by
        intro q
        apply bl_171_30
        simp only [bd bd31]
        refine ⟨trivial, by omega, trivial, by omega, trivial, by omega, trivial, by omega, (bd hc.1).1, M, _, s_170 (i := i) hc, fun q2 => nx a ?_, fun q2 => ?_⟩
        · rw [bi_0.mp q2, Bool.and_false]; simp [bi]
        · rw [aWi (by omega) (by omega)]
          refine nx (a + 1) ?_
          rw [bi_0, Bool.not_eq_false] at q2
          rw [q2, decide_eq_true q]; rfl
      apply bl_171_5
      simp only [bd bd31]
      refine ⟨trivial, fun q => absurd hi (by omega), fun _ => ⟨fun q => k30 (Or.inl q), fun q => ⟨trivial, by omega, fun q2 => nx a ?_, fun q2 => k30 (Or.inr (Classical.not_not.mp q2))⟩⟩⟩
      have q2' : ¬ M 32 i = k := q2
      rw [decide_eq_false (by omega)]; simp [bi]
  have := key 0 0 (by omega) (by omega) (by omega)
  rw [Int.zero_add] at this
  exact en_171 this
/-- the same count from the other side -/
def alM (M : aM) (c k : Int) : Int := sumI (fun j => bi (decide (k = -1 ∨ M (c + 1) j = k) && anyI (fun i => alk M c i j) 0 (M 31 0))) 0 (M c 0)
theorem any_sum {p : Int → Bool} {n : Int} (h : ∀ i j, 0 ≤ i → i < n → 0 ≤ j → j < n → p i = true → p j = true → i = j) : bi (anyI p 0 n) = sumI (fun i => bi (p i)) 0 n := by
  cases e : anyI p 0 n
  · refine (sumI_0 0 (fun i i0 i1 => ?_)).symm
    cases q : p i
    · rfl
    · have : anyI p 0 n = true := (anyI_iff 0).mpr ⟨i, i0, i1, q⟩
      rw [e] at this; cases this
  · rw [anyI_iff] at e
    obtain ⟨i, i0, i1, q⟩ := e
    rw [sumI_pick (t := i) 0 i0 i1 (fun j j0 j1 ji => ?_), q]
    cases r : p j
    · rfl
    · exact absurd (h j i j0 j1 i0 i1 r q) ji
theorem al_eq {c s : Int} (hb : rB M 31 0) (hc : rB M c s) {k : Int} : alC M c k = alM M c k := by
  have one : ∀ (b r : Int), rB M b r → ∀ i j, 0 ≤ i → i < M b 0 → 0 ≤ j → j < M b 0 → M (b + 3) i = M (b + 3) j → M (b + 4) i = M (b + 4) j → i = j := by
    intro b r h i j i0 i1 j0 j1 e1 e2
    by_cases d : i = j
    · exact d
    · have l := h.2.2.2.2 i j i0 i1 j0 j1 d
      have a := h.1.2.2 i i0 i1
      have b := h.1.2.2 j j0 j1
      omega
  have e1 : ∀ i, 0 ≤ i → i < M 31 0 → bi (decide (k = -1 ∨ M 32 i = k) && anyI (fun j => alk M c i j) 0 (M c 0)) = sumI (fun j => bi (decide (k = -1 ∨ M 32 i = k) && alk M c i j)) 0 (M c 0) := by
    intro i i0 i1
    cases q : decide (k = -1 ∨ M 32 i = k)
    · exact (sumI_0 0 (fun j j0 j1 => rfl)).symm
    · rw [Bool.true_and, any_sum (fun a b a0 a1 b0 b1 x y => ?_)]
      · exact sumI_congr 0 (fun j j0 j1 => by rw [Bool.true_and])
      · unfold alk at x y
        have x' := of_decide_eq_true x
        have y' := of_decide_eq_true y
        exact one c s hc a b a0 a1 b0 b1 (by omega) (by omega)
  have e2 : ∀ j, 0 ≤ j → j < M c 0 → bi (decide (k = -1 ∨ M (c + 1) j = k) && anyI (fun i => alk M c i j) 0 (M 31 0)) = sumI (fun i => bi (decide (k = -1 ∨ M 32 i = k) && alk M c i j)) 0 (M 31 0) := by
    intro j j0 j1
    have sw : ∀ i, (decide (k = -1 ∨ M (c + 1) j = k) && alk M c i j) = (decide (k = -1 ∨ M 32 i = k) && alk M c i j) := by
      intro i
      cases q : alk M c i j
      · rw [Bool.and_false, Bool.and_false]
      · unfold alk at q
        have q' := of_decide_eq_true q
        rw [q'.1]
    rw [sumI_congr (g := fun i => bi (decide (k = -1 ∨ M (c + 1) j = k) && alk M c i j)) 0 (fun i i0 i1 => by rw [sw i])]
    cases q : decide (k = -1 ∨ M (c + 1) j = k)
    · exact (sumI_0 0 (fun j j0 j1 => rfl)).symm
    · rw [Bool.true_and, any_sum (fun a b a0 a1 b0 b1 x y => ?_)]
      · exact sumI_congr 0 (fun j j0 j1 => by rw [Bool.true_and])
      · unfold alk at x y
        have x' := of_decide_eq_true x
        have y' := of_decide_eq_true y
        refine one 31 0 hb a b a0 a1 b0 b1 ?_ ?_
        · show M 34 a = M 34 b; omega
        · show M 35 a = M 35 b; omega
  unfold alC alM
  rw [sumI_congr 0 e1, sumI_congr 0 e2, sumI_swap (f := fun i j => bi (decide (k = -1 ∨ M 32 i = k) && alk M c i j))]
def mvV (M : aM) (c : Int) : Int := sumI (fun k => min (cntK M 31 k) (cntK M c k) - alM M c k) 0 14
def tuV (M : aM) (s w : Int) : Int := if (0 ≤ s ∧ s < 3) ∧ (0 ≤ w ∧ w ≤ 2) ∧ M (40 + 8 * s) 9 = 1 then (if w = 0 then alM M (40 + 8 * s) (-1) else if w = 1 then mvV M (40 + 8 * s) else M (40 + 8 * s) 0 - alM M (40 + 8 * s) (-1) - mvV M (40 + 8 * s)) else -1
theorem al_le {c k : Int} (hc : bOk M c) : 0 ≤ alM M c k ∧ alM M c k ≤ 40 := by
  have n := hc.2.1
  have a := sumI_le (f := fun j => bi (decide (k = -1 ∨ M (c + 1) j = k) && anyI (fun i => alk M c i j) 0 (M 31 0))) (n := M c 0) (c := 1) 0 (fun _ _ _ => bi_le _)
  have b := a.2 n.1
  unfold alM
  omega
theorem ck_le {c k : Int} (hc : bOk M c) : 0 ≤ cntK M c k ∧ cntK M c k ≤ 40 := by
  have n := hc.2.1
  have a := sumI_le (f := fun j => bi (decide (M (c + 1) j = k))) (n := M c 0) (c := 1) 0 (fun _ _ _ => bi_le _)
  have b := a.2 n.1
  unfold cntK
  omega
theorem s_172 (h : rP M) (hs : rS M) {s w : Int} : aE 172 [aR 1, aI s, aI w] (SH L) M ([aI (tuV M s w)], SH L, M) := by
  have hb := h.2.1
  have hb1 := hb.1
  by_cases c : (0 ≤ s ∧ s < 3) ∧ (0 ≤ w ∧ w ≤ 2) ∧ M (40 + 8 * s) 9 = 1
  · obtain ⟨c1, c2, c3⟩ := c
    obtain ⟨sf, sk, sb⟩ := sl_39 (L := L) c1.1 c1.2
    have l39 : aLn (SH L) 5 39 = 3 := rfl
    rcases hs.2.2 s c1.1 c1.2 with ⟨a, -⟩ | ⟨-, -, -, eB, -⟩
    · omega
    · have hc1 := eB.1
      have n := hc1.2.1
      have a1 := al_le (k := -1) hc1
      have loop : ∀ k, ∀ a, 0 ≤ k → (-(80 * k) ≤ a ∧ a ≤ 80 * k) → a + sumI (fun k => min (cntK M 31 k) (cntK M (40 + 8 * s) k) - alM M (40 + 8 * s) k) k 14 = mvV M (40 + 8 * s) → ¬ w = 0 → aX xc_172 (aSeek xc_172 57) [aR 1, aI s, aI w, aI (alM M (40 + 8 * s) (-1)), aI a, aI k] [] (SH L) M ([aI (if w = 1 then mvV M (40 + 8 * s) else M (40 + 8 * s) 0 - alM M (40 + 8 * s) (-1) - mvV M (40 + 8 * s))], SH L, M) := by
        refine upto 14 (fun k hk a k0 ka e w0 => ?_) (fun k hk ih a k0 ka e w0 => ?_)
        · rw [sumI_nil hk, Int.add_zero] at e
          by_cases k14 : k = 14
          · refine bl_172_57 ⟨fun _ => ⟨fun q => ⟨by omega, ?_⟩, fun q => rI ?_⟩, fun q => absurd hk q⟩
            · rw [sf]
              refine ⟨sk, rI ?_⟩
              rw [if_neg q, aWi (z := M (40 + 8 * s) 0 - alM M (40 + 8 * s) (-1)) (by omega) (by omega), aWi (by omega) (by omega), e]
            · rw [if_pos (Classical.not_not.mp q), e]
          · refine bl_172_57 ⟨fun _ => ⟨fun q => ⟨by omega, ?_⟩, fun q => rI ?_⟩, fun q => absurd hk q⟩
            · rw [sf]
              refine ⟨sk, rI ?_⟩
              have ml : -2000 ≤ mvV M (40 + 8 * s) ∧ mvV M (40 + 8 * s) ≤ 2000 := by
                have x1 := sumI_mono (f := fun k => min (cntK M 31 k) (cntK M (40 + 8 * s) k) - alM M (40 + 8 * s) k) (g := fun _ => 40) (n := 14) 0 (fun j _ _ => by
                  have := ck_le (k := j) hb1
                  have := al_le (k := j) hc1
                  omega)
                have x2 := sumI_mono (f := fun _ => -40) (g := fun k => min (cntK M 31 k) (cntK M (40 + 8 * s) k) - alM M (40 + 8 * s) k) (n := 14) 0 (fun j _ _ => by
                  have := ck_le (k := j) hb1
                  have := ck_le (k := j) hc1
                  have := al_le (k := j) hc1
                  omega)
                have x3 : sumI (fun _ => (40 : Int)) 0 14 = 560 := rfl
                have x4 : sumI (fun _ => (-40 : Int)) 0 14 = -560 := rfl
                unfold mvV
                omega
              rw [if_neg q, aWi (z := M (40 + 8 * s) 0 - alM M (40 + 8 * s) (-1)) (by omega) (by omega), e, aWi (by omega) (by omega)]
            · rw [if_pos (Classical.not_not.mp q), e]
        · have b1 := ck_le (k := k) hb1
          have b2 := ck_le (k := k) hc1
          have b3 := al_le (k := k) hc1
          have e1 : aE 59 [aR 31, aI k] (SH L) M ([aI (cntK M 31 k)], SH L, M) := s_59 hb1
          have e2 : aE 59 [aR (40 + 8 * s), aI k] (SH L) M ([aI (cntK M (40 + 8 * s) k)], SH L, M) := s_59 hc1
          have e3 := s_171 (L := L) hb1 (k := k) hc1
          rw [al_eq hb eB] at e3
          refine bl_172_57 ⟨fun q => absurd hk (by omega), fun _ => ⟨M, _, e1, by omega, ?_⟩⟩
          rw [sf]
          refine ⟨sk, M, _, e2, by omega, M, _, e3, ?_⟩
          rw [sumI_step hk, ← Int.add_assoc] at e
          rw [aWi (z := min (cntK M 31 k) (cntK M (40 + 8 * s) k) - alM M (40 + 8 * s) k) (by omega) (by omega), aWi (by omega) (by omega), aWi (by omega) (by omega)]
          exact ih _ (by omega) (by omega) e w0
      have ev : tuV M s w = if w = 0 then alM M (40 + 8 * s) (-1) else if w = 1 then mvV M (40 + 8 * s) else M (40 + 8 * s) 0 - alM M (40 + 8 * s) (-1) - mvV M (40 + 8 * s) := if_pos ⟨c1, c2, c3⟩
      rw [ev]
      have e3 := s_171 (L := L) hb1 (k := -1) hc1
      rw [al_eq hb eB] at e3
      refine en_172 ⟨M, _, s_169, fun q => absurd c1 (bid0.mp q), fun _ => ⟨fun q => absurd q (by omega), fun _ => ⟨fun q => absurd q (by omega), fun _ => ⟨by omega, ?_⟩⟩⟩⟩
      rw [sf]
      refine ⟨sk, fun _ => ⟨by omega, M, _, e3, fun q => ?_, fun q => ?_⟩, fun q => absurd (by omega) q⟩
      · have := loop 0 0 (by omega) (by omega) (by unfold mvV; omega) q
        rw [if_neg q]
        exact this
      · rw [if_pos (Classical.not_not.mp q)]
  · have ev : tuV M s w = -1 := if_neg c
    rw [ev]
    refine en_172 ⟨M, _, s_169, fun q => rfl, fun q1 => ⟨fun q => rfl, fun q2 => ⟨fun q => rfl, fun q3 => ?_⟩⟩⟩
    rw [bid0, Classical.not_not] at q1
    obtain ⟨sf, sk, sb⟩ := sl_39 (L := L) q1.1 q1.2
    refine ⟨by rw [show aLn (SH L) 5 39 = 3 from rfl]; omega, ?_⟩
    rw [sf]
    refine ⟨sk, fun q4 => ?_, fun _ => rfl⟩
    rcases hs.2.2 s q1.1 q1.2 with ⟨a, -⟩ | ⟨a, -⟩
    · exact absurd a q4
    · exact absurd ⟨q1, by omega, a⟩ c
end TUE2
