/-! what is HELD: the model -/
section HLM
variable {L : Nat} {M M1 M2 : aM}
/-- the marks are those of what lies by ly, with tg tight -/
def mS (M : aM) (ly : Int → Bool) (tg : Int) : Prop := (∀ s t, 0 ≤ s → s < 4 → 0 ≤ t → t < M 31 0 → M 194 (40 * s + t) = bi (psh M ly tg s t) ∧ M 195 (40 * s + t) = bi (brn M ly s t)) ∧ ∀ t, 0 ≤ t → t < M 31 0 → lyM M t = ly t
theorem s_246 (h : rP M) {ly : Int → Bool} (hl : ∀ t, 0 ≤ t → t < M 31 0 → lyM M t = ly t) : ∃ M1, aE 246 [aR 145] (SH L) M ([], SH L, M1) ∧ fr 194 196 M M1 ∧ mS M1 ly (M 145 61) := by
  have n := rP_n h
  have key : ∀ s, ∀ M' : aM, 0 ≤ s → s ≤ 4 → fr 194 196 M M' → (∀ r t, 0 ≤ r → r < s → 0 ≤ t → t < M 31 0 → M' 194 (40 * r + t) = bi (psh M ly (M 145 61) r t) ∧ M' 195 (40 * r + t) = bi (brn M ly r t)) →
      ∃ M1, aX xc_246 (aSeek xc_246 2) [aR 145, aI s] [] (SH L) M' ([], SH L, M1) ∧ fr 194 196 M M1 ∧ ∀ r t, 0 ≤ r → r < 4 → 0 ≤ t → t < M 31 0 → M1 194 (40 * r + t) = bi (psh M ly (M 145 61) r t) ∧ M1 195 (40 * r + t) = bi (brn M ly r t) := by
    refine upto 4 (fun s hs M' s0 s1 hf hv => ?_) (fun s hs ih M' s0 s1 hf hv => ?_)
    · exact ⟨M', bl_246_2 ⟨fun _ => rfl, fun q => absurd hs q⟩, hf, fun r t r0 r1 t0 t1 => hv r t r0 (by omega) t0 t1⟩
    · have kk : ke M M' := fun a ha => hf a (by omega)
      have hP' := ke_rP h kk
      have e145 : M' 145 = M 145 := hf 145 (by omega)
      have n' : M' 31 0 = M 31 0 := by rw [kk 31 (by omega)]
      have hl' : ∀ t, 0 ≤ t → t < M' 31 0 → lyM M' t = ly t := fun t t0 t1 => by
        unfold lyM
        rw [hf 193 (by omega)]
        exact hl t t0 (by omega)
      obtain ⟨M1, r1, f1, z1, q1⟩ := s_245 (L := L) hP' (s := s) (p := 1) ⟨s0, hs⟩
      have k1 : ke M' M1 := ke_sc (spF_sc f1)
      have hP1 := ke_rP hP' k1
      have n1 : M1 31 0 = M 31 0 := by rw [k1 31 (by omega), n']
      obtain ⟨M2, r2, f2, z2, q2⟩ := s_245 (L := L) hP1 (s := s) (p := 0) ⟨s0, hs⟩
      have f12 : fr 194 196 M M2 := fun a ha => (spF_c f2 (by omega)).trans ((spF_c f1 (by omega)).trans (hf a (by omega)))
      have w1 : wB M' 1 (M' 145 61) s = fun p => wdg M (M 145 61) s p := by
        unfold wB
        rw [if_neg (by omega), e145]
        exact funext fun p => ke_wdg h kk
      have w2 : wB M1 0 (M1 145 61) s = fun _ => true := if_pos rfl
      have v1 : ∀ t, 0 ≤ t → t < M 31 0 → mkB M1 s 1 t = psh M ly (M 145 61) s t := by
        intro t t0 t1
        have := pF_of hP' ⟨s0, hs⟩ (bs' := frB M s (fun p => wdg M (M 145 61) s p)) hl' (fun t t0 t1 => by rw [w1, ke_frB h kk]) q1 t t0 (by omega)
        rw [this, pF_ke h kk]
        rfl
      have v2 : ∀ t, 0 ≤ t → t < M 31 0 → mkB M2 s 0 t = brn M ly s t := by
        intro t t0 t1
        have := pF_of hP1 ⟨s0, hs⟩ (ly' := ly) (bs' := frB M s (fun _ => true)) (fun t t0 t1 => by
          unfold lyM
          rw [spF_c f1 (by omega)]
          exact hl' t t0 (by omega)) (fun t t0 t1 => by rw [w2, ke_frB hP' k1, ke_frB h kk]) q2 t t0 (by omega)
        rw [this, pF_ke hP' k1, pF_ke h kk]
        rfl
      have r0 : mkR 1 = 194 := rfl
      have mk0 : mkR 0 = 195 := rfl
      have keep2 : ∀ b, M2 194 b = M1 194 b := fun b => f2 194 b (by omega) (by rw [mk0]; omega)
      have keep1 : ∀ b, ¬ (40 * s ≤ b ∧ b < 40 * s + 40) → M1 194 b = M' 194 b := fun b hb => f1 194 b (by omega) (fun q => hb q.2)
      have keep3 : ∀ b, ¬ (40 * s ≤ b ∧ b < 40 * s + 40) → M2 195 b = M' 195 b := fun b hb => (f2 195 b (by omega) (fun q => hb q.2)).trans (f1 195 b (by omega) (by rw [r0]; omega))
      obtain ⟨M3, r3, x⟩ := ih M2 (by omega) (by omega) f12 (fun r t r0' r1' t0 t1 => by
        by_cases c : r = s
        · subst c
          have a1 := v1 t t0 t1
          have a2 := v2 t t0 t1
          have b1 := z1 t t0 (by omega)
          have b2 := z2 t t0 (by omega)
          unfold mkB at a1 a2
          rw [r0] at a1 b1
          rw [mk0] at a2 b2
          constructor
          · rw [keep2, ← a1]
            rcases b1 with q | q
            · rw [q]; rfl
            · rw [q]; rfl
          · rw [← a2]
            rcases b2 with q | q
            · rw [q]; rfl
            · rw [q]; rfl
        · rw [keep2, keep1 _ (by omega), keep3 _ (by omega)]
          exact hv r t r0' (by omega) t0 t1)
      refine ⟨M3, bl_246_2 ⟨fun q => absurd q (by omega), fun _ => ⟨M1, r1, M2, r2, ?_⟩⟩, x⟩
      rw [aWi (by omega) (by omega)]
      exact r3
  obtain ⟨M1, r, f, v⟩ := key 0 M (by omega) (by omega) fr_rf (fun r t r0 r1 _ _ => by omega)
  have kk : ke M M1 := fun a ha => f a (by omega)
  refine ⟨M1, en_246 r, f, fun s t s0 s1 t0 t1 => ?_, fun t t0 t1 => ?_⟩
  · rw [psh_ke h kk, brn_ke h kk]
    rw [kk 31 (by omega)] at t1
    exact v s t s0 s1 t0 t1
  · unfold lyM
    rw [f 193 (by omega)]
    rw [kk 31 (by omega)] at t1
    exact hl t t0 t1
theorem mS_ke (h : rP M) (k : ke M M1) {ly : Int → Bool} {tg : Int} (hm : mS M ly tg) (h3 : M1 193 = M 193) (h4 : M1 194 = M 194) (h5 : M1 195 = M 195) : mS M1 ly tg := by
  unfold mS lyM
  rw [h3, h4, h5, k 31 (by omega)]
  simp only [psh_ke h k, brn_ke h k]
  exact hm
theorem s_248 (h : rP M) {ly : Int → Bool} {tg s t : Int} (hm : mS M ly tg) (hs : 0 ≤ s ∧ s < 4) (t0 : 0 ≤ t) (t1 : t < M 31 0) : aE 248 [aR 145, aI t, aI s] (SH L) M ([aI (bi (psh M ly tg s t && brn M ly ((s + 2) % 4) t))], SH L, M) := by
  have n := rP_n h
  have a := hm.1 s t hs.1 hs.2 t0 t1
  have b := hm.1 ((s + 2) % 4) t (by omega) (by omega) t0 t1
  apply en_248
  simp only [ln0, ln1, ln2, ln3, ln4]
  rw [aWi (z := s + 2) (by omega) (by omega), aRem_nn (by omega) (by omega) (by omega) (by omega), aWi (z := 40 * s) (by omega) (by omega), aWi (z := 40 * s + t) (by omega) (by omega), aWi (z := 40 * ((s + 2) % 4)) (by omega) (by omega), aWi (z := 40 * ((s + 2) % 4) + t) (by omega) (by omega), a.1, b.2]
  refine ⟨by omega, fun q => rI ?_, fun q => ⟨by omega, fun q2 => rI ?_, fun q2 => rI ?_⟩⟩
  · rw [bi_0.mp q]; rfl
  · rw [bi_0.mp q2, Bool.and_false]; rfl
  · rw [bi_0, Bool.not_eq_false] at q q2
    rw [q, q2]; rfl
theorem s_249 (h : rP M) {ly : Int → Bool} {tg t : Int} (hm : mS M ly tg) (t0 : 0 ≤ t) (t1 : t < M 31 0) : aE 249 [aR 145, aI t] (SH L) M ([aI (bi (hAc M ly tg t) + 2 * bi (hAl M ly tg t))], SH L, M) := by
  have k23 : ∀ x : Int, x = bi (hAc M ly tg t) → aX xc_249 (aSeek xc_249 23) [aR 145, aI t] [aI x] (SH L) M ([aI (bi (hAc M ly tg t) + 2 * bi (hAl M ly tg t))], SH L, M) := by
    intro x hx
    have b := bi_le (hAc M ly tg t)
    refine bl_249_23 ⟨M, _, s_248 h hm (by omega) t0 t1, fun q => rI ?_, fun q => ⟨M, _, s_248 h hm (by omega) t0 t1, fun q2 => rI ?_, fun q2 => rI ?_⟩⟩
    · rw [bi_0, Bool.not_eq_false] at q
      rw [aWi (by omega) (by omega)]
      unfold hAl
      rw [show (2 : Int) = (0 + 2) % 4 from rfl, q, hx]; simp [bi]
    · rw [Classical.not_not, bi_0] at q
      rw [bi_0] at q2
      rw [aWi (by omega) (by omega)]
      unfold hAl
      have q' : (psh M ly tg 0 t && brn M ly 2 t) = false := q
      have q2' : (psh M ly tg 2 t && brn M ly 0 t) = false := q2
      rw [q', q2', hx]; simp [bi]
    · rw [bi_0, Bool.not_eq_false] at q2
      rw [aWi (by omega) (by omega)]
      unfold hAl
      have q2' : (psh M ly tg 2 t && brn M ly 0 t) = true := q2
      rw [q2', hx, Bool.or_true]; simp [bi]
  refine en_249 ⟨M, _, s_248 h hm (by omega) t0 t1, fun q => bl_249_18 (k23 1 ?_), fun q => ⟨M, _, s_248 h hm (by omega) t0 t1, fun q2 => k23 0 ?_, fun q2 => bl_249_18 (k23 1 ?_)⟩⟩
  · rw [bi_0, Bool.not_eq_false] at q
    have q' : (psh M ly tg 1 t && brn M ly 3 t) = true := q
    unfold hAc
    rw [q', Bool.or_true]; rfl
  · rw [Classical.not_not, bi_0] at q
    rw [bi_0] at q2
    have q' : (psh M ly tg 1 t && brn M ly 3 t) = false := q
    have q2' : (psh M ly tg 3 t && brn M ly 1 t) = false := q2
    unfold hAc
    rw [q', q2']; rfl
  · rw [bi_0, Bool.not_eq_false] at q2
    have q2' : (psh M ly tg 3 t && brn M ly 1 t) = true := q2
    unfold hAc
    rw [q2', Bool.true_or]; rfl
theorem s_250 (h : rP M) {ly : Int → Bool} {tg t : Int} (hm : mS M ly tg) (t0 : 0 ≤ t) (t1 : t < M 31 0) : aE 250 [aR 145, aI t] (SH L) M ([aI (bi (hld M ly tg t))], SH L, M) := by
  have n := rP_n h
  have m := rP_m h t0 t1
  have a := rP_i h t0 t1
  have l := hm.2 t t0 t1
  have b1 := bi_le (hAc M ly tg t)
  have b2 := bi_le (hAl M ly tg t)
  refine en_250 ⟨M, _, s_249 h hm t0 t1, ?_⟩
  simp only [ln0, ln1, ln2, ln3, ln4, m.1]
  have m8 : M 154 (M 32 t) = M 33 t := by rw [← m.1]; exact m.2.2.2.2.2.2.2.1
  rw [m8]
  unfold hld hRd
  rw [← l]
  unfold lyM
  refine ⟨by omega, fun q => rI ?_, fun q => ⟨by omega, by omega, fun q1 => ⟨fun q2 => rI ?_, fun q2 => rI ?_⟩, fun q1 => ⟨fun q2 => rI ?_, fun q2 => rI ?_⟩⟩⟩
  · rw [decide_eq_false (by omega)]; rfl
  · rw [decide_eq_true q, Bool.true_and, if_neg q1, bi_0.mp (show bi (hAc M ly tg t) = 0 by omega), bi_0.mp (show bi (hAl M ly tg t) = 0 by omega)]; rfl
  · rw [decide_eq_true q, Bool.true_and, if_neg q1]
    cases x : hAc M ly tg t
    · cases y : hAl M ly tg t
      · rw [x, y] at q2; exact absurd (by decide) q2
      · rfl
    · rfl
  · rw [decide_eq_true q, Bool.true_and, if_pos (by omega)]
    cases x : hAc M ly tg t
    · rfl
    · cases y : hAl M ly tg t
      · rfl
      · rw [x, y] at q2; exact absurd rfl q2
  · rw [decide_eq_true q, Bool.true_and, if_pos (by omega)]
    cases x : hAc M ly tg t
    · cases y : hAl M ly tg t
      · rw [x, y] at q2; exact absurd (by decide) q2
      · rw [x, y] at q2; exact absurd (by decide) q2
    · cases y : hAl M ly tg t
      · rw [x, y] at q2; exact absurd (by decide) q2
      · rfl
theorem s_251 (h : rP M) {ly : Int → Bool} {tg : Int} (hm : mS M ly tg) : aE 251 [aR 145] (SH L) M ([aI (sumI (fun t => bi (hld M ly tg t)) 0 (M 31 0))], SH L, M) := by
  have n := rP_n h
  have key : ∀ t, ∀ a, 0 ≤ t → 0 ≤ a → a ≤ t → aX xc_251 (aSeek xc_251 4) [aR 145, aI a, aI t] [] (SH L) M ([aI (a + sumI (fun t => bi (hld M ly tg t)) t (M 31 0))], SH L, M) := by
    refine upto (M 31 0) (fun t ht a t0 a0 a1 => ?_) (fun t ht ih a t0 a0 a1 => ?_)
    · exact bl_251_4 ⟨fun _ => rI (by rw [sumI_nil ht]; omega), fun q => absurd ht (by omega)⟩
    · have b := bi_le (hld M ly tg t)
      have k : ∀ x : Int, x = bi (hld M ly tg t) → aX xc_251 (aSeek xc_251 28) [aR 145, aU, aI t] [aI x, aI a] (SH L) M ([aI (a + sumI (fun t => bi (hld M ly tg t)) t (M 31 0))], SH L, M) := by
        intro x hx
        apply bl_251_28
        rw [aWi (by omega) (by omega), aWi (by omega) (by omega), sumI_step ht, ← Int.add_assoc, ← hx]
        exact ih _ (by omega) (by omega) (by omega)
      exact bl_251_4 ⟨fun q => absurd ht (by omega), fun _ => ⟨M, _, s_250 h hm t0 ht, fun q => k 0 q.symm, fun q => k 1 (by have := bi_01 (hld M ly tg t); omega)⟩⟩
  have := key 0 0 (by omega) (by omega) (by omega)
  rw [Int.zero_add] at this
  exact en_251 this
/-- all lies, what is tight now -/
theorem s_247 (h : rP M) : ∃ M1, aE 247 [aR 145] (SH L) M ([], SH L, M1) ∧ sc M M1 ∧ (∀ a, a ≠ 145 → (a < 193 ∨ 196 < a) → M1 a = M a) ∧ (∀ j, j ≠ 61 → M1 145 j = M 145 j) ∧ mS M1 (fun _ => true) (M 180 0) := by
  have key : ∀ k, ∀ M' : aM, 0 ≤ k → k ≤ 40 → fr 193 193 M M' → (∀ j, 0 ≤ j → j < k → M' 193 j = 1) → ∃ M1, aX xc_247 (aSeek xc_247 2) [aR 145, aI k] [] (SH L) M' ([], SH L, M1) ∧ sc M M1 ∧ (∀ a, a ≠ 145 → (a < 193 ∨ 196 < a) → M1 a = M a) ∧ (∀ j, j ≠ 61 → M1 145 j = M 145 j) ∧ mS M1 (fun _ => true) (M 180 0) := by
    refine upto 40 (fun k hk M' k0 k1 hf hv => ?_) (fun k hk ih M' k0 k1 hf hv => ?_)
    · have g : sc M M' := ⟨fun a x y z => hf a (by omega), fun j _ => by rw [hf 145 (by omega)]⟩
      have g2 : sc M (aSet M' 145 61 (M' 180 0)) := sc_fld g (by omega)
      have hP := ke_rP h (ke_sc g2)
      have n := rP_n h
      obtain ⟨M1, r, f, m⟩ := s_246 (L := L) hP (ly := fun _ => true) (fun t t0 t1 => by
        unfold lyM
        rw [ke_sc g2 31 (by omega)] at t1
        rw [aSet_c (by omega), hv t t0 (by omega)]
        rfl)
      rw [aSet_e, hf 180 (by omega)] at m
      have f2 : ∀ a, a ≠ 145 → (a < 193 ∨ 196 < a) → M1 a = M a := fun a x y => (f a (by omega)).trans ((aSet_c x).trans (hf a (by omega)))
      have f3 : ∀ j, j ≠ 61 → M1 145 j = M 145 j := fun j hj => by rw [f 145 (by omega), aSet_i hj, hf 145 (by omega)]
      exact ⟨M1, bl_247_2 ⟨fun _ => ⟨M1, r, rfl⟩, fun q => absurd hk q⟩, ⟨fun a x y z => f2 a x (by omega), fun j hj => f3 j (by omega)⟩, f2, f3, m⟩
    · obtain ⟨M1, r, x⟩ := ih (aSet M' 193 k 1) (by omega) (by omega) (fr_set hf (by omega)) (fun j j0 j1 => by
        rw [aSet_q]
        by_cases c : j = k
        · rw [if_pos c]
        · rw [if_neg c]; exact hv j j0 (by omega))
      refine ⟨M1, bl_247_2 ⟨fun q => absurd q (by omega), fun _ => ?_⟩, x⟩
      simp only [ln0, ln1, ln2, ln3, ln4]
      rw [aWi (by omega) (by omega)]
      exact ⟨⟨by omega, Or.inr trivial⟩, r⟩
  obtain ⟨M1, r, x⟩ := key 0 M (by omega) (by omega) fr_rf (fun j j0 j1 => by omega)
  exact ⟨M1, en_247 r, x⟩
end HLM
