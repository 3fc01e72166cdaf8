/-! joints: the model -/
section JNM
variable {L : Nat} {M M1 : aM}
theorem s_264 (h : rP M) {al ln p : Int} : aE 264 [aR 145, aI al, aI ln, aI p] (SH L) M ([aI (bi (jt M al ln p))], SH L, M) := by
  have n := rP_n h
  have key : ∀ i, 0 ≤ i → i ≤ M 31 0 → aX xc_264 (aSeek xc_264 6) [aR 145, aI al, aI ln, aI p, aI (bi (anyI (jtH M al ln p) 0 i)), aI i, aU, aU, aU, aU] [] (SH L) M ([aI (bi (jt M al ln p))], SH L, M) := by
    refine upto (M 31 0) (fun i hi i0 i1 => ?_) (fun i hi ih i0 i1 => ?_)
    · have e : i = M 31 0 := by omega
      subst e
      exact bl_264_6 ⟨fun _ => ⟨bi_01 _, rfl⟩, fun q => absurd hi (by omega)⟩
    · have a := rP_i h i0 hi
      obtain ⟨-, b2, b3, -⟩ := rP_m h i0 hi
      have nx : ∀ v : Int, v = bi (anyI (jtH M al ln p) 0 i || jtH M al ln p i) → aX xc_264 (aSeek xc_264 164) [aR 145, aI al, aI ln, aI p, aI v, aI i, aU, aU, aU, aU] [] (SH L) M ([aI (bi (jt M al ln p))], SH L, M) := by
        intro v hv
        apply bl_264_164
        rw [aWi (by omega) (by omega), hv, ← anyI_snoc i0]
        exact ih (by omega) (by omega)
      have k140 : ∀ lo hi' : Int, jtH M al ln p i = decide (lo = ln ∨ hi' = ln) → aX xc_264 (aSeek xc_264 140) [aR 145, aI al, aI ln, aI p, aI (bi (anyI (jtH M al ln p) 0 i)), aI i, aU, aU, aI lo, aI hi'] [] (SH L) M ([aI (bi (jt M al ln p))], SH L, M) := by
        intro lo hi' e
        have k157 : (anyI (jtH M al ln p) 0 i || jtH M al ln p i) = true → aX xc_264 (aSeek xc_264 157) [aR 145, aI al, aI ln, aI p, aU, aI i, aU, aU, aU, aU] [] (SH L) M ([aI (bi (jt M al ln p))], SH L, M) := fun c => bl_264_157 (bl_264_162 (nx 1 (by rw [c]; rfl)))
        refine bl_264_140 ⟨fun q => k157 ?_, fun q => ⟨fun q1 => k157 ?_, fun q1 => ⟨fun q2 => bl_264_162 (nx 0 ?_), fun q2 => k157 ?_⟩⟩⟩
        · rw [bi_0, Bool.not_eq_false] at q; rw [q]; rfl
        · rw [e, decide_eq_true (Or.inl q1), Bool.or_true]
        · rw [Classical.not_not, bi_0] at q
          rw [q, e, decide_eq_false (by omega)]; rfl
        · rw [e, decide_eq_true (Or.inr (Classical.not_not.mp q2)), Bool.or_true]
      -- a thing over the line: none has a side there
      have over : (if al = 0 then (M 34 i ≤ p ∧ p < M 34 i + M 36 i) ∧ M 35 i < ln ∧ ln < M 35 i + M 37 i else (M 35 i ≤ p ∧ p < M 35 i + M 37 i) ∧ M 34 i < ln ∧ ln < M 34 i + M 36 i) → jt M al ln p = false := by
        intro c
        unfold jt
        cases e : anyI (jtH M al ln p) 0 (M 31 0)
        · rfl
        · rw [anyI_iff] at e
          obtain ⟨j, j0, j1, j2⟩ := e
          have b := rP_i h j0 j1
          unfold jtH at j2
          by_cases ij : i = j
          · subst ij
            by_cases d : al = 0
            · rw [if_pos d] at c j2
              have := of_decide_eq_true j2; omega
            · rw [if_neg d] at c j2
              have := of_decide_eq_true j2; omega
          · have l := rP_l h i0 hi j0 j1 ij
            by_cases d : al = 0
            · rw [if_pos d] at c j2
              have := of_decide_eq_true j2; omega
            · rw [if_neg d] at c j2
              have := of_decide_eq_true j2; omega
      by_cases c : al = 0
      · have e0 : jtH M al ln p i = decide ((M 35 i = ln ∨ M 35 i + M 37 i = ln) ∧ M 34 i ≤ p ∧ p < M 34 i + M 36 i) := if_pos c
        rw [if_pos c] at over
        have off : ¬ (M 34 i ≤ p ∧ p < M 34 i + M 36 i) → aX xc_264 (aSeek xc_264 164) [aR 145, aI al, aI ln, aI p, aI (bi (anyI (jtH M al ln p) 0 i)), aI i, aU, aU, aU, aU] [] (SH L) M ([aI (bi (jt M al ln p))], SH L, M) := fun q => nx _ (by rw [e0, decide_eq_false (fun z => q z.2), Bool.or_false])
        apply bl_264_6
        simp only [ln0, ln1, ln2, ln3, ln4, b2, b3]
        refine ⟨fun q => absurd hi (by omega), fun _ => ⟨fun _ => ⟨by omega, bl_264_38 ⟨fun _ => ⟨M, _, s_223 h i0 hi, ?_⟩, fun q => absurd c q⟩⟩, fun q => absurd c q⟩⟩
        apply bl_264_61
        simp only [ln0, ln1, ln2, ln3, ln4, b2, b3]
        rw [aWi (by omega) (by omega)]
        refine ⟨fun q => off (by omega), fun q => ⟨fun q1 => ⟨fun _ => ⟨by omega, bl_264_100 ⟨fun _ => ⟨M, _, s_224 h i0 hi, ?_⟩, fun z => absurd c z⟩⟩, fun z => absurd c z⟩, fun q1 => off (by omega)⟩⟩
        have e1 : jtH M al ln p i = decide (M 35 i = ln ∨ M 35 i + M 37 i = ln) := by
          rw [e0]; apply decide_eq_decide.mpr; omega
        have k := k140 _ _ e1
        apply bl_264_123
        rw [aWi (by omega) (by omega)]
        refine ⟨fun _ => k, fun q2 => ⟨fun _ => k, fun q3 => rI ?_⟩⟩
        rw [over (by omega)]; rfl
      · have e0 : jtH M al ln p i = decide ((M 34 i = ln ∨ M 34 i + M 36 i = ln) ∧ M 35 i ≤ p ∧ p < M 35 i + M 37 i) := if_neg c
        rw [if_neg c] at over
        have off : ¬ (M 35 i ≤ p ∧ p < M 35 i + M 37 i) → aX xc_264 (aSeek xc_264 164) [aR 145, aI al, aI ln, aI p, aI (bi (anyI (jtH M al ln p) 0 i)), aI i, aU, aU, aU, aU] [] (SH L) M ([aI (bi (jt M al ln p))], SH L, M) := fun q => nx _ (by rw [e0, decide_eq_false (fun z => q z.2), Bool.or_false])
        apply bl_264_6
        simp only [ln0, ln1, ln2, ln3, ln4, b2, b3]
        refine ⟨fun q => absurd hi (by omega), fun _ => ⟨fun q => absurd q c, fun _ => ⟨by omega, bl_264_38 ⟨fun q => absurd q c, fun _ => ⟨M, _, s_224 h i0 hi, ?_⟩⟩⟩⟩⟩
        apply bl_264_61
        simp only [ln0, ln1, ln2, ln3, ln4, b2, b3]
        rw [aWi (by omega) (by omega)]
        refine ⟨fun q => off (by omega), fun q => ⟨fun q1 => ⟨fun z => absurd z c, fun _ => ⟨by omega, bl_264_100 ⟨fun z => absurd z c, fun _ => ⟨M, _, s_223 h i0 hi, ?_⟩⟩⟩⟩, fun q1 => off (by omega)⟩⟩
        have e1 : jtH M al ln p i = decide (M 34 i = ln ∨ M 34 i + M 36 i = ln) := by
          rw [e0]; apply decide_eq_decide.mpr; omega
        have k := k140 _ _ e1
        apply bl_264_123
        rw [aWi (by omega) (by omega)]
        refine ⟨fun _ => k, fun q2 => ⟨fun _ => k, fun q3 => rI ?_⟩⟩
        rw [over (by omega)]; rfl
  have := key 0 (by omega) n.1
  rw [anyI_nil (by omega)] at this
  exact en_264 this
theorem s_265 (h : rP M) {al ln : Int} : aE 265 [aR 145, aI al, aI ln] (SH L) M ([aI (jV M al ln)], SH L, M) := by
  have f := fr_le h
  have key : ∀ E : Int, E = (if al = 0 then M 151 0 else M 152 0) → 0 ≤ E ∧ E ≤ 60 → ∀ p, ∀ b r : Int, 0 ≤ p → p ≤ E → (0 ≤ r ∧ r ≤ p) → (0 ≤ b ∧ b ≤ p) → rn (fun p => jt M al ln p) (p - r) r → (p - r = 0 ∨ ¬ jt M al ln (p - r - 1) = true) →
      (∃ q, 0 ≤ q ∧ q + b ≤ p ∧ rn (fun p => jt M al ln p) q b) → (∀ q, 0 ≤ q → q + b + 1 ≤ p → ¬ rn (fun p => jt M al ln p) q (b + 1)) →
      aX xc_265 (aSeek xc_265 29) [aR 145, aI al, aI ln, aI b, aI r, aI E, aI p] [] (SH L) M ([aI (jV M al ln)], SH L, M) := by
    intro E hE hE2
    refine upto E (fun p hp b r p0 p1 hr hb h1 h2 h3 h4 => ?_) (fun p hp ih b r p0 p1 hr hb h1 h2 h3 h4 => ?_)
    · refine bl_265_29 ⟨fun _ => rI ?_, fun q => absurd hp q⟩
      obtain ⟨q, q0, q1, q2⟩ := h3
      refine isMx_one (f := fun p => jt M al ln p) mxR_is ⟨hb.1, ⟨q, q0, by omega, q2⟩, fun q q0 q1 q2 => ?_⟩
      by_cases c : q + b + 1 ≤ p
      · exact h4 q q0 c q2
      · have := q2 (q + b) (by omega) (by omega)
        dsimp only at this
        rw [jt_far h (by omega)] at this
        cases this
    · have k55 : ∀ r' : Int, (0 ≤ r' ∧ r' ≤ p + 1) → rn (fun p => jt M al ln p) (p + 1 - r') r' → (p + 1 - r' = 0 ∨ ¬ jt M al ln (p + 1 - r' - 1) = true) → aX xc_265 (aSeek xc_265 55) [aR 145, aI al, aI ln, aI b, aU, aI E, aI p] [aI r'] (SH L) M ([aI (jV M al ln)], SH L, M) := by
        intro r' hr' g1 g2
        have nolong : ∀ c : Int, b ≤ c → r' ≤ c → ∀ q, 0 ≤ q → q + c + 1 ≤ p + 1 → ¬ rn (fun p => jt M al ln p) q (c + 1) := by
          intro c bc rc q q0 q1 q2
          by_cases d : q + c + 1 ≤ p
          · exact h4 q q0 (by omega) (fun k k0 k1 => q2 k k0 (by omega))
          · rcases g2 with z | z
            · omega
            · exact z (q2 (p + 1 - r' - 1) (by omega) (by omega))
        refine bl_265_55 ⟨fun q => bl_265_66 ?_, fun q => bl_265_66 ?_⟩
        · rw [aWi (by omega) (by omega)]
          refine ih b r' (by omega) (by omega) hr' (by omega) g1 g2 ?_ (nolong b (by omega) q)
          obtain ⟨q, q0, q1, q2⟩ := h3
          exact ⟨q, q0, by omega, q2⟩
        · rw [aWi (by omega) (by omega)]
          exact ih r' r' (by omega) (by omega) hr' hr' g1 g2 ⟨p + 1 - r', by omega, by omega, g1⟩ (nolong r' (by omega) (by omega))
      refine bl_265_29 ⟨fun q => absurd hp (by omega), fun _ => ⟨M, _, s_264 h, fun q => k55 0 (by omega) (fun k a b => by omega) (Or.inr ?_), fun q => ?_⟩⟩
      · rw [bi_0] at q
        rw [show p + 1 - 0 - 1 = p by omega, q]; decide
      · rw [bi_0, Bool.not_eq_false] at q
        rw [aWi (by omega) (by omega)]
        refine k55 (r + 1) (by omega) (fun k a b => ?_) ?_
        · by_cases c : k = p
          · rw [c]; exact q
          · exact h1 k (by omega) (by omega)
        · rw [show p + 1 - (r + 1) = p - r by omega]; exact h2
  have go : ∀ E : Int, E = (if al = 0 then M 151 0 else M 152 0) → aX xc_265 (aSeek xc_265 24) [aR 145, aI al, aI ln, aI 0, aI 0, aU, aU] [aI E] (SH L) M ([aI (jV M al ln)], SH L, M) := fun E hE => bl_265_24 (key E hE (by rw [hE]; split <;> omega) 0 0 0 (by omega) (by rw [hE]; split <;> omega) (by omega) (by omega) (fun k a b => by omega) (Or.inl (by omega)) ⟨0, by omega, by omega, fun k a b => by omega⟩ (fun q a b => by omega))
  exact en_265 ⟨fun c => go _ (if_pos c).symm, fun c => go _ (if_neg c).symm⟩
theorem s_266 (h : rP M) {al ln : Int} : aE 266 [aR 145, aI al, aI ln] (SH L) M ([aI (if 1 ≤ ln ∧ ln < (if al = 0 then M (M 1 3) 1 else M (M 1 3) 0) then jV M al ln else -1)], SH L, M) := by
  have f := h.1.2.1
  have k25 : ∀ b : Int, b = (if al = 0 then M (M 1 3) 1 else M (M 1 3) 0) → ¬ ln < 1 → aX xc_266 (aSeek xc_266 25) [aR 145, aI al, aI ln] [aI b, aI ln] (SH L) M ([aI (if 1 ≤ ln ∧ ln < (if al = 0 then M (M 1 3) 1 else M (M 1 3) 0) then jV M al ln else -1)], SH L, M) := by
    intro b hb c
    rw [← hb]
    refine bl_266_25 ⟨fun q => ⟨M, _, s_265 h, rI ?_⟩, fun q => rI ?_⟩
    · rw [if_pos (by omega)]
    · rw [if_neg (by omega)]
  refine en_266 ⟨fun q => rI (if_neg (by omega)), fun q => ⟨fun c => k25 _ ?_ q, fun c => k25 _ ?_ q⟩⟩
  · rw [if_pos c]; exact f.2.1
  · rw [if_neg c]; exact f.1
theorem s_267 (h : rP M) : aE 267 [aR 145] (SH L) M ([aI (lgV M)], SH L, M) := by
  have f := h.1.2.1
  have fl := fr_le h
  have k2 : ∀ x, ∀ w m : Int, 1 ≤ x → (0 ≤ m ∧ m ≤ 64) → (0 ≤ w ∧ w ≤ 10100) → aX xc_267 (aSeek xc_267 46) [aR 145, aI m, aI w, aI x, aU] [] (SH L) M ([aI (anL (wqI (jV M 1) (fun x => x + 10000) (M (M 1 3) 0) x w m))], SH L, M) := by
    refine upto (M (M 1 3) 0) (fun x hx w m x0 hm hw => ?_) (fun x hx ih w m x0 hm hw => ?_)
    · refine bl_267_46 ⟨fun _ => ⟨fun q => rI ?_, fun q => rI ?_⟩, fun q => absurd hx (by omega)⟩
      · rw [wqI_nil hx, aWi (z := 100 * m) (by omega) (by omega), aWi (by omega) (by omega)]
        exact if_neg q
      · rw [wqI_nil hx]
        exact if_pos (Classical.not_not.mp q)
    · have jl := jV_le h (al := 1) (ln := x)
      refine bl_267_46 ⟨fun q => absurd hx (by omega), fun _ => ⟨M, _, s_265 h, fun q => bl_267_82 ?_, fun q => bl_267_82 ?_⟩⟩
      · rw [aWi (z := 10000 + x) (by omega) (by omega), aWi (by omega) (by omega), wqI_yes hx (by omega), show 10000 + x = x + 10000 by omega]
        exact ih (x + 10000) (jV M 1 x) (by omega) (by omega) (by omega)
      · rw [aWi (by omega) (by omega), wqI_no hx (by omega)]
        exact ih w m (by omega) hm hw
  have k1 : ∀ y, ∀ w m : Int, 1 ≤ y → (0 ≤ m ∧ m ≤ 64) → (0 ≤ w ∧ w ≤ 100) → aX xc_267 (aSeek xc_267 6) [aR 145, aI m, aI w, aI y, aU] [] (SH L) M ([aI (anL (wqI (jV M 1) (fun x => x + 10000) (M (M 1 3) 0) 1 (wqI (jV M 0) (fun x => x) (M (M 1 3) 1) y w m).1 (wqI (jV M 0) (fun x => x) (M (M 1 3) 1) y w m).2))], SH L, M) := by
    refine upto (M (M 1 3) 1) (fun y hy w m y0 hm hw => ?_) (fun y hy ih w m y0 hm hw => ?_)
    · rw [wqI_nil hy]
      exact bl_267_6 ⟨fun _ => k2 1 w m (by omega) hm (by omega), fun q => absurd hy (by omega)⟩
    · have jl := jV_le h (al := 0) (ln := y)
      refine bl_267_6 ⟨fun q => absurd hy (by omega), fun _ => ⟨M, _, s_265 h, fun q => bl_267_38 ?_, fun q => bl_267_38 ?_⟩⟩
      · rw [aWi (by omega) (by omega), wqI_yes hy (by omega)]
        exact ih y (jV M 0 y) (by omega) (by omega) (by omega)
      · rw [aWi (by omega) (by omega), wqI_no hy (by omega)]
        exact ih w m (by omega) hm hw
  exact en_267 (k1 1 0 0 (by omega) (by omega) (by omega))
end JNM
