/-! the model's spread as a whole; what is PUSHED is one set -/
section SPRN
variable {L : Nat} {M M1 M2 : aM}
theorem unM_0 {s p : Int} : 0 ≤ unM M M1 s p := (sumI_le (f := fun t => if mkB M1 s p t = true then (0 : Int) else 1) (n := M 31 0) (c := 1) 0 (fun j _ _ => by split <;> omega)).1
def dnM (M M1 : aM) (s p k : Int) : Prop := ∀ t, 0 ≤ t → t < k → lyM M t = true → mkB M1 s p t = true ∨ ¬ M (M 1 3) 2 * ext M s t ≤ 100 * M1 196 t
theorem s_245 (h : rP M) {s p : Int} (hs : 0 ≤ s ∧ s < 4) : ∃ M1, aE 245 [aR 145, aI s, aI p] (SH L) M ([], SH L, M1) ∧ spF M M1 s p ∧ (∀ t, 0 ≤ t → t < M 31 0 → M1 (mkR p) (40 * s + t) = 0 ∨ M1 (mkR p) (40 * s + t) = 1) ∧
    EQ M (lyM M) (frB M s (wB M p (M 145 61) s)) s (fun t => mkB M1 s p t) := by
  have n := rP_n h
  have mr := mkR_is (p := p)
  -- one pass
  have pass : ∀ U, ∀ t, ∀ M' : aM, ∀ m : Int, 0 ≤ t → t ≤ M 31 0 → spI M M' s p → unM M M' s p ≤ U → (m = 0 ∨ m = 1 ∧ unM M M' s p < U) → (m = 0 → dnM M M' s p t) →
      ∃ M2 m2, spI M M2 s p ∧ (m2 = 0 ∨ m2 = 1 ∧ unM M M2 s p < U) ∧ (m2 = 0 → dnM M M2 s p (M 31 0)) ∧ ∀ o, aX xc_245 (aSeek xc_245 54) [aR 145, aI s, aI p, aI m2, aU, aU] [] (SH L) M2 o → aX xc_245 (aSeek xc_245 63) [aR 145, aI s, aI p, aI m, aI t, aU] [] (SH L) M' o := by
    intro U
    refine upto (M 31 0) (fun t ht M' m t0 t1 hi hu hm hd => ?_) (fun t ht ih M' m t0 t1 hi hu hm hd => ?_)
    · have e : t = M 31 0 := by omega
      subst e
      refine ⟨M', m, hi, hm, hd, fun o r => bl_245_63 ⟨fun _ => r, fun q => absurd ?_ q⟩⟩
      rw [spF_c hi.1 (by omega)]; omega
    · have e179 : M' 179 0 = M 31 0 := by rw [spF_c hi.1 (by omega)]; exact n.2.2
      have e193 : M' 193 = M 193 := spF_c hi.1 (by omega)
      have kk := ke_sc (spF_sc hi.1)
      have hP' := ke_rP h kk
      have nx : ∀ M2 m2 o, aX xc_245 (aSeek xc_245 63) [aR 145, aI s, aI p, aI m2, aI (t + 1), aU] [] (SH L) M2 o → aX xc_245 (aSeek xc_245 192) [aR 145, aI s, aI p, aI m2, aI t, aU] [] (SH L) M2 o := by
        intro M2 m2 o r
        apply bl_245_192
        rw [aWi (by omega) (by omega)]
        exact r
      have skip : (lyM M t = true → mkB M' s p t = true ∨ ¬ M (M 1 3) 2 * ext M s t ≤ 100 * M' 196 t) → ∃ M2 m2, spI M M2 s p ∧ (m2 = 0 ∨ m2 = 1 ∧ unM M M2 s p < U) ∧ (m2 = 0 → dnM M M2 s p (M 31 0)) ∧ ∀ o, aX xc_245 (aSeek xc_245 54) [aR 145, aI s, aI p, aI m2, aU, aU] [] (SH L) M2 o → aX xc_245 (aSeek xc_245 192) [aR 145, aI s, aI p, aI m, aI t, aU] [] (SH L) M' o := by
        intro hsk
        obtain ⟨M2, m2, a, b, c, r⟩ := ih M' m (by omega) (by omega) hi hu hm (fun z k k0 k1 hk => by
          by_cases e : k = t
          · rw [e] at hk ⊢; exact hsk hk
          · exact hd z k k0 (by omega) hk)
        exact ⟨M2, m2, a, b, c, fun o x => nx _ _ o (r o x)⟩
      by_cases cl : lyM M t = true
      · have cl' := cl
        unfold lyM at cl'
        rw [decide_eq_true_eq] at cl'
        have v := hi.2.1 t t0 ht
        have e244 := s_244 (L := L) (M := M') (s := s) (p := p) (t := t) hs (by omega) v
        by_cases cm : mkB M' s p t = true
        · have cm' := cm
          unfold mkB at cm'
          rw [decide_eq_true_eq] at cm'
          obtain ⟨M2, m2, a, b, c, r⟩ := skip (fun _ => Or.inl cm)
          refine ⟨M2, m2, a, b, c, fun o x => bl_245_63 ?_⟩
          simp only [ln0, ln1, ln2, ln3, ln4, e179, e193]
          exact ⟨fun q => absurd q (by omega), fun _ => ⟨by omega, fun q => absurd q cl', fun _ => ⟨M', _, e244, fun _ => r o x, fun q => absurd (by omega) q⟩⟩⟩
        · have cm' := cm
          unfold mkB at cm'
          rw [decide_eq_true_eq] at cm'
          have ex := ext_le h (s := s) t0 ht
          have fb := frB_le h (s := s) (w := wB M p (M 145 61) s) t0 ht
          have sb := smM_le h (M1 := M') (s := s) (p := p) t0 ht
          have v3 := hi.2.2.1 t t0 ht cl
          have en := h.1.1.2.2.2.1
          have m0 : 0 ≤ M (M 1 3) 2 * ext M s t ∧ M (M 1 3) 2 * ext M s t ≤ 6000 := by
            refine ⟨Int.mul_nonneg (by omega) (by omega), ?_⟩
            have := Int.mul_le_mul en.2 ex.1.2 (by omega) (by omega : (0 : Int) ≤ 100)
            omega
          have e163 : M' 163 0 = M (M 1 3) 2 := by rw [spF_c hi.1 (by omega)]; exact h.1.2.1.2.2.1
          have e239 := s_239 (L := L) hP' (s := s) (t := t) t0 (by rw [kk 31 (by omega)]; exact ht)
          rw [ke_ext kk] at e239
          by_cases cc : M (M 1 3) 2 * ext M s t ≤ 100 * M' 196 t
          · obtain ⟨M3, i3, u3, r3⟩ := spX (L := L) h (m := 1) hs t0 ht hi cm cl cc
            obtain ⟨M2, m2, a, b, c, r⟩ := ih M3 1 (by omega) (by omega) i3 (by omega) (Or.inr ⟨rfl, by omega⟩) (fun z => by omega)
            refine ⟨M2, m2, a, b, c, fun o x => bl_245_63 ?_⟩
            simp only [ln0, ln1, ln2, ln3, ln4, e179, e193]
            refine ⟨fun q => absurd q (by omega), fun _ => ⟨by omega, fun q => absurd q cl', fun _ => ⟨M', _, e244, fun q => absurd (by omega) q, fun _ => ⟨by omega, M', _, e239, fun _ => ⟨_, s_243 hs (by omega) (Or.inr rfl), r3 o (nx _ _ o (r o x))⟩, fun q => absurd ?_ q⟩⟩⟩⟩
            rw [e163, aWi (z := 100 * M' 196 t) (by omega) (by omega), aWi (by omega) (by omega)]
            exact cc
          · obtain ⟨M2, m2, a, b, c, r⟩ := skip (fun _ => Or.inr cc)
            refine ⟨M2, m2, a, b, c, fun o x => bl_245_63 ?_⟩
            simp only [ln0, ln1, ln2, ln3, ln4, e179, e193]
            refine ⟨fun q => absurd q (by omega), fun _ => ⟨by omega, fun q => absurd q cl', fun _ => ⟨M', _, e244, fun q => absurd (by omega) q, fun _ => ⟨by omega, M', _, e239, fun q => absurd ?_ cc, fun _ => r o x⟩⟩⟩⟩
            rw [e163, aWi (z := 100 * M' 196 t) (by omega) (by omega), aWi (by omega) (by omega)] at q
            exact q
      · have cl' := cl
        unfold lyM at cl'
        rw [decide_eq_true_eq, Classical.not_not] at cl'
        obtain ⟨M2, m2, a, b, c, r⟩ := skip (fun z => absurd z cl)
        refine ⟨M2, m2, a, b, c, fun o x => bl_245_63 ?_⟩
        simp only [ln0, ln1, ln2, ln3, ln4, e179, e193]
        exact ⟨fun q => absurd q (by omega), fun _ => ⟨by omega, fun _ => r o x, fun q => absurd cl' q⟩⟩
  -- all passes
  have all : ∀ U : Nat, ∀ M' : aM, ∀ m : Int, spI M M' s p → (m = 0 ∨ m = 1) → (m = 1 → unM M M' s p < U) → (m = 0 → dnM M M' s p (M 31 0)) →
      ∃ M2, spI M M2 s p ∧ dnM M M2 s p (M 31 0) ∧ aX xc_245 (aSeek xc_245 54) [aR 145, aI s, aI p, aI m, aU, aU] [] (SH L) M' ([], SH L, M2) := by
    intro U
    induction U with
    | zero =>
      intro M' m hi hm hu hd
      have u0 := unM_0 (M := M) (M1 := M') (s := s) (p := p)
      have : m = 0 := by
        rcases hm with q | q
        · exact q
        · have := hu q; omega
      exact ⟨M', hi, hd this, bl_245_54 ⟨fun _ => rfl, fun q => absurd this q⟩⟩
    | succ U ih =>
      intro M' m hi hm hu hd
      by_cases c : m = 0
      · exact ⟨M', hi, hd c, bl_245_54 ⟨fun _ => rfl, fun q => absurd c q⟩⟩
      · have hu' := hu (by omega)
        obtain ⟨M2, m2, a, b, d, r⟩ := pass (unM M M' s p) 0 M' 0 (by omega) n.1 hi (by omega) (Or.inl rfl) (fun _ k k0 k1 => by omega)
        obtain ⟨M3, x, y, z⟩ := ih M2 m2 a (by omega) (fun q => by rcases b with q2 | q2 <;> omega) d
        exact ⟨M3, x, y, bl_245_54 ⟨fun q => absurd q c, fun _ => r _ z⟩⟩
  -- the beginning
  have ini : ∀ t, ∀ M' : aM, 0 ≤ t → t ≤ M 31 0 → spF M M' s p → (∀ k, 0 ≤ k → k < t → M' (mkR p) (40 * s + k) = 0 ∧ M' 196 k = if lyM M k = true then frB M s (wB M p (M 145 61) s) k else 0) →
      ∃ M2, spF M M2 s p ∧ (∀ k, 0 ≤ k → k < M 31 0 → M2 (mkR p) (40 * s + k) = 0 ∧ M2 196 k = if lyM M k = true then frB M s (wB M p (M 145 61) s) k else 0) ∧
      ∀ o, aX xc_245 (aSeek xc_245 54) [aR 145, aI s, aI p, aI 1, aU, aU] [] (SH L) M2 o → aX xc_245 (aSeek xc_245 2) [aR 145, aI s, aI p, aI t, aU, aU] [] (SH L) M' o := by
    refine upto (M 31 0) (fun t ht M' t0 t1 hf hv => ?_) (fun t ht ih M' t0 t1 hf hv => ?_)
    · have e : t = M 31 0 := by omega
      subst e
      refine ⟨M', hf, hv, fun o r => bl_245_2 ⟨fun _ => r, fun q => absurd ?_ q⟩⟩
      rw [spF_c hf (by omega)]; omega
    · have e179 : M' 179 0 = M 31 0 := by rw [spF_c hf (by omega)]; exact n.2.2
      have e193 : M' 193 = M 193 := spF_c hf (by omega)
      have kk := ke_sc (spF_sc hf)
      have hP' := ke_rP h kk
      obtain ⟨M2, f2, v2, r2⟩ := ih (aSet (aSet M' 196 t (if lyM M t = true then frB M s (wB M p (M 145 61) s) t else 0)) (mkR p) (40 * s + t) 0) (by omega) (by omega) (spF_1 (spF_2 hf) hs (by omega)) (fun k k0 k1 => by
        by_cases e : k = t
        · rw [e, aSet_e, aSet_r (show (196 : Int) ≠ mkR p by omega), aSet_e]
          exact ⟨rfl, rfl⟩
        · rw [aSet_i (by omega), aSet_r (show mkR p ≠ 196 by omega), aSet_r (show (196 : Int) ≠ mkR p by omega), aSet_i e]
          exact hv k k0 (by omega))
      have k37 : ∀ o, aX xc_245 (aSeek xc_245 54) [aR 145, aI s, aI p, aI 1, aU, aU] [] (SH L) M2 o → aX xc_245 (aSeek xc_245 37) [aR 145, aI s, aI p, aI t, aU, aU] [aI (if lyM M t = true then frB M s (wB M p (M 145 61) s) t else 0), aI t, aR 196] (SH L) M' o := by
        intro o r
        apply bl_245_37
        simp only [ln0, ln1, ln2, ln3, ln4]
        rw [aWi (by omega) (by omega)]
        exact ⟨by omega, _, s_243 hs (by omega) (Or.inl rfl), r2 o r⟩
      refine ⟨M2, f2, v2, fun o r => bl_245_2 ?_⟩
      have k := k37 o r
      simp only [ln0, ln1, ln2, ln3, ln4, e179, e193]
      by_cases cl : lyM M t = true
      · have cl' := cl
        unfold lyM at cl'
        rw [decide_eq_true_eq] at cl'
        rw [if_pos cl] at k
        have e242 := s_242 (L := L) hP' (s := s) (t := t) (b := p) hs t0 (by rw [kk 31 (by omega)]; exact ht)
        rw [ke_frB h kk] at e242
        have ew : wB M' p (M' 145 61) s = wB M p (M 145 61) s := by
          unfold wB
          rw [spF_c hf (show (145 : Int) < 194 ∨ (196 : Int) < 145 by omega)]
          simp only [ke_wdg h kk]
        rw [ew] at e242
        exact ⟨fun q => absurd q (by omega), fun _ => ⟨by omega, fun q => absurd q cl', fun _ => ⟨M', _, e242, k⟩⟩⟩
      · have cl' := cl
        unfold lyM at cl'
        rw [decide_eq_true_eq, Classical.not_not] at cl'
        rw [if_neg cl] at k
        exact ⟨fun q => absurd q (by omega), fun _ => ⟨by omega, fun _ => k, fun q => absurd cl' q⟩⟩
  obtain ⟨M2, f2, v2, r2⟩ := ini 0 M (by omega) n.1 (fun _ _ _ _ => rfl) (fun k k0 k1 => by omega)
  have mk0 : ∀ k, 0 ≤ k → k < M 31 0 → mkB M2 s p k = false := fun k k0 k1 => by unfold mkB; rw [(v2 k k0 k1).1]; rfl
  have i2 : spI M M2 s p := ⟨f2, fun k k0 k1 => Or.inl (v2 k k0 k1).1, fun k k0 k1 hk => by
    rw [(v2 k k0 k1).2, if_pos hk]
    unfold smM
    rw [sumI_0 0 (fun o o0 o1 => by rw [mk0 o o0 o1]; rfl)]
    omega, fun k k0 k1 hk => by rw [mk0 k k0 k1] at hk; cases hk⟩
  have ub : unM M M2 s p ≤ 40 := by
    have := (sumI_le (f := fun t => if mkB M2 s p t = true then (0 : Int) else 1) (n := M 31 0) (c := 1) 0 (fun j _ _ => by split <;> omega)).2 n.1
    unfold unM
    omega
  obtain ⟨M3, i3, d3, r3⟩ := all 41 M2 1 i2 (Or.inr rfl) (fun _ => by omega) (fun q => by omega)
  refine ⟨M3, en_245 (r2 _ r3), i3.1, i3.2.1, fun t t0 t1 => ?_⟩
  show mkB M3 s p t = true ↔ _
  constructor
  · intro hm
    have x := i3.2.2.2 t t0 t1 hm
    refine ⟨x.1, ?_⟩
    have y := i3.2.2.1 t t0 t1 x.1
    unfold smM at y
    rw [← y]
    exact x.2
  · rintro ⟨x, y⟩
    have z := i3.2.2.1 t t0 t1 x
    unfold smM at z
    rw [← z] at y
    rcases d3 t t0 t1 x with q | q
    · exact q
    · exact absurd y q
/-- nearness to a side: what pushes a thing is nearer -/
def kyS (M : aM) (s t : Int) : Int := if s = 0 then M 35 t else if s = 2 then -M 35 t else if s = 1 then -M 34 t else M 34 t
theorem kyS_lt (h : rP M) {s t o : Int} (hs : 0 ≤ s ∧ s < 4) (h1 : 0 ≤ t) (h2 : t < M 31 0) (h3 : 0 ≤ o) (h4 : o < M 31 0) (hn : tA M t s o ≠ 0) : kyS M s o < kyS M s t := by
  have a := rP_i h h1 h2
  have b := rP_i h h3 h4
  have z : ∀ n, hlf M t o n ≠ 0 → n ≠ 0 := fun n hn e => hn (by rw [e]; exact hlf0)
  unfold tA at hn
  have hn := z _ hn
  have c : s = 0 ∨ s = 1 ∨ s = 2 ∨ s = 3 := by omega
  unfold kyS
  rcases c with rfl | rfl | rfl | rfl
  · rw [if_pos rfl] at hn
    rw [if_pos rfl, if_pos rfl]
    split at hn
    · omega
    · exact absurd rfl hn
  · rw [if_neg (by omega), if_neg (by omega), if_pos rfl] at hn
    rw [if_neg (by omega), if_neg (by omega), if_pos rfl, if_neg (by omega), if_neg (by omega), if_pos rfl]
    split at hn
    · omega
    · exact absurd rfl hn
  · rw [if_neg (by omega), if_pos rfl] at hn
    rw [if_neg (by omega), if_pos rfl, if_neg (by omega), if_pos rfl]
    split at hn
    · omega
    · exact absurd rfl hn
  · rw [if_neg (by omega), if_neg (by omega), if_neg (by omega)] at hn
    rw [if_neg (by omega), if_neg (by omega), if_neg (by omega), if_neg (by omega), if_neg (by omega), if_neg (by omega)]
    split at hn
    · omega
    · exact absurd rfl hn
theorem EQ_one (h : rP M) {s : Int} (hs : 0 ≤ s ∧ s < 4) {ly ly' : Int → Bool} {bs bs' : Int → Int} {F G : Int → Bool} (hl : ∀ t, 0 ≤ t → t < M 31 0 → ly t = ly' t) (hb : ∀ t, 0 ≤ t → t < M 31 0 → bs t = bs' t) (hF : EQ M ly bs s F) (hG : EQ M ly' bs' s G) : ∀ t, 0 ≤ t → t < M 31 0 → F t = G t := by
  have key : ∀ k : Nat, ∀ t, 0 ≤ t → t < M 31 0 → kyS M s t + 60 < k → F t = G t := by
    intro k
    induction k with
    | zero =>
      intro t t0 t1 hk
      have a := rP_i h t0 t1
      unfold kyS at hk
      repeat' split at hk
      all_goals omega
    | succ k ih =>
      intro t t0 t1 hk
      have e : sumI (fun o => if F o = true then tA M t s o else 0) 0 (M 31 0) = sumI (fun o => if G o = true then tA M t s o else 0) 0 (M 31 0) := by
        refine sumI_congr 0 (fun o o0 o1 => ?_)
        by_cases c : tA M t s o = 0
        · rw [c]; split <;> split <;> rfl
        · rw [ih o o0 o1 (by have := kyS_lt h hs t0 t1 o0 o1 c; omega)]
      rw [Bool.eq_iff_iff, hF t t0 t1, hG t t0 t1, hl t t0 t1, hb t t0 t1, e]
  intro t t0 t1
  have a := rP_i h t0 t1
  refine key 200 t t0 t1 ?_
  unfold kyS
  repeat' split
  all_goals omega
/-- what is pushed (or borne), of those that lie -/
noncomputable def pF (M : aM) (ly : Int → Bool) (bs : Int → Int) (s : Int) : Int → Bool := @Classical.epsilon _ ⟨fun _ => true⟩ (fun F => EQ M ly bs s F)
theorem pF_of (h : rP M) {s : Int} (hs : 0 ≤ s ∧ s < 4) {ly ly' : Int → Bool} {bs bs' : Int → Int} {F : Int → Bool} (hl : ∀ t, 0 ≤ t → t < M 31 0 → ly t = ly' t) (hb : ∀ t, 0 ≤ t → t < M 31 0 → bs t = bs' t) (hF : EQ M ly bs s F) : ∀ t, 0 ≤ t → t < M 31 0 → F t = pF M ly' bs' s t := by
  have e : EQ M ly' bs' s F := fun t t0 t1 => by rw [← hl t t0 t1, ← hb t t0 t1]; exact hF t t0 t1
  have z : EQ M ly' bs' s (pF M ly' bs' s) := @Classical.epsilon_spec _ (fun F => EQ M ly' bs' s F) ⟨F, e⟩
  exact EQ_one h hs (fun _ _ _ => rfl) (fun _ _ _ => rfl) e z
theorem pF_ke (h : rP M) (k : ke M M1) {ly : Int → Bool} {bs : Int → Int} {s : Int} : pF M1 ly bs s = pF M ly bs s := by
  unfold pF
  have e : (fun F => EQ M1 ly bs s F) = (fun F => EQ M ly bs s F) := funext fun F => propext (ke_EQ h k)
  rw [e]
end SPRN
