/-! the calls about pushes, drops, keeping: the model */ -/
section MOPS
variable {L : Nat} {M M1 M2 : aM}
theorem rP_tg (h : rP M) : M 180 0 = M 31 8 := h.2.1.2.2.1.2.2
theorem s_252 (h : rP M) {t s : Int} : ∃ M1, aE 252 [aR 145, aI t, aI s] (SH L) M ([aI (if (0 ≤ t ∧ t < M 31 0) ∧ 0 ≤ s ∧ s < 4 then bi (psh M (fun _ => true) (M 31 8) s t) else -1)], SH L, M1) ∧ sc M M1 := by
  have n := rP_n h
  by_cases c : (0 ≤ t ∧ t < M 31 0) ∧ 0 ≤ s ∧ s < 4
  · rw [if_pos c]
    obtain ⟨M1, r1, f1, -, -, m1⟩ := s_247 (L := L) h
    have k1 := ke_sc f1
    have v := (m1.1 s t c.2.1 c.2.2 c.1.1 (by rw [k1 31 (by omega)]; exact c.1.2)).1
    rw [rP_tg h, psh_ke h k1] at v
    refine ⟨M1, en_252 ⟨M, _, s_221, fun q => absurd c.1 (by rw [n.2.2] at q; rw [bid0] at q; exact q), fun _ => ⟨M, _, s_219, fun _ => ⟨M1, r1, ?_⟩, fun q => binn (show 0 ≤ s ∧ s ≤ 3 by omega) q⟩⟩, f1⟩
    simp only [ln0, ln1, ln2, ln3, ln4]
    rw [aWi (z := 40 * s) (by omega) (by omega), aWi (by omega) (by omega), v]
    exact ⟨by omega, fun q => rI q, fun q => rI (by have := bi_01 (psh M (fun _ => true) (M 31 8) s t); omega)⟩
  · rw [if_neg c]
    refine ⟨M, en_252 ⟨M, _, s_221, fun q => rfl, fun q => ⟨M, _, s_219, fun q2 => ?_, fun q => rfl⟩⟩, sc_rf⟩
    rw [bid0, Classical.not_not, n.2.2] at q
    rw [bid0, Classical.not_not] at q2
    exact absurd ⟨q, by omega⟩ c
theorem s_253 (h : rP M) {t s : Int} : ∃ M1, aE 253 [aR 145, aI t, aI s] (SH L) M ([aI (if (0 ≤ t ∧ t < M 31 0) ∧ 0 ≤ s ∧ s < 4 then bi (brn M (fun _ => true) s t) else -1)], SH L, M1) ∧ sc M M1 := by
  have n := rP_n h
  by_cases c : (0 ≤ t ∧ t < M 31 0) ∧ 0 ≤ s ∧ s < 4
  · rw [if_pos c]
    obtain ⟨M1, r1, f1, -, -, m1⟩ := s_247 (L := L) h
    have k1 := ke_sc f1
    have v := (m1.1 s t c.2.1 c.2.2 c.1.1 (by rw [k1 31 (by omega)]; exact c.1.2)).2
    rw [brn_ke h k1] at v
    refine ⟨M1, en_253 ⟨M, _, s_221, fun q => absurd c.1 (by rw [n.2.2] at q; rw [bid0] at q; exact q), fun _ => ⟨M, _, s_219, fun _ => ⟨M1, r1, ?_⟩, fun q => binn (show 0 ≤ s ∧ s ≤ 3 by omega) q⟩⟩, f1⟩
    simp only [ln0, ln1, ln2, ln3, ln4]
    rw [aWi (z := 40 * s) (by omega) (by omega), aWi (by omega) (by omega), v]
    exact ⟨by omega, fun q => rI q, fun q => rI (by have := bi_01 (brn M (fun _ => true) s t); omega)⟩
  · rw [if_neg c]
    refine ⟨M, en_253 ⟨M, _, s_221, fun q => rfl, fun q => ⟨M, _, s_219, fun q2 => ?_, fun q => rfl⟩⟩, sc_rf⟩
    rw [bid0, Classical.not_not, n.2.2] at q
    rw [bid0, Classical.not_not] at q2
    exact absurd ⟨q, by omega⟩ c
theorem s_254 (h : rP M) {t : Int} : ∃ M1, aE 254 [aR 145, aI t] (SH L) M ([aI (if 0 ≤ t ∧ t < M 31 0 then bi (hAc M (fun _ => true) (M 31 8) t) + 2 * bi (hAl M (fun _ => true) (M 31 8) t) else -1)], SH L, M1) ∧ sc M M1 := by
  have n := rP_n h
  by_cases c : 0 ≤ t ∧ t < M 31 0
  · rw [if_pos c]
    obtain ⟨M1, r1, f1, -, -, m1⟩ := s_247 (L := L) h
    have k1 := ke_sc f1
    have P1 := ke_rP h k1
    have e := s_249 (L := L) P1 m1 c.1 (by rw [k1 31 (by omega)]; exact c.2)
    rw [hAc_ke h k1, hAl_ke h k1, rP_tg h] at e
    exact ⟨M1, en_254 ⟨M, _, s_221, fun _ => ⟨M1, r1, M1, _, e, rfl⟩, fun q => binn (show 0 ≤ t ∧ t < M 179 0 by omega) q⟩, f1⟩
  · rw [if_neg c]
    exact ⟨M, en_254 ⟨M, _, s_221, fun q => absurd (bin (by omega)) q, fun q => rfl⟩, sc_rf⟩
theorem s_255 (h : rP M) : ∃ M1, aE 255 [aR 145] (SH L) M ([aI (sumI (fun t => bi (hld M (fun _ => true) (M 31 8) t)) 0 (M 31 0))], SH L, M1) ∧ sc M M1 := by
  obtain ⟨M1, r1, f1, -, -, m1⟩ := s_247 (L := L) h
  have k1 := ke_sc f1
  have P1 := ke_rP h k1
  have e := s_251 (L := L) P1 m1
  simp only [hld_ke h k1] at e
  rw [k1 31 (by omega), rP_tg h] at e
  exact ⟨M1, en_255 ⟨M1, r1, M1, _, e, rfl⟩, f1⟩
/-- the model's lift behind r rounds -/
def mlI (M M1 : aM) (r : Nat) : Prop := sc M M1 ∧ M1 145 61 = M 31 8 ∧ (∀ t, 0 ≤ t → t < M 31 0 → lyM M1 t = lfS M (M 31 8) r t) ∧ ∀ t, 0 ≤ t → t < M 31 0 → M1 197 t = if lfS M (M 31 8) r t = true then 0 else drp M (M 31 8) t
theorem lfS_s {tg t : Int} {r : Nat} (h : ¬ (lfS M tg r t = true ∧ lfS M tg (r + 1) t = false)) : lfS M tg (r + 1) t = lfS M tg r t := by
  cases x : lfS M tg r t
  · cases y : lfS M tg (r + 1) t
    · rfl
    · rw [lfS_le y] at x; cases x
  · cases y : lfS M tg (r + 1) t
    · exact absurd ⟨x, y⟩ h
    · rfl
theorem s_256 (h : rP M) : ∃ M1, aE 256 [aR 145] (SH L) M ([], SH L, M1) ∧ sc M M1 ∧ ∀ t, 0 ≤ t → t < M 31 0 → M1 197 t = drp M (M 31 8) t := by
  have n := rP_n h
  -- who falls
  have fall : ∀ (r : Nat), r ≤ 40 → cnL M (M 31 8) r + r ≤ 40 → ∀ t, ∀ (m : Int) (M' : aM), 0 ≤ t → t ≤ M 31 0 → sc M M' → M' 145 61 = M 31 8 → (∀ k, 0 ≤ k → k < M 31 0 → M' 198 k = bi (lfS M (M 31 8) (r + 1) k)) →
      (∀ k, 0 ≤ k → k < M 31 0 → lyM M' k = lfS M (M 31 8) (if k < t then r + 1 else r) k) → (∀ k, 0 ≤ k → k < M 31 0 → M' 197 k = if lfS M (M 31 8) (if k < t then r + 1 else r) k = true then 0 else drp M (M 31 8) k) →
      (m = 0 ∧ (∀ k, 0 ≤ k → k < t → lfS M (M 31 8) (r + 1) k = lfS M (M 31 8) r k) ∨ m = 1 ∧ cnL M (M 31 8) (r + 1) + 1 ≤ cnL M (M 31 8) r) →
      ∃ m2 M2, mlI M M2 (r + 1) ∧ (m2 = 0 ∧ (∀ k, 0 ≤ k → k < M 31 0 → lfS M (M 31 8) (r + 1) k = lfS M (M 31 8) r k) ∨ m2 = 1 ∧ cnL M (M 31 8) (r + 1) + 1 ≤ cnL M (M 31 8) r) ∧
      ∀ o, aX xc_256 (aSeek xc_256 42) [aR 145, aI m2, aI ((r : Int) + 2), aU] [] (SH L) M2 o → aX xc_256 (aSeek xc_256 83) [aR 145, aI m, aI ((r : Int) + 1), aI t] [] (SH L) M' o := by
    intro r hr hc
    refine upto (M 31 0) (fun t ht m M' t0 t1 f e61 v8 v3 v7 hm => ?_) (fun t ht ih m M' t0 t1 f e61 v8 v3 v7 hm => ?_)
    · have e : t = M 31 0 := by omega
      subst e
      refine ⟨m, M', ⟨f, e61, fun k k0 k1 => ?_, fun k k0 k1 => ?_⟩, hm, fun o q => bl_256_83 ⟨fun _ => ?_, fun q => absurd ?_ q⟩⟩
      · have := v3 k k0 k1; rw [if_pos k1] at this; exact this
      · have := v7 k k0 k1; rw [if_pos k1] at this; exact this
      · rw [aWi (by omega) (by omega), show (r : Int) + 1 + 1 = (r : Int) + 2 by omega]; exact q
      · rw [ke_sc f 179 (by omega)]; omega
    · have e179 : M' 179 0 = M 31 0 := by rw [ke_sc f 179 (by omega)]; exact n.2.2
      have nx : ∀ m3 M3 o, aX xc_256 (aSeek xc_256 83) [aR 145, aI m3, aI ((r : Int) + 1), aI (t + 1)] [] (SH L) M3 o → aX xc_256 (aSeek xc_256 130) [aR 145, aI m3, aI ((r : Int) + 1), aI t] [] (SH L) M3 o := by
        intro m3 M3 o q
        apply bl_256_130
        rw [aWi (by omega) (by omega)]
        exact q
      have ly := v3 t t0 ht
      rw [if_neg (show ¬ t < t by omega)] at ly
      have w := v8 t t0 ht
      by_cases cd : lfS M (M 31 8) r t = true ∧ lfS M (M 31 8) (r + 1) t = false
      · have lt := cnL_lt t0 ht cd.1 cd.2
        have c0 := cnL_le (M := M) (tg := M 31 8) (r := r + 1)
        have dr := (drp_eq (M := M) (tg := M 31 8) (t := t) (r := r) (by omega)).mpr cd
        obtain ⟨m2, M2, i2, h2, r2⟩ := ih 1 (aSet (aSet M' 197 t ((r : Int) + 1)) 193 t 0) (by omega) (by omega) (sc_set (sc_set f (by omega)) (by omega)) (by rw [aSet_r (by omega), aSet_r (by omega)]; exact e61) (fun k k0 k1 => by rw [aSet_r (by omega), aSet_r (by omega)]; exact v8 k k0 k1) (fun k k0 k1 => by
          unfold lyM
          rw [aSet_q]
          by_cases x : k = t
          · rw [if_pos x, x, if_pos (show t < t + 1 by omega), cd.2]; rfl
          · rw [if_neg x, aSet_r (by omega)]
            have := v3 k k0 k1
            unfold lyM at this
            rw [this]
            by_cases y : k < t
            · rw [if_pos y, if_pos (show k < t + 1 by omega)]
            · rw [if_neg y, if_neg (show ¬ k < t + 1 by omega)]) (fun k k0 k1 => by
          rw [aSet_r (show (197 : Int) ≠ 193 by omega), aSet_q]
          by_cases x : k = t
          · rw [if_pos x, x, if_pos (show t < t + 1 by omega), cd.2, if_neg (by decide), dr]
          · rw [if_neg x, v7 k k0 k1]
            by_cases y : k < t
            · rw [if_pos y, if_pos (show k < t + 1 by omega)]
            · rw [if_neg y, if_neg (show ¬ k < t + 1 by omega)]) (Or.inr ⟨rfl, lt⟩)
        refine ⟨m2, M2, i2, h2, fun o q => bl_256_83 ?_⟩
        simp only [ln0, ln1, ln2, ln3, ln4, e179]
        rw [w, cd.2]
        rw [cd.1] at ly
        unfold lyM at ly
        rw [decide_eq_true_eq] at ly
        exact ⟨fun q => absurd q (by omega), fun _ => ⟨by omega, fun q => absurd q ly, fun _ => ⟨by omega, fun _ => ⟨by omega, ⟨by omega, Or.inl trivial⟩, nx _ _ o (r2 o q)⟩, fun q => absurd rfl q⟩⟩⟩
      · have es := lfS_s cd
        obtain ⟨m2, M2, i2, h2, r2⟩ := ih m M' (by omega) (by omega) f e61 v8 (fun k k0 k1 => by
          rw [v3 k k0 k1]
          by_cases x : k = t
          · subst x; rw [if_neg (show ¬ k < k by omega), if_pos (show k < k + 1 by omega), es]
          · by_cases y : k < t
            · rw [if_pos y, if_pos (show k < t + 1 by omega)]
            · rw [if_neg y, if_neg (show ¬ k < t + 1 by omega)]) (fun k k0 k1 => by
          rw [v7 k k0 k1]
          by_cases x : k = t
          · subst x; rw [if_neg (show ¬ k < k by omega), if_pos (show k < k + 1 by omega), es]
          · by_cases y : k < t
            · rw [if_pos y, if_pos (show k < t + 1 by omega)]
            · rw [if_neg y, if_neg (show ¬ k < t + 1 by omega)]) (by
          rcases hm with ⟨a, b⟩ | a
          · refine Or.inl ⟨a, fun k k0 k1 => ?_⟩
            by_cases x : k = t
            · rw [x]; exact es
            · exact b k k0 (by omega)
          · exact Or.inr a)
        refine ⟨m2, M2, i2, h2, fun o q => bl_256_83 ?_⟩
        simp only [ln0, ln1, ln2, ln3, ln4, e179]
        rw [w]
        refine ⟨fun q => absurd q (by omega), fun _ => ⟨by omega, fun _ => nx _ _ o (r2 o q), fun z => ⟨by omega, fun z2 => ?_, fun _ => nx _ _ o (r2 o q)⟩⟩⟩
        rw [bi_0] at z2
        unfold lyM at ly
        rw [decide_eq_true z] at ly
        exact absurd ⟨ly.symm, z2⟩ cd
  -- who is held now
  have was : ∀ (r : Nat) (m : Int), ∀ t, ∀ M' : aM, 0 ≤ t → t ≤ M 31 0 → sc M M' → mS M' (lfS M (M 31 8) r) (M 31 8) → (∀ k, 0 ≤ k → k < t → M' 198 k = bi (lfS M (M 31 8) (r + 1) k)) →
      ∃ M2, sc M M2 ∧ (∀ a, a ≠ 198 → M2 a = M' a) ∧ (∀ k, 0 ≤ k → k < M 31 0 → M2 198 k = bi (lfS M (M 31 8) (r + 1) k)) ∧ ∀ o, aX xc_256 (aSeek xc_256 83) [aR 145, aI 0, aI m, aI 0] [] (SH L) M2 o → aX xc_256 (aSeek xc_256 54) [aR 145, aI 0, aI m, aI t] [] (SH L) M' o := by
    intro r m
    refine upto (M 31 0) (fun t ht M' t0 t1 f hm v => ?_) (fun t ht ih M' t0 t1 f hm v => ?_)
    · have e : t = M 31 0 := by omega
      subst e
      refine ⟨M', f, fun _ _ => rfl, v, fun o q => bl_256_54 ⟨fun _ => q, fun q => absurd ?_ q⟩⟩
      rw [ke_sc f 179 (by omega)]; omega
    · have e179 : M' 179 0 = M 31 0 := by rw [ke_sc f 179 (by omega)]; exact n.2.2
      have k' := ke_sc f
      have P' := ke_rP h k'
      have e := s_250 (L := L) P' hm t0 (by rw [k' 31 (by omega)]; exact ht)
      rw [hld_ke h k'] at e
      have e' : aE 250 [aR 145, aI t] (SH L) M' ([aI (bi (lfS M (M 31 8) (r + 1) t))], SH L, M') := e
      obtain ⟨M2, f2, c2, v2, r2⟩ := ih (aSet M' 198 t (bi (lfS M (M 31 8) (r + 1) t))) (by omega) (by omega) (sc_set f (by omega)) (mS_ke P' (fun a ha => aSet_c (by omega)) hm (aSet_c (by omega)) (aSet_c (by omega)) (aSet_c (by omega))) (fun k k0 k1 => by
        rw [aSet_q]
        by_cases x : k = t
        · rw [if_pos x, x]
        · rw [if_neg x]; exact v k k0 (by omega))
      refine ⟨M2, f2, fun a ha => (c2 a ha).trans (aSet_c ha), v2, fun o q => bl_256_54 ?_⟩
      simp only [ln0, ln1, ln2, ln3, ln4, e179]
      refine ⟨fun q => absurd q (by omega), fun _ => ⟨M', _, e', ⟨by omega, bi_01 _⟩, ?_⟩⟩
      rw [aWi (by omega) (by omega)]
      exact r2 o q
  have rounds : ∀ k : Nat, ∀ (r : Nat) (M' : aM), k + r = 41 → mlI M M' r → cnL M (M 31 8) r + r ≤ 40 → ∃ M1, aX xc_256 (aSeek xc_256 42) [aR 145, aI 1, aI ((r : Int) + 1), aU] [] (SH L) M' ([], SH L, M1) ∧ sc M M1 ∧ ∀ t, 0 ≤ t → t < M 31 0 → M1 197 t = drp M (M 31 8) t := by
    intro k
    induction k with
    | zero =>
      intro r M' hk hi hc
      have := cnL_le (M := M) (tg := M 31 8) (r := r)
      omega
    | succ k ih =>
      intro r M' hk hi hc
      have c0 := cnL_le (M := M) (tg := M 31 8) (r := r)
      obtain ⟨f, e61, v3, v7⟩ := hi
      have k' := ke_sc f
      have P' := ke_rP h k'
      obtain ⟨M2, r2, f2, m2⟩ := s_246 (L := L) P' (ly := lfS M (M 31 8) r) (fun t t0 t1 => v3 t t0 (by rw [k' 31 (by omega)] at t1; exact t1))
      rw [e61] at m2
      have f12 : sc M M2 := sc_tr f ⟨fun a x y z => f2 a (by omega), fun j hj => by rw [f2 145 (by omega)]⟩
      obtain ⟨M3, f3, c3, v8, r3⟩ := was r ((r : Int) + 1) 0 M2 (by omega) n.1 f12 m2 (fun k k0 k1 => by omega)
      obtain ⟨m4, M4, i4, h4, r4⟩ := fall r (by omega) hc 0 0 M3 (by omega) n.1 f3 (by rw [c3 145 (by omega), f2 145 (by omega)]; exact e61) v8 (fun k k0 k1 => by
        rw [if_neg (show ¬ k < 0 by omega)]
        unfold lyM
        rw [c3 193 (by omega), f2 193 (by omega)]
        exact v3 k k0 k1) (fun k k0 k1 => by
        rw [if_neg (show ¬ k < 0 by omega), c3 197 (by omega), f2 197 (by omega)]
        exact v7 k k0 k1) (Or.inl ⟨rfl, fun k k0 k1 => by omega⟩)
      have st : ∀ o, aX xc_256 (aSeek xc_256 42) [aR 145, aI m4, aI ((r : Int) + 2), aU] [] (SH L) M4 o → aX xc_256 (aSeek xc_256 42) [aR 145, aI 1, aI ((r : Int) + 1), aU] [] (SH L) M' o := fun o q => bl_256_42 ⟨fun z => absurd z (by decide), fun _ => ⟨M2, r2, r3 o (r4 o q)⟩⟩
      rcases h4 with ⟨a, b⟩ | ⟨a, b⟩
      · refine ⟨M4, st _ (bl_256_42 ⟨fun _ => rfl, fun q => absurd a q⟩), i4.1, fun t t0 t1 => ?_⟩
        rw [i4.2.2.2 t t0 t1, b t t0 t1]
        by_cases x : lfS M (M 31 8) r t = true
        · rw [if_pos x, drp_stab h (by omega) b t0 t1 x]
        · rw [if_neg x]
      · subst a
        obtain ⟨M1, rr, x⟩ := ih (r + 1) M4 (by omega) i4 (by omega)
        rw [show (((r + 1 : Nat) : Int) + 1) = (r : Int) + 2 by omega] at rr
        exact ⟨M1, st _ rr, x⟩
  have ini : ∀ t, ∀ M' : aM, 0 ≤ t → t ≤ 40 → sc M M' → (∀ k, 0 ≤ k → k < t → M' 193 k = 1 ∧ M' 197 k = 0) → ∃ M1, aX xc_256 (aSeek xc_256 2) [aR 145, aI t, aU, aU] [] (SH L) M' ([], SH L, M1) ∧ sc M M1 ∧ ∀ t, 0 ≤ t → t < M 31 0 → M1 197 t = drp M (M 31 8) t := by
    refine upto 40 (fun t ht M' t0 t1 f v => ?_) (fun t ht ih M' t0 t1 f v => ?_)
    · obtain ⟨M1, rr, x⟩ := rounds 41 0 (aSet M' 145 61 (M' 180 0)) (by omega) ⟨sc_fld f (by omega), by rw [aSet_e, ke_sc f 180 (by omega)]; exact rP_tg h, fun k k0 k1 => by
          unfold lyM
          rw [aSet_r (by omega), (v k k0 (by omega)).1]; rfl, fun k k0 k1 => by
          rw [aSet_r (by omega), (v k k0 (by omega)).2]; exact (if_pos rfl).symm⟩ (by have := cnL_n h (tg := M 31 8); omega)
      exact ⟨M1, bl_256_2 ⟨fun _ => rr, fun q => absurd ht q⟩, x⟩
    · obtain ⟨M1, r, x⟩ := ih (aSet (aSet M' 193 t 1) 197 t 0) (by omega) (by omega) (sc_set (sc_set f (by omega)) (by omega)) (fun k k0 k1 => by
        rw [aSet_r (show (193 : Int) ≠ 197 by omega), aSet_q, aSet_q]
        by_cases z : k = t
        · rw [if_pos z, if_pos z]; exact ⟨rfl, rfl⟩
        · rw [if_neg z, if_neg z, aSet_r (show (197 : Int) ≠ 193 by omega)]; exact v k k0 (by omega))
      refine ⟨M1, bl_256_2 ⟨fun q => absurd q (by omega), fun _ => ?_⟩, x⟩
      simp only [ln0, ln1, ln2, ln3, ln4]
      rw [aWi (by omega) (by omega)]
      exact ⟨⟨by omega, Or.inr trivial⟩, by omega, r⟩
  obtain ⟨M1, r, x⟩ := ini 0 M (by omega) (by omega) sc_rf (fun k k0 k1 => by omega)
  exact ⟨M1, en_256 r, x⟩
theorem s_257 (h : rP M) {t : Int} : ∃ M1, aE 257 [aR 145, aI t] (SH L) M ([aI (if 0 ≤ t ∧ t < M 31 0 then drp M (M 31 8) t else -1)], SH L, M1) ∧ sc M M1 := by
  have n := rP_n h
  by_cases c : 0 ≤ t ∧ t < M 31 0
  · rw [if_pos c]
    obtain ⟨M1, r1, f1, v1⟩ := s_256 (L := L) h
    refine ⟨M1, en_257 ⟨M, _, s_221, fun _ => ⟨M1, r1, ?_⟩, fun q => binn (show 0 ≤ t ∧ t < M 179 0 by omega) q⟩, f1⟩
    simp only [ln0, ln1, ln2, ln3, ln4]
    exact ⟨by omega, rI (v1 t c.1 c.2).symm⟩
  · rw [if_neg c]
    exact ⟨M, en_257 ⟨M, _, s_221, fun q => absurd (bin (by omega)) q, fun q => rfl⟩, sc_rf⟩
theorem s_258 (h : rP M) {r : Int} : ∃ M1, aE 258 [aR 145, aI r] (SH L) M ([aI (if 0 ≤ r then rndV M (M 31 8) r else -1)], SH L, M1) ∧ sc M M1 := by
  have n := rP_n h
  by_cases c : 0 ≤ r
  · rw [if_pos c]
    obtain ⟨M1, r1, f1, v1⟩ := s_256 (L := L) h
    have e179 : M1 179 0 = M 31 0 := by rw [ke_sc f1 179 (by omega)]; exact n.2.2
    have key : ∀ t, ∀ a, 0 ≤ t → 0 ≤ a → a ≤ t → aX xc_258 (aSeek xc_258 14) [aR 145, aI r, aI a, aI t] [] (SH L) M1 ([aI (a + sumI (fun t => bi (decide (0 < drp M (M 31 8) t ∧ (r = 0 ∨ drp M (M 31 8) t = r)))) t (M 31 0))], SH L, M1) := by
      refine upto (M 31 0) (fun t ht a t0 a0 a1 => ?_) (fun t ht ih a t0 a0 a1 => ?_)
      · exact bl_258_14 ⟨fun _ => rI (by rw [sumI_nil ht]; omega), fun q => absurd ht (by omega)⟩
      · have b := bi_le (decide (0 < drp M (M 31 8) t ∧ (r = 0 ∨ drp M (M 31 8) t = r)))
        have k : ∀ x : Int, x = bi (decide (0 < drp M (M 31 8) t ∧ (r = 0 ∨ drp M (M 31 8) t = r))) → aX xc_258 (aSeek xc_258 53) [aR 145, aI r, aU, aI t] [aI x, aI a] (SH L) M1 ([aI (a + sumI (fun t => bi (decide (0 < drp M (M 31 8) t ∧ (r = 0 ∨ drp M (M 31 8) t = r)))) t (M 31 0))], SH L, M1) := by
          intro x hx
          apply bl_258_53
          rw [aWi (by omega) (by omega), aWi (by omega) (by omega), sumI_step ht, ← Int.add_assoc, ← hx]
          exact ih _ (by omega) (by omega) (by omega)
        apply bl_258_14
        simp only [ln0, ln1, ln2, ln3, ln4, e179, v1 t t0 ht]
        refine ⟨fun q => absurd q (by omega), fun _ => ⟨by omega, fun q => bl_258_52 (k 0 (bin (by omega)).symm), fun q => ⟨fun q2 => bl_258_48 (k 1 (bip (by omega)).symm), fun q2 => ⟨by omega, fun q3 => bl_258_52 (k 0 (bin (by omega)).symm), fun q3 => bl_258_48 (k 1 (bip (by omega)).symm)⟩⟩⟩⟩
    have := key 0 0 (by omega) (by omega) (by omega)
    rw [Int.zero_add] at this
    exact ⟨M1, en_258 ⟨fun _ => ⟨M1, r1, this⟩, fun q => absurd c q⟩, f1⟩
  · rw [if_neg c]
    exact ⟨M, en_258 ⟨fun q => absurd q c, fun q => rfl⟩, sc_rf⟩
def wh (M M1 : aM) : Prop := sc M M1 ∧ ∀ t, 0 ≤ t → t < M 31 0 → M1 198 t = bi (hld M (fun _ => true) (M 31 8) t)
theorem s_260 (h : rP M) : ∃ M1, aE 260 [aR 145] (SH L) M ([], SH L, M1) ∧ wh M M1 := by
  have n := rP_n h
  obtain ⟨M1, r1, f1, -, -, m1⟩ := s_247 (L := L) h
  rw [rP_tg h] at m1
  have key : ∀ t, ∀ M' : aM, 0 ≤ t → t ≤ M 31 0 → sc M M' → mS M' (fun _ => true) (M 31 8) → (∀ k, 0 ≤ k → k < t → M' 198 k = bi (hld M (fun _ => true) (M 31 8) k)) → ∃ M2, aX xc_260 (aSeek xc_260 6) [aR 145, aI t] [] (SH L) M' ([], SH L, M2) ∧ wh M M2 := by
    refine upto (M 31 0) (fun t ht M' t0 t1 f hm v => ?_) (fun t ht ih M' t0 t1 f hm v => ?_)
    · have e : t = M 31 0 := by omega
      subst e
      refine ⟨M', bl_260_6 ⟨fun _ => rfl, fun q => absurd ?_ q⟩, f, v⟩
      rw [ke_sc f 179 (by omega)]; omega
    · have e179 : M' 179 0 = M 31 0 := by rw [ke_sc f 179 (by omega)]; exact n.2.2
      have k' := ke_sc f
      have P' := ke_rP h k'
      have e := s_250 (L := L) P' hm t0 (by rw [k' 31 (by omega)]; exact ht)
      rw [hld_ke h k'] at e
      obtain ⟨M2, r2, x2⟩ := ih (aSet M' 198 t (bi (hld M (fun _ => true) (M 31 8) t))) (by omega) (by omega) (sc_set f (by omega)) (mS_ke P' (fun a ha => aSet_c (by omega)) hm (aSet_c (by omega)) (aSet_c (by omega)) (aSet_c (by omega))) (fun k k0 k1 => by
        rw [aSet_q]
        by_cases x : k = t
        · rw [if_pos x, x]
        · rw [if_neg x]; exact v k k0 (by omega))
      refine ⟨M2, bl_260_6 ?_, x2⟩
      simp only [ln0, ln1, ln2, ln3, ln4, e179]
      refine ⟨fun q => absurd q (by omega), fun _ => ⟨M', _, e, ⟨by omega, bi_01 _⟩, ?_⟩⟩
      rw [aWi (by omega) (by omega)]
      exact r2
  obtain ⟨M2, r2, x2⟩ := key 0 M1 (by omega) n.1 f1 m1 (fun k k0 k1 => by omega)
  exact ⟨M2, en_260 ⟨M1, r1, r2⟩, x2⟩
theorem s_259 (h : rP M) (hw : wh M M1) {k : Int} : ∃ M2, aE 259 [aR 145, aI k] (SH L) M1 ([aI (kpV M (M 31 8) k)], SH L, M2) ∧ wh M M2 := by
  have n := rP_n h
  obtain ⟨f, w⟩ := hw
  have cnt : ∀ M' : aM, sc M M' → mS M' (fun t => decide (¬ t = k)) (M 31 8) → (∀ t, 0 ≤ t → t < M 31 0 → M' 198 t = bi (hld M (fun _ => true) (M 31 8) t)) →
      ∀ t, ∀ a, 0 ≤ t → 0 ≤ a → a ≤ t → aX xc_259 (aSeek xc_259 48) [aR 145, aI k, aI a, aI t] [] (SH L) M' ([aI (a + sumI (fun t => bi (decide (¬ t = k) && hld M (fun _ => true) (M 31 8) t && !hld M (fun t => decide (¬ t = k)) (M 31 8) t)) t (M 31 0))], SH L, M') := by
    intro M' f' hm w'
    have e179 : M' 179 0 = M 31 0 := by rw [ke_sc f' 179 (by omega)]; exact n.2.2
    have k' := ke_sc f'
    have P' := ke_rP h k'
    refine upto (M 31 0) (fun t ht a t0 a0 a1 => ?_) (fun t ht ih a t0 a0 a1 => ?_)
    · exact bl_259_48 ⟨fun _ => rI (by rw [sumI_nil ht]; omega), fun q => absurd ht (by omega)⟩
    · have b := bi_le (decide (¬ t = k) && hld M (fun _ => true) (M 31 8) t && !hld M (fun t => decide (¬ t = k)) (M 31 8) t)
      have k86 : ∀ x : Int, x = bi (decide (¬ t = k) && hld M (fun _ => true) (M 31 8) t && !hld M (fun t => decide (¬ t = k)) (M 31 8) t) → aX xc_259 (aSeek xc_259 86) [aR 145, aI k, aU, aI t] [aI x, aI a] (SH L) M' ([aI (a + sumI (fun t => bi (decide (¬ t = k) && hld M (fun _ => true) (M 31 8) t && !hld M (fun t => decide (¬ t = k)) (M 31 8) t)) t (M 31 0))], SH L, M') := by
        intro x hx
        apply bl_259_86
        rw [aWi (by omega) (by omega), aWi (by omega) (by omega), sumI_step ht, ← Int.add_assoc, ← hx]
        exact ih _ (by omega) (by omega) (by omega)
      have e := s_250 (L := L) P' hm t0 (by rw [k' 31 (by omega)]; exact ht)
      rw [hld_ke h k'] at e
      apply bl_259_48
      simp only [ln0, ln1, ln2, ln3, ln4, e179, w' t t0 ht]
      refine ⟨fun q => absurd q (by omega), fun _ => ⟨fun q => bl_259_85 (k86 0 ?_), fun q => ⟨by omega, fun q2 => bl_259_85 (k86 0 ?_), fun q2 => ⟨M', _, e, fun q3 => bl_259_85 (k86 0 ?_), fun q3 => k86 1 ?_⟩⟩⟩⟩
      · rw [decide_eq_false (fun z => z q)]; rfl
      · rw [bi_0.mp q2, Bool.and_false]; rfl
      · rw [bi_0, Bool.not_eq_false] at q3
        rw [q3]; simp [bi]
      · rw [bi_0, Bool.not_eq_false] at q2
        rw [Classical.not_not, bi_0] at q3
        rw [q2, q3, decide_eq_true q]; rfl
  have ini : ∀ t, ∀ M' : aM, 0 ≤ t → t ≤ 40 → sc M M' → M' 198 = M1 198 → (∀ j, 0 ≤ j → j < t → M' 193 j = if j = k then 0 else 1) → ∃ M2, aX xc_259 (aSeek xc_259 2) [aR 145, aI k, aI t, aU] [] (SH L) M' ([aI (kpV M (M 31 8) k)], SH L, M2) ∧ wh M M2 := by
    refine upto 40 (fun t ht M' t0 t1 f' h8 v => ?_) (fun t ht ih M' t0 t1 f' h8 v => ?_)
    · have f2 : sc M (aSet M' 145 61 (M' 180 0)) := sc_fld f' (by omega)
      have k2 := ke_sc f2
      obtain ⟨M3, r3, f3, m3⟩ := s_246 (L := L) (ke_rP h k2) (ly := fun t => decide (¬ t = k)) (fun j j0 j1 => by
        rw [k2 31 (by omega)] at j1
        unfold lyM
        rw [aSet_c (by omega), v j j0 (by omega)]
        by_cases z : j = k
        · rw [if_pos z, decide_eq_false (p := ¬ j = k) (fun q => q z)]; rfl
        · rw [if_neg z, decide_eq_true (p := ¬ j = k) z]; rfl)
      rw [aSet_e, ke_sc f' 180 (by omega), rP_tg h] at m3
      have f23 : sc M M3 := sc_tr f2 ⟨fun a x y z => f3 a (by omega), fun j hj => by rw [f3 145 (by omega)]⟩
      have w3 : ∀ t, 0 ≤ t → t < M 31 0 → M3 198 t = bi (hld M (fun _ => true) (M 31 8) t) := fun t t0 t1 => by
        rw [f3 198 (by omega), aSet_c (by omega), h8]; exact w t t0 t1
      have := cnt M3 f23 m3 w3 0 0 (by omega) (by omega) (by omega)
      rw [Int.zero_add] at this
      exact ⟨M3, bl_259_2 ⟨fun _ => ⟨M3, r3, this⟩, fun q => absurd ht q⟩, f23, w3⟩
    · obtain ⟨M2, r2, x2⟩ := ih (aSet M' 193 t (if t = k then 0 else 1)) (by omega) (by omega) (sc_set f' (by omega)) (by rw [aSet_c (by omega)]; exact h8) (fun j j0 j1 => by
        rw [aSet_q]
        by_cases z : j = t
        · rw [if_pos z, z]
        · rw [if_neg z]; exact v j j0 (by omega))
      have k23 : aX xc_259 (aSeek xc_259 23) [aR 145, aI k, aI t, aU] [aI (if t = k then 0 else 1), aI t, aR 193] (SH L) M' ([aI (kpV M (M 31 8) k)], SH L, M2) := by
        apply bl_259_23
        simp only [ln0, ln1, ln2, ln3, ln4]
        rw [aWi (by omega) (by omega)]
        refine ⟨⟨by omega, ?_⟩, r2⟩
        split <;> omega
      refine ⟨M2, bl_259_2 ⟨fun q => absurd q (by omega), fun _ => ⟨fun q => ?_, fun q => ?_⟩⟩, x2⟩
      · rw [if_pos q] at k23; exact k23
      · rw [if_neg q] at k23; exact k23
  obtain ⟨M2, r2, x2⟩ := ini 0 M1 (by omega) (by omega) f rfl (fun j j0 j1 => by omega)
  exact ⟨M2, en_259 r2, x2⟩
theorem s_261 (h : rP M) {t : Int} : ∃ M1, aE 261 [aR 145, aI t] (SH L) M ([aI (if 0 ≤ t ∧ t < M 31 0 then kpV M (M 31 8) t else -1)], SH L, M1) ∧ sc M M1 := by
  have n := rP_n h
  by_cases c : 0 ≤ t ∧ t < M 31 0
  · rw [if_pos c]
    obtain ⟨M1, r1, w1⟩ := s_260 (L := L) h
    obtain ⟨M2, r2, w2⟩ := s_259 (L := L) h w1 (k := t)
    exact ⟨M2, en_261 ⟨M, _, s_221, fun _ => ⟨M1, r1, M2, _, r2, rfl⟩, fun q => binn (show 0 ≤ t ∧ t < M 179 0 by omega) q⟩, w2.1⟩
  · rw [if_neg c]
    exact ⟨M, en_261 ⟨M, _, s_221, fun q => absurd (bin (by omega)) q, fun q => rfl⟩, sc_rf⟩
theorem s_262 (h : rP M) : ∃ M1, aE 262 [aR 145] (SH L) M ([aI (if M 31 0 = 0 then -2 else wrI (kpV M (M 31 8)) (M 31 0) 1 0 (kpV M (M 31 8) 0))], SH L, M1) ∧ sc M M1 := by
  have n := rP_n h
  obtain ⟨M1, r1, w1⟩ := s_260 (L := L) h
  have key : ∀ i, ∀ b : Int, ∀ M' : aM, 0 ≤ i → 0 ≤ b → wh M M' → ∃ M2, aX xc_262 (aSeek xc_262 11) [aR 145, aI b, aI (kpV M (M 31 8) b), aI i, aU] [] (SH L) M' ([aI (wrI (kpV M (M 31 8)) (M 31 0) i b (kpV M (M 31 8) b))], SH L, M2) ∧ wh M M2 := by
    refine upto (M 31 0) (fun i hi b M' i0 hb w => ?_) (fun i hi ih b M' i0 hb w => ?_)
    · have e179 : M' 179 0 = M 31 0 := by rw [ke_sc w.1 179 (by omega)]; exact n.2.2
      exact ⟨M', bl_262_11 ⟨fun _ => rI (wrI_nil hi), fun q => absurd hi (by omega)⟩, w⟩
    · have e179 : M' 179 0 = M 31 0 := by rw [ke_sc w.1 179 (by omega)]; exact n.2.2
      obtain ⟨M2, r2, w2⟩ := s_259 (L := L) h w (k := i)
      by_cases cc : kpV M (M 31 8) b < kpV M (M 31 8) i
      · obtain ⟨M3, r3, w3⟩ := ih i M2 (by omega) i0 w2
        refine ⟨M3, bl_262_11 ⟨fun q => absurd hi (by omega), fun _ => ⟨M2, _, r2, fun q => absurd q (by omega), fun _ => ⟨fun _ => bl_262_41 (bl_262_46 ?_), fun q => absurd cc q⟩⟩⟩, w3⟩
        rw [aWi (by omega) (by omega), wrI_yes hi cc]
        exact r3
      · obtain ⟨M3, r3, w3⟩ := ih b M2 (by omega) hb w2
        refine ⟨M3, bl_262_11 ⟨fun q => absurd hi (by omega), fun _ => ⟨M2, _, r2, fun q => absurd q (by omega), fun _ => ⟨fun q => absurd q cc, fun _ => bl_262_46 ?_⟩⟩⟩, w3⟩
        rw [aWi (by omega) (by omega), wrI_no hi cc]
        exact r3
  have e179 : M1 179 0 = M 31 0 := by rw [ke_sc w1.1 179 (by omega)]; exact n.2.2
  by_cases c : M 31 0 = 0
  · rw [if_pos c]
    exact ⟨M1, en_262 ⟨M1, r1, bl_262_11 ⟨fun _ => rfl, fun q => absurd (by omega) q⟩⟩, w1.1⟩
  · rw [if_neg c]
    obtain ⟨M2, r2, w2⟩ := s_259 (L := L) h w1 (k := 0)
    obtain ⟨M3, r3, w3⟩ := key 1 0 M2 (by omega) (by omega) w2
    refine ⟨M3, en_262 ⟨M1, r1, bl_262_11 ⟨fun q => absurd q (by omega), fun _ => ⟨M2, _, r2, fun _ => bl_262_41 (bl_262_46 ?_), fun q => absurd (show (-2 : Int) < 0 by decide) q⟩⟩⟩, w3.1⟩
    rw [aWi (by omega) (by omega)]
    exact r3
theorem s_263 (h : rP M) {i : Int} (hi32 : i < 2147483648) : ∃ M1, aE 263 [aR 145, aI i] (SH L) M ([aI (if i < 0 then -1 else ntI (smP M (M 31 8)) (M 31 0) 0 i)], SH L, M1) ∧ sc M M1 := by
  have n := rP_n h
  by_cases c : i < 0
  · rw [if_pos c]
    exact ⟨M, en_263 ⟨fun q => absurd c (by omega), fun q => rfl⟩, sc_rf⟩
  · rw [if_neg c]
    obtain ⟨M1, r1, w1⟩ := s_260 (L := L) h
    have key : ∀ t, ∀ a : Int, ∀ M' : aM, 0 ≤ t → 0 ≤ a → a ≤ i → a ≤ t → wh M M' → ∃ M2, aX xc_263 (aSeek xc_263 14) [aR 145, aI i, aI a, aI t] [] (SH L) M' ([aI (ntI (smP M (M 31 8)) (M 31 0) t (i - a))], SH L, M2) ∧ wh M M2 := by
      refine upto (M 31 0) (fun t ht a M' t0 a0 a1 a2 w => ?_) (fun t ht ih a M' t0 a0 a1 a2 w => ?_)
      · have e179 : M' 179 0 = M 31 0 := by rw [ke_sc w.1 179 (by omega)]; exact n.2.2
        exact ⟨M', bl_263_14 ⟨fun _ => rI (ntI_nil ht), fun q => absurd ht (by omega)⟩, w⟩
      · have e179 : M' 179 0 = M 31 0 := by rw [ke_sc w.1 179 (by omega)]; exact n.2.2
        have w8 := w.2 t t0 ht
        rw [ntI_step ht]
        have nx : ∀ (a' : Int) (M3 : aM), 0 ≤ a' → a' ≤ i → a' ≤ t + 1 → wh M M3 → ∃ M4, aX xc_263 (aSeek xc_263 54) [aR 145, aI i, aI a', aI t] [] (SH L) M3 ([aI (ntI (smP M (M 31 8)) (M 31 0) (t + 1) (i - a'))], SH L, M4) ∧ wh M M4 := by
          intro a' M3 x y z w3
          obtain ⟨M4, r4, w4⟩ := ih a' M3 (by omega) x y z w3
          refine ⟨M4, bl_263_54 ?_, w4⟩
          rw [aWi (by omega) (by omega)]
          exact r4
        by_cases cl : hld M (fun _ => true) (M 31 8) t = true
        · have sp : ¬ smP M (M 31 8) t = true := by unfold smP; rw [cl]; simp
          obtain ⟨M4, r4, w4⟩ := nx a M' a0 a1 (by omega) w
          rw [if_neg sp]
          refine ⟨M4, bl_263_14 ?_, w4⟩
          simp only [ln0, ln1, ln2, ln3, ln4, e179, w8]
          exact ⟨fun q => absurd q (by omega), fun _ => ⟨by omega, fun _ => r4, fun q => absurd (by rw [cl]; decide) q⟩⟩
        · have cl' : hld M (fun _ => true) (M 31 8) t = false := by simpa using cl
          obtain ⟨M2, r2, w2⟩ := s_259 (L := L) h w (k := t)
          have kp0 : 0 ≤ kpV M (M 31 8) t := (sumI_le (f := fun u => bi (decide (¬ u = t) && hld M (fun _ => true) (M 31 8) u && !hld M (fun v => decide (¬ v = t)) (M 31 8) u)) (n := M 31 0) (c := 1) 0 (fun _ _ _ => bi_le _)).1
          by_cases cp : kpV M (M 31 8) t = 0
          · have sp : ¬ smP M (M 31 8) t = true := by unfold smP; rw [decide_eq_false (by omega), Bool.and_false]; decide
            obtain ⟨M4, r4, w4⟩ := nx a M2 a0 a1 (by omega) w2
            rw [if_neg sp]
            refine ⟨M4, bl_263_14 ?_, w4⟩
            simp only [ln0, ln1, ln2, ln3, ln4, e179, w8]
            exact ⟨fun q => absurd q (by omega), fun _ => ⟨by omega, fun q => absurd (by rw [cl']; rfl) q, fun _ => ⟨M2, _, r2, fun q => absurd cp q, fun _ => r4⟩⟩⟩
          · have sp : smP M (M 31 8) t = true := by unfold smP; rw [cl', decide_eq_true (by omega)]; rfl
            rw [if_pos sp]
            by_cases cz : a = i
            · rw [if_pos (show i - a = 0 by omega)]
              refine ⟨M2, bl_263_14 ?_, w2⟩
              simp only [ln0, ln1, ln2, ln3, ln4, e179, w8]
              exact ⟨fun q => absurd q (by omega), fun _ => ⟨by omega, fun q => absurd (by rw [cl']; rfl) q, fun _ => ⟨M2, _, r2, fun _ => ⟨fun q => absurd cz q, fun _ => rfl⟩, fun q => absurd cp q⟩⟩⟩
            · obtain ⟨M4, r4, w4⟩ := nx (a + 1) M2 (by omega) (by omega) (by omega) w2
              rw [if_neg (show ¬ i - a = 0 by omega), show i - a - 1 = i - (a + 1) by omega]
              refine ⟨M4, bl_263_14 ?_, w4⟩
              simp only [ln0, ln1, ln2, ln3, ln4, e179, w8]
              refine ⟨fun q => absurd q (by omega), fun _ => ⟨by omega, fun q => absurd (by rw [cl']; rfl) q, fun _ => ⟨M2, _, r2, fun _ => ⟨fun _ => ?_, fun q => absurd (Classical.not_not.mp q) cz⟩, fun q => absurd cp q⟩⟩⟩
              rw [aWi (by omega) (by omega)]
              exact r4
    obtain ⟨M2, r2, w2⟩ := key 0 0 M1 (by omega) (by omega) (by omega) (by omega) w1
    rw [show i - 0 = i by omega] at r2
    exact ⟨M2, en_263 ⟨fun _ => ⟨M1, r1, r2⟩, fun q => absurd (by omega) q⟩, w2.1⟩
end MOPS
