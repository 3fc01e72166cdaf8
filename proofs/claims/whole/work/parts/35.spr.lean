/-! pushes spread over the pairs -/
section SPR
variable {L : Nat} {M M1 M2 : aM}
def ext (M : aM) (s t : Int) : Int := if s = 0 ∨ s = 2 then M 36 t else M 37 t
def lo (M : aM) (s t : Int) : Int := if s = 0 ∨ s = 2 then M 34 t else M 35 t
def onF (M : aM) (s t : Int) : Bool := if s = 0 then decide (M 35 t = 0) else if s = 1 then decide (M 34 t + M 36 t = M (M 1 3) 0) else if s = 2 then decide (M 35 t + M 37 t = M (M 1 3) 1) else decide (M 34 t = 0)
def cnW (M : aM) (s : Int) (w : Int → Bool) (t : Int) : Int := sumI (fun p => bi (w p)) (lo M s t) (lo M s t + ext M s t)
def frB (M : aM) (s : Int) (w : Int → Bool) (t : Int) : Int := if onF M s t = true then (if M 33 t = 2 then cnW M s w t / 2 else cnW M s w t) else 0
def EQ (M : aM) (ly : Int → Bool) (bs : Int → Int) (s : Int) (F : Int → Bool) : Prop := ∀ t, 0 ≤ t → t < M 31 0 → (F t = true ↔ ly t = true ∧ M (M 1 3) 2 * ext M s t ≤ 100 * (bs t + sumI (fun o => if F o = true then tA M t s o else 0) 0 (M 31 0)))
theorem ext_le (h : rP M) {s t : Int} (h1 : 0 ≤ t) (h2 : t < M 31 0) : (1 ≤ ext M s t ∧ ext M s t ≤ 60) ∧ 0 ≤ lo M s t ∧ lo M s t + ext M s t ≤ 60 := by
  have a := rP_i h h1 h2
  unfold ext lo
  split <;> omega
theorem cnW_le (h : rP M) {s t : Int} {w : Int → Bool} (h1 : 0 ≤ t) (h2 : t < M 31 0) : 0 ≤ cnW M s w t ∧ cnW M s w t ≤ 60 := by
  have a := ext_le h (s := s) h1 h2
  have b := sumI_le (f := fun p => bi (w p)) (n := lo M s t + ext M s t) (c := 1) (lo M s t) (fun j _ _ => bi_le _)
  have c := b.2 (by omega)
  unfold cnW
  omega
theorem frB_le (h : rP M) {s t : Int} {w : Int → Bool} (h1 : 0 ≤ t) (h2 : t < M 31 0) : 0 ≤ frB M s w t ∧ frB M s w t ≤ 60 := by
  have a := cnW_le h (s := s) (w := w) h1 h2
  unfold frB
  repeat' split
  all_goals omega
theorem s_85 (h : rP M) {s t : Int} (h1 : 0 ≤ t) (h2 : t < M 31 0) : aE 85 [aR 31, aR (M 1 3), aI t, aI s] (SH L) M ([aI (bi (onF M s t))], SH L, M) := by
  have a := rP_i h h1 h2
  have n := rP_n h
  have ht := rP_tx h
  apply en_85
  simp only [bd bd31, tx ht]
  rw [show (31 + 3 : Int) = 34 by rfl, show (31 + 4 : Int) = 35 by rfl, show (31 + 5 : Int) = 36 by rfl, show (31 + 6 : Int) = 37 by rfl, aWi (z := M 34 t + M 36 t) (by omega) (by omega), aWi (z := M 35 t + M 37 t) (by omega) (by omega)]
  unfold onF
  refine ⟨fun c => ⟨trivial, by omega, fun q => rI ?_, fun q => rI ?_⟩, fun c => ⟨trivial, by omega, trivial, by omega, trivial, fun q => rI ?_, fun q => rI ?_⟩, fun c => ⟨trivial, by omega, trivial, by omega, trivial, fun q => rI ?_, fun q => rI ?_⟩, fun c0 c1 c2 => ⟨trivial, by omega, fun q => rI ?_, fun q => rI ?_⟩⟩
  · rw [if_pos c]; exact bin q
  · rw [if_pos c]; exact bip (by omega)
  · rw [if_neg (by omega), if_pos c]; exact bin q
  · rw [if_neg (by omega), if_pos c]; exact bip (by omega)
  · rw [if_neg (by omega), if_neg (by omega), if_pos c]; exact bin q
  · rw [if_neg (by omega), if_neg (by omega), if_pos c]; exact bip (by omega)
  · rw [if_neg c0, if_neg c1, if_neg c2]; exact bin q
  · rw [if_neg c0, if_neg c1, if_neg c2]; exact bip (by omega)
theorem s_87 (h : rP M) {s t z : Int} (h1 : 0 ≤ t) (h2 : t < M 31 0) : aE 87 [aR 31, aR (M 1 3), aI t, aI s, aJ z] (SH L) M ([aI (frB M s (fun p => lb z p) t)], SH L, M) := by
  have a := rP_i h h1 h2
  have n := rP_n h
  have ex := ext_le h (s := s) h1 h2
  have cw := cnW_le h (s := s) (w := fun p => lb z p) h1 h2
  have fin : onF M s t = true → aX xc_87 (aSeek xc_87 68) [aR 31, aU, aI t, aU, aJ z, aU, aU, aU, aU] [aJ (spn (lo M s t) (lo M s t + ext M s t))] (SH L) M ([aI (frB M s (fun p => lb z p) t)], SH L, M) := by
    intro c
    apply bl_87_68
    refine ⟨M, _, s_86, ?_⟩
    have e : sumI (fun i => bi (lb (aLand (spn (lo M s t) (lo M s t + ext M s t)) z) i)) 0 64 = cnW M s (fun p => lb z p) t := by
      unfold cnW
      dsimp only
      rw [sumI_cut (m := lo M s t) (by omega) 0 (by omega), sumI_cut (m := lo M s t + ext M s t) (by omega) (lo M s t) (by omega)]
      rw [sumI_0 0 (fun j j0 j1 => by rw [lb_and, lb_spn (by omega) (by omega), decide_eq_false (by omega)]; rfl)]
      rw [sumI_0 (lo M s t + ext M s t) (fun j j0 j1 => by rw [lb_and, lb_spn (by omega) (by omega), decide_eq_false (by omega)]; rfl)]
      rw [sumI_congr (g := fun p => bi (lb z p)) (lo M s t) (fun j j0 j1 => by rw [lb_and, lb_spn (by omega) (by omega), decide_eq_true (by omega)]; rfl)]
      omega
    rw [e]
    simp only [bd bd31]
    unfold frB
    rw [if_pos c]
    refine ⟨trivial, by omega, fun q => rI ?_, fun q => rI ?_⟩
    · rw [show (31 + 2 : Int) = 33 by rfl] at q
      rw [if_neg q]
    · rw [show (31 + 2 : Int) = 33 by rfl] at q
      rw [if_pos (Classical.not_not.mp q), aDiv_nn cw.1 (by omega) (by omega) (by omega)]
  apply en_87
  simp only [bd bd31]
  rw [show (31 + 4 : Int) = 35 by rfl, show (31 + 6 : Int) = 37 by rfl]
  refine ⟨trivial, M, _, s_85 h h1 h2, fun c => ?_, fun c => rI ?_⟩
  · rw [bi_0, Bool.not_eq_false] at c
    have f := fin c
    have g21 : s = 0 ∨ s = 2 → aX xc_87 (aSeek xc_87 21) [aR 31, aU, aI t, aU, aJ z, aU, aU, aU, aU] [] (SH L) M ([aI (frB M s (fun p => lb z p) t)], SH L, M) := by
      intro c0
      apply bl_87_21
      simp only [bd bd31]
      rw [show (31 + 3 : Int) = 34 by rfl, show (31 + 5 : Int) = 36 by rfl, aWi (by omega) (by omega)]
      unfold lo ext at f
      rw [if_pos c0, if_pos c0] at f
      exact ⟨trivial, by omega, trivial, by omega, trivial, by omega, M, _, s_37, f⟩
    refine ⟨fun c0 => g21 (Or.inl c0), fun c0 => ⟨fun c2 => ?_, fun c2 => g21 (Or.inr (by omega))⟩⟩
    rw [aWi (by omega) (by omega)]
    unfold lo ext at f
    rw [if_neg (by omega), if_neg (by omega)] at f
    exact ⟨trivial, by omega, trivial, by omega, trivial, by omega, M, _, s_37, f⟩
  · rw [Classical.not_not, bi_0] at c
    unfold frB
    rw [c]
    rfl
/-- the points of a side that tight wedges reach -/
def wdg (M : aM) (tg s p : Int) : Bool := anyI (fun k => decide (M (M 1 3 + 6) k = s ∧ aAnd (aShr tg k) 1 = 1 ∧ M 161 k ≤ p ∧ p < M 162 k)) 0 (M (M 1 3) 9)
theorem s_82 (h : rT M (M 1 3)) {s tg : Int} : ∃ z, aE 82 [aR (M 1 3), aI s, aI tg] (SH L) M ([aJ z], SH L, M) ∧ ∀ p, 0 ≤ p → p < 64 → lb z p = wdg M tg s p := by
  have w := h.2.2.2.1
  have ht := h.1.1
  have key : ∀ k, ∀ z : Int, 0 ≤ k → k ≤ M (M 1 3) 9 → (∀ p, 0 ≤ p → p < 64 → lb z p = anyI (fun k => decide (M (M 1 3 + 6) k = s ∧ aAnd (aShr tg k) 1 = 1 ∧ M 161 k ≤ p ∧ p < M 162 k)) 0 k) →
      ∃ z', aX xc_82 (aSeek xc_82 5) [aR (M 1 3), aI s, aI tg, aJ z, aU, aI k] [] (SH L) M ([aJ z'], SH L, M) ∧ ∀ p, 0 ≤ p → p < 64 → lb z' p = wdg M tg s p := by
    refine upto (M (M 1 3) 9) (fun k hk z k0 k1 hz => ?_) (fun k hk ih z k0 k1 hz => ?_)
    · have e : k = M (M 1 3) 9 := by omega
      refine ⟨z, bl_82_5 ⟨(tx ht).1, fun _ => rfl, fun q => absurd hk q⟩, fun p p0 p1 => ?_⟩
      unfold wdg
      rw [hz p p0 p1, e]
    · have v := h.2.2.2.2 k k0 hk
      have nx : ∀ z' : Int, (∀ p, 0 ≤ p → p < 64 → lb z' p = (lb z p || decide (M (M 1 3 + 6) k = s ∧ aAnd (aShr tg k) 1 = 1 ∧ M 161 k ≤ p ∧ p < M 162 k))) → ∃ z'', aX xc_82 (aSeek xc_82 45) [aR (M 1 3), aI s, aI tg, aJ z', aU, aI k] [] (SH L) M ([aJ z''], SH L, M) ∧ ∀ p, 0 ≤ p → p < 64 → lb z'' p = wdg M tg s p := by
        intro z' hz'
        obtain ⟨z'', r, x⟩ := ih z' (by omega) (by omega) (fun p p0 p1 => by rw [hz' p p0 p1, hz p p0 p1, anyI_snoc k0])
        refine ⟨z'', bl_82_45 ?_, x⟩
        rw [aWi (by omega) (by omega)]
        exact r
      by_cases c1 : M (M 1 3 + 6) k = s
      · by_cases c2 : aAnd (aShr tg k) 1 = 1
        · obtain ⟨z'', r, x⟩ := nx (aLor z (M (M 1 3 + 7) k)) (fun p p0 p1 => by
            rw [lb_or, v.2.1, lb_spn p0 p1]
            congr 1
            apply decide_eq_decide.mpr
            constructor
            · rintro ⟨x1, x2, x3, x4⟩; exact ⟨c1, c2, x3, x4⟩
            · rintro ⟨x1, x2, x3, x4⟩; exact ⟨by omega, by omega, x3, x4⟩)
          refine ⟨z'', bl_82_5 ?_, x⟩
          simp only [tx ht]
          exact ⟨trivial, fun q => absurd hk (by omega), fun _ => ⟨trivial, by omega, fun q => absurd c1 q, fun _ => ⟨fun q => absurd c2 q, fun _ => ⟨trivial, by omega, r⟩⟩⟩⟩
        · obtain ⟨z'', r, x⟩ := nx z (fun p p0 p1 => by rw [decide_eq_false (fun q => c2 q.2.1), Bool.or_false])
          refine ⟨z'', bl_82_5 ?_, x⟩
          simp only [tx ht]
          exact ⟨trivial, fun q => absurd hk (by omega), fun _ => ⟨trivial, by omega, fun q => absurd c1 q, fun _ => ⟨fun _ => r, fun q => absurd c2 q⟩⟩⟩
      · obtain ⟨z'', r, x⟩ := nx z (fun p p0 p1 => by rw [decide_eq_false (fun q => c1 q.1), Bool.or_false])
        refine ⟨z'', bl_82_5 ?_, x⟩
        simp only [tx ht]
        exact ⟨trivial, fun q => absurd hk (by omega), fun _ => ⟨trivial, by omega, fun _ => r, fun q => absurd c1 q⟩⟩
  obtain ⟨z, r, x⟩ := key 0 0 (by omega) w.1 (fun p p0 p1 => by rw [lb_0, anyI_nil (by omega)])
  exact ⟨z, en_82 r, x⟩
theorem ctc_sy {i j : Int} : ctc M i j = ctc M j i := by
  unfold ctc hlf
  rw [show ovX M i j = ovX M j i by unfold ovX; omega, show ovY M i j = ovY M j i by unfold ovY; omega]
  by_cases c : M 33 i = 2 ∨ M 33 j = 2
  · rw [if_pos c, if_pos (show M 33 j = 2 ∨ M 33 i = 2 from c.symm)]
  · rw [if_neg c, if_neg (show ¬ (M 33 j = 2 ∨ M 33 i = 2) from fun q => c q.symm)]
theorem hlf_sy {i j n : Int} : hlf M i j n = hlf M j i n := by
  unfold hlf
  by_cases c : M 33 i = 2 ∨ M 33 j = 2
  · rw [if_pos c, if_pos (show M 33 j = 2 ∨ M 33 i = 2 from c.symm)]
  · rw [if_neg c, if_neg (show ¬ (M 33 j = 2 ∨ M 33 i = 2) from fun q => c q.symm)]
theorem adj_v0 (h : rP M) {i j : Int} (h1 : 0 ≤ i) (h2 : i < M 31 0) (h3 : 0 ≤ j) (h4 : j < M 31 0) : (if adj M 0 i j = true then ctc M i j else 0) = hlf M i j (if M 34 i + M 36 i = M 34 j then max 0 (ovY M i j) else 0) := by
  have a := rP_i h h1 h2
  have b := rP_i h h3 h4
  have k := adj_0 h h1 h2 h3 h4
  by_cases e : M 34 i + M 36 i = M 34 j
  · rw [if_pos e]
    have ex : ovX M i j = 0 := by unfold ovX; omega
    have n0 := (hlf_le (M := M) (i := i) (j := j) (n := max 0 (ovY M i j)) (by omega)).1
    by_cases c : adj M 0 i j = true
    · rw [if_pos c]
      have p := hlf_pos (k.mp c).2
      unfold ctc
      rw [ex, if_pos (by omega)]
    · rw [if_neg c]
      have : ¬ 0 < hlf M i j (max 0 (ovY M i j)) := fun q => c (k.mpr ⟨e, q⟩)
      omega
  · rw [if_neg e, hlf0, if_neg (fun c => e (k.mp c).1)]
theorem adj_v1 (h : rP M) {i j : Int} (h1 : 0 ≤ i) (h2 : i < M 31 0) (h3 : 0 ≤ j) (h4 : j < M 31 0) : (if adj M 1 i j = true then ctc M i j else 0) = hlf M i j (if M 35 i + M 37 i = M 35 j then max 0 (ovX M i j) else 0) := by
  have a := rP_i h h1 h2
  have b := rP_i h h3 h4
  have k := adj_1 h h1 h2 h3 h4
  by_cases e : M 35 i + M 37 i = M 35 j
  · rw [if_pos e]
    have ex : ovY M i j = 0 := by unfold ovY; omega
    have n0 := (hlf_le (M := M) (i := i) (j := j) (n := max 0 (ovX M i j)) (by omega)).1
    by_cases c : adj M 1 i j = true
    · rw [if_pos c]
      have p := hlf_pos (k.mp c).2
      unfold ctc
      rw [ex, Int.max_comm, if_pos (by omega)]
    · rw [if_neg c]
      have : ¬ 0 < hlf M i j (max 0 (ovX M i j)) := fun q => c (k.mpr ⟨e, q⟩)
      omega
  · rw [if_neg e, hlf0, if_neg (fun c => e (k.mp c).1)]
theorem ovX_sy {i j : Int} : ovX M i j = ovX M j i := by unfold ovX; omega
theorem ovY_sy {i j : Int} : ovY M i j = ovY M j i := by unfold ovY; omega
theorem tA_0 {t o : Int} : tA M t 0 o = hlf M t o (if M 35 o + M 37 o = M 35 t then max 0 (ovX M t o) else 0) := rfl
theorem tA_1 {t o : Int} : tA M t 1 o = hlf M t o (if M 34 o = M 34 t + M 36 t then max 0 (ovY M t o) else 0) := rfl
theorem tA_2 {t o : Int} : tA M t 2 o = hlf M t o (if M 35 o = M 35 t + M 37 t then max 0 (ovX M t o) else 0) := rfl
theorem tA_3 {t o : Int} : tA M t 3 o = hlf M t o (if M 34 o + M 36 o = M 34 t then max 0 (ovY M t o) else 0) := rfl
/-- the axis of a side; whether one goes from before to behind -/
def axS (s : Int) : Int := if s = 0 ∨ s = 2 then 1 else 0
theorem adj_tA (h : rP M) {s t o : Int} (hs : 0 ≤ s ∧ s < 4) (h1 : 0 ≤ t) (h2 : t < M 31 0) (h3 : 0 ≤ o) (h4 : o < M 31 0) : (if s = 0 ∨ s = 3 then (if adj M (axS s) o t = true then ctc M o t else 0) else (if adj M (axS s) t o = true then ctc M t o else 0)) = tA M t s o := by
  have c : s = 0 ∨ s = 1 ∨ s = 2 ∨ s = 3 := by omega
  rcases c with rfl | rfl | rfl | rfl
  · rw [if_pos (by omega), tA_0]
    show (if adj M 1 o t = true then ctc M o t else 0) = _
    rw [adj_v1 h h3 h4 h1 h2, hlf_sy, ovX_sy]
  · rw [if_neg (by omega), tA_1]
    show (if adj M 0 t o = true then ctc M t o else 0) = _
    rw [adj_v0 h h1 h2 h3 h4]
    by_cases e : M 34 t + M 36 t = M 34 o
    · rw [if_pos e, if_pos e.symm]
    · rw [if_neg e, if_neg (fun q => e q.symm)]
  · rw [if_neg (by omega), tA_2]
    show (if adj M 1 t o = true then ctc M t o else 0) = _
    rw [adj_v1 h h1 h2 h3 h4]
    by_cases e : M 35 t + M 37 t = M 35 o
    · rw [if_pos e, if_pos e.symm]
    · rw [if_neg e, if_neg (fun q => e q.symm)]
  · rw [if_pos (by omega), tA_3]
    show (if adj M 0 o t = true then ctc M o t else 0) = _
    rw [adj_v0 h h3 h4 h1 h2, hlf_sy, ovY_sy]
/-- what Pushes has looked at -/
def lkd (M : aM) : Prop := M 64 4 = M 1 3 ∧ M 64 5 = 31 ∧ ctR M
theorem lkd_cg (h : lkd M) (h0 : M1 1 3 = M 1 3) (h1 : ∀ a, 31 ≤ a → a ≤ 37 → M1 a = M a) (h2 : ∀ a, 67 ≤ a → a ≤ 76 → M1 a = M a) (h3 : M1 64 4 = M 64 4) (h4 : M1 64 5 = M 64 5) (h5 : M1 64 8 = M 64 8) : lkd M1 := ⟨by rw [h3, h0]; exact h.1, by rw [h4]; exact h.2.1, ctR_cg h.2.2 h1 h2 h5⟩
theorem s_90 (h : rP M) (hk : lkd M) {p e : Int} (hp : 0 ≤ p ∧ p ≤ 10000) (he : 0 ≤ e ∧ e ≤ 60) : aE 90 [aR 64, aI p, aI e] (SH L) M ([aI (bi (decide (M (M 1 3) 2 * e ≤ 100 * p)))], SH L, M) := by
  have a := h.1.1.2.2.2.1
  have m : 0 ≤ M (M 1 3) 2 * e ∧ M (M 1 3) 2 * e ≤ 6000 := by
    refine ⟨Int.mul_nonneg (by omega) he.1, ?_⟩
    have := Int.mul_le_mul a.2 he.2 he.1 (by omega : (0 : Int) ≤ 100)
    omega
  apply en_90
  rw [hk.1, aWi (z := 100 * p) (by omega) (by omega), aWi (by omega) (by omega)]
  refine ⟨(tx (rP_tx h)).1, fun q => rI (bin (by omega)), fun q => rI (bip (by omega))⟩
theorem sumI_rev {f : Int → Int} {n : Int} (hn : 0 ≤ n) : sumI (fun i => f (n - 1 - i)) 0 n = sumI f 0 n := by
  have key : ∀ i, 0 ≤ i → i ≤ n → sumI (fun i => f (n - 1 - i)) i n = sumI f 0 (n - i) := by
    refine upto n (fun i hi h0 h1 => ?_) (fun i hi ih h0 h1 => ?_)
    · rw [sumI_nil hi, sumI_nil (by omega)]
    · rw [sumI_step hi, ih (by omega) (by omega)]
      have := sumI_snoc (f := f) (n := n - (i + 1)) 0 (by omega)
      rw [show n - (i + 1) + 1 = n - i by omega, show n - (i + 1) = n - 1 - i by omega] at this
      rw [show n - (i + 1) = n - 1 - i by omega, this]
      show f (n - 1 - i) + _ = _
      omega
  have := key 0 (by omega) hn
  rw [show n - 0 = n by omega] at this
  exact this
end SPR
