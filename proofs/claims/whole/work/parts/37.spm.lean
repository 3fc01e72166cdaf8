/-! pushes spread: the model -/
section SPRM
variable {L : Nat} {M M1 M2 : aM}
/-- the cells of both sides that say what lies, and the texts, are the same -/
def ke (M M1 : aM) : Prop := ∀ a, (1 ≤ a ∧ a ≤ 63) ∨ (151 ≤ a ∧ a ≤ 184) → M1 a = M a
theorem ke_rf : ke M M := fun _ _ => rfl
theorem ke_tr (h : ke M M1) (h2 : ke M1 M2) : ke M M2 := fun a ha => (h2 a ha).trans (h a ha)
theorem ke_sc (h : sc M M1) : ke M M1 := fun a ha => h.1 a (by omega) (by omega) (by omega)
theorem ke_fr {l r : Int} (h : fr l r M M1) (a1 : 64 ≤ l) (a2 : r ≤ 150) : ke M M1 := fun a ha => h a (by omega)
theorem ke_rP (h : rP M) (k : ke M M1) : rP M1 := rP_cg h (fun a ha => k a (by omega)) (by rw [k 1 (by omega)])
theorem ke_ext (k : ke M M1) {s t : Int} : ext M1 s t = ext M s t := by unfold ext; rw [k 36 (by omega), k 37 (by omega)]
theorem ke_lo (k : ke M M1) {s t : Int} : lo M1 s t = lo M s t := by unfold lo; rw [k 34 (by omega), k 35 (by omega)]
theorem ke_T (h : rP M) (k : ke M M1) : M1 1 = M 1 ∧ M1 (M 1 3) = M (M 1 3) ∧ M1 (M 1 3 + 6) = M (M 1 3 + 6) := by
  have t := tx_le (rP_tx h)
  exact ⟨k 1 (by omega), k _ (by omega), k _ (by omega)⟩
theorem ke_tA (k : ke M M1) {s t o : Int} : tA M1 t s o = tA M t s o := by
  unfold tA hlf ovX ovY
  rw [k 33 (by omega), k 34 (by omega), k 35 (by omega), k 36 (by omega), k 37 (by omega)]
theorem ke_ctc (k : ke M M1) {i j : Int} : ctc M1 i j = ctc M i j := by
  unfold ctc hlf ovX ovY
  rw [k 33 (by omega), k 34 (by omega), k 35 (by omega), k 36 (by omega), k 37 (by omega)]
theorem ke_wdg (h : rP M) (k : ke M M1) {tg s p : Int} : wdg M1 tg s p = wdg M tg s p := by
  obtain ⟨a, b, c⟩ := ke_T h k
  unfold wdg
  rw [a, b, c, k 161 (by omega), k 162 (by omega)]
theorem ke_onF (h : rP M) (k : ke M M1) {s t : Int} : onF M1 s t = onF M s t := by
  obtain ⟨a, b, c⟩ := ke_T h k
  unfold onF
  rw [a, b, k 34 (by omega), k 35 (by omega), k 36 (by omega), k 37 (by omega)]
theorem ke_frB (h : rP M) (k : ke M M1) {s t : Int} {w : Int → Bool} : frB M1 s w t = frB M s w t := by
  unfold frB cnW
  rw [ke_onF h k, ke_lo k, ke_ext k, k 33 (by omega)]
theorem ke_EQ (h : rP M) (k : ke M M1) {ly : Int → Bool} {bs : Int → Int} {s : Int} {F : Int → Bool} : EQ M1 ly bs s F ↔ EQ M ly bs s F := by
  obtain ⟨a, b, c⟩ := ke_T h k
  unfold EQ
  rw [a, b, k 31 (by omega)]
  simp only [ke_ext k, ke_tA k]
theorem s_239 (h : rP M) {t s : Int} (h1 : 0 ≤ t) (h2 : t < M 31 0) : aE 239 [aR 145, aI t, aI s] (SH L) M ([aI (ext M s t)], SH L, M) := by
  unfold ext
  refine en_239 ⟨fun c => bl_239_9 ⟨M, _, s_223 h h1 h2, rI ?_⟩, fun c => ⟨fun c2 => ⟨M, _, s_224 h h1 h2, rI ?_⟩, fun c2 => bl_239_9 ⟨M, _, s_223 h h1 h2, rI ?_⟩⟩⟩
  · rw [if_pos (Or.inl c)]
  · rw [if_neg (by omega)]
  · rw [if_pos (by omega)]
theorem s_240 (h : rP M) {t s : Int} (hs : 0 ≤ s ∧ s < 4) (h1 : 0 ≤ t) (h2 : t < M 31 0) : aE 240 [aR 145, aI t, aI s] (SH L) M ([aI (bi (onF M s t))], SH L, M) := by
  have n := rP_n h
  have a := rP_i h h1 h2
  have m := rP_m h h1 h2
  have f := h.1.2.1
  apply en_240
  simp only [ln0, ln1, ln2, ln3, ln4, m.2.1, m.2.2.1, f.1, f.2.1]
  unfold onF
  refine ⟨fun c0 => ⟨fun c3 => ⟨fun c1 => ⟨by omega, M, _, s_224 h h1 h2, fun q => rI ?_, fun q => rI ?_⟩, fun c1 => ⟨by omega, M, _, s_223 h h1 h2, fun q => rI ?_, fun q => rI ?_⟩⟩, fun c3 => ⟨by omega, fun q => rI ?_, fun q => rI ?_⟩⟩, fun c0 => ⟨by omega, fun q => rI ?_, fun q => rI ?_⟩⟩
  · rw [f.2.1, aWi (by omega) (by omega)] at q
    rw [if_neg (by omega), if_neg (by omega), if_pos (by omega)]; exact bin q
  · rw [f.2.1, aWi (by omega) (by omega)] at q
    rw [if_neg (by omega), if_neg (by omega), if_pos (by omega)]; exact bip (by omega)
  · rw [f.1, aWi (by omega) (by omega)] at q
    rw [if_neg (by omega), if_pos (by omega)]; exact bin q
  · rw [f.1, aWi (by omega) (by omega)] at q
    rw [if_neg (by omega), if_pos (by omega)]; exact bip (by omega)
  · rw [if_neg (by omega), if_neg (by omega), if_neg (by omega)]; exact bin q
  · rw [if_neg (by omega), if_neg (by omega), if_neg (by omega)]; exact bip (by omega)
  · rw [if_pos (by omega)]; exact bin q
  · rw [if_pos (by omega)]; exact bip (by omega)
theorem s_241 (h : rP M) {s p : Int} : aE 241 [aR 145, aI s, aI p] (SH L) M ([aI (bi (wdg M (M 145 61) s p))], SH L, M) := by
  have w := h.1.2.2.2.1
  have key : ∀ k, 0 ≤ k → aX xc_241 (aSeek xc_241 2) [aR 145, aI s, aI p, aI k] [] (SH L) M ([aI (bi (anyI (fun k => decide (M (M 1 3 + 6) k = s ∧ aAnd (aShr (M 145 61) k) 1 = 1 ∧ M 161 k ≤ p ∧ p < M 162 k)) k (M (M 1 3) 9)))], SH L, M) := by
    refine upto (M (M 1 3) 9) (fun k hk k0 => ?_) (fun k hk ih k0 => ?_)
    · exact bl_241_2 ⟨fun _ => rI (by rw [anyI_nil hk]; rfl), fun q => absurd hk (by omega)⟩
    · have v := (h.1.2.2.2.2 k k0 hk).1.2.2
      have nx : ¬ (M (M 1 3 + 6) k = s ∧ aAnd (aShr (M 145 61) k) 1 = 1 ∧ M 161 k ≤ p ∧ p < M 162 k) → aX xc_241 (aSeek xc_241 56) [aR 145, aI s, aI p, aI k] [] (SH L) M ([aI (bi (anyI (fun k => decide (M (M 1 3 + 6) k = s ∧ aAnd (aShr (M 145 61) k) 1 = 1 ∧ M 161 k ≤ p ∧ p < M 162 k)) k (M (M 1 3) 9)))], SH L, M) := by
        intro c
        rw [anyI_no hk (by rw [decide_eq_true_eq]; exact c)]
        refine bl_241_56 ?_
        rw [aWi (by omega) (by omega)]
        exact ih (by omega)
      apply bl_241_2
      simp only [ln0, ln1, ln2, ln3, ln4, v]
      refine ⟨fun q => absurd hk (by omega), fun _ => ⟨fun q => nx (fun z => q z.2.1), fun q => ⟨by omega, fun q1 => nx (fun z => q1 z.1), fun q1 => ⟨by omega, fun q2 => nx (fun z => by omega), fun q2 => ⟨by omega, fun q3 => nx (fun z => by omega), fun q3 => rI ?_⟩⟩⟩⟩⟩
      rw [anyI_yes hk (by rw [decide_eq_true_eq]; exact ⟨by omega, by omega, by omega, by omega⟩)]
      rfl
  exact en_241 (key 0 (by omega))
def wB (M : aM) (by_ tg s : Int) : Int → Bool := if by_ = 0 then fun _ => true else fun p => wdg M tg s p
theorem s_242 (h : rP M) {t s b : Int} (hs : 0 ≤ s ∧ s < 4) (h1 : 0 ≤ t) (h2 : t < M 31 0) : aE 242 [aR 145, aI t, aI s, aI b] (SH L) M ([aI (frB M s (wB M b (M 145 61) s) t)], SH L, M) := by
  have n := rP_n h
  have a := rP_i h h1 h2
  have m := rP_m h h1 h2
  have ex := ext_le h (s := s) h1 h2
  have cw := cnW_le h (s := s) (w := wB M b (M 145 61) s) h1 h2
  have key : onF M s t = true → ∀ p, ∀ c, lo M s t ≤ p → 0 ≤ c → c ≤ p - lo M s t → c + sumI (fun p => bi (wB M b (M 145 61) s p)) p (lo M s t + ext M s t) = cnW M s (wB M b (M 145 61) s) t →
      aX xc_242 (aSeek xc_242 44) [aR 145, aI t, aI s, aI b, aI (lo M s t), aI c, aI p] [] (SH L) M ([aI (frB M s (wB M b (M 145 61) s) t)], SH L, M) := by
    intro on
    refine upto (lo M s t + ext M s t) (fun p hp c p0 c0 c1 e => ?_) (fun p hp ih c p0 c0 c1 e => ?_)
    · rw [sumI_nil hp, Int.add_zero] at e
      refine bl_242_44 ⟨M, _, s_239 h h1 h2, fun _ => ⟨M, _, s_225 h h1 h2, fun q => rI ?_, fun q => rI ?_⟩, fun q => absurd hp (by rw [aWi (by omega) (by omega)] at q; exact q)⟩
      · rw [bid0] at q
        unfold frB
        rw [if_pos on, if_neg q, e]
      · rw [bid0, Classical.not_not] at q
        unfold frB
        rw [if_pos on, if_pos q, e, aDiv_nn cw.1 (by omega) (by omega) (by omega)]
    · rw [sumI_step hp] at e
      have k79 : ∀ v : Int, v = bi (wB M b (M 145 61) s p) → aX xc_242 (aSeek xc_242 79) [aR 145, aI t, aI s, aI b, aI (lo M s t), aU, aI p] [aI v, aI c] (SH L) M ([aI (frB M s (wB M b (M 145 61) s) t)], SH L, M) := by
        intro v hv
        have vb := bi_le (wB M b (M 145 61) s p)
        apply bl_242_79
        rw [aWi (by omega) (by omega), aWi (by omega) (by omega)]
        exact ih (c + v) (by omega) (by omega) (by omega) (by rw [hv]; omega)
      refine bl_242_44 ⟨M, _, s_239 h h1 h2, fun q => absurd hp (by rw [aWi (by omega) (by omega)] at q; omega), fun _ => ⟨fun q => bl_242_74 (k79 1 ?_), fun q => ⟨M, _, s_241 h, fun q2 => k79 0 ?_, fun q2 => bl_242_74 (k79 1 ?_)⟩⟩⟩
      · unfold wB; rw [if_pos q]; rfl
      · unfold wB; rw [if_neg q, q2]
      · unfold wB; rw [if_neg q]
        have := bi_01 (wdg M (M 145 61) s p)
        omega
  have go : onF M s t = true → aX xc_242 (aSeek xc_242 35) [aR 145, aI t, aI s, aI b, aU, aU, aU] [aI (lo M s t)] (SH L) M ([aI (frB M s (wB M b (M 145 61) s) t)], SH L, M) := fun on => bl_242_35 (key on (lo M s t) 0 (by omega) (by omega) (by omega) (by unfold cnW; omega))
  have g20 : onF M s t = true → s = 0 ∨ s = 2 → aX xc_242 (aSeek xc_242 20) [aR 145, aI t, aI s, aI b, aU, aU, aU] [] (SH L) M ([aI (frB M s (wB M b (M 145 61) s) t)], SH L, M) := by
    intro on c
    have g := go on
    apply bl_242_20
    simp only [ln0, ln1, ln2, ln3, ln4, m.2.1]
    rw [show lo M s t = M 34 t from if_pos c] at g
    exact ⟨by omega, g⟩
  refine en_242 ⟨M, _, s_240 h hs h1 h2, fun q => ?_, fun q => rI ?_⟩
  · rw [bi_0, Bool.not_eq_false] at q
    refine ⟨fun c => g20 q (Or.inl c), fun c => ⟨fun c2 => ?_, fun c2 => g20 q (Or.inr (by omega))⟩⟩
    have g := go q
    simp only [ln0, ln1, ln2, ln3, ln4, m.2.2.1]
    rw [show lo M s t = M 35 t from if_neg (by omega)] at g
    exact ⟨by omega, g⟩
  · rw [Classical.not_not, bi_0] at q
    unfold frB
    rw [q]
    rfl
/-- the row of marks -/
def mkR (p : Int) : Int := if p = 0 then 195 else 194
theorem mkR_is {p : Int} : mkR p = 194 ∨ mkR p = 195 := by unfold mkR; split <;> omega
theorem s_243 {s p t v : Int} (hs : 0 ≤ s ∧ s < 4) (ht : 0 ≤ t ∧ t < 40) (hv : v = 0 ∨ v = 1) : aE 243 [aR 145, aI s, aI p, aI t, aI v] (SH L) M ([], SH L, aSet M (mkR p) (40 * s + t) v) := by
  apply en_243
  simp only [ln0, ln1, ln2, ln3, ln4]
  rw [aWi (z := 40 * s) (by omega) (by omega), aWi (by omega) (by omega)]
  unfold mkR
  refine ⟨fun c => ⟨⟨by omega, hv⟩, ?_⟩, fun c => ⟨⟨by omega, hv⟩, ?_⟩⟩
  · rw [if_pos c]
  · rw [if_neg c]
theorem s_244 {s p t : Int} (hs : 0 ≤ s ∧ s < 4) (ht : 0 ≤ t ∧ t < 40) (hv : M (mkR p) (40 * s + t) = 0 ∨ M (mkR p) (40 * s + t) = 1) : aE 244 [aR 145, aI s, aI p, aI t] (SH L) M ([aI (M (mkR p) (40 * s + t))], SH L, M) := by
  apply en_244
  simp only [ln0, ln1, ln2, ln3, ln4]
  rw [aWi (z := 40 * s) (by omega) (by omega), aWi (by omega) (by omega)]
  unfold mkR at hv ⊢
  refine ⟨fun c => ?_, fun c => ?_⟩
  · rw [if_pos c] at hv ⊢; exact ⟨by omega, hv, rfl⟩
  · rw [if_neg c] at hv ⊢; exact ⟨by omega, hv, rfl⟩
/-- what a spread leaves as it is -/
def spF (M M1 : aM) (s p : Int) : Prop := ∀ a b, a ≠ 196 → ¬ (a = mkR p ∧ 40 * s ≤ b ∧ b < 40 * s + 40) → M1 a b = M a b
theorem spF_c {s p : Int} (h : spF M M1 s p) {a : Int} (h1 : a < 194 ∨ 196 < a) : M1 a = M a := funext fun b => h a b (by omega) (by have := mkR_is (p := p); omega)
theorem spF_sc {s p : Int} (h : spF M M1 s p) : sc M M1 := ⟨fun a x y z => spF_c h (by omega), fun j _ => by rw [spF_c h (by omega)]⟩
theorem spF_1 {s p t v : Int} (h : spF M M1 s p) (hs : 0 ≤ s ∧ s < 4) (ht : 0 ≤ t ∧ t < 40) : spF M (aSet M1 (mkR p) (40 * s + t) v) s p := fun a b x y => by rw [aSet_a, if_neg (by omega)]; exact h a b x y
theorem spF_2 {s p t v : Int} (h : spF M M1 s p) : spF M (aSet M1 196 t v) s p := fun a b x y => by rw [aSet_r x]; exact h a b x y
def lyM (M : aM) (t : Int) : Bool := decide (¬ M 193 t = 0)
def mkB (M : aM) (s p t : Int) : Bool := decide (M (mkR p) (40 * s + t) = 1)
def smM (M M1 : aM) (s p t : Int) : Int := sumI (fun o => if mkB M1 s p o = true then tA M t s o else 0) 0 (M 31 0)
/-- the state of a spread -/
def spI (M M1 : aM) (s p : Int) : Prop := spF M M1 s p ∧ (∀ t, 0 ≤ t → t < M 31 0 → M1 (mkR p) (40 * s + t) = 0 ∨ M1 (mkR p) (40 * s + t) = 1) ∧
  (∀ t, 0 ≤ t → t < M 31 0 → lyM M t = true → M1 196 t = frB M s (wB M p (M 145 61) s) t + smM M M1 s p t) ∧
  ∀ t, 0 ≤ t → t < M 31 0 → mkB M1 s p t = true → lyM M t = true ∧ M (M 1 3) 2 * ext M s t ≤ 100 * M1 196 t
def unM (M M1 : aM) (s p : Int) : Int := sumI (fun t => if mkB M1 s p t = true then 0 else 1) 0 (M 31 0)
theorem smM_le (h : rP M) {s p t : Int} (h1 : 0 ≤ t) (h2 : t < M 31 0) : 0 ≤ smM M M1 s p t ∧ smM M M1 s p t ≤ 2400 := by
  have n := rP_n h
  have a := sumI_le (f := fun o => if mkB M1 s p o = true then tA M t s o else 0) (n := M 31 0) (c := 60) 0 (fun o o0 o1 => by
    have := tA_le h (s := s) h1 h2 (show 0 ≤ o by omega) o1
    split <;> omega)
  have b := a.2 n.1
  unfold smM
  omega
theorem tA_self (h : rP M) {s t : Int} (h1 : 0 ≤ t) (h2 : t < M 31 0) : tA M t s t = 0 := by
  have a := rP_i h h1 h2
  unfold tA
  rw [if_neg (c := M 35 t + M 37 t = M 35 t) (by omega), if_neg (c := M 35 t = M 35 t + M 37 t) (by omega), if_neg (c := M 34 t = M 34 t + M 36 t) (by omega), if_neg (c := M 34 t + M 36 t = M 34 t) (by omega)]
  repeat' split
  all_goals exact hlf0
/-- one is marked, and what it pushes is told the others -/
theorem spX (h : rP M) {s p t m : Int} (hs : 0 ≤ s ∧ s < 4) (t0 : 0 ≤ t) (t1 : t < M 31 0) (hi : spI M M1 s p) (hm : ¬ mkB M1 s p t = true) (hl : lyM M t = true) (hc : M (M 1 3) 2 * ext M s t ≤ 100 * M1 196 t) :
    ∃ M2, spI M M2 s p ∧ unM M M2 s p < unM M M1 s p ∧ ∀ o, aX xc_245 (aSeek xc_245 192) [aR 145, aI s, aI p, aI m, aI t, aU] [] (SH L) M2 o → aX xc_245 (aSeek xc_245 139) [aR 145, aI s, aI p, aI m, aI t, aI 0] [] (SH L) (aSet M1 (mkR p) (40 * s + t) 1) o := by
  have n := rP_n h
  obtain ⟨i1, i2, i3, i4⟩ := hi
  have mr := mkR_is (p := p)
  have F1 : spF M (aSet M1 (mkR p) (40 * s + t) 1) s p := spF_1 i1 hs (by omega)
  have key : ∀ k, ∀ M' : aM, 0 ≤ k → k ≤ M 31 0 → spF M M' s p → (∀ b, M' (mkR p) b = aSet M1 (mkR p) (40 * s + t) 1 (mkR p) b) → (∀ j, 0 ≤ j → j < M 31 0 → M' 196 j = M1 196 j + (if j < k ∧ lyM M j = true ∧ ¬ j = t then tA M j s t else 0)) →
      ∃ M2, spF M M2 s p ∧ (∀ b, M2 (mkR p) b = aSet M1 (mkR p) (40 * s + t) 1 (mkR p) b) ∧ (∀ j, 0 ≤ j → j < M 31 0 → M2 196 j = M1 196 j + (if lyM M j = true ∧ ¬ j = t then tA M j s t else 0)) ∧
      ∀ o, aX xc_245 (aSeek xc_245 192) [aR 145, aI s, aI p, aI m, aI t, aU] [] (SH L) M2 o → aX xc_245 (aSeek xc_245 139) [aR 145, aI s, aI p, aI m, aI t, aI k] [] (SH L) M' o := by
    refine upto (M 31 0) (fun k hk M' k0 k1 hf hmk hv => ?_) (fun k hk ih M' k0 k1 hf hmk hv => ?_)
    · refine ⟨M', hf, hmk, fun j j0 j1 => ?_, fun o r => bl_245_139 ⟨fun _ => r, fun q => absurd ?_ q⟩⟩
      · rw [hv j j0 j1]
        by_cases c : lyM M j = true ∧ ¬ j = t
        · rw [if_pos c, if_pos ⟨by omega, c⟩]
        · rw [if_neg c, if_neg (fun z => c z.2)]
      · rw [spF_c hf (by omega)]; omega
    · have e179 : M' 179 0 = M 31 0 := by rw [spF_c hf (by omega)]; exact n.2.2
      have e193 : M' 193 = M 193 := spF_c hf (by omega)
      have hP' := rP_sc h (spF_sc hf)
      have kk := ke_sc (spF_sc hf)
      have nx : ∀ M2 o, aX xc_245 (aSeek xc_245 139) [aR 145, aI s, aI p, aI m, aI t, aI (k + 1)] [] (SH L) M2 o → aX xc_245 (aSeek xc_245 186) [aR 145, aI s, aI p, aI m, aI t, aI k] [] (SH L) M2 o := by
        intro M2 o r
        apply bl_245_186
        rw [aWi (by omega) (by omega)]
        exact r
      by_cases c : lyM M k = true ∧ ¬ k = t
      · have tb := tA_le h (s := s) k0 hk t0 t1
        have sb : -100 ≤ M' 196 k ∧ M' 196 k ≤ 10000 := by
          rw [hv k k0 hk, if_neg (by omega), i3 k k0 hk c.1]
          have := frB_le h (s := s) (w := wB M p (M 145 61) s) k0 hk
          have := smM_le h (M1 := M1) (s := s) (p := p) k0 hk
          omega
        obtain ⟨M2, f2, m2, v2, r2⟩ := ih (aSet M' 196 k (M' 196 k + tA M k s t)) (by omega) (by omega) (spF_2 hf) (fun b => by rw [aSet_r (by omega)]; exact hmk b) (fun j j0 j1 => by
          rw [aSet_q]
          by_cases d : j = k
          · rw [if_pos d, if_pos ⟨by omega, by rw [d]; exact c⟩, hv k k0 hk, if_neg (by omega), d]; omega
          · rw [if_neg d, hv j j0 j1]
            congr 1
            by_cases d2 : j < k ∧ lyM M j = true ∧ ¬ j = t
            · rw [if_pos d2, if_pos ⟨by omega, d2.2⟩]
            · rw [if_neg d2, if_neg (fun z => d2 ⟨by omega, z.2⟩)])
        refine ⟨M2, f2, m2, v2, fun o r => bl_245_139 ?_⟩
        simp only [ln0, ln1, ln2, ln3, ln4, e179, e193]
        have cl := c.1
        unfold lyM at cl
        rw [decide_eq_true_eq] at cl
        have e235 := s_235 (L := L) hP' (s := s) (t := k) (o := t) k0 (by rw [kk 31 (by omega)]; exact hk) t0 (by rw [kk 31 (by omega)]; exact t1)
        rw [ke_tA kk] at e235
        refine ⟨fun q => absurd q (by omega), fun _ => ⟨by omega, fun q => absurd q cl, fun _ => ⟨fun q => absurd q c.2, fun _ => ⟨by omega, M', _, e235, by omega, ?_⟩⟩⟩⟩
        rw [aWi (by omega) (by omega)]
        exact nx _ o (r2 o r)
      · obtain ⟨M2, f2, m2, v2, r2⟩ := ih M' (by omega) (by omega) hf hmk (fun j j0 j1 => by
          rw [hv j j0 j1]
          congr 1
          by_cases d2 : j < k ∧ lyM M j = true ∧ ¬ j = t
          · rw [if_pos d2, if_pos ⟨by omega, d2.2⟩]
          · rw [if_neg d2, if_neg (fun z => by
              by_cases d : j = k
              · rw [d] at z; exact c z.2
              · exact d2 ⟨by omega, z.2⟩)])
        refine ⟨M2, f2, m2, v2, fun o r => bl_245_139 ?_⟩
        simp only [ln0, ln1, ln2, ln3, ln4, e179, e193]
        refine ⟨fun q => absurd q (by omega), fun _ => ⟨by omega, fun q => nx _ o (r2 o r), fun q => ⟨fun q2 => nx _ o (r2 o r), fun q2 => absurd ⟨?_, q2⟩ c⟩⟩⟩
        unfold lyM
        exact decide_eq_true q
  obtain ⟨M2, f2, m2, v2, r2⟩ := key 0 (aSet M1 (mkR p) (40 * s + t) 1) (by omega) n.1 F1 (fun b => rfl) (fun j j0 j1 => by rw [aSet_r (by omega), if_neg (by omega)]; omega)
  have mk2 : ∀ o, mkB M2 s p o = (if o = t then true else mkB M1 s p o) := by
    intro o
    unfold mkB
    rw [m2, aSet_q]
    by_cases c : o = t
    · rw [if_pos (by omega), if_pos c]; rfl
    · rw [if_neg (by omega), if_neg c]
  have sm2 : ∀ j, smM M M2 s p j = smM M M1 s p j + tA M j s t := by
    intro j
    unfold smM
    have e := sumI_add (f := fun o => if mkB M1 s p o = true then tA M j s o else 0) (g := fun o => if o = t then tA M j s t else 0) (n := M 31 0) 0
    rw [sumI_pick (f := fun o => if o = t then tA M j s t else 0) (t := t) 0 t0 t1 (fun o _ _ ho => if_neg ho), if_pos rfl] at e
    rw [← e]
    refine sumI_congr 0 (fun o o0 o1 => ?_)
    rw [mk2]
    by_cases c : o = t
    · rw [if_pos c, if_pos rfl, if_pos c, c, if_neg hm]; omega
    · rw [if_neg c, if_neg c]; omega
  have t196 : ∀ j, 0 ≤ j → j < M 31 0 → lyM M j = true → M2 196 j = M1 196 j + tA M j s t := by
    intro j j0 j1 hj
    rw [v2 j j0 j1]
    by_cases c : j = t
    · rw [if_neg (fun z => z.2 c), c, tA_self h t0 t1]
    · rw [if_pos ⟨hj, c⟩]
  refine ⟨M2, ⟨f2, fun j j0 j1 => ?_, fun j j0 j1 hj => ?_, fun j j0 j1 hj => ?_⟩, ?_, r2⟩
  · rw [m2, aSet_q]
    by_cases c : 40 * s + j = 40 * s + t
    · rw [if_pos c]; exact Or.inr rfl
    · rw [if_neg c]; exact i2 j j0 j1
  · rw [t196 j j0 j1 hj, sm2, i3 j j0 j1 hj]; omega
  · rw [mk2] at hj
    by_cases c : j = t
    · subst c
      refine ⟨hl, ?_⟩
      have := tA_le h (s := s) j0 j1 j0 j1
      rw [t196 j j0 j1 hl]; omega
    · rw [if_neg c] at hj
      have x := i4 j j0 j1 hj
      have := tA_le h (s := s) j0 j1 t0 t1
      refine ⟨x.1, ?_⟩
      rw [t196 j j0 j1 x.1]; omega
  · have e : unM M M1 s p = unM M M2 s p + 1 := by
      unfold unM
      have e := sumI_add (f := fun o => if mkB M2 s p o = true then (0 : Int) else 1) (g := fun o => if o = t then (1 : Int) else 0) (n := M 31 0) 0
      rw [sumI_pick (f := fun o => if o = t then (1 : Int) else 0) (t := t) 0 t0 t1 (fun o _ _ ho => if_neg ho), if_pos rfl] at e
      rw [← e]
      refine sumI_congr 0 (fun o o0 o1 => ?_)
      rw [mk2]
      by_cases c : o = t
      · rw [if_pos c, if_pos rfl, if_pos c, c, if_neg hm]; rfl
      · rw [if_neg c, if_neg c]; omega
    omega
end SPRM
