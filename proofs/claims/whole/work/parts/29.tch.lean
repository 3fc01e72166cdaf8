/-! what touches -/
section TCH
variable {L : Nat} {M : aM}
def ovX (M : aM) (i j : Int) : Int := min (M 34 i + M 36 i) (M 34 j + M 36 j) - max (M 34 i) (M 34 j)
def ovY (M : aM) (i j : Int) : Int := min (M 35 i + M 37 i) (M 35 j + M 37 j) - max (M 35 i) (M 35 j)
def hlf (M : aM) (i j n : Int) : Int := if M 33 i = 2 ∨ M 33 j = 2 then n / 2 else n
def ctc (M : aM) (i j : Int) : Int := if min (ovX M i j) (ovY M i j) = 0 then hlf M i j (max (ovX M i j) (ovY M i j)) else 0
/-- how thing t is touched at a side by thing o -/
def tA (M : aM) (t s o : Int) : Int := hlf M t o (if s = 0 then (if M 35 o + M 37 o = M 35 t then max 0 (ovX M t o) else 0) else if s = 2 then (if M 35 o = M 35 t + M 37 t then max 0 (ovX M t o) else 0)
  else if s = 1 then (if M 34 o = M 34 t + M 36 t then max 0 (ovY M t o) else 0) else (if M 34 o + M 36 o = M 34 t then max 0 (ovY M t o) else 0))
theorem hlf0 {i j : Int} : hlf M i j 0 = 0 := by unfold hlf; split <;> rfl
theorem hlf_le {i j n : Int} (h : 0 ≤ n) : 0 ≤ hlf M i j n ∧ hlf M i j n ≤ n := by unfold hlf; split <;> omega
theorem s_71 (hb : bOk M 31) {i j : Int} (h1 : 0 ≤ i) (h2 : i < M 31 0) (h3 : 0 ≤ j) (h4 : j < M 31 0) : aE 71 [aR 31, aI i, aI j] (SH L) M ([aI (ovX M i j)], SH L, M) := by
  have n := hb.2.1
  have a := b31 hb h1 h2
  have b := b31 hb h3 h4
  apply en_71
  simp only [bd bd31]
  refine ⟨trivial, by omega, trivial, by omega, trivial, by omega, trivial, by omega, trivial, by omega, trivial, by omega, rI ?_⟩
  show ovX M i j = aW (min (aW (M 34 i + M 36 i)) (aW (M 34 j + M 36 j)) - max (M 34 i) (M 34 j))
  rw [aWi (z := M 34 i + M 36 i) (by omega) (by omega), aWi (z := M 34 j + M 36 j) (by omega) (by omega), aWi (by omega) (by omega)]
  rfl
theorem s_72 (hb : bOk M 31) {i j : Int} (h1 : 0 ≤ i) (h2 : i < M 31 0) (h3 : 0 ≤ j) (h4 : j < M 31 0) : aE 72 [aR 31, aI i, aI j] (SH L) M ([aI (ovY M i j)], SH L, M) := by
  have n := hb.2.1
  have a := b31 hb h1 h2
  have b := b31 hb h3 h4
  apply en_72
  simp only [bd bd31]
  refine ⟨trivial, by omega, trivial, by omega, trivial, by omega, trivial, by omega, trivial, by omega, trivial, by omega, rI ?_⟩
  show ovY M i j = aW (min (aW (M 35 i + M 37 i)) (aW (M 35 j + M 37 j)) - max (M 35 i) (M 35 j))
  rw [aWi (z := M 35 i + M 37 i) (by omega) (by omega), aWi (z := M 35 j + M 37 j) (by omega) (by omega), aWi (by omega) (by omega)]
  rfl
theorem ov_le (hb : bOk M 31) {i j : Int} (h1 : 0 ≤ i) (h2 : i < M 31 0) (h3 : 0 ≤ j) (h4 : j < M 31 0) : (-60 ≤ ovX M i j ∧ ovX M i j ≤ 60) ∧ (-60 ≤ ovY M i j ∧ ovY M i j ≤ 60) := by
  have a := b31 hb h1 h2
  have b := b31 hb h3 h4
  unfold ovX ovY
  omega
theorem s_73 (hb : bOk M 31) {i j : Int} (h1 : 0 ≤ i) (h2 : i < M 31 0) (h3 : 0 ≤ j) (h4 : j < M 31 0) : aE 73 [aR 31, aI i, aI j] (SH L) M ([aI (ctc M i j)], SH L, M) := by
  have n := hb.2.1
  have a := ov_le hb h1 h2 h3 h4
  apply en_73
  simp only [bd bd31]
  refine ⟨trivial, _, _, s_71 hb h1 h2 h3 h4, trivial, _, _, s_72 hb h1 h2 h3 h4, fun q => ⟨trivial, by omega, fun q1 => bl_73_54 (bl_73_59 ⟨fun c => absurd c (by omega), fun _ => rI ?_⟩), fun q1 => ⟨trivial, by omega, fun q2 => bl_73_59 ⟨fun _ => rI ?_, fun c => absurd rfl c⟩, fun q2 => bl_73_54 (bl_73_59 ⟨fun c => absurd c (by omega), fun _ => rI ?_⟩)⟩⟩, fun q => rI ?_⟩
  · unfold ctc hlf
    have q1' : M 33 i = 2 := q1
    rw [if_pos q, if_pos (Or.inl q1'), aDiv_nn (by omega) (by omega) (by omega) (by omega)]
  · unfold ctc hlf
    have q1' : ¬ M 33 i = 2 := q1
    have q2' : ¬ M 33 j = 2 := q2
    rw [if_pos q, if_neg (by omega)]
  · unfold ctc hlf
    have q2' : M 33 j = 2 := Classical.not_not.mp q2
    rw [if_pos q, if_pos (Or.inr q2'), aDiv_nn (by omega) (by omega) (by omega) (by omega)]
  · unfold ctc
    rw [if_neg q]
theorem s_74 (hb : bOk M 31) {i j : Int} : aE 74 [aR 1, aI i, aI j] (SH L) M ([aI (if (0 ≤ i ∧ i < M 31 0) ∧ (0 ≤ j ∧ j < M 31 0) ∧ ¬ i = j then ctc M i j else -1)], SH L, M) := by
  apply en_74
  refine ⟨_, _, s_63 bd31, fun q => rI ?_, fun q => ⟨_, _, s_63 bd31, fun q1 => rI ?_, fun q1 => ⟨fun q2 => ?_, fun q2 => rI ?_⟩⟩⟩
  all_goals (simp only [bid0, bid1, Classical.not_not] at *)
  · rw [if_neg (by omega)]
  · rw [if_neg (by omega)]
  · refine ⟨_, _, s_73 hb q.1 q.2 q1.1 q1.2, rI ?_⟩
    rw [if_pos (by omega)]
  · rw [if_neg (by omega)]
theorem s_233 {a b c d : Int} (ha : -1000 ≤ a ∧ a ≤ 1000) (hb : -1000 ≤ b ∧ b ≤ 1000) (hc : -1000 ≤ c ∧ c ≤ 1000) (hd : -1000 ≤ d ∧ d ≤ 1000) : aE 233 [aI a, aI b, aI c, aI d] (SH L) M ([aI (max 0 (min b d - max a c))], SH L, M) := by
  have k2 : ∀ p q, -1000 ≤ p ∧ p ≤ 1000 → -1000 ≤ q ∧ q ≤ 1000 → p = min b d → q = max a c → aX xc_233 (aSeek xc_233 22) [aU, aU, aU, aU, aI q, aU] [aI p] (SH L) M ([aI (max 0 (min b d - max a c))], SH L, M) := by
    intro p q hp hq e1 e2
    refine bl_233_22 ⟨fun h => rI (by omega), fun h => rI ?_⟩
    rw [aWi (by omega) (by omega)]
    omega
  have k1 : ∀ q, -1000 ≤ q ∧ q ≤ 1000 → q = max a c → aX xc_233 (aSeek xc_233 10) [aU, aI b, aU, aI d, aU, aU] [aI q] (SH L) M ([aI (max 0 (min b d - max a c))], SH L, M) := by
    intro q hq e
    exact bl_233_10 ⟨fun h => k2 d q hd hq (by omega) e, fun h => k2 b q hb hq (by omega) e⟩
  exact en_233 ⟨fun h => k1 c hc (by omega), fun h => k1 a ha (by omega)⟩
theorem s_234 (h : rP M) {t s o : Int} (h1 : 0 ≤ t) (h2 : t < M 31 0) (h3 : 0 ≤ o) (h4 : o < M 31 0) : aE 234 [aR 145, aI t, aI s, aI o] (SH L) M ([aI (if s = 0 then (if M 35 o + M 37 o = M 35 t then max 0 (ovX M t o) else 0) else if s = 2 then (if M 35 o = M 35 t + M 37 t then max 0 (ovX M t o) else 0)
  else if s = 1 then (if M 34 o = M 34 t + M 36 t then max 0 (ovY M t o) else 0) else (if M 34 o + M 36 o = M 34 t then max 0 (ovY M t o) else 0))], SH L, M) := by
  have n := rP_n h
  have a := rP_i h h1 h2
  have b := rP_i h h3 h4
  obtain ⟨-, a2, a3, -⟩ := rP_m h h1 h2
  obtain ⟨-, b2, b3, -⟩ := rP_m h h3 h4
  apply en_234
  simp only [ln0, ln1, ln2, ln3, ln4, a2, a3, b2, b3]
  refine ⟨by omega, by omega, _, _, s_223 h h1 h2, _, _, s_224 h h1 h2, fun c0 => ⟨fun c2 => ⟨fun c1 => ⟨by omega, _, _, s_223 h h3 h4, fun q => rI ?_, fun q => ⟨by omega, by omega, _, _, s_224 h h3 h4, _, _, s_233 (by omega) ?_ ?_ ?_, rI ?_⟩⟩, fun c1 => ⟨by omega, fun q => rI ?_, fun q => ⟨by omega, by omega, _, _, s_224 h h3 h4, _, _, s_233 (by omega) ?_ ?_ ?_, rI ?_⟩⟩⟩, fun c2 => ⟨by omega, fun q => rI ?_, fun q => ⟨by omega, by omega, _, _, s_223 h h3 h4, _, _, s_233 (by omega) ?_ ?_ ?_, rI ?_⟩⟩⟩, fun c0 => ⟨by omega, _, _, s_224 h h3 h4, fun q => rI ?_, fun q => ⟨by omega, by omega, _, _, s_223 h h3 h4, _, _, s_233 (by omega) ?_ ?_ ?_, rI ?_⟩⟩⟩
  all_goals (simp (disch := omega) only [aWi, a2, a3, b2, b3] at *)
  all_goals first
    | omega
    | (rw [if_neg (by omega), if_neg (by omega), if_neg (by omega), if_neg (by omega)]; done)
    | (rw [if_neg (by omega), if_neg (by omega), if_neg (by omega), if_pos (by omega)]; rfl)
    | (rw [if_neg (by omega), if_neg (by omega), if_pos (by omega), if_neg (by omega)]; done)
    | (rw [if_neg (by omega), if_neg (by omega), if_pos (by omega), if_pos (by omega)]; rfl)
    | (rw [if_neg (by omega), if_pos (by omega), if_neg (by omega)]; done)
    | (rw [if_neg (by omega), if_pos (by omega), if_pos (by omega)]; rfl)
    | (rw [if_pos (by omega), if_neg (by omega)]; done)
    | (rw [if_pos (by omega), if_pos (by omega)]; rfl)
theorem tA_le (h : rP M) {t s o : Int} (h1 : 0 ≤ t) (h2 : t < M 31 0) (h3 : 0 ≤ o) (h4 : o < M 31 0) : 0 ≤ tA M t s o ∧ tA M t s o ≤ 60 := by
  have a := ov_le h.2.1.1 h1 h2 h3 h4
  unfold tA
  have key : ∀ n, 0 ≤ n → n ≤ 60 → 0 ≤ hlf M t o n ∧ hlf M t o n ≤ 60 := fun n x y => ⟨(hlf_le x).1, by have := (hlf_le (M := M) (i := t) (j := o) x).2; omega⟩
  apply key
  · repeat' split
    all_goals omega
  · repeat' split
    all_goals omega
theorem s_235 (h : rP M) {t s o : Int} (h1 : 0 ≤ t) (h2 : t < M 31 0) (h3 : 0 ≤ o) (h4 : o < M 31 0) : aE 235 [aR 145, aI t, aI s, aI o] (SH L) M ([aI (tA M t s o)], SH L, M) := by
  have a := ov_le h.2.1.1 h1 h2 h3 h4
  apply en_235
  refine ⟨_, _, s_234 h h1 h2 h3 h4, _, _, s_225 h h1 h2, fun q => rI ?_, fun q => ⟨_, _, s_225 h h3 h4, fun q1 => rI ?_, fun q1 => rI ?_⟩⟩
  all_goals (simp only [bid0, bid1, Classical.not_not] at *)
  · unfold tA hlf
    rw [if_pos (Or.inl q)]
    refine (aDiv_nn ?_ ?_ (by omega) (by omega)).symm
    all_goals (repeat' split)
    all_goals omega
  · unfold tA hlf
    rw [if_neg (by omega)]
  · unfold tA hlf
    rw [if_pos (Or.inr q1)]
    refine (aDiv_nn ?_ ?_ (by omega) (by omega)).symm
    all_goals (repeat' split)
    all_goals omega
theorem tA_sum (h : rP M) {i j : Int} (h1 : 0 ≤ i) (h2 : i < M 31 0) (h3 : 0 ≤ j) (h4 : j < M 31 0) (h5 : i ≠ j) : tA M i 0 j + tA M i 1 j + tA M i 2 j + tA M i 3 j = ctc M i j := by
  have a := rP_i h h1 h2
  have b := rP_i h h3 h4
  have l := rP_l h h1 h2 h3 h4 h5
  unfold tA ctc hlf
  simp only [if_true, if_neg (show ¬ (1 : Int) = 0 by omega), if_neg (show ¬ (1 : Int) = 2 by omega), if_neg (show ¬ (2 : Int) = 0 by omega), if_neg (show ¬ (3 : Int) = 0 by omega), if_neg (show ¬ (3 : Int) = 2 by omega), if_neg (show ¬ (3 : Int) = 1 by omega)]
  unfold ovX ovY
  by_cases c : M 33 i = 2 ∨ M 33 j = 2
  · simp only [if_pos c]
    repeat' split
    all_goals omega
  · simp only [if_neg c]
    repeat' split
    all_goals omega
theorem s_236 (h : rP M) {i j : Int} (h1 : 0 ≤ i) (h2 : i < M 31 0) (h3 : 0 ≤ j) (h4 : j < M 31 0) (h5 : i ≠ j) : aE 236 [aR 145, aI i, aI j] (SH L) M ([aI (ctc M i j)], SH L, M) := by
  have a0 := tA_le h (s := 0) h1 h2 h3 h4
  have a1 := tA_le h (s := 1) h1 h2 h3 h4
  have a2 := tA_le h (s := 2) h1 h2 h3 h4
  have a3 := tA_le h (s := 3) h1 h2 h3 h4
  apply en_236
  refine bl_236_5 ⟨fun q => absurd q (by omega), fun _ => ⟨_, _, s_235 h h1 h2 h3 h4, ?_⟩⟩
  refine bl_236_5 ⟨fun q => absurd q (by decide), fun _ => ⟨_, _, s_235 h h1 h2 h3 h4, ?_⟩⟩
  refine bl_236_5 ⟨fun q => absurd q (by decide), fun _ => ⟨_, _, s_235 h h1 h2 h3 h4, ?_⟩⟩
  refine bl_236_5 ⟨fun q => absurd q (by decide), fun _ => ⟨_, _, s_235 h h1 h2 h3 h4, ?_⟩⟩
  refine bl_236_5 ⟨fun q => rI ?_, fun q => absurd (by decide) q⟩
  rw [show aW (0 + 1) = 1 by decide, show aW (1 + 1) = 2 by decide, show aW (2 + 1) = 3 by decide]
  simp (disch := omega) only [aWi]
  rw [Int.zero_add, tA_sum h h1 h2 h3 h4 h5]
theorem s_237 (h : rP M) {i j : Int} : aE 237 [aR 145, aI i, aI j] (SH L) M ([aI (if (0 ≤ i ∧ i < M 31 0) ∧ (0 ≤ j ∧ j < M 31 0) ∧ ¬ i = j then ctc M i j else -1)], SH L, M) := by
  have n := (rP_n h).2.2
  apply en_237
  refine ⟨_, _, s_221, fun q => rI ?_, fun q => ⟨_, _, s_221, fun q1 => rI ?_, fun q1 => ⟨fun q2 => rI ?_, fun q2 => ?_⟩⟩⟩
  all_goals (simp only [bid0, bid1, Classical.not_not, n] at *)
  · rw [if_neg (by omega)]
  · rw [if_neg (by omega)]
  · rw [if_neg (by omega)]
  · refine ⟨_, _, s_236 h q.1 q.2 q1.1 q1.2 q2, rI ?_⟩
    rw [if_pos (by omega)]
end TCH
