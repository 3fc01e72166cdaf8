/-! lines: both -/
section LINA
variable {L : Nat} {M M1 M2 : aM}
/-- the table of lines is either old or right -/
def cL (M : aM) : Prop := M 99 8 ≤ M 1 9 ∧ (M 99 8 = M 1 9 → lnR M)
theorem lnR_0 (h : rP M) (hl : lnR M) : ∀ k, 0 ≤ k → k ≤ M (M 1 3) 3 → M (101 + k) 0 ≤ 0 := by
  refine upto (M (M 1 3) 3) (fun k hk k0 k1 => ?_) (fun k hk ih k0 k1 => ?_)
  · have e : k = M (M 1 3) 3 := by omega
    rw [e, hl.2.1 0 (by omega) (by omega), if_pos rfl]; omega
  · have a := ih (by omega) (by omega)
    rw [show 101 + (k + 1) = 102 + k by omega] at a
    have b := h.1.1.2.2.2.2.2 k k0 hk
    have g := gLn_le (F := M (102 + k)) b.2.1.1 b.2.2.1.1 (lfT M k).toNat 0 0 0 (by omega) (by omega) (by rw [Int.natCast_zero, Int.zero_mul, Int.zero_mul]; omega)
    rw [Int.natCast_zero, Int.zero_mul, Int.zero_mul, ← (hl.2.2 k k0 hk).2 0 (by omega) (by omega)] at g
    rw [show (0 : Int) - 0 - 0 = 0 by omega] at g
    omega
theorem hO_fin {P : Int → Int} {a y v : Int} (y1 : y ≤ 240) (a1 : a ≤ 99) (fn : rwF P) (o : hO P a y v) : v < 100000000 ↔ ∃ c : Int, 0 ≤ c ∧ c ≤ a ∧ c ≤ y ∧ P (y - c) ≤ y - c := by
  obtain ⟨z0, z1, z2, z3⟩ := o
  constructor
  · intro q
    rcases z3 with z3 | ⟨d, d0, d1, d2, z3⟩
    · omega
    · have f := fn (y - d) (by omega) (by omega)
      exact ⟨d, d0, d1, d2, by omega⟩
  · rintro ⟨c, c0, c1, c2, c3⟩
    have := z2 c c0 c1 c2
    omega
theorem s_289 (h : rP M) (hl : lnR M) {x a : Int} (x0 : 1 ≤ x ∧ x ≤ 240) (a0 : 0 ≤ a ∧ a ≤ 99) : ∃ M1, aE 289 [aR 145, aI x, aI a] (SH L) M ([aI (min x (fuL (M 101) x.toNat + a))], SH L, M1) ∧ sc M M1 := by
  have l204 : aLn (SH L) 1 204 = 3615 := rfl
  have t14 := h.1.1.2.2.2.2.1
  obtain ⟨F, r, fF, hH⟩ := s_285 (L := L) h hl (x := x) (a := a) (by omega) a0
  have fn := lnR_fn h hl 0 (by omega) (by omega)
  have z0 := lnR_0 h hl 0 (by omega) (by omega)
  rw [show (101 : Int) + 0 = 101 by omega] at fn z0
  have hv : ∀ y, 0 ≤ y → y ≤ x → (F 204 y < 100000000 ↔ ∃ c : Int, 0 ≤ c ∧ c ≤ a ∧ c ≤ y ∧ M 101 (y - c) ≤ y - c) := by
    intro y y0 y1
    have o := hH 0 y (by omega) (by omega) y0 y1
    rw [show (101 : Int) + 0 = 101 by omega, show (241 : Int) * 0 + y = y by omega] at o
    exact hO_fin (by omega) (by omega) fn o
  obtain ⟨m, hm⟩ : ∃ m, m = fuL (M 101) x.toNat := ⟨_, rfl⟩
  obtain ⟨f1, f2, f3, f4⟩ := fuL_at (P := M 101) x.toNat
  rw [← hm] at f1 f2 f3 f4 ⊢
  have mf : M 101 m ≤ m := by
    rcases f3 with q | q
    · rw [q]; exact z0
    · have := fn m f1 (by omega); omega
  have loop : ∀ y : Int, min x (m + a) ≤ y → y ≤ x → aX xc_289 (aSeek xc_289 31) [aR 145, aU, aU, aI y] [] (SH L) F ([aI (min x (m + a))], SH L, F) := by
    refine downto (min x (m + a)) (fun y hy y0 y1 => ?_) (fun y hy ih y0 y1 => ?_)
    · have e : y = min x (m + a) := by omega
      refine bl_289_31 ⟨by omega, fun _ => rI e.symm, fun q => absurd ((hv y (by omega) y1).mpr ⟨y - m, by omega, by omega, by omega, ?_⟩) q⟩
      rw [show y - (y - m) = m by omega]; exact mf
    · refine bl_289_31 ⟨by omega, fun q => ?_, fun _ => ?_⟩
      · obtain ⟨c, c0, c1, c2, c3⟩ := (hv y (by omega) y1).mp q
        have := f4 (y - c) (by omega) (by omega)
        omega
      · rw [aWi (by omega) (by omega)]
        exact ih (by omega) (by omega)
  exact ⟨F, en_289 ⟨M, _, s_219, fun q => absurd x0 (bid0.mp q), fun _ => ⟨M, _, s_219, fun _ => ⟨F, r, loop x (by omega) (Int.le_refl _)⟩, fun q => binn a0 q⟩⟩, sc_204 fF⟩
theorem xsC_cg (hp : rP M) (h : ∀ a, a ≠ 99 → M1 a = M a) {x : Int} : ∀ k : Nat, xsC M1 x k = xsC M x k := by
  have tl := tx_le (rP_tx hp)
  intro k
  induction k with
  | zero => rfl
  | succ k ih =>
    rw [show xsC M1 x (k + 1) = xsC M1 x k - (abC M1 k (xsC M1 x k)).1 * M1 (M1 1 3 + 3) k - (abC M1 k (xsC M1 x k)).2 * M1 (M1 1 3 + 4) k from rfl, ih, abC_cg h (rP_tx hp) (by omega), h 1 (by omega), h (M 1 3 + 3) (by omega), h (M 1 3 + 4) (by omega)]
    rfl
theorem linV_cg (hp : rP M) (h : ∀ a, a ≠ 99 → M1 a = M a) {x a w : Int} : linV M1 x a w = linV M x a w := by
  unfold linV
  rw [h 101 (by omega), abC_cg h (rP_tx hp) (by omega), xsC_cg hp h]
theorem s_146 (h : rP M) (hc : cL M) {x a w : Int} (hw : w < 2147483648) (x0 : 1 ≤ x ∧ x ≤ 240) (a0 : 0 ≤ a ∧ a ≤ 99) (ok : (0 ≤ w ∧ w ≤ 1) ∨ (10 ≤ w ∧ (w - 10) / 2 < M (M 1 3) 3 ∧ ¬ M (M 1 3 + 2) ((w - 10) / 2) = 0)) : ∃ M1, aE 146 [aR 1, aI x, aI a, aI w] (SH L) M ([aI (linV M1 x a w)], SH L, M1) ∧ fr 99 117 M M1 ∧ M1 99 8 = M 1 9 ∧ lnR M1 := by
  have tx0 := rP_tx h
  have tl := tx_le tx0
  have t14 := h.1.1.2.2.2.2.1
  obtain ⟨K, r1, f1, e8, lK⟩ := s_142 (L := L) h hc.2
  have pK : rP K := rP_fr h f1 (by omega) (by omega)
  have k13 : K 1 3 = M 1 3 := by rw [f1 1 (by omega)]
  have kT : K (M 1 3) = M (M 1 3) := f1 _ (by omega)
  have b101 := lnR_bd pK lK 0 (by omega) (by rw [k13, kT]; omega)
  have fn := lnR_fn pK lK 0 (by omega) (by rw [k13, kT]; omega)
  rw [show (101 : Int) + 0 = 101 by omega] at b101 fn
  obtain ⟨K2, r2, p1, p2, p3, p4⟩ := s_143 (L := L) (M := K) (x := x) (a := a) (by omega) a0 b101
  have pK2 : rP K2 := rP_fr (lo := 99) (hi := 99) pK (fun b hb => p1 b (by omega)) (by omega) (by omega)
  have lK2 : lnR K2 := lnR_cg pK lK (fun b b1 b2 => p1 b b2) (p2 7 (by omega) (by omega))
  have k23 : K2 1 3 = M 1 3 := by rw [p1 1 (by omega), k13]
  have k2T : K2 (M 1 3) = M (M 1 3) := by rw [p1 _ (by omega), kT]
  obtain ⟨B, hB⟩ : ∃ B, B = (cbN (K 101) x (min a x + 1).toNat).1 := ⟨_, rfl⟩
  obtain ⟨C, hC⟩ : ∃ C, C = (cbN (K 101) x (min a x + 1).toNat).2 := ⟨_, rfl⟩
  have ev : linV K x a w = if B < 1000000 then (if w = 0 then B else if w = 1 then C else if ¬ aRem w 2 = 0 then (abC K (((w - 10) / 2).toNat : Int) (xsC K (x - C) ((w - 10) / 2).toNat)).2 else (abC K (((w - 10) / 2).toNat : Int) (xsC K (x - C) ((w - 10) / 2).toNat)).1) else -2 := by unfold linV; rw [hB, hC]
  have at3 := cbN_at (P := K 101) (x := x) (min a x + 1).toNat
  rw [← hB] at p3 r2
  rw [← hC] at p4
  have into : ∀ o : aO, ((B < 1000000 → (10 ≤ w → ∃ M4, aE 145 [aR 99, aI (aW (x - K2 99 1)), aI (aDiv (aW (w - 10)) 2)] (SH L) K2 ([], SH L, M4) ∧ (¬ aRem w 2 = 0 → o = ([aI (M4 99 3)], SH L, M4)) ∧ (¬ ¬ aRem w 2 = 0 → o = ([aI (M4 99 2)], SH L, M4))) ∧ (¬ 10 ≤ w → (¬ w = 0 → o = ([aI (K2 99 1)], SH L, K2)) ∧ (¬ ¬ w = 0 → o = ([aI (K2 99 0)], SH L, K2)))) ∧ (¬ B < 1000000 → o = ([aI (-2)], SH L, K2))) → aE 146 [aR 1, aI x, aI a, aI w] (SH L) M o := by
    intro o ho
    have k27 : aX xc_146 (aSeek xc_146 27) [aR 1, aI x, aI a, aI w] [] (SH L) M o := by
      refine bl_146_27 ⟨K, r1, K2, _, r2, fun q => ho.1 (Classical.byContradiction (fun z => q (bid0.mpr z))), fun q => ho.2 (bid0.mp (Classical.not_not.mp q))⟩
    refine en_146 ⟨M, _, s_138, fun q => absurd ⟨x0.1, x0.2, a0.1, a0.2⟩ (bid0.mp q), fun _ => ⟨fun _ => k27, fun q1 => ⟨fun _ => k27, fun q2 => ⟨M, _, s_140 tx0 (by omega) hw, fun _ => k27, fun q => ?_⟩⟩⟩⟩
    rcases ok with z | z
    · omega
    · exact binn z q
  by_cases c : B < 1000000
  · by_cases w10 : 10 ≤ w
    · have wk : (w - 10) / 2 < M (M 1 3) 3 := by omega
      obtain ⟨n, hn⟩ : ∃ n : Nat, n = ((w - 10) / 2).toNat := ⟨_, rfl⟩
      have nz : (n : Int) = (w - 10) / 2 := by omega
      have cb : 0 ≤ C ∧ C ≤ x := by
        rw [← hB, ← hC] at at3
        obtain ⟨-, -, at3⟩ := at3
        rcases at3 with ⟨u, -⟩ | ⟨d, d1, d2, -⟩
        · omega
        · omega
      obtain ⟨M4, r4, g1, g2, g3, g4⟩ := s_145 (L := L) pK2 lK2 (x := x - C) (by omega) (K := n) (by rw [k23, k2T, nz]; exact wk)
      rw [abC_cg (k := (n : Int)) p1 (rP_tx pK) (by omega), xsC_cg pK p1] at g3 g4
      have gK : ∀ b, b ≠ 99 → M4 b = K b := fun b hb => by rw [g1 b hb, p1 b hb]
      refine ⟨M4, into _ ⟨fun _ => ⟨fun _ => ⟨M4, ?_, fun q => rI ?_, fun q => rI ?_⟩, fun q => absurd w10 q⟩, fun q => absurd c q⟩, fun b hb => by rw [gK b (by omega)]; exact f1 b hb, by rw [g2 8 (by omega) (by omega), p2 8 (by omega) (by omega)]; exact e8, lnR_cg pK lK (fun b b1 b2 => gK b b2) (by rw [g2 7 (by omega) (by omega), p2 7 (by omega) (by omega)])⟩
      · rw [p4, aWi (by omega) (by omega), aWi (by omega) (by omega), aDiv_nn (by omega) (by omega) (by omega) (by omega), ← nz]
        exact r4
      · rw [linV_cg pK gK, ev, if_pos c, if_neg (by omega), if_neg (by omega), if_pos q, ← hn, g4]
      · rw [linV_cg pK gK, ev, if_pos c, if_neg (by omega), if_neg (by omega), if_neg q, ← hn, g3]
    · clear at3
      have lv := linV_cg pK p1 (x := x) (a := a) (w := w)
      refine ⟨K2, into _ ⟨fun _ => ⟨fun q => absurd q w10, fun _ => ⟨fun q => rI ?_, fun q => rI ?_⟩⟩, fun q => absurd c q⟩, fun b hb => by rw [p1 b (by omega)]; exact f1 b hb, by rw [p2 8 (by omega) (by omega)]; exact e8, lK2⟩
      · rw [lv, ev, if_pos c, if_neg q, if_pos (by omega), p4]
      · rw [lv, ev, if_pos c, if_pos (Classical.not_not.mp q), p3]
  · refine ⟨K2, into _ ⟨fun q => absurd q c, fun _ => rI ?_⟩, fun b hb => by rw [p1 b (by omega)]; exact f1 b hb, by rw [p2 8 (by omega) (by omega)]; exact e8, lK2⟩
    rw [linV_cg pK p1, ev, if_neg c]
theorem cL_sc (h : rP M) (hc : cL M) (hs : sc M M1) : cL M1 := by
  have e1 : M1 1 = M 1 := hs.1 1 (by omega) (by omega) (by omega)
  have e2 : M1 99 = M 99 := hs.1 99 (by omega) (by omega) (by omega)
  unfold cL
  rw [e1, e2]
  exact ⟨hc.1, fun q => lnR_cg h (hc.2 q) (fun a a1 a2 => hs.1 a (by omega) (by omega) (by omega)) (by rw [e2])⟩
theorem o_line (h : rP M) (hc : cL M) {x a w : Int} (hw : w < 2147483648) : ∃ v M1 M2, aE 146 [aR 1, aI x, aI a, aI w] (SH L) M ([aI v], SH L, M1) ∧ aE 288 [aR 145, aI x, aI a, aI w] (SH L) M1 ([aI v], SH L, M2) ∧ fr 99 117 M M1 ∧ cL M1 ∧ sc M1 M2 := by
  have tx0 := rP_tx h
  have tl := tx_le tx0
  have t14 := h.1.1.2.2.2.2.1
  by_cases c : (1 ≤ x ∧ x ≤ 240) ∧ 0 ≤ a ∧ a ≤ 99
  · by_cases ok : (0 ≤ w ∧ w ≤ 1) ∨ (10 ≤ w ∧ (w - 10) / 2 < M (M 1 3) 3 ∧ ¬ M (M 1 3 + 2) ((w - 10) / 2) = 0)
    · obtain ⟨M1, r1, f1, e8, l1⟩ := s_146 (L := L) h hc hw c.1 c.2 ok
      have p1 : rP M1 := rP_fr h f1 (by omega) (by omega)
      have q1 : M1 1 = M 1 := f1 1 (by omega)
      obtain ⟨M2, r2, z⟩ := s_288 (L := L) p1 l1 (x := x) (a := a) (w := w) hw c.1 c.2 (by rw [q1, f1 (M 1 3) (by omega), f1 (M 1 3 + 2) (by omega)]; exact ok)
      exact ⟨_, M1, M2, r1, r2, f1, ⟨by rw [e8, q1]; exact Int.le_refl _, fun _ => l1⟩, z⟩
    · refine ⟨-1, M, M, en_146 ⟨M, _, s_138, fun q => rfl, fun _ => ⟨fun q => absurd (Or.inl (by omega)) ok, fun q1 => ⟨fun q => absurd (Or.inl (by omega)) ok, fun q2 => ⟨M, _, s_140 tx0 (by omega) hw, fun q => absurd (Classical.byContradiction (fun z => q (bid0.mpr z))) (fun z => ok (Or.inr z)), fun _ => rfl⟩⟩⟩⟩, en_288 ⟨M, _, s_219, fun q => rfl, fun _ => ⟨M, _, s_219, fun q => rfl, fun _ => ⟨M, _, s_287 h hw, fun q => absurd (bid0.mpr ok) q, fun _ => rfl⟩⟩⟩, fr_rf, hc, sc_rf⟩
  · refine ⟨-1, M, M, en_146 ⟨M, _, s_138, fun q => rfl, fun q => absurd (bid0.mpr (fun z => c ⟨⟨z.1, z.2.1⟩, z.2.2⟩)) q⟩, en_288 ⟨M, _, s_219, fun q => rfl, fun q => ⟨M, _, s_219, fun _ => rfl, fun q2 => ?_⟩⟩, fr_rf, hc, sc_rf⟩
    have q3 : 1 ≤ x ∧ x ≤ 240 := Classical.byContradiction (fun z => q (bid0.mpr z))
    have q4 : 0 ≤ a ∧ a ≤ 99 := Classical.byContradiction (fun z => q2 (bid0.mpr z))
    exact absurd ⟨q3, q4⟩ c
theorem o_fill (h : rP M) (hc : cL M) {x a : Int} : ∃ v M1 M2, aE 148 [aR 1, aI x, aI a] (SH L) M ([aI v], SH L, M1) ∧ aE 289 [aR 145, aI x, aI a] (SH L) M1 ([aI v], SH L, M2) ∧ fr 99 117 M M1 ∧ cL M1 ∧ sc M1 M2 := by
  by_cases c : (1 ≤ x ∧ x ≤ 240) ∧ 0 ≤ a ∧ a ≤ 99
  · obtain ⟨M1, r1, f1, e8, l1⟩ := s_142 (L := L) h hc.2
    have p1 : rP M1 := rP_fr h f1 (by omega) (by omega)
    have q1 : M1 1 = M 1 := f1 1 (by omega)
    obtain ⟨M2, r2, z⟩ := s_289 (L := L) p1 l1 c.1 c.2
    exact ⟨_, M1, M2, en_148 ⟨M, _, s_138, fun _ => ⟨M1, r1, M1, _, s_147 c.1 c.2, rfl⟩, fun q => binn ⟨c.1.1, c.1.2, c.2.1, c.2.2⟩ q⟩, r2, f1, ⟨by rw [e8, q1]; exact Int.le_refl _, fun _ => l1⟩, z⟩
  · refine ⟨-1, M, M, en_148 ⟨M, _, s_138, fun q => absurd (bid0.mpr (fun z => c ⟨⟨z.1, z.2.1⟩, z.2.2⟩)) q, fun _ => rfl⟩, en_289 ⟨M, _, s_219, fun q => rfl, fun q => ⟨M, _, s_219, fun q2 => ?_, fun _ => rfl⟩⟩, fr_rf, hc, sc_rf⟩
    have q3 : 1 ≤ x ∧ x ≤ 240 := Classical.byContradiction (fun z => q (bid0.mpr z))
    have q4 : 0 ≤ a ∧ a ≤ 99 := Classical.byContradiction (fun z => q2 (bid0.mpr z))
    exact absurd ⟨q3, q4⟩ c
end LINA
