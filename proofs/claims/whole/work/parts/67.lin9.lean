/-! lines: the model -/
section LIN9
variable {L : Nat} {M M1 M2 : aM}
theorem lnR_cg (h : rP M) (hl : lnR M) (f : ∀ a, a ≤ 117 → a ≠ 99 → M1 a = M a) (f7 : M1 99 7 = M 99 7) : lnR M1 := by
  have tl := tx_le (rP_tx h)
  have t14 := h.1.1.2.2.2.2.1
  have e1 : M1 1 3 = M 1 3 := by rw [f 1 (by omega) (by omega)]
  have eT : M1 (M 1 3) = M (M 1 3) := f _ (by omega) (by omega)
  have hl2 := hl
  unfold lnR at hl2 ⊢
  rw [e1, eT, f7, f (101 + M (M 1 3) 3) (by omega) (by omega)]
  refine ⟨hl2.1, hl2.2.1, fun k k0 k1 => ?_⟩
  rw [lfT_cg h (fun a ha => f a (by omega) (by omega)) e1, f 117 (by omega) (by omega), f (101 + k) (by omega) (by omega), f (102 + k) (by omega) (by omega), f (M 1 3 + 3) (by omega) (by omega), f (M 1 3 + 4) (by omega) (by omega)]
  exact hl2.2.2 k k0 k1
theorem s_287 (h : rP M) {w m : Int} (hw : w < 2147483648) : aE 287 [aR 145, aI w, aI m] (SH L) M ([aI (bi (decide ((0 ≤ w ∧ w ≤ m) ∨ (10 ≤ w ∧ (w - 10) / 2 < M (M 1 3) 3 ∧ ¬ M (M 1 3 + 2) ((w - 10) / 2) = 0))))], SH L, M) := by
  have t14 := h.1.1.2.2.2.2.1
  have n153 : M 153 0 = M (M 1 3) 3 := h.1.2.1.2.2.2
  have l154 : aLn (SH L) 1 154 = 28 := rfl
  refine en_287 ⟨M, _, s_219, fun q => rI ?_, fun q => ⟨M, _, s_219, fun q1 => rI ?_, fun q1 => ?_⟩⟩
  · have : 0 ≤ w ∧ w ≤ m := Classical.byContradiction (fun z => q (bid0.mpr z))
    exact bip (Or.inl this)
  · have nq : ¬ (0 ≤ w ∧ w ≤ m) := bid0.mp (Classical.not_not.mp q)
    have q2 := bid0.mp q1
    rw [n153, aWi (z := 2 * M (M 1 3) 3) (by omega) (by omega), aWi (z := 9 + 2 * M (M 1 3) 3) (by omega) (by omega)] at q2
    refine bin (fun z => ?_)
    rcases z with z | z
    · exact nq z
    · omega
  · have nq : ¬ (0 ≤ w ∧ w ≤ m) := bid0.mp (Classical.not_not.mp q)
    have q2 : 10 ≤ w ∧ w ≤ aW (9 + aW (2 * M 153 0)) := Classical.byContradiction (fun z => q1 (bid0.mpr z))
    rw [n153, aWi (z := 2 * M (M 1 3) 3) (by omega) (by omega), aWi (z := 9 + 2 * M (M 1 3) 3) (by omega) (by omega)] at q2
    rw [aWi (z := w - 10) (by omega) (by omega), aDiv_nn (by omega) (by omega) (by omega) (by omega)]
    have mk := h.1.2.2.1 ((w - 10) / 2) (by omega) (by omega)
    have bk := h.1.1.2.2.2.2.2 ((w - 10) / 2) (by omega) (by omega)
    rw [mk.1]
    refine ⟨by omega, fun q3 => rI (bin (fun z => ?_)), fun q3 => rI (bip (Or.inr ⟨q2.1, by omega, by omega⟩))⟩
    rcases z with z | z
    · exact nq z
    · omega
/-- what a line answers, by the class's table -/
def linV (M : aM) (x a w : Int) : Int := if (cbN (M 101) x (min a x + 1).toNat).1 < 1000000 then
    (if w = 0 then (cbN (M 101) x (min a x + 1).toNat).1 else if w = 1 then (cbN (M 101) x (min a x + 1).toNat).2 else
      if ¬ aRem w 2 = 0 then (abC M (((w - 10) / 2).toNat : Int) (xsC M (x - (cbN (M 101) x (min a x + 1).toNat).2) ((w - 10) / 2).toNat)).2 else (abC M (((w - 10) / 2).toNat : Int) (xsC M (x - (cbN (M 101) x (min a x + 1).toNat).2) ((w - 10) / 2).toNat)).1) else -2
theorem cb_eq {P : Int → Int} {x a v : Int} (x0 : 0 ≤ x ∧ x ≤ 240) (a0 : 0 ≤ a ∧ a ≤ 99) (bd : rwB P) (fn : rwF P) (o : hO P a x v) : ((cbN P x (min a x + 1).toNat).1 < 1000000 → v = 1000 * (cbN P x (min a x + 1).toNat).1 + (cbN P x (min a x + 1).toNat).2 ∧ (0 ≤ (cbN P x (min a x + 1).toNat).2 ∧ (cbN P x (min a x + 1).toNat).2 ≤ a ∧ (cbN P x (min a x + 1).toNat).2 ≤ x) ∧ (cbN P x (min a x + 1).toNat).1 = P (x - (cbN P x (min a x + 1).toNat).2) + (cbN P x (min a x + 1).toNat).2 ∧ P (x - (cbN P x (min a x + 1).toNat).2) ≤ x - (cbN P x (min a x + 1).toNat).2 ∧ v < 100000000) ∧ (¬ (cbN P x (min a x + 1).toNat).1 < 1000000 → v = 100000000) := by
  obtain ⟨n, hn⟩ : ∃ n, n = (min a x + 1).toNat := ⟨_, rfl⟩
  obtain ⟨i1, i2, i3⟩ := cbN_at (P := P) (x := x) n
  rw [← hn]
  obtain ⟨z0, z1, z2, z3⟩ := o
  refine ⟨fun q => ?_, fun q => ?_⟩
  · rcases i3 with ⟨i3, -⟩ | ⟨c, c1, c2, c3, c4, c5⟩
    · omega
    · rw [c1]
      have f := fn (x - c) (by omega) (by omega)
      have b := bd (x - c) (by omega) (by omega)
      have u := z2 c (by omega) (by omega) (by omega)
      have fx : P (x - c) ≤ x - c := by omega
      refine ⟨?_, ⟨by omega, by omega, by omega⟩, c3, fx, by omega⟩
      rcases z3 with z3 | ⟨d, d0, d1, d2, z3⟩
      · omega
      · have g := i2 d.toNat (by omega)
        rw [Int.toNat_of_nonneg d0] at g
        by_cases e : d < c
        · have g2 := c5 d.toNat (by omega)
          rw [Int.toNat_of_nonneg d0] at g2
          omega
        · omega
  · clear i3
    rcases z3 with z3 | ⟨d, d0, d1, d2, z3⟩
    · exact z3
    · have g := i2 d.toNat (by omega)
      rw [Int.toNat_of_nonneg d0] at g
      omega
theorem abM_cg (hp : rP M) (h : ∀ a, a ≠ 145 → M1 a = M a) {k x : Int} : abM M1 k x = abM M k x := by
  have tl := tx_le (rP_tx hp)
  unfold abM QM
  rw [lfT_cg hp (fun a ha => h a (by omega)) (by rw [h 1 (by omega)]), h 1 (by omega), h (M 1 3 + 3) (by omega), h (M 1 3 + 4) (by omega), h 204 (by omega)]
theorem s_288 (h : rP M) (hl : lnR M) {x a w : Int} (hw : w < 2147483648) (x0 : 1 ≤ x ∧ x ≤ 240) (a0 : 0 ≤ a ∧ a ≤ 99) (ok : (0 ≤ w ∧ w ≤ 1) ∨ (10 ≤ w ∧ (w - 10) / 2 < M (M 1 3) 3 ∧ ¬ M (M 1 3 + 2) ((w - 10) / 2) = 0)) : ∃ M1, aE 288 [aR 145, aI x, aI a, aI w] (SH L) M ([aI (linV M x a w)], SH L, M1) ∧ sc M M1 := by
  have l204 : aLn (SH L) 1 204 = 3615 := rfl
  have l155 : aLn (SH L) 1 155 = 28 := rfl
  have l156 : aLn (SH L) 1 156 = 28 := rfl
  have t14 := h.1.1.2.2.2.2.1
  have tl := tx_le (rP_tx h)
  obtain ⟨F, r, fF, hH⟩ := s_285 (L := L) h hl (x := x) (a := a) (by omega) a0
  have o0 := hH 0 x (by omega) (by omega) (by omega) (by omega)
  rw [show (101 : Int) + 0 = 101 by omega, show (241 : Int) * 0 + x = x by omega] at o0
  have bd := lnR_bd h hl 0 (by omega) (by omega)
  have fn := lnR_fn h hl 0 (by omega) (by omega)
  rw [show (101 : Int) + 0 = 101 by omega] at bd fn
  obtain ⟨ce, cn⟩ := cb_eq (x := x) (a := a) (by omega) a0 bd fn o0
  have pF := rP_sc h (sc_204 fF)
  have lF := lnR_cg h hl (fun a a1 a2 => fF a (by omega)) (by rw [fF 99 (by omega)])
  obtain ⟨B, hB⟩ : ∃ B, B = (cbN (M 101) x (min a x + 1).toNat).1 := ⟨_, rfl⟩
  obtain ⟨C, hC⟩ : ∃ C, C = (cbN (M 101) x (min a x + 1).toNat).2 := ⟨_, rfl⟩
  rw [← hB, ← hC] at ce
  rw [← hB] at cn
  have ev : linV M x a w = if B < 1000000 then (if w = 0 then B else if w = 1 then C else if ¬ aRem w 2 = 0 then (abC M (((w - 10) / 2).toNat : Int) (xsC M (x - C) ((w - 10) / 2).toNat)).2 else (abC M (((w - 10) / 2).toNat : Int) (xsC M (x - C) ((w - 10) / 2).toNat)).1) else -2 := by unfold linV; rw [hB, hC]
  have start : ∀ o : aO, ((F 204 x < 100000000 → (2 ≤ w → aX xc_288 (aSeek xc_288 92) [aR 145, aU, aU, aI w, aI x, aI 0] [] (SH L) F o) ∧ (¬ 2 ≤ w → (¬ w = 0 → o = ([aI (aRem (F 204 x) 1000)], SH L, F)) ∧ (¬ ¬ w = 0 → o = ([aI (aDiv (F 204 x) 1000)], SH L, F)))) ∧ (¬ F 204 x < 100000000 → o = ([aI (-2)], SH L, F))) → aE 288 [aR 145, aI x, aI a, aI w] (SH L) M o := by
    intro o ho
    refine en_288 ⟨M, _, s_219, fun q => absurd x0 (bid0.mp q), fun _ => ⟨M, _, s_219, fun q => absurd a0 (bid0.mp q), fun _ => ⟨M, _, s_287 h hw, fun _ => ⟨F, r, by omega, fun q => ⟨fun q1 => (ho.1 q).1 q1, fun q1 => ⟨fun q2 => ⟨by omega, ((ho.1 q).2 q1).1 q2⟩, fun q2 => ⟨by omega, ((ho.1 q).2 q1).2 q2⟩⟩⟩, fun q => ho.2 q⟩, fun q => binn ok q⟩⟩⟩
  by_cases c : B < 1000000
  · obtain ⟨e1, e2, e3, e4, e5⟩ := ce c
    have b101 := (bd (x - C) (by omega) (by omega)).1
    rw [ev, if_pos c]
    by_cases w2 : 2 ≤ w
    · have wk : 10 ≤ w ∧ (w - 10) / 2 < M (M 1 3) 3 := by omega
      obtain ⟨K, hK⟩ : ∃ K : Nat, K = ((w - 10) / 2).toNat := ⟨_, rfl⟩
      have Kz : (K : Int) = (w - 10) / 2 := by omega
      rw [if_neg (by omega), if_neg (by omega), ← hK]
      have f1 : F 1 3 = M 1 3 := by rw [fF 1 (by omega)]
      have fT : F (M 1 3) = M (M 1 3) := fF _ (by omega)
      have hHF : h204 F x a := by
        intro k y k0 k1 y0 y1
        rw [f1, fT] at k1
        rw [fF (101 + k) (by omega)]
        exact hH k y k0 k1 y0 y1
      have keyx := xs_eq pF lF (X := x) (c := C) (cc := a) (by omega) (by omega) (by omega) (by omega) (by omega) hHF (by rw [fF 101 (by omega)]; exact e4) (by rw [fF 101 (by omega), ← e3]; exact e1)
      rw [f1, fT] at keyx
      have cgC : ∀ k : Nat, (k : Int) ≤ M (M 1 3) 3 → xsC F (x - C) k = xsC M (x - C) k := by
        intro k
        induction k with
        | zero => intro _; rfl
        | succ k ih =>
          intro hk
          have a1 : ∀ y, abC F k y = abC M k y := fun y => by
            unfold abC QC
            rw [fF 1 (by omega), fF (M 1 3 + 3) (by omega), fF (M 1 3 + 4) (by omega), fF (101 + (k : Int)) (by omega), fF (102 + (k : Int)) (by omega), fF 117 (by omega)]
          rw [show xsC F (x - C) (k + 1) = xsC F (x - C) k - (abC F k (xsC F (x - C) k)).1 * F (F 1 3 + 3) k - (abC F k (xsC F (x - C) k)).2 * F (F 1 3 + 4) k from rfl, ih (by omega), a1, f1, fF (M 1 3 + 3) (by omega), fF (M 1 3 + 4) (by omega)]
          rfl
      have cgA : ∀ y, abC F K y = abC M K y := fun y => by
        unfold abC QC
        rw [fF 1 (by omega), fF (M 1 3 + 3) (by omega), fF (M 1 3 + 4) (by omega), fF (101 + (K : Int)) (by omega), fF (102 + (K : Int)) (by omega), fF 117 (by omega)]
      have loop : ∀ d j : Nat, j + d = K → ∀ M' : aM, (∀ a, a ≠ 145 → M' a = F a) → (∀ i, i ≠ 74 → i ≠ 75 → M' 145 i = F 145 i) → ∃ M1, aX xc_288 (aSeek xc_288 92) [aR 145, aU, aU, aI w, aI (xsM F x j), aI j] [] (SH L) M' ([aI (if ¬ aRem w 2 = 0 then (abM F K (xsM F x K)).2 else (abM F K (xsM F x K)).1)], SH L, M1) ∧ (∀ a, a ≠ 145 → M1 a = F a) ∧ ∀ i, i ≠ 74 → i ≠ 75 → M1 145 i = F 145 i := by
        intro d
        induction d with
        | zero =>
          intro j jk M' g1 g2
          have e : j = K := by omega
          subst e
          obtain ⟨⟨k1, k2, k3, -, -⟩, -⟩ := keyx j (by omega)
          have pM : rP M' := rP_cg pF (fun a ha => g1 a (by omega)) (by rw [g1 1 (by omega)])
          obtain ⟨M2, rr, p1, p2, p3, p4⟩ := s_286 (L := L) pM (k := j) (X := xsM F x j) (by omega) (by rw [g1 1 (by omega), f1, g1 (M 1 3) (by omega), fT]; omega) (by omega) (by omega) (fun y y0 y1 => by
            rw [g1 204 (by omega)]
            have := hH (j + 1) y (by omega) (by omega) y0 (by omega)
            rw [show 241 * ((j : Int) + 1) + y = 241 * j + 241 + y by omega] at this
            exact ⟨this.1, this.2.1⟩)
          rw [abM_cg pF g1] at p3 p4
          have fin : ∀ z u, aX xc_288 (aSeek xc_288 92) [aR 145, aU, aU, aI w, aI z, aI (aW ((j : Int) + 1))] [] (SH L) M2 u ↔ aX xc_288 (aSeek xc_288 92) [aR 145, aU, aU, aI w, aI z, aI ((j : Int) + 1)] [] (SH L) M2 u := fun z u => by rw [aWi (by omega) (by omega)]
          refine ⟨M2, bl_288_92 ⟨fun q => absurd q ?_, fun _ => ⟨M2, rr, by omega, by omega, (fin _ _).mpr (bl_288_92 ⟨fun _ => ⟨fun q => rI ?_, fun q => rI ?_⟩, fun q => absurd ?_ q⟩)⟩⟩, fun a ha => by rw [p1 a ha]; exact g1 a ha, fun i i0 i1 => by rw [p2 i i0 i1]; exact g2 i i0 i1⟩
          · rw [aWi (by omega) (by omega), aDiv_nn (by omega) (by omega) (by omega) (by omega)]; omega
          · rw [if_pos q, p4]
          · rw [if_neg q, p3]
          · rw [aWi (by omega) (by omega), aDiv_nn (by omega) (by omega) (by omega) (by omega)]; omega
        | succ d ih =>
          intro j jk M' g1 g2
          obtain ⟨⟨k1, k2, k3, -, -⟩, -⟩ := keyx j (by omega)
          have mk := h.1.2.2.1 j (by omega) (by omega)
          have bk := h.1.1.2.2.2.2.2 j (by omega) (by omega)
          have lb := lfT_bd pF (k := j)
          have pM : rP M' := rP_cg pF (fun a ha => g1 a (by omega)) (by rw [g1 1 (by omega)])
          obtain ⟨M2, rr, p1, p2, p3, p4⟩ := s_286 (L := L) pM (k := j) (X := xsM F x j) (by omega) (by rw [g1 1 (by omega), f1, g1 (M 1 3) (by omega), fT]; omega) (by omega) (by omega) (fun y y0 y1 => by
            rw [g1 204 (by omega)]
            have := hH (j + 1) y (by omega) (by omega) y0 (by omega)
            rw [show 241 * ((j : Int) + 1) + y = 241 * j + 241 + y by omega] at this
            exact ⟨this.1, this.2.1⟩)
          rw [abM_cg pF g1] at p3 p4
          obtain ⟨M1, r1, z⟩ := ih (j + 1) (by omega) M2 (fun a ha => by rw [p1 a ha]; exact g1 a ha) (fun i i0 i1 => by rw [p2 i i0 i1]; exact g2 i i0 i1)
          have ub : (0 ≤ (abM F j (xsM F x j)).1 ∧ (abM F j (xsM F x j)).1 ≤ 240) ∧ 0 ≤ (abM F j (xsM F x j)).2 ∧ (abM F j (xsM F x j)).2 ≤ 240 := by
            rcases pkO_at (Q := QM F j (xsM F x j)) (lfT F j).toNat with ⟨u, -⟩ | ⟨u1, u2, u3, u4, -⟩
            · rw [show abM F j (xsM F x j) = (0, 0) from u]; decide
            · rw [show pkO (QM F j (xsM F x j)) (lfT F j).toNat = abM F j (xsM F x j) from rfl] at u1 u2 u3 u4
              omega
          have m1 := prod_le ub.1 (w := M (M 1 3 + 3) j) (by omega)
          have m2 := prod_le ub.2 (w := M (M 1 3 + 4) j) (by omega)
          have xe : xsM F x (j + 1) = xsM F x j - ((abM F j (xsM F x j)).1 * M (M 1 3 + 3) j + (abM F j (xsM F x j)).2 * M (M 1 3 + 4) j) := by
            rw [show xsM F x (j + 1) = xsM F x j - (abM F j (xsM F x j)).1 * F (F 1 3 + 3) j - (abM F j (xsM F x j)).2 * F (F 1 3 + 4) j from rfl, f1, fF (M 1 3 + 3) (by omega), fF (M 1 3 + 4) (by omega)]
            omega
          refine ⟨M1, bl_288_92 ⟨fun q => absurd q ?_, fun _ => ⟨M2, rr, by omega, by omega, ?_⟩⟩, z⟩
          · rw [aWi (by omega) (by omega), aDiv_nn (by omega) (by omega) (by omega) (by omega)]; omega
          · rw [p3, p4, p1 155 (by omega), p1 156 (by omega), g1 155 (by omega), g1 156 (by omega), fF 155 (by omega), fF 156 (by omega), mk.2.1, mk.2.2.1]
            rw [xe] at r1
            obtain ⟨u1, hu1⟩ : ∃ u : Int, u = (abM F j (xsM F x j)).1 * M (M 1 3 + 3) j := ⟨_, rfl⟩
            obtain ⟨u2, hu2⟩ : ∃ u : Int, u = (abM F j (xsM F x j)).2 * M (M 1 3 + 4) j := ⟨_, rfl⟩
            rw [← hu1, ← hu2] at r1 ⊢
            rw [← hu1] at m1
            rw [← hu2] at m2
            rw [aWi (z := u1) (by omega) (by omega), aWi (z := u2) (by omega) (by omega), aWi (z := u1 + u2) (by omega) (by omega), aWi (z := xsM F x j - (u1 + u2)) (by omega) (by omega), aWi (z := (j : Int) + 1) (by omega) (by omega)]
            exact r1
      obtain ⟨M1, r1, g1, g2⟩ := loop K 0 (by omega) F (fun _ _ => rfl) (fun _ _ _ => rfl)
      obtain ⟨-, kab⟩ := keyx K (by omega)
      rw [kab (by omega), cgC K (by omega), cgA] at r1
      refine ⟨M1, start _ ⟨fun _ => ⟨fun _ => r1, fun q => absurd w2 q⟩, fun q => absurd e5 q⟩, ?_⟩
      exact ⟨fun b b1 b2 b3 => by rw [g1 b b1, fF b (by omega)], fun i hi => by rw [g2 i (by omega) (by omega), fF 145 (by omega)]⟩
    · refine ⟨F, start _ ⟨fun _ => ⟨fun q => absurd q w2, fun _ => ⟨fun q => rI ?_, fun q => rI ?_⟩⟩, fun q => absurd e5 q⟩, sc_204 fF⟩
      · rw [if_neg q, if_pos (by omega), aRem_nn (by omega) (by omega) (by omega) (by omega)]; omega
      · rw [if_pos (Classical.not_not.mp q), aDiv_nn (by omega) (by omega) (by omega) (by omega)]; omega
  · rw [ev, if_neg c]
    have := cn c
    exact ⟨F, start _ ⟨fun q => absurd q (by omega), fun _ => rfl⟩, sc_204 fF⟩
end LIN9
