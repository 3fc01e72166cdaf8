/-! gaps: the model's choice -/
section GAP8
variable {L : Nat} {M M1 M2 : aM}
def QH (M : aM) (k W x t m : Int) : Bool := decide (M 205 (61 * k + 61 + (x - t * M (M 1 3 + 4) k - m * M (M 1 3 + 3) k)) + t * rO W (M (M 1 3 + 3) k) + m * rO W (M (M 1 3 + 4) k) = M 205 (61 * k + x))
def abH (M : aM) (k W x : Int) : Int × Int := pkG (QH M k W x) (fun t => (rsN (lfT M k - t * rO W (M (M 1 3 + 3) k)) (rO W (M (M 1 3 + 4) k)) (x - t * M (M 1 3 + 4) k) (M (M 1 3 + 3) k)).toNat) (rsN (lfT M k) (rO W (M (M 1 3 + 3) k)) x (M (M 1 3 + 4) k)).toNat
theorem pkG_0 {Q : Int → Int → Bool} {R : Int → Nat} (h : R 0 = 0) : pkG Q R 0 = (0, 0) := by
  show ((0 : Int), if pkI (Q 0) (R 0) < 0 then 0 else pkI (Q 0) (R 0)) = (0, 0)
  rw [h]
  by_cases c : Q 0 0 = true
  · rw [show pkI (Q 0) 0 = 0 from if_pos c]; rfl
  · rw [show pkI (Q 0) 0 = -1 from if_neg c]; rfl
theorem s_294 (h : rP M) {k W x : Int} (k0 : 0 ≤ k) (k1 : k < M (M 1 3) 3) (hW : 0 ≤ W ∧ W ≤ 60) (x0 : 0 ≤ x ∧ x ≤ 60) (vb : ∀ y, 0 ≤ y → y ≤ x → 0 ≤ M 205 (61 * k + 61 + y) ∧ M 205 (61 * k + 61 + y) ≤ 100000000) : ∃ M1, aE 294 [aR 145, aI k, aI W, aI x] (SH L) M ([], SH L, M1) ∧ ps 145 74 75 M M1 (abH M k W x).1 (abH M k W x).2 := by
  have tl := tx_le (rP_tx h)
  have t14 := h.1.1.2.2.2.2.1
  have tk := h.1.1.2.2.2.2.2 k k0 k1
  have mk := h.1.2.2.1 k k0 k1
  have n153 : M 153 0 = M (M 1 3) 3 := h.1.2.1.2.2.2
  have l205 : aLn (SH L) 1 205 = 915 := rfl
  have l154 : aLn (SH L) 1 154 = 28 := rfl
  have l155 : aLn (SH L) 1 155 = 28 := rfl
  have l156 : aLn (SH L) 1 156 = 28 := rfl
  have lb := lfT_bd h (k := k)
  obtain ⟨l, hl⟩ : ∃ l, l = lfT M k := ⟨_, rfl⟩
  rw [← hl] at lb
  obtain ⟨w, hw⟩ : ∃ w, w = M (M 1 3 + 3) k := ⟨_, rfl⟩
  obtain ⟨g, hg⟩ : ∃ g, g = M (M 1 3 + 4) k := ⟨_, rfl⟩
  rw [← hw, ← hg] at tk mk
  obtain ⟨K, hK⟩ : ∃ K, K = aSet (aSet M 145 74 0) 145 75 0 := ⟨_, rfl⟩
  have kc : ∀ a, a ≠ 145 → K a = M a := fun a ha => by rw [hK, aSet_c ha, aSet_c ha]
  have kj : ∀ j, j ≠ 74 → j ≠ 75 → K 145 j = M 145 j := fun j j2 j3 => by rw [hK, aSet_i j3, aSet_i j2]
  have kz : ps 145 74 75 M K 0 0 := ⟨kc, kj, by rw [hK, aSet_i (by omega), aSet_e], by rw [hK, aSet_e]⟩
  have hKP : rP K := rP_sc h (by rw [hK]; exact sc_fld (sc_fld sc_rf (by omega)) (by omega))
  have ew : K 155 k = w := by rw [kc 155 (by omega)]; exact mk.2.1
  have eh : K 156 k = g := by rw [kc 156 (by omega)]; exact mk.2.2.1
  have tb := rO_bd hW tk.2.1.1
  have ub := rO_bd hW tk.2.2.1.1
  have q0 : aE 290 [aR 145, aI k, aI 0, aI W] (SH L) K ([aI (rO W w)], SH L, K) := s_290 k0 (by omega) hW ew eh tk.2.1 tk.2.2.1
  have q1 : aE 290 [aR 145, aI k, aI 1, aI W] (SH L) K ([aI (rO W g)], SH L, K) := s_290 k0 (by omega) hW ew eh tk.2.1 tk.2.2.1
  have n0 : ∀ x l, (0 ≤ x ∧ x ≤ 60) → (0 ≤ l ∧ l ≤ 99) → aE 291 [aR 145, aI k, aI 0, aI W, aI x, aI l] (SH L) K ([aI (rsN l (rO W w) x g)], SH L, K) := fun x l x0 l0 => s_291 k0 (by omega) hW ew eh tk.2.1 tk.2.2.1 x0 l0
  have n1 : ∀ x l, (0 ≤ x ∧ x ≤ 60) → (0 ≤ l ∧ l ≤ 99) → aE 291 [aR 145, aI k, aI 1, aI W, aI x, aI l] (SH L) K ([aI (rsN l (rO W g) x w)], SH L, K) := fun x l x0 l0 => s_291 k0 (by omega) hW ew eh tk.2.1 tk.2.2.1 x0 l0
  obtain ⟨Q, hQ⟩ : ∃ Q, Q = QH M k W x := ⟨_, rfl⟩
  have Qd : ∀ t m, Q t m = decide (M 205 (61 * k + 61 + (x - t * g - m * w)) + t * rO W w + m * rO W g = M 205 (61 * k + x)) := fun t m => by rw [hQ, hw, hg]; rfl
  obtain ⟨tr, htr⟩ : ∃ tr, tr = rO W w := ⟨_, rfl⟩
  obtain ⟨ur, hur⟩ : ∃ ur, ur = rO W g := ⟨_, rfl⟩
  obtain ⟨R, hR⟩ : ∃ R : Int → Nat, R = fun t => (rsN (l - t * tr) ur (x - t * g) w).toNat := ⟨_, rfl⟩
  have ea : abH M k W x = pkG Q R (rsN l tr x g).toNat := by unfold abH; rw [hQ, hR, htr, hur, hl, hw, hg]
  rw [← htr] at tb q0 n0 Qd
  rw [← hur] at ub q1 n1 Qd
  rw [ea]
  have bd := fun t m (o : gOk l tr ur g w x t m) => gOk_b x0 lb tb.1 ub.1 tk.2.2.1.1 tk.2.1.1 o
  have one : ∀ t : Nat, (t : Int) ≤ rsN l tr x g → ∀ (d : Int × Int) (M3 : aM), aX xc_294 (aSeek xc_294 58) [aR 145, aI k, aI W, aI x, aI l, aI ((t : Int) - 1), aU, aU, aU, aU] [] (SH L) K ([], SH L, M3) → ps 145 74 75 M M3 d.1 d.2 → ∀ pr : Int × Int, pr = (if pkI (Q t) (R t) < 0 then d else ((t : Int), pkI (Q t) (R t))) → ∃ M1, aX xc_294 (aSeek xc_294 58) [aR 145, aI k, aI W, aI x, aI l, aI t, aU, aU, aU, aU] [] (SH L) K ([], SH L, M1) ∧ ps 145 74 75 M M1 pr.1 pr.2 := by
    intro t t1 d M3 rd zd pr hpr
    obtain ⟨w1, w2, w3⟩ := rsN_le lb.1 x0.1 tb.1 tk.2.2.1.1 (show 0 ≤ (t : Int) by omega) t1
    have nn := rsN_nn (p := l - t * tr) (q := x - t * g) (r := ur) (e := w) (by omega) (by omega)
    have Rt : ((R t : Nat) : Int) = rsN (l - t * tr) ur (x - t * g) w := by rw [hR]; show (((rsN (l - t * tr) ur (x - t * g) w).toNat : Nat) : Int) = _; omega
    have run : ∀ m : Nat, (m : Int) ≤ rsN (l - t * tr) ur (x - t * g) w → ∀ o : aO, (Q t m = true → o = ([], SH L, aSet (aSet K 145 74 t) 145 75 m)) → (Q t m = false → aX xc_294 (aSeek xc_294 104) [aR 145, aI k, aI W, aI x, aI l, aI t, aI (x - t * g), aU, aI ((m : Int) - 1), aU] [] (SH L) K o) → aX xc_294 (aSeek xc_294 104) [aR 145, aI k, aI W, aI x, aI l, aI t, aI (x - t * g), aU, aI m, aU] [] (SH L) K o := by
      intro m m1 o yes no
      have ok : gOk l tr ur g w x t m := ⟨⟨by omega, t1⟩, by omega, m1⟩
      obtain ⟨y1, y2, y3, y4, y5, y6, y7⟩ := bd t m ok
      have vv := vb (x - t * g - m * w) y5.1 y5.2
      have qd := Qd t m
      apply bl_294_104
      rw [ew, aWi (z := m * w) (by omega) (by omega), aWi (z := 61 * k) (by omega) (by omega), aWi (z := 61 * k + 61) (by omega) (by omega), aWi (z := 61 * k + 61 + (x - t * g)) (by omega) (by omega), aWi (z := 61 * k + 61 + (x - t * g) - m * w) (by omega) (by omega), show 61 * k + 61 + (x - t * g) - m * w = 61 * k + 61 + (x - t * g - m * w) by omega, aWi (z := 61 * k + x) (by omega) (by omega), kc 205 (by omega)]
      refine ⟨fun q => absurd q (by omega), fun _ => ⟨by omega, by omega, K, _, q0, K, _, q1, by omega, ?_⟩⟩
      rw [kc 205 (by omega), aWi (z := t * tr) (by omega) (by omega), aWi (z := m * ur) (by omega) (by omega), aWi (z := M 205 (61 * k + 61 + (x - t * g - m * w)) + t * tr) (by omega) (by omega), aWi (z := M 205 (61 * k + 61 + (x - t * g - m * w)) + t * tr + m * ur) (by omega) (by omega)]
      refine ⟨fun q => yes ?_, fun q => ?_⟩
      · rw [qd]; exact decide_eq_true q
      · rw [aWi (z := (m : Int) + (-1)) (by omega) (by omega)]
        exact no (by rw [qd]; exact decide_eq_false q)
    have found : ∀ m : Nat, ps 145 74 75 M (aSet (aSet K 145 74 t) 145 75 m) t m := fun m => ⟨fun b hb => by rw [aSet_c hb, aSet_c hb]; exact kc b hb, fun j j2 j3 => by rw [aSet_i j3, aSet_i j2]; exact kj j j2 j3, by rw [aSet_i (by omega), aSet_e], aSet_e⟩
    have dn : ∀ z, z < 0 → aX xc_294 (aSeek xc_294 104) [aR 145, aI k, aI W, aI x, aI l, aI t, aI (x - t * g), aU, aI z, aU] [] (SH L) K ([], SH L, M3) := by
      intro z hz
      refine bl_294_104 ⟨fun _ => ?_, fun q => absurd hz q⟩
      rw [aWi (z := (t : Int) + (-1)) (by omega) (by omega)]
      exact rd
    have inner : ∀ m : Nat, (m : Int) ≤ rsN (l - t * tr) ur (x - t * g) w → ∀ pr : Int × Int, pr = (if pkI (Q t) m < 0 then d else ((t : Int), pkI (Q t) m)) → ∃ M1, aX xc_294 (aSeek xc_294 104) [aR 145, aI k, aI W, aI x, aI l, aI t, aI (x - t * g), aU, aI m, aU] [] (SH L) K ([], SH L, M1) ∧ ps 145 74 75 M M1 pr.1 pr.2 := by
      intro m
      induction m with
      | zero =>
        intro m1 pr hpr
        by_cases c : Q t ((0 : Nat) : Int) = true
        · have e : pkI (Q t) 0 = ((0 : Nat) : Int) := if_pos c
          rw [e, if_neg (by decide)] at hpr
          rw [hpr]
          exact ⟨_, run 0 m1 _ (fun _ => rfl) (fun q => absurd c (by rw [q]; decide)), found 0⟩
        · have e : pkI (Q t) 0 = -1 := if_neg c
          rw [e, if_pos (by decide)] at hpr
          rw [hpr]
          exact ⟨M3, run 0 m1 _ (fun q => absurd q c) (fun _ => dn _ (by decide)), zd⟩
      | succ m ihm =>
        intro m1 pr hpr
        by_cases c : Q t ((m + 1 : Nat) : Int) = true
        · have e : pkI (Q t) (m + 1) = ((m + 1 : Nat) : Int) := if_pos c
          rw [e, if_neg (by omega)] at hpr
          rw [hpr]
          exact ⟨_, run (m + 1) m1 _ (fun _ => rfl) (fun q => absurd c (by rw [q]; decide)), found (m + 1)⟩
        · have e : pkI (Q t) (m + 1) = pkI (Q t) m := if_neg c
          rw [e] at hpr
          obtain ⟨M1, r, z⟩ := ihm (by omega) pr hpr
          refine ⟨M1, run (m + 1) m1 _ (fun q => absurd q c) (fun _ => ?_), z⟩
          rw [show ((m + 1 : Nat) : Int) - 1 = m by omega]
          exact r
    obtain ⟨M1, r, z⟩ := inner (R t) (by omega) pr hpr
    rw [Rt] at r
    have s1 := n1 (x - t * g) (l - t * tr) (by omega) (by omega)
    refine ⟨M1, bl_294_58 ⟨fun q => absurd q (by omega), fun _ => ⟨by omega, K, _, q0, K, rsN (l - t * tr) ur (x - t * g) w, ?_, ?_⟩⟩, z⟩
    · rw [eh, aWi (z := t * g) (by omega) (by omega), aWi (z := x - t * g) (by omega) (by omega), aWi (z := t * tr) (by omega) (by omega), aWi (z := l - t * tr) (by omega) (by omega)]
      exact s1
    · rw [eh, aWi (z := t * g) (by omega) (by omega), aWi (z := x - t * g) (by omega) (by omega)]
      exact r
  have main : ∀ n : Nat, (n : Int) ≤ rsN l tr x g → ∃ M1, aX xc_294 (aSeek xc_294 58) [aR 145, aI k, aI W, aI x, aI l, aI n, aU, aU, aU, aU] [] (SH L) K ([], SH L, M1) ∧ ps 145 74 75 M M1 (pkG Q R n).1 (pkG Q R n).2 := by
    intro n
    induction n with
    | zero =>
      intro n1
      refine one 0 n1 (0, 0) K (bl_294_58 ⟨fun _ => rfl, fun q => absurd (by decide) q⟩) kz _ ?_
      show ((0 : Int), if pkI (Q 0) (R 0) < 0 then 0 else pkI (Q 0) (R 0)) = if pkI (Q 0) (R 0) < 0 then (0, 0) else ((0 : Int), pkI (Q 0) (R 0))
      by_cases c : pkI (Q 0) (R 0) < 0
      · rw [if_pos c, if_pos c]
      · rw [if_neg c, if_neg c]
    | succ n ih =>
      intro n1
      obtain ⟨M3, r3, z3⟩ := ih (by omega)
      exact one (n + 1) n1 (pkG Q R n) M3 (by rw [show ((n + 1 : Nat) : Int) - 1 = n by omega]; exact r3) z3 _ rfl
  have nn := rsN_nn (p := l) (q := x) (r := tr) (e := g) lb.1 x0.1
  have all : ∃ M1, aX xc_294 (aSeek xc_294 38) [aR 145, aI k, aI W, aI x, aU, aU, aU, aU, aU, aU] [aI l] (SH L) K ([], SH L, M1) ∧ ps 145 74 75 M M1 (pkG Q R (rsN l tr x g).toNat).1 (pkG Q R (rsN l tr x g).toNat).2 := by
    by_cases c : l = 0
    · have z1 := rsN_0 (r := tr) (q := x) (e := g)
      have z2 := rsN_0 (r := ur) (q := x - 0 * g) (e := w)
      have e0 : (rsN l tr x g).toNat = 0 := by rw [c]; omega
      rw [e0, pkG_0 (by rw [hR, c]; show (rsN (0 - 0 * tr) ur (x - 0 * g) w).toNat = 0; rw [Int.zero_mul tr, Int.sub_zero]; omega)]
      exact ⟨K, bl_294_38 ⟨fun q => absurd c q, fun _ => rfl⟩, kz⟩
    · obtain ⟨M1, r, z⟩ := main (rsN l tr x g).toNat (by omega)
      rw [Int.toNat_of_nonneg nn] at r
      exact ⟨M1, bl_294_38 ⟨fun _ => ⟨K, _, n0 x l x0 lb, r⟩, fun q => absurd c (fun z => q z)⟩, z⟩
  obtain ⟨M1, r, z⟩ := all
  refine ⟨M1, en_294 ?_, z⟩
  rw [← hK, kc 153 (by omega), n153, kc 154 (by omega), mk.1]
  have lu := hl
  unfold lfT at lu
  refine ⟨fun q => absurd k1 (by omega), fun _ => ⟨by omega, fun q => ?_, fun q => ?_⟩⟩
  · rw [if_neg (fun z => z.2.2 (by omega))] at lu
    rw [lu] at r
    exact bl_294_37 r
  · rw [if_pos ⟨k0, k1, by omega⟩] at lu
    have s := s_226 (L := L) hKP (k := k) k0 (by rw [kc 153 (by omega), n153]; exact k1)
    rw [kc 157 (by omega), mk.2.2.2, show cntK K 31 k = cntK M 31 k by unfold cntK; rw [kc 31 (by omega), kc (31 + 1) (by omega)], ← lu] at s
    exact ⟨K, _, s, r⟩
end GAP8
