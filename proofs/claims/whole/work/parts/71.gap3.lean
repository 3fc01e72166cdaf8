/-! the class's choice of a gap -/
section GAP3
variable {L : Nat} {M M1 M2 : aM}
def pkG (Q : Int → Int → Bool) (R : Int → Nat) : Nat → Int × Int
  | 0 => (0, if pkI (Q 0) (R 0) < 0 then 0 else pkI (Q 0) (R 0))
  | n + 1 => if pkI (Q ((n + 1 : Nat) : Int)) (R ((n + 1 : Nat) : Int)) < 0 then pkG Q R n else (((n + 1 : Nat) : Int), pkI (Q ((n + 1 : Nat) : Int)) (R ((n + 1 : Nat) : Int)))
/-- what the class chooses of kind k in x points -/
def QG (M : aM) (k x t m : Int) : Bool := decide (gFv (M (121 + k)) (M 136 k) (M 137 k) (M (M 1 3 + 4) k) (M (M 1 3 + 3) k) x t m = M (120 + k) x)
def abG (M : aM) (k x : Int) : Int × Int := pkG (QG M k x) (fun t => (rsN (M 135 k - t * M 136 k) (M 137 k) (x - t * M (M 1 3 + 4) k) (M (M 1 3 + 3) k)).toNat) (rsN (M 135 k) (M 136 k) x (M (M 1 3 + 4) k)).toNat
theorem s_151c (hp : rP M) {k x l tr ur br ln : Int} (e6 : M 118 6 = M 1 3) (k0 : 0 ≤ k) (k1 : k < M (M 1 3) 3) (x0 : 0 ≤ x ∧ x ≤ 60) (hP : rwG (M (121 + k))) (el : M 135 k = l) (et : M 136 k = tr) (eu : M 137 k = ur) (eb : M (M 1 3 + 4) k = br) (en : M (M 1 3 + 3) k = ln) (l0 : 0 ≤ l ∧ l ≤ 99) (r0 : 0 ≤ tr ∧ tr ≤ 60) (u0 : 0 ≤ ur ∧ ur ≤ 60) (b1 : 1 ≤ br ∧ br ≤ 60) (n1 : 1 ≤ ln ∧ ln ≤ 60) :
    ∃ M1, aE 151 [aR 118, aI k, aI x, aI 0] (SH L) M ([aI (x - (abG M k x).1 * br - (abG M k x).2 * ln)], SH L, M1) ∧ ps 118 0 1 M M1 (abG M k x).1 (abG M k x).2 := by
  have ht := rP_tx hp
  have h14 := hp.1.1.2.2.2.2.1
  obtain ⟨T, hT⟩ : ∃ T, T = M 1 3 := ⟨_, rfl⟩
  have tl := tx_le ht
  have l135 : aLn (SH L) 1 135 = 14 := rfl
  have l136 : aLn (SH L) 1 136 = 14 := rfl
  have l137 : aLn (SH L) 1 137 = 14 := rfl
  have l119 : aLn (SH L) 6 119 = 15 := rfl
  have a119 := ar_119 (L := L) k0 (show k < 15 by omega)
  have a119' : aF (SH L) 119 (k + 1).toNat = 121 + k := by rw [ar_119 (by omega) (by omega)]; omega
  have p0 := (p_119 (L := L) k0 (show k < 15 by omega)).2.2
  have p1 : aLn (SH L) 1 (121 + k) = 61 := by
    have := (p_119 (L := L) (k := k + 1) (by omega) (by omega)).2.2
    rw [show 120 + (k + 1) = 121 + k by omega] at this
    exact this
  obtain ⟨Q, hQ⟩ : ∃ Q, Q = QG M k x := ⟨_, rfl⟩
  obtain ⟨F, hF⟩ : ∃ F, F = M (121 + k) := ⟨_, rfl⟩
  have Qd : ∀ t m, Q t m = decide (gFv F tr ur br ln x t m = M (120 + k) x) := fun t m => by rw [hQ, hF, ← et, ← eu, ← eb, ← en]; rfl
  rw [← hF] at hP
  have bd := fun t m (o : gOk l tr ur br ln x t m) => gOk_bd hP x0 l0 r0.1 u0.1 b1.1 n1.1 o
  obtain ⟨R, hR⟩ : ∃ R : Int → Nat, R = fun t => (rsN (l - t * tr) ur (x - t * br) ln).toNat := ⟨_, rfl⟩
  obtain ⟨K, hK⟩ : ∃ K, K = aSet (aSet M 118 0 0) 118 1 0 := ⟨_, rfl⟩
  have kc : ∀ a, a ≠ 118 → K a = M a := fun a ha => by rw [hK, aSet_c ha, aSet_c ha]
  have kj : ∀ j, j ≠ 0 → j ≠ 1 → K 118 j = M 118 j := fun j j2 j3 => by rw [hK, aSet_i j3, aSet_i j2]
  have kz : ps 118 0 1 M K 0 0 := ⟨kc, kj, by rw [hK, aSet_i (by omega), aSet_e], by rw [hK, aSet_e]⟩
  have one : ∀ t : Nat, (t : Int) ≤ rsN l tr x br → ∀ (d : Int × Int) (M3 : aM), aX xc_151 (aSeek xc_151 52) [aR 118, aI k, aI x, aI 0, aI br, aI ln, aI ((t : Int) - 1), aU, aU, aU, aU, aU] [] (SH L) K ([aI (x - d.1 * br - d.2 * ln)], SH L, M3) → ps 118 0 1 M M3 d.1 d.2 → ∀ pr : Int × Int, pr = (if pkI (Q t) (R t) < 0 then d else ((t : Int), pkI (Q t) (R t))) → ∃ M1, aX xc_151 (aSeek xc_151 52) [aR 118, aI k, aI x, aI 0, aI br, aI ln, aI t, aU, aU, aU, aU, aU] [] (SH L) K ([aI (x - pr.1 * br - pr.2 * ln)], SH L, M1) ∧ ps 118 0 1 M M1 pr.1 pr.2 := by
    intro t t1 d M3 rd zd pr hpr
    obtain ⟨w1, w2, w3⟩ := rsN_le l0.1 x0.1 r0.1 b1.1 (show 0 ≤ (t : Int) by omega) t1
    have nn := rsN_nn (p := l - t * tr) (q := x - t * br) (r := ur) (e := ln) (by omega) (by omega)
    have Rt : ((R t : Nat) : Int) = rsN (l - t * tr) ur (x - t * br) ln := by rw [hR]; show (((rsN (l - t * tr) ur (x - t * br) ln).toNat : Nat) : Int) = _; omega
    have run : ∀ m : Nat, (m : Int) ≤ rsN (l - t * tr) ur (x - t * br) ln → ∀ o : aO, (Q t m = true → o = ([aI (x - t * br - m * ln)], SH L, aSet (aSet K 118 0 t) 118 1 m)) → (Q t m = false → aX xc_151 (aSeek xc_151 101) [aR 118, aI k, aI x, aI 0, aI br, aI ln, aI t, aU, aI (x - t * br), aI ((m : Int) - 1), aU, aU] [] (SH L) K o) → aX xc_151 (aSeek xc_151 101) [aR 118, aI k, aI x, aI 0, aI br, aI ln, aI t, aU, aI (x - t * br), aI m, aU, aU] [] (SH L) K o := by
      intro m m1 o yes no
      have ok : gOk l tr ur br ln x t m := ⟨⟨by omega, t1⟩, by omega, m1⟩
      obtain ⟨y1, y2, y3, y4, y5, y6, y7, y8⟩ := bd t m ok
      have qd := Qd t m
      apply bl_151_101
      rw [aWi (z := m * ln) (by omega) (by omega), aWi (z := x - t * br - m * ln) (by omega) (by omega), aWi (z := k + 1) (by omega) (by omega), a119, a119', p0, p1, kc 136 (by omega), kc 137 (by omega), et, eu, kc (121 + k) (by omega), ← hF, kc (120 + k) (by omega), aWi (z := t * tr) (by omega) (by omega), aWi (z := m * ur) (by omega) (by omega), aWi (z := t * tr + m * ur) (by omega) (by omega), show t * tr + m * ur + F (x - t * br - m * ln) = gFv F tr ur br ln x t m from rfl, aWi (z := gFv F tr ur br ln x t m) (by omega) (by omega)]
      refine ⟨fun q => absurd q (by omega), fun _ => ⟨fun q => absurd q (by omega), fun _ => ⟨fun _ => ⟨by omega, by omega, by omega, by omega, fun _ => ⟨by omega, by omega, fun q => bl_151_220 ?_, fun q => yes ?_⟩, fun q => absurd rfl q⟩, fun q => absurd (by omega) q⟩⟩⟩
      · rw [aWi (z := (m : Int) + (-1)) (by omega) (by omega)]
        exact no (by rw [qd]; exact decide_eq_false q)
      · rw [qd]; exact decide_eq_true (Classical.not_not.mp q)
    have found : ∀ m : Nat, ps 118 0 1 M (aSet (aSet K 118 0 t) 118 1 m) t m := fun m => ⟨fun b hb => by rw [aSet_c hb, aSet_c hb]; exact kc b hb, fun j j2 j3 => by rw [aSet_i j3, aSet_i j2]; exact kj j j2 j3, by rw [aSet_i (by omega), aSet_e], aSet_e⟩
    have dn : ∀ z, z < 0 → aX xc_151 (aSeek xc_151 101) [aR 118, aI k, aI x, aI 0, aI br, aI ln, aI t, aU, aI (x - t * br), aI z, aU, aU] [] (SH L) K ([aI (x - d.1 * br - d.2 * ln)], SH L, M3) := by
      intro z hz
      refine bl_151_101 ⟨fun _ => ?_, fun q => absurd hz q⟩
      rw [aWi (z := (t : Int) + (-1)) (by omega) (by omega)]
      exact rd
    have inner : ∀ m : Nat, (m : Int) ≤ rsN (l - t * tr) ur (x - t * br) ln → ∀ pr : Int × Int, pr = (if pkI (Q t) m < 0 then d else ((t : Int), pkI (Q t) m)) → ∃ M1, aX xc_151 (aSeek xc_151 101) [aR 118, aI k, aI x, aI 0, aI br, aI ln, aI t, aU, aI (x - t * br), aI m, aU, aU] [] (SH L) K ([aI (x - pr.1 * br - pr.2 * ln)], SH L, M1) ∧ ps 118 0 1 M M1 pr.1 pr.2 := by
      intro m
      induction m with
      | zero =>
        intro m1 pr hpr
        by_cases c : Q t ((0 : Nat) : Int) = true
        · have e : pkI (Q t) 0 = ((0 : Nat) : Int) := if_pos c
          rw [e, if_neg (by decide)] at hpr
          rw [hpr]
          exact ⟨_, run 0 m1 _ (fun _ => rfl) (fun q => absurd c (by rw [q]; decide)), found 0⟩
        · have e : pkI (Q t) 0 = -1 := if_neg c
          rw [e, if_pos (by decide)] at hpr
          rw [hpr]
          exact ⟨M3, run 0 m1 _ (fun q => absurd q c) (fun _ => dn _ (by decide)), zd⟩
      | succ m ihm =>
        intro m1 pr hpr
        by_cases c : Q t ((m + 1 : Nat) : Int) = true
        · have e : pkI (Q t) (m + 1) = ((m + 1 : Nat) : Int) := if_pos c
          rw [e, if_neg (by omega)] at hpr
          rw [hpr]
          exact ⟨_, run (m + 1) m1 _ (fun _ => rfl) (fun q => absurd c (by rw [q]; decide)), found (m + 1)⟩
        · have e : pkI (Q t) (m + 1) = pkI (Q t) m := if_neg c
          rw [e] at hpr
          obtain ⟨M1, r, z⟩ := ihm (by omega) pr hpr
          refine ⟨M1, run (m + 1) m1 _ (fun q => absurd q c) (fun _ => ?_), z⟩
          rw [show ((m + 1 : Nat) : Int) - 1 = m by omega]
          exact r
    obtain ⟨M1, r, z⟩ := inner (R t) (by omega) pr hpr
    have s150 : aE 150 [aI (l - t * tr), aI ur, aI (x - t * br), aI ln] (SH L) K ([aI (rsN (l - t * tr) ur (x - t * br) ln)], SH L, K) := s_150 (by omega) (by omega) (by omega) (by omega)
    refine ⟨M1, bl_151_52 ⟨fun q => absurd q (by omega), fun _ => ?_⟩, z⟩
    rw [kc 135 (by omega), kc 136 (by omega), kc 137 (by omega), el, et, eu, aWi (z := t * tr) (by omega) (by omega), aWi (z := l - t * tr) (by omega) (by omega), aWi (z := t * br) (by omega) (by omega), aWi (z := x - t * br) (by omega) (by omega)]
    rw [Rt] at r
    exact ⟨by omega, by omega, by omega, _, _, s150, r⟩
  have main : ∀ n : Nat, (n : Int) ≤ rsN l tr x br → ∃ M1, aX xc_151 (aSeek xc_151 52) [aR 118, aI k, aI x, aI 0, aI br, aI ln, aI n, aU, aU, aU, aU, aU] [] (SH L) K ([aI (x - (pkG Q R n).1 * br - (pkG Q R n).2 * ln)], SH L, M1) ∧ ps 118 0 1 M M1 (pkG Q R n).1 (pkG Q R n).2 := by
    intro n
    induction n with
    | zero =>
      intro n1
      refine one 0 n1 (0, 0) K (bl_151_52 ⟨fun _ => rI ?_, fun q => absurd (by decide) q⟩) kz _ ?_
      · show x - (0 : Int) * br - (0 : Int) * ln = x
        rw [Int.zero_mul, Int.zero_mul]; omega
      · show ((0 : Int), if pkI (Q 0) (R 0) < 0 then 0 else pkI (Q 0) (R 0)) = if pkI (Q 0) (R 0) < 0 then (0, 0) else ((0 : Int), pkI (Q 0) (R 0))
        by_cases c : pkI (Q 0) (R 0) < 0
        · rw [if_pos c, if_pos c]
        · rw [if_neg c, if_neg c]
    | succ n ih =>
      intro n1
      obtain ⟨M3, r3, z3⟩ := ih (by omega)
      exact one (n + 1) n1 (pkG Q R n) M3 (by rw [show ((n + 1 : Nat) : Int) - 1 = n by omega]; exact r3) z3 _ rfl
  have nn := rsN_nn (p := l) (q := x) (r := tr) (e := br) l0.1 x0.1
  obtain ⟨M1, r, z⟩ := main (rsN l tr x br).toNat (by omega)
  have ea : abG M k x = pkG Q R (rsN l tr x br).toNat := by unfold abG; rw [hQ, hR, el, et, eu, eb, en]
  rw [ea]
  rw [Int.toNat_of_nonneg nn] at r
  have s150 : aE 150 [aI l, aI tr, aI x, aI br] (SH L) K ([aI (rsN l tr x br)], SH L, K) := s_150 (by omega) (by omega) (by omega) (by omega)
  refine ⟨M1, en_151 ?_, z⟩
  rw [← hK, kj 6 (by omega) (by omega), e6]
  simp only [tx ht]
  rw [kc (M 1 3 + 4) (by omega), kc (M 1 3 + 3) (by omega), eb, en, kc 135 (by omega), kc 136 (by omega), el, et]
  exact ⟨trivial, by omega, trivial, by omega, by omega, by omega, K, _, s150, r⟩
end GAP3
