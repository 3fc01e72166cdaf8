/-! the model's choice of a line is the class's -/
section LIN8
variable {L : Nat} {M M1 M2 : aM}
theorem ab_eq {P P' : Int → Int} {w h x c cc X y HX Hy : Int} {r a A : Nat} (w1 : 1 ≤ w) (h1 : 1 ≤ h) (bd : rwB P') (hP : ∀ z, 0 ≤ z → z ≤ 240 → P z = gLn P' w h r z) (hX : X = x + c) (x0 : 0 ≤ x) (X1 : X ≤ 240) (c0 : 0 ≤ c) (c1 : c ≤ cc) (cc1 : cc ≤ 99) (px : P x ≤ x) (e : HX = 1000 * (P x + c) + c) (oX : hO P cc X HX)
    (hy : y = A * w + (a - A) * h) (aA : A ≤ a) (ar : a ≤ r) (oy : 0 ≤ X - y → hO P' cc (X - y) Hy) : (0 ≤ X - y ∧ Hy + 1000 * a = HX) ↔ (0 ≤ x - y ∧ P' (x - y) + a = P x) := by
  have y0 : 0 ≤ y := by
    have g1 := Int.mul_nonneg (show 0 ≤ (A : Int) by omega) (show 0 ≤ w by omega)
    have g2 := Int.mul_nonneg (show 0 ≤ (a : Int) - A by omega) (show 0 ≤ h by omega)
    omega
  have low : 0 ≤ X - y → HX ≤ Hy + 1000 * a := by
    intro q
    obtain ⟨z0, z1, -, z3⟩ := oy q
    rcases z3 with z3 | ⟨d, d0, d1, d2, z3⟩
    · have := oX.2.1; omega
    · have g := gLn_le (F := P') w1 h1 r (X - d) A (a - A) (by omega) (by omega) (by rw [Int.ofNat_sub aA]; omega)
      rw [Int.ofNat_sub aA, ← hP (X - d) (by omega) (by omega), show X - d - (A : Int) * w - ((a : Int) - A) * h = X - y - d by omega] at g
      have := oX.2.2.1 d d0 d1 (by omega)
      omega
  constructor
  · rintro ⟨q1, q2⟩
    obtain ⟨z0, z1, -, z3⟩ := oy q1
    rcases z3 with z3 | ⟨d, d0, d1, d2, z3⟩
    · omega
    · have : d = c := by omega
      subst this
      rw [show X - y - d = x - y by omega] at z3
      exact ⟨by omega, by omega⟩
  · rintro ⟨q1, q2⟩
    obtain ⟨z0, z1, z2, -⟩ := oy (by omega)
    have u := z2 c c0 c1 (by omega)
    rw [show X - y - c = x - y by omega] at u
    have := low (by omega)
    exact ⟨by omega, by omega⟩
def QM (M : aM) (k X a A : Int) : Bool := decide (0 ≤ X - A * M (M 1 3 + 3) k - (a - A) * M (M 1 3 + 4) k ∧ M 204 (241 * k + 241 + (X - A * M (M 1 3 + 3) k - (a - A) * M (M 1 3 + 4) k)) + 1000 * a = M 204 (241 * k + X))
def abM (M : aM) (k X : Int) : Int × Int := pkO (QM M k X) (lfT M k).toNat
def xsM (M : aM) (X : Int) : Nat → Int
  | 0 => X
  | k + 1 => xsM M X k - (abM M k (xsM M X k)).1 * M (M 1 3 + 3) k - (abM M k (xsM M X k)).2 * M (M 1 3 + 4) k
/-- table 204 is filled up to X for a cards -/
def h204 (M : aM) (X a : Int) : Prop := ∀ k y, 0 ≤ k → k ≤ M (M 1 3) 3 → 0 ≤ y → y ≤ X → hO (M (101 + k)) a y (M 204 (241 * k + y))
theorem s_286 (h : rP M) {k X : Int} (k0 : 0 ≤ k) (k1 : k < M (M 1 3) 3) (x0 : 0 ≤ X) (x1 : X ≤ 240) (vb : ∀ y, 0 ≤ y → y ≤ X → 0 ≤ M 204 (241 * k + 241 + y) ∧ M 204 (241 * k + 241 + y) ≤ 100000000) : ∃ M1, aE 286 [aR 145, aI k, aI X] (SH L) M ([], SH L, M1) ∧ ps 145 74 75 M M1 (abM M k X).1 (abM M k X).2 := by
  have tl := tx_le (rP_tx h)
  have t14 := h.1.1.2.2.2.2.1
  have tk := h.1.1.2.2.2.2.2 k k0 k1
  have mk := h.1.2.2.1 k k0 k1
  have n153 : M 153 0 = M (M 1 3) 3 := h.1.2.1.2.2.2
  have l204 : aLn (SH L) 1 204 = 3615 := rfl
  have l154 : aLn (SH L) 1 154 = 28 := rfl
  have l155 : aLn (SH L) 1 155 = 28 := rfl
  have l156 : aLn (SH L) 1 156 = 28 := rfl
  obtain ⟨Q, hQ⟩ : ∃ Q, Q = QM M k X := ⟨_, rfl⟩
  obtain ⟨w, hw⟩ : ∃ w, w = M (M 1 3 + 3) k := ⟨_, rfl⟩
  obtain ⟨g, hg⟩ : ∃ g, g = M (M 1 3 + 4) k := ⟨_, rfl⟩
  have Qd : ∀ a A, Q a A = decide (0 ≤ X - A * w - (a - A) * g ∧ M 204 (241 * k + 241 + (X - A * w - (a - A) * g)) + 1000 * a = M 204 (241 * k + X)) := fun a A => by rw [hQ, hw, hg]; rfl
  rw [← hw, ← hg] at tk mk
  obtain ⟨K, hK⟩ : ∃ K, K = aSet (aSet M 145 74 0) 145 75 0 := ⟨_, rfl⟩
  have kc : ∀ a, a ≠ 145 → K a = M a := fun a ha => by rw [hK, aSet_c ha, aSet_c ha]
  have kj : ∀ j, j ≠ 74 → j ≠ 75 → K 145 j = M 145 j := fun j j2 j3 => by rw [hK, aSet_i j3, aSet_i j2]
  have k2 : K 145 74 = 0 := by rw [hK, aSet_i (by omega), aSet_e]
  have k3 : K 145 75 = 0 := by rw [hK, aSet_e]
  have hKP : rP K := rP_sc h (by rw [hK]; exact sc_fld (sc_fld sc_rf (by omega)) (by omega))
  have main : ∀ n : Nat, n ≤ 99 → ∃ M1, aX xc_286 (aSeek xc_286 42) [aR 145, aI k, aI X, aU, aI n, aU, aU] [] (SH L) K ([], SH L, M1) ∧ ps 145 74 75 M M1 (pkO Q n).1 (pkO Q n).2 := by
    intro n
    induction n with
    | zero =>
      intro _
      exact ⟨K, bl_286_42 ⟨fun _ => rfl, fun q => absurd (by decide) q⟩, kc, kj, k2, k3⟩
    | succ n ih =>
      intro n99
      obtain ⟨M3, r3, z3⟩ := ih (by omega)
      have inner : ∀ A : Nat, A ≤ n + 1 → ∃ M1, aX xc_286 (aSeek xc_286 51) [aR 145, aI k, aI X, aU, aI ((n + 1 : Nat) : Int), aI A, aU] [] (SH L) K ([], SH L, M1) ∧
          ps 145 74 75 M M1 (if pkI (Q ((n + 1 : Nat) : Int)) A < 0 then pkO Q n else (pkI (Q ((n + 1 : Nat) : Int)) A, ((n + 1 : Nat) : Int) - pkI (Q ((n + 1 : Nat) : Int)) A)).1 (if pkI (Q ((n + 1 : Nat) : Int)) A < 0 then pkO Q n else (pkI (Q ((n + 1 : Nat) : Int)) A, ((n + 1 : Nat) : Int) - pkI (Q ((n + 1 : Nat) : Int)) A)).2 := by
        obtain ⟨a, ha⟩ : ∃ a : Int, a = ((n + 1 : Nat) : Int) := ⟨_, rfl⟩
        rw [← ha]
        have a1 : 1 ≤ a ∧ a ≤ 99 ∧ a = n + 1 := by omega
        have run : ∀ A : Nat, A ≤ n + 1 → ∀ o : aO, (Q a A = true → o = ([], SH L, aSet (aSet K 145 74 A) 145 75 (a - A))) → (Q a A = false → aX xc_286 (aSeek xc_286 145) [aR 145, aI k, aI X, aU, aI a, aI A, aU] [] (SH L) K o) → aX xc_286 (aSeek xc_286 51) [aR 145, aI k, aI X, aU, aI a, aI A, aU] [] (SH L) K o := by
          intro A hA o y nn
          have q1 := prod_le (a := (A : Int)) (w := w) (by omega) (by omega)
          have q2 := prod_le (a := a - A) (w := g) (by omega) (by omega)
          have qd := Qd a A
          apply bl_286_51
          rw [kc 155 (by omega), kc 156 (by omega), mk.2.1, mk.2.2.1, kc 204 (by omega), aWi (z := a - A) (by omega) (by omega)]
          obtain ⟨z1, hz1⟩ : ∃ z : Int, z = A * w := ⟨_, rfl⟩
          obtain ⟨z2, hz2⟩ : ∃ z : Int, z = (a - A) * g := ⟨_, rfl⟩
          rw [← hz1, ← hz2] at qd ⊢
          rw [← hz1] at q1
          rw [← hz2] at q2
          rw [aWi (z := z1) (by omega) (by omega), aWi (z := z2) (by omega) (by omega), aWi (z := X - z1) (by omega) (by omega), aWi (z := X - z1 - z2) (by omega) (by omega), aWi (z := 241 * k) (by omega) (by omega), aWi (z := 241 * k + 241) (by omega) (by omega), aWi (z := 241 * k + X) (by omega) (by omega), aWi (z := 241 * k + 241 + (X - z1 - z2)) (by omega) (by omega), aWi (z := 1000 * a) (by omega) (by omega)]
          refine ⟨fun q => absurd q (by omega), fun _ => ⟨by omega, by omega, fun q => nn ?_, fun q => ⟨by omega, by omega, ?_⟩⟩⟩
          · rw [qd]; exact decide_eq_false (fun z => by omega)
          · have bb := vb (X - z1 - z2) (by omega) (by omega)
            rw [aWi (z := M 204 (241 * k + 241 + (X - z1 - z2)) + 1000 * a) (by omega) (by omega)]
            refine ⟨fun q4 => y ?_, fun q4 => nn ?_⟩
            · rw [qd]; exact decide_eq_true ⟨by omega, q4⟩
            · rw [qd]; exact decide_eq_false (fun z => q4 z.2)
        have found : ∀ A : Nat, A ≤ n + 1 → ps 145 74 75 M (aSet (aSet K 145 74 A) 145 75 (a - A)) A (a - A) := fun A hA => ⟨fun b hb => by rw [aSet_c hb, aSet_c hb]; exact kc b hb, fun j j2 j3 => by rw [aSet_i j3, aSet_i j2]; exact kj j j2 j3, by rw [aSet_i (by omega), aSet_e], aSet_e⟩
        intro A
        induction A with
        | zero =>
          intro hA
          by_cases c : Q a ((0 : Nat) : Int) = true
          · have e : pkI (Q a) 0 = 0 := if_pos c
            rw [e, if_neg (by decide)]
            exact ⟨_, run 0 hA _ (fun _ => rfl) (fun q => absurd c (by rw [q]; decide)), found 0 hA⟩
          · have e : pkI (Q a) 0 = -1 := if_neg c
            rw [e, if_pos (by decide)]
            refine ⟨M3, run 0 hA _ (fun q => absurd q c) (fun _ => bl_286_145 (bl_286_51 ⟨fun _ => ?_, fun q => absurd (by decide) q⟩)), z3⟩
            rw [aWi (z := a + (-1)) (by omega) (by omega), show a + (-1) = n by omega]
            exact r3
        | succ A ihA =>
          intro hA
          by_cases c : Q a ((A + 1 : Nat) : Int) = true
          · have e : pkI (Q a) (A + 1) = ((A + 1 : Nat) : Int) := by unfold pkI; rw [if_pos c]
            rw [e, if_neg (by omega)]
            exact ⟨_, run (A + 1) hA _ (fun _ => rfl) (fun q => absurd c (by rw [q]; decide)), found (A + 1) hA⟩
          · have e : pkI (Q a) (A + 1) = pkI (Q a) A := by
              rw [show pkI (Q a) (A + 1) = if Q a ((A + 1 : Nat) : Int) = true then ((A + 1 : Nat) : Int) else pkI (Q a) A from rfl, if_neg c]
            rw [e]
            obtain ⟨M1, r, z⟩ := ihA (by omega)
            refine ⟨M1, run (A + 1) hA _ (fun q => absurd q c) (fun _ => bl_286_145 ?_), z⟩
            rw [aWi (z := ((A + 1 : Nat) : Int) + (-1)) (by omega) (by omega), show ((A + 1 : Nat) : Int) + (-1) = A by omega]
            exact r
      obtain ⟨M1, r, z⟩ := inner (n + 1) (Nat.le_refl _)
      exact ⟨M1, bl_286_42 ⟨fun q => absurd q (by omega), fun _ => r⟩, z⟩
  have lb := lfT_bd h (k := k)
  obtain ⟨n, hn⟩ : ∃ n : Nat, n = (lfT M k).toNat := ⟨_, rfl⟩
  obtain ⟨M1, r, z⟩ := main n (by omega)
  have ea : abM M k X = pkO Q n := by unfold abM; rw [hQ, hn]
  rw [ea]
  have k38 : aX xc_286 (aSeek xc_286 38) [aR 145, aI k, aI X, aU, aU, aU, aU] [aI n] (SH L) K ([], SH L, M1) := bl_286_38 r
  have lu : (n : Int) = lfT M k := by omega
  unfold lfT at lu
  refine ⟨M1, en_286 ?_, z⟩
  rw [← hK, kc 153 (by omega), n153, kc 154 (by omega), mk.1]
  refine ⟨fun q => absurd k1 (by omega), fun _ => ⟨by omega, fun q => ?_, fun q => ?_⟩⟩
  · rw [if_neg (fun z => z.2.2 (by omega))] at lu
    rw [lu] at k38
    exact bl_286_37 k38
  · rw [if_pos ⟨k0, k1, by omega⟩] at lu
    have s := s_226 (L := L) hKP (k := k) k0 (by rw [kc 153 (by omega), n153]; exact k1)
    rw [kc 157 (by omega), mk.2.2.2, show cntK K 31 k = cntK M 31 k by unfold cntK; rw [kc 31 (by omega), kc (31 + 1) (by omega)], ← lu] at s
    exact ⟨K, _, s, k38⟩
theorem xs_eq (h : rP M) (hl : lnR M) {X c cc : Int} (X0 : 0 ≤ X - c) (X1 : X ≤ 240) (c0 : 0 ≤ c) (c1 : c ≤ cc) (cc1 : cc ≤ 99) (hH : h204 M X cc) (px : M 101 (X - c) ≤ X - c) (e : M 204 X = 1000 * (M 101 (X - c) + c) + c) : ∀ k : Nat, (k : Int) ≤ M (M 1 3) 3 → (xsM M X k = xsC M (X - c) k + c ∧ 0 ≤ xsC M (X - c) k ∧ xsM M X k ≤ X ∧ M 204 (241 * k + xsM M X k) = 1000 * (M (101 + k) (xsC M (X - c) k) + c) + c ∧ M (101 + k) (xsC M (X - c) k) ≤ xsC M (X - c) k) ∧ ((k : Int) < M (M 1 3) 3 → abM M k (xsM M X k) = abC M k (xsC M (X - c) k)) := by
  have ab : ∀ k : Nat, (k : Int) < M (M 1 3) 3 → (xsM M X k = xsC M (X - c) k + c ∧ 0 ≤ xsC M (X - c) k ∧ xsM M X k ≤ X ∧ M 204 (241 * k + xsM M X k) = 1000 * (M (101 + k) (xsC M (X - c) k) + c) + c ∧ M (101 + k) (xsC M (X - c) k) ≤ xsC M (X - c) k) → abM M k (xsM M X k) = abC M k (xsC M (X - c) k) := by
    intro k hk ⟨i1, i2, i3, i4, i5⟩
    have bk := h.1.1.2.2.2.2.2 k (by omega) hk
    have lb := lfT_bd h (k := k)
    have bd := lnR_bd h hl (k + 1) (by omega) (by omega)
    rw [show 101 + ((k : Int) + 1) = 102 + k by omega] at bd
    have b0 := lnR_bd h hl k (by omega) (by omega) (xsC M (X - c) k) i2 (by omega)
    unfold abM abC
    rw [(hl.2.2 k (by omega) hk).1]
    have cg : pkO (QM M k (xsM M X k)) (lfT M k).toNat = pkO (QC M k (xsC M (X - c) k)) (lfT M k).toNat := by
      refine pkO_cg _ (fun a A a1 a2 A0 A1 => ?_)
      have q := ab_eq (P := M (101 + k)) (P' := M (102 + k)) (w := M (M 1 3 + 3) k) (h := M (M 1 3 + 4) k) (x := xsC M (X - c) k) (c := c) (cc := cc) (X := xsM M X k) (y := A * M (M 1 3 + 3) k + (a - A) * M (M 1 3 + 4) k) (HX := M 204 (241 * k + xsM M X k)) (Hy := M 204 (241 * k + 241 + (xsM M X k - (A * M (M 1 3 + 3) k + (a - A) * M (M 1 3 + 4) k)))) (r := (lfT M k).toNat) (a := a.toNat) (A := A.toNat) bk.2.1.1 bk.2.2.1.1 bd (hl.2.2 k (by omega) hk).2 i1 i2 (by omega) c0 c1 cc1 i5 i4 (hH k _ (by omega) (by omega) (by omega) i3) (by rw [Int.toNat_of_nonneg A0, Int.toNat_of_nonneg (by omega : 0 ≤ a)]) (by omega) (by omega) (fun z => by
        have g1 := Int.mul_nonneg A0 (show 0 ≤ M (M 1 3 + 3) k by omega)
        have g2 := Int.mul_nonneg (show 0 ≤ a - A by omega) (show 0 ≤ M (M 1 3 + 4) k by omega)
        have := hH (k + 1) (xsM M X k - (A * M (M 1 3 + 3) k + (a - A) * M (M 1 3 + 4) k)) (by omega) (by omega) z (by omega)
        rw [show 101 + ((k : Int) + 1) = 102 + k by omega, show 241 * ((k : Int) + 1) = 241 * k + 241 by omega] at this
        exact this)
      rw [Int.toNat_of_nonneg (by omega : 0 ≤ a)] at q
      unfold QM QC
      rw [Int.sub_sub (xsM M X k), Int.sub_sub (xsC M (X - c) k)]
      exact decide_eq_decide.mpr q
    rw [cg]
    obtain ⟨m, hm⟩ : ∃ m : Nat, m = (min (lfT M k) (M (101 + k) (xsC M (X - c) k))).toNat := ⟨_, rfl⟩
    rw [← hm, show (lfT M k).toNat = m + ((lfT M k).toNat - m) by omega]
    refine pkO_cut _ (fun a A a1 a2 A0 A1 => ?_)
    unfold QC
    refine decide_eq_false (fun z => ?_)
    have g1 := Int.mul_nonneg A0 (show 0 ≤ M (M 1 3 + 3) k by omega)
    have g2 := Int.mul_nonneg (show 0 ≤ a - A by omega) (show 0 ≤ M (M 1 3 + 4) k by omega)
    have := (bd _ z.1 (by omega)).1
    omega
  intro k
  induction k with
  | zero =>
    intro hk
    have z : xsM M X (0 : Nat) = xsC M (X - c) (0 : Nat) + c ∧ 0 ≤ xsC M (X - c) (0 : Nat) ∧ xsM M X (0 : Nat) ≤ X ∧ M 204 (241 * (0 : Nat) + xsM M X (0 : Nat)) = 1000 * (M (101 + (0 : Nat)) (xsC M (X - c) (0 : Nat)) + c) + c ∧ M (101 + (0 : Nat)) (xsC M (X - c) (0 : Nat)) ≤ xsC M (X - c) (0 : Nat) := by
      rw [show xsM M X 0 = X from rfl, show xsC M (X - c) 0 = X - c from rfl, show (241 : Int) * ((0 : Nat) : Int) + X = X by omega, show (101 : Int) + ((0 : Nat) : Int) = 101 by omega]
      exact ⟨by omega, X0, by omega, e, px⟩
    exact ⟨z, fun q => ab 0 q z⟩
  | succ k ih =>
    intro hk
    obtain ⟨⟨i1, i2, i3, i4, i5⟩, i6⟩ := ih (by omega)
    have eq := i6 (by omega)
    have bk := h.1.1.2.2.2.2.2 k (by omega) (by omega)
    have lb := lfT_bd h (k := k)
    have bd := lnR_bd h hl (k + 1) (by omega) (by omega)
    have fn := lnR_fn h hl (k + 1) (by omega) (by omega)
    rw [show 101 + ((k : Int) + 1) = 102 + k by omega] at bd fn
    have kk : ((k + 1 : Nat) : Int) = k + 1 := by omega
    have z : xsM M X (k + 1) = xsC M (X - c) (k + 1) + c ∧ 0 ≤ xsC M (X - c) (k + 1) ∧ xsM M X (k + 1) ≤ X ∧ M 204 (241 * (k + 1 : Nat) + xsM M X (k + 1)) = 1000 * (M (101 + (k + 1 : Nat)) (xsC M (X - c) (k + 1)) + c) + c ∧ M (101 + (k + 1 : Nat)) (xsC M (X - c) (k + 1)) ≤ xsC M (X - c) (k + 1) := by
      rw [kk, show 101 + ((k : Int) + 1) = 102 + k by omega, show 241 * ((k : Int) + 1) = 241 * k + 241 by omega, show xsM M X (k + 1) = xsM M X k - (abM M k (xsM M X k)).1 * M (M 1 3 + 3) k - (abM M k (xsM M X k)).2 * M (M 1 3 + 4) k from rfl, show xsC M (X - c) (k + 1) = xsC M (X - c) k - (abC M k (xsC M (X - c) k)).1 * M (M 1 3 + 3) k - (abC M k (xsC M (X - c) k)).2 * M (M 1 3 + 4) k from rfl, eq]
      have hy := hH (k + 1) (xsM M X k - (abC M k (xsC M (X - c) k)).1 * M (M 1 3 + 3) k - (abC M k (xsC M (X - c) k)).2 * M (M 1 3 + 4) k) (by omega) (by omega)
      rw [show 101 + ((k : Int) + 1) = 102 + k by omega, show 241 * ((k : Int) + 1) = 241 * k + 241 by omega] at hy
      have b0 := lnR_bd h hl k (by omega) (by omega) (xsC M (X - c) k) i2 (by omega)
      rcases pkO_at (Q := QC M k (xsC M (X - c) k)) (min (M 117 k) (M (101 + k) (xsC M (X - c) k))).toNat with ⟨e0, no⟩ | ⟨e1, e2, e3, -, e4⟩
      · rw [show abC M k (xsC M (X - c) k) = (0, 0) from e0] at hy ⊢
        have zz : ∀ u : Int, u - ((0, 0) : Int × Int).1 * M (M 1 3 + 3) k - ((0, 0) : Int × Int).2 * M (M 1 3 + 4) k = u := fun u => by show u - (0 : Int) * _ - (0 : Int) * _ = u; rw [Int.zero_mul, Int.zero_mul]; omega
        rw [zz] at hy ⊢
        rw [zz]
        have hy' := hy (by omega) i3
        have hx := hH k (xsM M X k) (by omega) (by omega) (by omega) i3
        -- no piece lies, so the row is the next one's
        have pe : M (102 + k) (xsC M (X - c) k) = M (101 + k) (xsC M (X - c) k) := by
          have gv := (hl.2.2 k (by omega) (by omega)).2 (xsC M (X - c) k) i2 (by omega)
          obtain ⟨a, b, q1, q2, q3⟩ := gLn_at bd bk.2.1.1 bk.2.2.1.1 (lfT M k).toNat (xsC M (X - c) k) i2 (by omega)
          rw [← gv] at q3
          by_cases q : a + b = 0
          · have ea : a = 0 := by omega
            have eb : b = 0 := by omega
            subst ea eb
            rw [show xsC M (X - c) k - ((0 : Nat) : Int) * M (M 1 3 + 3) k - ((0 : Nat) : Int) * M (M 1 3 + 4) k = xsC M (X - c) k by rw [Int.natCast_zero, Int.zero_mul, Int.zero_mul]; omega] at q3
            omega
          · have g1 := Int.mul_nonneg (show 0 ≤ (a : Int) by omega) (show 0 ≤ M (M 1 3 + 3) k by omega)
            have g2 := Int.mul_nonneg (show 0 ≤ (b : Int) by omega) (show 0 ≤ M (M 1 3 + 4) k by omega)
            have u := (bd (xsC M (X - c) k - a * M (M 1 3 + 3) k - b * M (M 1 3 + 4) k) (by omega) (by omega)).1
            have := no ((a + b : Nat) : Int) a (by omega) (by rw [(hl.2.2 k (by omega) (by omega)).1]; omega) (by omega) (by omega)
            unfold QC at this
            exact absurd ⟨by rw [show ((a + b : Nat) : Int) - a = b by omega]; omega, by rw [show ((a + b : Nat) : Int) - a = b by omega]; omega⟩ (of_decide_eq_false this)
        refine ⟨i1, i2, i3, ?_, by omega⟩
        have lo := hy'.2.2.1 c c0 c1 (by omega)
        rw [show xsM M X k - c = xsC M (X - c) k by omega, pe] at lo
        rw [pe]
        rcases hy'.2.2.2 with q | ⟨d, d0, d1, d2, q⟩
        · omega
        · have hd := hx.2.2.1 d d0 d1 d2
          have gm := (hl.2.2 k (by omega) (by omega)).2 (xsM M X k - d) (by omega) (by omega)
          have gl := gLn_le (F := M (102 + k)) bk.2.1.1 bk.2.2.1.1 (lfT M k).toNat (xsM M X k - d) 0 0 (by omega) (by omega) (by rw [Int.natCast_zero, Int.zero_mul, Int.zero_mul]; omega)
          rw [show xsM M X k - d - ((0 : Nat) : Int) * M (M 1 3 + 3) k - ((0 : Nat) : Int) * M (M 1 3 + 4) k = xsM M X k - d by rw [Int.natCast_zero, Int.zero_mul, Int.zero_mul]; omega] at gl
          omega
      · rw [show pkO (QC M k (xsC M (X - c) k)) (min (M 117 k) (M (101 + k) (xsC M (X - c) k))).toNat = abC M k (xsC M (X - c) k) from rfl] at e1 e2 e3 e4
        obtain ⟨A, hA⟩ : ∃ A, A = (abC M k (xsC M (X - c) k)).1 := ⟨_, rfl⟩
        obtain ⟨B, hB⟩ : ∃ B, B = (abC M k (xsC M (X - c) k)).2 := ⟨_, rfl⟩
        have m4 : QM M k (xsM M X k) (A + B) A = true := by
          have u := pkO_at (Q := QM M k (xsM M X k)) (lfT M k).toNat
          rw [show pkO (QM M k (xsM M X k)) (lfT M k).toNat = abM M k (xsM M X k) from rfl, eq, ← hA, ← hB] at u
          rcases u with ⟨u, -⟩ | u
          · rw [← hA, ← hB] at e3
            have e5 := congrArg Prod.fst u
            have e6 := congrArg Prod.snd u
            rw [← hA] at e5
            rw [← hB] at e6
            simp only at e5 e6
            omega
          · exact u.2.2.2.2
        rw [← hA] at e1 e3 e4 hy ⊢
        rw [← hB] at e2 e3 e4 hy ⊢
        unfold QC at e4
        unfold QM at m4
        have e4 := of_decide_eq_true e4
        have m4 := of_decide_eq_true m4
        rw [show A + B - A = B by omega] at e4 m4
        have g1 := Int.mul_nonneg e1 (show 0 ≤ M (M 1 3 + 3) k by omega)
        have g2 := Int.mul_nonneg e2 (show 0 ≤ M (M 1 3 + 4) k by omega)
        refine ⟨by omega, e4.1, by omega, ?_, ?_⟩
        · omega
        · rcases fn _ e4.1 (by omega) with q | q
          · exact q
          · omega
    exact ⟨z, fun q => ab (k + 1) q z⟩
end LIN8
