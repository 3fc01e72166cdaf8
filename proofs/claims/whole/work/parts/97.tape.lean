/-! the tape, both sides -/
section TAPE1
variable {L : Nat} {M M1 M2 : aM}
theorem and255 {z : Int} (h : xI z) : aAnd z 255 = z % 256 := by
  unfold aAnd
  have h2 : (Int32.ofInt z &&& Int32.ofInt 255).toBitVec.toNat = (z % 256).toNat := by
    rw [Int32.toBitVec_and, BitVec.toNat_and]
    show (BitVec.ofInt 32 z).toNat &&& (BitVec.ofInt 32 255).toNat = _
    rw [show (BitVec.ofInt 32 255).toNat = 2 ^ 8 - 1 by decide, Nat.and_two_pow_sub_one_eq_mod, BitVec.toNat_ofInt]
    omega
  show (Int32.ofInt z &&& Int32.ofInt 255).toBitVec.toInt = _
  rw [BitVec.toInt_eq_toNat_of_lt (by rw [h2]; omega), h2]
  omega
theorem aShr_I {x y : Int} : xI (aShr x y) := by unfold aShr; exact xI_toInt _
theorem b8_8 {z : Int} : aB8 (aB8 z) = aB8 z := by unfold aB8; exact Int.bmod_bmod
theorem b8_m {z : Int} : aB8 (z % 256) = aB8 z := by unfold aB8; exact Int.emod_bmod z 256
/-- the class's byte of the reference's -/
theorem b8_v {z : Int} (h : 0 ≤ z ∧ z ≤ 255) : aB8 z = if z < 128 then z else z - 256 := by
  by_cases c : z < 128
  · rw [if_pos c, aB8i (by omega) (by omega)]
  · rw [if_neg c]
    have : aB8 z = aB8 (z - 256) := by
      unfold aB8
      rw [← Int.sub_bmod_right]
      rfl
    rw [this, aB8i (by omega) (by omega)]
def tQ (C R : aM) (n : Int) : Prop := ∀ k, 0 ≤ k → k < n → (0 ≤ R 146 k ∧ R 146 k ≤ 255) ∧ C 2 k = aB8 (R 146 k)
theorem s_13 {v : Int} (h : 0 ≤ M 1 1 ∧ M 1 1 ≤ 1996) : ∃ M1, aE 13 [aR 1, aI v] (SH L) M ([], SH L, M1) ∧ (∀ a, a ≠ 1 → a ≠ 2 → M1 a = M a) ∧ (∀ j, j ≠ 1 → M1 1 j = M 1 j) ∧ M1 1 1 = M 1 1 + 4 ∧ (∀ p, p < M 1 1 → M1 2 p = M 2 p) ∧ ∀ j, 0 ≤ j → j < 4 → M1 2 (M 1 1 + j) = aB8 (aShr v (24 - 8 * j)) := by
  have l2 : aL (SH L) 2 = 2000 := rfl
  have l3 : aLn (SH L) 3 2 = 2000 := rfl
  have key : ∀ i, ∀ M' : aM, 0 ≤ i → i ≤ 4 → ((∀ a, a ≠ 1 → a ≠ 2 → M' a = M a) ∧ (∀ j, j ≠ 1 → M' 1 j = M 1 j) ∧ M' 1 1 = M 1 1 + i ∧ (∀ p, p < M 1 1 → M' 2 p = M 2 p) ∧ ∀ j, 0 ≤ j → j < i → M' 2 (M 1 1 + j) = aB8 (aShr v (24 - 8 * j))) →
      ∃ M1, aX xc_13 (aSeek xc_13 3) [aR 1, aI v, aI (24 - 8 * i)] [] (SH L) M' ([], SH L, M1) ∧ (∀ a, a ≠ 1 → a ≠ 2 → M1 a = M a) ∧ (∀ j, j ≠ 1 → M1 1 j = M 1 j) ∧ M1 1 1 = M 1 1 + 4 ∧ (∀ p, p < M 1 1 → M1 2 p = M 2 p) ∧ ∀ j, 0 ≤ j → j < 4 → M1 2 (M 1 1 + j) = aB8 (aShr v (24 - 8 * j)) := by
    refine upto 4 (fun i hi M' i0 i1 hI => ?_) (fun i hi ih M' i0 i1 hI => ?_)
    · rw [show i = 4 by omega] at hI ⊢
      exact ⟨M', bl_13_3 ⟨fun _ => rfl, fun q => absurd (by omega) q⟩, hI⟩
    · obtain ⟨a, b, c, d, e⟩ := hI
      obtain ⟨M1, r, y⟩ := ih (aSet (aSet M' 2 (M 1 1 + i) (aB8 (aShr v (24 - 8 * i)))) 1 1 (M 1 1 + (i + 1))) (by omega) (by omega) ⟨fun x x1 x2 => by rw [aSet_c x1, aSet_c x2]; exact a x x1 x2, fun j hj => by rw [aSet_i hj, aSet_c (by omega)]; exact b j hj, aSet_e, fun p hp => by rw [aSet_c (show (2 : Int) ≠ 1 by omega), aSet_i (by omega)]; exact d p hp, fun j j0 j1 => by
        rw [aSet_c (show (2 : Int) ≠ 1 by omega), aSet_q]
        by_cases q : j = i
        · rw [if_pos (by omega), q]
        · rw [if_neg (by omega)]; exact e j j0 (by omega)⟩
      refine ⟨M1, bl_13_3 ⟨fun q => absurd q (by omega), fun _ => ⟨fun q => absurd q (by omega), fun _ => ⟨by omega, bl_13_32 (bl_13_42 ?_)⟩⟩⟩, y⟩
      rw [c, b8_8, aSet_c (show (1 : Int) ≠ 2 by omega), c, aWi (z := M 1 1 + i + 1) (by omega) (by omega), aWi (z := 24 - 8 * i + -8) (by omega) (by omega), show 24 - 8 * i + -8 = 24 - 8 * (i + 1) by omega, show M 1 1 + i + 1 = M 1 1 + (i + 1) by omega]
      exact r
  obtain ⟨M1, r, y⟩ := key 0 M (by omega) (by omega) ⟨fun _ _ _ => rfl, fun _ _ => rfl, by omega, fun _ _ => rfl, fun j _ _ => by omega⟩
  exact ⟨M1, en_13 r, y⟩
theorem s_180 {v : Int} (h : 0 ≤ M 145 0 ∧ M 145 0 ≤ 1996) : ∃ M1, aE 180 [aR 145, aI v] (SH L) M ([], SH L, M1) ∧ (∀ a, a ≠ 145 → a ≠ 146 → M1 a = M a) ∧ (∀ j, j ≠ 0 → M1 145 j = M 145 j) ∧ M1 145 0 = M 145 0 + 4 ∧ (∀ p, p < M 145 0 → M1 146 p = M 146 p) ∧ ∀ j, 0 ≤ j → j < 4 → M1 146 (M 145 0 + j) = aShr v (24 - 8 * j) % 256 := by
  have l2 : aLn (SH L) 1 146 = 2000 := rfl
  have key : ∀ i, ∀ M' : aM, 0 ≤ i → i ≤ 4 → ((∀ a, a ≠ 145 → a ≠ 146 → M' a = M a) ∧ (∀ j, j ≠ 0 → M' 145 j = M 145 j) ∧ M' 145 0 = M 145 0 + i ∧ (∀ p, p < M 145 0 → M' 146 p = M 146 p) ∧ ∀ j, 0 ≤ j → j < i → M' 146 (M 145 0 + j) = aShr v (24 - 8 * j) % 256) →
      ∃ M1, aX xc_180 (aSeek xc_180 2) [aR 145, aI v, aI i] [] (SH L) M' ([], SH L, M1) ∧ (∀ a, a ≠ 145 → a ≠ 146 → M1 a = M a) ∧ (∀ j, j ≠ 0 → M1 145 j = M 145 j) ∧ M1 145 0 = M 145 0 + 4 ∧ (∀ p, p < M 145 0 → M1 146 p = M 146 p) ∧ ∀ j, 0 ≤ j → j < 4 → M1 146 (M 145 0 + j) = aShr v (24 - 8 * j) % 256 := by
    refine upto 4 (fun i hi M' i0 i1 hI => ?_) (fun i hi ih M' i0 i1 hI => ?_)
    · rw [show i = 4 by omega] at hI ⊢
      exact ⟨M', bl_180_2 ⟨fun _ => rfl, fun q => absurd (by omega) q⟩, hI⟩
    · obtain ⟨a, b, c, d, e⟩ := hI
      obtain ⟨M1, r, y⟩ := ih (aSet (aSet M' 146 (M 145 0 + i) (aShr v (24 - 8 * i) % 256)) 145 0 (M 145 0 + (i + 1))) (by omega) (by omega) ⟨fun x x1 x2 => by rw [aSet_c x1, aSet_c x2]; exact a x x1 x2, fun j hj => by rw [aSet_i hj, aSet_c (by omega)]; exact b j hj, aSet_e, fun p hp => by rw [aSet_c (show (146 : Int) ≠ 145 by omega), aSet_i (by omega)]; exact d p hp, fun j j0 j1 => by
        rw [aSet_c (show (146 : Int) ≠ 145 by omega), aSet_q]
        by_cases q : j = i
        · rw [if_pos (by omega), q]
        · rw [if_neg (by omega)]; exact e j j0 (by omega)⟩
      refine ⟨M1, bl_180_2 ⟨fun q => absurd q (by omega), fun _ => ⟨by omega, ?_⟩⟩, y⟩
      rw [c, aWi (z := 8 * i) (by omega) (by omega), aWi (z := 24 - 8 * i) (by omega) (by omega), and255 aShr_I, aSet_c (show (145 : Int) ≠ 146 by omega), c, aWi (z := M 145 0 + i + 1) (by omega) (by omega), aWi (z := i + 1) (by omega) (by omega), show M 145 0 + i + 1 = M 145 0 + (i + 1) by omega]
      exact r
  obtain ⟨M1, r, y⟩ := key 0 M (by omega) (by omega) ⟨fun _ _ _ => rfl, fun _ _ => rfl, by omega, fun _ _ => rfl, fun j _ _ => by omega⟩
  exact ⟨M1, en_180 r, y⟩
def tR (M : aM) : Prop := (0 ≤ M 1 1 ∧ M 1 1 ≤ 2000) ∧ M 145 0 = M 1 1 ∧ tQ M M (M 1 1)
/-- four bytes more, both sides -/
theorem tQ_4 {C C1 R R1 : aM} {n v : Int} (h : tQ C R n) (c1 : ∀ p, p < n → C1 2 p = C 2 p) (c2 : ∀ j, 0 ≤ j → j < 4 → C1 2 (n + j) = aB8 (aShr v (24 - 8 * j))) (r1 : ∀ p, p < n → R1 146 p = R 146 p) (r2 : ∀ j, 0 ≤ j → j < 4 → R1 146 (n + j) = aShr v (24 - 8 * j) % 256) : tQ C1 R1 (n + 4) := by
  intro k k0 k1
  by_cases q : k < n
  · rw [c1 k q, r1 k q]; exact h k k0 q
  · have a := c2 (k - n) (by omega) (by omega)
    have b := r2 (k - n) (by omega) (by omega)
    rw [show n + (k - n) = k by omega] at a b
    rw [a, b, b8_m]
    exact ⟨by omega, rfl⟩
def feF (M M2 : aM) : Prop := (∀ a, a ≠ 1 → a ≠ 2 → a ≠ 145 → a ≠ 146 → M2 a = M a) ∧ (∀ j, j ≠ 1 → M2 1 j = M 1 j) ∧ ∀ j, j ≠ 0 → M2 145 j = M 145 j
theorem o_feed (h : tR M) {a b c d e : Int} : ∃ v M1 M2, aE 14 [aR 1, aI a, aI b, aI c, aI d, aI e] (SH L) M ([aI v], SH L, M1) ∧ aE 181 [aR 145, aI a, aI b, aI c, aI d, aI e] (SH L) M1 ([aI v], SH L, M2) ∧ tR M2 ∧ feF M M2 := by
  obtain ⟨h0, h1, h2⟩ := h
  by_cases q : M 1 1 ≤ 1980
  · obtain ⟨C1, r1, f1, g1, n1, p1, v1⟩ := s_13 (L := L) (M := M) (v := a) (by omega)
    obtain ⟨C2, r2, f2, g2, n2, p2, v2⟩ := s_13 (L := L) (M := C1) (v := b) (by omega)
    obtain ⟨C3, r3, f3, g3, n3, p3, v3⟩ := s_13 (L := L) (M := C2) (v := c) (by omega)
    obtain ⟨C4, r4, f4, g4, n4, p4, v4⟩ := s_13 (L := L) (M := C3) (v := d) (by omega)
    obtain ⟨C5, r5, f5, g5, n5, p5, v5⟩ := s_13 (L := L) (M := C4) (v := e) (by omega)
    have fC : ∀ x, x ≠ 1 → x ≠ 2 → C5 x = M x := fun x x1 x2 => by rw [f5 x x1 x2, f4 x x1 x2, f3 x x1 x2, f2 x x1 x2, f1 x x1 x2]
    have gC : ∀ j, j ≠ 1 → C5 1 j = M 1 j := fun j hj => by rw [g5 j hj, g4 j hj, g3 j hj, g2 j hj, g1 j hj]
    have e145 : C5 145 = M 145 := fC 145 (by omega) (by omega)
    have e146 : C5 146 = M 146 := fC 146 (by omega) (by omega)
    have m0 : C5 145 0 = M 1 1 := by rw [e145, h1]
    obtain ⟨R1, s1, F1, G1, N1, P1, V1⟩ := s_180 (L := L) (M := C5) (v := a) (by omega)
    obtain ⟨R2, s2, F2, G2, N2, P2, V2⟩ := s_180 (L := L) (M := R1) (v := b) (by omega)
    obtain ⟨R3, s3, F3, G3, N3, P3, V3⟩ := s_180 (L := L) (M := R2) (v := c) (by omega)
    obtain ⟨R4, s4, F4, G4, N4, P4, V4⟩ := s_180 (L := L) (M := R3) (v := d) (by omega)
    obtain ⟨R5, s5, F5, G5, N5, P5, V5⟩ := s_180 (L := L) (M := R4) (v := e) (by omega)
    rw [m0] at N1 P1 V1
    rw [N1] at N2 P2 V2
    rw [N2] at N3 P3 V3
    rw [N3] at N4 P4 V4
    rw [N4] at N5 P5 V5
    rw [n1] at n2 p2 v2
    rw [n2] at n3 p3 v3
    rw [n3] at n4 p4 v4
    rw [n4] at n5 p5 v5
    have t0 : tQ M C5 (M 1 1) := fun k k0 k1 => by rw [e146]; exact h2 k k0 k1
    have t1 := tQ_4 t0 p1 v1 P1 V1
    have t2 := tQ_4 t1 p2 v2 P2 V2
    have t3 := tQ_4 t2 p3 v3 P3 V3
    have t4 := tQ_4 t3 p4 v4 P4 V4
    have t5 := tQ_4 t4 p5 v5 P5 V5
    have FR : ∀ x, x ≠ 145 → x ≠ 146 → R5 x = C5 x := fun x x1 x2 => by rw [F5 x x1 x2, F4 x x1 x2, F3 x x1 x2, F2 x x1 x2, F1 x x1 x2]
    have e1 : R5 1 = C5 1 := FR 1 (by omega) (by omega)
    have e2 : R5 2 = C5 2 := FR 2 (by omega) (by omega)
    refine ⟨C5 1 1, C5, R5, en_14 ⟨fun _ => ⟨C1, r1, C2, r2, C3, r3, C4, r4, C5, r5, rfl⟩, fun z => absurd q z⟩, en_181 ⟨fun _ => ⟨R1, s1, R2, s2, R3, s3, R4, s4, R5, s5, rI (by omega)⟩, fun z => absurd (by rw [m0, aWi (by omega) (by omega)]; omega) z⟩, ⟨by rw [e1]; omega, by rw [e1]; omega, fun k k0 k1 => ?_⟩, fun x x1 x2 x3 x4 => by rw [FR x x3 x4, fC x x1 x2], fun j hj => by rw [e1, gC j hj], fun j hj => by rw [G5 j hj, G4 j hj, G3 j hj, G2 j hj, G1 j hj, e145]⟩
    rw [e1, n5] at k1
    rw [e2]
    exact t5 k k0 k1
  · exact ⟨-1, M, M, en_14 ⟨fun z => absurd z q, fun _ => rfl⟩, en_181 ⟨fun z => absurd z (by rw [h1, aWi (by omega) (by omega)]; omega), fun _ => rfl⟩, ⟨h0, h1, h2⟩, fun _ _ _ _ _ => rfl, fun _ _ => rfl, fun _ _ => rfl⟩
theorem o_bk (h : tR M) {n : Int} (hn : n < 2147483648) : ∃ v M1 M2, aE 15 [aR 1, aI n] (SH L) M ([aI v], SH L, M1) ∧ aE 182 [aR 145, aI n] (SH L) M1 ([aI v], SH L, M2) ∧ tR M2 ∧ feF M M2 := by
  obtain ⟨h0, h1, h2⟩ := h
  by_cases c0 : n < 0
  · exact ⟨-1, M, M, en_15 ⟨fun _ => rfl, fun z => absurd c0 z⟩, en_182 ⟨fun _ => rfl, fun z => absurd c0 z⟩, ⟨h0, h1, h2⟩, fun _ _ _ _ _ => rfl, fun _ _ => rfl, fun _ _ => rfl⟩
  by_cases c1 : n ≤ M 1 1
  · have e : aW (M 1 1 - n) = M 1 1 - n := aWi (by omega) (by omega)
    have e1 : (aSet M 1 1 (M 1 1 - n)) 145 0 = M 1 1 := by rw [aSet_c (by omega), h1]
    refine ⟨M 1 1 - n, aSet M 1 1 (M 1 1 - n), aSet (aSet M 1 1 (M 1 1 - n)) 145 0 (M 1 1 - n), en_15 ⟨fun z => absurd z c0, fun _ => ⟨fun _ => by rw [e, aSet_e], fun z => absurd c1 z⟩⟩, en_182 ⟨fun z => absurd z c0, fun _ => ⟨fun _ => by rw [e1, e, aSet_e], fun z => absurd (by rw [e1]; exact c1) z⟩⟩, ⟨?_, ?_, ?_⟩, fun x x1 x2 x3 x4 => by rw [aSet_c x3, aSet_c x1], fun j hj => by rw [aSet_c (by omega), aSet_i hj], fun j hj => by rw [aSet_i hj, aSet_c (by omega)]⟩
    · rw [aSet_c (show (1 : Int) ≠ 145 by omega), aSet_e]; omega
    · rw [aSet_e, aSet_c (show (1 : Int) ≠ 145 by omega), aSet_e]
    · intro k k0 k1
      rw [aSet_c (show (1 : Int) ≠ 145 by omega), aSet_e] at k1
      rw [aSet_c (show (146 : Int) ≠ 145 by omega), aSet_c (show (146 : Int) ≠ 1 by omega), aSet_c (show (2 : Int) ≠ 145 by omega), aSet_c (show (2 : Int) ≠ 1 by omega)]
      exact h2 k k0 (by omega)
  · exact ⟨-1, M, M, en_15 ⟨fun z => absurd z c0, fun _ => ⟨fun z => absurd z c1, fun _ => rfl⟩⟩, en_182 ⟨fun z => absurd z c0, fun _ => ⟨fun z => absurd z (by omega), fun _ => rfl⟩⟩, ⟨h0, h1, h2⟩, fun _ _ _ _ _ => rfl, fun _ _ => rfl, fun _ _ => rfl⟩
theorem lsl_5 {s i : Int} (hi : 0 ≤ i) (hi2 : i < 64) : lb (aLsl s 5) i = (decide (5 ≤ i) && lb s (i - 5)) := by
  unfold lb aLsl
  rw [o_backL, show ((Int32.ofInt 5).toInt64 &&& 63) = (5 : Int64) by decide]
  show ((Int64.ofInt s <<< (5 : Int64)).toBitVec).getLsbD i.toNat = _
  rw [Int64.toBitVec_shiftLeft]
  show ((Int64.ofInt s).toBitVec <<< ((5 : Int64).toBitVec.smod 64)).getLsbD i.toNat = _
  rw [show ((5 : Int64).toBitVec.smod 64) = 5#64 by decide, BitVec.shiftLeft_eq', BitVec.getLsbD_shiftLeft]
  rw [show (5#64).toNat = 5 by decide, decide_eq_true (show i.toNat < 64 by omega), Bool.true_and]
  by_cases c : 5 ≤ i
  · rw [decide_eq_true c, decide_eq_false (show ¬ i.toNat < 5 by omega), show i.toNat - 5 = (i - 5).toNat by omega]
    rfl
  · rw [decide_eq_false c, decide_eq_true (show i.toNat < 5 by omega)]
    rfl
theorem lor5 {v c : Int} (v0 : 0 ≤ v) (v1 : v < 36028797018963968) (c0 : 0 ≤ c) (c1 : c < 32) : aLor (aLsl v 5) c = 32 * v + c := by
  obtain ⟨m, rfl⟩ : ∃ m : Nat, v = (m : Int) := ⟨v.toNat, by omega⟩
  obtain ⟨k, rfl⟩ : ∃ k : Nat, c = (k : Int) := ⟨c.toNat, by omega⟩
  refine lb_ext xL_or (show xL _ from ⟨by omega, by omega⟩) (fun i i0 i1 => ?_)
  rw [lb_or, lsl_5 i0 i1, show 32 * (m : Int) + k = ((2 ^ 5 * m + k : Nat) : Int) by omega, lb_nat i1, lb_nat i1, Nat.testBit_two_pow_mul_add m (by omega : k < 2 ^ 5)]
  by_cases q : 5 ≤ i
  · rw [decide_eq_true q, if_neg (by omega), Bool.true_and, lb_nat (by omega), show (i - 5).toNat = i.toNat - 5 by omega]
    have : k.testBit i.toNat = false := Nat.testBit_lt_two_pow (Nat.lt_of_lt_of_le (show k < 2 ^ 5 by omega) (pow_le (by omega)))
    rw [this, Bool.or_false]
  · rw [decide_eq_false q, if_pos (by omega), Bool.false_and, Bool.false_or]
end TAPE1
