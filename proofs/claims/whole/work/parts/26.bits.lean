/-! sets of bits in a long -/
section BITS
variable {L : Nat} {M : aM}
def lb (s i : Int) : Bool := (Int64.ofInt s).toBitVec.getLsbD i.toNat
theorem lb_or {s t i : Int} : lb (aLor s t) i = (lb s i || lb t i) := by
  unfold lb aLor
  rw [o_backL, Int64.toBitVec_or, BitVec.getLsbD_or]
theorem lb_and {s t i : Int} : lb (aLand s t) i = (lb s i && lb t i) := by
  unfold lb aLand
  rw [o_backL, Int64.toBitVec_and, BitVec.getLsbD_and]
theorem lb_not {s i : Int} (h2 : i < 64) : lb (aLxor s (-1)) i = !lb s i := by
  unfold lb aLxor
  rw [o_backL, Int64.toBitVec_xor, BitVec.getLsbD_xor, show (Int64.ofInt (-1)).toBitVec = BitVec.allOnes 64 by decide, BitVec.getLsbD_allOnes, decide_eq_true (by omega)]
  simp
theorem lb_far {s i : Int} (h : 64 ≤ i) : lb s i = false := by
  unfold lb
  exact BitVec.getLsbD_of_ge _ _ (by omega)
theorem lb_ext {s t : Int} (hs : xL s) (ht : xL t) (h : ∀ i, 0 ≤ i → i < 64 → lb s i = lb t i) : s = t := by
  rw [← xL_of hs, ← xL_of ht]
  have : Int64.ofInt s = Int64.ofInt t := by
    apply Int64.toBitVec_inj.mp
    apply BitVec.eq_of_getLsbD_eq
    intro k hk
    have := h (k : Int) (by omega) (by omega)
    unfold lb at this
    simpa using this
  rw [this]
theorem lb_nat {k : Nat} {i : Int} (hi : i < 64) : lb (k : Int) i = k.testBit i.toNat := by
  unfold lb
  rw [show (Int64.ofInt (k : Int)).toBitVec = BitVec.ofNat 64 k from BitVec.ofInt_natCast 64 k, BitVec.getLsbD_ofNat, decide_eq_true (show i.toNat < 64 by omega), Bool.true_and]
theorem lb_0 {i : Int} : lb 0 i = false := by
  by_cases h : i < 64
  · have := lb_nat (k := 0) h
    rw [Nat.zero_testBit] at this
    exact this
  · exact lb_far (by omega)
theorem lsl1 {b : Int} (h : 0 ≤ b) (h2 : b < 63) : aLsl 1 b = ((2 ^ b.toNat : Nat) : Int) := by
  have key : ∀ k : Nat, k < 63 → aLsl 1 (k : Int) = ((2 ^ k : Nat) : Int) := by decide +kernel
  have := key b.toNat (by omega)
  rw [Int.toNat_of_nonneg h] at this
  exact this
theorem lb_one {b i : Int} (h : 0 ≤ b) (h2 : b < 63) (hi : 0 ≤ i) (hi2 : i < 64) : lb (aLsl 1 b) i = decide (i = b) := by
  rw [lsl1 h h2, lb_nat hi2, Nat.testBit_two_pow]
  apply decide_eq_decide.mpr
  omega
theorem pow_le {a b : Nat} (h : a ≤ b) : (2 : Nat) ^ a ≤ 2 ^ b := Nat.pow_le_pow_right (by omega) h
theorem all_v {n : Int} (h : 0 ≤ n) (h2 : n < 63) : aWL (aLsl 1 n - 1) = ((2 ^ n.toNat - 1 : Nat) : Int) := by
  rw [lsl1 h h2]
  have h3 := pow_le (a := n.toNat) (b := 62) (by omega)
  have h4 := pow_le (a := 0) (b := n.toNat) (by omega)
  rw [show ((2 ^ n.toNat : Nat) : Int) - 1 = ((2 ^ n.toNat - 1 : Nat) : Int) by omega]
  exact aWLi (by omega) (by omega)
theorem lb_all {n i : Int} (h : 0 ≤ n) (h2 : n < 63) (hi : 0 ≤ i) (hi2 : i < 64) : lb (aWL (aLsl 1 n - 1)) i = decide (i < n) := by
  rw [all_v h h2, lb_nat hi2, Nat.testBit_two_pow_sub_one]
  apply decide_eq_decide.mpr
  omega
theorem span_v {f t : Int} (h : 0 ≤ f) (h1 : f < t) (h2 : t < 63) : aWL (aLsl 1 t - aLsl 1 f) = (((2 ^ (t.toNat - f.toNat) - 1) * 2 ^ f.toNat : Nat) : Int) := by
  rw [lsl1 h (by omega), lsl1 (by omega) h2]
  have h3 := pow_le (a := t.toNat) (b := 62) (by omega)
  have h4 := pow_le (a := f.toNat) (b := t.toNat) (by omega)
  have e : (2 ^ (t.toNat - f.toNat) - 1) * 2 ^ f.toNat = 2 ^ t.toNat - 2 ^ f.toNat := by
    rw [Nat.sub_mul, Nat.one_mul, ← Nat.pow_add]
    congr 2
    omega
  rw [e]
  have h5 : (2 : Nat) ^ 62 = 4611686018427387904 := by decide
  rw [h5] at h3
  generalize 2 ^ t.toNat = T at h3 h4 ⊢
  generalize 2 ^ f.toNat = F at h4 ⊢
  rw [show (T : Int) - (F : Int) = ((T - F : Nat) : Int) by omega]
  exact aWLi (by omega) (by omega)
theorem lb_span {f t i : Int} (h : 0 ≤ f) (h1 : f < t) (h2 : t < 63) (hi : 0 ≤ i) (hi2 : i < 64) : lb (aWL (aLsl 1 t - aLsl 1 f)) i = decide (f ≤ i ∧ i < t) := by
  rw [span_v h h1 h2, lb_nat hi2, Nat.testBit_mul_two_pow, Nat.testBit_two_pow_sub_one, ← Bool.decide_and]
  apply decide_eq_decide.mpr
  omega
theorem lb_lus {s b i : Int} (hb : 0 ≤ b) (hb2 : b < 64) (hi : 0 ≤ i) : lb (aLus s b) i = lb s (i + b) := by
  have key : ∀ k : Nat, k < 64 → ((Int32.ofInt (k : Int)).toInt64.toUInt64 &&& Int64.toUInt64 63) = UInt64.ofNat k := by decide +kernel
  have e := key b.toNat (by omega)
  rw [Int.toNat_of_nonneg hb] at e
  unfold lb aLus
  rw [o_backL, e]
  show (((Int64.ofInt s).toUInt64 >>> UInt64.ofNat b.toNat).toBitVec).getLsbD i.toNat = _
  rw [UInt64.toBitVec_shiftRight, BitVec.ushiftRight_eq', BitVec.getLsbD_ushiftRight]
  have e2 : ((UInt64.ofNat b.toNat).toBitVec % 64#64).toNat = b.toNat := by
    rw [BitVec.toNat_umod]
    simp [UInt64.toBitVec_ofNat']
    omega
  have e3 : (i + b).toNat = b.toNat + i.toNat := by omega
  rw [e3]
  show (Int64.ofInt s).toBitVec.getLsbD (((UInt64.ofNat b.toNat).toBitVec % 64#64).toNat + i.toNat) = _
  rw [e2]
theorem land1 {z : Int} : aLand z 1 = bi (lb z 0) := by
  have hb := bi_le (lb z 0)
  refine lb_ext ?_ ⟨by omega, by omega⟩ (fun i hi hi2 => ?_)
  · exact xL_toInt _
  · rw [lb_and]
    by_cases e : i = 0
    · subst e
      cases h : lb z 0
      · rfl
      · rfl
    · have h1 : lb 1 i = false := by
        have := lb_nat (k := 1) hi2
        rw [show ((1 : Nat) : Int) = 1 from rfl] at this
        rw [this, show (1 : Nat) = 2 ^ 0 from rfl, Nat.testBit_two_pow]
        exact decide_eq_false (by omega)
      rw [h1, Bool.and_false]
      cases lb z 0
      · exact lb_0.symm
      · exact h1.symm
theorem s_84 {s b : Int} (hb : 0 ≤ b) (hb2 : b < 64) : aE 84 [aJ s, aI b] (SH L) M ([aI (bi (lb s b))], SH L, M) := by
  apply en_84
  refine rI ?_
  have h := bi_le (lb (aLus s b) 0)
  rw [land1, aWi (by omega) (by omega), lb_lus hb hb2 (by omega), Int.zero_add]
def spn (f t : Int) : Int := if f < 0 ∨ 60 < t ∨ t ≤ f then 0 else aWL (aLsl 1 t - aLsl 1 f)
theorem s_37 {f t : Int} : aE 37 [aI f, aI t] (SH L) M ([aJ (spn f t)], SH L, M) := by
  apply en_37
  unfold spn
  repeat' (first | apply And.intro | intro _)
  all_goals (refine rJ ?_; first | rw [if_pos (by omega)] | rw [if_neg (by omega)])
theorem lb_spn {f t i : Int} (hi : 0 ≤ i) (hi2 : i < 64) : lb (spn f t) i = decide (0 ≤ f ∧ t ≤ 60 ∧ f ≤ i ∧ i < t) := by
  unfold spn
  split
  · rw [lb_0]
    exact (decide_eq_false (by omega)).symm
  · rw [lb_span (by omega) (by omega) (by omega) hi hi2]
    apply decide_eq_decide.mpr
    omega
theorem xL_or {s t : Int} : xL (aLor s t) := xL_toInt _
theorem xL_and {s t : Int} : xL (aLand s t) := xL_toInt _
theorem xL_xor {s t : Int} : xL (aLxor s t) := xL_toInt _
end BITS
