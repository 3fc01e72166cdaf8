/-! Long.bitCount counts the bits -/
section POP2
variable {L : Nat} {M : aM}
def uN (z : Int) : Nat := (Int64.ofInt z).toBitVec.toNat
theorem uN_e (z : Int) : (uN z : Int) = z % 18446744073709551616 := by
  show (((BitVec.ofInt 64 z).toNat : Nat) : Int) = _
  rw [BitVec.toNat_ofInt]
  omega
theorem uN_lt (z : Int) : uN z < 18446744073709551616 := by have := uN_e z; omega
theorem uN_w (z : Int) : uN (aWL z) = uN z := by unfold uN; rw [o_wl]
theorem uN_sub {a b : Int} (h : uN b ≤ uN a) : uN (aWL (a - b)) = uN a - uN b := by
  rw [uN_w]
  have h1 := uN_e a
  have h2 := uN_e b
  have h3 := uN_e (a - b)
  omega
theorem uN_add {a b : Int} (h : uN a + uN b < 18446744073709551616) : uN (aWL (a + b)) = uN a + uN b := by
  rw [uN_w]
  have h1 := uN_e a
  have h2 := uN_e b
  have h3 := uN_e (a + b)
  omega
theorem uN_and (a b : Int) : uN (aLand a b) = uN a &&& uN b := by
  unfold uN aLand
  rw [o_backL, Int64.toBitVec_and, BitVec.toNat_and]
theorem uN_lus {s b : Int} (hb : 0 ≤ b) (hb2 : b < 64) : uN (aLus s b) = uN s / 2 ^ b.toNat := by
  have key : ∀ k : Nat, k < 64 → ((Int32.ofInt (k : Int)).toInt64.toUInt64 &&& Int64.toUInt64 63) = UInt64.ofNat k := by decide +kernel
  have e := key b.toNat (by omega)
  rw [Int.toNat_of_nonneg hb] at e
  unfold uN aLus
  rw [o_backL, e]
  show (((Int64.ofInt s).toUInt64 >>> UInt64.ofNat b.toNat).toBitVec).toNat = _
  rw [UInt64.toBitVec_shiftRight, BitVec.ushiftRight_eq', BitVec.toNat_ushiftRight, Nat.shiftRight_eq_div_pow]
  have e2 : ((UInt64.ofNat b.toNat).toBitVec % 64#64).toNat = b.toNat := by
    rw [BitVec.toNat_umod]
    simp [UInt64.toBitVec_ofNat']
    omega
  show (Int64.ofInt s).toBitVec.toNat / 2 ^ (((UInt64.ofNat b.toNat).toBitVec % 64#64).toNat) = _
  rw [e2]
theorem and127 {z : Int} : aAnd (aW z) 127 = ((uN z % 128 : Nat) : Int) := by
  unfold aAnd
  rw [o_w]
  have h : (Int32.ofInt z &&& Int32.ofInt 127).toBitVec.toNat = uN z % 128 := by
    rw [Int32.toBitVec_and, BitVec.toNat_and]
    show (BitVec.ofInt 32 z).toNat &&& (BitVec.ofInt 32 127).toNat = _
    rw [show (BitVec.ofInt 32 127).toNat = 2 ^ 7 - 1 by decide, Nat.and_two_pow_sub_one_eq_mod, BitVec.toNat_ofInt]
    have := uN_e z
    omega
  show (Int32.ofInt z &&& Int32.ofInt 127).toBitVec.toInt = _
  rw [BitVec.toInt_eq_toNat_of_lt (by rw [h]; omega), h]
theorem sum16 {y0 y1 y2 y3 y4 y5 y6 y7 y8 y9 y10 y11 y12 y13 y14 y15 : Nat} : (y0 + y1) + (y2 + y3) + (y4 + y5) + (y6 + y7) + (y8 + y9) + (y10 + y11) + (y12 + y13) + (y14 + y15) = y0 + (y1 + (y2 + (y3 + (y4 + (y5 + (y6 + (y7 + (y8 + (y9 + (y10 + (y11 + (y12 + (y13 + (y14 + (y15 + 0))))))))))))))) := by
  simp only [Nat.add_assoc, Nat.add_zero]
theorem pcG {y0 y1 y2 y3 y4 y5 y6 y7 y8 y9 y10 y11 y12 y13 y14 y15 : Nat} (h0 : y0 ≤ 4) (h1 : y1 ≤ 4) (h2 : y2 ≤ 4) (h3 : y3 ≤ 4) (h4 : y4 ≤ 4) (h5 : y5 ≤ 4) (h6 : y6 ≤ 4) (h7 : y7 ≤ 4) (h8 : y8 ≤ 4) (h9 : y9 ≤ 4) (h10 : y10 ≤ 4) (h11 : y11 ≤ 4) (h12 : y12 ≤ 4) (h13 : y13 ≤ 4) (h14 : y14 ≤ 4) (h15 : y15 ≤ 4) : ∀ v3 v4 v5 : Nat, v3 = hG [y0, y1, y2, y3, y4, y5, y6, y7, y8, y9, y10, y11, y12, y13, y14, y15] → v4 = v3 + v3 / 256 → v5 = v4 + v4 / 65536 →
    (v5 + v5 / 4294967296) % 128 = hS [y0, y1, y2, y3, y4, y5, y6, y7, y8, y9, y10, y11, y12, y13, y14, y15] ∧ v4 < 18446744073709551616 ∧ v5 < 18446744073709551616 ∧ v5 + v5 / 4294967296 < 18446744073709551616 := by
  intro v3 v4 v5 e3 e4 e5
  have z := hG_sum (y0 + y1) (y2 + y3) (y4 + y5) (y6 + y7) (y8 + y9) (y10 + y11) (y12 + y13) (y14 + y15) (Nat.add_le_add h0 h1) (Nat.add_le_add h2 h3) (Nat.add_le_add h4 h5) (Nat.add_le_add h6 h7) (Nat.add_le_add h8 h9) (Nat.add_le_add h10 h11) (Nat.add_le_add h12 h13) (Nat.add_le_add h14 h15) v3 v4 v5 (e3.trans (by simp only [hG, Nat.mul_zero, Nat.add_zero])) e4 e5
  exact ⟨z.1.trans sum16, z.2⟩
theorem hH_3 : ∀ l : List Nat, (∀ d ∈ l, d ≤ 4) → 3 * hH l + 1 ≤ 16 ^ l.length
  | [], _ => by decide
  | d :: l, h => by
    have ih := hH_3 l (fun e he => h e (List.mem_cons_of_mem _ he))
    have hd := h d List.mem_cons_self
    show 3 * (d + 16 * hH l) + 1 ≤ 16 ^ (l.length + 1)
    rw [Nat.pow_succ]
    omega
theorem pc16 {l : List Nat} (hl : ∀ d ∈ l, d < 16) {x0 x1 x2 x3 x4 x5 x6 x7 x8 x9 x10 x11 x12 x13 x14 x15 : Nat} (e : l = [x0, x1, x2, x3, x4, x5, x6, x7, x8, x9, x10, x11, x12, x13, x14, x15]) (u : Nat) (hu : u = hH l) :
    ∃ v1 v2 v3 v4 v5 : Nat, ((u / 2) &&& 6148914691236517205) ≤ u ∧ v1 = u - ((u / 2) &&& 6148914691236517205) ∧ v2 = (v1 &&& 3689348814741910323) + ((v1 / 4) &&& 3689348814741910323) ∧ 3 * v2 + 1 ≤ 18446744073709551616 ∧ v3 = (v2 + v2 / 16) &&& 1085102592571150095 ∧ v4 = v3 + v3 / 256 ∧ v5 = v4 + v4 / 65536 ∧
    v4 < 18446744073709551616 ∧ v5 < 18446744073709551616 ∧ v5 + v5 / 4294967296 < 18446744073709551616 ∧ (v5 + v5 / 4294967296) % 128 = cB u 64 := by
  have n16 : l.length = 16 := by rw [e]; rfl
  have c5 : hH (List.replicate l.length 5) = 6148914691236517205 := by rw [n16]; decide
  have q1 := pp1 l hl
  rw [c5, ← hu] at q1
  have hl1 : ∀ d ∈ l.map (fun d => d - ((d / 2) &&& 5)), d < 16 := by
    intro d hd
    obtain ⟨x, hx, rfl⟩ := List.mem_map.mp hd
    exact m1_lt x (hl x hx)
  have q2 := pp2 (l.map (fun d => d - ((d / 2) &&& 5))) hl1
  rw [List.length_map, n16, show hH (List.replicate 16 3) = 3689348814741910323 by decide, List.map_map] at q2
  have e4 : l.map ((fun d => (d &&& 3) + ((d / 4) &&& 3)) ∘ (fun d => d - ((d / 2) &&& 5))) = l.map p4 := by
    apply List.map_congr_left
    intro d hd
    exact p4_ok d (hl d hd)
  rw [e4] at q2
  have hl2 : ∀ d ∈ l.map p4, d ≤ 4 := by
    intro d hd
    obtain ⟨x, hx, rfl⟩ := List.mem_map.mp hd
    exact p4_le x (hl x hx)
  have q3 := pp3 (l.map p4) (by rw [List.length_map, n16]) hl2
  have cm : hM (l.map p4) = 1085102592571150095 := by
    rw [e]
    show (15 + 256 * (15 + 256 * (15 + 256 * (15 + 256 * (15 + 256 * (15 + 256 * (15 + 256 * (15 + 256 * 0))))))) : Nat) = 1085102592571150095
    decide +kernel
  rw [cm] at q3
  have q5 := cB_H l hl
  rw [n16, ← hu] at q5
  have hh := hH_3 (l.map p4) hl2
  rw [List.length_map, n16, show (16 : Nat) ^ 16 = 18446744073709551616 by decide] at hh
  have g : hG (l.map p4) = hG [p4 x0, p4 x1, p4 x2, p4 x3, p4 x4, p4 x5, p4 x6, p4 x7, p4 x8, p4 x9, p4 x10, p4 x11, p4 x12, p4 x13, p4 x14, p4 x15] := by rw [e]; rfl
  have s : hS (l.map p4) = hS [p4 x0, p4 x1, p4 x2, p4 x3, p4 x4, p4 x5, p4 x6, p4 x7, p4 x8, p4 x9, p4 x10, p4 x11, p4 x12, p4 x13, p4 x14, p4 x15] := by rw [e]; rfl
  have a : ∀ x ∈ l, p4 x ≤ 4 := fun x hx => p4_le x (hl x hx)
  rw [e] at a
  simp only [List.mem_cons, List.not_mem_nil, or_false, forall_eq_or_imp, forall_eq] at a
  obtain ⟨a0, a1, a2, a3, a4, a5, a6, a7, a8, a9, a10, a11, a12, a13, a14, a15⟩ := a
  have z := pcG a0 a1 a2 a3 a4 a5 a6 a7 a8 a9 a10 a11 a12 a13 a14 a15 (hG (l.map p4)) _ _ g rfl rfl
  rw [← s, ← q5] at z
  exact ⟨_, _, _, _, _, q1.2, q1.1.symm, q2.symm, hh, q3.symm, rfl, rfl, z.2.1, z.2.2.1, z.2.2.2, z.1⟩
theorem cB_sum (u : Nat) : ∀ (n k : Nat), sumN (fun i => bi (u.testBit i.toNat)) (k : Int) n = (cB (u / 2 ^ k) n : Int)
  | 0, _ => rfl
  | n + 1, k => by
    show bi (u.testBit (k : Int).toNat) + sumN _ ((k : Int) + 1) n = ((u / 2 ^ k % 2 + cB (u / 2 ^ k / 2) n : Nat) : Int)
    have ih := cB_sum u n (k + 1)
    rw [show ((k + 1 : Nat) : Int) = (k : Int) + 1 by omega] at ih
    rw [ih, Nat.pow_succ, ← Nat.div_div_eq_div_mul, Int.toNat_natCast, Nat.testBit_eq_decide_div_mod_eq]
    have : bi (decide (u / 2 ^ k % 2 = 1)) = ((u / 2 ^ k % 2 : Nat) : Int) := by
      by_cases c : u / 2 ^ k % 2 = 1
      · rw [bip c]; omega
      · rw [bin c]; omega
    rw [this]
    omega
theorem lb_uN {s i : Int} : lb s i = (uN s).testBit i.toNat := rfl
theorem s_86 {s : Int} : aE 86 [aJ s] (SH L) M ([aI (sumI (fun i => bi (lb s i)) 0 64)], SH L, M) := by
  apply en_86
  refine rI ?_
  have ed : dig (uN s) 16 = [_, _, _, _, _, _, _, _, _, _, _, _, _, _, _, _] := rfl
  obtain ⟨v1, v2, v3, v4, v5, h1, e1, e2, h2, e3, e4, e5, h4, h5, h6, h7⟩ := pc16 (dig_lt 16 (uN s)) ed (uN s) (dig_H 16 (uN s) (by have := uN_lt s; omega)).symm
  have k5 : uN 6148914691236517205 = 6148914691236517205 := by decide
  have k3 : uN 3689348814741910323 = 3689348814741910323 := by decide
  have k1 : uN 1085102592571150095 = 1085102592571150095 := by decide
  have a1 : uN (aWL (s - aLand (aLus s 1) 6148914691236517205)) = v1 := by
    have e : uN (aLand (aLus s 1) 6148914691236517205) = (uN s / 2) &&& 6148914691236517205 := by
      rw [uN_and, uN_lus (by omega) (by omega), k5]; rfl
    rw [uN_sub (by rw [e]; exact h1), e, e1]
  generalize aWL (s - aLand (aLus s 1) 6148914691236517205) = z1 at a1 ⊢
  have a2 : uN (aWL (aLand z1 3689348814741910323 + aLand (aLus z1 2) 3689348814741910323)) = v2 := by
    have e : uN (aLand z1 3689348814741910323) = v1 &&& 3689348814741910323 := by rw [uN_and, a1, k3]
    have e' : uN (aLand (aLus z1 2) 3689348814741910323) = (v1 / 4) &&& 3689348814741910323 := by
      rw [uN_and, uN_lus (by omega) (by omega), k3, a1]; rfl
    rw [uN_add (by rw [e, e', ← e2]; omega), e, e', e2]
  generalize aWL (aLand z1 3689348814741910323 + aLand (aLus z1 2) 3689348814741910323) = z2 at a2 ⊢
  have a3 : uN (aLand (aWL (z2 + aLus z2 4)) 1085102592571150095) = v3 := by
    have e : uN (aLus z2 4) = v2 / 16 := by rw [uN_lus (by omega) (by omega), a2]; rfl
    rw [uN_and, uN_add (by rw [e, a2]; omega), e, a2, k1, e3]
  generalize aLand (aWL (z2 + aLus z2 4)) 1085102592571150095 = z3 at a3 ⊢
  have a4 : uN (aWL (z3 + aLus z3 8)) = v4 := by
    have e : uN (aLus z3 8) = v3 / 256 := by rw [uN_lus (by omega) (by omega), a3]; rfl
    rw [uN_add (by rw [e, a3, ← e4]; exact h4), e, a3, e4]
  generalize aWL (z3 + aLus z3 8) = z4 at a4 ⊢
  have a5 : uN (aWL (z4 + aLus z4 16)) = v5 := by
    have e : uN (aLus z4 16) = v4 / 65536 := by rw [uN_lus (by omega) (by omega), a4]; rfl
    rw [uN_add (by rw [e, a4, ← e5]; exact h5), e, a4, e5]
  generalize aWL (z4 + aLus z4 16) = z5 at a5 ⊢
  have a6 : uN (aWL (z5 + aLus z5 32)) = v5 + v5 / 4294967296 := by
    have e : uN (aLus z5 32) = v5 / 4294967296 := by rw [uN_lus (by omega) (by omega), a5]; rfl
    rw [uN_add (by rw [e, a5]; exact h6), e, a5]
  rw [and127, a6, h7]
  have := cB_sum (uN s) 64 0
  rw [Nat.pow_zero, Nat.div_one] at this
  exact this
end POP2
