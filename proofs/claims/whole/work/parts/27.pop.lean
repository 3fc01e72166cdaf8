/-! how many bits a long has -/
section POP
variable {L : Nat} {M : aM}
def hH : List Nat → Nat
  | [] => 0
  | d :: l => d + 16 * hH l
def hG : List Nat → Nat
  | a :: b :: l => (a + b) + 256 * hG l
  | _ => 0
def hS : List Nat → Nat
  | [] => 0
  | d :: l => d + hS l
def p4 (d : Nat) : Nat := d % 2 + d / 2 % 2 + d / 4 % 2 + d / 8 % 2
theorem and_w (w : Nat) {a m x y : Nat} (ha : a < 2 ^ w) (hm : m < 2 ^ w) : (a + 2 ^ w * x) &&& (m + 2 ^ w * y) = (a &&& m) + 2 ^ w * (x &&& y) := by
  apply Nat.eq_of_testBit_eq
  intro i
  have hb : a &&& m < 2 ^ w := Nat.lt_of_le_of_lt Nat.and_le_left ha
  rw [Nat.testBit_and, Nat.add_comm a, Nat.add_comm m, Nat.add_comm (a &&& m), Nat.testBit_two_pow_mul_add _ ha, Nat.testBit_two_pow_mul_add _ hm, Nat.testBit_two_pow_mul_add _ hb]
  split
  · rw [Nat.testBit_and]
  · rw [Nat.testBit_and]
theorem and_16 {a m x y : Nat} (ha : a < 16) (hm : m < 16) : (a + 16 * x) &&& (m + 16 * y) = (a &&& m) + 16 * (x &&& y) := and_w 4 ha hm
theorem and_256 {a m x y : Nat} (ha : a < 256) (hm : m < 256) : (a + 256 * x) &&& (m + 256 * y) = (a &&& m) + 256 * (x &&& y) := and_w 8 ha hm
theorem pp1 : ∀ (l : List Nat), (∀ d ∈ l, d < 16) → hH l - ((hH l / 2) &&& hH (List.replicate l.length 5)) = hH (l.map (fun d => d - ((d / 2) &&& 5))) ∧ ((hH l / 2) &&& hH (List.replicate l.length 5)) ≤ hH l
  | [], _ => ⟨rfl, Nat.le_refl _⟩
  | d :: l, h => by
    have ih := pp1 l (fun e he => h e (List.mem_cons_of_mem _ he))
    have hd := h d List.mem_cons_self
    have e1 : hH (d :: l) / 2 = (d / 2 + 8 * (hH l % 2)) + 16 * (hH l / 2) := by
      show (d + 16 * hH l) / 2 = _
      omega
    have e2 : (d / 2 + 8 * (hH l % 2)) &&& 5 = (d / 2) &&& 5 := by
      have key : ∀ d, d < 16 → ∀ b, b < 2 → (d / 2 + 8 * b) &&& 5 = (d / 2) &&& 5 := by decide
      exact key d hd _ (by omega)
    have e3 : (hH (d :: l) / 2) &&& hH (List.replicate (d :: l).length 5) = ((d / 2) &&& 5) + 16 * ((hH l / 2) &&& hH (List.replicate l.length 5)) := by
      rw [e1]
      show _ &&& (5 + 16 * hH (List.replicate l.length 5)) = _
      rw [and_16 (by omega) (by omega), e2]
    have e4 : (d / 2) &&& 5 ≤ d := Nat.le_trans Nat.and_le_left (by omega)
    rw [e3]
    show d + 16 * hH l - _ = (d - ((d / 2) &&& 5)) + 16 * hH (l.map _) ∧ _ ≤ d + 16 * hH l
    have h1 := ih.1
    have h2 := ih.2
    omega
theorem pp2 : ∀ (l : List Nat), (∀ d ∈ l, d < 16) → (hH l &&& hH (List.replicate l.length 3)) + ((hH l / 4) &&& hH (List.replicate l.length 3)) = hH (l.map (fun d => (d &&& 3) + ((d / 4) &&& 3)))
  | [], _ => rfl
  | d :: l, h => by
    have ih := pp2 l (fun e he => h e (List.mem_cons_of_mem _ he))
    have hd := h d List.mem_cons_self
    have e1 : hH (d :: l) / 4 = (d / 4 + 4 * (hH l % 4)) + 16 * (hH l / 4) := by
      show (d + 16 * hH l) / 4 = _
      omega
    have e2 : (d / 4 + 4 * (hH l % 4)) &&& 3 = (d / 4) &&& 3 := by
      have key : ∀ d, d < 16 → ∀ b, b < 4 → (d / 4 + 4 * b) &&& 3 = (d / 4) &&& 3 := by decide
      exact key d hd _ (by omega)
    have e3 : (hH (d :: l) / 4) &&& hH (List.replicate (d :: l).length 3) = ((d / 4) &&& 3) + 16 * ((hH l / 4) &&& hH (List.replicate l.length 3)) := by
      rw [e1]
      show _ &&& (3 + 16 * hH (List.replicate l.length 3)) = _
      rw [and_16 (by omega) (by omega), e2]
    have e5 : hH (d :: l) &&& hH (List.replicate (d :: l).length 3) = (d &&& 3) + 16 * (hH l &&& hH (List.replicate l.length 3)) := by
      show (d + 16 * hH l) &&& (3 + 16 * hH (List.replicate l.length 3)) = _
      rw [and_16 hd (by omega)]
    rw [e3, e5]
    show _ = ((d &&& 3) + ((d / 4) &&& 3)) + 16 * hH (l.map _)
    omega
def hM : List Nat → Nat
  | _ :: _ :: l => 15 + 256 * hM l
  | _ => 0
theorem hH_mod : ∀ (l : List Nat), (∀ d ∈ l, d ≤ 4) → hH l % 16 ≤ 4
  | [], _ => by decide
  | d :: l, h => by
    have := h d List.mem_cons_self
    show (d + 16 * hH l) % 16 ≤ 4
    omega
theorem pp3 : ∀ (l : List Nat), l.length % 2 = 0 → (∀ d ∈ l, d ≤ 4) → (hH l + hH l / 16) &&& hM l = hG l
  | [], _, _ => rfl
  | [_], h, _ => by simp at h
  | a :: b :: l, h, hd => by
    have ih := pp3 l (by simp only [List.length_cons] at h; omega) (fun e he => hd e (List.mem_cons_of_mem _ (List.mem_cons_of_mem _ he)))
    have ha := hd a List.mem_cons_self
    have hb := hd b (List.mem_cons_of_mem _ List.mem_cons_self)
    have hx := hH_mod l (fun e he => hd e (List.mem_cons_of_mem _ (List.mem_cons_of_mem _ he)))
    have e : hH (a :: b :: l) + hH (a :: b :: l) / 16 = ((a + b) + 16 * (b + hH l % 16)) + 256 * (hH l + hH l / 16) := by
      show (a + 16 * (b + 16 * hH l)) + (a + 16 * (b + 16 * hH l)) / 16 = _
      omega
    rw [e]
    show _ &&& (15 + 256 * hM l) = (a + b) + 256 * hG l
    rw [and_256 (by omega) (by omega), ih]
    have key : ∀ x, x < 9 → ∀ c, c < 9 → (x + 16 * c) &&& 15 = x := by decide
    rw [key (a + b) (by omega) (b + hH l % 16) (by omega)]
def cB (u : Nat) : Nat → Nat
  | 0 => 0
  | n + 1 => u % 2 + cB (u / 2) n
theorem cB_4 {d x n : Nat} (hd : d < 16) : cB (d + 16 * x) (n + 4) = p4 d + cB x n := by
  show (d + 16 * x) % 2 + ((d + 16 * x) / 2 % 2 + ((d + 16 * x) / 2 / 2 % 2 + ((d + 16 * x) / 2 / 2 / 2 % 2 + cB ((d + 16 * x) / 2 / 2 / 2 / 2) n))) = _
  rw [show (d + 16 * x) / 2 / 2 / 2 / 2 = x by omega]
  unfold p4
  omega
theorem cB_H : ∀ (l : List Nat), (∀ d ∈ l, d < 16) → cB (hH l) (4 * l.length) = hS (l.map p4)
  | [], _ => rfl
  | d :: l, h => by
    show cB (d + 16 * hH l) (4 * (l.length + 1)) = p4 d + hS (l.map p4)
    rw [show 4 * (l.length + 1) = 4 * l.length + 4 by omega, cB_4 (h d List.mem_cons_self), cB_H l (fun e he => h e (List.mem_cons_of_mem _ he))]
def dig : Nat → Nat → List Nat
  | _, 0 => []
  | u, n + 1 => u % 16 :: dig (u / 16) n
theorem dig_lt : ∀ (n u : Nat), ∀ d ∈ dig u n, d < 16
  | 0, _, d, h => by cases h
  | n + 1, u, d, h => by
    rcases List.mem_cons.mp h with q | q
    · omega
    · exact dig_lt n _ d q
theorem dig_len : ∀ (n u : Nat), (dig u n).length = n
  | 0, _ => rfl
  | n + 1, u => by show (dig (u / 16) n).length + 1 = n + 1; rw [dig_len n]
theorem dig_H : ∀ (n u : Nat), u < 16 ^ n → hH (dig u n) = u
  | 0, u, h => by
    have : u = 0 := by simpa using h
    rw [this]; rfl
  | n + 1, u, h => by
    show u % 16 + 16 * hH (dig (u / 16) n) = u
    rw [dig_H n (u / 16) (by rw [Nat.pow_succ] at h; exact Nat.div_lt_of_lt_mul (by omega))]
    omega
theorem p4_ok : ∀ d, d < 16 → ((d - ((d / 2) &&& 5)) &&& 3) + (((d - ((d / 2) &&& 5)) / 4) &&& 3) = p4 d := by decide
theorem p4_le : ∀ d, d < 16 → p4 d ≤ 4 := by decide
theorem m1_lt : ∀ d, d < 16 → d - ((d / 2) &&& 5) < 16 := by decide
/-- the six steps of the count, of whole numbers -/
def pcN (u : Nat) : Nat :=
  let v1 := u - ((u / 2) &&& 6148914691236517205)
  let v2 := (v1 &&& 3689348814741910323) + ((v1 / 4) &&& 3689348814741910323)
  let v3 := (v2 + v2 / 16) &&& 1085102592571150095
  let v4 := v3 + v3 / 256
  let v5 := v4 + v4 / 65536
  (v5 + v5 / 4294967296) % 128
theorem dv1 {a r : Nat} (h : a < 256) : (a + 256 * r) / 256 = r := by omega
theorem dv2 {a b r : Nat} (h : a < 256) (h2 : b < 256) : (a + 256 * (b + 256 * r)) / 65536 = r := by
  rw [show 65536 = 256 * 256 from rfl, ← Nat.div_div_eq_div_mul, dv1 h, dv1 h2]
theorem dv4 {a b c d r : Nat} (h : a < 256) (h2 : b < 256) (h3 : c < 256) (h4 : d < 256) : (a + 256 * (b + 256 * (c + 256 * (d + 256 * r)))) / 4294967296 = r := by
  rw [show 4294967296 = 65536 * 65536 from rfl, ← Nat.div_div_eq_div_mul, dv2 h h2, dv2 h3 h4]
theorem hG_sum : ∀ d0 d1 d2 d3 d4 d5 d6 d7 : Nat, d0 ≤ 8 → d1 ≤ 8 → d2 ≤ 8 → d3 ≤ 8 → d4 ≤ 8 → d5 ≤ 8 → d6 ≤ 8 → d7 ≤ 8 →
    ∀ v3 v4 v5 : Nat, v3 = d0 + 256 * (d1 + 256 * (d2 + 256 * (d3 + 256 * (d4 + 256 * (d5 + 256 * (d6 + 256 * d7)))))) → v4 = v3 + v3 / 256 → v5 = v4 + v4 / 65536 →
    (v5 + v5 / 4294967296) % 128 = d0 + d1 + d2 + d3 + d4 + d5 + d6 + d7 ∧ v4 < 18446744073709551616 ∧ v5 < 18446744073709551616 ∧ v5 + v5 / 4294967296 < 18446744073709551616 := by
  intro d0 d1 d2 d3 d4 d5 d6 d7 h0 h1 h2 h3 h4 h5 h6 h7 v3 v4 v5 e3 e4 e5
  have q3 : v3 / 256 = d1 + 256 * (d2 + 256 * (d3 + 256 * (d4 + 256 * (d5 + 256 * (d6 + 256 * d7))))) := by rw [e3]; exact dv1 (by omega)
  have a4 : v4 = (d0 + d1) + 256 * ((d1 + d2) + 256 * ((d2 + d3) + 256 * ((d3 + d4) + 256 * ((d4 + d5) + 256 * ((d5 + d6) + 256 * ((d6 + d7) + 256 * d7)))))) := by
    rw [e4, q3, e3]; omega
  clear q3 e3
  have q4 : v4 / 65536 = (d2 + d3) + 256 * ((d3 + d4) + 256 * ((d4 + d5) + 256 * ((d5 + d6) + 256 * ((d6 + d7) + 256 * d7)))) := by rw [a4]; exact dv2 (by omega) (by omega)
  have a5 : v5 = (d0 + d1 + d2 + d3) + 256 * ((d1 + d2 + d3 + d4) + 256 * ((d2 + d3 + d4 + d5) + 256 * ((d3 + d4 + d5 + d6) + 256 * ((d4 + d5 + d6 + d7) + 256 * ((d5 + d6 + d7) + 256 * ((d6 + d7) + 256 * d7)))))) := by
    rw [e5, q4, a4]; omega
  clear q4 e4 e5
  have q5 : v5 / 4294967296 = (d4 + d5 + d6 + d7) + 256 * ((d5 + d6 + d7) + 256 * ((d6 + d7) + 256 * d7)) := by rw [a5]; exact dv4 (by omega) (by omega) (by omega) (by omega)
  have a6 : v5 + v5 / 4294967296 = (d0 + d1 + d2 + d3 + d4 + d5 + d6 + d7) + 128 * (2 * ((d1 + d2 + d3 + d4 + d5 + d6 + d7) + 256 * ((d2 + d3 + d4 + d5 + d6 + d7) + 256 * ((d3 + d4 + d5 + d6 + d7) + 256 * ((d4 + d5 + d6 + d7) + 256 * ((d5 + d6 + d7) + 256 * ((d6 + d7) + 256 * d7))))))) := by
    rw [q5, a5]; omega
  refine ⟨?_, ?_, ?_, ?_⟩
  · rw [a6, Nat.add_mul_mod_self_left]
    exact Nat.mod_eq_of_lt (by omega)
  · rw [a4]; omega
  · rw [a5]; omega
  · rw [a6]; omega
end POP
