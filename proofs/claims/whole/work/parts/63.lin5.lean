/-! the class's answers of a line -/
section LIN5
variable {L : Nat} {M M1 M2 : aM}
/-- the fewest, of the first n counts of cards -/
def cbN (P : Int → Int) (x : Int) : Nat → Int × Int
  | 0 => (1000000, 0)
  | n + 1 => if (cbN P x n).1 ≤ P (x - n) + n then cbN P x n else (P (x - n) + n, (n : Int))
theorem cbN_at {P : Int → Int} {x : Int} : ∀ n : Nat, (cbN P x n).1 ≤ 1000000 ∧ (∀ c : Nat, c < n → (cbN P x n).1 ≤ P (x - c) + c) ∧ ((cbN P x n).1 = 1000000 ∧ (cbN P x n).2 = 0 ∨ ∃ c : Nat, (cbN P x n).2 = c ∧ c < n ∧ (cbN P x n).1 = P (x - c) + c ∧ (cbN P x n).1 < 1000000 ∧ ∀ d : Nat, d < c → (cbN P x n).1 < P (x - d) + d) := by
  intro n
  induction n with
  | zero => exact ⟨Int.le_refl _, fun c hc => by omega, Or.inl ⟨rfl, rfl⟩⟩
  | succ n ih =>
    obtain ⟨i1, i2, i3⟩ := ih
    by_cases q : (cbN P x n).1 ≤ P (x - n) + n
    · have e : cbN P x (n + 1) = cbN P x n := if_pos q
      rw [e]
      refine ⟨i1, fun c hc => ?_, ?_⟩
      · by_cases d : c = n
        · subst d; exact q
        · exact i2 c (by omega)
      · rcases i3 with i3 | ⟨c, c1, c2, c3⟩
        · exact Or.inl i3
        · exact Or.inr ⟨c, c1, by omega, c3⟩
    · have e : cbN P x (n + 1) = (P (x - n) + n, (n : Int)) := if_neg q
      rw [e]
      refine ⟨by show P (x - n) + n ≤ 1000000; omega, fun c hc => ?_, Or.inr ⟨n, rfl, by omega, rfl, by show P (x - n) + n < 1000000; omega, fun d hd => ?_⟩⟩
      · show P (x - n) + n ≤ P (x - c) + c
        by_cases d : c = n
        · subst d; exact Int.le_refl _
        · have := i2 c (by omega); omega
      · show P (x - n) + n < P (x - d) + d
        have := i2 d hd; omega
theorem s_143 {x a : Int} (x0 : 0 ≤ x ∧ x ≤ 240) (a0 : 0 ≤ a ∧ a ≤ 99) (hP : rwB (M 101)) : ∃ M1, aE 143 [aR 99, aI x, aI a] (SH L) M ([aI (bi (decide ((cbN (M 101) x (min a x + 1).toNat).1 < 1000000)))], SH L, M1) ∧ ps 99 0 1 M M1 (cbN (M 101) x (min a x + 1).toNat).1 (cbN (M 101) x (min a x + 1).toNat).2 := by
  obtain ⟨m, hm⟩ : ∃ m : Nat, m = (min a x + 1).toNat := ⟨_, rfl⟩
  rw [← hm]
  have key : ∀ d n : Nat, n + d = m → ∀ M' : aM, ps 99 0 1 M M' (cbN (M 101) x n).1 (cbN (M 101) x n).2 → ∃ M1, aX xc_143 (aSeek xc_143 13) [aR 99, aI x, aI a, aI n] [] (SH L) M' ([aI (bi (decide ((cbN (M 101) x m).1 < 1000000)))], SH L, M1) ∧ ps 99 0 1 M M1 (cbN (M 101) x m).1 (cbN (M 101) x m).2 := by
    intro d
    induction d with
    | zero =>
      intro n nm M' p
      have e : n = m := by omega
      subst e
      have e76 : aX xc_143 (aSeek xc_143 76) [aR 99, aU, aU, aU] [] (SH L) M' ([aI (bi (decide ((cbN (M 101) x n).1 < 1000000)))], SH L, M') := by
        refine bl_143_76 ⟨fun q => rI ?_, fun q => rI ?_⟩
        · rw [p.2.2.1] at q; exact bin (by omega)
        · rw [p.2.2.1] at q; exact bip (by omega)
      refine ⟨M', bl_143_13 ⟨fun _ => e76, fun q => ⟨fun _ => e76, fun q1 => absurd ?_ q1⟩⟩, p⟩
      omega
    | succ d ih =>
      intro n nm M' p
      have b := hP (x - n) (by omega) (by omega)
      have p101 : M' 101 = M 101 := p.1 101 (by omega)
      by_cases q : (cbN (M 101) x n).1 ≤ M 101 (x - n) + n
      · have e : cbN (M 101) x (n + 1) = cbN (M 101) x n := if_pos q
        obtain ⟨M1, r, z⟩ := ih (n + 1) (by omega) M' (by rw [e]; exact p)
        refine ⟨M1, bl_143_13 ⟨fun z => absurd z (by omega), fun _ => ⟨fun z => absurd z (by omega), fun _ => ⟨fun z => absurd z (by omega), fun _ => ?_⟩⟩⟩, z⟩
        rw [aWi (z := x - n) (by omega) (by omega), p101, p.2.2.1, aWi (z := M 101 (x - n) + n) (by omega) (by omega)]
        refine ⟨by rw [show aLn (SH L) 1 101 = 241 from rfl]; omega, fun _ => bl_143_70 ?_, fun z => absurd q z⟩
        rw [aWi (by omega) (by omega)]
        exact r
      · have e : cbN (M 101) x (n + 1) = (M 101 (x - n) + n, (n : Int)) := if_neg q
        obtain ⟨M1, r, z⟩ := ih (n + 1) (by omega) (aSet (aSet M' 99 0 (M 101 (x - n) + n)) 99 1 n) (by
          rw [e]
          exact ⟨fun a ha => by rw [aSet_c ha, aSet_c ha]; exact p.1 a ha, fun j j0 j1 => by rw [aSet_i j1, aSet_i j0]; exact p.2.1 j j0 j1, by rw [aSet_i (by omega), aSet_e], aSet_e⟩)
        refine ⟨M1, bl_143_13 ⟨fun z => absurd z (by omega), fun _ => ⟨fun z => absurd z (by omega), fun _ => ⟨fun z => absurd z (by omega), fun _ => ?_⟩⟩⟩, z⟩
        rw [aWi (z := x - n) (by omega) (by omega), p101, p.2.2.1, aWi (z := M 101 (x - n) + n) (by omega) (by omega)]
        refine ⟨by rw [show aLn (SH L) 1 101 = 241 from rfl]; omega, fun z => absurd z q, fun _ => ⟨by rw [show aLn (SH L) 1 101 = 241 from rfl]; omega, bl_143_70 ?_⟩⟩
        rw [aWi (by omega) (by omega)]
        exact r
  obtain ⟨M1, r, z⟩ := key m 0 (by omega) (aSet (aSet M 99 0 1000000) 99 1 0) ⟨fun a ha => by rw [aSet_c ha, aSet_c ha], fun j j0 j1 => by rw [aSet_i j1, aSet_i j0], by rw [aSet_i (by omega), aSet_e]; rfl, by rw [aSet_e]; rfl⟩
  exact ⟨M1, en_143 r, z⟩
/-- what is left of the line before kind k -/
def xsC (M : aM) (x : Int) : Nat → Int
  | 0 => x
  | k + 1 => xsC M x k - (abC M k (xsC M x k)).1 * M (M 1 3 + 3) k - (abC M k (xsC M x k)).2 * M (M 1 3 + 4) k
theorem abC_cg (h : ∀ a, a ≠ 99 → M1 a = M a) (ht : isTx (M 1 3)) {k x : Int} (k0 : 0 ≤ k) : abC M1 k x = abC M k x := by
  have tl := tx_le ht
  unfold abC QC
  rw [h 1 (by omega), h (M 1 3 + 3) (by omega), h (M 1 3 + 4) (by omega), h (101 + k) (by omega), h (102 + k) (by omega), h 117 (by omega)]
theorem xs_le (h : rP M) {x : Int} (x0 : 0 ≤ x ∧ x ≤ 240) : ∀ k : Nat, k ≤ M (M 1 3) 3 → 0 ≤ xsC M x k ∧ xsC M x k ≤ 240 := by
  intro k
  induction k with
  | zero => intro _; exact x0
  | succ k ih =>
    intro hk
    have i := ih (by omega)
    have tk := h.1.1.2.2.2.2.2 k (by omega) (by omega)
    show 0 ≤ xsC M x k - (abC M k (xsC M x k)).1 * M (M 1 3 + 3) k - (abC M k (xsC M x k)).2 * M (M 1 3 + 4) k ∧ xsC M x k - (abC M k (xsC M x k)).1 * M (M 1 3 + 3) k - (abC M k (xsC M x k)).2 * M (M 1 3 + 4) k ≤ 240
    rcases pkO_at (Q := QC M k (xsC M x k)) (min (M 117 k) (M (101 + k) (xsC M x k))).toNat with ⟨e, -⟩ | ⟨e1, e2, -, -, e3⟩
    · rw [show abC M k (xsC M x k) = (0, 0) from e]
      show 0 ≤ xsC M x k - (0 : Int) * _ - (0 : Int) * _ ∧ xsC M x k - (0 : Int) * _ - (0 : Int) * _ ≤ 240
      rw [Int.zero_mul, Int.zero_mul]; omega
    · rw [show pkO (QC M k (xsC M x k)) (min (M 117 k) (M (101 + k) (xsC M x k))).toNat = abC M k (xsC M x k) from rfl] at e1 e2 e3
      unfold QC at e3
      have e4 := (of_decide_eq_true e3).1
      rw [show (abC M k (xsC M x k)).1 + (abC M k (xsC M x k)).2 - (abC M k (xsC M x k)).1 = (abC M k (xsC M x k)).2 by omega] at e4
      have g1 := Int.mul_nonneg e1 (show 0 ≤ M (M 1 3 + 3) k by omega)
      have g2 := Int.mul_nonneg e2 (show 0 ≤ M (M 1 3 + 4) k by omega)
      omega
theorem s_145 (h : rP M) (hl : lnR M) {x : Int} (x0 : 0 ≤ x ∧ x ≤ 240) {K : Nat} (hK : (K : Int) < M (M 1 3) 3) : ∃ M1, aE 145 [aR 99, aI x, aI K] (SH L) M ([], SH L, M1) ∧ ps 99 2 3 M M1 (abC M K (xsC M x K)).1 (abC M K (xsC M x K)).2 := by
  have tx0 := rP_tx h
  have tl := tx_le tx0
  have t14 := h.1.1.2.2.2.2.1
  have key : ∀ d n : Nat, n + d = K → ∀ M' : aM, (∀ a, a ≠ 99 → M' a = M a) → (∀ j, j ≠ 2 → j ≠ 3 → M' 99 j = M 99 j) → ∃ M1, aX xc_145 (aSeek xc_145 5) [aR 99, aU, aI K, aI (xsC M x n), aI n] [] (SH L) M' ([], SH L, M1) ∧ ps 99 2 3 M M1 (abC M K (xsC M x K)).1 (abC M K (xsC M x K)).2 := by
    intro d
    induction d with
    | zero =>
      intro n nk M' f g
      have e : n = K := by omega
      subst e
      have xb := xs_le h x0 n (by omega)
      have q1 : M' 1 3 = M 1 3 := by rw [f 1 (by omega)]
      have bl := (hl.2.2 n (by omega) hK).1
      have l0 := lfT_bd h (k := n)
      obtain ⟨M1, r, p1, p2, p3, p4⟩ := s_144 (L := L) (M := M') (k := n) (x := xsC M x n) (rP_fr (lo := 99) (hi := 99) h (fun a ha => f a (by omega)) (by omega) (by omega)) (by rw [g 7 (by omega) (by omega), q1]; exact hl.1) (by omega) (by rw [q1, f (M 1 3) (by omega)]; exact hK) xb.1 xb.2 (by rw [f (101 + (n : Int)) (by omega)]; exact lnR_bd h hl n (by omega) (by omega)) (by
        rw [f (102 + (n : Int)) (by omega)]
        have := lnR_bd h hl (n + 1) (by omega) (by omega)
        rw [show 101 + ((n : Int) + 1) = 102 + n by omega] at this
        exact this) (by rw [f 117 (by omega), bl]; exact l0)
      rw [abC_cg f tx0 (by omega)] at r p3 p4
      have e7 : M' 99 7 = M 1 3 := by rw [g 7 (by omega) (by omega)]; exact hl.1
      refine ⟨M1, bl_145_5 ⟨fun q => absurd q (by omega), fun _ => ?_⟩, fun a ha => by rw [p1 a ha]; exact f a ha, fun j j2 j3 => by rw [p2 j j2 j3]; exact g j j2 j3, p3, p4⟩
      rw [e7, f (M 1 3) (by omega)]
      refine ⟨(tx tx0).1, fun q => absurd q (by omega), fun _ => ⟨M1, _, r, bl_145_5 ⟨fun _ => rfl, fun q => absurd ?_ q⟩⟩⟩
      rw [aWi (by omega) (by omega)]; omega
    | succ d ih =>
      intro n nk M' f g
      have xb := xs_le h x0 n (by omega)
      have q1 : M' 1 3 = M 1 3 := by rw [f 1 (by omega)]
      have bl := (hl.2.2 n (by omega) (by omega)).1
      have l0 := lfT_bd h (k := n)
      obtain ⟨M2, r, p1, p2, p3, p4⟩ := s_144 (L := L) (M := M') (k := n) (x := xsC M x n) (rP_fr (lo := 99) (hi := 99) h (fun a ha => f a (by omega)) (by omega) (by omega)) (by rw [g 7 (by omega) (by omega), q1]; exact hl.1) (by omega) (by rw [q1, f (M 1 3) (by omega)]; omega) xb.1 xb.2 (by rw [f (101 + (n : Int)) (by omega)]; exact lnR_bd h hl n (by omega) (by omega)) (by
        rw [f (102 + (n : Int)) (by omega)]
        have := lnR_bd h hl (n + 1) (by omega) (by omega)
        rw [show 101 + ((n : Int) + 1) = 102 + n by omega] at this
        exact this) (by rw [f 117 (by omega), bl]; exact l0)
      rw [abC_cg f tx0 (by omega), q1, f (M 1 3 + 3) (by omega), f (M 1 3 + 4) (by omega)] at r
      have e7 : M' 99 7 = M 1 3 := by rw [g 7 (by omega) (by omega)]; exact hl.1
      obtain ⟨M1, r1, z⟩ := ih (n + 1) (by omega) M2 (fun a ha => by rw [p1 a ha]; exact f a ha) (fun j j2 j3 => by rw [p2 j j2 j3]; exact g j j2 j3)
      refine ⟨M1, bl_145_5 ⟨fun q => absurd q (by omega), fun _ => ?_⟩, z⟩
      rw [e7, f (M 1 3) (by omega)]
      refine ⟨(tx tx0).1, fun q => absurd q (by omega), fun _ => ⟨M2, _, r, ?_⟩⟩
      rw [aWi (by omega) (by omega)]
      exact r1
  obtain ⟨M1, r, z⟩ := key K 0 (by omega) M (fun _ _ => rfl) (fun _ _ _ => rfl)
  exact ⟨M1, en_145 r, z⟩
/-- the longest that is filled, of the first n -/
def fuL (P : Int → Int) : Nat → Int
  | 0 => 0
  | n + 1 => if 1000000 ≤ P ((n + 1 : Nat) : Int) then fuL P n else ((n + 1 : Nat) : Int)
theorem fuL_at {P : Int → Int} : ∀ n : Nat, 0 ≤ fuL P n ∧ fuL P n ≤ n ∧ (fuL P n = 0 ∨ P (fuL P n) < 1000000) ∧ ∀ i : Int, fuL P n < i → i ≤ n → 1000000 ≤ P i := by
  intro n
  induction n with
  | zero => exact ⟨Int.le_refl _, Int.le_refl _, Or.inl rfl, fun i i0 i1 => absurd i0 (by show ¬ (0 : Int) < i; omega)⟩
  | succ n ih =>
    obtain ⟨a, b, c, d⟩ := ih
    by_cases q : 1000000 ≤ P ((n + 1 : Nat) : Int)
    · rw [show fuL P (n + 1) = fuL P n from if_pos q]
      refine ⟨a, by omega, c, fun i i0 i1 => ?_⟩
      by_cases e : i = ((n + 1 : Nat) : Int)
      · rw [e]; exact q
      · exact d i i0 (by omega)
    · rw [show fuL P (n + 1) = ((n + 1 : Nat) : Int) from if_neg q]
      exact ⟨by omega, by omega, Or.inr (by omega), fun i i0 i1 => by omega⟩
theorem s_147 {x a : Int} (x0 : 1 ≤ x ∧ x ≤ 240) (a0 : 0 ≤ a ∧ a ≤ 99) : aE 147 [aR 99, aI x, aI a] (SH L) M ([aI (min x (fuL (M 101) x.toNat + a))], SH L, M) := by
  have key : ∀ n : Nat, n ≤ 240 → aX xc_147 (aSeek xc_147 8) [aR 99, aI x, aI a, aI n] [] (SH L) M ([aI (min x (fuL (M 101) n + a))], SH L, M) := by
    intro n
    induction n with
    | zero =>
      intro _
      refine bl_147_8 ⟨fun _ => rI ?_, fun q => absurd (by decide) q⟩
      show min x (0 + a) = min x a
      rw [Int.zero_add]
    | succ n ih =>
      intro hn
      refine bl_147_8 ⟨fun q => absurd q (by omega), fun _ => ⟨by rw [show aLn (SH L) 1 101 = 241 from rfl]; omega, fun q => ?_, fun q => rI ?_⟩⟩
      · rw [aWi (z := ((n + 1 : Nat) : Int) + (-1)) (by omega) (by omega), show ((n + 1 : Nat) : Int) + (-1) = n by omega, show fuL (M 101) (n + 1) = fuL (M 101) n from if_pos q]
        exact ih (by omega)
      · rw [aWi (by omega) (by omega), show fuL (M 101) (n + 1) = ((n + 1 : Nat) : Int) from if_neg q]
  have := key x.toNat (by omega)
  rw [Int.toNat_of_nonneg (by omega)] at this
  refine en_147 ?_
  rw [show min x 240 = x by omega]
  exact this
end LIN5
