/-! the class's choice of a line -/
section LIN4
variable {L : Nat} {M M1 M2 : aM}
/-- the greatest that is so, of the first n and none -/
def pkI (Q : Int → Bool) : Nat → Int
  | 0 => if Q 0 = true then 0 else -1
  | n + 1 => if Q ((n + 1 : Nat) : Int) = true then ((n + 1 : Nat) : Int) else pkI Q n
def pkO (Q : Int → Int → Bool) : Nat → Int × Int
  | 0 => (0, 0)
  | n + 1 => if pkI (Q ((n + 1 : Nat) : Int)) (n + 1) < 0 then pkO Q n else (pkI (Q ((n + 1 : Nat) : Int)) (n + 1), ((n + 1 : Nat) : Int) - pkI (Q ((n + 1 : Nat) : Int)) (n + 1))
theorem pkI_cg {Q R : Int → Bool} : ∀ n : Nat, (∀ i : Int, 0 ≤ i → i ≤ n → Q i = R i) → pkI Q n = pkI R n := by
  intro n
  induction n with
  | zero => intro h; unfold pkI; rw [h 0 (by omega) (by omega)]
  | succ n ih => intro h; unfold pkI; rw [h _ (by omega) (by omega), ih (fun i i0 i1 => h i i0 (by omega))]
theorem pkO_cg {Q R : Int → Int → Bool} : ∀ n : Nat, (∀ a i : Int, 1 ≤ a → a ≤ n → 0 ≤ i → i ≤ a → Q a i = R a i) → pkO Q n = pkO R n := by
  intro n
  induction n with
  | zero => intro _; rfl
  | succ n ih =>
    intro h
    unfold pkO
    rw [ih (fun a i a0 a1 i0 i1 => h a i a0 (by omega) i0 i1), pkI_cg (n + 1) (fun i i0 i1 => h _ i (by omega) (by omega) i0 i1)]
theorem pkI_no {Q : Int → Bool} : ∀ n : Nat, (∀ i : Int, 0 ≤ i → i ≤ n → Q i = false) → pkI Q n = -1 := by
  intro n
  induction n with
  | zero => intro h; unfold pkI; rw [h 0 (by omega) (by omega)]; rfl
  | succ n ih => intro h; unfold pkI; rw [h _ (by omega) (by omega), ih (fun i i0 i1 => h i i0 (by omega))]; rfl
theorem pkI_at {Q : Int → Bool} : ∀ n : Nat, (pkI Q n = -1 ∧ ∀ i : Int, 0 ≤ i → i ≤ n → Q i = false) ∨ (0 ≤ pkI Q n ∧ pkI Q n ≤ n ∧ Q (pkI Q n) = true) := by
  intro n
  induction n with
  | zero =>
    unfold pkI
    by_cases c : Q 0 = true
    · rw [if_pos c]; exact Or.inr ⟨by omega, by omega, c⟩
    · rw [if_neg c]
      refine Or.inl ⟨rfl, fun i i0 i1 => ?_⟩
      rw [show i = 0 by omega]; exact Bool.not_eq_true _ |>.mp c
  | succ n ih =>
    unfold pkI
    by_cases c : Q ((n + 1 : Nat) : Int) = true
    · rw [if_pos c]; exact Or.inr ⟨by omega, by omega, c⟩
    · rw [if_neg c]
      rcases ih with ⟨a, b⟩ | ⟨a, b, d⟩
      · refine Or.inl ⟨a, fun i i0 i1 => ?_⟩
        by_cases e : i = ((n + 1 : Nat) : Int)
        · rw [e]; exact Bool.not_eq_true _ |>.mp c
        · exact b i i0 (by omega)
      · exact Or.inr ⟨a, by omega, d⟩
/-- more than m: none is so -/
theorem pkO_cut {Q : Int → Int → Bool} {m : Nat} : ∀ d : Nat, (∀ a i : Int, (m : Int) < a → a ≤ ((m + d : Nat) : Int) → 0 ≤ i → i ≤ a → Q a i = false) → pkO Q (m + d) = pkO Q m := by
  intro d
  induction d with
  | zero => intro _; rfl
  | succ d ih =>
    intro h
    rw [← ih (fun a i a0 a1 i0 i1 => h a i a0 (by omega) i0 i1)]
    show pkO Q ((m + d) + 1) = _
    rw [show pkO Q ((m + d) + 1) = if pkI (Q (((m + d) + 1 : Nat) : Int)) ((m + d) + 1) < 0 then pkO Q (m + d) else (pkI (Q (((m + d) + 1 : Nat) : Int)) ((m + d) + 1), (((m + d) + 1 : Nat) : Int) - pkI (Q (((m + d) + 1 : Nat) : Int)) ((m + d) + 1)) from rfl, pkI_no _ (fun i i0 i1 => h _ i (by omega) (by omega) i0 i1), if_pos (by decide)]
theorem pkO_at {Q : Int → Int → Bool} : ∀ n : Nat, (pkO Q n = (0, 0) ∧ ∀ a i : Int, 1 ≤ a → a ≤ n → 0 ≤ i → i ≤ a → Q a i = false) ∨ (0 ≤ (pkO Q n).1 ∧ 0 ≤ (pkO Q n).2 ∧ 1 ≤ (pkO Q n).1 + (pkO Q n).2 ∧ (pkO Q n).1 + (pkO Q n).2 ≤ n ∧ Q ((pkO Q n).1 + (pkO Q n).2) (pkO Q n).1 = true) := by
  intro n
  induction n with
  | zero => exact Or.inl ⟨rfl, fun a i a0 a1 => by omega⟩
  | succ n ih =>
    unfold pkO
    rcases pkI_at (Q := Q ((n + 1 : Nat) : Int)) (n + 1) with ⟨a, b⟩ | ⟨a, b, c⟩
    · rw [if_pos (by omega)]
      rcases ih with ⟨e, f⟩ | ⟨e1, e2, e3, e4, e5⟩
      · refine Or.inl ⟨e, fun x i x0 x1 i0 i1 => ?_⟩
        by_cases q : x = ((n + 1 : Nat) : Int)
        · subst q; exact b i i0 i1
        · exact f x i x0 (by omega) i0 i1
      · exact Or.inr ⟨e1, e2, e3, by omega, e5⟩
    · rw [if_neg (by omega)]
      refine Or.inr ⟨a, ?_, ?_, ?_, ?_⟩
      · show 0 ≤ ((n + 1 : Nat) : Int) - pkI _ _; omega
      · show 1 ≤ pkI _ _ + (((n + 1 : Nat) : Int) - pkI _ _); omega
      · show pkI _ _ + (((n + 1 : Nat) : Int) - pkI _ _) ≤ ((n + 1 : Nat) : Int); omega
      · show Q (pkI _ _ + (((n + 1 : Nat) : Int) - pkI _ _)) (pkI _ _) = true
        rw [show ∀ z : Int, z + (((n + 1 : Nat) : Int) - z) = ((n + 1 : Nat) : Int) by intro z; omega]
        exact c
def ps (c p q : Int) (M M1 : aM) (A B : Int) : Prop := (∀ a, a ≠ c → M1 a = M a) ∧ (∀ j, j ≠ p → j ≠ q → M1 c j = M c j) ∧ M1 c p = A ∧ M1 c q = B
/-- so many, laid so, leave what the next kinds fill with so many less -/
def QC (M : aM) (k x a A : Int) : Bool := decide (0 ≤ x - A * M (M 1 3 + 3) k - (a - A) * M (M 1 3 + 4) k ∧ M (102 + k) (x - A * M (M 1 3 + 3) k - (a - A) * M (M 1 3 + 4) k) + a = M (101 + k) x)
def abC (M : aM) (k x : Int) : Int × Int := pkO (QC M k x) (min (M 117 k) (M (101 + k) x)).toNat
theorem prod_le {a w : Int} (h1 : 0 ≤ a ∧ a ≤ 240) (h2 : 0 ≤ w ∧ w ≤ 60) : 0 ≤ a * w ∧ a * w ≤ 14400 := by
  have x := Int.mul_nonneg h1.1 h2.1
  have y := Int.mul_le_mul h1.2 h2.2 h2.1 (show (0 : Int) ≤ 240 by omega)
  omega
theorem s_144 (h : rP M) (e7 : M 99 7 = M 1 3) {k x : Int} (k0 : 0 ≤ k) (k1 : k < M (M 1 3) 3) (x0 : 0 ≤ x) (x1 : x ≤ 240) (b1 : rwB (M (101 + k))) (b2 : rwB (M (102 + k))) (hl : 0 ≤ M 117 k ∧ M 117 k ≤ 99) :
    ∃ M1, aE 144 [aR 99, aI k, aI x] (SH L) M ([aI (x - (abC M k x).1 * M (M 1 3 + 3) k - (abC M k x).2 * M (M 1 3 + 4) k)], SH L, M1) ∧ ps 99 2 3 M M1 (abC M k x).1 (abC M k x).2 := by
  have tx0 := rP_tx h
  have tl := tx_le tx0
  have t14 := h.1.1.2.2.2.2.1
  have tk := h.1.1.2.2.2.2.2 k k0 k1
  have r0 := ar_100 (L := L) k0 (show k < 15 by omega)
  have r1 : aF (SH L) 100 (k + 1).toNat = 102 + k := by rw [ar_100 (by omega) (by omega)]; omega
  have p0 := p_100 (L := L) k0 (show k < 15 by omega)
  have p1 : aK (SH L) (102 + k) = 1 ∧ aL (SH L) (102 + k) = 241 ∧ aLn (SH L) 1 (102 + k) = 241 := by
    have := p_100 (L := L) (k := k + 1) (by omega) (by omega)
    rw [show 101 + (k + 1) = 102 + k by omega] at this
    exact this
  obtain ⟨Q, hQ⟩ : ∃ Q, Q = QC M k x := ⟨_, rfl⟩
  obtain ⟨w, hw⟩ : ∃ w, w = M (M 1 3 + 3) k := ⟨_, rfl⟩
  obtain ⟨g, hg⟩ : ∃ g, g = M (M 1 3 + 4) k := ⟨_, rfl⟩
  have Qd : ∀ a A, Q a A = decide (0 ≤ x - A * w - (a - A) * g ∧ M (102 + k) (x - A * w - (a - A) * g) + a = M (101 + k) x) := fun a A => by rw [hQ, hw, hg]; rfl
  rw [← hw, ← hg] at tk
  obtain ⟨K, hK⟩ : ∃ K, K = aSet (aSet M 99 2 0) 99 3 0 := ⟨_, rfl⟩
  have kc : ∀ a, a ≠ 99 → K a = M a := fun a ha => by rw [hK, aSet_c ha, aSet_c ha]
  have kj : ∀ j, j ≠ 2 → j ≠ 3 → K 99 j = M 99 j := fun j j2 j3 => by rw [hK, aSet_i j3, aSet_i j2]
  have k2 : K 99 2 = 0 := by rw [hK, aSet_i (by omega), aSet_e]
  have k3 : K 99 3 = 0 := by rw [hK, aSet_e]
  have main : ∀ n : Nat, n ≤ 99 → ∃ M1, aX xc_144 (aSeek xc_144 63) [aR 99, aI k, aI x, aI w, aI g, aI n, aU, aU] [] (SH L) K ([aI (x - (pkO Q n).1 * w - (pkO Q n).2 * g)], SH L, M1) ∧ ps 99 2 3 M M1 (pkO Q n).1 (pkO Q n).2 := by
    intro n
    induction n with
    | zero =>
      intro _
      refine ⟨K, bl_144_63 ⟨fun _ => rI ?_, fun q => absurd (by decide) q⟩, kc, kj, k2, k3⟩
      show x - (0 : Int) * w - (0 : Int) * g = x
      rw [Int.zero_mul, Int.zero_mul]; omega
    | succ n ih =>
      intro n99
      obtain ⟨M3, r3, z3⟩ := ih (by omega)
      have inner : ∀ A : Nat, A ≤ n + 1 → ∃ M1, aX xc_144 (aSeek xc_144 72) [aR 99, aI k, aI x, aI w, aI g, aI ((n + 1 : Nat) : Int), aI A, aU] [] (SH L) K ([aI (x - (if pkI (Q ((n + 1 : Nat) : Int)) A < 0 then pkO Q n else (pkI (Q ((n + 1 : Nat) : Int)) A, ((n + 1 : Nat) : Int) - pkI (Q ((n + 1 : Nat) : Int)) A)).1 * w - (if pkI (Q ((n + 1 : Nat) : Int)) A < 0 then pkO Q n else (pkI (Q ((n + 1 : Nat) : Int)) A, ((n + 1 : Nat) : Int) - pkI (Q ((n + 1 : Nat) : Int)) A)).2 * g)], SH L, M1) ∧
          ps 99 2 3 M M1 (if pkI (Q ((n + 1 : Nat) : Int)) A < 0 then pkO Q n else (pkI (Q ((n + 1 : Nat) : Int)) A, ((n + 1 : Nat) : Int) - pkI (Q ((n + 1 : Nat) : Int)) A)).1 (if pkI (Q ((n + 1 : Nat) : Int)) A < 0 then pkO Q n else (pkI (Q ((n + 1 : Nat) : Int)) A, ((n + 1 : Nat) : Int) - pkI (Q ((n + 1 : Nat) : Int)) A)).2 := by
        obtain ⟨a, ha⟩ : ∃ a : Int, a = ((n + 1 : Nat) : Int) := ⟨_, rfl⟩
        rw [← ha]
        have a1 : 1 ≤ a ∧ a ≤ 99 ∧ a = n + 1 := by omega
        have run : ∀ A : Nat, A ≤ n + 1 → ∀ o : aO, (Q a A = true → o = ([aI (x - A * w - (a - A) * g)], SH L, aSet (aSet K 99 2 A) 99 3 (a - A))) → (Q a A = false → aX xc_144 (aSeek xc_144 148) [aR 99, aI k, aI x, aI w, aI g, aI a, aI A, aU] [] (SH L) K o) → aX xc_144 (aSeek xc_144 72) [aR 99, aI k, aI x, aI w, aI g, aI a, aI A, aU] [] (SH L) K o := by
          intro A hA o y nn
          have q1 := prod_le (a := (A : Int)) (w := w) (by omega) (by omega)
          have q2 := prod_le (a := a - A) (w := g) (by omega) (by omega)
          have qd := Qd a A
          obtain ⟨z1, hz1⟩ : ∃ z : Int, z = A * w := ⟨_, rfl⟩
          obtain ⟨z2, hz2⟩ : ∃ z : Int, z = (a - A) * g := ⟨_, rfl⟩
          rw [← hz1, ← hz2] at qd y
          rw [← hz1] at q1
          rw [← hz2] at q2
          apply bl_144_72
          rw [aWi (z := a - A) (by omega) (by omega), ← hz1, ← hz2, aWi (z := z1) (by omega) (by omega), aWi (z := z2) (by omega) (by omega), aWi (z := x - z1) (by omega) (by omega), aWi (z := x - z1 - z2) (by omega) (by omega), aWi (z := k + 1) (by omega) (by omega), r0, r1, p0.2.2, p1.2.2, kc (102 + k) (by omega), kc (101 + k) (by omega)]
          refine ⟨fun q => absurd q (by omega), fun _ => ⟨fun q => nn ?_, fun q => ⟨fun q => absurd q (by omega), fun _ => ⟨by rw [show aLn (SH L) 6 100 = 15 from rfl]; omega, by omega, by rw [show aLn (SH L) 6 100 = 15 from rfl]; omega, by omega, ?_⟩⟩⟩⟩
          · rw [qd]; exact decide_eq_false (fun z => by omega)
          · have bb := b2 (x - z1 - z2) (by omega) (by omega)
            rw [aWi (z := M (102 + k) (x - z1 - z2) + a) (by omega) (by omega)]
            refine ⟨fun q4 => nn ?_, fun q4 => ?_⟩
            · rw [qd]; exact decide_eq_false (fun z => q4 z.2)
            · exact y (by rw [qd]; exact decide_eq_true ⟨by omega, Classical.not_not.mp q4⟩)
        have found : ∀ A : Nat, A ≤ n + 1 → ps 99 2 3 M (aSet (aSet K 99 2 A) 99 3 (a - A)) A (a - A) := fun A hA => ⟨fun b hb => by rw [aSet_c hb, aSet_c hb]; exact kc b hb, fun j j2 j3 => by rw [aSet_i j3, aSet_i j2]; exact kj j j2 j3, by rw [aSet_i (by omega), aSet_e], aSet_e⟩
        intro A
        induction A with
        | zero =>
          intro hA
          by_cases c : Q a ((0 : Nat) : Int) = true
          · have e : pkI (Q a) 0 = 0 := if_pos c
            rw [e, if_neg (by decide)]
            exact ⟨_, run 0 hA _ (fun _ => rfl) (fun q => absurd c (by rw [q]; decide)), found 0 hA⟩
          · have e : pkI (Q a) 0 = -1 := if_neg c
            rw [e, if_pos (by decide)]
            refine ⟨M3, run 0 hA _ (fun q => absurd q c) (fun _ => bl_144_148 (bl_144_72 ⟨fun _ => ?_, fun q => absurd (by decide) q⟩)), z3⟩
            rw [aWi (z := a + (-1)) (by omega) (by omega), show a + (-1) = n by omega]
            exact r3
        | succ A ihA =>
          intro hA
          by_cases c : Q a ((A + 1 : Nat) : Int) = true
          · have e : pkI (Q a) (A + 1) = ((A + 1 : Nat) : Int) := by unfold pkI; rw [if_pos c]
            rw [e, if_neg (by omega)]
            exact ⟨_, run (A + 1) hA _ (fun _ => rfl) (fun q => absurd c (by rw [q]; decide)), found (A + 1) hA⟩
          · have e : pkI (Q a) (A + 1) = pkI (Q a) A := by
              rw [show pkI (Q a) (A + 1) = if Q a ((A + 1 : Nat) : Int) = true then ((A + 1 : Nat) : Int) else pkI (Q a) A from rfl, if_neg c]
            rw [e]
            obtain ⟨M1, r, z⟩ := ihA (by omega)
            refine ⟨M1, run (A + 1) hA _ (fun q => absurd q c) (fun _ => bl_144_148 ?_), z⟩
            rw [aWi (z := ((A + 1 : Nat) : Int) + (-1)) (by omega) (by omega), show ((A + 1 : Nat) : Int) + (-1) = A by omega]
            exact r
      obtain ⟨M1, r, z⟩ := inner (n + 1) (Nat.le_refl _)
      exact ⟨M1, bl_144_63 ⟨fun q => absurd q (by omega), fun _ => r⟩, z⟩
  have bx := b1 x x0 x1
  obtain ⟨n, hn⟩ : ∃ n : Nat, n = (min (M 117 k) (M (101 + k) x)).toNat := ⟨_, rfl⟩
  obtain ⟨M1, r, z⟩ := main n (by omega)
  have ea : abC M k x = pkO Q n := by unfold abC; rw [hQ, hn]
  rw [ea, ← hw, ← hg]
  refine ⟨M1, en_144 ?_, z⟩
  rw [← hK, kj 7 (by omega) (by omega), e7]
  simp only [tx tx0]
  rw [r0, kc 117 (by omega), kc (101 + k) (by omega), kc (M 1 3 + 3) (by omega), kc (M 1 3 + 4) (by omega), ← hw, ← hg, p0.2.2, show min (M 117 k) (M (101 + k) x) = (n : Int) by omega]
  exact ⟨trivial, by omega, trivial, by omega, fun q => absurd q (by omega), fun _ => ⟨fun _ => ⟨by rw [show aLn (SH L) 1 117 = 14 from rfl]; omega, by rw [show aLn (SH L) 6 100 = 15 from rfl]; omega, by omega, r⟩, fun q => absurd x1 q⟩⟩
end LIN4
