/-! pages: the model's fold, and both answers -/
section PAG2
variable {L : Nat} {M M1 M2 : aM}
theorem s305_run {f : Int} {fin : Nat → List Int} : ∀ n : Nat, (∀ a2 a3 a4 st M, s305 f n 0 a2 a3 a4 0 0 0 st = some fin → lf st M → ∃ M1, aX xc_305 (aSeek xc_305 55) [aR 145, aI f, aI a2, aI a3, aI a4, aU, aU, aU] [] (SH L) M ([], SH L, M1) ∧ lf fin M1 ∧ fr 206 207 M M1) ∧
    (∀ a2 a3 a4 a5 a6 st M, s305 f n 1 a2 a3 a4 a5 a6 0 st = some fin → lf st M → ∃ M1, aX xc_305 (aSeek xc_305 94) [aR 145, aI f, aI a2, aI a3, aI a4, aI a5, aI a6, aU] [] (SH L) M ([], SH L, M1) ∧ lf fin M1 ∧ fr 206 207 M M1) ∧
    (∀ a2 a3 a4 a5 a6 a7 st M, s305 f n 2 a2 a3 a4 a5 a6 a7 st = some fin → lf st M → ∃ M1, aX xc_305 (aSeek xc_305 103) [aR 145, aI f, aI a2, aI a3, aI a4, aI a5, aI a6, aI a7] [] (SH L) M ([], SH L, M1) ∧ lf fin M1 ∧ fr 206 207 M M1) := by
  intro n
  induction n with
  | zero =>
    refine ⟨fun a2 a3 a4 st M e _ => ?_, fun a2 a3 a4 a5 a6 st M e _ => ?_, fun a2 a3 a4 a5 a6 a7 st M e _ => ?_⟩
    all_goals (unfold s305 at e; cases e)
  | succ n ih =>
    obtain ⟨ih0, ih1, ih2⟩ := ih
    refine ⟨fun a2 a3 a4 st M e g => ?_, fun a2 a3 a4 a5 a6 st M e g => ?_, fun a2 a3 a4 a5 a6 a7 st M e g => ?_⟩
    · unfold s305 at e
      rw [if_pos rfl] at e
      by_cases c : f ≤ a4
      · rw [if_pos c] at e
        cases e
        exact ⟨M, bl_305_55 ⟨fun _ => rfl, fun q => absurd c q⟩, g, fr_rf⟩
      · rw [if_neg c] at e
        by_cases d : ¬ aRem a4 2 = 0
        · rw [if_pos d] at e
          obtain ⟨M1, r, x⟩ := ih1 _ _ _ _ _ _ _ e g
          exact ⟨M1, bl_305_55 ⟨fun q => absurd q c, fun _ => ⟨fun _ => bl_305_73 ⟨fun _ => bl_305_91 r, fun q => absurd rfl q⟩, fun q => absurd d q⟩⟩, x⟩
        · rw [if_neg d] at e
          obtain ⟨M1, r, x⟩ := ih1 _ _ _ _ _ _ _ e g
          exact ⟨M1, bl_305_55 ⟨fun q => absurd q c, fun _ => ⟨fun q => absurd q d, fun _ => bl_305_73 ⟨fun q => absurd q (by decide), fun _ => bl_305_91 r⟩⟩⟩, x⟩
    · unfold s305 at e
      rw [if_neg (by decide), if_pos rfl] at e
      by_cases c : a2 ≤ a6
      · rw [if_pos c] at e
        obtain ⟨M1, r, x⟩ := ih0 _ _ _ _ _ e g
        exact ⟨M1, bl_305_94 ⟨fun _ => r, fun q => absurd c q⟩, x⟩
      · rw [if_neg c] at e
        obtain ⟨M1, r, x⟩ := ih2 _ _ _ _ _ _ _ _ e g
        exact ⟨M1, bl_305_94 ⟨fun q => absurd q c, fun _ => r⟩, x⟩
    · unfold s305 at e
      rw [if_neg (by decide), if_neg (by decide)] at e
      by_cases c : a3 ≤ a7
      · rw [if_pos c] at e
        obtain ⟨M1, r, x⟩ := ih1 _ _ _ _ _ _ _ e g
        exact ⟨M1, bl_305_103 ⟨fun _ => r, fun q => absurd c q⟩, x⟩
      · rw [if_neg c] at e
        by_cases d : mvk st (toP a6 a7) (frP a2 a3 a5 a6 a7) = true
        · rw [if_pos d] at e
          obtain ⟨M1, r1, l1, f1⟩ := s_304 (L := L) (x := if a5 = 0 then 3 else 1) d g
          obtain ⟨M2, r2, l2, f2⟩ := ih2 _ _ _ _ _ _ _ _ e l1
          refine ⟨M2, bl_305_103 ⟨fun q => absurd q c, fun _ => ⟨fun q => ?_, fun q => ?_⟩⟩, l2, fr_tr f1 f2⟩
          · unfold toP frP at r1
            rw [if_pos q, if_pos q] at r1
            exact bl_305_151 ⟨fun _ => bl_305_161 ⟨rfl, M1, r1, r2⟩, fun z => absurd q z⟩
          · unfold toP frP at r1
            rw [if_neg q, if_neg q] at r1
            exact bl_305_151 ⟨fun z => absurd z q, fun _ => bl_305_161 ⟨rfl, M1, r1, r2⟩⟩
        · rw [if_neg d] at e; cases e
def pw (n : Nat) : Nat := 2 ^ n
def st0 : Nat → List Int := fun a => [4 * (a : Int)]
def run305 (n : Nat) : Option (Nat → List Int) := s305 n 400 0 (aShl 1 (aDiv (aW ((n : Int) + 1)) 2)) (aShl 1 (aDiv n 2)) 0 0 0 0 st0
def lvs (n : Nat) : List Int := match run305 n with
  | none => []
  | some st => st 0
def q306 (n : Nat) (p w : Int) : Int := if ¬ w = 0 then (if ¬ w = 1 then (if ¬ w = 2 then aRem (aDiv ((lvs n).getD (aDiv p 2).toNat 0) 2) 2 else aRem (aW ((lvs n).getD (aDiv p 2).toNat 0 + p)) 2) else aRem (aDiv ((lvs n).getD (aDiv p 2).toNat 0) 4) 4) else aDiv ((lvs n).getD (aDiv p 2).toNat 0) 16
theorem pg_some : ∀ n : Nat, n < 5 → (run305 n).isSome = true := by decide +kernel
theorem pg_len : ∀ n : Nat, n < 5 → (lvs n).length = pw n ∧ aShl 2 n = 2 * pw n ∧ aW (aShl 2 n - 1) = aShl 2 n - 1 := by decide +kernel
def pgB (n : Nat) (p : Nat) : Bool := decide ((0 ≤ aDiv p 2 ∧ aDiv p 2 < pw n) ∧ (q306 n p 0 = aAnd (v166 n p) 7 ∧ q306 n p 1 = aAnd (aShr (v166 n p) 3) 7 ∧ q306 n p 2 = aAnd (aShr (v166 n p) 6) 1 ∧ q306 n p 3 = aShr (v166 n p) 7) ∧
  aAnd (v166 n p) 127 = q306 n p 0 + 8 * q306 n p 1 + 64 * q306 n p 2 ∧ (0 ≤ q306 n p 0 ∧ q306 n p 0 < aShl 1 (aDiv (aW (n + 1)) 2) ∧ 0 ≤ q306 n p 1 ∧ q306 n p 1 < aShl 1 (aDiv n 2)) ∧ (aShl 1 (aDiv (aW (n + 1)) 2) ≤ 4 ∧ aShl 1 (aDiv n 2) ≤ 4) ∧ 0 ≤ q306 n p 2 ∧ q306 n p 2 ≤ 1)
theorem pg_all : ∀ n : Nat, n < 5 → ∀ p : Nat, p < 2 * pw n → pgB n p = true := by decide +kernel
end PAG2
