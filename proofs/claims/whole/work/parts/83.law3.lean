/-! laws: the class evaluates -/
section LAW3
variable {L : Nat} {M M1 M2 : aM}
/-- one op: the stack and the flag after it -/
def evO (vr : Int → Int) (o : Int) (l : List Int) (z : Int) : Option (List Int × Int) :=
  if 1000 ≤ o then (if l.length < 32 ∧ o < 2147483648 then some ((o - 1000) :: l, z) else none)
  else if 16 ≤ o ∧ o < 25 then (if l.length < 32 then some (vr (o - 16) :: l, z) else none)
  else if o = 39 then (match l with
    | v :: r => some (aW (1 - v) :: r, z)
    | _ => none)
  else match l with
    | b :: a :: r => if 10 ≤ o ∧ o ≤ 13 then some ((if z = 0 then cmV o a b else 0) :: r, 0) else some (coB o a b :: r, if ¬ o = 6 ∧ ¬ o = 7 ∧ ¬ o = 8 ∧ ¬ o = 37 ∧ ¬ o = 38 ∧ b = 0 then 1 else z)
    | _ => none
def evS (cd vr : Int → Int) : Nat → Int → List Int → Int → Option (List Int × Int)
  | 0, _, l, z => some (l, z)
  | n + 1, i, l, z => match evO vr (cd i) l z with
    | some (l', z') => evS cd vr n (i + 1) l' z'
    | none => none
theorem s_124 {l l' : List Int} {o z' : Int} (h : stk M l) (e : evO (M 97) o l (M 90 8) = some (l', z')) : ∃ M1, aE 124 [aR 90, aI o] (SH L) M ([], SH L, M1) ∧ opR M M1 l' z' := by
  unfold evO at e
  by_cases c1 : 1000 ≤ o
  · rw [if_pos c1] at e
    by_cases d : l.length < 32 ∧ o < 2147483648
    · rw [if_pos d] at e
      cases e
      exact s_124n h d.1 c1 d.2
    · rw [if_neg d] at e; cases e
  · rw [if_neg c1] at e
    by_cases c2 : 16 ≤ o ∧ o < 25
    · rw [if_pos c2] at e
      by_cases d : l.length < 32
      · rw [if_pos d] at e
        cases e
        exact s_124v h d c2.1 c2.2
      · rw [if_neg d] at e; cases e
    · rw [if_neg c2] at e
      by_cases c3 : o = 39
      · rw [if_pos c3] at e
        cases l with
        | nil => cases e
        | cons v r =>
          cases e
          rw [c3]
          exact s_124t h
      · rw [if_neg c3] at e
        cases l with
        | nil => cases e
        | cons b r =>
          cases r with
          | nil => cases e
          | cons a r =>
            by_cases d : 10 ≤ o ∧ o ≤ 13
            · simp only [if_pos d] at e
              cases e
              exact s_124c h d.1 d.2
            · simp only [if_neg d] at e
              obtain ⟨M1, r1, y, n⟩ := s_124b (L := L) (o := o) h (by omega) (by omega) (by omega) c3
              by_cases q : dvZ o b
              · have q' := q
                unfold dvZ at q'
                rw [if_pos q'] at e
                cases e
                exact ⟨M1, r1, y q⟩
              · have q' := q
                unfold dvZ at q'
                rw [if_neg q'] at e
                cases e
                exact ⟨M1, r1, n q⟩
theorem cd_len {t : Int} (h : isTx t) : aK (SH L) (t + 8) = 1 ∧ aL (SH L) (t + 8) = 400 ∧ aLn (SH L) 1 (t + 8) = 400 := by
  rcases h with rfl | rfl <;> exact ⟨rfl, rfl, rfl⟩
theorem s_125 {T f t v z : Int} (ht : isTx T) (e2 : M 90 2 = T) (f0 : 0 ≤ f) (t1 : t ≤ 400) (ft : f ≤ t) (e : evS (M (T + 8)) (M 97) (t - f).toNat f [] 0 = some ([v], z)) : ∃ M1, aE 125 [aR 90, aI f, aI t] (SH L) M ([aI v], SH L, M1) ∧ M1 90 8 = z ∧ (∀ a, a ≠ 90 → a ≠ 98 → M1 a = M a) ∧ ∀ j, j ≠ 7 → j ≠ 8 → M1 90 j = M 90 j := by
  have tl := tx_le ht
  have cl := cd_len (L := L) ht
  have key : ∀ n : Nat, ∀ i l, ∀ M' : aM, i + n = t → 0 ≤ i → stk M' l → (∀ a, a ≠ 90 → a ≠ 98 → M' a = M a) → (∀ j, j ≠ 7 → j ≠ 8 → M' 90 j = M 90 j) → evS (M (T + 8)) (M 97) n i l (M' 90 8) = some ([v], z) → ∃ M1, aX xc_125 (aSeek xc_125 12) [aR 90, aU, aI t, aI i] [] (SH L) M' ([aI v], SH L, M1) ∧ M1 90 8 = z ∧ (∀ a, a ≠ 90 → a ≠ 98 → M1 a = M a) ∧ ∀ j, j ≠ 7 → j ≠ 8 → M1 90 j = M 90 j := by
    intro n
    induction n with
    | zero =>
      intro i l M' it i0 hs g1 g2 ev
      have ev2 : some (l, M' 90 8) = some ([v], z) := ev
      injection ev2 with ev2
      injection ev2 with ea eb
      subst ea
      obtain ⟨M1, r, a, b, c⟩ := s_121 (L := L) hs
      exact ⟨M1, bl_125_12 ⟨fun _ => bl_125_48 ⟨M1, v, r, rfl⟩, fun q => absurd (by omega) q⟩, by rw [c 8 (by omega)]; exact eb, fun a x y => by rw [b a x]; exact g1 a x y, fun j x y => by rw [c j x]; exact g2 j x y⟩
    | succ n ih =>
      intro i l M' it i0 hs g1 g2 ev
      unfold evS at ev
      cases e1 : evO (M 97) (M (T + 8) i) l (M' 90 8) with
      | none => rw [e1] at ev; cases ev
      | some p =>
        obtain ⟨l', z'⟩ := p
        rw [e1] at ev
        rw [← g1 97 (by omega) (by omega)] at e1
        obtain ⟨M2, r2, o1, o2, o3, o4⟩ := s_124 (L := L) hs e1
        obtain ⟨M1, r1, y⟩ := ih (i + 1) l' M2 (by omega) (by omega) o1 (fun a a1 a2 => by rw [o3 a a1 a2]; exact g1 a a1 a2) (fun j j1 j2 => by rw [o4 j j1 j2]; exact g2 j j1 j2) (by rw [o2]; exact ev)
        refine ⟨M1, bl_125_12 ⟨fun q => absurd q (by omega), fun _ => ?_⟩, y⟩
        rw [g2 2 (by omega) (by omega), e2]
        simp only [tx ht]
        rw [g1 (T + 8) (by omega) (by omega), aWi (z := i + 1) (by omega) (by omega)]
        exact ⟨trivial, trivial, fun q => absurd q (by omega), fun _ => ⟨trivial, by omega, M2, r2, r1⟩⟩
  obtain ⟨M1, r, y⟩ := key (t - f).toNat f [] (aSet (aSet M 90 7 0) 90 8 0) (by omega) f0 ⟨by rw [aSet_i (by omega), aSet_e]; rfl, by decide, trivial⟩ (fun a a1 _ => by rw [aSet_c a1, aSet_c a1]) (fun j j7 j8 => by rw [aSet_i j8, aSet_i j7]) (by rw [aSet_e]; exact e)
  exact ⟨M1, en_125 r, y⟩
end LAW3
