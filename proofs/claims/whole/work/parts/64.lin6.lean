/-! the model's table of lines -/
section LIN6
variable {L : Nat} {M M1 M2 : aM}
/-- v: the least of pieces and then cards, over rows of pieces alone -/
def hO (P : Int → Int) (a x v : Int) : Prop := 0 ≤ v ∧ v ≤ 100000000 ∧ (∀ c : Int, 0 ≤ c → c ≤ a → c ≤ x → v ≤ 1000 * (P (x - c) + c) + c) ∧ (v = 100000000 ∨ ∃ c : Int, 0 ≤ c ∧ c ≤ a ∧ c ≤ x ∧ v = 1000 * (P (x - c) + c) + c)
theorem s_284z {k x : Int} (k0 : 0 ≤ k) (k1 : k < 14) (x0 : 0 ≤ x) (x1 : x ≤ 240) (v0 : 0 ≤ M 204 (241 * k + 241 + x) ∧ M 204 (241 * k + 241 + x) ≤ 100000000) : aE 284 [aR 145, aI k, aI x, aI 0] (SH L) M ([aI (M 204 (241 * k + 241 + x))], SH L, M) := by
  have l204 : aLn (SH L) 1 204 = 3615 := rfl
  have l155 : aLn (SH L) 1 155 = 28 := rfl
  have l156 : aLn (SH L) 1 156 = 28 := rfl
  have fin : aX xc_284 (aSeek xc_284 141) [aU, aU, aU, aU, aI (M 204 (241 * k + 241 + x)), aU, aU, aU, aU] [] (SH L) M ([aI (M 204 (241 * k + 241 + x))], SH L, M) := bl_284_141 ⟨fun _ => rfl, fun q => absurd v0.2 q⟩
  apply en_284
  rw [aWi (z := 241 * k) (by omega) (by omega), aWi (z := 241 * k + 241) (by omega) (by omega), aWi (z := 241 * k + 241 + x) (by omega) (by omega)]
  refine ⟨by omega, bl_284_21 ⟨fun q => absurd q (by omega), fun _ => ⟨by omega, ?_⟩⟩⟩
  rw [Int.zero_mul, aWi (z := 0) (by omega) (by omega)]
  refine ⟨fun q => absurd q (by omega), fun _ => ⟨by omega, ?_⟩⟩
  rw [Int.sub_zero, aWi (z := x) (by omega) (by omega)]
  have k135 : aX xc_284 (aSeek xc_284 135) [aR 145, aI k, aI x, aI 0, aI (M 204 (241 * k + 241 + x)), aI 0, aU, aU, aU] [] (SH L) M ([aI (M 204 (241 * k + 241 + x))], SH L, M) := bl_284_135 (bl_284_21 ⟨fun _ => fin, fun q => absurd (by decide) q⟩)
  have k129 : aX xc_284 (aSeek xc_284 129) [aR 145, aI k, aI x, aI 0, aI (M 204 (241 * k + 241 + x)), aI 0, aI x, aI 0, aU] [] (SH L) M ([aI (M 204 (241 * k + 241 + x))], SH L, M) := bl_284_129 (bl_284_56 ⟨fun _ => k135, fun q => absurd (by decide) q⟩)
  refine bl_284_56 ⟨fun q => absurd q (by decide), fun _ => ⟨by omega, ?_⟩⟩
  rw [Int.zero_mul, aWi (z := 0) (by omega) (by omega)]
  refine ⟨fun q => absurd q (by omega), fun _ => ⟨by omega, ?_⟩⟩
  rw [aWi (z := 241 * k) (by omega) (by omega), aWi (z := 241 * k + 241) (by omega) (by omega), aWi (z := 241 * k + 241 + x) (by omega) (by omega), Int.sub_zero, aWi (z := 241 * k + 241 + x) (by omega) (by omega)]
  refine ⟨by omega, fun _ => k129, fun q => absurd ?_ q⟩
  rw [show aW (1000 * aW (0 + 0)) = 0 by decide, Int.add_zero]
  rw [aWi (by omega) (by omega)]; omega
/-- the least over so many of the one way and so many of the other -/
theorem s_284 {k x r w h : Int} (k0 : 0 ≤ k) (k1 : k < 14) (x0 : 0 ≤ x) (x1 : x ≤ 240) (r0 : 0 ≤ r ∧ r ≤ 99) (hw : M 155 k = w) (hh : M 156 k = h) (w1 : 1 ≤ w ∧ w ≤ 60) (h1 : 1 ≤ h ∧ h ≤ 60) (vb : ∀ y, 0 ≤ y → y ≤ x → 0 ≤ M 204 (241 * k + 241 + y) ∧ M 204 (241 * k + 241 + y) ≤ 100000000) :
    ∃ v, aE 284 [aR 145, aI k, aI x, aI r] (SH L) M ([aI v], SH L, M) ∧ (0 ≤ v ∧ v ≤ 100000000) ∧ (∀ a b : Nat, (a : Int) + b ≤ r → a * w + b * h ≤ x → v ≤ M 204 (241 * k + 241 + (x - a * w - b * h)) + 1000 * (a + b)) ∧ (v = 100000000 ∨ ∃ a b : Nat, (a : Int) + b ≤ r ∧ a * w + b * h ≤ x ∧ v = M 204 (241 * k + 241 + (x - a * w - b * h)) + 1000 * (a + b)) := by
  have l204 : aLn (SH L) 1 204 = 3615 := rfl
  have l155 : aLn (SH L) 1 155 = 28 := rfl
  have l156 : aLn (SH L) 1 156 = 28 := rfl
  obtain ⟨f, hf⟩ : ∃ f : Int → Int → Int, f = fun a b => M 204 (241 * k + 241 + (x - a * w - b * h)) + 1000 * (a + b) := ⟨_, rfl⟩
  have fe : ∀ a b : Int, M 204 (241 * k + 241 + (x - a * w - b * h)) + 1000 * (a + b) = f a b := fun a b => by rw [hf]
  obtain ⟨ok, hok⟩ : ∃ ok : Int → Int → Prop, ok = fun a b => a + b ≤ r ∧ a * w + b * h ≤ x := ⟨_, rfl⟩
  have oke : ∀ a b : Int, ok a b ↔ (a + b ≤ r ∧ a * w + b * h ≤ x) := fun a b => by rw [hok]
  have nn : ∀ (n : Int) (z : Int), 0 ≤ n → 1 ≤ z → 0 ≤ n * z := fun n z hn hz => Int.mul_nonneg hn (by omega)
  have le : ∀ a b c : Int, 1 ≤ c → a ≤ b → a * c ≤ b * c := fun a b c hc hab => Int.mul_le_mul_of_nonneg_right hab (by omega)
  have done : ∀ best, 0 ≤ best → (∀ a b : Int, 0 ≤ a → 0 ≤ b → ok a b → best ≤ f a b) → (∃ a b : Int, 0 ≤ a ∧ 0 ≤ b ∧ ok a b ∧ best = f a b) → ∃ v, aX xc_284 (aSeek xc_284 141) [aU, aU, aU, aU, aI best, aU, aU, aU, aU] [] (SH L) M ([aI v], SH L, M) ∧ (0 ≤ v ∧ v ≤ 100000000) ∧ (∀ a b : Nat, ok a b → v ≤ f a b) ∧ (v = 100000000 ∨ ∃ a b : Nat, ok a b ∧ v = f a b) := by
    intro best b0 hle hat
    obtain ⟨a, b, a0, b0', o, e⟩ := hat
    by_cases c : best ≤ 100000000
    · refine ⟨best, bl_284_141 ⟨fun _ => rfl, fun q => absurd c q⟩, by omega, fun a b o => hle a b (by omega) (by omega) o, Or.inr ⟨a.toNat, b.toNat, ?_, ?_⟩⟩
      · rw [Int.toNat_of_nonneg a0, Int.toNat_of_nonneg b0']; exact o
      · rw [Int.toNat_of_nonneg a0, Int.toNat_of_nonneg b0']; exact e
    · exact ⟨100000000, bl_284_141 ⟨fun q => absurd q c, fun _ => rfl⟩, by omega, fun a b o => by have := hle a b (by omega) (by omega) o; omega, Or.inl rfl⟩
  have outer : ∀ a : Int, ∀ best, 0 ≤ a → 0 ≤ best ∧ best ≤ 200000000 → (∀ a' b' : Int, 0 ≤ a' → 0 ≤ b' → ok a' b' → a' < a → best ≤ f a' b') → (∃ a' b' : Int, 0 ≤ a' ∧ 0 ≤ b' ∧ ok a' b' ∧ best = f a' b') → ∃ v, aX xc_284 (aSeek xc_284 21) [aR 145, aI k, aI x, aI r, aI best, aI a, aU, aU, aU] [] (SH L) M ([aI v], SH L, M) ∧ (0 ≤ v ∧ v ≤ 100000000) ∧ (∀ a b : Nat, ok a b → v ≤ f a b) ∧ (v = 100000000 ∨ ∃ a b : Nat, ok a b ∧ v = f a b) := by
    refine upto (r + 1) (fun a ha best a0 bb hle hat => ?_) (fun a ha ih best a0 bb hle hat => ?_)
    · obtain ⟨v, rr, z⟩ := done best bb.1 (fun a' b' a0' b0' o => hle a' b' a0' b0' o (by have := ((oke a' b').mp o).1; omega)) hat
      exact ⟨v, bl_284_21 ⟨fun _ => rr, fun q => absurd (by omega) q⟩, z⟩
    · have aw := prod_le (a := a) (w := w) (by omega) (by omega)
      by_cases c : x < a * w
      · obtain ⟨v, rr, z⟩ := done best bb.1 (fun a' b' a0' b0' o => hle a' b' a0' b0' o (by
          have o2 := ((oke a' b').mp o).2
          have := nn b' h b0' h1.1
          by_cases q : a' < a
          · exact q
          · have := le a a' w w1.1 (by omega); omega)) hat
        refine ⟨v, bl_284_21 ⟨fun q => absurd q (by omega), fun _ => ⟨by omega, ?_⟩⟩, z⟩
        rw [hw, aWi (by omega) (by omega)]
        exact ⟨fun _ => rr, fun q => absurd c q⟩
      · have inner : ∀ b : Int, ∀ best, (0 ≤ b ∧ b ≤ 200) → 0 ≤ best ∧ best ≤ 200000000 → (∀ a' b' : Int, 0 ≤ a' → 0 ≤ b' → ok a' b' → (a' < a ∨ a' = a ∧ b' < b) → best ≤ f a' b') → (∃ a' b' : Int, 0 ≤ a' ∧ 0 ≤ b' ∧ ok a' b' ∧ best = f a' b') → ∃ v, aX xc_284 (aSeek xc_284 56) [aR 145, aI k, aI x, aI r, aI best, aI a, aI (x - a * w), aI b, aU] [] (SH L) M ([aI v], SH L, M) ∧ (0 ≤ v ∧ v ≤ 100000000) ∧ (∀ a b : Nat, ok a b → v ≤ f a b) ∧ (v = 100000000 ∨ ∃ a b : Nat, ok a b ∧ v = f a b) := by
          have next : ∀ b best, 0 ≤ best ∧ best ≤ 200000000 → (∀ b' : Int, 0 ≤ b' → ok a b' → b' < b) → (∀ a' b' : Int, 0 ≤ a' → 0 ≤ b' → ok a' b' → (a' < a ∨ a' = a ∧ b' < b) → best ≤ f a' b') → (∃ a' b' : Int, 0 ≤ a' ∧ 0 ≤ b' ∧ ok a' b' ∧ best = f a' b') → ∃ v, aX xc_284 (aSeek xc_284 135) [aR 145, aI k, aI x, aI r, aI best, aI a, aU, aU, aU] [] (SH L) M ([aI v], SH L, M) ∧ (0 ≤ v ∧ v ≤ 100000000) ∧ (∀ a b : Nat, ok a b → v ≤ f a b) ∧ (v = 100000000 ∨ ∃ a b : Nat, ok a b ∧ v = f a b) := by
            intro b best bb hb hle hat
            obtain ⟨v, rr, z⟩ := ih best (by omega) bb (fun a' b' a0' b0' o al => by
              by_cases q : a' < a
              · exact hle a' b' a0' b0' o (Or.inl q)
              · have e : a' = a := by omega
                subst e
                exact hle a' b' a0' b0' o (Or.inr ⟨rfl, hb b' b0' o⟩)) hat
            refine ⟨v, bl_284_135 ?_, z⟩
            rw [aWi (by omega) (by omega)]
            exact rr
          refine upto (r + 1 - a) (fun b hb best b0 bb hle hat => ?_) (fun b hb ihb best b0 bb hle hat => ?_)
          · obtain ⟨v, rr, z⟩ := next b best bb (fun b' _ o => by have := ((oke a b').mp o).1; omega) hle hat
            refine ⟨v, bl_284_56 ⟨fun _ => rr, fun q => absurd ?_ q⟩, z⟩
            rw [aWi (by omega) (by omega)]; omega
          · have bh := prod_le (a := b) (w := h) (by omega) (by omega)
            obtain ⟨A, hA⟩ : ∃ A, A = a * w := ⟨_, rfl⟩
            obtain ⟨B, hB⟩ : ∃ B, B = b * h := ⟨_, rfl⟩
            rw [← hA] at aw c
            rw [← hB] at bh
            rw [← hA]
            by_cases d : x - A < B
            · obtain ⟨v, rr, z⟩ := next b best bb (fun b' b0' o => by
                have o2 := ((oke a b').mp o).2
                by_cases q : b' < b
                · exact q
                · have := le b b' h h1.1 (by omega); omega) hle hat
              refine ⟨v, bl_284_56 ⟨fun q => absurd q (by rw [aWi (by omega) (by omega)]; omega), fun _ => ⟨by omega, ?_⟩⟩, z⟩
              rw [hh, ← hB, aWi (z := B) (by omega) (by omega)]
              exact ⟨fun _ => rr, fun q => absurd d q⟩
            · have oab : ok a b := (oke a b).mpr ⟨by omega, by omega⟩
              have vv := vb (x - A - B) (by omega) (by omega)
              have fab : f a b = M 204 (241 * k + 241 + (x - A - B)) + 1000 * (a + b) := by rw [← fe a b, hA, hB]
              have k129 : ∃ v, aX xc_284 (aSeek xc_284 129) [aR 145, aI k, aI x, aI r, aI (min best (f a b)), aI a, aI (x - A), aI b, aU] [] (SH L) M ([aI v], SH L, M) ∧ (0 ≤ v ∧ v ≤ 100000000) ∧ (∀ a b : Nat, ok a b → v ≤ f a b) ∧ (v = 100000000 ∨ ∃ a b : Nat, ok a b ∧ v = f a b) := by
                obtain ⟨v, rr, z⟩ := ihb (min best (f a b)) (by omega) (by omega) (fun a' b' a0' b0' o al => by
                  by_cases q : a' = a ∧ b' = b
                  · rw [q.1, q.2]; omega
                  · have := hle a' b' a0' b0' o (by omega); omega) (by
                  by_cases q : best ≤ f a b
                  · rw [show min best (f a b) = best by omega]; exact hat
                  · exact ⟨a, b, a0, b0.1, oab, by omega⟩)
                refine ⟨v, bl_284_129 ?_, z⟩
                rw [aWi (by omega) (by omega), hA]
                exact rr
              obtain ⟨v, rr, z⟩ := k129
              refine ⟨v, bl_284_56 ⟨fun q => absurd q (by rw [aWi (by omega) (by omega)]; omega), fun _ => ⟨by omega, ?_⟩⟩, z⟩
              rw [hh, ← hB, aWi (z := B) (by omega) (by omega)]
              refine ⟨fun q => absurd q d, fun _ => ⟨by omega, ?_⟩⟩
              rw [aWi (z := 241 * k) (by omega) (by omega), aWi (z := 241 * k + 241) (by omega) (by omega), aWi (z := 241 * k + 241 + (x - A)) (by omega) (by omega), aWi (z := 241 * k + 241 + (x - A) - B) (by omega) (by omega), show 241 * k + 241 + (x - A) - B = 241 * k + 241 + (x - A - B) by omega, aWi (z := a + b) (by omega) (by omega), aWi (z := 1000 * (a + b)) (by omega) (by omega), ← fab, aWi (z := f a b) (by omega) (by omega)]
              refine ⟨by omega, fun q => ?_, fun q => ?_⟩
              · rw [show min best (f a b) = best by omega] at rr; exact rr
              · rw [show min best (f a b) = f a b by omega] at rr; exact rr
        obtain ⟨v, rr, z⟩ := inner 0 best (by omega) bb (fun a' b' a0' b0' o q => hle a' b' a0' b0' o (by omega)) hat
        refine ⟨v, bl_284_21 ⟨fun q => absurd q (by omega), fun _ => ⟨by omega, ?_⟩⟩, z⟩
        rw [hw, aWi (z := a * w) (by omega) (by omega), aWi (z := x - a * w) (by omega) (by omega)]
        exact ⟨fun q => absurd q c, fun _ => ⟨by omega, rr⟩⟩
  have v00 := vb x x0 (Int.le_refl _)
  have f00 : f 0 0 = M 204 (241 * k + 241 + x) := by
    rw [← fe 0 0, Int.zero_mul, Int.zero_mul, Int.sub_zero, Int.sub_zero]; omega
  obtain ⟨v, rr, z1, z2, z3⟩ := outer 0 (M 204 (241 * k + 241 + x)) (by omega) (by omega) (fun a' b' a0' b0' o q => by omega) ⟨0, 0, by omega, by omega, (oke 0 0).mpr (by rw [Int.zero_mul, Int.zero_mul]; omega), f00.symm⟩
  refine ⟨v, en_284 ?_, z1, fun a b o1 o2 => ?_, ?_⟩
  · rw [aWi (z := 241 * k) (by omega) (by omega), aWi (z := 241 * k + 241) (by omega) (by omega), aWi (z := 241 * k + 241 + x) (by omega) (by omega)]
    exact ⟨by omega, rr⟩
  · rw [fe]; exact z2 a b ((oke a b).mpr ⟨o1, o2⟩)
  · rcases z3 with z3 | ⟨a, b, o, e⟩
    · exact Or.inl z3
    · exact Or.inr ⟨a, b, ((oke a b).mp o).1, ((oke a b).mp o).2, by rw [fe]; exact e⟩
end LIN6
