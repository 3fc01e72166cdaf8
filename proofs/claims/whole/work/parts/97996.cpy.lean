/-! reading: the reference takes the text that was READ -/
section CPY
variable {L : Nat} {R R1 X Y M' : aM}
def cF (M' : aM) (i off : Int) (Q : Int → Prop) (X : aM) : Prop := (∀ a, Q a → X a i = M' a (off + i)) ∧ ∀ a b, ¬ (Q a ∧ b = i) → X a b = M' a b
theorem cF_0 {i off : Int} : cF M' i off (fun _ => False) M' := ⟨fun _ q => q.elim, fun _ _ _ => rfl⟩
theorem cF_s {i off a0 : Int} {Q : Int → Prop} (h : cF M' i off Q X) (ho : 0 < off) : cF M' i off (fun a => a = a0 ∨ Q a) (aSet X a0 i (X a0 (off + i))) := by
  have e : X a0 (off + i) = M' a0 (off + i) := h.2 _ _ (fun q => by have := q.2; omega)
  constructor
  · intro a q
    by_cases c : a = a0
    · rw [c, aSet_e, e]
    · rw [aSet_c c]
      rcases q with q | q
      · exact absurd q c
      · exact h.1 a q
  · intro a b q
    rw [aSet_a, if_neg (fun z => q ⟨Or.inl z.1, z.2⟩)]
    exact h.2 a b (fun z => q ⟨Or.inr z.1, z.2⟩)
def cJ (R : aM) (P : Int → Prop) (off i : Int) (M' : aM) : Prop := (∀ a b, P a → 0 ≤ b → b < i → M' a b = R a (off + b)) ∧ ∀ a b, (¬ P a ∨ b < 0 ∨ i ≤ b) → M' a b = R a b
theorem cJ_s {i off : Int} {P Q : Int → Prop} (h : cJ R P off i M') (i0 : 0 ≤ i) (ho : 0 < off) (f : cF M' i off Q X) (e : ∀ a, Q a ↔ P a) : cJ R P off (i + 1) X := by
  constructor
  · intro a b p b0 b1
    by_cases c : b = i
    · rw [c, f.1 a ((e a).mpr p), h.2 a _ (by omega)]
    · rw [f.2 a b (fun z => c z.2), h.1 a b p b0 (by omega)]
  · intro a b q
    rw [f.2 a b (fun z => by
      rcases q with q | q
      · exact q ((e a).mp z.1)
      · have := z.2; omega), h.2 a b (by rcases q with q | q; exact Or.inl q; exact Or.inr (by omega))]
def cp4 (a : Int) : Prop := 154 ≤ a ∧ a ≤ 157
def cp6 (a : Int) : Prop := (160 ≤ a ∧ a ≤ 162) ∨ a = 167 ∨ a = 168
def cp5 (a : Int) : Prop := a = 170 ∨ a = 171
def cp2 (a : Int) : Prop := 173 ≤ a ∧ a ≤ 178
theorem l_38 : ∀ (m : Nat) (i : Int) (M' : aM), 14 - i = m → 0 ≤ i → cJ R cp4 14 i M' → ∃ X, cJ R cp4 14 14 X ∧ ∀ o, aX xc_205 (aSeek xc_205 136) [aR 145, aI 0] [] (SH L) (aSet (aSet X 159 0 (X 159 1)) 166 0 ((aSet X 159 0 (X 159 1)) 166 1)) o → aX xc_205 (aSeek xc_205 38) [aR 145, aI i] [] (SH L) M' o := by
  have l4 : aLn (SH L) 1 154 = 28 := rfl
  have l5 : aLn (SH L) 1 155 = 28 := rfl
  have l6 : aLn (SH L) 1 156 = 28 := rfl
  have l7 : aLn (SH L) 1 157 = 28 := rfl
  intro m
  induction m with
  | zero =>
    intro i M' hm i0 j
    rw [show i = 14 by omega] at j ⊢
    exact ⟨M', j, fun o x => bl_205_38 ⟨fun _ => x, fun q => absurd (by omega) q⟩⟩
  | succ m ih =>
    intro i M' hm i0 j
    have e : aW (14 + i) = 14 + i := aWi (by omega) (by omega)
    have e1 : aW (i + 1) = i + 1 := aWi (by omega) (by omega)
    have f := cF_s (a0 := 157) (cF_s (a0 := 156) (cF_s (a0 := 155) (cF_s (a0 := 154) (cF_0 (M' := M') (i := i) (off := 14)) (by omega)) (by omega)) (by omega)) (by omega)
    obtain ⟨Y, hY, f⟩ : ∃ Y, Y = _ ∧ cF M' i 14 _ Y := ⟨_, rfl, f⟩
    obtain ⟨X, x1, x2⟩ := ih (i + 1) Y (by omega) (by omega) (cJ_s j i0 (by omega) f (fun a => by unfold cp4; simp only [or_false]; omega))
    refine ⟨X, x1, fun o x => bl_205_38 ⟨fun q => absurd q (by omega), fun _ => ?_⟩⟩
    rw [e, e1, ← hY]
    exact ⟨by omega, by omega, by omega, by omega, by omega, by omega, by omega, by omega, x2 o x⟩
theorem l_136 : ∀ (m : Nat) (i : Int) (M' : aM), 6 - i = m → 0 ≤ i → cJ R cp6 6 i M' → ∃ X, cJ R cp6 6 6 X ∧ ∀ o, aX xc_205 (aSeek xc_205 261) [aR 145, aI 0] [] (SH L) (aSet (aSet (aSet X 163 0 (X 163 1)) 164 0 ((aSet X 163 0 (X 163 1)) 164 1)) 165 0 ((aSet (aSet X 163 0 (X 163 1)) 164 0 ((aSet X 163 0 (X 163 1)) 164 1)) 165 1)) o → aX xc_205 (aSeek xc_205 136) [aR 145, aI i] [] (SH L) M' o := by
  have l4 : aLn (SH L) 1 160 = 12 := rfl
  have l5 : aLn (SH L) 1 161 = 12 := rfl
  have l6 : aLn (SH L) 1 162 = 12 := rfl
  have l7 : aLn (SH L) 1 167 = 12 := rfl
  have l8 : aLn (SH L) 1 168 = 12 := rfl
  intro m
  induction m with
  | zero =>
    intro i M' hm i0 j
    rw [show i = 6 by omega] at j ⊢
    exact ⟨M', j, fun o x => bl_205_136 ⟨fun _ => x, fun q => absurd (by omega) q⟩⟩
  | succ m ih =>
    intro i M' hm i0 j
    have e : aW (6 + i) = 6 + i := aWi (by omega) (by omega)
    have e1 : aW (i + 1) = i + 1 := aWi (by omega) (by omega)
    have f := cF_s (a0 := 168) (cF_s (a0 := 167) (cF_s (a0 := 162) (cF_s (a0 := 161) (cF_s (a0 := 160) (cF_0 (M' := M') (i := i) (off := 6)) (by omega)) (by omega)) (by omega)) (by omega)) (by omega)
    obtain ⟨Y, hY, f⟩ : ∃ Y, Y = _ ∧ cF M' i 6 _ Y := ⟨_, rfl, f⟩
    obtain ⟨X, x1, x2⟩ := ih (i + 1) Y (by omega) (by omega) (cJ_s j i0 (by omega) f (fun a => by unfold cp6; simp only [or_false]; omega))
    refine ⟨X, x1, fun o x => bl_205_136 ⟨fun q => absurd q (by omega), fun _ => ?_⟩⟩
    rw [e, e1, ← hY]
    exact ⟨by omega, by omega, by omega, by omega, by omega, by omega, by omega, by omega, by omega, by omega, x2 o x⟩
theorem l_261 : ∀ (m : Nat) (i : Int) (M' : aM), 500 - i = m → 0 ≤ i → cJ R cp5 500 i M' → ∃ X, cJ R cp5 500 500 X ∧ ∀ o, aX xc_205 (aSeek xc_205 308) [aR 145, aI 0] [] (SH L) X o → aX xc_205 (aSeek xc_205 261) [aR 145, aI i] [] (SH L) M' o := by
  have l4 : aLn (SH L) 1 170 = 1000 := rfl
  have l5 : aLn (SH L) 1 171 = 1000 := rfl
  intro m
  induction m with
  | zero =>
    intro i M' hm i0 j
    rw [show i = 500 by omega] at j ⊢
    exact ⟨M', j, fun o x => bl_205_261 ⟨fun _ => x, fun q => absurd (by omega) q⟩⟩
  | succ m ih =>
    intro i M' hm i0 j
    have e : aW (500 + i) = 500 + i := aWi (by omega) (by omega)
    have e1 : aW (i + 1) = i + 1 := aWi (by omega) (by omega)
    have f := cF_s (a0 := 171) (cF_s (a0 := 170) (cF_0 (M' := M') (i := i) (off := 500)) (by omega)) (by omega)
    obtain ⟨Y, hY, f⟩ : ∃ Y, Y = _ ∧ cF M' i 500 _ Y := ⟨_, rfl, f⟩
    obtain ⟨X, x1, x2⟩ := ih (i + 1) Y (by omega) (by omega) (cJ_s j i0 (by omega) f (fun a => by unfold cp5; simp only [or_false]; omega))
    refine ⟨X, x1, fun o x => bl_205_261 ⟨fun q => absurd q (by omega), fun _ => ?_⟩⟩
    rw [e, e1, ← hY]
    exact ⟨by omega, by omega, by omega, by omega, x2 o x⟩
theorem l_308 (hb : ∀ i, 200 ≤ i → i < 400 → R 173 i = 0 ∨ R 173 i = 1) : ∀ (m : Nat) (i : Int) (M' : aM), 200 - i = m → 0 ≤ i → cJ R cp2 200 i M' → ∃ X, cJ R cp2 200 200 X ∧ aX xc_205 (aSeek xc_205 308) [aR 145, aI i] [] (SH L) M' ([], SH L, aSet (aSet (aSet X 179 0 0) 180 0 0) 145 40 (aW (X 145 40 + 1))) := by
  have l4 : aLn (SH L) 4 173 = 400 := rfl
  have l5 : aLn (SH L) 1 174 = 400 := rfl
  have l6 : aLn (SH L) 1 175 = 400 := rfl
  have l7 : aLn (SH L) 1 176 = 400 := rfl
  have l8 : aLn (SH L) 1 177 = 400 := rfl
  have l9 : aLn (SH L) 1 178 = 400 := rfl
  intro m
  induction m with
  | zero =>
    intro i M' hm i0 j
    rw [show i = 200 by omega] at j ⊢
    refine ⟨M', j, bl_205_308 ⟨fun _ => ?_, fun q => absurd (by omega) q⟩⟩
    rw [aSet_c (show (145 : Int) ≠ 180 by omega), aSet_c (show (145 : Int) ≠ 179 by omega)]
  | succ m ih =>
    intro i M' hm i0 j
    have e : aW (200 + i) = 200 + i := aWi (by omega) (by omega)
    have e1 : aW (i + 1) = i + 1 := aWi (by omega) (by omega)
    have f := cF_s (a0 := 178) (cF_s (a0 := 177) (cF_s (a0 := 176) (cF_s (a0 := 175) (cF_s (a0 := 174) (cF_s (a0 := 173) (cF_0 (M' := M') (i := i) (off := 200)) (by omega)) (by omega)) (by omega)) (by omega)) (by omega)) (by omega)
    obtain ⟨Y, hY, f⟩ : ∃ Y, Y = _ ∧ cF M' i 200 _ Y := ⟨_, rfl, f⟩
    obtain ⟨X, x1, x2⟩ := ih (i + 1) Y (by omega) (by omega) (cJ_s j i0 (by omega) f (fun a => by unfold cp2; simp only [or_false]; omega))
    have b : M' 173 (200 + i) = 0 ∨ M' 173 (200 + i) = 1 := by rw [j.2 173 (200 + i) (by omega)]; exact hb _ (by omega) (by omega)
    refine ⟨X, x1, bl_205_308 ⟨fun q => absurd q (by omega), fun _ => ?_⟩⟩
    rw [e, e1, ← hY]
    exact ⟨by omega, ⟨by omega, b⟩, by omega, by omega, by omega, by omega, by omega, by omega, by omega, by omega, by omega, by omega, x2⟩
def cpR (a b : Int) : Prop := ((a = 151 ∨ a = 152 ∨ a = 153 ∨ a = 159 ∨ (163 ≤ a ∧ a ≤ 166)) ∧ b = 0) ∨ ((154 ≤ a ∧ a ≤ 157) ∧ 0 ≤ b ∧ b < 14) ∨ (((160 ≤ a ∧ a ≤ 162) ∨ a = 167 ∨ a = 168) ∧ 0 ≤ b ∧ b < 6) ∨ ((a = 170 ∨ a = 171) ∧ 0 ≤ b ∧ b < 500) ∨ ((173 ≤ a ∧ a ≤ 178) ∧ 0 ≤ b ∧ b < 200)
theorem cJ_0 {P : Int → Prop} {off : Int} : cJ R P off 0 R := ⟨fun a b _ x y => absurd x (by omega), fun _ _ _ => rfl⟩
theorem s_205 (hb : ∀ i, 200 ≤ i → i < 400 → R 173 i = 0 ∨ R 173 i = 1) : ∃ Z, aE 205 [aR 145] (SH L) R ([], SH L, Z) ∧ (∀ a b, cpR a b → Z a b = shR R a b) ∧ (∀ a b, ¬ cpR a b → ¬ ((a = 179 ∨ a = 180) ∧ b = 0) → ¬ (a = 145 ∧ b = 40) → Z a b = R a b) ∧ (Z 179 0 = 0 ∧ Z 180 0 = 0) ∧ Z 145 40 = aW (R 145 40 + 1) := by
  obtain ⟨R0, h0⟩ : ∃ R0, R0 = aSet (aSet (aSet R 151 0 (R 151 1)) 152 0 ((aSet R 151 0 (R 151 1)) 152 1)) 153 0 ((aSet (aSet R 151 0 (R 151 1)) 152 0 ((aSet R 151 0 (R 151 1)) 152 1)) 153 1) := ⟨_, rfl⟩
  obtain ⟨X1, x1, y1⟩ := l_38 (L := L) (R := R0) (14 - 0 : Int).toNat 0 R0 (by omega) (by omega) cJ_0
  obtain ⟨R1, h1⟩ : ∃ R1, R1 = aSet (aSet X1 159 0 (X1 159 1)) 166 0 ((aSet X1 159 0 (X1 159 1)) 166 1) := ⟨_, rfl⟩
  rw [← h1] at y1
  obtain ⟨X2, x2, y2⟩ := l_136 (L := L) (R := R1) (6 - 0 : Int).toNat 0 R1 (by omega) (by omega) cJ_0
  obtain ⟨R2, h2⟩ : ∃ R2, R2 = aSet (aSet (aSet X2 163 0 (X2 163 1)) 164 0 ((aSet X2 163 0 (X2 163 1)) 164 1)) 165 0 ((aSet (aSet X2 163 0 (X2 163 1)) 164 0 ((aSet X2 163 0 (X2 163 1)) 164 1)) 165 1) := ⟨_, rfl⟩
  rw [← h2] at y2
  obtain ⟨X3, x3, y3⟩ := l_261 (L := L) (R := R2) (500 - 0 : Int).toNat 0 R2 (by omega) (by omega) cJ_0
  -- outside
  have f0 : ∀ a b, ¬ ((151 ≤ a ∧ a ≤ 153) ∧ b = 0) → R0 a b = R a b := fun a b q => by rw [h0, aSet_a, if_neg (by omega), aSet_a, if_neg (by omega), aSet_a, if_neg (by omega)]
  have f1 : ∀ a b, ¬ ((a = 159 ∨ a = 166) ∧ b = 0) → R1 a b = X1 a b := fun a b q => by rw [h1, aSet_a, if_neg (by omega), aSet_a, if_neg (by omega)]
  have f2 : ∀ a b, ¬ ((163 ≤ a ∧ a ≤ 165) ∧ b = 0) → R2 a b = X2 a b := fun a b q => by rw [h2, aSet_a, if_neg (by omega), aSet_a, if_neg (by omega), aSet_a, if_neg (by omega)]
  have n4 : ∀ a, (a < 154 ∨ 157 < a) → ∀ b, X1 a b = R0 a b := fun a q b => x1.2 a b (Or.inl (by unfold cp4; omega))
  have n6 : ∀ a, ¬ ((160 ≤ a ∧ a ≤ 162) ∨ a = 167 ∨ a = 168) → ∀ b, X2 a b = R1 a b := fun a q b => x2.2 a b (Or.inl (by unfold cp6; omega))
  have n5 : ∀ a, ¬ (a = 170 ∨ a = 171) → ∀ b, X3 a b = R2 a b := fun a q b => x3.2 a b (Or.inl (by unfold cp5; omega))
  have b3' : ∀ i, 200 ≤ i → i < 400 → X3 173 i = 0 ∨ X3 173 i = 1 := by
    intro i i0 i1
    rw [n5 173 (by omega), f2 173 _ (by omega), n6 173 (by omega), f1 173 _ (by omega), n4 173 (by omega), f0 173 _ (by omega)]
    exact hb i i0 i1
  obtain ⟨X4, x4, y4⟩ := l_308 (L := L) (R := X3) b3' (200 - 0 : Int).toNat 0 X3 (by omega) (by omega) cJ_0
  have n2 : ∀ a, (a < 173 ∨ 178 < a) → ∀ b, X4 a b = X3 a b := fun a q b => x4.2 a b (Or.inl (by unfold cp2; omega))
  obtain ⟨Z, hZ⟩ : ∃ Z, Z = aSet (aSet (aSet X4 179 0 0) 180 0 0) 145 40 (aW (X4 145 40 + 1)) := ⟨_, rfl⟩
  rw [← hZ] at y4
  have fZ : ∀ a b, ¬ ((a = 179 ∨ a = 180) ∧ b = 0) → ¬ (a = 145 ∧ b = 40) → Z a b = X4 a b := fun a b q u => by rw [hZ, aSet_a, if_neg u, aSet_a, if_neg (by omega), aSet_a, if_neg (by omega)]
  refine ⟨Z, en_205 (by rw [← h0]; exact y1 _ (y2 _ (y3 _ y4))), ?_, ?_, ⟨by rw [hZ, aSet_c (by omega), aSet_c (by omega), aSet_e], by rw [hZ, aSet_c (by omega), aSet_e]⟩, ?_⟩
  · intro a b q
    unfold cpR at q
    rw [fZ a b (by omega) (by omega)]
    unfold shR
    rcases q with ⟨q, rfl⟩ | ⟨q, b0, b1⟩ | ⟨q, b0, b1⟩ | ⟨q, b0, b1⟩ | ⟨q, b0, b1⟩
    · rw [if_neg (by omega), if_neg (by omega), if_neg (by omega), if_neg (by omega), if_pos (by omega), n2 a (by omega), n5 a (by omega)]
      by_cases c1 : 163 ≤ a ∧ a ≤ 165
      · have k : R2 a 0 = X2 a 1 := by
          have : a = 163 ∨ a = 164 ∨ a = 165 := by omega
          rcases this with rfl | rfl | rfl
          · rw [h2, aSet_c (by omega), aSet_c (by omega), aSet_e]
          · rw [h2, aSet_c (by omega), aSet_e, aSet_c (by omega)]
          · rw [h2, aSet_e, aSet_c (by omega), aSet_c (by omega)]
        rw [k, n6 a (by omega), f1 a _ (by omega), n4 a (by omega), f0 a _ (by omega)]
        rfl
      · rw [f2 a _ (by omega), n6 a (by omega)]
        by_cases c2 : a = 159 ∨ a = 166
        · have k : R1 a 0 = X1 a 1 := by
            rcases c2 with rfl | rfl
            · rw [h1, aSet_c (by omega), aSet_e]
            · rw [h1, aSet_e, aSet_c (by omega)]
          rw [k, n4 a (by omega), f0 a _ (by omega)]
          rfl
        · rw [f1 a _ (by omega), n4 a (by omega)]
          have : a = 151 ∨ a = 152 ∨ a = 153 := by omega
          rcases this with rfl | rfl | rfl
          · rw [h0, aSet_c (by omega), aSet_c (by omega), aSet_e]; rfl
          · rw [h0, aSet_c (by omega), aSet_e, aSet_c (by omega)]; rfl
          · rw [h0, aSet_e, aSet_c (by omega), aSet_c (by omega)]; rfl
    · rw [if_neg (by omega), if_neg (by omega), if_pos (by omega), n2 a (by omega), n5 a (by omega), f2 a _ (by omega), n6 a (by omega), f1 a _ (by omega), x1.1 a b (by unfold cp4; omega) b0 b1, f0 a _ (by omega)]
    · rw [if_neg (by omega), if_neg (by omega), if_neg (by omega), if_pos (by omega), n2 a (by omega), n5 a (by omega), f2 a _ (by omega), x2.1 a b (by unfold cp6; omega) b0 b1, f1 a _ (by omega), n4 a (by omega), f0 a _ (by omega)]
    · rw [if_pos (by omega), n2 a (by omega), x3.1 a b (by unfold cp5; omega) b0 b1, f2 a _ (by omega), n6 a (by omega), f1 a _ (by omega), n4 a (by omega), f0 a _ (by omega)]
    · rw [if_neg (by omega), if_pos (by omega), x4.1 a b (by unfold cp2; omega) b0 b1, n5 a (by omega), f2 a _ (by omega), n6 a (by omega), f1 a _ (by omega), n4 a (by omega), f0 a _ (by omega)]
  · intro a b q u w
    unfold cpR at q
    rw [fZ a b u w, x4.2 a b (by unfold cp2; omega), x3.2 a b (by unfold cp5; omega), f2 a b (by omega), x2.2 a b (by unfold cp6; omega), f1 a b (by omega), x1.2 a b (by unfold cp4; omega), f0 a b (by omega)]
  · rw [hZ, aSet_e, n2 145 (by omega), n5 145 (by omega), f2 145 _ (by omega), n6 145 (by omega), f1 145 _ (by omega), n4 145 (by omega), f0 145 _ (by omega)]
end CPY
