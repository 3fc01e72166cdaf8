/-! reading: the text that was READ is the same text on both sides -/
section NEW
variable {L : Nat} {M K C R Z : aM}
theorem sh_1 {a : Int} (h : a = 151 ∨ a = 152 ∨ a = 153 ∨ a = 159 ∨ (163 ≤ a ∧ a ≤ 166)) : shR R a 0 = R a 1 := by
  unfold shR
  rw [if_neg (by omega), if_neg (by omega), if_neg (by omega), if_neg (by omega), if_pos (by omega)]
  rfl
theorem sh_14 {a k : Int} (h : 154 ≤ a ∧ a ≤ 158) : shR R a k = R a (14 + k) := by
  unfold shR
  rw [if_neg (by omega), if_neg (by omega), if_pos h]
theorem sh_6 {a k : Int} (h : (160 ≤ a ∧ a ≤ 162) ∨ a = 167 ∨ a = 168) : shR R a k = R a (6 + k) := by
  unfold shR
  rw [if_neg (by omega), if_neg (by omega), if_neg (by omega), if_pos h]
theorem new_rT {N h : Nat} {T : Int} (d : RD C R N T h) (c5 : C 3 5 = 0) (zc : ∀ a, T ≤ a → a ≤ T + 10 → Z a = C a) (zr : ∀ a b, cpR a b → Z a b = shR R a b) : rT Z T := by
  have ht := d.1.2.2.2.2
  have t := tx_le ht
  obtain ⟨_, _, _, kd, fd, wd, _⟩ := d
  have f2 := fd.2 c5
  have k1 := kd.1
  have w1 := wd.1
  unfold rT tOk
  rw [zc T (by omega) (by omega), zc (T + 2) (by omega) (by omega), zc (T + 3) (by omega) (by omega), zc (T + 4) (by omega) (by omega), zc (T + 5) (by omega) (by omega), zc (T + 6) (by omega) (by omega), zc (T + 7) (by omega) (by omega)]
  refine ⟨⟨ht, f2.1, f2.2.1, f2.2.2, ⟨k1.1, k1.2.1⟩, fun k x y => ?_⟩, ⟨?_, ?_, ?_, ?_⟩, fun k x y => ?_, ⟨w1.1, w1.2.1, ?_⟩, fun k x y => ?_⟩
  · obtain ⟨x1, x2, x3, x4, x5, x6⟩ := kd.2 k x y
    have x7 := x6 c5
    exact ⟨⟨x1.1, x1.2.1⟩, x7.1, x7.2.1, x7.2.2⟩
  · rw [zr 151 0 (by unfold cpR; omega), sh_1 (by omega)]; exact fd.1.1
  · rw [zr 152 0 (by unfold cpR; omega), sh_1 (by omega)]; exact fd.1.2.1
  · rw [zr 163 0 (by unfold cpR; omega), sh_1 (by omega)]; exact fd.1.2.2
  · rw [zr 153 0 (by unfold cpR; omega), sh_1 (by omega)]; exact k1.2.2
  · obtain ⟨x1, x2, x3, x4, x5, x6⟩ := kd.2 k x y
    rw [zr 154 k (by unfold cpR; omega), sh_14 (by omega), zr 155 k (by unfold cpR; omega), sh_14 (by omega), zr 156 k (by unfold cpR; omega), sh_14 (by omega), zr 157 k (by unfold cpR; omega), sh_14 (by omega)]
    exact ⟨x1.2.2, x2, x3, x4⟩
  · rw [zr 159 0 (by unfold cpR; omega), sh_1 (by omega)]; exact w1.2.2
  · obtain ⟨x1, x2, x3⟩ := wd.2 k x y
    rw [zr 160 k (by unfold cpR; omega), sh_6 (by omega), zr 161 k (by unfold cpR; omega), sh_6 (by omega), zr 162 k (by unfold cpR; omega), sh_6 (by omega)]
    exact ⟨x1, x2, x3 c5⟩
theorem new_rW {N h : Nat} {T : Int} (d : RD C R N T h) (zc : ∀ a, T ≤ a → a ≤ T + 10 → Z a = C a) (zr : ∀ a b, cpR a b → Z a b = shR R a b) : rW Z T := by
  have ht := d.1.2.2.2.2
  have t := tx_le ht
  have hN := (ST_h d.1).1
  obtain ⟨_, _, bg, _, _, _, gd, ru, li, _⟩ := d
  have bg1 := bg.1
  have bg2 := bg.2.1
  have bg3 := bg.2.2
  have z0 : ∀ j, 0 ≤ j → j < 500 → Z 170 j = oO R j ∧ Z 171 j = oV R j := fun j j0 j1 => by
    rw [zr 170 j (by unfold cpR; omega), zr 171 j (by unfold cpR; omega), sh_O.1, sh_O.2]; exact ⟨rfl, rfl⟩
  have g : ∀ (vr : Int → Int) (x y : Int), 0 ≤ x → y ≤ R 169 1 → rsS (Z 170) (Z 171) vr (y - x).toNat x [] = rsS (oO R) (oV R) vr (y - x).toNat x [] := fun vr x y x0 y1 => rsS_cg _ _ _ (fun j j0 j1 => z0 j (by omega) (by omega))
  have eL_ : ∀ k, 0 ≤ k → k < R 172 1 → (∀ vr, liV Z vr k = liV (shR R) vr k) ∧ Z 178 k = shR R 178 k ∧ liOk Z k := by
    intro k k0 k1
    obtain ⟨⟨b1, b2, b3, b4⟩, q⟩ := li k k0 k1
    have e : ∀ a, 173 ≤ a → a ≤ 178 → Z a k = shR R a k := fun a x y => zr a k (by unfold cpR; omega)
    have s5 : shR R 175 k = R 175 (200 + k) := sh_l (by omega)
    have s6 : shR R 176 k = R 176 (200 + k) := sh_l (by omega)
    have s7 : shR R 177 k = R 177 (200 + k) := sh_l (by omega)
    refine ⟨fun vr => ?_, e 178 (by omega) (by omega), ?_⟩
    · unfold liV exV
      rw [sh_O.1, sh_O.2, e 173 (by omega) (by omega), e 174 (by omega) (by omega), e 175 (by omega) (by omega), e 176 (by omega) (by omega), e 177 (by omega) (by omega), s5, s6, s7, g vr _ _ b1 (by omega), g vr _ _ (by omega) b4]
    · unfold liOk wfE at q ⊢
      rw [sh_O.1, sh_O.2] at q
      rw [e 173 (by omega) (by omega), e 175 (by omega) (by omega), e 176 (by omega) (by omega), e 177 (by omega) (by omega)]
      rw [s5, s6, s7] at q ⊢
      refine ⟨q.1, ⟨q.2.1.1, fun vr => ?_⟩, q.2.2.1, fun vr => ?_⟩
      · rw [g vr _ _ b1 (by omega)]; exact q.2.1.2 vr
      · rw [g vr _ _ (by omega) b4]; exact q.2.2.2 vr
  constructor
  · unfold rG
    rw [zr 164 0 (by unfold cpR; omega), zr 165 0 (by unfold cpR; omega), sh_1 (by omega), sh_1 (by omega), zc T (by omega) (by omega), zc (T + 8) (by omega) (by omega)]
    rcases gd with q | ⟨q1, q2, em⟩
    · exact Or.inl q
    · have e2 : ∀ vr, rsS (Z 170) (Z 171) vr (R 165 1 - R 164 1).toNat (R 164 1) [] = rsS (oO R) (oV R) vr (R 165 1 - R 164 1).toNat (R 164 1) [] := fun vr => g vr _ _ q2.1 q2.2.2
      refine Or.inr ⟨by omega, ⟨by omega, fun vr => ?_⟩, fun vr base z hb => ?_⟩
      · obtain ⟨v, z', _, e⟩ := em vr [] 0 (by decide)
        rw [e2]
        rcases e with ⟨e, _⟩ | ⟨e, _⟩
        · exact Or.inr ⟨v, e⟩
        · exact Or.inl e
      · obtain ⟨v, z', e1, e⟩ := em vr base z hb
        exact ⟨v, z', e1, by rw [e2]; exact e⟩
  · unfold rR
    rw [zr 166 0 (by unfold cpR; omega), sh_1 (by omega), zc T (by omega) (by omega), zc (T + 8) (by omega) (by omega), zc (T + 9) (by omega) (by omega), zc (T + 10) (by omega) (by omega)]
    refine ⟨ru.1, fun r r0 r1 => ?_⟩
    have ru1 := ru.1
    obtain ⟨x1, x2, x3⟩ := ru.2 r r0 r1
    rw [zr 167 r (by unfold cpR; omega), zr 168 r (by unfold cpR; omega), sh_6 (by omega), sh_6 (by omega)]
    refine ⟨by omega, by omega, fun k k0 k1 => (eL_ k (by omega) (by omega)).2.2, fun vr => ⟨0, ?_⟩⟩
    rw [x3 vr]
    congr 2
    congr 1
    exact (hdV_rng (fun j j0 j1 => by
      have := eL_ j (by omega) (by omega)
      exact ⟨this.1 vr, this.2.1⟩)).symm
end NEW
