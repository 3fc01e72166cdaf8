/-! the law: a text's codes lie where no reading writes -/
section BND
variable {L : Nat} {M Z C R : aM}
def bnC (M : aM) : Prop := (M 164 0 = -1 ∨ M 165 0 ≤ 400) ∧ ∀ r, 0 ≤ r → r < M 166 0 → M 168 r ≤ 200 ∧ ∀ k, M 167 r ≤ k → k < M 168 r → M 177 k ≤ 400
theorem new_bnC {N h : Nat} {T : Int} (d : RD C R N T h) (zr : ∀ a b, cpR a b → Z a b = shR R a b) : bnC Z := by
  have hN := (ST_h d.1).1
  obtain ⟨_, _, bg, _, _, _, gd, ru, li, _⟩ := d
  have bg2 := bg.2.1
  have bg3 := bg.2.2
  have ru1 := ru.1
  constructor
  · rw [zr 164 0 (by unfold cpR; omega), zr 165 0 (by unfold cpR; omega), sh_1 (by omega), sh_1 (by omega)]
    rcases gd with q | ⟨_, q2, _⟩
    · exact Or.inl q.1
    · exact Or.inr (by omega)
  · intro r r0 r1
    rw [zr 166 0 (by unfold cpR; omega), sh_1 (by omega)] at r1
    obtain ⟨_, x2, _⟩ := ru.2 r r0 (by omega)
    rw [zr 167 r (by unfold cpR; omega), zr 168 r (by unfold cpR; omega), sh_6 (by omega), sh_6 (by omega)]
    refine ⟨by omega, fun k k0 k1 => ?_⟩
    obtain ⟨⟨_, _, _, b4⟩, _⟩ := li k (by omega) (by omega)
    rw [zr 177 k (by unfold cpR; omega), sh_l (by omega)]
    omega
end BND
