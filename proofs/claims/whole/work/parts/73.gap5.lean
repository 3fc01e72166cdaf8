/-! gaps: the model's table is the class's -/
section GAP5
variable {L : Nat} {M M1 M2 : aM}
def cvR (p v : Int) : Prop := (p < 1000000 ∧ v = p) ∨ (p = 1000000 ∧ v = 100000000)
def rwGF (P : Int → Int) : Prop := ∀ x, 0 ≤ x → x ≤ 60 → 0 ≤ P x ∧ (P x ≤ 60 * x ∨ P x = 1000000)
theorem rsN_0 {r q e : Int} : rsN 0 r q e ≤ 0 := by
  unfold rsN
  split
  · rw [Int.zero_ediv]; omega
  · omega
theorem rsN_z {p q e : Int} : rsN p 0 q e = 0 := if_neg (fun z => by omega)
theorem c2m {l tr W w h x t m : Int} (l0 : 0 ≤ l ∧ l ≤ 99) (x0 : 0 ≤ x ∧ x ≤ 60) (r0 : 0 ≤ tr) (h1 : 1 ≤ h) (o : gOk l tr (urK W w h) h w x t m) : gOk l tr (rO W h) h w x t m ∧ m * urK W w h = m * rO W h := by
  unfold urK at o ⊢
  by_cases e : w = h
  · rw [if_pos e] at o ⊢
    have m0 : m = 0 := by
      have a := o.2.1
      have b := o.2.2
      rw [rsN_z] at b
      omega
    obtain ⟨b1, b2, -⟩ := rsN_le l0.1 x0.1 r0 h1 o.1.1 o.1.2
    rw [m0]
    refine ⟨⟨o.1, by omega, rsN_nn (by omega) (by omega)⟩, by rw [Int.zero_mul, Int.zero_mul]⟩
  · rw [if_neg e] at o ⊢
    exact ⟨o, rfl⟩
theorem m2c {l W w h x t m : Int} (l0 : 0 ≤ l ∧ l ≤ 99) (x0 : 0 ≤ x ∧ x ≤ 60) (hW : 0 ≤ W ∧ W ≤ 60) (w1 : 1 ≤ w) (h1 : 1 ≤ h) (o : gOk l (rO W w) (rO W h) h w x t m) : ∃ t' m', gOk l (rO W w) (urK W w h) h w x t' m' ∧ t' * rO W w + m' * urK W w h = t * rO W w + m * rO W h ∧ x - t' * h - m' * w = x - t * h - m * w ∧ t ≤ t' ∧ (t' = t → m' = m) := by
  have tb := rO_bd hW w1
  by_cases e : w = h
  · subst e
    obtain ⟨b1, b2, -⟩ := rsN_le l0.1 x0.1 tb.1 w1 o.1.1 o.1.2
    obtain ⟨c1, c2, -⟩ := rsN_le (show 0 ≤ l - t * rO W w by omega) (show 0 ≤ x - t * w by omega) tb.1 w1 o.2.1 o.2.2
    have t0 := o.1.1
    have m0 := o.2.1
    refine ⟨t + m, 0, ⟨⟨by omega, ?_⟩, Int.le_refl _, ?_⟩, ?_, ?_, by omega, by omega⟩
    · by_cases z : 0 < rO W w
      · have a1 : t + m ≤ l / rO W w := Int.le_ediv_of_mul_le z (by rw [Int.add_mul]; omega)
        have a2 : t + m ≤ x / w := Int.le_ediv_of_mul_le (by omega) (by rw [Int.add_mul]; omega)
        unfold rsN
        rw [if_pos ⟨z, by omega⟩]; omega
      · have r0 : rO W w = 0 := by omega
        have a := o.1.2
        have b := o.2.2
        rw [r0, rsN_z] at a b
        rw [r0, rsN_z]; omega
    · have a := Int.add_mul t m (rO W w)
      have b := Int.add_mul t m w
      exact rsN_nn (by omega) (by omega)
    · rw [Int.zero_mul, Int.add_mul]; omega
    · rw [Int.zero_mul, Int.add_mul]; omega
  · refine ⟨t, m, ?_, ?_, rfl, Int.le_refl _, fun _ => rfl⟩
    · unfold urK; rw [if_neg e]; exact o
    · unfold urK; rw [if_neg e]
theorem g_eq {P' H' : Int → Int} {l W w h x p v : Int} (l0 : 0 ≤ l ∧ l ≤ 99) (x0 : 0 ≤ x ∧ x ≤ 60) (hW : 0 ≤ W ∧ W ≤ 60) (w1 : 1 ≤ w ∧ w ≤ 60) (h1 : 1 ≤ h ∧ h ≤ 60) (fn : rwGF P') (hp : gMn P' l (rO W w) (urK W w h) h w x p) (hH : ∀ y, 0 ≤ y → y ≤ x → cvR (P' y) (H' y)) (v1 : ∀ t m, gOk l (rO W w) (rO W h) h w x t m → v ≤ H' (x - t * h - m * w) + t * rO W w + m * rO W h) (v2 : v = 100000000 ∨ ∃ t m, gOk l (rO W w) (rO W h) h w x t m ∧ v = H' (x - t * h - m * w) + t * rO W w + m * rO W h) (v0 : v ≤ 100000000) : cvR p v := by
  have tb := rO_bd hW w1.1
  have ub := rO_bd hW h1.1
  have uk := urK_bd (w := w) hW h1.1
  obtain ⟨p1, p2, p3⟩ := hp
  -- what the model attains is not less
  have low : v < 100000000 → p ≤ v ∧ v < 1000000 := by
    intro q
    rcases v2 with v2 | ⟨t, m, o, e⟩
    · omega
    · obtain ⟨y1, y2, y3, y4, y5, -⟩ := gOk_b x0 l0 tb.1 ub.1 h1.1 w1.1 o
      obtain ⟨t', m', o', e1, e2, -⟩ := m2c l0 x0 hW w1.1 h1.1 o
      have le := p2 t' m' o'
      unfold gFv at le
      rw [e1, e2] at le
      have c := hH _ y5.1 y5.2
      have f := fn (x - t * h - m * w) y5.1 (by omega)
      unfold cvR at c
      omega
  by_cases c : p < 1000000
  · rcases p3 with p3 | ⟨t, m, o, e⟩
    · omega
    · obtain ⟨o', e1⟩ := c2m l0 x0 tb.1 h1.1 o
      obtain ⟨y1, y2, y3, y4, y5, -⟩ := gOk_b x0 l0 tb.1 ub.1 h1.1 w1.1 o'
      have le := v1 t m o'
      unfold gFv at e
      rw [e1] at e
      have cc := hH _ y5.1 y5.2
      unfold cvR at cc
      have := low (by omega)
      exact Or.inl ⟨c, by omega⟩
  · refine Or.inr ⟨by omega, ?_⟩
    by_cases q : v < 100000000
    · have := low q; omega
    · omega
theorem rwGF_st {P Q : Int → Int} {l tr ur br ln : Int} (hP : rwG P) (fP : rwGF P) (l0 : 0 ≤ l ∧ l ≤ 99) (r0 : 0 ≤ tr ∧ tr ≤ 60) (u0 : 0 ≤ ur ∧ ur ≤ 60) (b1 : 1 ≤ br) (n1 : 1 ≤ ln) (h : ∀ x, 0 ≤ x → x ≤ 60 → gMn P l tr ur br ln x (Q x)) : rwGF Q := by
  intro x x0 x1
  have nb := gMn_bd hP l0 r0.1 u0.1 b1 n1 h x x0 x1
  obtain ⟨a, -, c⟩ := h x x0 x1
  refine ⟨nb.1, ?_⟩
  rcases c with c | ⟨t, m, o, e⟩
  · exact Or.inr c
  · obtain ⟨y1, y2, y3, y4, y5, y6, -⟩ := gOk_bd hP ⟨x0, x1⟩ l0 r0.1 u0.1 b1 n1 o
    have f := (fP (x - t * br - m * ln) y5.1 y5.2).2
    obtain ⟨w1, w2, w3⟩ := rsN_le l0.1 x0 r0.1 b1 o.1.1 o.1.2
    obtain ⟨z1, z2, z3⟩ := rsN_le (show 0 ≤ l - t * tr by omega) (show 0 ≤ x - t * br by omega) u0.1 n1 o.2.1 o.2.2
    have g1 := Int.mul_le_mul_of_nonneg_left r0.2 o.1.1
    have g2 := Int.mul_le_mul_of_nonneg_left u0.2 o.2.1
    unfold gFv at e
    omega
theorem gpR_rw (h : rP M) {W : Int} (hW : 0 ≤ W ∧ W ≤ 60) (hg : gpR M W) : ∀ k, 0 ≤ k → k ≤ M (M 1 3) 3 → rwG (M (120 + k)) ∧ rwGF (M (120 + k)) := by
  refine upto (M (M 1 3) 3) (fun k hk k0 k1 => ?_) (fun k hk ih k0 k1 => ?_)
  · have e : k = M (M 1 3) 3 := by omega
    rw [e]
    refine ⟨fun x x0 x1 => ?_, fun x x0 x1 => ?_⟩
    · rw [hg.2.1 x x0 x1]; split <;> omega
    · rw [hg.2.1 x x0 x1]; split <;> omega
  · have a := ih (by omega) (by omega)
    rw [show 120 + (k + 1) = 121 + k by omega] at a
    have b := h.1.1.2.2.2.2.2 k k0 hk
    have g := (hg.2.2 k k0 hk).2.2.2
    exact ⟨gMn_bd a.1 (lfT_bd h) (rO_bd hW b.2.1.1).1 (urK_bd hW b.2.2.1.1).1 b.2.2.1.1 b.2.1.1 g, rwGF_st a.1 a.2 (lfT_bd h) (rO_bd hW b.2.1.1) (urK_bd hW b.2.2.1.1) b.2.2.1.1 b.2.1.1 g⟩
theorem sc_205 (f : fr 205 205 M M1) : sc M M1 := ⟨fun a x y z => f a (by omega), fun j hj => by rw [f 145 (by omega)]⟩
end GAP5
