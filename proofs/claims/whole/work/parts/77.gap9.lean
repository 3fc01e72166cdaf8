/-! gaps: the choice is the same one -/
section GAP9
variable {L : Nat} {M M1 M2 : aM}
theorem ab_fin (h : rP M) {W k x : Int} (hW : 0 ≤ W ∧ W ≤ 60) (hg : gpR M W) (k0 : 0 ≤ k) (k1 : k < M (M 1 3) 3) (x0 : 0 ≤ x ∧ x ≤ 60) (fi : M (120 + k) x < 1000000) : ∃ t m : Nat, abG M k x = ((t : Int), (m : Int)) ∧ gOk (lfT M k) (rO W (M (M 1 3 + 3) k)) (urK W (M (M 1 3 + 3) k) (M (M 1 3 + 4) k)) (M (M 1 3 + 4) k) (M (M 1 3 + 3) k) x t m ∧ gFv (M (121 + k)) (rO W (M (M 1 3 + 3) k)) (urK W (M (M 1 3 + 3) k) (M (M 1 3 + 4) k)) (M (M 1 3 + 4) k) (M (M 1 3 + 3) k) x t m = M (120 + k) x ∧
    ((∀ y, 0 ≤ y → y ≤ x → cvR (M (121 + k) y) (M 205 (61 * k + 61 + y))) → cvR (M (120 + k) x) (M 205 (61 * k + x)) → abH M k W x = ((t : Int), (m : Int))) := by
  have tk := h.1.1.2.2.2.2.2 k k0 k1
  have lb := lfT_bd h (k := k)
  obtain ⟨g1, g2, g3, gm⟩ := hg.2.2 k k0 k1
  have gm := gm x x0.1 x0.2
  have rb := (gpR_rw h hW hg (k + 1) (by omega) (by omega))
  rw [show 120 + (k + 1) = 121 + k by omega] at rb
  unfold abG abH
  rw [g1, g2, g3]
  have Qg : ∀ t m : Int, QG M k x t m = decide (gFv (M (121 + k)) (rO W (M (M 1 3 + 3) k)) (urK W (M (M 1 3 + 3) k) (M (M 1 3 + 4) k)) (M (M 1 3 + 4) k) (M (M 1 3 + 3) k) x t m = M (120 + k) x) := fun t m => by unfold QG; rw [g2, g3]
  have Qh : ∀ t m : Int, QH M k W x t m = decide (M 205 (61 * k + 61 + (x - t * M (M 1 3 + 4) k - m * M (M 1 3 + 3) k)) + t * rO W (M (M 1 3 + 3) k) + m * rO W (M (M 1 3 + 4) k) = M 205 (61 * k + x)) := fun t m => rfl
  obtain ⟨w, hw⟩ : ∃ w, w = M (M 1 3 + 3) k := ⟨_, rfl⟩
  obtain ⟨b, hb⟩ : ∃ b, b = M (M 1 3 + 4) k := ⟨_, rfl⟩
  obtain ⟨l, hl⟩ : ∃ l, l = lfT M k := ⟨_, rfl⟩
  obtain ⟨P, hP⟩ : ∃ P, P = M (121 + k) := ⟨_, rfl⟩
  obtain ⟨p, hp⟩ : ∃ p, p = M (120 + k) x := ⟨_, rfl⟩
  obtain ⟨G, hG⟩ : ∃ G, G = QG M k x := ⟨_, rfl⟩
  obtain ⟨E, hE⟩ : ∃ E, E = QH M k W x := ⟨_, rfl⟩
  rw [← hw, ← hb] at tk
  rw [← hw, ← hb, ← hl, ← hP, ← hp] at gm
  rw [← hl] at lb
  rw [← hP] at rb
  rw [← hp] at fi
  rw [← hw, ← hb, ← hl, ← hP, ← hp, ← hG, ← hE]
  rw [← hw, ← hb, ← hP, ← hp, ← hG] at Qg
  rw [← hw, ← hb, ← hE] at Qh
  have tb := rO_bd hW tk.2.1.1
  have ub := rO_bd hW tk.2.2.1.1
  have uk := urK_bd (w := w) hW tk.2.2.1.1
  have n0 := rsN_nn (p := l) (q := x) (r := rO W w) (e := b) lb.1 x0.1
  -- in range as numbers, in range as counts
  have inn : ∀ ur, 0 ≤ ur → ∀ t m : Nat, (t ≤ (rsN l (rO W w) x b).toNat ∧ m ≤ (rsN (l - (t : Int) * rO W w) ur (x - t * b) w).toNat) ↔ gOk l (rO W w) ur b w x t m := by
    intro ur u0 t m
    constructor
    · rintro ⟨a, c⟩
      have t1 : (t : Int) ≤ rsN l (rO W w) x b := by omega
      obtain ⟨b1, b2, -⟩ := rsN_le lb.1 x0.1 tb.1 tk.2.2.1.1 (show 0 ≤ (t : Int) by omega) t1
      have nn := rsN_nn (p := l - t * rO W w) (q := x - t * b) (r := ur) (e := w) (by omega) (by omega)
      exact ⟨⟨by omega, t1⟩, by omega, by omega⟩
    · rintro ⟨a, c⟩
      have a2 := a.2
      have c2 := c.2
      omega
  have atN : ∀ ur t m, gOk l (rO W w) ur b w x t m → ∃ t' m' : Nat, t = t' ∧ m = m' := fun ur t m o => ⟨t.toNat, m.toNat, (Int.toNat_of_nonneg o.1.1).symm, (Int.toNat_of_nonneg o.2.1).symm⟩
  have ex : ∃ t m : Nat, t ≤ (rsN l (rO W w) x b).toNat ∧ m ≤ (rsN (l - (t : Int) * rO W w) (urK W w b) (x - t * b) w).toNat ∧ G t m = true := by
    rcases gm.2.2 with c | ⟨t, m, o, e⟩
    · omega
    · obtain ⟨t', m', e1, e2⟩ := atN _ t m o
      subst e1 e2
      have i := (inn (urK W w b) uk.1 t' m').mpr o
      exact ⟨t', m', i.1, i.2, by rw [Qg]; exact decide_eq_true e.symm⟩
  obtain ⟨T, N, mx⟩ := pkG_at (Q := G) (R := fun t => (rsN (l - t * rO W w) (urK W w b) (x - t * b) w).toNat) (rsN l (rO W w) x b).toNat ex
  have okT := (inn (urK W w b) uk.1 T N).mp ⟨mx.1, mx.2.1⟩
  have val : gFv P (rO W w) (urK W w b) b w x T N = p := by
    have := mx.2.2.1
    rw [Qg] at this
    exact of_decide_eq_true this
  refine ⟨T, N, pkG_uq _ mx, okT, val, fun hH hx => pkG_uq _ ?_⟩
  obtain ⟨okM, eM⟩ := c2m lb x0 tb.1 tk.2.2.1.1 okT
  have iM := (inn (rO W b) ub.1 T N).mpr okM
  have hx2 : M 205 (61 * k + x) = p := by unfold cvR at hx; omega
  refine ⟨iM.1, iM.2, ?_, fun t' m' q1 q2 q3 => ?_⟩
  · obtain ⟨y1, y2, y3, y4, y5, -⟩ := gOk_b x0 lb tb.1 ub.1 tk.2.2.1.1 tk.2.1.1 okM
    have c := hH _ y5.1 y5.2
    unfold gFv at val
    rw [eM] at val
    unfold cvR at c
    rw [Qh, hx2]
    exact decide_eq_true (by omega)
  · cases z : E t' m'
    · rfl
    · have o := (inn (rO W b) ub.1 t' m').mp ⟨q1, q2⟩
      rw [Qh, hx2] at z
      have z := of_decide_eq_true z
      obtain ⟨y1, y2, y3, y4, y5, -⟩ := gOk_b x0 lb tb.1 ub.1 tk.2.2.1.1 tk.2.1.1 o
      have c := hH _ y5.1 y5.2
      unfold cvR at c
      obtain ⟨t2, m2, o2, e1, e2, e3, e4⟩ := m2c lb x0 hW tk.2.1.1 tk.2.2.1.1 o
      obtain ⟨t3, m3, e5, e6⟩ := atN _ t2 m2 o2
      subst e5 e6
      have i2 := (inn (urK W w b) uk.1 t3 m3).mpr o2
      have := mx.2.2.2 t3 m3 i2.1 i2.2 (by omega)
      rw [Qg] at this
      refine absurd ?_ (of_decide_eq_false this)
      unfold gFv
      rw [e1, e2]
      omega
end GAP9
