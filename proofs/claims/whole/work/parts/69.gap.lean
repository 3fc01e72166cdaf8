/-! gaps: counts of rows; the class's search -/
section GAP1
variable {L : Nat} {M M1 M2 : aM}
theorem aSet_uu {r i v u a b : Int} : aSet (aSet M r i u) r i v a b = aSet M r i v a b := by
  unfold aSet
  by_cases q : a = r ∧ b = i
  · rw [if_pos q, if_pos q]
  · rw [if_neg q, if_neg q, if_neg q]
def rO (W d : Int) : Int := if 0 < d ∧ W % d = 0 then W / d else 0
def rsN (p r q e : Int) : Int := if 0 < r ∧ 0 < e then min (p / r) (q / e) else 0
theorem rO_bd {W d : Int} (hW : 0 ≤ W ∧ W ≤ 60) (hd : 1 ≤ d) : 0 ≤ rO W d ∧ rO W d ≤ 60 := by
  unfold rO
  split
  · have a := Int.ediv_nonneg hW.1 (show 0 ≤ d by omega)
    have b := Int.ediv_le_self d hW.1
    omega
  · omega
theorem rsN_nn {p r q e : Int} (hp : 0 ≤ p) (hq : 0 ≤ q) : 0 ≤ rsN p r q e := by
  unfold rsN
  split
  · rename_i c
    have a := Int.ediv_nonneg hp (show 0 ≤ r by omega)
    have b := Int.ediv_nonneg hq (show 0 ≤ e by omega)
    omega
  · omega
theorem rsN_le {p r q e t : Int} (hp : 0 ≤ p) (hq : 0 ≤ q) (hr : 0 ≤ r) (he : 1 ≤ e) (t0 : 0 ≤ t) (ht : t ≤ rsN p r q e) : (0 ≤ t * r ∧ t * r ≤ p) ∧ (0 ≤ t * e ∧ t * e ≤ q) ∧ t ≤ t * e := by
  unfold rsN at ht
  have x1 := Int.mul_nonneg t0 hr
  have x2 := Int.mul_nonneg t0 (show 0 ≤ e by omega)
  have x3 := Int.mul_le_mul_of_nonneg_left he t0
  rw [Int.mul_one] at x3
  split at ht
  · rename_i c
    have a := Int.ediv_mul_le p (show r ≠ 0 by omega)
    have b := Int.ediv_mul_le q (show e ≠ 0 by omega)
    have a2 := Int.mul_le_mul_of_nonneg_right (show t ≤ p / r by omega) hr
    have b2 := Int.mul_le_mul_of_nonneg_right (show t ≤ q / e by omega) (show 0 ≤ e by omega)
    exact ⟨⟨x1, by omega⟩, ⟨x2, by omega⟩, x3⟩
  · have e0 : t = 0 := by omega
    rw [e0, Int.zero_mul, Int.zero_mul]
    exact ⟨⟨by omega, hp⟩, ⟨by omega, hq⟩, by omega⟩
/-- told rows t and turned rows m that can lie in x -/
def gOk (l tr ur br ln x t m : Int) : Prop := (0 ≤ t ∧ t ≤ rsN l tr x br) ∧ 0 ≤ m ∧ m ≤ rsN (l - t * tr) ur (x - t * br) ln
def gFv (P : Int → Int) (tr ur br ln x t m : Int) : Int := t * tr + m * ur + P (x - t * br - m * ln)
/-- v is the least -/
def gMn (P : Int → Int) (l tr ur br ln x v : Int) : Prop := v ≤ 1000000 ∧ (∀ t m, gOk l tr ur br ln x t m → v ≤ gFv P tr ur br ln x t m) ∧ (v = 1000000 ∨ ∃ t m, gOk l tr ur br ln x t m ∧ v = gFv P tr ur br ln x t m)
def rwG (P : Int → Int) : Prop := ∀ x, 0 ≤ x → x ≤ 60 → 0 ≤ P x ∧ P x ≤ 1000000
/-- what a pair in reach means -/
theorem gOk_bd {P : Int → Int} {l tr ur br ln x t m : Int} (hP : rwG P) (x0 : 0 ≤ x ∧ x ≤ 60) (l0 : 0 ≤ l ∧ l ≤ 99) (r0 : 0 ≤ tr) (u0 : 0 ≤ ur) (b1 : 1 ≤ br) (n1 : 1 ≤ ln) (o : gOk l tr ur br ln x t m) : (0 ≤ t * tr ∧ t * tr ≤ 99) ∧ (0 ≤ m * ur ∧ m * ur ≤ 99) ∧ (0 ≤ t * br ∧ t * br ≤ 60) ∧ (0 ≤ m * ln ∧ m * ln ≤ 60) ∧ (0 ≤ x - t * br - m * ln ∧ x - t * br - m * ln ≤ 60) ∧ (0 ≤ gFv P tr ur br ln x t m ∧ gFv P tr ur br ln x t m ≤ 1000198) ∧ t ≤ 60 ∧ m ≤ 60 := by
  obtain ⟨⟨t0, t1⟩, m0, m1⟩ := o
  obtain ⟨a1, a2, a3⟩ := rsN_le l0.1 x0.1 r0 b1 t0 t1
  obtain ⟨c1, c2, c3⟩ := rsN_le (show 0 ≤ l - t * tr by omega) (show 0 ≤ x - t * br by omega) u0 n1 m0 m1
  have p := hP (x - t * br - m * ln) (by omega) (by omega)
  unfold gFv
  omega
theorem p_119 {k : Int} (h : 0 ≤ k) (h2 : k < 15) : aK (SH L) (120 + k) = 1 ∧ aL (SH L) (120 + k) = 61 ∧ aLn (SH L) 1 (120 + k) = 61 := by
  have q : k = 0 ∨ k = 1 ∨ k = 2 ∨ k = 3 ∨ k = 4 ∨ k = 5 ∨ k = 6 ∨ k = 7 ∨ k = 8 ∨ k = 9 ∨ k = 10 ∨ k = 11 ∨ k = 12 ∨ k = 13 ∨ k = 14 := by omega
  rcases q with rfl | rfl | rfl | rfl | rfl | rfl | rfl | rfl | rfl | rfl | rfl | rfl | rfl | rfl | rfl <;> exact ⟨rfl, rfl, rfl⟩
theorem s_151s {T k x l tr ur br ln : Int} (ht : isTx T) (h14 : M T 3 ≤ 14) (e6 : M 118 6 = T) (k0 : 0 ≤ k) (k1 : k < M T 3) (x0 : 0 ≤ x ∧ x ≤ 60) (hP : rwG (M (121 + k))) (el : M 135 k = l) (et : M 136 k = tr) (eu : M 137 k = ur) (eb : M (T + 4) k = br) (en : M (T + 3) k = ln) (l0 : 0 ≤ l ∧ l ≤ 99) (r0 : 0 ≤ tr ∧ tr ≤ 60) (u0 : 0 ≤ ur ∧ ur ≤ 60) (b1 : 1 ≤ br ∧ br ≤ 60) (n1 : 1 ≤ ln ∧ ln ≤ 60) (c0 : M (120 + k) x = 1000000) :
    ∃ M1 v, aE 151 [aR 118, aI k, aI x, aI 1] (SH L) M ([aI x], SH L, M1) ∧ gMn (M (121 + k)) l tr ur br ln x v ∧ (∀ a, a ≠ 118 → a ≠ 120 + k → M1 a = M a) ∧ (∀ j, j ≠ 0 → j ≠ 1 → M1 118 j = M 118 j) ∧ (∀ y, y ≠ x → M1 (120 + k) y = M (120 + k) y) ∧ M1 (120 + k) x = v := by
  have tl := tx_le ht
  have l135 : aLn (SH L) 1 135 = 14 := rfl
  have l136 : aLn (SH L) 1 136 = 14 := rfl
  have l137 : aLn (SH L) 1 137 = 14 := rfl
  have l119 : aLn (SH L) 6 119 = 15 := rfl
  have a119 := ar_119 (L := L) k0 (show k < 15 by omega)
  have a119' : aF (SH L) 119 (k + 1).toNat = 121 + k := by rw [ar_119 (by omega) (by omega)]; omega
  have p0 := (p_119 (L := L) k0 (show k < 15 by omega)).2.2
  have p1 : aLn (SH L) 1 (121 + k) = 61 := by
    have := (p_119 (L := L) (k := k + 1) (by omega) (by omega)).2.2
    rw [show 120 + (k + 1) = 121 + k by omega] at this
    exact this
  obtain ⟨F, hF⟩ : ∃ F, F = M (121 + k) := ⟨_, rfl⟩
  rw [← hF] at hP ⊢
  obtain ⟨K, hK⟩ : ∃ K, K = aSet (aSet M 118 0 0) 118 1 0 := ⟨_, rfl⟩
  have kc : ∀ a, a ≠ 118 → K a = M a := fun a ha => by rw [hK, aSet_c ha, aSet_c ha]
  have kj : ∀ j, j ≠ 0 → j ≠ 1 → K 118 j = M 118 j := fun j j2 j3 => by rw [hK, aSet_i j3, aSet_i j2]
  have bd := fun t m (o : gOk l tr ur br ln x t m) => gOk_bd hP x0 l0 r0.1 u0.1 b1.1 n1.1 o
  -- states: the row at x holds cur
  have st : ∀ c a : Int, a ≠ 120 + k → aSet K (120 + k) x c a = K a := fun c a ha => aSet_c ha
  have outer : ∀ t : Int, ∀ cur : Int, t ≤ rsN l tr x br → (0 ≤ cur ∧ cur ≤ 1000000) → (∀ t' m', gOk l tr ur br ln x t' m' → t < t' → cur ≤ gFv F tr ur br ln x t' m') → (cur = 1000000 ∨ ∃ t' m', gOk l tr ur br ln x t' m' ∧ cur = gFv F tr ur br ln x t' m') → ∃ v, aX xc_151 (aSeek xc_151 52) [aR 118, aI k, aI x, aI 1, aI br, aI ln, aI t, aU, aU, aU, aU, aU] [] (SH L) (aSet K (120 + k) x cur) ([aI x], SH L, aSet K (120 + k) x v) ∧ gMn F l tr ur br ln x v := by
    refine downto (-1) (fun t ht' cur t1 cb hle hat => ?_) (fun t ht' ih cur t1 cb hle hat => ?_)
    · exact ⟨cur, bl_151_52 ⟨fun _ => rfl, fun q => absurd (by omega) q⟩, cb.2, fun t' m' o => hle t' m' o (by have := o.1.1; omega), hat⟩
    · obtain ⟨w1, w2, w3⟩ := rsN_le l0.1 x0.1 r0.1 b1.1 (show 0 ≤ t by omega) t1
      have inner : ∀ m : Int, ∀ cur : Int, m ≤ rsN (l - t * tr) ur (x - t * br) ln → (0 ≤ cur ∧ cur ≤ 1000000) → (∀ t' m', gOk l tr ur br ln x t' m' → (t < t' ∨ t' = t ∧ m < m') → cur ≤ gFv F tr ur br ln x t' m') → (cur = 1000000 ∨ ∃ t' m', gOk l tr ur br ln x t' m' ∧ cur = gFv F tr ur br ln x t' m') → ∃ v, aX xc_151 (aSeek xc_151 101) [aR 118, aI k, aI x, aI 1, aI br, aI ln, aI t, aU, aI (x - t * br), aI m, aU, aU] [] (SH L) (aSet K (120 + k) x cur) ([aI x], SH L, aSet K (120 + k) x v) ∧ gMn F l tr ur br ln x v := by
        refine downto (-1) (fun m hm cur m1 cb hle hat => ?_) (fun m hm ihm cur m1 cb hle hat => ?_)
        · obtain ⟨v, r, z⟩ := ih cur (by omega) cb (fun t' m' o q => hle t' m' o (by
            by_cases e : t' = t
            · exact Or.inr ⟨e, by have := o.2.1; omega⟩
            · exact Or.inl (by omega))) hat
          refine ⟨v, bl_151_101 ⟨fun _ => ?_, fun q => absurd (by omega) q⟩, z⟩
          rw [aWi (by omega) (by omega)]
          exact r
        · have o : gOk l tr ur br ln x t m := ⟨⟨by omega, t1⟩, by omega, m1⟩
          obtain ⟨y1, y2, y3, y4, y5, y6, y7, y8⟩ := bd t m o
          obtain ⟨v, r, z⟩ := ihm (min cur (gFv F tr ur br ln x t m)) (by omega) (by omega) (fun t' m' o' q => by
            by_cases e : t' = t ∧ m' = m
            · rw [e.1, e.2]; omega
            · have := hle t' m' o' (by omega); omega) (by
            by_cases q : cur ≤ gFv F tr ur br ln x t m
            · rw [show min cur (gFv F tr ur br ln x t m) = cur by omega]; exact hat
            · exact Or.inr ⟨t, m, o, by omega⟩)
          refine ⟨v, bl_151_101 ⟨fun q => absurd q (by omega), fun _ => ?_⟩, z⟩
          rw [aWi (z := m * ln) (by omega) (by omega), aWi (z := x - t * br - m * ln) (by omega) (by omega), aWi (z := k + 1) (by omega) (by omega), a119, a119', p0, p1, st cur 136 (by omega), st cur 137 (by omega), kc 136 (by omega), kc 137 (by omega), et, eu, st cur (121 + k) (by omega), kc (121 + k) (by omega), ← hF, aSet_e, aWi (z := t * tr) (by omega) (by omega), aWi (z := m * ur) (by omega) (by omega), aWi (z := t * tr + m * ur) (by omega) (by omega), show t * tr + m * ur + F (x - t * br - m * ln) = gFv F tr ur br ln x t m from rfl, aWi (z := gFv F tr ur br ln x t m) (by omega) (by omega)]
          refine ⟨fun q => absurd q (by omega), fun _ => ⟨fun _ => ⟨by omega, by omega, by omega, by omega, fun q => absurd q (by decide), fun _ => ⟨by omega, by omega, by omega, by omega, bl_151_220 ?_⟩⟩, fun q => absurd (by omega) q⟩⟩
          rw [aWi (z := m + (-1)) (by omega) (by omega), show aSet (aSet K (120 + k) x cur) (120 + k) x (min cur (gFv F tr ur br ln x t m)) = aSet K (120 + k) x (min cur (gFv F tr ur br ln x t m)) by
            funext a b
            exact aSet_uu]
          exact r
      have s150 : aE 150 [aI (l - t * tr), aI ur, aI (x - t * br), aI ln] (SH L) (aSet K (120 + k) x cur) ([aI (rsN (l - t * tr) ur (x - t * br) ln)], SH L, aSet K (120 + k) x cur) := s_150 (by omega) (by omega) (by omega) (by omega)
      obtain ⟨v, r, z⟩ := inner (rsN (l - t * tr) ur (x - t * br) ln) cur (Int.le_refl _) cb (fun t' m' o q => hle t' m' o (by
        rcases q with q | ⟨q1, q2⟩
        · exact q
        · have := o.2.2; rw [q1] at this; omega)) hat
      refine ⟨v, bl_151_52 ⟨fun q => absurd q (by omega), fun _ => ?_⟩, z⟩
      rw [st cur 135 (by omega), st cur 136 (by omega), st cur 137 (by omega), kc 135 (by omega), kc 136 (by omega), kc 137 (by omega), el, et, eu, aWi (z := t * tr) (by omega) (by omega), aWi (z := l - t * tr) (by omega) (by omega), aWi (z := t * br) (by omega) (by omega), aWi (z := x - t * br) (by omega) (by omega)]
      exact ⟨by omega, by omega, by omega, _, _, s150, r⟩
  have kx : aSet K (120 + k) x 1000000 = K := by
    funext a b
    show (if a = 120 + k ∧ b = x then (1000000 : Int) else K a b) = K a b
    by_cases q : a = 120 + k ∧ b = x
    · rw [if_pos q, q.1, q.2, kc (120 + k) (by omega), c0]
    · rw [if_neg q]
  obtain ⟨v, r, z⟩ := outer (rsN l tr x br) 1000000 (Int.le_refl _) (by omega) (fun t' m' o q => by have := o.1.2; omega) (Or.inl rfl)
  rw [kx] at r
  have s150 : aE 150 [aI l, aI tr, aI x, aI br] (SH L) K ([aI (rsN l tr x br)], SH L, K) := s_150 (by omega) (by omega) (by omega) (by omega)
  refine ⟨aSet K (120 + k) x v, v, en_151 ?_, z, fun a a1 a2 => by rw [aSet_c a2, kc a a1], fun j j0 j1 => by rw [aSet_r (by omega)]; exact kj j j0 j1, fun y hy => by rw [aSet_i hy, kc _ (by omega)], aSet_e⟩
  rw [← hK, kj 6 (by omega) (by omega), e6]
  simp only [tx ht]
  rw [kc (T + 4) (by omega), kc (T + 3) (by omega), eb, en, kc 135 (by omega), kc 136 (by omega), el, et]
  exact ⟨trivial, by omega, trivial, by omega, by omega, by omega, K, _, s150, r⟩
end GAP1
