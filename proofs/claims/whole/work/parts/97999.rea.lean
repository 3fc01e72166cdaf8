/-! reading: read, both sides -/
section REA
variable {L : Nat} {M : aM}
/-- what read leaves in any case -/
def rdF (M Z : aM) : Prop := (∀ a, a < 145 → a ≠ 1 → a ≠ 31 → (a < 3 ∨ 8 < a) → (a < M 1 4 ∨ M 1 4 + 10 < a) → Z a = M a) ∧ (∀ j, j ≠ 0 → j ≠ 8 → Z 31 j = M 31 j) ∧ (∀ j, j ≠ 1 → (j < 3 ∨ 6 < j) → j ≠ 9 → j ≠ 10 → Z 1 j = M 1 j) ∧
  (∀ j, j ≠ 0 → j ≠ 2 → j ≠ 40 → (j < 7 ∨ 11 < j) → (j < 53 ∨ 57 < j) → Z 145 j = M 145 j) ∧ (∀ a b, 145 < a → ¬ zR a b → ¬ (147 ≤ a ∧ a ≤ 150) → ¬ cpR a b → ¬ ((a = 179 ∨ a = 180) ∧ b = 0) → Z a b = M a b) ∧ (Z 1 1 = 0 ∧ Z 145 0 = 0 ∧ Z 1 6 = Z 145 9) ∧ b3 Z
def rdN (M Z : aM) : Prop := (∀ j, j ≠ 1 → j ≠ 6 → Z 1 j = M 1 j) ∧ Z 31 = M 31 ∧ Z 145 40 = M 145 40 ∧ ∀ a b, 145 < a → ¬ zR a b → ¬ (147 ≤ a ∧ a ≤ 150) → Z a b = M a b
def rdY (M Z : aM) : Prop := (Z 1 3 = M 1 4 ∧ Z 1 4 = M 1 3 ∧ Z 1 5 = M 1 5 + 1 ∧ Z 1 9 = M 1 9 + 1 ∧ Z 1 10 = M 1 10 + 1) ∧ (Z 31 0 = 0 ∧ Z 31 8 = 0 ∧ Z 179 0 = 0 ∧ Z 180 0 = 0) ∧ Z 145 40 = M 145 40 + 1 ∧ rT Z (M 1 4) ∧ rW Z (M 1 4)
theorem o_read (hr : tR M) (t3 : isTx (M 1 3)) (t4 : isTx (M 1 4)) (hb : b3 M) (n5 : 0 ≤ M 1 5 ∧ M 1 5 ≤ 10000) (n9 : (0 ≤ M 1 9 ∧ M 1 9 ≤ 100000) ∧ 0 ≤ M 1 10 ∧ M 1 10 ≤ 100000) (e40 : M 145 40 = M 1 5 + 1) : ∃ v K Z, aE 53 [aR 1] (SH L) M ([aI v], SH L, K) ∧ aE 214 [aR 145] (SH L) K ([aI v], SH L, Z) ∧ rdF M Z ∧ ((¬ v = 0 ∧ rdN M Z) ∨ (v = 0 ∧ rdY M Z)) := by
  have b4 := tx_le t4
  have b3_ := tx_le t3
  obtain ⟨C1, -, run, -, -, -, cf, -, -⟩ := parse_pair (L := L) (K := M) hr ⟨rfl, rfl⟩ t4 hb
  have c1 : C1 1 = M 1 := cf 1 (by omega) (by omega)
  obtain ⟨Cz, hCz⟩ : ∃ Cz, Cz = aSet (aSet C1 1 1 0) 1 6 (C1 3 1) := ⟨_, rfl⟩
  have eCz : aSet (aSet C1 1 1 0) 1 6 ((aSet C1 1 1 0) 3 1) = Cz := by rw [aSet_c (show (3 : Int) ≠ 1 by omega), hCz]
  have za : ∀ a, a ≠ 1 → Cz a = C1 a := fun a ha => by rw [hCz, aSet_c ha, aSet_c ha]
  have z1 : ∀ j, j ≠ 1 → j ≠ 6 → Cz 1 j = M 1 j := fun j x y => by rw [hCz, aSet_i y, aSet_i x, c1]
  have z11 : Cz 1 1 = 0 := by rw [hCz, aSet_i (by omega), aSet_e]
  have z16 : Cz 1 6 = C1 3 1 := by rw [hCz, aSet_e]
  -- the reference, from a memory with the class's end
  have ref : ∀ K : aM, (∀ a, 31 < a → K a = M a) → ∃ Rf, (∀ o, aX xc_214 (aSeek xc_214 54) [aR 145] [] (SH L) Rf o → aE 214 [aR 145] (SH L) K o) ∧ (Rf 145 8 = C1 3 0 ∧ Rf 145 9 = C1 3 1) ∧ (C1 3 0 = 0 → C1 3 5 = 0 ∧ ∃ N h1, RD C1 Rf N (M 1 4) h1) ∧ (∀ a b, ¬ zR a b → ¬ (147 ≤ a ∧ a ≤ 150) → ¬ (a = 145 ∧ b = 2) → Rf a b = K a b) ∧ b3 Rf := by
    intro K hK
    obtain ⟨C2, Rf, run2, x1, x2, x3, x4, x5, x6⟩ := parse_pair (L := L) (K := K) hr ⟨by rw [hK 145 (by omega)], hK 146 (by omega)⟩ t4 (fun i i0 i1 => by rw [hK 173 (by omega)]; exact hb i i0 i1)
    have e : C1 = C2 := congrArg (fun o => o.2.2) (aE_det run run2)
    rw [← e] at x2 x3
    exact ⟨Rf, x1, x2, x3, x5, x6⟩
  by_cases f : C1 3 0 = 0
  · obtain ⟨X1, hX1⟩ : ∃ X1, X1 = aSet (aSet (aSet Cz 1 3 (M 1 4)) 1 4 (M 1 3)) 1 5 (M 1 5 + 1) := ⟨_, rfl⟩
    obtain ⟨K, hK⟩ : ∃ K, K = aSet (aSet (aSet (aSet X1 31 0 0) 31 8 0) 1 9 (M 1 9 + 1)) 1 10 (M 1 10 + 1) := ⟨_, rfl⟩
    have x1a : ∀ a, a ≠ 1 → X1 a = C1 a := fun a ha => by rw [hX1, aSet_c ha, aSet_c ha, aSet_c ha, za a ha]
    have x1j : ∀ j, j ≠ 1 → (j < 3 ∨ 6 < j) → X1 1 j = M 1 j := fun j x y => by rw [hX1, aSet_i (by omega), aSet_i (by omega), aSet_i (by omega), z1 j x (by omega)]
    have ka : ∀ a, a ≠ 1 → a ≠ 31 → K a = C1 a := fun a x y => by rw [hK, aSet_c x, aSet_c x, aSet_c y, aSet_c y, x1a a x]
    have kj : ∀ j, j ≠ 9 → j ≠ 10 → K 1 j = X1 1 j := fun j x y => by rw [hK, aSet_i y, aSet_i x, aSet_c (by omega), aSet_c (by omega)]
    have k31 : ∀ j, j ≠ 0 → j ≠ 8 → K 31 j = M 31 j := fun j x y => by rw [hK, aSet_c (by omega), aSet_c (by omega), aSet_i y, aSet_i x, x1a 31 (by omega), cf 31 (by omega) (by omega)]
    have e52 : aE 52 [aR 1] (SH L) Cz ([], SH L, K) := by
      have i5 : (aSet (aSet Cz 1 3 (M 1 4)) 1 4 (M 1 3)) 1 5 = M 1 5 := by rw [aSet_i (by omega), aSet_i (by omega), z1 5 (by omega) (by omega)]
      have i9 : (aSet (aSet X1 31 0 0) 31 8 0) 1 9 = M 1 9 := by rw [aSet_c (by omega), aSet_c (by omega), x1j 9 (by omega) (by omega)]
      have i10 : (aSet (aSet (aSet X1 31 0 0) 31 8 0) 1 9 (M 1 9 + 1)) 1 10 = M 1 10 := by rw [aSet_i (by omega), aSet_c (by omega), aSet_c (by omega), x1j 10 (by omega) (by omega)]
      have w5 : aW (M 1 5 + 1) = M 1 5 + 1 := aWi (by omega) (by omega)
      have w9 : aW (M 1 9 + 1) = M 1 9 + 1 := aWi (by omega) (by omega)
      have w10 : aW (M 1 10 + 1) = M 1 10 + 1 := aWi (by omega) (by omega)
      have h4 := z1 4 (by omega) (by omega)
      have h3 := z1 3 (by omega) (by omega)
      refine en_52 ⟨⟨rfl, by omega⟩, ⟨rfl, by omega⟩, K, en_51 ?_, rfl⟩
      rw [h4, h3, i5, w5, ← hX1, i9, w9, i10, w10, ← hK]
    obtain ⟨Rf, r1, r2, r3, r4, r5⟩ := ref K (fun a ha => by rw [ka a (by omega) (by omega)]; exact cf a (by omega) (by omega))
    obtain ⟨c5, N, h1, d⟩ := r3 f
    obtain ⟨Rg, hRg⟩ : ∃ Rg, Rg = aSet Rf 145 0 0 := ⟨_, rfl⟩
    have ga : ∀ a, a ≠ 145 → Rg a = Rf a := fun a ha => by rw [hRg, aSet_c ha]
    have gj : ∀ j, j ≠ 0 → Rg 145 j = Rf 145 j := fun j hj => by rw [hRg, aSet_i hj]
    obtain ⟨Z, q1, q2, q3, q4, q5⟩ := s_205 (L := L) (R := Rg) (fun i i0 i1 => by rw [ga 173 (by omega)]; exact r5 i (by omega) i1)
    have q3' : ∀ a b, ¬ cpR a b → ¬ ((a = 179 ∨ a = 180) ∧ b = 0) → ¬ (a = 145 ∧ b = 40) → Z a b = Rg a b := q3
    have zlow : ∀ a, a < 145 → Z a = K a := fun a ha => funext fun b => by
      rw [q3' a b (by unfold cpR; omega) (by omega) (by omega), ga a (by omega), r4 a b (by unfold zR; omega) (by omega) (by omega)]
    have z145 : ∀ j, j ≠ 0 → j ≠ 40 → Z 145 j = Rf 145 j := fun j x y => by rw [q3' 145 j (by unfold cpR; omega) (by omega) (by omega), gj j x]
    have z8 : Z 145 8 = 0 := by rw [z145 8 (by omega) (by omega), r2.1, f]
    have shG : ∀ a, a ≠ 145 → shR Rg a = shR Rf a := fun a ha => by funext b; unfold shR; rw [ga a ha]
    have zr : ∀ a b, cpR a b → Z a b = shR Rf a b := fun a b h => by rw [q2 a b h, shG a (by unfold cpR at h; omega)]
    have zc : ∀ a, M 1 4 ≤ a → a ≤ M 1 4 + 10 → Z a = C1 a := fun a x y => by rw [zlow a (by omega), ka a (by omega) (by omega)]
    have hi : ∀ a, 31 < a → K a = M a := fun a ha => by rw [ka a (by omega) (by omega)]; exact cf a (by omega) (by omega)
    have n16 : X1 1 6 = C1 3 1 := by rw [hX1, aSet_i (by omega), aSet_i (by omega), aSet_i (by omega), z16]
    have n11 : X1 1 1 = 0 := by rw [hX1, aSet_i (by omega), aSet_i (by omega), aSet_i (by omega), z11]
    refine ⟨0, K, Z, en_53 ⟨C1, run, fun q => absurd (by rw [eCz, za 3 (by omega)]; exact f) q, fun _ => ⟨K, by rw [eCz]; exact e52, by rw [ka 3 (by omega) (by omega), f]⟩⟩, r1 _ (bl_214_54 ⟨fun q => absurd (by rw [aSet_i (by omega), r2.1]; exact f) q, fun _ => ⟨Z, by rw [← hRg]; exact q1, by rw [z8]⟩⟩), ⟨fun a x1 x2 x3 x4 x5 => ?_, fun j x y => ?_, fun j x1 x2 x3 x4 => ?_, fun j x1 x2 x3 x4 x5 => ?_, fun a b x1 x2 x3 x4 x5 => ?_, ⟨?_, ?_, ?_⟩, fun i i0 i1 => ?_⟩, Or.inr ⟨rfl, ⟨?_, ?_, ?_, ?_, ?_⟩, ⟨?_, ?_, q4.1, q4.2⟩, ?_, new_rT d c5 zc zr, new_rW d zc zr⟩⟩
    · rw [zlow a x1, ka a x2 x3, cf a x4 x5]
    · rw [zlow 31 (by omega), k31 j x y]
    · rw [zlow 1 (by omega), kj j x3 x4, x1j j x1 (by omega)]
    · rw [z145 j x1 x3, r4 145 j (by unfold zR; omega) (by omega) (by omega), hi 145 (by omega)]
    · rw [q3' a b x4 x5 (by omega), ga a (by omega), r4 a b x2 x3 (by omega), hi a (by omega)]
    · rw [zlow 1 (by omega), kj 1 (by omega) (by omega), n11]
    · rw [q3' 145 0 (by unfold cpR; omega) (by omega) (by omega), hRg, aSet_e]
    · rw [zlow 1 (by omega), kj 6 (by omega) (by omega), n16, z145 9 (by omega) (by omega), r2.2]
    · by_cases c : i < 200
      · rw [zr 173 i (by unfold cpR; omega), sh_l (by omega)]; exact r5 (200 + i) (by omega) (by omega)
      · rw [q3' 173 i (by unfold cpR; omega) (by omega) (by omega), ga 173 (by omega)]; exact r5 i i0 i1
    · rw [zlow 1 (by omega), kj 3 (by omega) (by omega), hX1, aSet_i (by omega), aSet_i (by omega), aSet_e]
    · rw [zlow 1 (by omega), kj 4 (by omega) (by omega), hX1, aSet_i (by omega), aSet_e]
    · rw [zlow 1 (by omega), kj 5 (by omega) (by omega), hX1, aSet_e]
    · rw [zlow 1 (by omega), hK, aSet_i (by omega), aSet_e]
    · rw [zlow 1 (by omega), hK, aSet_e]
    · rw [zlow 31 (by omega), hK, aSet_c (by omega), aSet_c (by omega), aSet_i (by omega), aSet_e]
    · rw [zlow 31 (by omega), hK, aSet_c (by omega), aSet_c (by omega), aSet_e]
    · rw [q5, gj 40 (by omega), r4 145 40 (by unfold zR; omega) (by omega) (by omega), hi 145 (by omega)]
      exact aWi (by omega) (by omega)
  · have hi : ∀ a, 31 < a → Cz a = M a := fun a ha => by rw [za a (by omega)]; exact cf a (by omega) (by omega)
    obtain ⟨Rf, r1, r2, -, r4, r5⟩ := ref Cz hi
    obtain ⟨Z, hZ⟩ : ∃ Z, Z = aSet Rf 145 0 0 := ⟨_, rfl⟩
    have ga : ∀ a, a ≠ 145 → Z a = Rf a := fun a ha => by rw [hZ, aSet_c ha]
    have gj : ∀ j, j ≠ 0 → Z 145 j = Rf 145 j := fun j hj => by rw [hZ, aSet_i hj]
    have zlow : ∀ a, a < 145 → Z a = Cz a := fun a ha => funext fun b => by rw [ga a (by omega), r4 a b (by unfold zR; omega) (by omega) (by omega)]
    refine ⟨C1 3 0, Cz, Z, en_53 ⟨C1, run, fun _ => by rw [eCz, za 3 (by omega)], fun q => absurd (by rw [eCz, za 3 (by omega)]; exact f) q⟩, r1 _ (bl_214_54 ⟨fun _ => by rw [aSet_i (by omega), r2.1, hZ], fun q => absurd (by rw [aSet_i (by omega), r2.1]; exact f) q⟩), ⟨fun a x1 x2 x3 x4 x5 => ?_, fun j x y => ?_, fun j x1 x2 x3 x4 => ?_, fun j x1 x2 x3 x4 x5 => ?_, fun a b x1 x2 x3 x4 x5 => ?_, ⟨?_, ?_, ?_⟩, fun i i0 i1 => ?_⟩, Or.inl ⟨f, fun j x y => ?_, ?_, ?_, fun a b x1 x2 x3 => ?_⟩⟩
    · rw [zlow a x1, za a x2, cf a x4 x5]
    · rw [zlow 31 (by omega), za 31 (by omega), cf 31 (by omega) (by omega)]
    · rw [zlow 1 (by omega), z1 j x1 (by omega)]
    · rw [gj j x1, r4 145 j (by unfold zR; omega) (by omega) (by omega), hi 145 (by omega)]
    · rw [ga a (by omega), r4 a b x2 x3 (by omega), hi a (by omega)]
    · rw [zlow 1 (by omega), z11]
    · rw [hZ, aSet_e]
    · rw [zlow 1 (by omega), z16, gj 9 (by omega), r2.2]
    · rw [ga 173 (by omega)]; exact r5 i i0 i1
    · rw [zlow 1 (by omega), z1 j x y]
    · rw [zlow 31 (by omega), za 31 (by omega), cf 31 (by omega) (by omega)]
    · rw [gj 40 (by omega), r4 145 40 (by unfold zR; omega) (by omega) (by omega), hi 145 (by omega)]
    · rw [ga a (by omega), r4 a b x2 x3 (by omega), hi a (by omega)]
end REA
