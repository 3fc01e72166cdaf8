/-! gaps: the model's least -/
section GAP4
variable {L : Nat} {M M1 M2 : aM}
theorem s_290 {k o W w h : Int} (k0 : 0 ≤ k) (k1 : k < 14) (hW : 0 ≤ W ∧ W ≤ 60) (ew : M 155 k = w) (eh : M 156 k = h) (w1 : 1 ≤ w ∧ w ≤ 60) (h1 : 1 ≤ h ∧ h ≤ 60) : aE 290 [aR 145, aI k, aI o, aI W] (SH L) M ([aI (rO W (if o = 0 then w else h))], SH L, M) := by
  have l155 : aLn (SH L) 1 155 = 28 := rfl
  have l156 : aLn (SH L) 1 156 = 28 := rfl
  have go : ∀ d : Int, 1 ≤ d → d ≤ 60 → aX xc_290 (aSeek xc_290 19) [aU, aU, aU, aI W, aU] [aI d] (SH L) M ([aI (rO W d)], SH L, M) := by
    intro d d1 d2
    have e1 := aRem_nn (x := W) (y := d) hW.1 (by omega) (by omega) (by omega)
    have e2 := aDiv_nn (x := W) (y := d) hW.1 (by omega) (by omega) (by omega)
    unfold rO
    refine bl_290_19 ⟨by omega, fun q => rI ?_, fun q => ⟨by omega, rI ?_⟩⟩
    · rw [e1] at q; rw [if_neg (fun z => q z.2)]
    · rw [e1] at q; rw [if_pos ⟨by omega, Classical.not_not.mp q⟩, e2]
  refine en_290 ⟨fun q => ⟨by omega, ?_⟩, fun q => ⟨by omega, ?_⟩⟩
  · rw [if_pos q, ew]; exact go w w1.1 w1.2
  · rw [if_neg q, eh]; exact go h h1.1 h1.2
theorem s_291 {k o W w h x l : Int} (k0 : 0 ≤ k) (k1 : k < 14) (hW : 0 ≤ W ∧ W ≤ 60) (ew : M 155 k = w) (eh : M 156 k = h) (w1 : 1 ≤ w ∧ w ≤ 60) (h1 : 1 ≤ h ∧ h ≤ 60) (x0 : 0 ≤ x ∧ x ≤ 60) (l0 : 0 ≤ l ∧ l ≤ 99) : aE 291 [aR 145, aI k, aI o, aI W, aI x, aI l] (SH L) M ([aI (rsN l (rO W (if o = 0 then w else h)) x (if o = 0 then h else w))], SH L, M) := by
  have l155 : aLn (SH L) 1 155 = 28 := rfl
  have l156 : aLn (SH L) 1 156 = 28 := rfl
  have go : ∀ d e : Int, 1 ≤ d → d ≤ 60 → 1 ≤ e → e ≤ 60 → aX xc_291 (aSeek xc_291 28) [aU, aU, aU, aU, aI x, aI l, aI (rO W d), aU] [aI e] (SH L) M ([aI (rsN l (rO W d) x e)], SH L, M) := by
    intro d e d1 d2 e1 e2
    have b := rO_bd hW d1
    unfold rsN
    refine bl_291_28 ⟨fun q => ?_, fun q => rI ?_⟩
    · have x1 := aDiv_nn (x := l) (y := rO W d) l0.1 (by omega) (by omega) (by omega)
      have x2 := aDiv_nn (x := x) (y := e) x0.1 (by omega) (by omega) (by omega)
      rw [if_pos ⟨by omega, by omega⟩, x1, x2]
      refine ⟨by omega, by omega, fun z => ⟨by omega, rI ?_⟩, fun z => ⟨by omega, rI ?_⟩⟩
      · omega
      · omega
    · rw [if_neg (fun z => q (by omega))]
  refine en_291 ⟨M, _, s_290 k0 k1 hW ew eh w1 h1, fun q => ⟨by omega, ?_⟩, fun q => ⟨by omega, ?_⟩⟩
  · rw [if_pos q, if_pos q, eh]; exact go w h w1.1 w1.2 h1.1 h1.2
  · rw [if_neg q, if_neg q, ew]; exact go h w h1.1 h1.2 w1.1 w1.2
theorem gOk_b {l tr ur br ln x t m : Int} (x0 : 0 ≤ x ∧ x ≤ 60) (l0 : 0 ≤ l ∧ l ≤ 99) (r0 : 0 ≤ tr) (u0 : 0 ≤ ur) (b1 : 1 ≤ br) (n1 : 1 ≤ ln) (o : gOk l tr ur br ln x t m) : (0 ≤ t * tr ∧ t * tr ≤ 99) ∧ (0 ≤ m * ur ∧ m * ur ≤ 99) ∧ (0 ≤ t * br ∧ t * br ≤ 60) ∧ (0 ≤ m * ln ∧ m * ln ≤ 60) ∧ (0 ≤ x - t * br - m * ln ∧ x - t * br - m * ln ≤ x) ∧ t ≤ 60 ∧ m ≤ 60 := by
  have := gOk_bd (P := fun _ => 0) (fun _ _ _ => ⟨Int.le_refl _, by show (0 : Int) ≤ 1000000; omega⟩) x0 l0 r0 u0 b1 n1 o
  omega
/-- the model's least: as the class's, but the cap is higher -/
theorem s_292 {k W w h x l : Int} (k0 : 0 ≤ k) (k1 : k < 14) (hW : 0 ≤ W ∧ W ≤ 60) (ew : M 155 k = w) (eh : M 156 k = h) (w1 : 1 ≤ w ∧ w ≤ 60) (h1 : 1 ≤ h ∧ h ≤ 60) (x0 : 0 ≤ x ∧ x ≤ 60) (l0 : 0 ≤ l ∧ l ≤ 99) (vb : ∀ y, 0 ≤ y → y ≤ x → 0 ≤ M 205 (61 * k + 61 + y) ∧ M 205 (61 * k + 61 + y) ≤ 100000000) :
    ∃ v, aE 292 [aR 145, aI k, aI W, aI x, aI l] (SH L) M ([aI v], SH L, M) ∧ (0 ≤ v ∧ v ≤ 100000000) ∧ (∀ t m, gOk l (rO W w) (rO W h) h w x t m → v ≤ M 205 (61 * k + 61 + (x - t * h - m * w)) + t * rO W w + m * rO W h) ∧ (v = 100000000 ∨ ∃ t m, gOk l (rO W w) (rO W h) h w x t m ∧ v = M 205 (61 * k + 61 + (x - t * h - m * w)) + t * rO W w + m * rO W h) := by
  have l205 : aLn (SH L) 1 205 = 915 := rfl
  have l155 : aLn (SH L) 1 155 = 28 := rfl
  have l156 : aLn (SH L) 1 156 = 28 := rfl
  have tb := rO_bd hW w1.1
  have ub := rO_bd hW h1.1
  have q0 : aE 290 [aR 145, aI k, aI 0, aI W] (SH L) M ([aI (rO W w)], SH L, M) := s_290 k0 k1 hW ew eh w1 h1
  have q1 : aE 290 [aR 145, aI k, aI 1, aI W] (SH L) M ([aI (rO W h)], SH L, M) := s_290 k0 k1 hW ew eh w1 h1
  have n0 : ∀ x l, (0 ≤ x ∧ x ≤ 60) → (0 ≤ l ∧ l ≤ 99) → aE 291 [aR 145, aI k, aI 0, aI W, aI x, aI l] (SH L) M ([aI (rsN l (rO W w) x h)], SH L, M) := fun x l x0 l0 => s_291 k0 k1 hW ew eh w1 h1 x0 l0
  have n1 : ∀ x l, (0 ≤ x ∧ x ≤ 60) → (0 ≤ l ∧ l ≤ 99) → aE 291 [aR 145, aI k, aI 1, aI W, aI x, aI l] (SH L) M ([aI (rsN l (rO W h) x w)], SH L, M) := fun x l x0 l0 => s_291 k0 k1 hW ew eh w1 h1 x0 l0
  obtain ⟨tr, htr⟩ : ∃ tr, tr = rO W w := ⟨_, rfl⟩
  obtain ⟨ur, hur⟩ : ∃ ur, ur = rO W h := ⟨_, rfl⟩
  rw [← htr] at tb q0 n0 ⊢
  rw [← hur] at ub q1 n1 ⊢
  obtain ⟨f, hf⟩ : ∃ f : Int → Int → Int, f = fun t m => M 205 (61 * k + 61 + (x - t * h - m * w)) + t * tr + m * ur := ⟨_, rfl⟩
  have fe : ∀ t m : Int, M 205 (61 * k + 61 + (x - t * h - m * w)) + t * tr + m * ur = f t m := fun t m => by rw [hf]
  have bd := fun t m (o : gOk l tr ur h w x t m) => gOk_b x0 l0 tb.1 ub.1 h1.1 w1.1 o
  have fb : ∀ t m, gOk l tr ur h w x t m → 0 ≤ f t m ∧ f t m ≤ 100000198 := by
    intro t m o
    obtain ⟨y1, y2, y3, y4, y5, -⟩ := bd t m o
    have := vb (x - t * h - m * w) y5.1 y5.2
    rw [← fe]; omega
  have R0 := rsN_nn (p := l) (q := x) (r := tr) (e := h) l0.1 x0.1
  have outer : ∀ t : Int, ∀ best, 0 ≤ t → t ≤ rsN l tr x h + 1 → 0 ≤ best ∧ best ≤ 100000000 → (∀ t' m', gOk l tr ur h w x t' m' → t' < t → best ≤ f t' m') → (best = 100000000 ∨ ∃ t' m', gOk l tr ur h w x t' m' ∧ best = f t' m') → ∃ v, aX xc_292 (aSeek xc_292 26) [aR 145, aI k, aI W, aI x, aI l, aI best, aI tr, aI ur, aI t, aU, aU, aU, aU] [] (SH L) M ([aI v], SH L, M) ∧ (0 ≤ v ∧ v ≤ 100000000) ∧ (∀ t m, gOk l tr ur h w x t m → v ≤ f t m) ∧ (v = 100000000 ∨ ∃ t m, gOk l tr ur h w x t m ∧ v = f t m) := by
    refine upto (rsN l tr x h + 1) (fun t ht best t0 t1 bb hle hat => ?_) (fun t ht ih best t0 t1 bb hle hat => ?_)
    · exact ⟨best, bl_292_26 ⟨M, _, n0 x l x0 l0, fun _ => rfl, fun q => absurd (by omega) q⟩, bb, fun t' m' o => hle t' m' o (by have := o.1.2; omega), hat⟩
    · obtain ⟨z1, z2, z3⟩ := rsN_le l0.1 x0.1 tb.1 h1.1 t0 (show t ≤ rsN l tr x h by omega)
      have R1 := rsN_nn (p := l - t * tr) (q := x - t * h) (r := ur) (e := w) (by omega) (by omega)
      have s1 := n1 (x - t * h) (l - t * tr) (by omega) (by omega)
      have inner : ∀ m : Int, ∀ best, 0 ≤ m → m ≤ rsN (l - t * tr) ur (x - t * h) w + 1 → 0 ≤ best ∧ best ≤ 100000000 → (∀ t' m', gOk l tr ur h w x t' m' → (t' < t ∨ t' = t ∧ m' < m) → best ≤ f t' m') → (best = 100000000 ∨ ∃ t' m', gOk l tr ur h w x t' m' ∧ best = f t' m') → ∃ v, aX xc_292 (aSeek xc_292 67) [aR 145, aI k, aI W, aI x, aI l, aI best, aI tr, aI ur, aI t, aI (x - t * h), aI (l - t * tr), aI m, aU] [] (SH L) M ([aI v], SH L, M) ∧ (0 ≤ v ∧ v ≤ 100000000) ∧ (∀ t m, gOk l tr ur h w x t m → v ≤ f t m) ∧ (v = 100000000 ∨ ∃ t m, gOk l tr ur h w x t m ∧ v = f t m) := by
        refine upto (rsN (l - t * tr) ur (x - t * h) w + 1) (fun m hm best m0 m1 bb hle hat => ?_) (fun m hm ihm best m0 m1 bb hle hat => ?_)
        · obtain ⟨v, r, z⟩ := ih best (by omega) (by omega) bb (fun t' m' o q => hle t' m' o (by
            by_cases e : t' = t
            · refine Or.inr ⟨e, ?_⟩
              have := o.2.2
              rw [e] at this; omega
            · exact Or.inl (by omega))) hat
          refine ⟨v, bl_292_67 ⟨M, _, s1, fun _ => ?_, fun q => absurd (by omega) q⟩, z⟩
          rw [aWi (z := t + 1) (by omega) (by omega)]
          exact r
        · have o : gOk l tr ur h w x t m := ⟨⟨t0, by omega⟩, m0, by omega⟩
          obtain ⟨y1, y2, y3, y4, y5, y6, y7⟩ := bd t m o
          have fbo := fb t m o
          have vv := vb (x - t * h - m * w) y5.1 y5.2
          have fte := fe t m
          have k133 : ∃ v, aX xc_292 (aSeek xc_292 133) [aR 145, aI k, aI W, aI x, aI l, aI (min best (f t m)), aI tr, aI ur, aI t, aI (x - t * h), aI (l - t * tr), aI m, aU] [] (SH L) M ([aI v], SH L, M) ∧ (0 ≤ v ∧ v ≤ 100000000) ∧ (∀ t m, gOk l tr ur h w x t m → v ≤ f t m) ∧ (v = 100000000 ∨ ∃ t m, gOk l tr ur h w x t m ∧ v = f t m) := by
            obtain ⟨v, r, z⟩ := ihm (min best (f t m)) (by omega) (by omega) (by omega) (fun t' m' o' q => by
              by_cases e : t' = t ∧ m' = m
              · rw [e.1, e.2]; omega
              · have := hle t' m' o' (by omega); omega) (by
              by_cases q : best ≤ f t m
              · rw [show min best (f t m) = best by omega]; exact hat
              · exact Or.inr ⟨t, m, o, by omega⟩)
            refine ⟨v, bl_292_133 ?_, z⟩
            rw [aWi (z := m + 1) (by omega) (by omega)]
            exact r
          obtain ⟨v, r, z⟩ := k133
          refine ⟨v, bl_292_67 ⟨M, _, s1, fun q => absurd q (by omega), fun _ => ⟨by omega, ?_⟩⟩, z⟩
          rw [ew, aWi (z := m * w) (by omega) (by omega), aWi (z := 61 * k) (by omega) (by omega), aWi (z := 61 * k + 61) (by omega) (by omega), aWi (z := 61 * k + 61 + (x - t * h)) (by omega) (by omega), aWi (z := 61 * k + 61 + (x - t * h) - m * w) (by omega) (by omega), show 61 * k + 61 + (x - t * h) - m * w = 61 * k + 61 + (x - t * h - m * w) by omega, aWi (z := t * tr) (by omega) (by omega), aWi (z := m * ur) (by omega) (by omega), aWi (z := M 205 (61 * k + 61 + (x - t * h - m * w)) + t * tr) (by omega) (by omega), fte, aWi (z := f t m) (by omega) (by omega)]
          refine ⟨by omega, fun q => ?_, fun q => ?_⟩
          · rw [show min best (f t m) = best by omega] at r; exact r
          · rw [show min best (f t m) = f t m by omega] at r; exact r
      obtain ⟨v, r, z⟩ := inner 0 best (by omega) (by omega) bb (fun t' m' o q => hle t' m' o (by
        rcases q with q | ⟨-, q⟩
        · exact q
        · have := o.2.1; omega)) hat
      refine ⟨v, bl_292_26 ⟨M, _, n0 x l x0 l0, fun q => absurd q (by omega), fun _ => ⟨by omega, ?_⟩⟩, z⟩
      rw [eh, aWi (z := t * h) (by omega) (by omega), aWi (z := x - t * h) (by omega) (by omega), aWi (z := t * tr) (by omega) (by omega), aWi (z := l - t * tr) (by omega) (by omega)]
      exact r
  obtain ⟨v, r, z1, z2, z3⟩ := outer 0 100000000 (by omega) (by omega) (by omega) (fun t' m' o q => by have := o.1.1; omega) (Or.inl rfl)
  refine ⟨v, en_292 ⟨M, _, q0, M, _, q1, r⟩, z1, fun t m o => by rw [fe]; exact z2 t m o, ?_⟩
  rcases z3 with z3 | ⟨t, m, o, e⟩
  · exact Or.inl z3
  · exact Or.inr ⟨t, m, o, by rw [fe]; exact e⟩
end GAP4
