/-! the class's layer of a line -/
section LIN2
variable {L : Nat} {M M1 M2 : aM}
theorem aCpy_c {s sp d dp n a : Int} (h : a ≠ d) : aCpy M s sp d dp n a = M a := funext fun _ => if_neg (fun q => h q.1)
theorem aCpy_0 {s d n b : Int} (h : 0 ≤ b ∧ b < n) : aCpy M s 0 d 0 n d b = M s b := by
  unfold aCpy
  rw [if_pos ⟨rfl, h.1, by omega⟩, show (0 : Int) + (b - 0) = b by omega]
theorem p_100 {k : Int} (h : 0 ≤ k) (h2 : k < 15) : aK (SH L) (101 + k) = 1 ∧ aL (SH L) (101 + k) = 241 ∧ aLn (SH L) 1 (101 + k) = 241 := by
  have q : k = 0 ∨ k = 1 ∨ k = 2 ∨ k = 3 ∨ k = 4 ∨ k = 5 ∨ k = 6 ∨ k = 7 ∨ k = 8 ∨ k = 9 ∨ k = 10 ∨ k = 11 ∨ k = 12 ∨ k = 13 ∨ k = 14 := by omega
  rcases q with rfl | rfl | rfl | rfl | rfl | rfl | rfl | rfl | rfl | rfl | rfl | rfl | rfl | rfl | rfl <;> exact ⟨rfl, rfl, rfl⟩
theorem s_141 {t k : Int} (ht : tOk M t) (e7 : M 99 7 = t) (k0 : 0 ≤ k) (k1 : k < M t 3) (hF : rwB (M (102 + k))) (hl : 0 ≤ M 117 k ∧ M 117 k ≤ 99) : ∃ M1, aE 141 [aR 99, aI k] (SH L) M ([], SH L, M1) ∧ (∀ a, a ≠ 101 + k → a ≠ 116 → M1 a = M a) ∧ ∀ x, 0 ≤ x → x ≤ 240 → M1 (101 + k) x = gLn (M (102 + k)) (M (t + 3) k) (M (t + 4) k) (M 117 k).toNat x := by
  have tx0 := ht.1
  have tk := ht.2.2.2.2.2 k k0 k1
  have t14 := ht.2.2.2.2.1
  have tl := tx_le tx0
  obtain ⟨w, hw⟩ : ∃ w, w = M (t + 3) k := ⟨_, rfl⟩
  obtain ⟨h, hh⟩ : ∃ h, h = M (t + 4) k := ⟨_, rfl⟩
  obtain ⟨F, hFd⟩ : ∃ F, F = M (102 + k) := ⟨_, rfl⟩
  obtain ⟨lf, hlf⟩ : ∃ lf, lf = M 117 k := ⟨_, rfl⟩
  obtain ⟨s, hs⟩ : ∃ s, s = min w h := ⟨_, rfl⟩
  rw [← hw, ← hh] at tk
  rw [← hlf] at hl
  rw [← hFd] at hF
  rw [← hw, ← hh, ← hFd, ← hlf]
  have w1 : 1 ≤ w := tk.2.1.1
  have h1 : 1 ≤ h := tk.2.2.1.1
  have ws : w ≤ 60 := tk.2.1.2
  have hs2 : h ≤ 60 := tk.2.2.1.2
  have s1 : 1 ≤ s ∧ s ≤ w ∧ s ≤ h ∧ s ≤ 60 := by omega
  have r0 := ar_100 (L := L) k0 (show k < 15 by omega)
  have r1 : aF (SH L) 100 (k + 1).toNat = 102 + k := by rw [ar_100 (by omega) (by omega)]; omega
  have p0 := p_100 (L := L) k0 (show k < 15 by omega)
  have p1 : aK (SH L) (102 + k) = 1 ∧ aL (SH L) (102 + k) = 241 ∧ aLn (SH L) 1 (102 + k) = 241 := by
    have := p_100 (L := L) (k := k + 1) (by omega) (by omega)
    rw [show 101 + (k + 1) = 102 + k by omega] at this
    exact this
  obtain ⟨m, hm⟩ : ∃ m : Nat, (m : Int) = min lf (240 / s) := ⟨(min lf (240 / s)).toNat, by
    have := Int.ediv_nonneg (show (0:Int) ≤ 240 by omega) (show 0 ≤ s by omega)
    omega⟩
  have ms : (m : Int) * s ≤ 240 := by
    have a := Int.ediv_mul_le (240 : Int) (show s ≠ 0 by omega)
    have b := Int.mul_le_mul_of_nonneg_right (show (m : Int) ≤ 240 / s by omega) (show 0 ≤ s by omega)
    omega
  have fin : ∀ x, 0 ≤ x → x ≤ 240 → gLn F w h m x = gLn F w h lf.toNat x := by
    intro x x0 x1
    by_cases c : (m : Int) = lf
    · rw [show lf.toNat = m by omega]
    · have e : (m : Int) = 240 / s := by omega
      have b := Int.lt_ediv_add_one_mul_self (240 : Int) (show 0 < s by omega)
      rw [← e] at b
      have g := gLn_cut hF s1.1 s1.2.1 s1.2.2.1 b (lf.toNat - m) x x0 x1
      rw [show m + (lf.toNat - m) = lf.toNat by omega] at g
      exact g.symm
  have main : ∀ d j : Nat, j + d = m → ∀ M' : aM, (∀ a, a ≠ 101 + k → a ≠ 116 → M' a = M a) → (∀ x, 0 ≤ x → x ≤ 240 → M' (101 + k) x = gLn F w h j x ∧ gLn F w h j x ≤ M' 116 x ∧ M' 116 x ≤ tLn F w h j x ∧ M' 116 x ≤ 1000000) →
      ∃ M1, aX xc_141 (aSeek xc_141 101) [aR 99, aU, aR (101 + k), aI w, aI h, aI s, aI (m : Int), aI ((j : Int) + 1), aU, aU, aU, aU] [] (SH L) M' ([], SH L, M1) ∧ (∀ a, a ≠ 101 + k → a ≠ 116 → M1 a = M a) ∧ ∀ x, 0 ≤ x → x ≤ 240 → M1 (101 + k) x = gLn F w h lf.toNat x := by
    intro d
    induction d with
    | zero =>
      intro j jm M' f v
      have : j = m := by omega
      subst this
      exact ⟨M', bl_141_101 ⟨fun _ => rfl, fun q => absurd (by omega) q⟩, f, fun x x0 x1 => by rw [(v x x0 x1).1]; exact fin x x0 x1⟩
    | succ d ih =>
      intro j jm M0 f0 v0
      have js : (j : Int) * s + s ≤ m * s := by
        have := Int.mul_le_mul_of_nonneg_right (show (j : Int) + 1 ≤ m by omega) (show 0 ≤ s by omega)
        rw [Int.add_mul, Int.one_mul] at this
        exact this
      have j0 : 0 ≤ (j : Int) * s := Int.mul_nonneg (by omega) (by omega)
      obtain ⟨js', hjs⟩ : ∃ z : Int, z = j * s := ⟨_, rfl⟩
      rw [← hjs] at js j0
      obtain ⟨V, hV⟩ : ∃ V, V = M0 116 := ⟨_, rfl⟩
      rw [← hV] at v0
      have lowx : ∀ x, 0 ≤ x → x ≤ 240 → x < js' → gLn F w h (j + 1) x = gLn F w h j x ∧ tLn F w h (j + 1) x = 1000000 := by
        intro x x0 x1 x2
        have tb := tLn_big hF s1.1 s1.2.1 s1.2.2.1 (j + 1) x x0 x1 (by rw [Int.natCast_succ, Int.add_mul, Int.one_mul, ← hjs]; omega)
        have gb := (gLn_bd (w := w) (h := h) hF w1 h1 j x x0 x1).2
        have gt := gLn_t hF w1 h1 j x x0 x1
        rw [tb] at gt
        exact ⟨by omega, tb⟩
      have inner : ∀ x : Int, ∀ (M' : aM) (b : Int), x ≤ 240 → js' - 1 ≤ x → (∀ a, a ≠ 101 + k → a ≠ 116 → M' a = M a) → (∀ y, 0 ≤ y → y ≤ 240 → y ≤ x → M' 116 y = V y ∧ M' (101 + k) y = gLn F w h j y) → (∀ y, 0 ≤ y → y ≤ 240 → x < y → M' (101 + k) y = gLn F w h (j + 1) y ∧ gLn F w h (j + 1) y ≤ M' 116 y ∧ M' 116 y ≤ tLn F w h (j + 1) y ∧ M' 116 y ≤ 1000000) → (b = 0 → ∀ y, 0 ≤ y → y ≤ 240 → x < y → gLn F w h (j + 1) y = gLn F w h j y) →
          ∃ M1, aX xc_141 (aSeek xc_141 116) [aR 99, aU, aR (101 + k), aI w, aI h, aI s, aI (m : Int), aI ((j : Int) + 1), aI b, aI x, aU, aU] [] (SH L) M' ([], SH L, M1) ∧ (∀ a, a ≠ 101 + k → a ≠ 116 → M1 a = M a) ∧ ∀ x, 0 ≤ x → x ≤ 240 → M1 (101 + k) x = gLn F w h lf.toNat x := by
        refine downto (js' - 1) (fun x hx M' b x240 xj f lo hi no => ?_) (fun x hx ihx M' b x240 xj f lo hi no => ?_)
        · have e : x = js' - 1 := by omega
          have c : x < aW (aW ((j : Int) + 1 - 1) * s) := by
            rw [aWi (z := (j : Int) + 1 - 1) (by omega) (by omega), show (j : Int) + 1 - 1 = j by omega, ← hjs, aWi (by omega) (by omega)]; omega
          by_cases hb : b = 0
          · refine ⟨M', bl_141_116 ⟨fun _ => ⟨fun q => absurd hb q, fun _ => rfl⟩, fun q => absurd c q⟩, f, fun y y0 y1 => ?_⟩
            have st : ∀ y, 0 ≤ y → y ≤ 240 → gLn F w h (j + 1) y = gLn F w h j y := by
              intro y y0 y1
              by_cases q : y ≤ x
              · exact (lowx y y0 y1 (by omega)).1
              · exact no hb y y0 y1 (by omega)
            have g := gLn_st w1 h1 st (lf.toNat - j) y y0 y1
            rw [show j + (lf.toNat - j) = lf.toNat by omega] at g
            rw [g]
            by_cases q : y ≤ x
            · exact (lo y y0 y1 q).2
            · rw [(hi y y0 y1 (by omega)).1]; exact st y y0 y1
          · obtain ⟨M1, r, z⟩ := ih (j + 1) (by omega) M' f (fun y y0 y1 => by
              by_cases q : y ≤ x
              · obtain ⟨l1, l2⟩ := lowx y y0 y1 (by omega)
                obtain ⟨o1, o2⟩ := lo y y0 y1 q
                obtain ⟨-, u1, u2, u3⟩ := v0 y y0 y1
                rw [o1, o2, l1, l2]
                exact ⟨rfl, u1, u3, u3⟩
              · exact hi y y0 y1 (by omega))
            refine ⟨M1, bl_141_116 ⟨fun _ => ⟨fun _ => ?_, fun q => absurd hb q⟩, fun q => absurd c q⟩, z⟩
            rw [aWi (by omega) (by omega)]
            exact r
        · have c : ¬ x < aW (aW ((j : Int) + 1 - 1) * s) := by
            rw [aWi (z := (j : Int) + 1 - 1) (by omega) (by omega), show (j : Int) + 1 - 1 = j by omega, ← hjs, aWi (by omega) (by omega)]; omega
          obtain ⟨o1, ho1⟩ : ∃ z : Int, z = if x < w then 1000000 else V (x - w) := ⟨_, rfl⟩
          obtain ⟨o2, ho2⟩ : ∃ z : Int, z = if x < h then 1000000 else V (x - h) := ⟨_, rfl⟩
          have b1 : 0 ≤ o1 ∧ o1 ≤ 1000000 ∧ (x < w ∧ o1 = 1000000 ∨ ¬ x < w ∧ gLn F w h j (x - w) ≤ o1 ∧ o1 ≤ tLn F w h j (x - w)) := by
            by_cases q : x < w
            · rw [if_pos q] at ho1; omega
            · rw [if_neg q] at ho1
              obtain ⟨-, u1, u2, u3⟩ := v0 (x - w) (by omega) (by omega)
              have := (gLn_bd (w := w) (h := h) hF w1 h1 j (x - w) (by omega) (by omega)).1
              rw [← ho1] at u1 u2 u3
              exact ⟨by omega, u3, Or.inr ⟨q, u1, u2⟩⟩
          have b2 : 0 ≤ o2 ∧ o2 ≤ 1000000 ∧ (x < h ∧ o2 = 1000000 ∨ ¬ x < h ∧ gLn F w h j (x - h) ≤ o2 ∧ o2 ≤ tLn F w h j (x - h)) := by
            by_cases q : x < h
            · rw [if_pos q] at ho2; omega
            · rw [if_neg q] at ho2
              obtain ⟨-, u1, u2, u3⟩ := v0 (x - h) (by omega) (by omega)
              have := (gLn_bd (w := w) (h := h) hF w1 h1 j (x - h) (by omega) (by omega)).1
              rw [← ho2] at u1 u2 u3
              exact ⟨by omega, u3, Or.inr ⟨q, u1, u2⟩⟩
          obtain ⟨v, hv⟩ : ∃ v : Int, v = min 1000000 (min o1 o2 + 1) := ⟨_, rfl⟩
          have gv : gLn F w h (j + 1) x ≤ v := by
            rw [show gLn F w h (j + 1) x = min (F x) (min (if x < w then 1000000 else gLn F w h j (x - w) + 1) (if x < h then 1000000 else gLn F w h j (x - h) + 1)) from rfl]
            have := (hF x (by omega) x240).2
            split <;> split <;> omega
          have vt : v ≤ tLn F w h (j + 1) x := by
            rw [show tLn F w h (j + 1) x = min 1000000 (min (if x < w then 1000000 else tLn F w h j (x - w)) (if x < h then 1000000 else tLn F w h j (x - h)) + 1) from rfl]
            split <;> split <;> omega
          have gt := gLn_t hF w1 h1 j x (by omega) x240
          have gm := gLn_mono (F := F) w1 h1 j x
          have px := (lo x (by omega) x240 (by omega)).2
          have k172 : ∃ M1, aX xc_141 (aSeek xc_141 172) [aR 99, aU, aR (101 + k), aI w, aI h, aI s, aI (m : Int), aI ((j : Int) + 1), aI b, aI x, aI o1, aU] [aI o2] (SH L) M' ([], SH L, M1) ∧ (∀ a, a ≠ 101 + k → a ≠ 116 → M1 a = M a) ∧ ∀ x, 0 ≤ x → x ≤ 240 → M1 (101 + k) x = gLn F w h lf.toNat x := by
            have ep : (aSet M' 116 x v) (101 + k) x = gLn F w h j x := by rw [aSet_r (by omega)]; exact px
            have ev : (aSet M' 116 x v) 116 x = v := aSet_e
            by_cases q : gLn F w h j x ≤ v
            · obtain ⟨M1, r, z⟩ := ihx (aSet M' 116 x v) b (by omega) (by omega) (fun a a1 a2 => by rw [aSet_c a2]; exact f a a1 a2) (fun y y0 y1 y2 => by rw [aSet_i (by omega), aSet_r (by omega)]; exact lo y y0 y1 (by omega)) (fun y y0 y1 y2 => by
                by_cases e : y = x
                · subst e
                  rw [ev, ep]
                  exact ⟨by omega, gv, vt, by omega⟩
                · rw [aSet_i e, aSet_i e]; exact hi y y0 y1 (by omega)) (fun hb y y0 y1 y2 => by
                by_cases e : y = x
                · subst e; omega
                · exact no hb y y0 y1 (by omega))
              refine ⟨M1, bl_141_172 ?_, z⟩
              rw [aWi (z := min o1 o2 + 1) (by omega) (by omega), ← hv, ep, ev, p0.2.2]
              refine ⟨by rw [show aLn (SH L) 1 116 = 241 from rfl]; omega, by rw [show aLn (SH L) 1 116 = 241 from rfl]; omega, by omega, fun _ => bl_141_223 ?_, fun z => absurd q z⟩
              rw [aWi (by omega) (by omega)]
              exact r
            · obtain ⟨M1, r, z⟩ := ihx (aSet (aSet M' 116 x v) (101 + k) x v) 1 (by omega) (by omega) (fun a a1 a2 => by rw [aSet_c a1, aSet_c a2]; exact f a a1 a2) (fun y y0 y1 y2 => by rw [aSet_r (by omega), aSet_i (by omega), aSet_i (by omega), aSet_r (by omega)]; exact lo y y0 y1 (by omega)) (fun y y0 y1 y2 => by
                by_cases e : y = x
                · subst e
                  rw [aSet_e, aSet_r (by omega), ev]
                  exact ⟨by omega, gv, vt, by omega⟩
                · rw [aSet_i e, aSet_r (by omega), aSet_r (by omega), aSet_i e]; exact hi y y0 y1 (by omega)) (fun hb => absurd hb (by decide))
              refine ⟨M1, bl_141_172 ?_, z⟩
              rw [aWi (z := min o1 o2 + 1) (by omega) (by omega), ← hv, ep, ev, p0.2.2]
              refine ⟨by rw [show aLn (SH L) 1 116 = 241 from rfl]; omega, by rw [show aLn (SH L) 1 116 = 241 from rfl]; omega, by omega, fun z => absurd z q, fun _ => ⟨by rw [show aLn (SH L) 1 116 = 241 from rfl]; omega, by omega, bl_141_223 ?_⟩⟩
              rw [aWi (by omega) (by omega)]
              exact r
          obtain ⟨M1, r, z⟩ := k172
          have k148 : aX xc_141 (aSeek xc_141 148) [aR 99, aU, aR (101 + k), aI w, aI h, aI s, aI (m : Int), aI ((j : Int) + 1), aI b, aI x, aU, aU] [aI o1] (SH L) M' ([], SH L, M1) := by
            refine bl_141_148 ⟨fun q => ?_, fun q => ?_⟩
            · rw [if_pos q] at ho2; rw [← ho2]; exact r
            · rw [if_neg q] at ho2
              rw [aWi (by omega) (by omega), (lo (x - h) (by omega) (by omega) (by omega)).1, ← ho2]
              exact ⟨by rw [show aLn (SH L) 1 116 = 241 from rfl]; omega, r⟩
          refine ⟨M1, bl_141_116 ⟨fun q => absurd q c, fun _ => ⟨fun q => ?_, fun q => ?_⟩⟩, z⟩
          · rw [if_pos q] at ho1; rw [← ho1]; exact k148
          · rw [if_neg q] at ho1
            rw [aWi (by omega) (by omega), (lo (x - w) (by omega) (by omega) (by omega)).1, ← ho1]
            exact ⟨by rw [show aLn (SH L) 1 116 = 241 from rfl]; omega, k148⟩
      obtain ⟨M1, r, z⟩ := inner 240 M0 0 (by omega) (by omega) f0 (fun y y0 y1 _ => ⟨by rw [hV], (v0 y y0 y1).1⟩) (fun y y0 y1 y2 => absurd y2 (by omega)) (fun _ y y0 y1 y2 => absurd y2 (by omega))
      exact ⟨M1, bl_141_101 ⟨fun q => absurd q (by omega), fun _ => r⟩, z⟩
  obtain ⟨K, hK⟩ : ∃ K, K = aCpy (aCpy M (102 + k) 0 (101 + k) 0 241) (102 + k) 0 116 0 241 := ⟨_, rfl⟩
  have kf : ∀ a, a ≠ 101 + k → a ≠ 116 → K a = M a := fun a a1 a2 => by rw [hK, aCpy_c a2, aCpy_c a1]
  obtain ⟨M1, r, z⟩ := main m 0 (by omega) K kf (fun x x0 x1 => by
    have e1 : K (101 + k) x = F x := by rw [hK, aCpy_c (by omega), aCpy_0 (by omega), hFd]
    have e2 : K 116 x = F x := by rw [hK, aCpy_0 (by omega), aCpy_c (by omega), hFd]
    rw [e1, e2]
    exact ⟨rfl, Int.le_refl _, Int.le_refl _, (hF x x0 x1).2⟩)
  refine ⟨M1, en_141 ?_, z⟩
  rw [e7]
  simp only [tx tx0]
  rw [aWi (z := k + 1) (by omega) (by omega), r0, r1, p0.1, p0.2.1, p1.1, p1.2.1, ← hw, ← hh, ← hs, show aL (SH L) 116 = 241 from rfl, show aK (SH L) 116 = 1 from rfl, show aLn (SH L) 6 100 = 15 from rfl, ← hK, kf 117 (by omega) (by omega), ← hlf, aDiv_nn (by omega) (by omega) (by omega) (by omega), ← hm]
  refine ⟨by omega, trivial, by omega, trivial, by omega, fun _ => ⟨by omega, rfl, ?_, by omega, ?_, by rw [show aLn (SH L) 1 117 = 14 from rfl]; omega, by omega, r⟩, fun q => absurd (by omega) q⟩
  · exact ⟨⟨⟨rfl, rfl⟩, by omega, by omega, by omega⟩, by omega, by omega⟩
  · exact ⟨⟨⟨rfl, rfl⟩, by omega, by omega, by omega⟩, by omega, by omega⟩
end LIN2
