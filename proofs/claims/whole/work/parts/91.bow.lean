/-! bows, both sides -/
section BOW1
variable {L : Nat} {M M1 M2 : aM}
def bwR (n : Int) (P : Int → Prop) (S : Int → Int) (v : Int) : Prop := ((∀ o, 0 ≤ o → o < n → ¬ P o) ∧ v = 0) ∨ ∃ a b, ((0 ≤ a ∧ a < n) ∧ P a) ∧ ((0 ≤ b ∧ b < n) ∧ P b) ∧ (∀ o, 0 ≤ o → o < n → P o → S a ≤ S o ∧ S o ≤ S b) ∧ v = S b - S a
theorem bwR_one {n : Int} {P : Int → Prop} {S S' : Int → Int} {v w : Int} (e : ∀ o, 0 ≤ o → o < n → S o = S' o) (h1 : bwR n P S v) (h2 : bwR n P S' w) : v = w := by
  rcases h1 with ⟨a1, a2⟩ | ⟨a, b, ⟨ai, ap⟩, ⟨bi', bp⟩, ab, hv⟩
  · rcases h2 with ⟨b1, b2⟩ | ⟨a, b, ⟨ai, ap⟩, _, _, _⟩
    · omega
    · exact absurd ap (a1 a ai.1 ai.2)
  · rcases h2 with ⟨b1, b2⟩ | ⟨c, d, ⟨ci, cp⟩, ⟨di, dp⟩, cd, hw⟩
    · exact absurd ap (b1 a ai.1 ai.2)
    · have x1 := ab c ci.1 ci.2 cp
      have x2 := ab d di.1 di.2 dp
      have x3 := cd a ai.1 ai.2 ap
      have x4 := cd b bi'.1 bi'.2 bp
      rw [← e a ai.1 ai.2, ← e c ci.1 ci.2, ← e d di.1 di.2] at x3
      rw [← e b bi'.1 bi'.2, ← e c ci.1 ci.2, ← e d di.1 di.2] at x4
      rw [← e c ci.1 ci.2, ← e d di.1 di.2] at hw
      omega
def opp (s : Int) : Int := (s + 2) % 4
theorem opp_le {s : Int} : 0 ≤ opp s ∧ opp s < 4 := by unfold opp; omega
theorem opp_ax {s : Int} (hs : 0 ≤ s ∧ s < 4) : axS (opp s) = axS s := by
  have : s = 0 ∨ s = 1 ∨ s = 2 ∨ s = 3 := by omega
  rcases this with rfl | rfl | rfl | rfl <;> rfl
def raF (M : aM) (s p : Int) : Int := M (67 + 5 * axS s + (if s = 0 ∨ s = 3 then 2 else 1)) p
def raN (M : aM) (s p : Int) : Int := M (67 + 5 * axS s + (if s = 0 ∨ s = 3 then 1 else 2)) p
theorem rw_ex (h : rP M) (hk : ctR M) {s t o : Int} (hs : 0 ≤ s ∧ s < 4) (t0 : 0 ≤ t) (t1 : t < M 31 0) (o0 : 0 ≤ o) (o1 : o < M 31 0) (hp : 0 < tA M t s o) : ∃ p, (0 ≤ p ∧ p < M (67 + 5 * axS s) 0) ∧ raF M s p = t ∧ raN M s p = o := by
  obtain ⟨k, ki, kf, kn⟩ := pr_ex h hk hs t0 t1 o0 o1 hp
  exact ⟨prI M s k, prI_in ki.1 ki.2, kf, kn⟩
theorem rw_adj (h : rP M) (hk : ctR M) {s p : Int} (hs : 0 ≤ s ∧ s < 4) (p0 : 0 ≤ p) (p1 : p < M (67 + 5 * axS s) 0) : (0 ≤ raF M s p ∧ raF M s p < M 31 0) ∧ (0 ≤ raN M s p ∧ raN M s p < M 31 0) ∧ 0 < tA M (raF M s p) s (raN M s p) := by
  have pin := prI_in (M := M) (s := s) p0 p1
  have e : prI M s (prI M s p) = p := by
    unfold prI
    by_cases c : s = 0 ∨ s = 3
    · rw [if_pos c, if_pos c]
    · rw [if_neg c, if_neg c]; omega
  have f := pr_f h hk hs pin.1 pin.2
  have a := pr_adj h hk hs pin.1 pin.2
  unfold fbI nbI at f a
  rw [e] at f a
  exact ⟨f.2.1, f.1, a⟩
theorem aRem4 {s : Int} (hs : 0 ≤ s ∧ s < 4) : aRem (aW (s + 2)) 4 = opp s := by
  rw [aWi (by omega) (by omega), aRem_nn (by omega) (by omega) (by omega) (by omega)]; rfl
theorem s_131 (h : rP M) (hk : lkd M) (e4 : M 90 4 = 64) {t s : Int} (hs : 0 ≤ s ∧ s < 4) (t0 : 0 ≤ t) (t1 : t < M 31 0) (hS : ∀ o, 0 ≤ o → o < M 31 0 → 0 ≤ M (93 + s) o ∧ M (93 + s) o ≤ 720) : ∃ v, aE 131 [aR 90, aI t, aI s] (SH L) M ([aI v], SH L, M) ∧ bwR (M 31 0) (fun o => 0 < tA M t (opp s) o) (M (93 + s)) v := by
  have n := rP_n h
  have ho := opp_le (s := s)
  have oa := opp_ax hs
  have np := ct_P h hk.2.2 (s := s)
  have hC := ctS_is (s := s)
  have an := an_92 (L := L) hs.1 hs.2
  have l6 : aLn (SH L) 6 92 = 4 := rfl
  have ad : ∀ p, 0 ≤ p → p < M (67 + 5 * axS s) 0 → (0 ≤ raF M (opp s) p ∧ raF M (opp s) p < M 31 0) ∧ (0 ≤ raN M (opp s) p ∧ raN M (opp s) p < M 31 0) ∧ 0 < tA M (raF M (opp s) p) (opp s) (raN M (opp s) p) := fun p p0 p1 => rw_adj h hk.2.2 ho p0 (by rw [oa]; exact p1)
  have e91 : ∀ p, 0 ≤ p → p < M (67 + 5 * axS s) 0 → aE 91 [aR (67 + 5 * axS s), aI (opp s), aI p] (SH L) M ([aI (raF M (opp s) p)], SH L, M) := by
    intro p p0 p1
    have := s_91 (L := L) (M := M) (s := opp s) (p := p) hC (by omega)
    unfold raF
    rw [oa]
    exact this
  have e89 : ∀ p, 0 ≤ p → p < M (67 + 5 * axS s) 0 → aE 89 [aR (67 + 5 * axS s), aI (opp s), aI p] (SH L) M ([aI (raN M (opp s) p)], SH L, M) := by
    intro p p0 p1
    have := s_89 (L := L) (M := M) (s := opp s) (p := p) hC (by omega)
    unfold raN
    rw [oa]
    exact this
  have key : ∀ i, ∀ a b z : Int, 0 ≤ i → i ≤ M (67 + 5 * axS s) 0 → (((z = 1 ∧ a = 0 ∧ b = 0) ∧ ∀ p, 0 ≤ p → p < i → raF M (opp s) p ≠ t) ∨ (z = 0 ∧ ∃ x y, ((0 ≤ x ∧ x < i) ∧ raF M (opp s) x = t ∧ a = M (93 + s) (raN M (opp s) x)) ∧ ((0 ≤ y ∧ y < i) ∧ raF M (opp s) y = t ∧ b = M (93 + s) (raN M (opp s) y)) ∧ ∀ p, 0 ≤ p → p < i → raF M (opp s) p = t → a ≤ M (93 + s) (raN M (opp s) p) ∧ M (93 + s) (raN M (opp s) p) ≤ b)) →
      ∃ v, aX xc_131 (aSeek xc_131 28) [aR 90, aI t, aI s, aI (opp s), aR (67 + 5 * axS s), aI a, aI b, aI z, aI i, aU] [] (SH L) M ([aI v], SH L, M) ∧ bwR (M 31 0) (fun o => 0 < tA M t (opp s) o) (M (93 + s)) v := by
    refine upto (M (67 + 5 * axS s) 0) (fun i hi a b z i0 i1 hI => ?_) (fun i hi ih a b z i0 i1 hI => ?_)
    · refine ⟨_, bl_131_28 ⟨(ct hC).1, fun _ => rfl, fun q => absurd hi q⟩, ?_⟩
      rcases hI with ⟨⟨-, rfl, rfl⟩, no⟩ | ⟨-, x, y, ⟨xi, xf, xa⟩, ⟨yi, yf, yb⟩, al⟩
      · refine Or.inl ⟨fun o o0 o1 hp => ?_, rfl⟩
        obtain ⟨p, pi, pf, pn⟩ := rw_ex h hk.2.2 ho t0 t1 o0 o1 hp
        rw [oa] at pi
        exact no p pi.1 (by omega) pf
      · have ax := ad x xi.1 (by omega)
        have ay := ad y yi.1 (by omega)
        rw [xf] at ax
        rw [yf] at ay
        have bx := hS _ ax.2.1.1 ax.2.1.2
        have by_ := hS _ ay.2.1.1 ay.2.1.2
        refine Or.inr ⟨raN M (opp s) x, raN M (opp s) y, ⟨ax.2.1, ax.2.2⟩, ⟨ay.2.1, ay.2.2⟩, fun o o0 o1 hp => ?_, by rw [xa, yb, aWi (by omega) (by omega)]⟩
        obtain ⟨p, pi, pf, pn⟩ := rw_ex h hk.2.2 ho t0 t1 o0 o1 hp
        rw [oa] at pi
        have := al p pi.1 (by omega) pf
        rw [pn, xa, yb] at this
        exact this
    · have aa := ad i i0 hi
      have nx : ∀ a b z, (((z = 1 ∧ a = 0 ∧ b = 0) ∧ ∀ p, 0 ≤ p → p < i + 1 → raF M (opp s) p ≠ t) ∨ (z = 0 ∧ ∃ x y, ((0 ≤ x ∧ x < i + 1) ∧ raF M (opp s) x = t ∧ a = M (93 + s) (raN M (opp s) x)) ∧ ((0 ≤ y ∧ y < i + 1) ∧ raF M (opp s) y = t ∧ b = M (93 + s) (raN M (opp s) y)) ∧ ∀ p, 0 ≤ p → p < i + 1 → raF M (opp s) p = t → a ≤ M (93 + s) (raN M (opp s) p) ∧ M (93 + s) (raN M (opp s) p) ≤ b)) →
          ∃ v, aX xc_131 (aSeek xc_131 108) [aR 90, aI t, aI s, aI (opp s), aR (67 + 5 * axS s), aI a, aI b, aI z, aI i, aU] [] (SH L) M ([aI v], SH L, M) ∧ bwR (M 31 0) (fun o => 0 < tA M t (opp s) o) (M (93 + s)) v := by
        intro a b z hJ
        obtain ⟨v, r, y⟩ := ih a b z (by omega) (by omega) hJ
        refine ⟨v, bl_131_108 ?_, y⟩
        rw [aWi (z := i + 1) (by omega) (by omega)]
        exact r
      by_cases c : raF M (opp s) i = t
      · obtain ⟨w, hw⟩ : ∃ w, w = M (93 + s) (raN M (opp s) i) := ⟨_, rfl⟩
        have st : ∀ v a' : Int, aX xc_131 (aSeek xc_131 84) [aR 90, aI t, aI s, aI (opp s), aR (67 + 5 * axS s), aU, aI b, aI z, aI i, aI w] [aI a'] (SH L) M ([aI v], SH L, M) → (¬ z = 0 → a' = w) → (z = 0 → a' = min a w) → aX xc_131 (aSeek xc_131 28) [aR 90, aI t, aI s, aI (opp s), aR (67 + 5 * axS s), aI a, aI b, aI z, aI i, aU] [] (SH L) M ([aI v], SH L, M) := by
          intro v a' r h1 h2
          refine bl_131_28 ⟨(ct hC).1, fun q => absurd hi (by omega), fun _ => ⟨(ct hC).1, M, _, e91 i i0 hi, fun q => absurd c q, fun _ => ⟨by omega, (ct hC).1, M, _, e89 i i0 hi, by rw [ar_92 hs.1 hs.2, an.1]; omega, fun q => ?_, fun q => ?_⟩⟩⟩
          · rw [ar_92 hs.1 hs.2, ← hw, ← h2 q]; exact r
          · rw [ar_92 hs.1 hs.2, ← hw, ← h1 q]; rw [h1 q] at r ⊢; exact r
        rcases hI with ⟨⟨rfl, rfl, rfl⟩, no⟩ | ⟨rfl, x, y, ⟨xi, xf, xa⟩, ⟨yi, yf, yb⟩, al⟩
        · obtain ⟨v, r, y⟩ := nx w w 0 (Or.inr ⟨rfl, i, i, ⟨by omega, c, hw⟩, ⟨by omega, c, hw⟩, fun p p0 p1 pf => by
            by_cases q : p = i
            · rw [q, ← hw]; omega
            · exact absurd pf (no p p0 (by omega))⟩)
          exact ⟨v, st v w (bl_131_84 ⟨fun q => absurd q (by omega), fun _ => bl_131_103 r⟩) (fun _ => rfl) (fun q => by omega), y⟩
        · obtain ⟨v, r, y⟩ := nx (min a w) (max b w) 0 (Or.inr ⟨rfl, (if a ≤ w then x else i), (if w ≤ b then y else i), by
            by_cases q : a ≤ w
            · rw [if_pos q]; exact ⟨by omega, xf, by rw [← xa]; omega⟩
            · rw [if_neg q]; exact ⟨by omega, c, by rw [← hw]; omega⟩, by
            by_cases q : w ≤ b
            · rw [if_pos q]; exact ⟨by omega, yf, by rw [← yb]; omega⟩
            · rw [if_neg q]; exact ⟨by omega, c, by rw [← hw]; omega⟩, fun p p0 p1 pf => by
            by_cases q : p = i
            · rw [q, ← hw]; omega
            · have := al p p0 (by omega) pf; omega⟩)
          exact ⟨v, st v (min a w) (bl_131_84 ⟨fun _ => bl_131_103 r, fun q => absurd rfl q⟩) (fun q => absurd rfl q) (fun _ => rfl), y⟩
      · obtain ⟨v, r, y⟩ := nx a b z (by
          rcases hI with ⟨z1, no⟩ | ⟨z0, x, y, ⟨xi, xf⟩, ⟨yi, yf⟩, al⟩
          · exact Or.inl ⟨z1, fun p p0 p1 => by
              by_cases q : p = i
              · rw [q]; exact c
              · exact no p p0 (by omega)⟩
          · exact Or.inr ⟨z0, x, y, ⟨⟨xi.1, by omega⟩, xf⟩, ⟨⟨yi.1, by omega⟩, yf⟩, fun p p0 p1 pf => al p p0 (by
              by_cases q : p = i
              · rw [q] at pf; exact absurd pf c
              · omega) pf⟩)
        exact ⟨v, bl_131_28 ⟨(ct hC).1, fun q => absurd hi (by omega), fun _ => ⟨(ct hC).1, M, _, e91 i i0 hi, fun _ => r, fun q => absurd c q⟩⟩, y⟩
  have e83 : aE 83 [aR 64, aI s] (SH L) M ([aR (67 + 5 * axS s)], SH L, M) := by
    have := s_83 (L := L) (M := M) (a1 := s)
    rw [show (if s = 0 ∨ s = 2 then (72 : Int) else 67) = 67 + 5 * axS s by unfold axS; split <;> omega] at this
    exact this
  obtain ⟨v, r, y⟩ := key 0 0 0 1 (by omega) np.1 (Or.inl ⟨⟨rfl, rfl, rfl⟩, fun p p0 p1 => by omega⟩)
  refine ⟨v, en_131 ⟨by rw [e4]; rfl, M, _, by rw [e4]; exact e83, ?_⟩, y⟩
  rw [aRem4 hs]
  exact r
theorem s_280 (h : rP M) (hg : rG M (M 1 3)) (d : cWd M) {t s : Int} (hs : 0 ≤ s ∧ s < 4) (t0 : 0 ≤ t) (t1 : t < M 31 0) : ∃ v M1, aE 280 [aR 145, aI t, aI s] (SH L) M ([aI v], SH L, M1) ∧ sc M M1 ∧ bwR (M 31 0) (fun o => 0 < tA M t (opp s) o) (M (93 + s)) v := by
  have n := rP_n h
  have l3 : aLn (SH L) 1 203 = 40 := rfl
  obtain ⟨K, r, f, y⟩ := s_278 (L := L) h hg hs (d.2.2.2.2 s hs.1 hs.2).1 (d.2.2.2.2 s hs.1 hs.2).2
  obtain ⟨S, hSe⟩ : ∃ S, S = M (93 + s) := ⟨_, rfl⟩
  have hS : ∀ o, 0 ≤ o → o < M 31 0 → 0 ≤ S o ∧ S o ≤ 720 := fun o o0 o1 => by rw [hSe]; exact ⟨((d.2.2.2.2 s hs.1 hs.2).1 o o0 o1).1, (d.2.2.2.2 s hs.1 hs.2).2 o o0 o1⟩
  rw [← hSe] at y ⊢
  have kK := ke_sc f
  have key : ∀ o, ∀ a b : Int, 0 ≤ o → o ≤ M 31 0 → (((a = -1 ∧ b = -1) ∧ ∀ p, 0 ≤ p → p < o → ¬ 0 < tA M t (opp s) p) ∨ (∃ x y, ((0 ≤ x ∧ x < o) ∧ 0 < tA M t (opp s) x ∧ a = S x) ∧ ((0 ≤ y ∧ y < o) ∧ 0 < tA M t (opp s) y ∧ b = S y) ∧ ∀ p, 0 ≤ p → p < o → 0 < tA M t (opp s) p → a ≤ S p ∧ S p ≤ b)) →
      ∃ v, aX xc_280 (aSeek xc_280 32) [aR 145, aI t, aI s, aI a, aI b, aI o] [] (SH L) K ([aI v], SH L, K) ∧ bwR (M 31 0) (fun o => 0 < tA M t (opp s) o) S v := by
    refine upto (M 31 0) (fun o ho a b o0 o1 hI => ?_) (fun o ho ih a b o0 o1 hI => ?_)
    · have q179 : K 179 0 ≤ o := by rw [kK 179 (by omega), n.2.2]; exact ho
      rcases hI with ⟨⟨rfl, rfl⟩, no⟩ | ⟨x, z, ⟨xi, xp, xa⟩, ⟨zi, zp, zb⟩, al⟩
      · exact ⟨0, bl_280_32 ⟨fun _ => ⟨fun q => absurd q (by omega), fun _ => rfl⟩, fun q => absurd q179 q⟩, Or.inl ⟨fun p p0 p1 => no p p0 (by omega), rfl⟩⟩
      · have bx := hS x xi.1 (by omega)
        have bz := hS z zi.1 (by omega)
        refine ⟨_, bl_280_32 ⟨fun _ => ⟨fun _ => rfl, fun q => absurd (by omega) q⟩, fun q => absurd q179 q⟩, Or.inr ⟨x, z, ⟨⟨xi.1, by omega⟩, xp⟩, ⟨⟨zi.1, by omega⟩, zp⟩, fun p p0 p1 hp => ?_, by rw [xa, zb, aWi (by omega) (by omega)]⟩⟩
        have := al p p0 (by omega) hp
        rw [xa, zb] at this
        exact this
    · have q179 : ¬ K 179 0 ≤ o := by rw [kK 179 (by omega), n.2.2]; omega
      have nx : ∀ a b, (((a = -1 ∧ b = -1) ∧ ∀ p, 0 ≤ p → p < o + 1 → ¬ 0 < tA M t (opp s) p) ∨ (∃ x y, ((0 ≤ x ∧ x < o + 1) ∧ 0 < tA M t (opp s) x ∧ a = S x) ∧ ((0 ≤ y ∧ y < o + 1) ∧ 0 < tA M t (opp s) y ∧ b = S y) ∧ ∀ p, 0 ≤ p → p < o + 1 → 0 < tA M t (opp s) p → a ≤ S p ∧ S p ≤ b)) →
          ∃ v, aX xc_280 (aSeek xc_280 111) [aR 145, aI t, aI s, aI a, aI b, aI o] [] (SH L) K ([aI v], SH L, K) ∧ bwR (M 31 0) (fun o => 0 < tA M t (opp s) o) S v := by
        intro a b hJ
        obtain ⟨v, r, y⟩ := ih a b (by omega) (by omega) hJ
        refine ⟨v, bl_280_111 ?_, y⟩
        rw [aWi (z := o + 1) (by omega) (by omega)]
        exact r
      have skip : ¬ 0 < tA M t (opp s) o → ∃ v, aX xc_280 (aSeek xc_280 111) [aR 145, aI t, aI s, aI a, aI b, aI o] [] (SH L) K ([aI v], SH L, K) ∧ bwR (M 31 0) (fun o => 0 < tA M t (opp s) o) S v := fun c => nx a b (by
          rcases hI with ⟨z1, no⟩ | ⟨x, y, ⟨xi, xf⟩, ⟨yi, yf⟩, al⟩
          · exact Or.inl ⟨z1, fun p p0 p1 => by
              by_cases q : p = o
              · rw [q]; exact c
              · exact no p p0 (by omega)⟩
          · exact Or.inr ⟨x, y, ⟨⟨xi.1, by omega⟩, xf⟩, ⟨⟨yi.1, by omega⟩, yf⟩, fun p p0 p1 pf => al p p0 (by
              by_cases q : p = o
              · rw [q] at pf; exact absurd pf c
              · omega) pf⟩)
      by_cases c : o = t
      · obtain ⟨v, r, y⟩ := skip (by rw [c, tA_self h t0 t1]; omega)
        exact ⟨v, bl_280_32 ⟨fun q => absurd q q179, fun _ => ⟨fun _ => r, fun q => absurd c q⟩⟩, y⟩
      · have e235 := s_235 (L := L) (ke_rP h kK) (t := t) (s := opp s) (o := o) t0 (by rw [kK 31 (by omega)]; exact t1) o0 (by rw [kK 31 (by omega)]; exact ho)
        rw [ke_tA kK] at e235
        have tp := tA_le h (s := opp s) t0 t1 o0 ho
        by_cases d : tA M t (opp s) o = 0
        · obtain ⟨v, r, y⟩ := skip (by omega)
          exact ⟨v, bl_280_32 ⟨fun q => absurd q q179, fun _ => ⟨fun q => absurd q c, fun _ => ⟨K, _, by rw [aRem4 hs]; exact e235, fun q => absurd d q, fun _ => r⟩⟩⟩, y⟩
        · obtain ⟨w, hw⟩ : ∃ w, w = S o := ⟨_, rfl⟩
          have e203 : K 203 o = w := by rw [y o o0 ho, hw]
          have pw : 0 < tA M t (opp s) o := by omega
          have bw := hS o o0 ho
          rw [← hw] at bw
          have at90 : ∀ a' v, aX xc_280 (aSeek xc_280 111) [aR 145, aI t, aI s, aI a', aI (max b w), aI o] [] (SH L) K ([aI v], SH L, K) → aX xc_280 (aSeek xc_280 90) [aR 145, aI t, aI s, aI a', aI b, aI o] [] (SH L) K ([aI v], SH L, K) := by
            intro a' v r
            refine bl_280_90 ⟨by omega, fun q => ?_, fun q => ⟨by omega, ?_⟩⟩
            · rw [e203] at q; rw [show max b w = b by omega] at r; exact r
            · rw [e203] at q; rw [show max b w = w by omega] at r; rw [e203]; exact r
          rcases hI with ⟨⟨rfl, rfl⟩, no⟩ | ⟨x, z, ⟨xi, xp, xa⟩, ⟨zi, zp, zb⟩, al⟩
          · obtain ⟨v, r, yy⟩ := nx w w (Or.inr ⟨o, o, ⟨by omega, pw, hw⟩, ⟨by omega, pw, hw⟩, fun p p0 p1 pf => by
              by_cases q : p = o
              · rw [q, ← hw]; omega
              · exact absurd pf (no p p0 (by omega))⟩)
            refine ⟨v, bl_280_32 ⟨fun q => absurd q q179, fun _ => ⟨fun q => absurd q c, fun _ => ⟨K, _, by rw [aRem4 hs]; exact e235, fun _ => ⟨fun _ => bl_280_82 ⟨by omega, ?_⟩, fun q => absurd (by omega) q⟩, fun q => absurd d q⟩⟩⟩, yy⟩
            rw [e203]
            exact at90 w v (by rw [show max (-1) w = w by omega]; exact r)
          · have bx := hS x xi.1 (by omega)
            obtain ⟨v, r, yy⟩ := nx (min a w) (max b w) (Or.inr ⟨(if a ≤ w then x else o), (if w ≤ b then z else o), by
              by_cases q : a ≤ w
              · rw [if_pos q]; exact ⟨by omega, xp, by rw [← xa]; omega⟩
              · rw [if_neg q]; exact ⟨by omega, pw, by rw [← hw]; omega⟩, by
              by_cases q : w ≤ b
              · rw [if_pos q]; exact ⟨by omega, zp, by rw [← zb]; omega⟩
              · rw [if_neg q]; exact ⟨by omega, pw, by rw [← hw]; omega⟩, fun p p0 p1 pf => by
              by_cases q : p = o
              · rw [q, ← hw]; omega
              · have := al p p0 (by omega) pf; omega⟩)
            refine ⟨v, bl_280_32 ⟨fun q => absurd q q179, fun _ => ⟨fun q => absurd q c, fun _ => ⟨K, _, by rw [aRem4 hs]; exact e235, fun _ => ⟨fun q => absurd q (by omega), fun _ => ⟨by omega, fun q => ?_, fun q => bl_280_82 ⟨by omega, ?_⟩⟩⟩, fun q => absurd d q⟩⟩⟩, yy⟩
            · rw [e203] at q
              exact at90 a v (by rw [show min a w = a by omega] at r; exact r)
            · rw [e203] at q ⊢
              exact at90 w v (by rw [show min a w = w by omega] at r; exact r)
  obtain ⟨v, r1, yy⟩ := key 0 (-1) (-1) (by omega) n.1 (Or.inl ⟨⟨rfl, rfl⟩, fun p p0 p1 => by omega⟩)
  exact ⟨v, K, en_280 ⟨M, _, s_221, fun q => absurd (bid0.mp q) (by omega), fun _ => ⟨M, _, s_219, fun _ => ⟨K, r, r1⟩, fun q => absurd (by rw [bid0]; omega) q⟩⟩, f, yy⟩
theorem o_bow (h : rP M) (hc : cP M) (hg : rG M (M 1 3)) (hw : cW M) {t s : Int} : ∃ v M1 M2, aE 132 [aR 1, aI t, aI s] (SH L) M ([aI v], SH L, M1) ∧ aE 280 [aR 145, aI t, aI s] (SH L) M1 ([aI v], SH L, M2) ∧ fw M M1 ∧ cP M1 ∧ cW M1 ∧ sc M1 M2 := by
  have n := rP_n h
  by_cases c : 0 ≤ t ∧ t < M 31 0
  · by_cases c2 : 0 ≤ s ∧ s < 4
    · obtain ⟨M1, r, f, hk, e, d⟩ := s_128 (L := L) h hc hg hw
      have k : ke M M1 := ke_fw f
      have h1 := ke_rP h k
      have tt : t < M1 31 0 := by rw [k 31 (by omega)]; exact c.2
      obtain ⟨w, M2, r2, s2, b2⟩ := s_280 (L := L) h1 (rG_ke h k hg) d (t := t) c2 c.1 tt
      obtain ⟨v, r3, b3⟩ := s_131 (L := L) h1 hk.1 d.2.2.1 c2 c.1 tt (fun o o0 o1 => ⟨((d.2.2.2.2 s c2.1 c2.2).1 o o0 o1).1, (d.2.2.2.2 s c2.1 c2.2).2 o o0 o1⟩)
      have vw : v = w := bwR_one (fun _ _ _ => rfl) b3 b2
      rw [← vw] at r2
      exact ⟨v, M1, M2, en_132 ⟨M, _, s_63 bd31, fun q => absurd (bid0.mp q) (by omega), fun _ => ⟨M, _, s_36, fun _ => ⟨M1, r, M1, v, r3, rfl⟩, fun q => absurd (by rw [bid0]; omega) q⟩⟩, r2, f, lok_cP hc (f 1 (by omega)) hk, ⟨by omega, fun _ => d⟩, s2⟩
    · have r2 : aE 280 [aR 145, aI t, aI s] (SH L) M ([aI (-1)], SH L, M) := en_280 ⟨M, _, s_221, fun q => absurd (bid0.mp q) (by omega), fun _ => ⟨M, _, s_219, fun q => absurd (by rw [bid0]; omega) q, fun _ => rfl⟩⟩
      exact ⟨-1, M, M, en_132 ⟨M, _, s_63 bd31, fun q => absurd (bid0.mp q) (by omega), fun _ => ⟨M, _, s_36, fun q => absurd (bid0.mpr c2) q, fun _ => rfl⟩⟩, r2, fw_rf, hc, hw, sc_rf⟩
  · have r2 : aE 280 [aR 145, aI t, aI s] (SH L) M ([aI (-1)], SH L, M) := en_280 ⟨M, _, s_221, fun _ => rfl, fun q => absurd (bid0.mpr (by omega)) q⟩
    exact ⟨-1, M, M, en_132 ⟨M, _, s_63 bd31, fun _ => rfl, fun q => absurd (bid0.mpr c) q⟩, r2, fw_rf, hc, hw, sc_rf⟩
end BOW1
