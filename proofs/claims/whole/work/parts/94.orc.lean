/-! orders: the class counts -/
section ORC1
variable {L : Nat} {M M1 M2 : aM}
theorem ob_bit : ∀ s : Nat, s < 64 → ∀ k : Nat, k < 6 → (aAnd (aShr (s : Int) (k : Int)) 1 = 1 ↔ s.testBit k = true) := by decide +kernel
theorem ob_sj : ∀ s : Nat, s < 64 → ∀ i : Nat, i < 6 → ∀ k : Nat, k < 6 → (sj s i).testBit k = (s.testBit k || decide (i = k)) := by decide +kernel
theorem ob_sl : ∀ s : Nat, s < 64 → ∀ i : Nat, i < 6 → sj s i < 64 := by decide +kernel
theorem ob_an : ∀ s : Nat, s < 64 → ∀ w : Nat, w < 64 → aAnd (s : Int) (aXor (w : Int) (-1)) = ((s ^^^ (s &&& w) : Nat) : Int) ∧ aAnd (s : Int) (aXor (aXor (w : Int) (-1)) (-1)) = ((s &&& w : Nat) : Int) := by decide +kernel
theorem ob_lt : ∀ s : Nat, s < 64 → ∀ w : Nat, w < 64 → s &&& w ≤ s ∧ (s ^^^ (s &&& w) = 0 → s &&& w = s) ∧ (s ^^^ (s &&& w) ≠ 0 → s &&& w < s) := by decide +kernel
theorem ob_pw : ∀ n : Nat, n < 7 → aShl 1 (n : Int) = ((2 ^ n : Nat) : Int) ∧ 2 ^ n ≤ 64 ∧ 1 ≤ 2 ^ n := by decide +kernel
noncomputable def hSt (M : aM) (s : Nat) : Int := sumI (fun t => bi (hld M (fun _ => true) (s : Int) t)) 0 (M 31 0)
theorem hSt_le (h : rP M) {s : Nat} : 0 ≤ hSt M s ∧ hSt M s < 64 := by
  have n := rP_n h
  have := cnt_le (f := fun t => hld M (fun _ => true) (s : Int) t) n.1
  unfold hSt
  omega
theorem hSt_ke (h : rP M) (k : ke M M1) : hSt M1 = hSt M := by
  funext s
  unfold hSt
  rw [k 31 (by omega)]
  exact sumI_congr 0 (fun t _ _ => by rw [hld_ke h k])
theorem s_112 (h : rT M (M 1 3)) {s : Int} : ∃ w : Nat, w < 64 ∧ aE 112 [aR (M 1 3), aI s] (SH L) M ([aI (w : Int)], SH L, M) ∧ ∀ k : Nat, (k : Int) < M (M 1 3) 9 → M (M 1 3 + 6) k = s → w.testBit k = true := by
  have ht := h.1.1
  have h9 := h.2.2.2.1
  have key : ∀ i, ∀ w : Nat, 0 ≤ i → w < 64 → (∀ k : Nat, (k : Int) < i → (k : Int) < M (M 1 3) 9 → M (M 1 3 + 6) k = s → w.testBit k = true) → ∃ v : Nat, v < 64 ∧ aX xc_112 (aSeek xc_112 4) [aR (M 1 3), aI s, aI (w : Int), aI i] [] (SH L) M ([aI (v : Int)], SH L, M) ∧ ∀ k : Nat, (k : Int) < M (M 1 3) 9 → M (M 1 3 + 6) k = s → v.testBit k = true := by
    refine upto (M (M 1 3) 9) (fun i hi w i0 w0 hw => ?_) (fun i hi ih w i0 w0 hw => ?_)
    · exact ⟨w, w0, bl_112_4 ⟨(tx ht).1, fun _ => rfl, fun q => absurd hi q⟩, fun k k1 ks => hw k (by omega) k1 ks⟩
    · have a6 := ob_sl w w0 i.toNat (by omega)
      have ei : ((i.toNat : Nat) : Int) = i := by omega
      by_cases c : M (M 1 3 + 6) i = s
      · obtain ⟨v, v0, r, y⟩ := ih (sj w i.toNat) (by omega) a6 (fun k k0 k1 ks => by
          rw [ob_sj w w0 i.toNat (by omega) k (by omega)]
          by_cases q : i.toNat = k
          · rw [decide_eq_true q, Bool.or_true]
          · rw [hw k (by omega) k1 ks, Bool.true_or])
        have eo := ob_or w w0 i.toNat (by omega)
        rw [ei] at eo
        refine ⟨v, v0, bl_112_4 ⟨(tx ht).1, fun q => absurd q (by omega), fun _ => ⟨(tx ht).1, ?_⟩⟩, y⟩
        simp only [tx ht]
        refine ⟨by omega, fun q => absurd c q, fun _ => bl_112_28 ?_⟩
        rw [eo, aWi (z := i + 1) (by omega) (by omega)]
        exact r
      · obtain ⟨v, v0, r, y⟩ := ih w (by omega) w0 (fun k k0 k1 ks => by
          by_cases q : (k : Int) = i
          · rw [q] at ks; exact absurd ks c
          · exact hw k (by omega) k1 ks)
        refine ⟨v, v0, bl_112_4 ⟨(tx ht).1, fun q => absurd q (by omega), fun _ => ⟨(tx ht).1, ?_⟩⟩, y⟩
        simp only [tx ht]
        refine ⟨by omega, fun _ => bl_112_28 ?_, fun q => absurd c q⟩
        rw [aWi (z := i + 1) (by omega) (by omega)]
        exact r
  obtain ⟨v, v0, r, y⟩ := key 0 0 (by omega) (by decide) (fun k k0 => by omega)
  exact ⟨v, v0, en_112 r, y⟩
/-- a push from a side asks for that side's wedges alone -/
theorem psh_w (h : rT M (M 1 3)) {s w : Nat} (s0 : s < 64) {sd t : Int} {ly : Int → Bool} (hw : ∀ k : Nat, (k : Int) < M (M 1 3) 9 → M (M 1 3 + 6) k = sd → w.testBit k = true) (w0 : w < 64) : psh M ly ((s &&& w : Nat) : Int) sd t = psh M ly (s : Int) sd t := by
  have h9 := h.2.2.2.1
  have e : (fun p => wdg M ((s &&& w : Nat) : Int) sd p) = (fun p => wdg M (s : Int) sd p) := by
    funext p
    unfold wdg
    refine anyI_congr 0 (fun k k0 k1 => ?_)
    have ek : ((k.toNat : Nat) : Int) = k := by omega
    have b1 := ob_bit (s &&& w) (by have := (ob_lt s s0 w w0).1; omega) k.toNat (by omega)
    have b2 := ob_bit s s0 k.toNat (by omega)
    rw [ek] at b1 b2
    rw [Nat.testBit_and] at b1
    have hk := hw k.toNat (by omega)
    rw [ek] at hk
    rw [decide_eq_decide]
    constructor
    · rintro ⟨a, b, c⟩
      have x := b1.mp b
      rw [hk a, Bool.and_true] at x
      exact ⟨a, b2.mpr x, c⟩
    · rintro ⟨a, b, c⟩
      exact ⟨a, b1.mpr (by rw [hk a, Bool.and_true]; exact b2.mp b), c⟩
  unfold psh
  rw [e]
noncomputable def pvR (M : aM) (z : Int) (s : Nat) (sd : Int) : Prop := (∀ t, M 31 0 ≤ t → t < 64 → lb z t = false) ∧ ∀ t, 0 ≤ t → t < M 31 0 → lb z t = psh M (fun _ => true) (s : Int) sd t
def oF (M M1 : aM) : Prop := ∀ a, a ≠ 77 → (a < 79 ∨ 82 < a) → M1 a = M a
theorem oF_k (h : rP M) (hk : lkd M) (f : oF M M1) : rP M1 ∧ lkd M1 ∧ ke M M1 := by
  have k : ke M M1 := fun a ha => f a (by omega) (by omega)
  exact ⟨ke_rP h k, lkd_cg hk (by rw [f 1 (by omega) (by omega)]) (fun a x y => f a (by omega) (by omega)) (fun a x y => f a (by omega) (by omega)) (by rw [f 64 (by omega) (by omega)]) (by rw [f 64 (by omega) (by omega)]) (by rw [f 64 (by omega) (by omega)]), k⟩
theorem pw_N {n : Int} (h : 0 ≤ n ∧ n ≤ 6) : ∃ N : Nat, (N : Int) = n ∧ N < 7 ∧ aShl 1 n = ((2 ^ N : Nat) : Int) ∧ 2 ^ N ≤ 64 ∧ 1 ≤ 2 ^ N := by
  have e : ((n.toNat : Nat) : Int) = n := by omega
  have := ob_pw n.toNat (by omega)
  rw [e] at this
  exact ⟨n.toNat, e, by omega, this⟩
theorem s_113 (h : rP M) (hk : lkd M) {N : Nat} (hN : (N : Int) = M (M 1 3) 9) : ∃ M1, aE 113 [aR 64, aR 87] (SH L) M ([], SH L, M1) ∧ (∀ a, a ≠ 77 → a ≠ 87 → (a < 79 ∨ 82 < a) → M1 a = M a) ∧ ∀ s : Nat, s < 2 ^ N → M1 87 (s : Int) = hSt M s := by
  have n := rP_n h
  have h9 := h.1.2.2.2.1
  have tl := rP_tx h
  have pw := ob_pw N (by omega)
  rw [hN] at pw
  have l7 : aLn (SH L) 7 78 = 4 := rfl
  have l87 : aLn (SH L) 1 87 = 64 := rfl
  obtain ⟨ev, hev⟩ : ∃ ev, ev = aWL (aLsl 1 (M 31 0) - 1) := ⟨_, rfl⟩
  have lev : ∀ t, 0 ≤ t → t < M 31 0 → lb ev t = true := fun t t0 t1 => by rw [hev, lb_ev h t0 (by omega), decide_eq_true t1]
  -- the last loop
  have lp3 : ∀ (n5 e7 s9 w11 : Int), (∀ t, 0 ≤ t → t < M 31 0 → lb n5 t = brn M (fun _ => true) 0 t ∧ lb e7 t = brn M (fun _ => true) 1 t ∧ lb s9 t = brn M (fun _ => true) 2 t ∧ lb w11 t = brn M (fun _ => true) 3 t) → ∀ k, ∀ M' : aM, 0 ≤ k → k ≤ ((2 ^ N : Nat) : Int) → (∀ a, a ≠ 77 → a ≠ 87 → (a < 79 ∨ 82 < a) → M' a = M a) → (∀ sd : Int, 0 ≤ sd → sd < 4 → ∀ s : Nat, s < 2 ^ N → pvR M (M' (79 + sd) (s : Int)) s sd) → (∀ s : Nat, (s : Int) < k → M' 87 (s : Int) = hSt M s) →
      ∃ M1, aX xc_113 (aSeek xc_113 146) [aR 64, aR 87, aI ((2 ^ N : Nat) : Int), aU, aU, aJ n5, aU, aJ e7, aU, aJ s9, aU, aJ w11, aU, aI k] [] (SH L) M' ([], SH L, M1) ∧ (∀ a, a ≠ 77 → a ≠ 87 → (a < 79 ∨ 82 < a) → M1 a = M a) ∧ ∀ s : Nat, s < 2 ^ N → M1 87 (s : Int) = hSt M s := by
    intro n5 e7 s9 w11 hb
    refine upto ((2 ^ N : Nat) : Int) (fun k hk2 M' k0 k1 f pv hv => ?_) (fun k hk2 ih M' k0 k1 f pv hv => ?_)
    · exact ⟨M', bl_113_146 ⟨fun _ => rfl, fun q => absurd hk2 q⟩, f, fun s s1 => hv s (by omega)⟩
    · obtain ⟨s, hs⟩ : ∃ s : Nat, (s : Int) = k := ⟨k.toNat, by omega⟩
      have p0 := pv 0 (by omega) (by omega) s (by omega)
      have p1 := pv 1 (by omega) (by omega) s (by omega)
      have p2 := pv 2 (by omega) (by omega) s (by omega)
      have p3 := pv 3 (by omega) (by omega) s (by omega)
      rw [hs] at p0 p1 p2 p3
      have ck : ctR M' := ctR_cg hk.2.2 (fun a x y => f a (by omega) (by omega) (by omega)) (fun a x y => f a (by omega) (by omega) (by omega)) (by rw [f 64 (by omega) (by omega) (by omega)])
      obtain ⟨y, r, -, hy⟩ := s_97 (L := L) ck (a := aLor (aLand (M' 82 k) e7) (aLand (M' 80 k) w11)) (b := aLor (aLand (M' 79 k) s9) (aLand (M' 81 k) n5))
      have e31 : M' 31 = M 31 := f 31 (by omega) (by omega) (by omega)
      have e33 : M' 33 = M 33 := f 33 (by omega) (by omega) (by omega)
      have hz : ∀ t, 0 ≤ t → t < 64 → lb y t = (decide (t < M 31 0) && hld M (fun _ => true) (s : Int) t) := by
        intro t t0 t1
        rw [hy t t0 t1, e31, e33, lb_or, lb_or, lb_and, lb_and, lb_and, lb_and]
        by_cases c : t < M 31 0
        · have b := hb t t0 c
          rw [show M' 82 k = M' (79 + 3) k from rfl, show M' 80 k = M' (79 + 1) k from rfl, show M' 79 k = M' (79 + 0) k from rfl, show M' 81 k = M' (79 + 2) k from rfl, p0.2 t t0 c, p1.2 t t0 c, p2.2 t t0 c, p3.2 t t0 c, b.1, b.2.1, b.2.2.1, b.2.2.2, decide_eq_true c, Bool.true_and]
          unfold hld hRd hAc hAl
          rw [Bool.true_and]
          by_cases d : M 33 t = 3
          · rw [if_pos ⟨c, d⟩, if_pos d]
          · rw [if_neg (fun q => d q.2), if_neg d]
        · rw [if_neg (fun q => c q.1), show M' 82 k = M' (79 + 3) k from rfl, show M' 80 k = M' (79 + 1) k from rfl, show M' 79 k = M' (79 + 0) k from rfl, show M' 81 k = M' (79 + 2) k from rfl, p0.1 t (by omega) t1, p1.1 t (by omega) t1, p2.1 t (by omega) t1, p3.1 t (by omega) t1, decide_eq_false c]
          simp
      have r86 : aE 86 [aJ y] (SH L) M' ([aI (hSt M s)], SH L, M') := by
        have := s_86 (L := L) (M := M') (s := y)
        rw [pop_n h hz] at this
        exact this
      obtain ⟨M1, r1, yy⟩ := ih (aSet M' 87 k (hSt M s)) (by omega) (by omega) (fun a a1 a2 a3 => by rw [aSet_c a2]; exact f a a1 a2 a3) (fun sd d0 d1 s s1 => by rw [aSet_c (by omega)]; exact pv sd d0 d1 s s1) (fun s' s1 => by
        rw [aSet_q]
        by_cases q : (s' : Int) = k
        · rw [if_pos q, show s' = s by omega]
        · rw [if_neg q]; exact hv s' (by omega))
      refine ⟨M1, bl_113_146 ⟨fun q => absurd q (by omega), fun _ => ⟨by rw [show aLn (SH L) 2 82 = 64 from rfl]; omega, by rw [show aLn (SH L) 2 80 = 64 from rfl]; omega, by rw [show aLn (SH L) 2 79 = 64 from rfl]; omega, by rw [show aLn (SH L) 2 81 = 64 from rfl]; omega, M', y, r, M', _, r86, by omega, ?_⟩⟩, yy⟩
      rw [aWi (z := k + 1) (by omega) (by omega)]
      exact r1
  -- the sides
  have lp1 : ∀ sd, ∀ M' : aM, 0 ≤ sd → sd ≤ 4 → oF M M' → (∀ u, 0 ≤ u → u < sd → ∀ s : Nat, s < 2 ^ N → pvR M (M' (79 + u) (s : Int)) s u) → ∃ M1, aX xc_113 (aSeek xc_113 26) [aR 64, aR 87, aI ((2 ^ N : Nat) : Int), aJ ev, aU, aI sd, aU, aU, aU, aU, aU, aU, aU, aU] [] (SH L) M' ([], SH L, M1) ∧ (∀ a, a ≠ 77 → a ≠ 87 → (a < 79 ∨ 82 < a) → M1 a = M a) ∧ ∀ s : Nat, s < 2 ^ N → M1 87 (s : Int) = hSt M s := by
    refine upto 4 (fun sd hs M' s0 s1 f pv => ?_) (fun sd hs ih M' s0 s1 f pv => ?_)
    · obtain ⟨a0, b0, c0⟩ := oF_k h hk f
      obtain ⟨y0, K0, r0, f0, -, -, v0⟩ := s_95 (L := L) a0 b0 (s := 0) (lz := ev) (ly := fun _ => true) (by omega) (by rw [c0 31 (by omega)]; exact lev)
      have g0 : oF M K0 := fun a x y => by rw [f0 a (by omega)]; exact f a x y
      obtain ⟨a1, b1, c1⟩ := oF_k h hk g0
      obtain ⟨y1, K1, r1, f1, -, -, v1⟩ := s_95 (L := L) a1 b1 (s := 1) (lz := ev) (ly := fun _ => true) (by omega) (by rw [c1 31 (by omega)]; exact lev)
      have g1 : oF M K1 := fun a x y => by rw [f1 a (by omega)]; exact g0 a x y
      obtain ⟨a2, b2, c2⟩ := oF_k h hk g1
      obtain ⟨y2, K2, r2, f2, -, -, v2⟩ := s_95 (L := L) a2 b2 (s := 2) (lz := ev) (ly := fun _ => true) (by omega) (by rw [c2 31 (by omega)]; exact lev)
      have g2 : oF M K2 := fun a x y => by rw [f2 a (by omega)]; exact g1 a x y
      obtain ⟨a3, b3, c3⟩ := oF_k h hk g2
      obtain ⟨y3, K3, r3, f3, -, -, v3⟩ := s_95 (L := L) a3 b3 (s := 3) (lz := ev) (ly := fun _ => true) (by omega) (by rw [c3 31 (by omega)]; exact lev)
      have g3 : oF M K3 := fun a x y => by rw [f3 a (by omega)]; exact g2 a x y
      obtain ⟨M1, r, y⟩ := lp3 y0 y1 y2 y3 (fun t t0 t1 => ⟨by rw [v0 t t0 (by rw [c0 31 (by omega)]; exact t1), brn_ke h c0], by rw [v1 t t0 (by rw [c1 31 (by omega)]; exact t1), brn_ke h c1], by rw [v2 t t0 (by rw [c2 31 (by omega)]; exact t1), brn_ke h c2], by rw [v3 t t0 (by rw [c3 31 (by omega)]; exact t1), brn_ke h c3]⟩) 0 K3 (by omega) (by omega) (fun a x y z => g3 a x z) (fun u u0 u1 s s2 => by
        rw [f3 _ (by omega), f2 _ (by omega), f1 _ (by omega), f0 _ (by omega)]
        exact pv u u0 (by omega) s s2) (fun s s2 => by omega)
      exact ⟨M1, bl_113_26 ⟨fun _ => ⟨K0, y0, r0, K1, y1, r1, K2, y2, r2, K3, y3, r3, r⟩, fun q => absurd hs q⟩, y⟩
    · obtain ⟨a0, b0, c0⟩ := oF_k h hk f
      obtain ⟨w, w0, r112, hw⟩ := s_112 (L := L) a0.1 (s := sd)
      rw [c0 1 (by omega), c0 (M 1 3) (by have := tx_le tl; omega), c0 (M 1 3 + 6) (by have := tx_le tl; omega)] at hw
      have an := an_78 (L := L) s0 hs
      have inn : ∀ k, ∀ M2 : aM, 0 ≤ k → k ≤ ((2 ^ N : Nat) : Int) → oF M M2 → (∀ u, 0 ≤ u → u < sd → ∀ s : Nat, s < 2 ^ N → pvR M (M2 (79 + u) (s : Int)) s u) → (∀ s : Nat, (s : Int) < k → pvR M (M2 (79 + sd) (s : Int)) s sd) → ∃ M1, aX xc_113 (aSeek xc_113 48) [aR 64, aR 87, aI ((2 ^ N : Nat) : Int), aJ ev, aU, aI sd, aI (aXor (w : Int) (-1)), aI k, aU, aU, aU, aU, aU, aU] [] (SH L) M2 ([], SH L, M1) ∧ (∀ a, a ≠ 77 → a ≠ 87 → (a < 79 ∨ 82 < a) → M1 a = M a) ∧ ∀ s : Nat, s < 2 ^ N → M1 87 (s : Int) = hSt M s := by
        refine upto ((2 ^ N : Nat) : Int) (fun k hk2 M2 k0 k1 f2 p2 pk => ?_) (fun k hk2 ih2 M2 k0 k1 f2 p2 pk => ?_)
        · obtain ⟨M1, r, y⟩ := ih M2 (by omega) (by omega) f2 (fun u u0 u1 s s2 => by
            by_cases q : u = sd
            · rw [q]; exact pk s (by omega)
            · exact p2 u u0 (by omega) s s2)
          refine ⟨M1, bl_113_48 ⟨fun _ => ?_, fun q => absurd hk2 q⟩, y⟩
          rw [aWi (z := sd + 1) (by omega) (by omega)]; exact r
        · obtain ⟨s, hs2⟩ : ∃ s : Nat, (s : Int) = k := ⟨k.toNat, by omega⟩
          have s64 : s < 64 := by omega
          have an2 := ob_an s s64 w w0
          have lt2 := ob_lt s s64 w w0
          rw [hs2] at an2
          have nx : ∀ (z : Int) (M3 : aM), oF M M3 → (∀ a, a ≠ 77 → M3 a = M2 a) → pvR M z s sd → ∃ M1, aX xc_113 (aSeek xc_113 98) [aR 64, aR 87, aI ((2 ^ N : Nat) : Int), aJ ev, aU, aI sd, aI (aXor (w : Int) (-1)), aI k, aU, aU, aU, aU, aU, aU] [aJ z, aI k, aR (79 + sd)] (SH L) M3 ([], SH L, M1) ∧ (∀ a, a ≠ 77 → a ≠ 87 → (a < 79 ∨ 82 < a) → M1 a = M a) ∧ ∀ s : Nat, s < 2 ^ N → M1 87 (s : Int) = hSt M s := by
            intro z M3 f3 e3 hz
            obtain ⟨M1, r, y⟩ := ih2 (aSet M3 (79 + sd) k z) (by omega) (by omega) (fun a x y => by rw [aSet_c (by omega)]; exact f3 a x y) (fun u u0 u1 s s2 => by rw [aSet_c (by omega), e3 _ (by omega)]; exact p2 u u0 u1 s s2) (fun s' s2 => by
              rw [aSet_q]
              by_cases q : (s' : Int) = k
              · rw [if_pos q, show s' = s by omega]; exact hz
              · rw [if_neg q, e3 _ (by omega)]; exact pk s' (by omega))
            refine ⟨M1, bl_113_98 ⟨by rw [an.1]; omega, ?_⟩, y⟩
            rw [aWi (z := k + 1) (by omega) (by omega)]; exact r
          obtain ⟨a2, b2, c2⟩ := oF_k h hk f2
          by_cases c : s ^^^ (s &&& w) = 0
          · obtain ⟨z, M3, r3, f3, -, o3, v3, -⟩ := s_93 (L := L) a2 b2 (s := sd) (tg := k) (lz := ev) (ly := fun _ => true) ⟨s0, hs⟩ (by rw [c2 31 (by omega)]; exact lev)
            rw [c2 31 (by omega)] at o3 v3
            obtain ⟨M1, r, y⟩ := nx z M3 (fun a x y => by rw [f3 a (by omega)]; exact f2 a x y) (fun a ha => f3 a (by omega)) ⟨o3, fun t t0 t1 => by rw [v3 t t0 t1, psh_ke h c2, hs2]⟩
            refine ⟨M1, bl_113_48 ⟨fun q => absurd q (by omega), fun _ => ⟨by omega, fun q => absurd (by rw [an2.1, c]; rfl) q, fun _ => ⟨M3, z, r3, ?_⟩⟩⟩, y⟩
            rw [ar_78 s0 hs]; exact r
          · have pz := pk (s &&& w) (by have := lt2.2.2 c; omega)
            obtain ⟨M1, r, y⟩ := nx (M2 (79 + sd) ((s &&& w : Nat) : Int)) M2 f2 (fun _ _ => rfl) ⟨pz.1, fun t t0 t1 => by rw [pz.2 t t0 t1]; exact psh_w h.1 s64 hw w0⟩
            refine ⟨M1, bl_113_48 ⟨fun q => absurd q (by omega), fun _ => ⟨by omega, fun _ => ⟨by omega, ?_, ?_⟩, fun q => absurd (fun z => c (by rw [an2.1] at z; omega)) q⟩⟩, y⟩
            · rw [an2.2, ar_78 s0 hs, an.1]
              have := lt2.2.2 c
              omega
            · rw [an2.2, ar_78 s0 hs]; exact r
      obtain ⟨M1, r, y⟩ := inn 0 M' (by omega) (by omega) f pv (fun s s2 => by omega)
      refine ⟨M1, bl_113_26 ⟨fun q => absurd q (by omega), fun _ => ⟨?_, M', (w : Int), ?_, r⟩⟩, y⟩
      · rw [b0.1, c0 1 (by omega)]; exact (tx tl).1
      · rw [b0.1]; exact r112
  obtain ⟨M1, r, y⟩ := lp1 0 M (by omega) (by omega) (fun _ _ _ => rfl) (fun u u0 u1 => by omega)
  refine ⟨M1, en_113 ⟨by rw [hk.1]; exact (tx tl).1, rfl, by rw [hk.2.1]; rfl, M, ev, by rw [hk.2.1, hev]; exact s_81 bd31, ?_⟩, y⟩
  rw [hk.1, pw.1, show aL (SH L) 87 = 64 from rfl, show min ((2 ^ N : Nat) : Int) 64 = ((2 ^ N : Nat) : Int) by omega]
  exact r
end ORC1
