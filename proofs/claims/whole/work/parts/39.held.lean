/-! what is HELD: the class -/
section HLD
variable {L : Nat} {M M1 M2 : aM}
theorem frB_w (h : rP M) {s t : Int} {w w' : Int → Bool} (h1 : 0 ≤ t) (h2 : t < M 31 0) (hw : ∀ p, 0 ≤ p → p < 60 → w p = w' p) : frB M s w t = frB M s w' t := by
  have ex := ext_le h (s := s) h1 h2
  unfold frB cnW
  rw [sumI_congr (g := fun p => bi (w' p)) (lo M s t) (fun p p0 p1 => by rw [hw p (by omega) (by omega)])]
noncomputable def psh (M : aM) (ly : Int → Bool) (tg s t : Int) : Bool := pF M ly (frB M s (fun p => wdg M tg s p)) s t
noncomputable def brn (M : aM) (ly : Int → Bool) (s t : Int) : Bool := pF M ly (frB M s (fun _ => true)) s t
theorem psh_ke (h : rP M) (k : ke M M1) {ly : Int → Bool} {tg s t : Int} : psh M1 ly tg s t = psh M ly tg s t := by
  unfold psh
  have e : frB M1 s (fun p => wdg M1 tg s p) = frB M s (fun p => wdg M tg s p) := funext fun t => by
    rw [ke_frB h k]
    have : (fun p => wdg M1 tg s p) = (fun p => wdg M tg s p) := funext fun p => ke_wdg h k
    rw [this]
  rw [e, pF_ke h k]
theorem brn_ke (h : rP M) (k : ke M M1) {ly : Int → Bool} {s t : Int} : brn M1 ly s t = brn M ly s t := by
  unfold brn
  have e : frB M1 s (fun _ => true) = frB M s (fun _ => true) := funext fun t => ke_frB h k
  rw [e, pF_ke h k]
theorem s_93 (h : rP M) (hk : lkd M) {s lz tg : Int} {ly : Int → Bool} (hs : 0 ≤ s ∧ s < 4) (hl : ∀ t, 0 ≤ t → t < M 31 0 → lb lz t = ly t) : ∃ y M1, aE 93 [aR 64, aI s, aJ lz, aI tg] (SH L) M ([aJ y], SH L, M1) ∧ fr 77 77 M M1 ∧ xL y ∧ (∀ t, M 31 0 ≤ t → t < 64 → lb y t = false) ∧
    (∀ t, 0 ≤ t → t < M 31 0 → lb y t = psh M ly tg s t) ∧ ∀ t, 0 ≤ t → t < M 31 0 → lb y t = true → ly t = true := by
  obtain ⟨z, r, hz⟩ := s_82 (L := L) h.1 (s := s) (tg := tg)
  obtain ⟨y, M1, r2, f, x, o, e⟩ := s_92 (L := L) h hk (s := s) (ly := lz) (z := z) hs
  refine ⟨y, M1, en_93 ⟨?_, M, z, ?_, M1, y, r2, rfl⟩, f, x, o, fun t t0 t1 => ?_, fun t t0 t1 ht => ?_⟩
  · rw [hk.1]; exact (tx (rP_tx h)).1
  · rw [hk.1]; exact r
  · exact pF_of h hs hl (fun t t0 t1 => frB_w h t0 t1 (fun p p0 p1 => hz p p0 (by omega))) e t t0 t1
  · rw [← hl t t0 t1]
    exact ((e t t0 t1).mp ht).1
theorem s_95 (h : rP M) (hk : lkd M) {s lz : Int} {ly : Int → Bool} (hs : 0 ≤ s ∧ s < 4) (hl : ∀ t, 0 ≤ t → t < M 31 0 → lb lz t = ly t) : ∃ y M1, aE 95 [aR 64, aI s, aJ lz] (SH L) M ([aJ y], SH L, M1) ∧ fr 77 77 M M1 ∧ xL y ∧ (∀ t, M 31 0 ≤ t → t < 64 → lb y t = false) ∧
    ∀ t, 0 ≤ t → t < M 31 0 → lb y t = brn M ly s t := by
  obtain ⟨y, M1, r2, f, x, o, e⟩ := s_92 (L := L) h hk (s := s) (ly := lz) (z := spn 0 60) hs
  refine ⟨y, M1, en_95 ⟨M, _, s_37, M1, y, r2, rfl⟩, f, x, o, fun t t0 t1 => ?_⟩
  exact pF_of h hs hl (fun t t0 t1 => frB_w h t0 t1 (fun p p0 p1 => by rw [lb_spn p0 (by omega)]; exact decide_eq_true (by omega))) e t t0 t1
noncomputable def hAc (M : aM) (ly : Int → Bool) (tg t : Int) : Bool := (psh M ly tg 3 t && brn M ly 1 t) || (psh M ly tg 1 t && brn M ly 3 t)
noncomputable def hAl (M : aM) (ly : Int → Bool) (tg t : Int) : Bool := (psh M ly tg 0 t && brn M ly 2 t) || (psh M ly tg 2 t && brn M ly 0 t)
noncomputable def hRd (M : aM) (ly : Int → Bool) (tg t : Int) : Bool := if M 33 t = 3 then hAc M ly tg t && hAl M ly tg t else hAc M ly tg t || hAl M ly tg t
noncomputable def hld (M : aM) (ly : Int → Bool) (tg t : Int) : Bool := ly t && hRd M ly tg t
theorem hAc_ke (h : rP M) (k : ke M M1) {ly : Int → Bool} {tg t : Int} : hAc M1 ly tg t = hAc M ly tg t := by unfold hAc; simp only [psh_ke h k, brn_ke h k]
theorem hAl_ke (h : rP M) (k : ke M M1) {ly : Int → Bool} {tg t : Int} : hAl M1 ly tg t = hAl M ly tg t := by unfold hAl; simp only [psh_ke h k, brn_ke h k]
theorem hld_ke (h : rP M) (k : ke M M1) {ly : Int → Bool} {tg t : Int} : hld M1 ly tg t = hld M ly tg t := by unfold hld hRd; rw [hAc_ke h k, hAl_ke h k, k 33 (by omega)]
/-- what heldOf leaves as it is -/
def hF (M M1 : aM) : Prop := (∀ a, a ≠ 64 → a ≠ 77 → M1 a = M a) ∧ ∀ j, j ≠ 0 → j ≠ 1 → M1 64 j = M 64 j
theorem hF_rf : hF M M := ⟨fun _ _ _ => rfl, fun _ _ _ => rfl⟩
theorem hF_tr (h : hF M M1) (h2 : hF M1 M2) : hF M M2 := ⟨fun a x y => (h2.1 a x y).trans (h.1 a x y), fun j x y => (h2.2 j x y).trans (h.2 j x y)⟩
theorem hF_77 (h : fr 77 77 M M1) : hF M M1 := ⟨fun a x y => h a (by omega), fun j _ _ => by rw [h 64 (by omega)]⟩
theorem hF_set {j v : Int} (h : hF M M1) (hj : j = 0 ∨ j = 1) : hF M (aSet M1 64 j v) := ⟨fun a x y => by rw [aSet_c x]; exact h.1 a x y, fun i x y => by rw [aSet_i (by omega)]; exact h.2 i x y⟩
theorem hF_ke (h : hF M M1) : ke M M1 := fun a ha => h.1 a (by omega) (by omega)
theorem hF_fr (h : hF M M1) : fr 64 77 M M1 := fun a ha => h.1 a (by omega) (by omega)
theorem hF_lk (hk : lkd M) (h : hF M M1) : lkd M1 := lkd_cg hk (by rw [h.1 1 (by omega) (by omega)]) (fun a x y => h.1 a (by omega) (by omega)) (fun a x y => h.1 a (by omega) (by omega)) (h.2 4 (by omega) (by omega)) (h.2 5 (by omega) (by omega)) (h.2 8 (by omega) (by omega))
theorem s_97 (hk : ctR M) {a b : Int} : ∃ y, aE 97 [aR 64, aJ a, aJ b] (SH L) M ([aJ y], SH L, M) ∧ xL y ∧ ∀ t, 0 ≤ t → t < 64 → lb y t = if t < M 31 0 ∧ M 33 t = 3 then lb a t && lb b t else lb a t || lb b t := by
  refine ⟨_, en_97 rfl, xL_or, fun t t0 t1 => ?_⟩
  rw [lb_or, lb_and, lb_or, lb_not t1, lb_and, lb_and, hk.2.2 t t0 t1]
  by_cases c : t < M 31 0 ∧ M 33 t = 3
  · rw [if_pos c, decide_eq_true c]
    simp
  · rw [if_neg c, decide_eq_false c]
    simp
theorem s_98 (h : rP M) (hk : lkd M) {lz tg : Int} {ly : Int → Bool} (hl : ∀ t, 0 ≤ t → t < M 31 0 → lb lz t = ly t) : ∃ y M1, aE 98 [aR 64, aJ lz, aI tg] (SH L) M ([aJ y], SH L, M1) ∧ hF M M1 ∧ xL y ∧ (∀ t, 0 ≤ t → t < 64 → lb y t = (decide (t < M 31 0) && hld M ly tg t)) ∧
    (∀ t, 0 ≤ t → t < M 31 0 → lb (M1 64 0) t = hAc M ly tg t ∧ lb (M1 64 1) t = hAl M ly tg t) := by
  obtain ⟨y1, M1, r1, f1, x1, o1, v1, w1⟩ := s_93 (L := L) h hk (s := 3) (tg := tg) (by omega) hl
  have g1 := hF_77 f1
  obtain ⟨y2, M2, r2, f2, x2, o2, v2⟩ := s_95 (L := L) (ke_rP h (hF_ke g1)) (hF_lk hk g1) (s := 1) (lz := lz) (ly := ly) (by omega) (by rw [f1 31 (by omega)]; exact hl)
  have g2 := hF_tr g1 (hF_77 f2)
  obtain ⟨y3, M3, r3, f3, x3, o3, v3, w3⟩ := s_93 (L := L) (ke_rP h (hF_ke g2)) (hF_lk hk g2) (s := 1) (tg := tg) (lz := lz) (ly := ly) (by omega) (by rw [g2.1 31 (by omega) (by omega)]; exact hl)
  have g3 := hF_tr g2 (hF_77 f3)
  obtain ⟨y4, M4, r4, f4, x4, o4, v4⟩ := s_95 (L := L) (ke_rP h (hF_ke g3)) (hF_lk hk g3) (s := 3) (lz := lz) (ly := ly) (by omega) (by rw [g3.1 31 (by omega) (by omega)]; exact hl)
  have g4 := hF_tr g3 (hF_77 f4)
  have g5 := hF_set (v := aLor (aLand y1 y2) (aLand y3 y4)) g4 (Or.inl rfl)
  obtain ⟨y6, M6, r6, f6, x6, o6, v6, w6⟩ := s_93 (L := L) (ke_rP h (hF_ke g5)) (hF_lk hk g5) (s := 0) (tg := tg) (lz := lz) (ly := ly) (by omega) (by rw [g5.1 31 (by omega) (by omega)]; exact hl)
  have g6 := hF_tr g5 (hF_77 f6)
  obtain ⟨y7, M7, r7, f7, x7, o7, v7⟩ := s_95 (L := L) (ke_rP h (hF_ke g6)) (hF_lk hk g6) (s := 2) (lz := lz) (ly := ly) (by omega) (by rw [g6.1 31 (by omega) (by omega)]; exact hl)
  have g7 := hF_tr g6 (hF_77 f7)
  obtain ⟨y8, M8, r8, f8, x8, o8, v8, w8⟩ := s_93 (L := L) (ke_rP h (hF_ke g7)) (hF_lk hk g7) (s := 2) (tg := tg) (lz := lz) (ly := ly) (by omega) (by rw [g7.1 31 (by omega) (by omega)]; exact hl)
  have g8 := hF_tr g7 (hF_77 f8)
  obtain ⟨y9, M9, r9, f9, x9, o9, v9⟩ := s_95 (L := L) (ke_rP h (hF_ke g8)) (hF_lk hk g8) (s := 0) (lz := lz) (ly := ly) (by omega) (by rw [g8.1 31 (by omega) (by omega)]; exact hl)
  have g9 := hF_tr g8 (hF_77 f9)
  have g10 := hF_set (v := aLor (aLand y6 y7) (aLand y8 y9)) g9 (Or.inr rfl)
  have e0 : aSet M9 64 1 (aLor (aLand y6 y7) (aLand y8 y9)) 64 0 = aLor (aLand y1 y2) (aLand y3 y4) := by
    rw [aSet_i (by omega), f9 64 (by omega), f8 64 (by omega), f7 64 (by omega), f6 64 (by omega), aSet_e]
  have e1 : aSet M9 64 1 (aLor (aLand y6 y7) (aLand y8 y9)) 64 1 = aLor (aLand y6 y7) (aLand y8 y9) := aSet_e
  obtain ⟨y, r10, x10, v10⟩ := s_97 (L := L) (hF_lk hk g10).2.2 (a := aLor (aLand y1 y2) (aLand y3 y4)) (b := aLor (aLand y6 y7) (aLand y8 y9))
  have ac : ∀ t, 0 ≤ t → t < M 31 0 → lb (aLor (aLand y1 y2) (aLand y3 y4)) t = hAc M ly tg t := by
    intro t t0 t1
    unfold hAc
    rw [lb_or, lb_and, lb_and, v1 t t0 t1, v2 t t0 (by rw [g1.1 31 (by omega) (by omega)]; exact t1), v3 t t0 (by rw [g2.1 31 (by omega) (by omega)]; exact t1), v4 t t0 (by rw [g3.1 31 (by omega) (by omega)]; exact t1), brn_ke h (hF_ke g1), psh_ke h (hF_ke g2), brn_ke h (hF_ke g3)]
  have al : ∀ t, 0 ≤ t → t < M 31 0 → lb (aLor (aLand y6 y7) (aLand y8 y9)) t = hAl M ly tg t := by
    intro t t0 t1
    unfold hAl
    rw [lb_or, lb_and, lb_and, v6 t t0 (by rw [g5.1 31 (by omega) (by omega)]; exact t1), v7 t t0 (by rw [g6.1 31 (by omega) (by omega)]; exact t1), v8 t t0 (by rw [g7.1 31 (by omega) (by omega)]; exact t1), v9 t t0 (by rw [g8.1 31 (by omega) (by omega)]; exact t1), psh_ke h (hF_ke g5), brn_ke h (hF_ke g6), psh_ke h (hF_ke g7), brn_ke h (hF_ke g8)]
  have acl : ∀ t, 0 ≤ t → t < M 31 0 → hAc M ly tg t = true → ly t = true := by
    intro t t0 t1 c
    unfold hAc at c
    rw [Bool.or_eq_true, Bool.and_eq_true, Bool.and_eq_true] at c
    rcases c with c | c
    · rw [← v1 t t0 t1] at c; exact w1 t t0 t1 c.1
    · have e := v3 t t0 (by rw [g2.1 31 (by omega) (by omega)]; exact t1)
      rw [psh_ke h (hF_ke g2)] at e
      rw [← e] at c
      exact w3 t t0 (by rw [g2.1 31 (by omega) (by omega)]; exact t1) c.1
  have all : ∀ t, 0 ≤ t → t < M 31 0 → hAl M ly tg t = true → ly t = true := by
    intro t t0 t1 c
    unfold hAl at c
    rw [Bool.or_eq_true, Bool.and_eq_true, Bool.and_eq_true] at c
    rcases c with c | c
    · have e := v6 t t0 (by rw [g5.1 31 (by omega) (by omega)]; exact t1)
      rw [psh_ke h (hF_ke g5)] at e
      rw [← e] at c
      exact w6 t t0 (by rw [g5.1 31 (by omega) (by omega)]; exact t1) c.1
    · have e := v8 t t0 (by rw [g7.1 31 (by omega) (by omega)]; exact t1)
      rw [psh_ke h (hF_ke g7)] at e
      rw [← e] at c
      exact w8 t t0 (by rw [g7.1 31 (by omega) (by omega)]; exact t1) c.1
  refine ⟨y, aSet M9 64 1 (aLor (aLand y6 y7) (aLand y8 y9)), en_98 ⟨M1, y1, r1, M2, y2, r2, M3, y3, r3, M4, y4, r4, M6, y6, r6, M7, y7, r7, M8, y8, r8, M9, y9, r9, aSet M9 64 1 (aLor (aLand y6 y7) (aLand y8 y9)), y, ?_, rfl⟩, g10, x10, fun t t0 t1 => ?_, fun t t0 t1 => ?_⟩
  · rw [e0, e1]; exact r10
  · rw [v10 t t0 t1, g10.1 31 (by omega) (by omega), g10.1 33 (by omega) (by omega)]
    by_cases c : t < M 31 0
    · rw [ac t t0 c, al t t0 c, decide_eq_true c, Bool.true_and]
      have A := acl t t0 c
      have B := all t t0 c
      unfold hld hRd
      by_cases d : M 33 t = 3
      · rw [if_pos ⟨c, d⟩, if_pos d]
        cases hA : hAc M ly tg t
        · simp
        · rw [A hA]; simp
      · rw [if_neg (fun z => d z.2), if_neg d]
        cases hA : hAc M ly tg t
        · cases hB : hAl M ly tg t
          · simp
          · rw [B hB]; simp
        · rw [A hA]; simp
    · have c' : M 31 0 ≤ t := by omega
      rw [if_neg (fun z => c z.1), decide_eq_false c, Bool.false_and, lb_or, lb_and, lb_and, lb_or, lb_and, lb_and, o1 t c' t1, o3 t (by rw [g2.1 31 (by omega) (by omega)]; exact c') t1, o6 t (by rw [g5.1 31 (by omega) (by omega)]; exact c') t1, o8 t (by rw [g7.1 31 (by omega) (by omega)]; exact c') t1]
      rfl
  · rw [e0, e1]; exact ⟨ac t t0 t1, al t t0 t1⟩
end HLD
