/-! orders: the reference's -/
section ORM1
variable {L : Nat} {M M1 M2 : aM}
/-- a row of small numbers holds a list -/
def hL (M : aM) (c : Int) (l : List Nat) : Prop := ∀ i : Nat, i < l.length → M c (i : Int) = ((l.getD i 0 : Nat) : Int)
theorem swp_len {l : List Nat} {i j : Nat} : (swp l i j).length = l.length := by unfold swp; rw [List.length_set, List.length_set]
theorem getD_set {l : List Nat} {i j v : Nat} (h : i < l.length) : (l.set i v).getD j 0 = if j = i then v else l.getD j 0 := by
  rw [List.getD_eq_getElem?_getD, List.getElem?_set, List.getD_eq_getElem?_getD]
  by_cases c : i = j
  · rw [if_pos c, if_pos c.symm, if_pos h]; rfl
  · rw [if_neg c, if_neg (fun z => c z.symm)]
theorem s_269 {l : List Nat} (h : hL M 200 l) (h6 : l.length ≤ 6) {i j : Nat} (hi : i < l.length) (hj : j < l.length) : ∃ M1, aE 269 [aR 145, aI (i : Int), aI (j : Int)] (SH L) M ([], SH L, M1) ∧ (∀ a, a ≠ 200 → M1 a = M a) ∧ hL M1 200 (swp l i j) := by
  have l2 : aLn (SH L) 1 200 = 6 := rfl
  refine ⟨_, en_269 ⟨by omega, by omega, by omega, by omega, rfl⟩, fun a ha => by rw [aSet_c ha, aSet_c ha], fun q hq => ?_⟩
  rw [swp_len] at hq
  unfold swp
  rw [getD_set (by rw [List.length_set]; exact hj), getD_set hi, aSet_q, aSet_q, h i hi, h j hj, h q hq]
  by_cases c1 : q = j
  · rw [if_pos c1, if_pos (by omega)]
  · rw [if_neg c1, if_neg (by omega)]
    by_cases c2 : q = i
    · rw [if_pos c2, if_pos (by omega)]
    · rw [if_neg c2, if_neg (by omega)]
theorem rv_run {N : Nat} (h6 : N ≤ 6) : ∀ f : Nat, ∀ l : List Nat, ∀ a b : Nat, ∀ M' : aM, l.length = N → hL M' 200 l → b ≤ a + f → b < N → ∃ M1, aX xc_270 (aSeek xc_270 78) [aR 145, aU, aU, aU, aI (a : Int), aI (b : Int)] [] (SH L) M' ([aI 1], SH L, M1) ∧ (∀ c, c ≠ 200 → M1 c = M' c) ∧ hL M1 200 (rvR f l a b) := by
  intro f
  induction f with
  | zero =>
    intro l a b M' hl h hab hb
    exact ⟨M', bl_270_78 ⟨fun _ => rfl, fun q => absurd (by omega) q⟩, fun _ _ => rfl, h⟩
  | succ f ih =>
    intro l a b M' hl h hab hb
    unfold rvR
    by_cases c : a < b
    · rw [if_pos c]
      obtain ⟨K, r, fK, hK⟩ := s_269 (L := L) h (by omega) (i := a) (j := b) (by omega) (by omega)
      obtain ⟨M1, r2, f2, h2⟩ := ih (swp l a b) (a + 1) (b - 1) K (by rw [swp_len]; exact hl) hK (by omega) (by omega)
      refine ⟨M1, bl_270_78 ⟨fun q => absurd q (by omega), fun _ => ⟨K, r, ?_⟩⟩, fun x hx => (f2 x hx).trans (fK x hx), h2⟩
      rw [aWi (z := (a : Int) + 1) (by omega) (by omega), aWi (z := (b : Int) + -1) (by omega) (by omega), show (b : Int) + -1 = ((b - 1 : Nat) : Int) by omega]
      exact r2
    · rw [if_neg c]
      exact ⟨M', bl_270_78 ⟨fun _ => rfl, fun q => absurd (by omega) q⟩, fun _ _ => rfl, h⟩
theorem fI_le {l : List Nat} : ∀ k, fI l k ≤ k := by
  intro k
  induction k with
  | zero => exact Nat.le_refl _
  | succ k ih => unfold fI; split <;> omega
theorem fI_at {l : List Nat} : ∀ k i, fI l k = i + 1 → l.getD i 0 ≤ l.getD (i + 1) 0 := by
  intro k
  induction k with
  | zero => intro i h; cases h
  | succ k ih =>
    intro i h
    unfold fI at h
    split at h
    · exact ih i h
    · have : k = i := by omega
      subst this
      omega
theorem fJ_in {l : List Nat} {i : Nat} (hi : l.getD i 0 ≤ l.getD (i + 1) 0) : ∀ k, i < k → i < fJ l (l.getD i 0) k ∧ fJ l (l.getD i 0) k ≤ k := by
  intro k
  induction k with
  | zero => intro h; omega
  | succ k ih =>
    intro h
    unfold fJ
    split
    · rename_i q
      by_cases c : k = i
      · subst c; omega
      · have := ih (by omega); omega
    · omega
theorem s_270 {N : Nat} (h6 : N ≤ 6) {l : List Nat} (hl : l.length = N) (h : hL M 200 l) : ∃ v M1, aE 270 [aR 145, aI (N : Int)] (SH L) M ([aI v], SH L, M1) ∧ (∀ a, a ≠ 200 → M1 a = M a) ∧ ((v = 0 ∧ nxP N l = none) ∨ (v = 1 ∧ ∃ l', nxP N l = some l' ∧ hL M1 200 l')) := by
  have l2 : aLn (SH L) 1 200 = 6 := rfl
  by_cases n0 : N = 0
  · subst n0
    exact ⟨0, M, en_270 (bl_270_4 ⟨fun _ => bl_270_31 ⟨fun q => absurd q (by decide), fun _ => rfl⟩, fun q => absurd (by decide) q⟩), fun _ _ => rfl, Or.inl ⟨rfl, rfl⟩⟩
  · have ff : ∀ k : Nat, k < N → ∀ o, aX xc_270 (aSeek xc_270 31) [aR 145, aI (N : Int), aI ((fI l k : Int) - 1), aU, aU, aU] [] (SH L) M o → aX xc_270 (aSeek xc_270 4) [aR 145, aI (N : Int), aI ((k : Int) - 1), aU, aU, aU] [] (SH L) M o := by
      intro k
      induction k with
      | zero => intro hk o r; exact bl_270_4 ⟨fun _ => r, fun q => absurd (by decide) q⟩
      | succ k ih =>
        intro hk o r
        unfold fI at r
        have e1 : ((k + 1 : Nat) : Int) - 1 = (k : Int) := by omega
        have g1 := h k (by omega)
        have g2 := h (k + 1) (by omega)
        rw [e1]
        have e2 : aW ((k : Int) + 1) = ((k + 1 : Nat) : Int) := by rw [aWi (by omega) (by omega)]; omega
        refine bl_270_4 ⟨fun q => absurd q (by omega), fun _ => ⟨by omega, by rw [e2]; omega, fun q => ?_, fun q => ?_⟩⟩
        · rw [e2, g1, g2] at q
          rw [if_neg (by omega), e1] at r
          exact r
        · rw [e2, g1, g2] at q
          rw [if_pos (by omega)] at r
          rw [aWi (z := (k : Int) + -1) (by omega) (by omega)]
          exact ih (by omega) o r
    unfold nxP
    have st : ∀ o, aX xc_270 (aSeek xc_270 31) [aR 145, aI (N : Int), aI ((fI l (N - 1) : Int) - 1), aU, aU, aU] [] (SH L) M o → aE 270 [aR 145, aI (N : Int)] (SH L) M o := by
      intro o r
      refine en_270 ?_
      rw [aWi (z := (N : Int) - 2) (by omega) (by omega), show (N : Int) - 2 = ((N - 1 : Nat) : Int) - 1 by omega]
      exact ff (N - 1) (by omega) o r
    have fl := fI_le (l := l) (N - 1)
    cases hf : fI l (N - 1) with
    | zero =>
      rw [hf] at st
      exact ⟨0, M, st _ (bl_270_31 ⟨fun q => absurd q (by decide), fun _ => rfl⟩), fun _ _ => rfl, Or.inl ⟨rfl, rfl⟩⟩
    | succ i =>
      rw [hf] at st fl
      have hi := fI_at _ _ hf
      have gi := h i (by omega)
      dsimp only
      have fj := fJ_in hi (N - 1) (by omega)
      obtain ⟨K, r, fK, hK⟩ := s_269 (L := L) h (by omega) (i := i) (j := fJ l (l.getD i 0) (N - 1)) (by omega) (by omega)
      obtain ⟨M1, r2, f2, h2⟩ := rv_run (L := L) h6 6 (swp l i (fJ l (l.getD i 0) (N - 1))) (i + 1) (N - 1) K (by rw [swp_len]; exact hl) hK (by omega) (by omega)
      have jj : ∀ k : Nat, i < k → k < N → fJ l (l.getD i 0) k = fJ l (l.getD i 0) (N - 1) → aX xc_270 (aSeek xc_270 41) [aR 145, aI (N : Int), aI (i : Int), aI (k : Int), aU, aU] [] (SH L) M ([aI 1], SH L, M1) := by
        intro k
        induction k with
        | zero => intro h0; omega
        | succ k ih =>
          intro h0 hk e
          have gk := h (k + 1) (by omega)
          by_cases c : l.getD (k + 1) 0 < l.getD i 0
          · have e2 : fJ l (l.getD i 0) (k + 1) = fJ l (l.getD i 0) k := by show (if l.getD (k + 1) 0 < l.getD i 0 then fJ l (l.getD i 0) k else k + 1) = _; rw [if_pos c]
            have ki : i < k := by
              by_cases q : k = i
              · subst q; omega
              · omega
            refine bl_270_41 ⟨by omega, by omega, fun q => ?_, fun _ => ?_⟩
            · rw [gi, gk] at q; omega
            · rw [aWi (z := ((k + 1 : Nat) : Int) + -1) (by omega) (by omega), show ((k + 1 : Nat) : Int) + -1 = (k : Int) by omega]
              exact ih ki (by omega) (by rw [← e2]; exact e)
          · have e2 : fJ l (l.getD i 0) (k + 1) = k + 1 := by show (if l.getD (k + 1) 0 < l.getD i 0 then fJ l (l.getD i 0) k else k + 1) = _; rw [if_neg c]
            rw [← e, e2] at r
            refine bl_270_41 ⟨by omega, by omega, fun _ => ⟨K, r, ?_⟩, fun q => absurd (by rw [gi, gk]; omega) q⟩
            rw [aWi (z := (i : Int) + 1) (by omega) (by omega), aWi (z := (N : Int) - 1) (by omega) (by omega), show (N : Int) - 1 = ((N - 1 : Nat) : Int) by omega, show (i : Int) + 1 = ((i + 1 : Nat) : Int) by omega]
            exact r2
      refine ⟨1, M1, st _ (bl_270_31 ⟨fun _ => ?_, fun q => absurd (by omega) q⟩), fun a ha => (f2 a ha).trans (fK a ha), Or.inr ⟨rfl, _, rfl, h2⟩⟩
      rw [show ((i + 1 : Nat) : Int) - 1 = (i : Int) by omega, aWi (z := (N : Int) - 1) (by omega) (by omega), show (N : Int) - 1 = ((N - 1 : Nat) : Int) by omega]
      exact jj (N - 1) (by omega) (by omega) rfl
theorem s_268 {H : Nat → Int} {N : Nat} (hn : N < 7) (hH : ∀ s, s < 2 ^ N → 0 ≤ H s ∧ H s < 64) (v : ∀ s : Nat, s < 2 ^ N → M 199 (s : Int) = H s) {l b : List Nat} (hl : l.length = N) (hb : b.length = N) (ll : ∀ x ∈ l, x < N) (lb_ : ∀ x ∈ b, x < N) (h1 : hL M 200 l) (h2 : hL M 201 b) : aE 268 [aR 145, aI (N : Int)] (SH L) M ([aI (bi (decide (vaL H 0 b < vaL H 0 l)))], SH L, M) := by
  have n64 := ob_n64 N hn
  have p1 : 1 ≤ 2 ^ N := (ob_pw N hn).2.2
  have a0 : aLn (SH L) 1 200 = 6 := rfl
  have a1 : aLn (SH L) 1 201 = 6 := rfl
  have a9 : aLn (SH L) 1 199 = 64 := rfl
  have key : ∀ r q : List Nat, ∀ p s t : Nat, r.length = q.length → p + r.length = N → (∀ x ∈ r, x < N) → (∀ x ∈ q, x < N) → s < 2 ^ N → t < 2 ^ N → (∀ i : Nat, i < r.length → M 200 ((p + i : Nat) : Int) = ((r.getD i 0 : Nat) : Int) ∧ M 201 ((p + i : Nat) : Int) = ((q.getD i 0 : Nat) : Int)) →
      aX xc_268 (aSeek xc_268 7) [aR 145, aI (N : Int), aI (s : Int), aI (t : Int), aI (p : Int)] [] (SH L) M ([aI (bi (decide (vaL H t q < vaL H s r)))], SH L, M) := by
    intro r
    induction r with
    | nil =>
      intro q p s t e1 e2 _ _ _ _ _
      cases q with
      | nil => exact bl_268_7 ⟨fun _ => rI (bin (by show ¬ (0 : Int) < 0; omega)), fun z => absurd (by have : p = N := e2; omega) z⟩
      | cons _ _ => cases e1
    | cons i r ih =>
      intro q p s t e1 e2 hr hq hs ht hv
      cases q with
      | nil => cases e1
      | cons j q =>
        rw [List.length_cons] at e2
        have el : r.length = q.length := by rw [List.length_cons, List.length_cons] at e1; omega
        have hi := hr i List.mem_cons_self
        have hj := hq j List.mem_cons_self
        have u1 := ob_up N hn s hs i hi
        have u2 := ob_up N hn t ht j hj
        have o1 := ob_or s (by omega) i (by omega)
        have o2 := ob_or t (by omega) j (by omega)
        have v0 := hv 0 (by rw [List.length_cons]; omega)
        rw [Nat.add_zero] at v0
        have v1 : M 200 (p : Int) = (i : Int) := v0.1
        have v2 : M 201 (p : Int) = (j : Int) := v0.2
        have hr' : ∀ x ∈ r, x < N := fun x hx => hr x (List.mem_cons_of_mem _ hx)
        have hq' : ∀ x ∈ q, x < N := fun x hx => hq x (List.mem_cons_of_mem _ hx)
        have gt := enc_gt (g := H (sj s i)) (h := H (sj t j)) (t := kyL H (sj s i) r) (u := kyL H (sj t j) q) (by rw [kyL_len, kyL_len]; exact el) (ky_in hn hH r _ u1.1 hr') (ky_in hn hH q _ u2.1 hq')
        have gt' : vaL H t (j :: q) < vaL H s (i :: r) ↔ H (sj t j) < H (sj s i) ∨ H (sj t j) = H (sj s i) ∧ vaL H (sj t j) q < vaL H (sj s i) r := gt
        have st : ∀ o, (H (sj s i) = H (sj t j) → aX xc_268 (aSeek xc_268 7) [aR 145, aI (N : Int), aI ((sj s i : Nat) : Int), aI ((sj t j : Nat) : Int), aI (aW ((p : Int) + 1))] [] (SH L) M o) → (¬ H (sj s i) = H (sj t j) → H (sj s i) ≤ H (sj t j) → o = ([aI 0], SH L, M)) → (¬ H (sj s i) = H (sj t j) → ¬ H (sj s i) ≤ H (sj t j) → o = ([aI 1], SH L, M)) → aX xc_268 (aSeek xc_268 7) [aR 145, aI (N : Int), aI (s : Int), aI (t : Int), aI (p : Int)] [] (SH L) M o := by
          intro o x y z
          refine bl_268_7 ⟨fun q => absurd q (by omega), fun _ => ?_⟩
          rw [v1, v2, o1, o2, v _ u1.1, v _ u2.1]
          exact ⟨by omega, by omega, by omega, by omega, x, fun c => ⟨by omega, by omega, y c, z c⟩⟩
        refine st _ (fun c => ?_) (fun c d => rI ?_) (fun c d => rI ?_)
        · have := ih q (p + 1) (sj s i) (sj t j) el (by omega) hr' hq' u1.1 u2.1 (fun x hx => by
            have := hv (x + 1) (by rw [List.length_cons]; omega)
            rw [show p + (x + 1) = p + 1 + x by omega] at this
            exact this)
          rw [aWi (z := (p : Int) + 1) (by omega) (by omega)]
          rw [show decide (vaL H t (j :: q) < vaL H s (i :: r)) = decide (vaL H (sj t j) q < vaL H (sj s i) r) by rw [decide_eq_decide, gt']; omega]
          exact this
        · exact bin (by rw [gt']; omega)
        · exact bip (by rw [gt']; omega)
  have := key l b 0 0 0 (by omega) (by omega) ll lb_ (by omega) (by omega) (fun i hi => by rw [Nat.zero_add]; exact ⟨h1 i hi, h2 i (by omega)⟩)
  exact en_268 this
theorem pm_len : ∀ n : Nat, n < 7 → (pmL n n 0).length < 721 := by decide +kernel
theorem rg_D {n i : Nat} (h : i < n) : (List.range n).getD i 0 = i := by
  rw [List.getD_eq_getElem?_getD, List.getElem?_range h]; rfl
theorem s_271 (h : rP M) : ∃ M1, aE 271 [aR 145] (SH L) M ([], SH L, M1) ∧ sc M M1 ∧ (bsO M).length = (M (M 1 3) 9).toNat ∧ (∀ x ∈ bsO M, (x : Int) < M (M 1 3) 9) ∧ hL M1 201 (bsO M) ∧ ∀ s : Nat, (s : Int) < aShl 1 (M (M 1 3) 9) → M1 199 (s : Int) = hSt M s := by
  have n := rP_n h
  have h9 := h.1.2.2.2.1
  obtain ⟨N, hN, hn, pw, p64_, p1⟩ := pw_N (n := M (M 1 3) 9) ⟨h9.1, h9.2.1⟩
  have e159 : M 159 0 = (N : Int) := by rw [h9.2.2, hN]
  have l3 : aLn (SH L) 4 193 = 40 := rfl
  have l9 : aLn (SH L) 1 199 = 64 := rfl
  have a0 : aLn (SH L) 1 200 = 6 := rfl
  have a1 : aLn (SH L) 1 201 = 6 := rfl
  obtain ⟨H, hHe⟩ : ∃ H, H = hSt M := ⟨_, rfl⟩
  have hH : ∀ s, s < 2 ^ N → 0 ≤ H s ∧ H s < 64 := fun s _ => by rw [hHe]; exact hSt_le h
  have eb : bsO M = (dpV H N N 0).2 := by unfold bsO; rw [← hN, Int.toNat_natCast, ← hHe]
  have da := dp_am hn hH N 0 p1 (by show 0 + N = N; omega)
  have rgl : ∀ x ∈ List.range N, x < N := fun x hx => List.mem_range.mp hx
  have rgn : (List.range N).length = N := List.length_range
  have r0 := va_nn hn hH (s := 0) p1 rgl
  -- the list begins with the range
  obtain ⟨R, hR⟩ : ∃ R, itP N 721 (List.range N) = List.range N :: R := ⟨_, rfl⟩
  have am : amx (vaL H 0) (itP N 721 (List.range N)) (vaL H 0 (List.range N), List.range N) = dpV H N N 0 := by
    rw [← da, ← it_pm N hn, hR]
    show amx _ R (amU _ _ _) = amx _ R (amU _ _ _)
    unfold amU
    rw [if_neg (by omega), if_pos (show (-1 : Int) < vaL H 0 (List.range N) by omega)]
  have wf : ∀ x ∈ itP N 721 (List.range N), x.length = N ∧ ∀ y ∈ x, y < N := by
    rw [it_pm N hn]
    exact fun x hx => pmL_len N 0 x hx
  let G : aM → Prop := fun M' => sc M M' ∧ ∀ s : Nat, s < 2 ^ N → M' 199 (s : Int) = H s
  -- the orders, one by one
  have lp : ∀ f : Nat, ∀ l b : List Nat, ∀ M' : aM, (itP N f l).length < f → (∀ x ∈ itP N f l, x.length = N ∧ ∀ y ∈ x, y < N) → b.length = N → (∀ y ∈ b, y < N) → G M' → hL M' 200 l → hL M' 201 b →
      ∃ M1, aX xc_271 (aSeek xc_271 91) [aR 145, aI (N : Int), aI 1, aU] [] (SH L) M' ([], SH L, M1) ∧ G M1 ∧ hL M1 201 (amx (vaL H 0) (itP N f l) (vaL H 0 b, b)).2 := by
    intro f
    induction f with
    | zero => intro l b M' hf; omega
    | succ f ih =>
      intro l b M' hf hw hb bb hG h1 h2
      have wl := hw l List.mem_cons_self
      have r268 := s_268 (L := L) hn hH hG.2 wl.1 hb wl.2 bb h1 h2
      obtain ⟨b', hb'⟩ : ∃ b', b' = if vaL H 0 b < vaL H 0 l then l else b := ⟨_, rfl⟩
      have b'n : b'.length = N := by rw [hb']; split; exact wl.1; exact hb
      have b'b : ∀ y ∈ b', y < N := by rw [hb']; split; exact wl.2; exact bb
      have ea : amU (vaL H 0) (vaL H 0 b, b) l = (vaL H 0 b', b') := by
        unfold amU
        rw [hb']
        split <;> rfl
      -- the rest of it, with the better one taken
      have nx : ∀ M2 : aM, G M2 → hL M2 200 l → hL M2 201 b' → ∃ M1, aX xc_271 (aSeek xc_271 128) [aR 145, aI (N : Int), aU, aU] [] (SH L) M2 ([], SH L, M1) ∧ G M1 ∧ hL M1 201 (amx (vaL H 0) (itP N (f + 1) l) (vaL H 0 b, b)).2 := by
        intro M2 g2 k1 k2
        obtain ⟨v, K, r, fK, hc⟩ := s_270 (L := L) (by omega) wl.1 k1
        have gK : G K := ⟨sc_tr g2.1 ⟨fun a x y z => fK a (by omega), fun j hj => by rw [fK 145 (by omega)]⟩, fun s hs => by rw [fK 199 (by omega)]; exact g2.2 s hs⟩
        have kK : hL K 201 b' := fun i hi => by rw [fK 201 (by omega)]; exact k2 i hi
        unfold itP at hf hw ⊢
        rcases hc with ⟨v0, hx⟩ | ⟨v1, l', hx, kl⟩
        · rw [hx]
          refine ⟨K, bl_271_128 ⟨K, v, r, bl_271_91 ⟨fun _ => rfl, fun q => absurd v0 q⟩⟩, gK, ?_⟩
          show hL K 201 (amU (vaL H 0) (vaL H 0 b, b) l).2
          rw [ea]
          exact kK
        · rw [hx] at hf hw ⊢
          obtain ⟨M1, r2, g, y⟩ := ih l' b' K (by rw [List.length_cons] at hf; dsimp only at hf; omega) (fun x hx => hw x (List.mem_cons_of_mem _ hx)) b'n b'b gK kl kK
          refine ⟨M1, bl_271_128 ⟨K, v, r, ?_⟩, g, ?_⟩
          · rw [v1]; exact r2
          · show hL M1 201 (amx (vaL H 0) (itP N f l') (amU (vaL H 0) (vaL H 0 b, b) l)).2
            rw [ea]
            exact y
      by_cases c : vaL H 0 b < vaL H 0 l
      · rw [if_pos c] at hb'
        subst hb'
        -- copied
        have cp : ∀ k, ∀ M2 : aM, 0 ≤ k → G M2 → hL M2 200 b' → (∀ i : Nat, (i : Int) < k → i < N → M2 201 (i : Int) = ((b'.getD i 0 : Nat) : Int)) → ∃ M1, aX xc_271 (aSeek xc_271 105) [aR 145, aI (N : Int), aU, aI k] [] (SH L) M2 ([], SH L, M1) ∧ G M1 ∧ hL M1 201 (amx (vaL H 0) (itP N (f + 1) b') (vaL H 0 b, b)).2 := by
          refine upto (N : Int) (fun k hk M2 k0 g2 k1 k2 => ?_) (fun k hk ih2 M2 k0 g2 k1 k2 => ?_)
          · obtain ⟨M1, r, y⟩ := nx M2 g2 k1 (fun i hi => k2 i (by omega) (by omega))
            exact ⟨M1, bl_271_105 ⟨fun _ => r, fun q => absurd hk q⟩, y⟩
          · have ek : ((k.toNat : Nat) : Int) = k := by omega
            have g200 := k1 k.toNat (by omega)
            rw [ek] at g200
            obtain ⟨M1, r, y⟩ := ih2 (aSet M2 201 k (M2 200 k)) (by omega) ⟨sc_set g2.1 (by omega), fun s hs => by rw [aSet_c (by omega)]; exact g2.2 s hs⟩ (fun i hi => by rw [aSet_c (by omega)]; exact k1 i hi) (fun i hi hi2 => by
              rw [aSet_q]
              by_cases q : (i : Int) = k
              · rw [if_pos q, ← q]; exact k1 i (by omega)
              · rw [if_neg q]; exact k2 i (by omega) hi2)
            refine ⟨M1, bl_271_105 ⟨fun q => absurd q (by omega), fun _ => ⟨by omega, by omega, ?_⟩⟩, y⟩
            rw [aWi (z := k + 1) (by omega) (by omega)]
            exact r
        obtain ⟨M1, r, y⟩ := cp 0 M' (by omega) hG h1 (fun i hi => by omega)
        exact ⟨M1, bl_271_91 ⟨fun q => absurd q (by omega), fun _ => ⟨M', _, r268, fun q => absurd (bid0.mp q) (fun z => z c), fun _ => r⟩⟩, y⟩
      · rw [if_neg c] at hb'
        subst hb'
        obtain ⟨M1, r, y⟩ := nx M' hG h1 h2
        exact ⟨M1, bl_271_91 ⟨fun q => absurd q (by omega), fun _ => ⟨M', _, r268, fun _ => r, fun q => absurd (bid0.mpr c) q⟩⟩, y⟩
  -- the first order
  have ini : ∀ k, ∀ M2 : aM, 0 ≤ k → G M2 → (∀ i : Nat, (i : Int) < k → i < N → M2 200 (i : Int) = (i : Int) ∧ M2 201 (i : Int) = (i : Int)) → ∃ M1, aX xc_271 (aSeek xc_271 64) [aR 145, aI (N : Int), aI k, aU] [] (SH L) M2 ([], SH L, M1) ∧ G M1 ∧ hL M1 201 (dpV H N N 0).2 := by
    refine upto (N : Int) (fun k hk M2 k0 g2 k1 => ?_) (fun k hk ih M2 k0 g2 k1 => ?_)
    · obtain ⟨M1, r, y⟩ := lp 721 (List.range N) (List.range N) M2 (by rw [it_pm N hn]; exact pm_len N hn) wf rgn rgl g2 (fun i hi => by rw [rgn] at hi; rw [rg_D hi]; exact (k1 i (by omega) hi).1) (fun i hi => by rw [rgn] at hi; rw [rg_D hi]; exact (k1 i (by omega) hi).2)
      rw [am] at y
      exact ⟨M1, bl_271_64 ⟨fun _ => r, fun q => absurd hk q⟩, y⟩
    · obtain ⟨M1, r, y⟩ := ih (aSet (aSet M2 200 k k) 201 k k) (by omega) ⟨sc_set (sc_set g2.1 (by omega)) (by omega), fun s hs => by rw [aSet_c (by omega), aSet_c (by omega)]; exact g2.2 s hs⟩ (fun i hi hi2 => by
        rw [aSet_c (show (200 : Int) ≠ 201 by omega), aSet_q, aSet_q, aSet_c (show (201 : Int) ≠ 200 by omega)]
        by_cases q : (i : Int) = k
        · rw [if_pos q, if_pos q, q]; exact ⟨rfl, rfl⟩
        · rw [if_neg q, if_neg q]; exact k1 i (by omega) hi2)
      refine ⟨M1, bl_271_64 ⟨fun q => absurd q (by omega), fun _ => ⟨by omega, by omega, ?_⟩⟩, y⟩
      rw [aWi (z := k + 1) (by omega) (by omega)]
      exact r
  -- the sets
  have cn : ∀ k, ∀ M2 : aM, 0 ≤ k → sc M M2 → (∀ t, 0 ≤ t → t < M 31 0 → lyM M2 t = true) → (∀ s : Nat, (s : Int) < k → s < 2 ^ N → M2 199 (s : Int) = H s) → ∃ M1, aX xc_271 (aSeek xc_271 30) [aR 145, aI (N : Int), aI k, aU] [] (SH L) M2 ([], SH L, M1) ∧ G M1 ∧ hL M1 201 (dpV H N N 0).2 := by
    refine upto ((2 ^ N : Nat) : Int) (fun k hk M2 k0 g2 ly k1 => ?_) (fun k hk ih M2 k0 g2 ly k1 => ?_)
    · obtain ⟨M1, r, y⟩ := ini 0 M2 (by omega) ⟨g2, fun s hs => k1 s (by omega) hs⟩ (fun i hi => by omega)
      exact ⟨M1, bl_271_30 ⟨fun _ => r, fun q => absurd (by rw [hN, pw]; exact hk) q⟩, y⟩
    · have k2 := ke_sc g2
      obtain ⟨K, hK⟩ : ∃ K, K = aSet M2 145 61 k := ⟨_, rfl⟩
      have gK : sc M K := by rw [hK]; exact sc_fld g2 (by omega)
      have kK := ke_sc gK
      have lK : ∀ t, 0 ≤ t → t < K 31 0 → lyM K t = (fun _ => true) t := fun t t0 t1 => by
        rw [kK 31 (by omega)] at t1
        have := ly t t0 t1
        unfold lyM at this ⊢
        rw [hK, aSet_c (by omega)]
        exact this
      obtain ⟨K2, r2, f2, m2⟩ := s_246 (L := L) (ke_rP h kK) (ly := fun _ => true) lK
      have eK : K 145 61 = k := by rw [hK, aSet_e]
      rw [eK] at m2
      have g3 : sc M K2 := sc_tr gK ⟨fun a x y z => f2 a (by omega), fun j hj => by rw [f2 145 (by omega)]⟩
      have k3 := ke_sc g3
      have r3 := s_251 (L := L) (ke_rP h k3) m2
      obtain ⟨s, hs⟩ : ∃ s : Nat, (s : Int) = k := ⟨k.toNat, by omega⟩
      have e3 : sumI (fun t => bi (hld K2 (fun _ => true) k t)) 0 (K2 31 0) = H s := by
        rw [hHe]
        unfold hSt
        rw [k3 31 (by omega), hs]
        exact sumI_congr 0 (fun t _ _ => by rw [hld_ke h k3])
      rw [e3] at r3
      obtain ⟨M1, r, y⟩ := ih (aSet K2 199 k (H s)) (by omega) (sc_set g3 (by omega)) (fun t t0 t1 => by
        have := ly t t0 t1
        unfold lyM at this ⊢
        rw [aSet_c (by omega), f2 193 (by omega), hK, aSet_c (by omega)]
        exact this) (fun s' h1 h2 => by
        rw [aSet_q]
        by_cases q : (s' : Int) = k
        · rw [if_pos q, show s' = s by omega]
        · rw [if_neg q, f2 199 (by omega), hK, aSet_c (by omega)]; exact k1 s' (by omega) h2)
      refine ⟨M1, bl_271_30 ⟨fun q => absurd q (by rw [hN, pw]; omega), fun _ => ⟨K2, by rw [← hK]; exact r2, K2, _, r3, by omega, ?_⟩⟩, y⟩
      rw [aWi (z := k + 1) (by omega) (by omega)]
      exact r
  have al : ∀ k, ∀ M2 : aM, 0 ≤ k → sc M M2 → (∀ t, 0 ≤ t → t < k → t < 40 → M2 193 t = 1) → ∃ M1, aX xc_271 (aSeek xc_271 9) [aR 145, aI (N : Int), aI k, aU] [] (SH L) M2 ([], SH L, M1) ∧ G M1 ∧ hL M1 201 (dpV H N N 0).2 := by
    refine upto 40 (fun k hk M2 k0 g2 k1 => ?_) (fun k hk ih M2 k0 g2 k1 => ?_)
    · obtain ⟨M1, r, y⟩ := cn 0 M2 (by omega) g2 (fun t t0 t1 => by unfold lyM; rw [k1 t t0 (by omega) (by omega)]; rfl) (fun s hs => by omega)
      exact ⟨M1, bl_271_9 ⟨fun _ => r, fun q => absurd hk q⟩, y⟩
    · obtain ⟨M1, r, y⟩ := ih (aSet M2 193 k 1) (by omega) (sc_set g2 (by omega)) (fun t t0 t1 t2 => by
        rw [aSet_q]
        by_cases q : t = k
        · rw [if_pos q]
        · rw [if_neg q]; exact k1 t t0 (by omega) t2)
      refine ⟨M1, bl_271_9 ⟨fun q => absurd hk (by omega), fun _ => ⟨⟨by omega, Or.inr rfl⟩, ?_⟩⟩, y⟩
      rw [aWi (z := k + 1) (by omega) (by omega)]
      exact r
  obtain ⟨M1, r, g, y⟩ := al 0 M (by omega) sc_rf (fun t t0 t1 => by omega)
  -- what the best order is made of
  have memb : ∀ (ls : List (List Nat)) (a : Int × List Nat), (∀ l ∈ ls, l.length = N ∧ ∀ x ∈ l, x < N) → (a.2.length = N ∧ ∀ x ∈ a.2, x < N) → (amx (vaL H 0) ls a).2.length = N ∧ ∀ x ∈ (amx (vaL H 0) ls a).2, x < N := by
    intro ls
    induction ls with
    | nil => intro a _ ha; exact ha
    | cons l ls ih =>
      intro a hl ha
      refine ih _ (fun x hx => hl x (List.mem_cons_of_mem _ hx)) ?_
      unfold amU
      split
      · exact hl l List.mem_cons_self
      · exact ha
  have mb := memb (itP N 721 (List.range N)) (vaL H 0 (List.range N), List.range N) wf ⟨rgn, rgl⟩
  rw [am] at mb
  refine ⟨M1, en_271 (by rw [e159]; exact r), g.1, by rw [eb, mb.1, ← hN, Int.toNat_natCast], fun x hx => by rw [eb] at hx; have := mb.2 x hx; omega, by rw [eb]; exact y, fun s hs => ?_⟩
  rw [pw] at hs
  rw [g.2 s (by omega), hHe]
theorem s_272 (h : rP M) {i : Int} : ∃ M1, aE 272 [aR 145, aI i] (SH L) M ([aI (if 0 ≤ i ∧ i < M (M 1 3) 9 then (((bsO M).getD i.toNat 0 : Nat) : Int) else -1)], SH L, M1) ∧ sc M M1 := by
  have h9 := h.1.2.2.2.1
  have a1 : aLn (SH L) 1 201 = 6 := rfl
  by_cases c0 : i < 0
  · exact ⟨M, en_272 ⟨fun _ => rI (by rw [if_neg (by omega)]), fun q => absurd c0 q⟩, sc_rf⟩
  by_cases c1 : i < M (M 1 3) 9
  · obtain ⟨M1, r, f, bl, -, y, -⟩ := s_271 (L := L) h
    have v := y i.toNat (by omega)
    rw [show ((i.toNat : Nat) : Int) = i by omega] at v
    rw [if_pos ⟨by omega, c1⟩]
    exact ⟨M1, en_272 ⟨fun q => absurd q c0, fun _ => ⟨fun _ => ⟨M1, r, by omega, rI v.symm⟩, fun q => absurd (by omega) q⟩⟩, f⟩
  · exact ⟨M, en_272 ⟨fun _ => rI (by rw [if_neg (by omega)]), fun _ => ⟨fun q => absurd q (by omega), fun _ => rI (by rw [if_neg (by omega)])⟩⟩, sc_rf⟩
theorem s_273 (h : rP M) {i : Int} : ∃ M1, aE 273 [aR 145, aI i] (SH L) M ([aI (if 0 ≤ i ∧ i < M (M 1 3) 9 then (kyL (hSt M) 0 (bsO M)).getD i.toNat 0 else -1)], SH L, M1) ∧ sc M M1 := by
  have h9 := h.1.2.2.2.1
  have a1 : aLn (SH L) 1 201 = 6 := rfl
  have a9 : aLn (SH L) 1 199 = 64 := rfl
  by_cases c0 : i < 0
  · exact ⟨M, en_273 ⟨fun _ => rI (by rw [if_neg (by omega)]), fun q => absurd c0 q⟩, sc_rf⟩
  by_cases c1 : i < M (M 1 3) 9
  · obtain ⟨N, hN, hn, pw, p64_, p1⟩ := pw_N (n := M (M 1 3) 9) ⟨h9.1, h9.2.1⟩
    obtain ⟨M1, r, f, bl, bb, y, w⟩ := s_271 (L := L) h
    rw [pw] at w
    rw [← hN, Int.toNat_natCast] at bl
    have key : ∀ d : Nat, ∀ r : List Nat, ∀ k s : Nat, d < r.length → (∀ x ∈ r, x < N) → s < 2 ^ N → (k : Int) + d = i → (∀ q : Nat, q < r.length → M1 201 ((k + q : Nat) : Int) = ((r.getD q 0 : Nat) : Int)) → aX xc_273 (aSeek xc_273 24) [aR 145, aI i, aI (s : Int), aI (k : Int)] [] (SH L) M1 ([aI ((kyL (hSt M) s r).getD d 0)], SH L, M1) := by
      intro d
      induction d with
      | zero =>
        intro r k s hd hr hs hk hv
        cases r with
        | nil => exact absurd hd (by decide)
        | cons x r =>
          have hx := hr x List.mem_cons_self
          have u := ob_up N hn s hs x hx
          have o := ob_or s (by omega) x (by omega)
          have v := hv 0 hd
          have v2 : M1 201 (k : Int) = (x : Int) := v
          refine bl_273_24 ⟨fun q => absurd q (by omega), fun _ => ⟨by omega, ?_⟩⟩
          rw [v2, o]
          refine bl_273_24 ⟨fun _ => ⟨by omega, rI (w _ (by omega)).symm⟩, fun q => absurd ?_ q⟩
          rw [aWi (z := (k : Int) + 1) (by omega) (by omega)]
          omega
      | succ d ih =>
        intro r k s hd hr hs hk hv
        cases r with
        | nil => exact absurd hd (by show ¬ d + 1 < 0; omega)
        | cons x r =>
          have hx := hr x List.mem_cons_self
          have u := ob_up N hn s hs x hx
          have o := ob_or s (by omega) x (by omega)
          have v := hv 0 (by rw [List.length_cons]; omega)
          have v2 : M1 201 (k : Int) = (x : Int) := v
          refine bl_273_24 ⟨fun q => absurd q (by omega), fun _ => ⟨by omega, ?_⟩⟩
          rw [v2, o, aWi (z := (k : Int) + 1) (by omega) (by omega)]
          have := ih r (k + 1) (sj s x) (by rw [List.length_cons] at hd; omega) (fun z hz => hr z (List.mem_cons_of_mem _ hz)) u.1 (by omega) (fun q hq => by
            have := hv (q + 1) (by rw [List.length_cons]; omega)
            rw [show k + (q + 1) = k + 1 + q by omega] at this
            exact this)
          exact this
    have k0 := key i.toNat (bsO M) 0 0 (by omega) (fun x hx => by have := bb x hx; omega) p1 (by omega) (fun q hq => by rw [Nat.zero_add]; exact y q hq)
    rw [if_pos ⟨by omega, c1⟩]
    exact ⟨M1, en_273 ⟨fun q => absurd q c0, fun _ => ⟨fun _ => ⟨M1, r, k0⟩, fun q => absurd (by omega) q⟩⟩, f⟩
  · exact ⟨M, en_273 ⟨fun _ => rI (by rw [if_neg (by omega)]), fun _ => ⟨fun q => absurd q (by omega), fun _ => rI (by rw [if_neg (by omega)])⟩⟩, sc_rf⟩
theorem o_start (h : rP M) (hc : cP M) (ho : cO M) : ∃ K1 M1, aE 80 [aR 1] (SH L) M ([], SH L, K1) ∧ K1 1 = M 1 ∧ K1 (M 1 3) = M (M 1 3) ∧ aE 116 [aR 84, aR 64, aI (M (M 1 3) 9), aI (M 1 9)] (SH L) K1 ([], SH L, M1) ∧ fr 64 89 M M1 ∧ cP M1 ∧ cO M1 ∧ M1 84 5 = M1 1 9 := by
  have t := tx_le (rP_tx h)
  obtain ⟨K, r, f, hk⟩ := s_80 (L := L) h hc
  have k : ke M K := ke_fr f (by omega) (by omega)
  have hK := ke_rP h k
  have e1 : K 1 = M 1 := f 1 (by omega)
  have eT : K (M 1 3) = M (M 1 3) := f _ (by omega)
  obtain ⟨M1, r1, f1, e, d⟩ := s_116 (L := L) hK hk.1 (cO_cg h k (fun a x y => f a (by omega)) ho)
  rw [e1, eT] at r1
  refine ⟨K, M1, r, e1, eT, r1, fun a ha => by rw [f1 a (by omega) (by omega) (by omega)]; exact f a (by omega), lok_cP hc (by rw [f1 1 (by omega) (by omega) (by omega), e1]) (lok_hi hK hk (fun a ha => f1 a (by omega) (by omega) (by omega))), d, ?_⟩
  rw [e, f1 1 (by omega) (by omega) (by omega)]
theorem o_order (h : rP M) (hc : cP M) (ho : cO M) {i : Int} : ∃ v M1 M2, aE 117 [aR 1, aI i] (SH L) M ([aI v], SH L, M1) ∧ aE 272 [aR 145, aI i] (SH L) M1 ([aI v], SH L, M2) ∧ fr 64 89 M M1 ∧ cP M1 ∧ cO M1 ∧ sc M1 M2 := by
  have h9 := h.1.2.2.2.1
  have tl := rP_tx h
  have l5 : aLn (SH L) 1 85 = 6 := rfl
  by_cases c0 : i < 0
  · obtain ⟨M2, r2, s2⟩ := s_272 (L := L) h (i := i)
    rw [if_neg (by omega)] at r2
    exact ⟨-1, M, M2, en_117 ⟨fun _ => rfl, fun q => absurd c0 q⟩, r2, fr_rf, hc, ho, s2⟩
  by_cases c1 : i < M (M 1 3) 9
  · obtain ⟨K, M1, r, e1, eT, r1, f, a, b, e⟩ := o_start (L := L) h hc ho
    have k : ke M M1 := ke_fr f (by omega) (by omega)
    obtain ⟨M2, r2, s2⟩ := s_272 (L := L) (ke_rP h k) (i := i)
    have v := (b.2 e i.toNat (by rw [k 1 (by omega), k (M 1 3) (by have := tx_le tl; omega)]; omega)).1
    rw [show ((i.toNat : Nat) : Int) = i by omega] at v
    rw [if_pos (by rw [k 1 (by omega), k (M 1 3) (by have := tx_le tl; omega)]; omega), ← v] at r2
    refine ⟨M1 85 i, M1, M2, en_117 ⟨fun q => absurd q c0, fun _ => ⟨(tx tl).1, fun _ => ⟨K, r, by rw [e1]; exact (tx tl).1, M1, by rw [e1, eT]; exact r1, by omega, rfl⟩, fun q => absurd c1 q⟩⟩, r2, f, a, b, s2⟩
  · obtain ⟨M2, r2, s2⟩ := s_272 (L := L) h (i := i)
    rw [if_neg (by omega)] at r2
    exact ⟨-1, M, M2, en_117 ⟨fun q => absurd q c0, fun _ => ⟨(tx tl).1, fun q => absurd q c1, fun _ => rfl⟩⟩, r2, fr_rf, hc, ho, s2⟩
theorem o_ordered (h : rP M) (hc : cP M) (ho : cO M) {i : Int} : ∃ v M1 M2, aE 118 [aR 1, aI i] (SH L) M ([aI v], SH L, M1) ∧ aE 273 [aR 145, aI i] (SH L) M1 ([aI v], SH L, M2) ∧ fr 64 89 M M1 ∧ cP M1 ∧ cO M1 ∧ sc M1 M2 := by
  have h9 := h.1.2.2.2.1
  have tl := rP_tx h
  have l5 : aLn (SH L) 1 86 = 6 := rfl
  by_cases c0 : i < 0
  · obtain ⟨M2, r2, s2⟩ := s_273 (L := L) h (i := i)
    rw [if_neg (by omega)] at r2
    exact ⟨-1, M, M2, en_118 ⟨fun _ => rfl, fun q => absurd c0 q⟩, r2, fr_rf, hc, ho, s2⟩
  by_cases c1 : i < M (M 1 3) 9
  · obtain ⟨K, M1, r, e1, eT, r1, f, a, b, e⟩ := o_start (L := L) h hc ho
    have k : ke M M1 := ke_fr f (by omega) (by omega)
    obtain ⟨M2, r2, s2⟩ := s_273 (L := L) (ke_rP h k) (i := i)
    have v := (b.2 e i.toNat (by rw [k 1 (by omega), k (M 1 3) (by have := tx_le tl; omega)]; omega)).2
    rw [show ((i.toNat : Nat) : Int) = i by omega] at v
    rw [if_pos (by rw [k 1 (by omega), k (M 1 3) (by have := tx_le tl; omega)]; omega), ← v] at r2
    refine ⟨M1 86 i, M1, M2, en_118 ⟨fun q => absurd q c0, fun _ => ⟨(tx tl).1, fun _ => ⟨K, r, by rw [e1]; exact (tx tl).1, M1, by rw [e1, eT]; exact r1, by omega, rfl⟩, fun q => absurd c1 q⟩⟩, r2, f, a, b, s2⟩
  · obtain ⟨M2, r2, s2⟩ := s_273 (L := L) h (i := i)
    rw [if_neg (by omega)] at r2
    exact ⟨-1, M, M2, en_118 ⟨fun q => absurd q c0, fun _ => ⟨(tx tl).1, fun q => absurd q c1, fun _ => rfl⟩⟩, r2, fr_rf, hc, ho, s2⟩
end ORM1
