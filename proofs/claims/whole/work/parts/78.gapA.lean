/-! gaps: the class, all kinds -/
section GAPA
variable {L : Nat} {M M1 M2 : aM}
def xsG (M : aM) (x : Int) : Nat → Int
  | 0 => x
  | k + 1 => xsG M x k - (abG M k (xsG M x k)).1 * M (M 1 3 + 4) k - (abG M k (xsG M x k)).2 * M (M 1 3 + 3) k
theorem xsG_at (h : rP M) {W x : Int} (hW : 0 ≤ W ∧ W ≤ 60) (hg : gpR M W) (x0 : 0 ≤ x ∧ x ≤ 60) (fi : M 120 x < 1000000) : ∀ k : Nat, (k : Int) ≤ M (M 1 3) 3 → (0 ≤ xsG M x k ∧ xsG M x k ≤ x) ∧ M (120 + k) (xsG M x k) < 1000000 := by
  intro k
  induction k with
  | zero => intro _; exact ⟨⟨x0.1, Int.le_refl _⟩, by rw [show (120 : Int) + ((0 : Nat) : Int) = 120 by omega]; exact fi⟩
  | succ k ih =>
    intro hk
    obtain ⟨i1, i2⟩ := ih (by omega)
    have tk := h.1.1.2.2.2.2.2 k (by omega) (by omega)
    obtain ⟨t, m, e, o, v, -⟩ := ab_fin h hW hg (k := k) (x := xsG M x k) (by omega) (by omega) (by omega) i2
    have rb := (gpR_rw h hW hg (k + 1) (by omega) (by omega)).1
    rw [show 120 + ((k : Int) + 1) = 121 + k by omega] at rb
    obtain ⟨y1, y2, y3, y4, y5, -⟩ := gOk_bd rb (by omega) (lfT_bd h) (rO_bd hW tk.2.1.1).1 (urK_bd hW tk.2.2.1.1).1 tk.2.2.1.1 tk.2.1.1 o
    rw [show xsG M x (k + 1) = xsG M x k - (abG M k (xsG M x k)).1 * M (M 1 3 + 4) k - (abG M k (xsG M x k)).2 * M (M 1 3 + 3) k from rfl, e, show (120 : Int) + ((k + 1 : Nat) : Int) = 121 + k by omega]
    show (0 ≤ xsG M x k - (t : Int) * M (M 1 3 + 4) k - (m : Int) * M (M 1 3 + 3) k ∧ xsG M x k - (t : Int) * M (M 1 3 + 4) k - (m : Int) * M (M 1 3 + 3) k ≤ x) ∧ M (121 + k) (xsG M x k - (t : Int) * M (M 1 3 + 4) k - (m : Int) * M (M 1 3 + 3) k) < 1000000
    unfold gFv at v
    omega
theorem gpR_cg (h : rP M) {W : Int} (hg : gpR M W) (f : ∀ a, a ≤ 137 → a ≠ 118 → M1 a = M a) (f6 : M1 118 6 = M 118 6) : gpR M1 W := by
  have tl := tx_le (rP_tx h)
  have t14 := h.1.1.2.2.2.2.1
  have e1 : M1 1 3 = M 1 3 := by rw [f 1 (by omega) (by omega)]
  have eT : M1 (M 1 3) = M (M 1 3) := f _ (by omega) (by omega)
  have hl2 := hg
  unfold gpR at hl2 ⊢
  rw [e1, eT, f6, f (120 + M (M 1 3) 3) (by omega) (by omega)]
  refine ⟨hl2.1, hl2.2.1, fun k k0 k1 => ?_⟩
  rw [lfT_cg h (fun a ha => f a (by omega) (by omega)) e1, f 135 (by omega) (by omega), f 136 (by omega) (by omega), f 137 (by omega) (by omega), f (120 + k) (by omega) (by omega), f (121 + k) (by omega) (by omega), f (M 1 3 + 3) (by omega) (by omega), f (M 1 3 + 4) (by omega) (by omega)]
  exact hl2.2.2 k k0 k1
theorem abG_cg (h : rP M) (f : ∀ a, a ≠ 118 → a ≤ 137 → M1 a = M a) {k x : Int} (k0 : 0 ≤ k) (k1 : k < 14) : abG M1 k x = abG M k x := by
  have tl := tx_le (rP_tx h)
  unfold abG QG
  rw [f 1 (by omega) (by omega), f (M 1 3 + 3) (by omega) (by omega), f (M 1 3 + 4) (by omega) (by omega), f (120 + k) (by omega) (by omega), f (121 + k) (by omega) (by omega), f 135 (by omega) (by omega), f 136 (by omega) (by omega), f 137 (by omega) (by omega)]
theorem xsG_cg (h : rP M) (f : ∀ a, a ≠ 118 → a ≤ 137 → M1 a = M a) {x : Int} : ∀ k : Nat, k ≤ 14 → xsG M1 x k = xsG M x k := by
  have tl := tx_le (rP_tx h)
  intro k
  induction k with
  | zero => intro _; rfl
  | succ k ih =>
    intro hk
    rw [show xsG M1 x (k + 1) = xsG M1 x k - (abG M1 k (xsG M1 x k)).1 * M1 (M1 1 3 + 4) k - (abG M1 k (xsG M1 x k)).2 * M1 (M1 1 3 + 3) k from rfl, ih (by omega), abG_cg h f (by omega) (by omega), f 1 (by omega) (by omega), f (M 1 3 + 3) (by omega) (by omega), f (M 1 3 + 4) (by omega) (by omega)]
    rfl
theorem s_155 (h : rP M) {W x : Int} (hW : 0 ≤ W ∧ W ≤ 60) (hg : gpR M W) (x0 : 0 ≤ x ∧ x ≤ 60) (fi : M 120 x < 1000000) {K : Nat} (hK : (K : Int) < M (M 1 3) 3) : ∃ M1, aE 155 [aR 118, aI x, aI K] (SH L) M ([], SH L, M1) ∧ ps 118 0 1 M M1 (abG M K (xsG M x K)).1 (abG M K (xsG M x K)).2 := by
  have tx0 := rP_tx h
  have tl := tx_le tx0
  have t14 := h.1.1.2.2.2.2.1
  have step : ∀ n : Nat, (n : Int) < M (M 1 3) 3 → ∀ M' : aM, (∀ a, a ≠ 118 → M' a = M a) → (∀ j, j ≠ 0 → j ≠ 1 → M' 118 j = M 118 j) → ∃ M2, aE 151 [aR 118, aI n, aI (xsG M x n), aI 0] (SH L) M' ([aI (xsG M x (n + 1))], SH L, M2) ∧ ps 118 0 1 M' M2 (abG M n (xsG M x n)).1 (abG M n (xsG M x n)).2 := by
    intro n hn M' f g
    have xb := (xsG_at h hW hg x0 fi n (by omega)).1
    have tk := h.1.1.2.2.2.2.2 n (by omega) hn
    have q1 : M' 1 3 = M 1 3 := by rw [f 1 (by omega)]
    obtain ⟨g1, g2, g3, -⟩ := hg.2.2 n (by omega) hn
    have rb := (gpR_rw h hW hg (n + 1) (by omega) (by omega)).1
    rw [show 120 + ((n : Int) + 1) = 121 + n by omega] at rb
    obtain ⟨M2, r, z⟩ := s_151c (L := L) (M := M') (k := n) (x := xsG M x n) (l := lfT M n) (tr := rO W (M (M 1 3 + 3) n)) (ur := urK W (M (M 1 3 + 3) n) (M (M 1 3 + 4) n)) (br := M (M 1 3 + 4) n) (ln := M (M 1 3 + 3) n) (rP_fr (lo := 118) (hi := 118) h (fun a ha => f a (by omega)) (by omega) (by omega)) (by rw [g 6 (by omega) (by omega), q1]; exact hg.1) (by omega) (by rw [q1, f (M 1 3) (by omega)]; exact hn) (by omega) (by rw [f (121 + (n : Int)) (by omega)]; exact rb) (by rw [f 135 (by omega)]; exact g1) (by rw [f 136 (by omega)]; exact g2) (by rw [f 137 (by omega)]; exact g3) (by rw [q1, f (M 1 3 + 4) (by omega)]) (by rw [q1, f (M 1 3 + 3) (by omega)]) (lfT_bd h) (rO_bd hW tk.2.1.1) (urK_bd hW tk.2.2.1.1) tk.2.2.1 tk.2.1
    rw [abG_cg h (fun a a1 _ => f a a1) (by omega) (by omega)] at r z
    exact ⟨M2, r, z⟩
  have key : ∀ d n : Nat, n + d = K → ∀ M' : aM, (∀ a, a ≠ 118 → M' a = M a) → (∀ j, j ≠ 0 → j ≠ 1 → M' 118 j = M 118 j) → ∃ M1, aX xc_155 (aSeek xc_155 5) [aR 118, aU, aI K, aI (xsG M x n), aI n] [] (SH L) M' ([], SH L, M1) ∧ ps 118 0 1 M M1 (abG M K (xsG M x K)).1 (abG M K (xsG M x K)).2 := by
    intro d
    induction d with
    | zero =>
      intro n nk M' f g
      have e : n = K := by omega
      subst e
      obtain ⟨M1, r, p1, p2, p3, p4⟩ := step n hK M' f g
      have e6 : M' 118 6 = M 1 3 := by rw [g 6 (by omega) (by omega)]; exact hg.1
      refine ⟨M1, bl_155_5 ⟨fun q => absurd q (by omega), fun _ => ?_⟩, fun a ha => by rw [p1 a ha]; exact f a ha, fun j j2 j3 => by rw [p2 j j2 j3]; exact g j j2 j3, p3, p4⟩
      rw [e6, f (M 1 3) (by omega)]
      refine ⟨(tx tx0).1, fun q => absurd q (by omega), fun _ => ⟨M1, _, r, bl_155_5 ⟨fun _ => rfl, fun q => absurd ?_ q⟩⟩⟩
      rw [aWi (by omega) (by omega)]; omega
    | succ d ih =>
      intro n nk M' f g
      obtain ⟨M2, r, p1, p2, p3, p4⟩ := step n (by omega) M' f g
      obtain ⟨M1, r1, z⟩ := ih (n + 1) (by omega) M2 (fun a ha => by rw [p1 a ha]; exact f a ha) (fun j j2 j3 => by rw [p2 j j2 j3]; exact g j j2 j3)
      have e6 : M' 118 6 = M 1 3 := by rw [g 6 (by omega) (by omega)]; exact hg.1
      refine ⟨M1, bl_155_5 ⟨fun q => absurd q (by omega), fun _ => ?_⟩, z⟩
      rw [e6, f (M 1 3) (by omega)]
      refine ⟨(tx tx0).1, fun q => absurd q (by omega), fun _ => ⟨M2, _, r, ?_⟩⟩
      rw [aWi (by omega) (by omega)]
      exact r1
  obtain ⟨M1, r, z⟩ := key K 0 (by omega) M (fun _ _ => rfl) (fun _ _ _ => rfl)
  exact ⟨M1, en_155 r, z⟩
end GAPA
