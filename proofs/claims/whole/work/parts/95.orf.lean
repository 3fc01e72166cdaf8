/-! orders: the class's choice -/
section ORF1
variable {L : Nat} {M M1 M2 : aM}
theorem pw_p {k : Nat} (hk : k ≤ 6) : (64 : Int) ^ k ≤ 68719476736 ∧ (1 : Int) ≤ 64 ^ k := by
  have : k = 0 ∨ k = 1 ∨ k = 2 ∨ k = 3 ∨ k = 4 ∨ k = 5 ∨ k = 6 := by omega
  rcases this with rfl | rfl | rfl | rfl | rfl | rfl | rfl <;> decide
theorem aCmp_le {x y : Int} : aCmp x y ≤ 0 ↔ x ≤ y := by
  unfold aCmp
  split
  · omega
  · split <;> omega
/-- what is known of a set that is done with -/
def dpO (M : aM) (H : Nat → Int) (N s : Nat) : Prop := M 88 (s : Int) = (dpV H N (N - pcS s) s).1 ∧ (pcS s < N → ∃ i : Nat, i < N ∧ s.testBit i = false ∧ M 89 (s : Int) = i ∧ (dpV H N (N - pcS s) s).2 = i :: (dpV H N (N - pcS (sj s i)) (sj s i)).2)
theorem dp_le {H : Nat → Int} {N : Nat} (hn : N < 7) (hH : ∀ s, s < 2 ^ N → 0 ≤ H s ∧ H s < 64) : ∀ (k s : Nat), s < 2 ^ N → pcS s + k = N → (dpV H N k s).1 < 64 ^ k := by
  intro k s hs hk
  have e := dp_am hn hH k s hs hk
  have key : ∀ (ls : List (List Nat)) (a : Int × List Nat), (∀ l ∈ ls, vaL H s l < 64 ^ k) → a.1 < 64 ^ k → (amx (vaL H s) ls a).1 < 64 ^ k := by
    intro ls
    induction ls with
    | nil => intro a _ h; exact h
    | cons l ls ih =>
      intro a h ha
      refine ih _ (fun x hx => h x (List.mem_cons_of_mem _ hx)) ?_
      unfold amU
      split
      · exact h l List.mem_cons_self
      · exact ha
  rw [← e]
  refine key _ _ (fun l hl => ?_) (by have := p64 k; show (-1 : Int) < 64 ^ k; omega)
  have pl := pmL_len k s l hl
  have := (enc_le _ (ky_in hn hH l s hs pl.2)).2
  rw [kyL_len, pl.1] at this
  exact this
theorem s_115 {H : Nat → Int} {N s : Nat} (hn : N < 7) (hH : ∀ s, s < 2 ^ N → 0 ≤ H s ∧ H s ≤ 40) (hs : s < 2 ^ N) (hp : pcS s < N) (h87 : ∀ s : Nat, s < 2 ^ N → M 87 (s : Int) = H s) (hd : ∀ t : Nat, s < t → t < 2 ^ N → dpO M H N t) :
    ∃ M1, aE 115 [aR 84, aI (s : Int), aI (N : Int)] (SH L) M ([], SH L, M1) ∧ (∀ a, a ≠ 88 → a ≠ 89 → M1 a = M a) ∧ (∀ t : Int, t ≠ s → M1 88 t = M 88 t ∧ M1 89 t = M 89 t) ∧ dpO M1 H N s := by
  have n64 := ob_n64 N hn
  have hH6 : ∀ s, s < 2 ^ N → 0 ≤ H s ∧ H s < 64 := fun s h => by have := hH s h; omega
  obtain ⟨k, hk⟩ : ∃ k, N = pcS s + k + 1 := ⟨N - pcS s - 1, by omega⟩
  have l88 : aLn (SH L) 2 88 = 64 := rfl
  have l87 : aLn (SH L) 1 87 = 64 := rfl
  have l89 : aLn (SH L) 1 89 = 64 := rfl
  have pk := pw_p (k := k) (by omega)
  -- the wedges, one by one
  let Q : aM → Nat → Prop := fun M' i => (∀ a, a ≠ 88 → a ≠ 89 → M' a = M a) ∧ (∀ t : Int, t ≠ s → M' 88 t = M 88 t ∧ M' 89 t = M 89 t) ∧ M' 88 (s : Int) = ((List.range i).foldl (dpS H k s (dpV H N k)) (-1, [])).1 ∧
    (((List.range i).foldl (dpS H k s (dpV H N k)) (-1, [])).1 = -1 ∨ ∃ j : Nat, j < N ∧ s.testBit j = false ∧ M' 89 (s : Int) = j ∧ ((List.range i).foldl (dpS H k s (dpV H N k)) (-1, [])).2 = j :: (dpV H N k (sj s j)).2)
  have kk : N - pcS s = k + 1 := by omega
  have lp : ∀ m : Nat, ∀ i : Nat, ∀ M' : aM, i + m = N → Q M' i → ∃ M1, aX xc_115 (aSeek xc_115 40) [aR 84, aI (s : Int), aI (N : Int), aJ (64 ^ k), aU, aI (i : Int), aU, aU, aU] [] (SH L) M' ([], SH L, M1) ∧ Q M1 N := by
    intro m
    induction m with
    | zero =>
      intro i M' im hQ
      rw [show i = N by omega] at hQ
      exact ⟨M', bl_115_40 ⟨fun _ => rfl, fun q => absurd (by omega) q⟩, hQ⟩
    | succ m ih =>
      intro i M' im hQ
      obtain ⟨q1, q2, q3, q4⟩ := hQ
      have eo := ob_or s (by omega) i (by omega)
      have ei := ob_in s (by omega) i (by omega)
      have u := ob_up N hn s hs i (by omega)
      have nx : ∀ M2 : aM, Q M2 (i + 1) → ∃ M1, aX xc_115 (aSeek xc_115 115) [aR 84, aI (s : Int), aI (N : Int), aJ (64 ^ k), aU, aI (i : Int), aU, aU, aU] [] (SH L) M2 ([], SH L, M1) ∧ Q M1 N := by
        intro M2 h2
        obtain ⟨M1, r, y⟩ := ih (i + 1) M2 (by omega) h2
        refine ⟨M1, bl_115_115 ?_, y⟩
        rw [aWi (z := (i : Int) + 1) (by omega) (by omega)]
        exact r
      have fs : (List.range (i + 1)).foldl (dpS H k s (dpV H N k)) (-1, []) = dpS H k s (dpV H N k) ((List.range i).foldl (dpS H k s (dpV H N k)) (-1, [])) i := by
        rw [List.range_succ, List.foldl_append]; rfl
      obtain ⟨A, hA⟩ : ∃ A, A = (List.range i).foldl (dpS H k s (dpV H N k)) (-1, []) := ⟨_, rfl⟩
      rw [← hA] at q3 q4 fs
      by_cases c : s.testBit i = true
      · have e0 : dpS H k s (dpV H N k) A i = A := by unfold dpS; rw [if_pos c]
        rw [e0] at fs
        obtain ⟨M1, r, y⟩ := nx M' ⟨q1, q2, by rw [fs]; exact q3, by rw [fs]; exact q4⟩
        exact ⟨M1, bl_115_40 ⟨fun q => absurd q (by omega), fun _ => ⟨fun q => absurd q (by omega), fun _ => ⟨fun _ => r, fun q => absurd (by rw [eo, ei.mp c]) q⟩⟩⟩, y⟩
      · have c2 : s.testBit i = false := by simpa using c
        have u2 := u.2.2 c2
        have d := hd (sj s i) u2.2 u.1
        have hb := hH _ u.1
        have ks : N - pcS (sj s i) = k := by omega
        have nn := dp_nn hn hH6 k (sj s i) u.1 (by omega)
        have ll := dp_le hn hH6 k (sj s i) u.1 (by omega)
        have e87 : M' 87 ((sj s i : Nat) : Int) = H (sj s i) := by rw [q1 87 (by omega) (by omega)]; exact h87 _ u.1
        have e88 : M' 88 ((sj s i : Nat) : Int) = (dpV H N k (sj s i)).1 := by rw [(q2 _ (by omega)).1, d.1, ks]
        obtain ⟨P, hP⟩ : ∃ P : Int, P = 64 ^ k := ⟨_, rfl⟩
        have m0 : 0 ≤ P * H (sj s i) := Int.mul_nonneg (by omega) hb.1
        have m1 : P * H (sj s i) ≤ P * 40 := Int.mul_le_mul_of_nonneg_left hb.2 (by omega)
        have ev : aWL (aWL (64 ^ k * M' 87 ((sj s i : Nat) : Int)) + M' 88 ((sj s i : Nat) : Int)) = 64 ^ k * H (sj s i) + (dpV H N k (sj s i)).1 := by
          rw [e87, e88, ← hP, aWLi (z := P * H (sj s i)) (by omega) (by omega), aWLi (by omega) (by omega)]
        have neq : ¬ aOr (s : Int) (aShl 1 (i : Int)) = (s : Int) := by rw [eo]; omega
        obtain ⟨v, hv⟩ : ∃ v, v = 64 ^ k * H (sj s i) + (dpV H N k (sj s i)).1 := ⟨_, rfl⟩
        rw [← hv] at ev
        have sj64 : ((sj s i : Nat) : Int) < 64 := by omega
        by_cases g : A.1 < v
        · have e0 : dpS H k s (dpV H N k) A i = (v, i :: (dpV H N k (sj s i)).2) := by unfold dpS; rw [if_neg c, ← hv, if_pos g]
          rw [e0] at fs
          obtain ⟨M1, r, y⟩ := nx (aSet (aSet M' 88 (s : Int) v) 89 (s : Int) (i : Int)) ⟨fun a a1 a2 => by rw [aSet_c a2, aSet_c a1]; exact q1 a a1 a2, fun t ht => by rw [aSet_c (show (88 : Int) ≠ 89 by omega), aSet_i ht, aSet_i ht, aSet_c (show (89 : Int) ≠ 88 by omega)]; exact q2 t ht, by rw [fs, aSet_c (show (88 : Int) ≠ 89 by omega), aSet_e], by rw [fs]; exact Or.inr ⟨i, by omega, c2, aSet_e, rfl⟩⟩
          refine ⟨M1, bl_115_40 ⟨fun q => absurd q (by omega), fun _ => ⟨fun q => absurd q (by omega), fun _ => ⟨fun q => absurd q neq, fun _ => ⟨by rw [eo]; omega, by rw [eo]; omega, by omega, fun q => ?_, fun _ => ⟨by omega, by omega, ?_⟩⟩⟩⟩⟩, y⟩
          · rw [eo, ev, aCmp_le, q3] at q; omega
          · rw [eo, ev]; exact r
        · have e0 : dpS H k s (dpV H N k) A i = A := by unfold dpS; rw [if_neg c, ← hv, if_neg g]
          rw [e0] at fs
          obtain ⟨M1, r, y⟩ := nx M' ⟨q1, q2, by rw [fs]; exact q3, by rw [fs]; exact q4⟩
          refine ⟨M1, bl_115_40 ⟨fun q => absurd q (by omega), fun _ => ⟨fun q => absurd q (by omega), fun _ => ⟨fun q => absurd q neq, fun _ => ⟨by rw [eo]; omega, by rw [eo]; omega, by omega, fun _ => r, fun q => absurd ?_ q⟩⟩⟩⟩, y⟩
          rw [eo, ev, aCmp_le, q3]; omega
  -- the weight
  have wl : ∀ m : Nat, ∀ i : Int, ∀ j : Nat, i + m = N → 0 ≤ i → j + m = k → ∀ o, aX xc_115 (aSeek xc_115 40) [aR 84, aI (s : Int), aI (N : Int), aJ (64 ^ k), aU, aI 0, aU, aU, aU] [] (SH L) (aSet M 88 (s : Int) (-1)) o → aX xc_115 (aSeek xc_115 10) [aR 84, aI (s : Int), aI (N : Int), aJ (64 ^ j), aU, aI i, aU, aU, aU] [] (SH L) M o := by
    intro m
    induction m with
    | zero =>
      intro i j im i0 jm o r
      rw [show j = k by omega]
      exact bl_115_10 ⟨fun _ => ⟨by omega, r⟩, fun q => absurd (by omega) q⟩
    | succ m ih =>
      intro i j im i0 jm o r
      have pj := pw_p (k := j) (by omega)
      refine bl_115_10 ⟨fun q => absurd q (by omega), fun _ => ?_⟩
      have := ih (i + 1) (j + 1) (by omega) (by omega) (by omega) o r
      rw [Int.pow_succ] at this
      rw [aWi (z := i + 1) (by omega) (by omega), aWLi (z := 64 ^ j * 64) (by omega) (by omega)]
      exact this
  obtain ⟨M1, r, q1, q2, q3, q4⟩ := lp N 0 (aSet M 88 (s : Int) (-1)) (by omega) ⟨fun a a1 a2 => aSet_c a1, fun t ht => ⟨aSet_i ht, by rw [aSet_c (by omega)]⟩, aSet_e, Or.inl rfl⟩
  have p6 : 0 ≤ (s : Int) ∧ (s : Int) < 64 := by omega
  have r114 : aE 114 [aI (s : Int)] (SH L) M ([aI (pcS s : Int)], SH L, M) := by
    rw [← ob_pc s (by omega)]
    exact s_114 p6
  refine ⟨M1, en_115 ⟨M, _, r114, ?_⟩, q1, q2, ?_, ?_⟩
  · rw [aWi (z := (pcS s : Int) + 1) (by omega) (by omega)]
    exact wl k _ 0 (by omega) (by omega) (by omega) _ r
  · rw [q3, kk]; rfl
  · intro _
    have nn := dp_nn hn hH6 (k + 1) s hs (by omega)
    rcases q4 with q4 | ⟨j, j0, j1, j2, j3⟩
    · exact absurd q4 (by have : (dpV H N (k + 1) s).1 = ((List.range N).foldl (dpS H k s (dpV H N k)) (-1, [])).1 := rfl; omega)
    · have u := ob_up N hn s hs j j0
      refine ⟨j, j0, j1, j2, ?_⟩
      rw [kk, show N - pcS (sj s j) = k by have := (u.2.2 j1).1; omega]
      exact j3
/-- the best order -/
noncomputable def bsO (M : aM) : List Nat := (dpV (hSt M) (M (M 1 3) 9).toNat (M (M 1 3) 9).toNat 0).2
def cO (M : aM) : Prop := M 84 5 ≤ M 1 9 ∧ (M 84 5 = M 1 9 → ∀ i : Nat, (i : Int) < M (M 1 3) 9 → M 85 (i : Int) = ((bsO M).getD i 0 : Nat) ∧ M 86 (i : Int) = (kyL (hSt M) 0 (bsO M)).getD i 0)
theorem bsO_ke (h : rP M) (k : ke M M1) : bsO M1 = bsO M := by
  have t := tx_le (rP_tx h)
  unfold bsO
  rw [hSt_ke h k, k 1 (by omega), k (M 1 3) (by omega)]
theorem cO_cg (h : rP M) (k : ke M M1) (f : ∀ a, 84 ≤ a → a ≤ 86 → M1 a = M a) (hc : cO M) : cO M1 := by
  have t := tx_le (rP_tx h)
  unfold cO
  rw [f 84 (by omega) (by omega), f 85 (by omega) (by omega), f 86 (by omega) (by omega), bsO_ke h k, hSt_ke h k, k 1 (by omega), k (M 1 3) (by omega)]
  exact hc
theorem s_116 (h : rP M) (hk : lkd M) (hc : cO M) : ∃ M1, aE 116 [aR 84, aR 64, aI (M (M 1 3) 9), aI (M 1 9)] (SH L) M ([], SH L, M1) ∧ (∀ a, a ≠ 77 → (a < 79 ∨ 82 < a) → (a < 84 ∨ 89 < a) → M1 a = M a) ∧ M1 84 5 = M 1 9 ∧ cO M1 := by
  have n := rP_n h
  have h9 := h.1.2.2.2.1
  by_cases c : M 84 5 = M 1 9
  · exact ⟨M, en_116 ⟨fun q => absurd c q, fun _ => rfl⟩, fun _ _ _ _ => rfl, c, hc⟩
  · obtain ⟨N, hN, hn, pw, p64_, p1⟩ := pw_N (n := M (M 1 3) 9) ⟨h9.1, h9.2.1⟩
    have l88 : aLn (SH L) 2 88 = 64 := rfl
    have l89 : aLn (SH L) 1 89 = 64 := rfl
    have l87 : aLn (SH L) 1 87 = 64 := rfl
    have l85 : aLn (SH L) 1 85 = 6 := rfl
    have l86 : aLn (SH L) 1 86 = 6 := rfl
    obtain ⟨K0, hK0⟩ : ∃ K, K = aSet M 84 5 (M 1 9) := ⟨_, rfl⟩
    have f0 : ∀ a, a ≠ 84 → K0 a = M a := fun a ha => by rw [hK0, aSet_c ha]
    have k0 : ke M K0 := fun a ha => f0 a (by omega)
    obtain ⟨K1, r1, f1, v1⟩ := s_113 (L := L) (ke_rP h k0) (lkd_cg hk (by rw [f0 1 (by omega)]) (fun a x y => f0 a (by omega)) (fun a x y => f0 a (by omega)) (by rw [f0 64 (by omega)]) (by rw [f0 64 (by omega)]) (by rw [f0 64 (by omega)])) (N := N) (by rw [f0 1 (by omega), f0 (M 1 3) (by have := tx_le (rP_tx h); omega)]; exact hN)
    rw [hSt_ke h k0] at v1
    obtain ⟨H, hH⟩ : ∃ H, H = hSt M := ⟨_, rfl⟩
    rw [← hH] at v1
    have hHb : ∀ s, s < 2 ^ N → 0 ≤ H s ∧ H s ≤ 40 := fun s _ => by
      rw [hH]
      have := cnt_le (f := fun t => hld M (fun _ => true) (s : Int) t) n.1
      unfold hSt
      omega
    have hHb6 : ∀ s, s < 2 ^ N → 0 ≤ H s ∧ H s < 64 := fun s hs => by have := hHb s hs; omega
    have fM : ∀ a, a ≠ 77 → a ≠ 84 → a ≠ 87 → (a < 79 ∨ 82 < a) → K1 a = M a := fun a a1 a2 a3 a4 => by rw [f1 a a1 a3 a4, f0 a a2]
    have e84 : K1 84 5 = M 1 9 := by rw [f1 84 (by omega) (by omega) (by omega), hK0, aSet_e]
    let G : aM → Prop := fun M' => (∀ a, a ≠ 77 → (a < 79 ∨ 82 < a) → (a < 84 ∨ 89 < a) → M' a = M a) ∧ M' 84 5 = M 1 9 ∧ ∀ s : Nat, s < 2 ^ N → M' 87 (s : Int) = H s
    -- reading the order off
    have rd : ∀ k s : Nat, ∀ j : Nat, ∀ M' : aM, j + k = N → s < 2 ^ N → pcS s = j → G M' → (∀ t : Nat, t < 2 ^ N → dpO M' H N t) →
        ∃ M1, aX xc_116 (aSeek xc_116 72) [aR 84, aU, aI (N : Int), aU, aU, aI (s : Int), aI (j : Int)] [] (SH L) M' ([], SH L, M1) ∧ G M1 ∧ (∀ q : Int, q < j → M1 85 q = M' 85 q ∧ M1 86 q = M' 86 q) ∧ ∀ q : Nat, q < k → M1 85 ((j + q : Nat) : Int) = ((dpV H N k s).2.getD q 0 : Nat) ∧ M1 86 ((j + q : Nat) : Int) = (kyL H s (dpV H N k s).2).getD q 0 := by
      intro k
      induction k with
      | zero =>
        intro s j M' jk hs hp hG hd
        exact ⟨M', bl_116_72 ⟨fun _ => rfl, fun q => absurd (by omega) q⟩, hG, fun q _ => ⟨rfl, rfl⟩, fun q hq => by omega⟩
      | succ k ih =>
        intro s j M' jk hs hp hG hd
        obtain ⟨i, i0, i1, i2, i3⟩ := (hd s hs).2 (by omega)
        have u := ob_up N hn s hs i i0
        have eo := ob_or s (by omega) i (by omega)
        have pu := (u.2.2 i1).1
        rw [show N - pcS s = k + 1 by omega, show N - pcS (sj s i) = k by omega] at i3
        obtain ⟨K, hK⟩ : ∃ K, K = aSet (aSet M' 85 (j : Int) (i : Int)) 86 (j : Int) (H (sj s i)) := ⟨_, rfl⟩
        have fK : ∀ a, a ≠ 85 → a ≠ 86 → K a = M' a := fun a a1 a2 => by rw [hK, aSet_c a2, aSet_c a1]
        obtain ⟨M1, r, g, w, y⟩ := ih (sj s i) (j + 1) K (by omega) u.1 (by omega) ⟨fun a a1 a2 a3 => by rw [fK a (by omega) (by omega)]; exact hG.1 a a1 a2 a3, by rw [fK 84 (by omega) (by omega)]; exact hG.2.1, fun t ht => by rw [fK 87 (by omega) (by omega)]; exact hG.2.2 t ht⟩ (fun t ht => by unfold dpO; rw [fK 88 (by omega) (by omega), fK 89 (by omega) (by omega)]; exact hd t ht)
        have r' : aX xc_116 (aSeek xc_116 72) [aR 84, aU, aI (N : Int), aU, aU, aI ((sj s i : Nat) : Int), aI (aW ((j : Int) + 1))] [] (SH L) K ([], SH L, M1) := by
          rw [aWi (by omega) (by omega)]
          exact r
        refine ⟨M1, bl_116_72 ⟨fun q => absurd q (by omega), fun _ => ⟨fun q => absurd q (by omega), fun _ => ?_⟩⟩, g, fun q hq => ?_, fun q hq => ?_⟩
        · rw [i2, aSet_c (show (89 : Int) ≠ 85 by omega), aSet_c (show (87 : Int) ≠ 85 by omega), i2, eo, hG.2.2 _ u.1, ← hK]
          exact ⟨by omega, by omega, by omega, by omega, by omega, r'⟩
        · have := w q (by omega)
          rw [this.1, this.2, hK, aSet_c (show (85 : Int) ≠ 86 by omega), aSet_i (by omega), aSet_i (by omega), aSet_c (show (86 : Int) ≠ 85 by omega)]
          exact ⟨rfl, rfl⟩
        · rw [i3]
          cases q with
          | zero =>
            have := w (j : Int) (by omega)
            rw [Nat.add_zero, this.1, this.2, hK, aSet_c (show (85 : Int) ≠ 86 by omega), aSet_e, aSet_e]
            exact ⟨rfl, rfl⟩
          | succ q =>
            have := y q (by omega)
            rw [show j + 1 + q = j + (q + 1) by omega] at this
            exact this
    -- the sets, from the greatest
    have cs : ∀ m : Nat, ∀ M' : aM, m < 2 ^ N → G M' → (∀ t : Nat, m ≤ t → t < 2 ^ N → dpO M' H N t) → ∃ M1, aX xc_116 (aSeek xc_116 48) [aR 84, aU, aI (N : Int), aU, aU, aI ((m : Int) - 1), aU] [] (SH L) M' ([], SH L, M1) ∧ G M1 ∧ ∀ q : Nat, q < N → M1 85 (q : Int) = ((dpV H N N 0).2.getD q 0 : Nat) ∧ M1 86 (q : Int) = (kyL H 0 (dpV H N N 0).2).getD q 0 := by
      intro m
      induction m with
      | zero =>
        intro M' hm hG hd
        obtain ⟨M1, r, g, w, y⟩ := rd N 0 0 M' (by omega) (by omega) rfl hG (fun t ht => hd t (by omega) ht)
        refine ⟨M1, bl_116_48 ⟨fun _ => r, fun q => absurd (by omega) q⟩, g, fun q hq => ?_⟩
        have := y q hq
        rw [Nat.zero_add] at this
        exact this
      | succ m ih =>
        intro M' hm hG hd
        have px := ob_ex N hn m (by omega)
        have pm : pcS m < N := by
          have : pcS m ≠ N := fun q => by have := px.2.1.mp q; omega
          omega
        obtain ⟨K, r, fK, gK, dK⟩ := s_115 (L := L) (M := M') (H := H) (N := N) (s := m) hn hHb (by omega) pm hG.2.2 (fun t t0 t1 => hd t (by omega) t1)
        obtain ⟨M1, r2, y⟩ := ih K (by omega) ⟨fun a a1 a2 a3 => by rw [fK a (by omega) (by omega)]; exact hG.1 a a1 a2 a3, by rw [fK 84 (by omega) (by omega)]; exact hG.2.1, fun t ht => by rw [fK 87 (by omega) (by omega)]; exact hG.2.2 t ht⟩ (fun t t0 t1 => by
          by_cases q : t = m
          · rw [q]; exact dK
          · have g := gK (t : Int) (by omega)
            unfold dpO
            rw [g.1, g.2]
            exact hd t (by omega) t1)
        refine ⟨M1, bl_116_48 ⟨fun q => absurd q (by omega), fun _ => ⟨K, ?_, ?_⟩⟩, y⟩
        · rw [show ((m + 1 : Nat) : Int) - 1 = (m : Int) by omega]; exact r
        · rw [show ((m + 1 : Nat) : Int) - 1 = (m : Int) by omega, aWi (z := (m : Int) + -1) (by omega) (by omega)]; exact r2
    have pa : pcS (2 ^ N - 1) = N := (ob_ex N hn (2 ^ N - 1) (by omega)).2.1.mpr rfl
    obtain ⟨M1, r2, g, y⟩ := cs (2 ^ N - 1) (aSet K1 88 ((2 ^ N - 1 : Nat) : Int) 0) (by omega) ⟨fun a a1 a2 a3 => by rw [aSet_c (by omega)]; exact fM a a1 (by omega) (by omega) a2, by rw [aSet_c (by omega)]; exact e84, fun t ht => by rw [aSet_c (by omega)]; exact v1 t ht⟩ (fun t t0 t1 => by
      rw [show t = 2 ^ N - 1 by omega]
      refine ⟨?_, fun q => by omega⟩
      rw [pa, Nat.sub_self, aSet_e]; rfl)
    have kM : ke M M1 := fun a ha => g.1 a (by omega) (by omega) (by omega)
    have e6 : aShl 1 (min (M (M 1 3) 9) 6) = ((2 ^ N : Nat) : Int) := by rw [show min (M (M 1 3) 9) 6 = M (M 1 3) 9 by omega, pw]
    refine ⟨M1, en_116 ⟨fun _ => ⟨rfl, K1, by rw [← hK0]; exact r1, ?_⟩, fun q => absurd q (fun z => c (Classical.not_not.mp (fun w => z w))) ⟩, g.1, g.2.1, ?_⟩
    · rw [e6, aWi (z := ((2 ^ N : Nat) : Int) - 1) (by omega) (by omega), aWi (z := ((2 ^ N : Nat) : Int) - 1 - 1) (by omega) (by omega), show ((2 ^ N : Nat) : Int) - 1 = ((2 ^ N - 1 : Nat) : Int) by omega]
      refine ⟨by omega, ?_⟩
      rw [← hN]
      exact r2
    · unfold cO
      rw [g.2.1, bsO_ke h kM, hSt_ke h kM, kM 1 (by omega), kM (M 1 3) (by have := tx_le (rP_tx h); omega)]
      refine ⟨Int.le_refl _, fun _ i hi => ?_⟩
      have := y i (by omega)
      unfold bsO
      rw [← hN, Int.toNat_natCast, ← hH]
      exact this
end ORF1
