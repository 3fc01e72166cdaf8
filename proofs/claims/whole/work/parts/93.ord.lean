/-! orders: lists of wedges, and the best of them -/
section ORD1
def sj (s i : Nat) : Nat := s ||| (1 <<< i)
def pcS (s : Nat) : Nat := (s.testBit 0).toNat + (s.testBit 1).toNat + (s.testBit 2).toNat + (s.testBit 3).toNat + (s.testBit 4).toNat + (s.testBit 5).toNat
theorem ob_or : ∀ s : Nat, s < 64 → ∀ i : Nat, i < 6 → aOr (s : Int) (aShl 1 (i : Int)) = ((sj s i : Nat) : Int) := by decide +kernel
theorem ob_in : ∀ s : Nat, s < 64 → ∀ i : Nat, i < 6 → (s.testBit i = true ↔ sj s i = s) := by decide +kernel
theorem ob_pc : ∀ s : Nat, s < 64 → bc6 (s : Int) = ((pcS s : Nat) : Int) := by decide +kernel
theorem ob_up0 : ∀ n : Nat, n < 7 → ∀ s : Nat, s < 64 → ∀ i : Nat, i < 6 → (s < 2 ^ n ∧ i < n → sj s i < 2 ^ n) := by decide +kernel
theorem ob_up1 : ∀ s : Nat, s < 64 → ∀ i : Nat, i < 6 → s ≤ sj s i ∧ (s.testBit i = false → pcS (sj s i) = pcS s + 1 ∧ s < sj s i) := by decide +kernel
theorem ob_n64 : ∀ n : Nat, n < 7 → 2 ^ n ≤ 64 := by decide +kernel
theorem ob_up (n : Nat) (hn : n < 7) (s : Nat) (hs : s < 2 ^ n) (i : Nat) (hi : i < n) : sj s i < 2 ^ n ∧ s ≤ sj s i ∧ (s.testBit i = false → pcS (sj s i) = pcS s + 1 ∧ s < sj s i) := by
  have := ob_n64 n hn
  exact ⟨ob_up0 n hn s (by omega) i (by omega) ⟨hs, hi⟩, ob_up1 s (by omega) i (by omega)⟩
theorem ob_ex0 : ∀ n : Nat, n < 7 → ∀ s : Nat, s < 64 → (s < 2 ^ n → pcS s ≤ n ∧ (pcS s = n ↔ s = 2 ^ n - 1) ∧ (pcS s < n → (List.range n).any (fun i => !s.testBit i) = true)) := by decide +kernel
theorem ob_ex (n : Nat) (hn : n < 7) (s : Nat) (hs : s < 2 ^ n) : pcS s ≤ n ∧ (pcS s = n ↔ s = 2 ^ n - 1) ∧ (pcS s < n → ∃ i, i < n ∧ s.testBit i = false) := by
  have := ob_n64 n hn
  obtain ⟨a, b, c⟩ := ob_ex0 n hn s (by omega) hs
  refine ⟨a, b, fun q => ?_⟩
  have d := c q
  rw [List.any_eq_true] at d
  obtain ⟨i, hi, hb⟩ := d
  exact ⟨i, List.mem_range.mp hi, by simpa using hb⟩
/-- all ways on from a set -/
def pmL (n : Nat) : Nat → Nat → List (List Nat)
  | 0, _ => [[]]
  | k + 1, s => (List.range n).flatMap (fun i => if s.testBit i = true then [] else (pmL n k (sj s i)).map (fun r => i :: r))
def kyL (H : Nat → Int) : Nat → List Nat → List Int
  | _, [] => []
  | s, i :: r => H (sj s i) :: kyL H (sj s i) r
def enc : List Int → Int
  | [] => 0
  | h :: t => h * 64 ^ t.length + enc t
def vaL (H : Nat → Int) (s : Nat) (l : List Nat) : Int := enc (kyL H s l)
theorem kyL_len {H : Nat → Int} : ∀ (l : List Nat) (s : Nat), (kyL H s l).length = l.length := by
  intro l
  induction l with
  | nil => intro s; rfl
  | cons i r ih => intro s; show (kyL H (sj s i) r).length + 1 = r.length + 1; rw [ih]
theorem p64 (k : Nat) : (0 : Int) < 64 ^ k := by
  induction k with
  | zero => decide
  | succ k ih => rw [Int.pow_succ]; omega
theorem enc_le : ∀ t : List Int, (∀ h ∈ t, 0 ≤ h ∧ h < 64) → 0 ≤ enc t ∧ enc t < 64 ^ t.length := by
  intro t
  induction t with
  | nil => intro _; exact ⟨Int.le_refl _, by decide⟩
  | cons h t ih =>
    intro hb
    have a := hb h List.mem_cons_self
    have b := ih (fun x hx => hb x (List.mem_cons_of_mem _ hx))
    have p := p64 t.length
    have m : 0 ≤ h * 64 ^ t.length := Int.mul_nonneg a.1 (by omega)
    have m2 : h * 64 ^ t.length ≤ 63 * 64 ^ t.length := Int.mul_le_mul_of_nonneg_right (by omega) (by omega)
    show 0 ≤ h * 64 ^ t.length + enc t ∧ h * 64 ^ t.length + enc t < 64 ^ (t.length + 1)
    rw [Int.pow_succ]
    omega
/-- one way on is better than another -/
theorem enc_gt {g h : Int} {t u : List Int} (hl : t.length = u.length) (ht : ∀ x ∈ t, 0 ≤ x ∧ x < 64) (hu : ∀ x ∈ u, 0 ≤ x ∧ x < 64) : enc (h :: u) < enc (g :: t) ↔ h < g ∨ h = g ∧ enc u < enc t := by
  have a := enc_le t ht
  have b := enc_le u hu
  show h * 64 ^ u.length + enc u < g * 64 ^ t.length + enc t ↔ _
  rw [hl] at a ⊢
  have p := p64 u.length
  generalize (64 : Int) ^ u.length = P at *
  rcases Int.lt_trichotomy h g with q | q | q
  · have : (h + 1) * P ≤ g * P := Int.mul_le_mul_of_nonneg_right (by omega) (by omega)
    rw [Int.add_mul, Int.one_mul] at this
    omega
  · subst q
    constructor
    · intro z; exact Or.inr ⟨rfl, by omega⟩
    · intro z; omega
  · have : (g + 1) * P ≤ h * P := Int.mul_le_mul_of_nonneg_right (by omega) (by omega)
    rw [Int.add_mul, Int.one_mul] at this
    omega
def amU (v : List Nat → Int) (a : Int × List Nat) (l : List Nat) : Int × List Nat := if a.1 < v l then (v l, l) else a
def amx (v : List Nat → Int) (ls : List (List Nat)) (a : Int × List Nat) : Int × List Nat := ls.foldl (amU v) a
theorem amx_from {v : List Nat → Int} : ∀ (ls : List (List Nat)) (a : Int × List Nat), -1 ≤ a.1 → (∀ l ∈ ls, 0 ≤ v l) → amx v ls a = if a.1 < (amx v ls (-1, [])).1 then amx v ls (-1, []) else a := by
  intro ls
  induction ls with
  | nil => intro a ha _; show a = if a.1 < -1 then (-1, []) else a; rw [if_neg (by omega)]
  | cons l ls ih =>
    intro a ha hv
    have hl := hv l List.mem_cons_self
    have hr : ∀ l ∈ ls, 0 ≤ v l := fun x hx => hv x (List.mem_cons_of_mem _ hx)
    show amx v ls (amU v a l) = if a.1 < (amx v ls (amU v (-1, []) l)).1 then amx v ls (amU v (-1, []) l) else a
    have e0 : amU v (-1, []) l = (v l, l) := by unfold amU; rw [if_pos (show (-1 : Int) < v l by omega)]
    rw [e0, ih (v l, l) (by show -1 ≤ v l; omega) hr]
    unfold amU
    by_cases c : a.1 < v l
    · rw [if_pos c, ih (v l, l) (by show -1 ≤ v l; omega) hr]
      dsimp only
      by_cases d : v l < (amx v ls (-1, [])).1
      · rw [if_pos d, if_pos (by omega)]
      · rw [if_neg d, if_pos (show a.1 < (v l, l).1 from c)]
    · rw [if_neg c, ih a ha hr]
      dsimp only
      by_cases d : v l < (amx v ls (-1, [])).1
      · rw [if_pos d]
      · rw [if_neg d]
        dsimp only
        rw [if_neg (show ¬ a.1 < v l from c), if_neg (by omega)]
theorem amx_map {v w : List Nat → Int} {i : Nat} {c : Int} : ∀ (ls : List (List Nat)), (∀ l ∈ ls, v (i :: l) = c + w l) → ∀ (m : Int) (l : List Nat), amx v (ls.map (fun r => i :: r)) (c + m, i :: l) = (c + (amx w ls (m, l)).1, i :: (amx w ls (m, l)).2) := by
  intro ls
  induction ls with
  | nil => intro _ m l; rfl
  | cons x ls ih =>
    intro h m l
    have hx := h x List.mem_cons_self
    show amx v (ls.map (fun r => i :: r)) (amU v (c + m, i :: l) (i :: x)) = (c + (amx w ls (amU w (m, l) x)).1, i :: (amx w ls (amU w (m, l) x)).2)
    have hr : ∀ l ∈ ls, v (i :: l) = c + w l := fun y hy => h y (List.mem_cons_of_mem _ hy)
    unfold amU
    dsimp only
    rw [hx]
    by_cases q : m < w x
    · rw [if_pos q, if_pos (by omega)]; exact ih hr (w x) x
    · rw [if_neg q, if_neg (by omega)]; exact ih hr m l
/-- the best way on, set by set -/
def dpS (H : Nat → Int) (k s : Nat) (D : Nat → Int × List Nat) (a : Int × List Nat) (i : Nat) : Int × List Nat :=
  if s.testBit i = true then a else if a.1 < 64 ^ k * H (sj s i) + (D (sj s i)).1 then (64 ^ k * H (sj s i) + (D (sj s i)).1, i :: (D (sj s i)).2) else a
def dpV (H : Nat → Int) (n : Nat) : Nat → Nat → Int × List Nat
  | 0, _ => (0, [])
  | k + 1, s => (List.range n).foldl (dpS H k s (dpV H n k)) (-1, [])
theorem pmL_len {n : Nat} : ∀ (k s : Nat), ∀ l ∈ pmL n k s, l.length = k ∧ ∀ x ∈ l, x < n := by
  intro k
  induction k with
  | zero => intro s l hl; have : l = [] := by simpa [pmL] using hl
            subst this; exact ⟨rfl, fun x hx => by cases hx⟩
  | succ k ih =>
    intro s l hl
    unfold pmL at hl
    rw [List.mem_flatMap] at hl
    obtain ⟨i, hi, hl⟩ := hl
    split at hl
    · cases hl
    · rw [List.mem_map] at hl
      obtain ⟨r, hr, rfl⟩ := hl
      have := ih (sj s i) r hr
      refine ⟨by rw [List.length_cons, this.1], fun x hx => ?_⟩
      rcases List.mem_cons.mp hx with rfl | hx
      · exact List.mem_range.mp hi
      · exact this.2 x hx
theorem ky_in {H : Nat → Int} {n : Nat} (hn : n < 7) (hH : ∀ s, s < 2 ^ n → 0 ≤ H s ∧ H s < 64) : ∀ (l : List Nat) (s : Nat), s < 2 ^ n → (∀ x ∈ l, x < n) → ∀ h ∈ kyL H s l, 0 ≤ h ∧ h < 64 := by
  intro l
  induction l with
  | nil => intro s _ _ h hh; cases hh
  | cons i r ih =>
    intro s hs hx h hh
    have u := (ob_up n hn s hs i (hx i List.mem_cons_self)).1
    rcases List.mem_cons.mp hh with rfl | hh
    · exact hH _ u
    · exact ih (sj s i) u (fun x hy => hx x (List.mem_cons_of_mem _ hy)) h hh
theorem va_nn {H : Nat → Int} {n : Nat} (hn : n < 7) (hH : ∀ s, s < 2 ^ n → 0 ≤ H s ∧ H s < 64) {s : Nat} (hs : s < 2 ^ n) {l : List Nat} (hl : ∀ x ∈ l, x < n) : 0 ≤ vaL H s l := (enc_le _ (ky_in hn hH l s hs hl)).1
theorem dp_nn {H : Nat → Int} {n : Nat} (hn : n < 7) (hH : ∀ s, s < 2 ^ n → 0 ≤ H s ∧ H s < 64) : ∀ (k s : Nat), s < 2 ^ n → pcS s + k = n → 0 ≤ (dpV H n k s).1 := by
  intro k
  induction k with
  | zero => intro s _ _; exact Int.le_refl _
  | succ k ih =>
    intro s hs hk
    obtain ⟨i, hi, ht⟩ := (ob_ex n hn s hs).2.2 (by omega)
    have key : ∀ (ls : List Nat) (a : Int × List Nat), (∀ x ∈ ls, x < n) → (i ∈ ls ∨ 0 ≤ a.1) → 0 ≤ (ls.foldl (dpS H k s (dpV H n k)) a).1 := by
      intro ls
      induction ls with
      | nil => intro a _ h; rcases h with h | h
               · cases h
               · exact h
      | cons x ls ih2 =>
        intro a hx h
        refine ih2 _ (fun y hy => hx y (List.mem_cons_of_mem _ hy)) ?_
        have u := ob_up n hn s hs x (hx x List.mem_cons_self)
        by_cases c : i ∈ ls
        · exact Or.inl c
        · refine Or.inr ?_
          unfold dpS
          have pos : s.testBit x = false → 0 ≤ 64 ^ k * H (sj s x) + (dpV H n k (sj s x)).1 := fun q => by
            have a1 := ih (sj s x) u.1 (by have := (u.2.2 q).1; omega)
            have a2 := Int.mul_nonneg (Int.le_of_lt (p64 k)) (hH _ u.1).1
            omega
          by_cases q : s.testBit x = true
          · rw [if_pos q]
            rcases h with h | h
            · rcases List.mem_cons.mp h with rfl | h
              · rw [ht] at q; cases q
              · exact absurd h c
            · exact h
          · have q2 : s.testBit x = false := by simpa using q
            have := pos q2
            rw [if_neg q]
            split
            · exact this
            · omega
    exact key (List.range n) (-1, []) (fun x hx => List.mem_range.mp hx) (Or.inl (List.mem_range.mpr hi))
theorem dp_am {H : Nat → Int} {n : Nat} (hn : n < 7) (hH : ∀ s, s < 2 ^ n → 0 ≤ H s ∧ H s < 64) : ∀ (k s : Nat), s < 2 ^ n → pcS s + k = n → amx (vaL H s) (pmL n k s) (-1, []) = dpV H n k s := by
  intro k
  induction k with
  | zero => intro s _ _; rfl
  | succ k ih =>
    intro s hs hk
    have key : ∀ (ls : List Nat) (a : Int × List Nat), (∀ x ∈ ls, x < n) → -1 ≤ a.1 → amx (vaL H s) (ls.flatMap (fun i => if s.testBit i = true then [] else (pmL n k (sj s i)).map (fun r => i :: r))) a = ls.foldl (dpS H k s (dpV H n k)) a := by
      intro ls
      induction ls with
      | nil => intro a _ _; rfl
      | cons x ls ih2 =>
        intro a hx ha
        have u := ob_up n hn s hs x (hx x List.mem_cons_self)
        have hr : ∀ y ∈ ls, y < n := fun y hy => hx y (List.mem_cons_of_mem _ hy)
        show ((if s.testBit x = true then [] else (pmL n k (sj s x)).map (fun r => x :: r)) ++ ls.flatMap (fun i => if s.testBit i = true then [] else (pmL n k (sj s i)).map (fun r => i :: r))).foldl (amU (vaL H s)) a = ls.foldl (dpS H k s (dpV H n k)) (dpS H k s (dpV H n k) a x)
        rw [List.foldl_append]
        have st : ((if s.testBit x = true then [] else (pmL n k (sj s x)).map (fun r => x :: r)).foldl (amU (vaL H s)) a) = dpS H k s (dpV H n k) a x := by
          unfold dpS
          by_cases q : s.testBit x = true
          · rw [if_pos q, if_pos q]; rfl
          · rw [if_neg q, if_neg q]
            have q2 : s.testBit x = false := by simpa using q
            have kk : pcS (sj s x) + k = n := by have := (u.2.2 q2).1; omega
            have e := ih (sj s x) u.1 kk
            have dn := dp_nn hn hH k (sj s x) u.1 kk
            have hm : ∀ l ∈ pmL n k (sj s x), vaL H s (x :: l) = 64 ^ k * H (sj s x) + vaL H (sj s x) l := by
              intro l hl
              show H (sj s x) * 64 ^ (kyL H (sj s x) l).length + enc (kyL H (sj s x) l) = _
              rw [kyL_len, (pmL_len k (sj s x) l hl).1, Int.mul_comm]; rfl
            have hv : ∀ l ∈ (pmL n k (sj s x)).map (fun r => x :: r), 0 ≤ vaL H s l := by
              intro l hl
              rw [List.mem_map] at hl
              obtain ⟨r, hr1, rfl⟩ := hl
              refine va_nn hn hH hs (fun y hy => ?_)
              rcases List.mem_cons.mp hy with rfl | hy
              · exact hx y List.mem_cons_self
              · exact (pmL_len k (sj s x) r hr1).2 y hy
            show amx (vaL H s) ((pmL n k (sj s x)).map (fun r => x :: r)) a = _
            -- the list isn't empty
            cases hL : pmL n k (sj s x) with
            | nil => rw [hL] at e; rw [← e] at dn; have dn2 : (0 : Int) ≤ -1 := dn; omega
            | cons l0 L =>
              have hl0 : l0 ∈ pmL n k (sj s x) := by rw [hL]; exact List.mem_cons_self
              have v0 : 0 ≤ vaL H (sj s x) l0 := va_nn hn hH u.1 (pmL_len k (sj s x) l0 hl0).2
              have v1 : 0 ≤ vaL H s (x :: l0) := hv (x :: l0) (List.mem_map_of_mem hl0)
              have e1 : amx (vaL H s) ((l0 :: L).map (fun r => x :: r)) (-1, []) = (64 ^ k * H (sj s x) + (dpV H n k (sj s x)).1, x :: (dpV H n k (sj s x)).2) := by
                show amx (vaL H s) (L.map (fun r => x :: r)) (amU (vaL H s) (-1, []) (x :: l0)) = _
                have : amU (vaL H s) (-1, []) (x :: l0) = (64 ^ k * H (sj s x) + vaL H (sj s x) l0, x :: l0) := by
                  unfold amU
                  rw [if_pos (show (-1 : Int) < vaL H s (x :: l0) by omega), hm l0 hl0]
                rw [this, amx_map L (fun l hl => hm l (by rw [hL]; exact List.mem_cons_of_mem _ hl))]
                have e2 : amx (vaL H (sj s x)) L (vaL H (sj s x) l0, l0) = dpV H n k (sj s x) := by
                  rw [← e, hL]
                  show _ = amx (vaL H (sj s x)) L (amU (vaL H (sj s x)) (-1, []) l0)
                  unfold amU
                  rw [if_pos (show (-1 : Int) < vaL H (sj s x) l0 by omega)]
                rw [e2]
              rw [amx_from _ a ha (by rw [← hL]; exact hv), e1]
        rw [st]
        refine ih2 _ hr ?_
        unfold dpS
        split
        · exact ha
        · rename_i q
          have q2 : s.testBit x = false := by simpa using q
          have a1 := dp_nn hn hH k (sj s x) u.1 (by have := (u.2.2 q2).1; omega)
          have a2 := Int.mul_nonneg (Int.le_of_lt (p64 k)) (hH _ u.1).1
          split
          · show -1 ≤ 64 ^ k * H (sj s x) + (dpV H n k (sj s x)).1; omega
          · exact ha
    exact key (List.range n) (-1, []) (fun x hx => List.mem_range.mp hx) (Int.le_refl _)
/-- the next order -/
def fI (l : List Nat) : Nat → Nat
  | 0 => 0
  | k + 1 => if l.getD (k + 1) 0 < l.getD k 0 then fI l k else k + 1
def fJ (l : List Nat) (x : Nat) : Nat → Nat
  | 0 => 0
  | k + 1 => if l.getD (k + 1) 0 < x then fJ l x k else k + 1
def swp (l : List Nat) (i j : Nat) : List Nat := (l.set i (l.getD j 0)).set j (l.getD i 0)
def rvR : Nat → List Nat → Nat → Nat → List Nat
  | 0, l, _, _ => l
  | f + 1, l, a, b => if a < b then rvR f (swp l a b) (a + 1) (b - 1) else l
def nxP (n : Nat) (l : List Nat) : Option (List Nat) := match fI l (n - 1) with
  | 0 => none
  | i + 1 => some (rvR 6 (swp l i (fJ l (l.getD i 0) (n - 1))) (i + 1) (n - 1))
def itP (n : Nat) : Nat → List Nat → List (List Nat)
  | 0, _ => []
  | f + 1, l => l :: (match nxP n l with
    | none => []
    | some l' => itP n f l')
theorem it_pm : ∀ n, n < 7 → itP n 721 (List.range n) = pmL n n 0 := by decide +kernel
end ORD1
