/-! TOKENS: the reference's scan -/
section TOK3
variable {L : Nat} {M M1 M2 : aM}
def wTb : List (Int × Int) := [(3544025, 0), (1310105, 1), (8683934, 2), (12324668, 3), (79495460, 4), (144941, 5), (369932, 6), (7749089, 7), (249, 8), (99677, 9), (10631, 10), (1111, 11), (423, 12), (24, 13), (25, 14), (459383, 15), (164222, 16), (10939463, 17), (161437, 18), (330758, 19), (464053, 20), (9876874, 21), (10408481, 30), (456887, 31)]
def nmL : List (Int × Int) → Int → Int
  | [], _ => -1
  | p :: r, a => if a = p.1 then p.2 else nmL r a
theorem aCmp0 {x c : Int} : aCmp x c = 0 ↔ x = c := by
  unfold aCmp
  split
  · omega
  · split <;> omega
theorem s_187 {a : Int} : aE 187 [aJ a] (SH L) M ([aI (nmL wTb a)], SH L, M) := by
  apply en_187
  simp only [aCmp0, nmL, wTb]
  repeat' (first | apply And.intro | intro _)
  all_goals (refine rI ?_; simp only [*, not_true_eq_false, not_false_eq_true, if_true, if_false, Classical.not_not] at *; try (subst_vars; rfl))
def cmL : List Int := [13, 14, 15, 16, 17, 18, 19, 20, 21, 0, 1, 2, 3, 7, 9, 30, 31, 4, 5, 6, 8, 12, 11, 10]
/-- the reference's number of the class's word -/
def cmW (w : Int) : Int := if w = -1 then -1 else cmL.getD w.toNat (-1)
def wds : List Nat → List Int → List (List Int)
  | [], _ => []
  | c :: cs, u => if c = 32 then u :: wds cs [] else wds cs ((c : Int) :: u)
theorem ws_no {l : List Int} : ∀ (cs : List Nat) (k : Int) (u : List Int), l ∉ wds cs u → wsU l cs k u = -1 := by
  intro cs
  induction cs with
  | nil => intro k u _; rfl
  | cons x cs ih =>
    intro k u h
    unfold wds at h
    unfold wsU
    by_cases c : x = 32
    · rw [if_pos c] at h ⊢
      rw [if_neg (fun q => h (by rw [q]; exact List.mem_cons_self))]
      exact ih _ _ (fun q => h (List.mem_cons_of_mem _ q))
    · rw [if_neg c] at h ⊢
      exact ih _ _ h
theorem wd_all : ∀ l ∈ wds aTxt [], (0 ≤ wI l ∧ wI l ≤ 23) ∧ nmL wTb (fR 27 96 l) = cmW (wI l) ∧ ∀ x ∈ l, 97 ≤ x ∧ x ≤ 122 := by decide +kernel
theorem tb_all : ∀ p ∈ wTb, ∃ l ∈ wds aTxt [], fR 27 96 l = p.1 := by decide +kernel
theorem nm_no {a : Int} : ∀ t : List (Int × Int), (∀ p ∈ t, a ≠ p.1) → nmL t a = -1 := by
  intro t
  induction t with
  | nil => intro _; rfl
  | cons p t ih =>
    intro h
    unfold nmL
    rw [if_neg (h p List.mem_cons_self)]
    exact ih (fun q hq => h q (List.mem_cons_of_mem _ hq))
def lw (l : List Int) : Prop := ∀ x ∈ l, 97 ≤ x ∧ x ≤ 122
theorem fR_inj {m : Int} (hm : 27 ≤ m) : ∀ l l' : List Int, lw l → lw l' → fR m 96 l = fR m 96 l' → l = l' := by
  intro l
  induction l with
  | nil =>
    intro l' _ h2 e
    cases l' with
    | nil => rfl
    | cons c r =>
      have hc := h2 c List.mem_cons_self
      have hr := fR_le (m := m) (s := 96) (by omega) r (fun x hx => by have := h2 x (List.mem_cons_of_mem _ hx); omega)
      have e2 : (0 : Int) = m * fR m 96 r + (c - 96) := e
      have := Int.mul_nonneg (show 0 ≤ m by omega) hr.1
      omega
  | cons c r ih =>
    intro l' h1 h2 e
    have hc := h1 c List.mem_cons_self
    have hr := fR_le (m := m) (s := 96) (by omega) r (fun x hx => by have := h1 x (List.mem_cons_of_mem _ hx); omega)
    cases l' with
    | nil =>
      have e2 : m * fR m 96 r + (c - 96) = 0 := e
      have := Int.mul_nonneg (show 0 ≤ m by omega) hr.1
      omega
    | cons c' r' =>
      have hc' := h2 c' List.mem_cons_self
      have e2 : m * fR m 96 r + (c - 96) = m * fR m 96 r' + (c' - 96) := e
      have hd : m * (fR m 96 r - fR m 96 r') = c' - c := by rw [Int.mul_sub]; omega
      have eq : fR m 96 r = fR m 96 r' := by
        rcases Int.lt_trichotomy (fR m 96 r - fR m 96 r') 0 with q | q | q
        · have : m * (fR m 96 r - fR m 96 r') ≤ m * (-1) := Int.mul_le_mul_of_nonneg_left (by omega) (by omega)
          omega
        · omega
        · have : m * 1 ≤ m * (fR m 96 r - fR m 96 r') := Int.mul_le_mul_of_nonneg_left (by omega) (by omega)
          omega
      have := ih r' (fun x hx => h1 x (List.mem_cons_of_mem _ hx)) (fun x hx => h2 x (List.mem_cons_of_mem _ hx)) eq
      rw [this]
      rw [eq] at e2
      rw [show c = c' by omega]
theorem wd_eq {l : List Int} (h : lw l) : nmL wTb (fR 27 96 l) = cmW (wI l) ∧ -1 ≤ wI l ∧ wI l ≤ 23 := by
  by_cases c : l ∈ wds aTxt []
  · have := wd_all l c
    exact ⟨this.2.1, by omega, this.1.2⟩
  · have e : wI l = -1 := ws_no aTxt 0 [] c
    rw [e]
    refine ⟨nm_no wTb (fun p hp q => ?_), by omega, by omega⟩
    obtain ⟨w, hw, ew⟩ := tb_all p hp
    have := fR_inj (m := 27) (by omega) l w h (wd_all w hw).2.2 (by rw [q, ew])
    rw [this] at c
    exact c hw
theorem cm_nn : ∀ w : Nat, w < 24 → 0 ≤ cmW (w : Int) := by decide +kernel
def sgR (t : Int) : Int := if t = 4 then 59 else if t = 6 then 43 else if t = 7 then 45 else if t = 8 then 42 else if t = 9 then 47 else if t = 14 then 40 else if t = 15 then 41 else if t = 10 then 300 else if t = 5 then 61 else if t = 11 then 301 else if t = 13 then 302 else if t = 12 then 60 else 0
theorem sg_e {x : Int} {d : Bool} : sgR (sgC x d) = if x = 61 then (if d = true then 300 else 61) else if x = 33 then (if d = true then 301 else 0) else if x = 60 then (if d = true then 302 else 60) else if x = 59 ∨ x = 43 ∨ x = 45 ∨ x = 42 ∨ x = 47 ∨ x = 40 ∨ x = 41 then x else 0 := by
  by_cases c : x = 61 ∨ x = 33 ∨ x = 60 ∨ x = 59 ∨ x = 43 ∨ x = 45 ∨ x = 42 ∨ x = 47 ∨ x = 40 ∨ x = 41
  · rcases c with rfl | rfl | rfl | rfl | rfl | rfl | rfl | rfl | rfl | rfl <;> cases d <;> rfl
  · have e : sgC x d = 1 := by
      unfold sgC
      rw [if_neg (by omega), if_neg (by omega), if_neg (by omega), if_neg (by omega), if_neg (by omega), if_neg (by omega), if_neg (by omega), if_neg (by omega), if_neg (by omega), if_neg (by omega)]
    rw [e, if_neg (by omega), if_neg (by omega), if_neg (by omega), if_neg (by omega)]
    rfl
def tyR (M : aM) (p : Int) : Int := if M 145 0 ≤ p then 4 else if isL M p = true then (if 8 < eL M p - p then 5 else if wI (rl M p (eL M p - p).toNat) = -1 then 0 else 3) else
  if isDg M p = true then (if 4 < eD M p - p then 5 else 1) else if sgC (M 146 p) (dbl M p) = 1 then 5 else 2
def whR (M : aM) (p : Int) : Int := if isL M p = true then cmW (wI (rl M p (eL M p - p).toNat)) else if isDg M p = true then fR 10 48 (rl M p (eD M p - p).toNat) else sgR (sgC (M 146 p) (dbl M p))
def naR (M : aM) (p : Int) : Int := fR 27 96 (rl M p (eL M p - p).toNat)
/-- a TOKEN, both sides -/
def nmR (va na : Int) : Prop := ∃ l : List Int, lw l ∧ va = fR 32 96 l ∧ na = fR 27 96 l
def tkR (ty va so wh na : Int) : Prop := (ty = 0 ∧ so = 4) ∨ (ty = 1 ∧ so = 5) ∨ (ty = 2 ∧ so = 0 ∧ nmR va na) ∨ (ty = 3 ∧ so = 1 ∧ wh = va ∧ 0 ≤ va ∧ va ≤ 9999) ∨ (so = 2 ∧ (4 ≤ ty ∧ ty ≤ 15) ∧ wh = sgR ty) ∨ (so = 3 ∧ ∃ w : Nat, w < 24 ∧ ty = 16 + w ∧ wh = cmW w)
theorem el_lw (h : tR M) {p : Int} (p0 : 0 ≤ p) (p1 : p ≤ M 145 0) : lw (rl M p (eL M p - p).toNat) := by
  have key : ∀ k, k ≤ M 145 0 → ∀ j, k ≤ j → j < rnE (isL M) (M 145 0) k → 97 ≤ M 146 j ∧ M 146 j ≤ 122 := by
    refine upto (M 145 0) (fun k hk k1 j j0 j1 => ?_) (fun k hk ih k1 j j0 j1 => ?_)
    · unfold rnE at j1; rw [fndI_nil hk] at j1; omega
    · by_cases c : isL M k = true
      · rw [rn_go c hk] at j1
        by_cases q : j = k
        · rw [q]
          exact (of_decide_eq_true (show decide (k < M 145 0 ∧ 97 ≤ M 146 k ∧ M 146 k ≤ 122) = true from c)).2
        · exact ih (by omega) j (by omega) j1
      · rw [rn_stop (by simpa using c) k1] at j1; omega
  have e := rn_le (p := isL M) (n := M 145 0) p p1
  intro x hx
  refine rl_mem (M := M) (p := p) (lo := 97) (hi := 122) _ (fun j j0 j1 => key p p1 j j0 ?_) x hx
  unfold eL at j1
  omega
theorem tk_rel (h : tR M) {p : Int} (p0 : 0 ≤ p) (p1 : p ≤ M 145 0) (v3 : tyC M p = 3 → 0 ≤ vaC M p ∧ vaC M p ≤ 9999) : tkR (tyC M p) (vaC M p) (tyR M p) (whR M p) (naR M p) := by
  unfold tyC tyR whR at *
  unfold vaC at v3 ⊢
  by_cases c0 : M 145 0 ≤ p
  · rw [if_pos c0, if_pos c0]; exact Or.inl ⟨rfl, rfl⟩
  · rw [if_neg c0] at v3 ⊢
    rw [if_neg c0]
    by_cases c1 : isL M p = true
    · rw [if_pos c1, if_pos c1, if_pos c1, if_pos c1]
      by_cases c2 : 8 < eL M p - p
      · rw [if_pos c2, if_pos c2]; exact Or.inr (Or.inl ⟨rfl, rfl⟩)
      · rw [if_neg c2, if_neg c2]
        have l := el_lw h p0 p1
        have w := wd_eq l
        by_cases c3 : wI (rl M p (eL M p - p).toNat) = -1
        · rw [if_pos c3, if_pos c3]
          exact Or.inr (Or.inr (Or.inl ⟨rfl, rfl, _, l, rfl, rfl⟩))
        · rw [if_neg c3, if_neg c3]
          refine Or.inr (Or.inr (Or.inr (Or.inr (Or.inr ⟨rfl, (wI (rl M p (eL M p - p).toNat)).toNat, by omega, by omega, ?_⟩))))
          rw [show (((wI (rl M p (eL M p - p).toNat)).toNat : Nat) : Int) = wI (rl M p (eL M p - p).toNat) by omega]
    · rw [if_neg c1] at v3 ⊢
      rw [if_neg c1, if_neg c1]
      rw [if_neg c1] at v3 ⊢
      by_cases c2 : isDg M p = true
      · rw [if_pos c2] at v3 ⊢
        rw [if_pos c2, if_pos c2]
        by_cases c3 : 4 < eD M p - p
        · rw [if_pos c3, if_pos c3]; exact Or.inr (Or.inl ⟨rfl, rfl⟩)
        · rw [if_neg c3] at v3 ⊢
          rw [if_neg c3]
          exact Or.inr (Or.inr (Or.inr (Or.inl ⟨rfl, rfl, rfl, v3 rfl⟩)))
      · rw [if_neg c2, if_neg c2, if_neg c2]
        have sg : sgC (M 146 p) (dbl M p) = 1 ∨ 4 ≤ sgC (M 146 p) (dbl M p) ∧ sgC (M 146 p) (dbl M p) ≤ 15 := by
          unfold sgC
          repeat' split
          all_goals omega
        by_cases c3 : sgC (M 146 p) (dbl M p) = 1
        · rw [if_pos c3]; exact Or.inr (Or.inl ⟨c3, rfl⟩)
        · rw [if_neg c3]
          exact Or.inr (Or.inr (Or.inr (Or.inr (Or.inl ⟨rfl, by omega, rfl⟩))))
/-- what the reference's scan reads -/
def tM (M M' : aM) : Prop := M' 145 0 = M 145 0 ∧ M' 146 = M 146
theorem s_183 (c : tM M M1) {k : Int} (k0 : 0 ≤ k) (hn : M 145 0 ≤ 2000) : aE 183 [aR 145, aI k] (SH L) M1 ([aI (if k < M 145 0 then M 146 k else 0)], SH L, M1) := by
  refine en_183 ⟨fun q => rI ?_, fun q => ⟨?_, rI ?_⟩⟩
  · rw [c.1] at q; rw [if_neg (by omega)]
  · rw [c.1] at q; rw [show aLn (SH L) 1 146 = 2000 from rfl]; omega
  · rw [c.1] at q; rw [if_pos (by omega), c.2]
theorem s_184 (c : tM M M1) {k : Int} (k0 : 0 ≤ k) (hn : M 145 0 ≤ 2000) : aE 184 [aR 145, aI k] (SH L) M1 ([aI (bi (isL M k))], SH L, M1) := by
  have r := s_183 (L := L) c k0 hn
  unfold isL
  refine en_184 ⟨M1, _, r, fun q => rI (bin ?_), fun q => ⟨M1, _, r, fun q2 => rI (bin ?_), fun q2 => rI (bip ?_)⟩⟩
  · by_cases d : k < M 145 0
    · rw [if_pos d] at q; omega
    · omega
  · by_cases d : k < M 145 0
    · rw [if_pos d] at q2; omega
    · omega
  · by_cases d : k < M 145 0
    · rw [if_pos d] at q q2; omega
    · rw [if_neg d] at q; omega
theorem s_185 (c : tM M M1) {k : Int} (k0 : 0 ≤ k) (hn : M 145 0 ≤ 2000) : aE 185 [aR 145, aI k] (SH L) M1 ([aI (bi (isDg M k))], SH L, M1) := by
  have r := s_183 (L := L) c k0 hn
  unfold isDg
  refine en_185 ⟨M1, _, r, fun q => rI (bin ?_), fun q => ⟨M1, _, r, fun q2 => rI (bin ?_), fun q2 => rI (bip ?_)⟩⟩
  · by_cases d : k < M 145 0
    · rw [if_pos d] at q; omega
    · omega
  · by_cases d : k < M 145 0
    · rw [if_pos d] at q2; omega
    · omega
  · by_cases d : k < M 145 0
    · rw [if_pos d] at q q2; omega
    · rw [if_neg d] at q; omega
theorem s_188 (c : tM M M1) {k : Int} (k0 : 0 ≤ k) (k1 : k < M 145 0) (hn : M 145 0 ≤ 2000) : aE 188 [aR 145, aI k] (SH L) M1 ([aI (sgR (sgC (M 146 k) (dbl M k)))], SH L, M1) := by
  have r := s_183 (L := L) c k0 hn
  have r2 := s_183 (L := L) c (k := k + 1) (by omega) hn
  rw [if_pos k1] at r
  obtain ⟨x, hx⟩ : ∃ x, x = M 146 k := ⟨_, rfl⟩
  obtain ⟨d, hd⟩ : ∃ d, d = dbl M k := ⟨_, rfl⟩
  have dv : (if k + 1 < M 145 0 then M 146 (k + 1) else 0) = 61 ↔ d = true := by
    rw [hd]
    unfold dbl
    rw [decide_eq_true_eq]
    by_cases q : k + 1 < M 145 0
    · rw [if_pos q]; omega
    · rw [if_neg q]; omega
  have fin : aX xc_188 (aSeek xc_188 23) [aU, aU, aI x, aU] [aI (bi d)] (SH L) M1 ([aI (sgR (sgC x d))], SH L, M1) := by
    rw [sg_e]
    cases d with
    | false =>
      refine bl_188_23 ?_
      repeat' (first | apply And.intro | intro _)
      all_goals
        refine rI ?_
        simp only [Bool.false_eq_true, if_false, bi_f, not_true_eq_false] at * <;> ((repeat' split) <;> omega)
    | true =>
      refine bl_188_23 ?_
      repeat' (first | apply And.intro | intro _)
      all_goals
        refine rI ?_
        simp only [if_true, bi_t] at * <;> ((repeat' split) <;> omega)
  rw [← hx, ← hd]
  rw [← hx] at r
  refine en_188 ⟨M1, x, r, M1, _, by rw [aWi (z := k + 1) (by omega) (by omega)]; exact r2, fun q => ?_, fun q => ?_⟩
  · have : d = false := by
      cases d with
      | false => rfl
      | true => exact absurd (dv.mpr rfl) q
    rw [this] at fin ⊢; exact fin
  · have : d = true := dv.mp (Classical.not_not.mp q)
    rw [this] at fin ⊢; exact fin
end TOK3
