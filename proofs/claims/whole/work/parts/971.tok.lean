/-! TOKENS: what they are, and the class's -/
section TOK1
variable {L : Nat} {M M1 M2 : aM}
def isL (M : aM) (k : Int) : Bool := decide (k < M 145 0 ∧ 97 ≤ M 146 k ∧ M 146 k ≤ 122)
def isDg (M : aM) (k : Int) : Bool := decide (k < M 145 0 ∧ 48 ≤ M 146 k ∧ M 146 k ≤ 57)
def isB (M : aM) (k : Int) : Bool := decide (k < M 145 0 ∧ (M 146 k = 9 ∨ M 146 k = 10 ∨ M 146 k = 13 ∨ M 146 k = 32))
def rnE (p : Int → Bool) (n k : Int) : Int := fndI (fun e => !p e) n k n
theorem rn_stop {p : Int → Bool} {n k : Int} (h : p k = false) (hk : k ≤ n) : rnE p n k = k := by
  unfold rnE
  by_cases c : k < n
  · exact fndI_yes c (by rw [h]; rfl)
  · rw [fndI_nil (by omega)]; omega
theorem rn_go {p : Int → Bool} {n k : Int} (h : p k = true) (hk : k < n) : rnE p n k = rnE p n (k + 1) := by
  unfold rnE
  exact fndI_no hk (by rw [h]; simp)
theorem rn_le {p : Int → Bool} {n : Int} : ∀ k, k ≤ n → k ≤ rnE p n k ∧ rnE p n k ≤ n := by
  refine upto n (fun k hk k1 => ?_) (fun k hk ih k1 => ?_)
  · unfold rnE; rw [fndI_nil hk]; omega
  · by_cases c : p k = true
    · rw [rn_go c hk]; have := ih (by omega); omega
    · rw [rn_stop (by simpa using c) k1]; omega
theorem rn_at {p : Int → Bool} {n : Int} (hp : ∀ k, n ≤ k → p k = false) : ∀ k, k ≤ n → p (rnE p n k) = false := by
  refine upto n (fun k hk k1 => ?_) (fun k hk ih k1 => ?_)
  · unfold rnE; rw [fndI_nil hk]; exact hp n (Int.le_refl _)
  · by_cases c : p k = true
    · rw [rn_go c hk]; exact ih (by omega)
    · rw [rn_stop (by simpa using c) k1]; simpa using c
def rl (M : aM) (p : Int) : Nat → List Int
  | 0 => []
  | k + 1 => M 146 (p + k) :: rl M p k
def fR (m s : Int) : List Int → Int
  | [] => 0
  | c :: r => m * fR m s r + (c - s)
theorem rl_len {p : Int} : ∀ k : Nat, (rl M p k).length = k := by
  intro k
  induction k with
  | zero => rfl
  | succ k ih => show (rl M p k).length + 1 = k + 1; rw [ih]
theorem tx_n : aTxt.length = 118 := by decide
/-- the words' places in the text -/
def wsU (l : List Int) : List Nat → Int → List Int → Int
  | [], _, _ => -1
  | c :: cs, k, u => if c = 32 then (if l = u then k else wsU l cs (k + 1) []) else wsU l cs k ((c : Int) :: u)
def wI (l : List Int) : Int := wsU l aTxt 0 []
def skT (M : aM) (k : Int) : Int := rnE (isB M) (M 145 0) k
def eL (M : aM) (p : Int) : Int := rnE (isL M) (M 145 0) p
def eD (M : aM) (p : Int) : Int := rnE (isDg M) (M 145 0) p
def dbl (M : aM) (p : Int) : Bool := decide (p + 1 < M 145 0 ∧ M 146 (p + 1) = 61)
/-- the class's type of a sign -/
def sgC (c : Int) (d : Bool) : Int := if c = 59 then 4 else if c = 43 then 6 else if c = 45 then 7 else if c = 42 then 8 else if c = 47 then 9 else if c = 40 then 14 else if c = 41 then 15 else
  if c = 61 then (if d = true then 10 else 5) else if c = 33 then (if d = true then 11 else 1) else if c = 60 then (if d = true then 13 else 12) else 1
def tyC (M : aM) (p : Int) : Int := if M 145 0 ≤ p then 0 else if isL M p = true then (if 8 < eL M p - p then 1 else if wI (rl M p (eL M p - p).toNat) = -1 then 2 else 16 + wI (rl M p (eL M p - p).toNat)) else
  if isDg M p = true then (if 4 < eD M p - p then 1 else 3) else sgC (M 146 p) (dbl M p)
def vaC (M : aM) (p : Int) : Int := if isL M p = true then fR 32 96 (rl M p (eL M p - p).toNat) else fR 10 48 (rl M p (eD M p - p).toNat)
def enT (M : aM) (p : Int) : Int := if M 145 0 ≤ p then p else if isL M p = true then eL M p else if isDg M p = true then eD M p else
  if sgC (M 146 p) (dbl M p) = 10 ∨ sgC (M 146 p) (dbl M p) = 11 ∨ sgC (M 146 p) (dbl M p) = 13 then p + 2 else p + 1
def pl (M : aM) : Nat → Int
  | 0 => skT M 0
  | i + 1 => skT M (enT M (pl M i))
/-- what the class's scan reads -/
def tC (M : aM) (M' : aM) : Prop := M' 4 3 = 2 ∧ M' 4 4 = M 145 0 ∧ M' 2 = M 2
theorem tC_b (h : tR M) (c : tC M M1) {k : Int} (k0 : 0 ≤ k) (k1 : k < M 145 0) : M1 2 k = (if M 146 k < 128 then M 146 k else M 146 k - 256) ∧ 0 ≤ M 146 k ∧ M 146 k ≤ 255 := by
  have := h.2.2 k k0 (by have := h.2.1; omega)
  rw [c.2.2, this.2, b8_v this.1]
  exact ⟨rfl, this.1⟩
theorem s_17 (h : tR M) (c : tC M M1) : ∀ k, 0 ≤ k → k ≤ M 145 0 → aE 17 [aR 4, aI k] (SH L) M1 ([aI (skT M k)], SH L, M1) := by
  have h2 := h.2.1
  have h1 := h.1
  have key : ∀ k, 0 ≤ k → k ≤ M 145 0 → aX xc_17 (aSeek xc_17 2) [aR 4, aU, aI k] [] (SH L) M1 ([aI (skT M k)], SH L, M1) := by
    refine upto (M 145 0) (fun k hk k0 k1 => ?_) (fun k hk ih k0 k1 => ?_)
    · refine bl_17_2 ⟨fun _ => rI ?_, fun q => absurd (by rw [c.2.1]; exact hk) q⟩
      unfold skT rnE
      rw [fndI_nil hk]; omega
    · have b := tC_b h c k0 hk
      refine bl_17_2 ⟨fun q => absurd q (by rw [c.2.1]; omega), fun _ => ⟨by rw [c.1, show aLn (SH L) 3 2 = 2000 from rfl]; omega, M1, _, by rw [c.1]; exact s_16, fun q => rI ?_, fun q => ?_⟩⟩
      · rw [bid0] at q
        refine rn_stop ?_ k1
        unfold isB
        refine decide_eq_false ?_
        rw [b.1] at q
        omega
      · have q2 := Classical.not_not.mp (fun z => q (bid0.mpr z))
        rw [aWi (z := k + 1) (by omega) (by omega)]
        have : skT M k = skT M (k + 1) := rn_go (by unfold isB; refine decide_eq_true ?_; rw [b.1] at q2; omega) hk
        rw [this]
        exact ih (by omega) (by omega)
  exact fun k k0 k1 => en_17 (key k k0 k1)
theorem s_19 (h : tR M) (c : tC M M1) {p e : Int} (p0 : 0 ≤ p) (pe : p ≤ e) (e1 : e ≤ M 145 0) : aE 19 [aR 4, aI p, aI e] (SH L) M1 ([aI (wI (rl M p (e - p).toNat))], SH L, M1) := by
  have h2 := h.2.1
  have h1 := h.1
  have tl := tx_n
  have t128 : ∀ x ∈ aTxt, x < 128 := by decide
  obtain ⟨k, hk⟩ : ∃ k : Nat, e = p + k := ⟨(e - p).toNat, by omega⟩
  have ek : (e - p).toNat = k := by omega
  rw [ek]
  have key : ∀ (cs : List Nat) (pos : Nat) (kk : Int) (u : List Int), aTxt.drop pos = cs → 0 ≤ kk → kk ≤ pos → u.length ≤ pos → aX xc_19 (aSeek xc_19 11) [aR 4, aI p, aI e, aI kk, aI (p + u.length), aI (bi (decide (u.length ≤ k ∧ rl M p u.length = u))), aI (pos : Int), aU] [] (SH L) M1 ([aI (wsU (rl M p k) cs kk u)], SH L, M1) := by
    intro cs
    induction cs with
    | nil =>
      intro pos kk u hd _ _ _
      have := List.drop_eq_nil_iff.mp hd
      exact bl_19_11 ⟨fun _ => rfl, fun q => absurd (by omega) q⟩
    | cons x cs ih =>
      intro pos kk u hd k0 k1 u1
      have pl_ : pos < aTxt.length := by
        rcases Nat.lt_or_ge pos aTxt.length with q | q
        · exact q
        · rw [List.drop_eq_nil_iff.mpr q] at hd; cases hd
      have hd2 := List.drop_eq_getElem_cons pl_
      rw [hd] at hd2
      injection hd2 with hx hcs
      have gx : aTxt.getD ((pos : Int)).toNat 0 = x := by
        rw [Int.toNat_natCast, List.getD_eq_getElem?_getD, List.getElem?_eq_getElem pl_, hx]; rfl
      have x128 : x < 128 := by rw [hx]; exact t128 _ (List.getElem_mem pl_)
      have nx : ∀ (kk' nx' sm' : Int) (u' : List Int), nx' = p + u'.length → sm' = bi (decide (u'.length ≤ k ∧ rl M p u'.length = u')) → 0 ≤ kk' → kk' ≤ (pos : Int) + 1 → u'.length ≤ pos + 1 → aX xc_19 (aSeek xc_19 104) [aR 4, aI p, aI e, aI kk', aI nx', aI sm', aI (pos : Int), aU] [] (SH L) M1 ([aI (wsU (rl M p k) cs kk' u')], SH L, M1) := by
        intro kk' nx' sm' u' e1' e2' a1 a2 a3
        subst e1' e2'
        refine bl_19_104 ?_
        rw [aWi (z := (pos : Int) + 1) (by omega) (by omega)]
        exact ih (pos + 1) kk' u' hcs.symm a1 (by omega) a3
      refine bl_19_11 ⟨fun q => absurd q (by omega), fun _ => ⟨⟨rfl, by omega, by omega⟩, ?_⟩⟩
      rw [gx]
      unfold wsU
      by_cases c32 : x = 32
      · rw [if_pos c32]
        have rst : aX xc_19 (aSeek xc_19 95) [aR 4, aI p, aI e, aI kk, aU, aU, aI (pos : Int), aU] [] (SH L) M1 ([aI (wsU (rl M p k) cs (kk + 1) [])], SH L, M1) := by
          refine bl_19_95 ?_
          rw [aWi (z := kk + 1) (by omega) (by omega)]
          exact nx (kk + 1) p 1 [] (by show p = p + ((0 : Nat) : Int); omega) (bip ⟨Nat.zero_le _, rfl⟩).symm (by omega) (by omega) (by show 0 ≤ pos + 1; omega)
        by_cases d : rl M p k = u
        · have ul : u.length = k := by rw [← d, rl_len]
          rw [if_pos d]
          exact ⟨fun _ => ⟨fun q => absurd (bid0.mp q) (fun z => z ⟨by omega, by rw [ul]; exact d⟩), fun _ => ⟨fun q => absurd (by omega) q, fun _ => rfl⟩⟩, fun q => absurd (by omega) q⟩
        · rw [if_neg d]
          refine ⟨fun _ => ⟨fun _ => rst, fun q => ⟨fun _ => rst, fun q2 => absurd ?_ d⟩⟩, fun q => absurd (by omega) q⟩
          have b := Classical.not_not.mp (fun z => q (bid0.mpr z))
          have : u.length = k := by have := Classical.not_not.mp q2; omega
          rw [← this]
          exact b.2
      · rw [if_neg c32]
        have no : ¬ (u.length + 1 ≤ k ∧ rl M p (u.length + 1) = (x : Int) :: u) → aX xc_19 (aSeek xc_19 73) [aR 4, aI p, aI e, aI kk, aI (p + u.length), aU, aI (pos : Int), aU] [] (SH L) M1 ([aI (wsU (rl M p k) cs kk ((x : Int) :: u))], SH L, M1) := by
          intro q
          refine bl_19_73 (bl_19_74 ?_)
          rw [aWi (z := p + u.length + 1) (by omega) (by omega)]
          exact nx kk _ 0 ((x : Int) :: u) (by rw [List.length_cons]; omega) (bin (by rw [List.length_cons]; exact q)).symm k0 (by omega) (by rw [List.length_cons]; omega)
        refine ⟨fun q => absurd (by omega) c32, fun _ => ⟨fun q => no (fun z => bid0.mp q ⟨by omega, ?_⟩), fun q => ⟨fun q2 => no (fun z => by omega), fun q2 => ⟨fun q3 => absurd q3 (by rw [c.2.1]; omega), fun q3 => ?_⟩⟩⟩⟩
        · have := z.2
          injection this
        · have b := tC_b h c (k := p + u.length) (by omega) (by omega)
          have hu := Classical.not_not.mp (fun z => q (bid0.mpr z))
          rw [c.1, show aLn (SH L) 3 2 = 2000 from rfl, b.1]
          refine ⟨by omega, fun q4 => no (fun z => q4 ?_), fun q4 => bl_19_74 ?_⟩
          · have := z.2
            injection this with z1 z2
            rw [z1, if_pos (by omega)]
          · have q5 := Classical.not_not.mp q4
            have q6 : M 146 (p + u.length) = (x : Int) := by
              by_cases w : M 146 (p + u.length) < 128
              · rw [if_pos w] at q5; exact q5
              · rw [if_neg w] at q5; omega
            rw [aWi (z := p + u.length + 1) (by omega) (by omega)]
            exact nx kk _ 1 ((x : Int) :: u) (by rw [List.length_cons]; omega) (bip (by rw [List.length_cons]; exact ⟨by omega, by show M 146 (p + u.length) :: rl M p u.length = _; rw [q6, hu.2]⟩)).symm k0 (by omega) (by rw [List.length_cons]; omega)
  have := key aTxt 0 0 [] rfl (by omega) (by omega) (by decide)
  rw [show bi (decide (([] : List Int).length ≤ k ∧ rl M p ([] : List Int).length = [])) = 1 from bip ⟨Nat.zero_le _, rfl⟩, show p + (([] : List Int).length : Int) = p by show p + ((0 : Nat) : Int) = p; omega] at this
  exact en_19 this
/-- what one step of the class's scan leaves -/
def oneF (M1 M2 : aM) (i : Int) : Prop := (∀ a, a ≠ 5 → a ≠ 7 → M2 a = M1 a) ∧ (∀ j, j ≠ i → M2 5 j = M1 5 j) ∧ ∀ j, j ≠ i → M2 7 j = M1 7 j
theorem oneF_tC {i : Int} (c : tC M M1) (f : oneF M1 M2 i) : tC M M2 := ⟨by rw [f.1 4 (by omega) (by omega)]; exact c.1, by rw [f.1 4 (by omega) (by omega)]; exact c.2.1, by rw [f.1 2 (by omega) (by omega)]; exact c.2.2⟩
theorem fR_le {m s : Int} (hm : 0 ≤ m) : ∀ l : List Int, (∀ x ∈ l, s ≤ x ∧ x - s < m) → 0 ≤ fR m s l ∧ fR m s l < m ^ l.length := by
  intro l
  induction l with
  | nil => intro _; exact ⟨Int.le_refl _, by show (0 : Int) < m ^ 0; rw [Int.pow_zero]; omega⟩
  | cons c r ih =>
    intro h
    have hc := h c List.mem_cons_self
    have hr := ih (fun x hx => h x (List.mem_cons_of_mem _ hx))
    show 0 ≤ m * fR m s r + (c - s) ∧ m * fR m s r + (c - s) < m ^ (r.length + 1)
    have a := Int.mul_nonneg hm hr.1
    have b : m * (fR m s r + 1) ≤ m * m ^ r.length := Int.mul_le_mul_of_nonneg_left (by omega) hm
    rw [Int.mul_add, Int.mul_one] at b
    rw [Int.pow_succ, Int.mul_comm (m ^ r.length) m]
    omega
theorem rl_mem {p lo hi : Int} : ∀ k : Nat, (∀ j, p ≤ j → j < p + k → lo ≤ M 146 j ∧ M 146 j ≤ hi) → ∀ x ∈ rl M p k, lo ≤ x ∧ x ≤ hi := by
  intro k
  induction k with
  | zero => intro _ x hx; cases hx
  | succ k ih =>
    intro h x hx
    rcases List.mem_cons.mp hx with rfl | hx
    · exact h _ (by omega) (by omega)
    · exact ih (fun j j0 j1 => h j j0 (by omega)) x hx
theorem pw_mono {m : Int} (hm : 1 ≤ m) : ∀ {a b : Nat}, a ≤ b → m ^ a ≤ m ^ b := by
  intro a b h
  induction h with
  | refl => exact Int.le_refl _
  | step h ih =>
    rename_i b
    rw [Int.pow_succ]
    have : 0 ≤ m ^ b := Int.pow_nonneg (by omega)
    have := Int.mul_le_mul_of_nonneg_left hm this
    omega
theorem s_20 (h : tR M) (c : tC M M1) {i p : Int} (i0 : 0 ≤ i) (i1 : i ≤ 400) (p0 : 0 ≤ p) (p1 : p < M 145 0) (hp : isL M p = true) (z : M1 7 i = 0) : ∃ M2, aE 20 [aR 4, aI i, aI p] (SH L) M1 ([aI (eL M p)], SH L, M2) ∧ oneF M1 M2 i ∧ M2 5 i = tyC M p ∧ (tyC M p = 2 → M2 7 i = vaC M p) := by
  have h2 := h.2.1
  have h1 := h.1
  have l5 : aLn (SH L) 1 5 = 401 := rfl
  have l7 : aLn (SH L) 2 7 = 401 := rfl
  have l2 : aLn (SH L) 3 2 = 2000 := rfl
  have tyE : tyC M p = if 8 < eL M p - p then 1 else if wI (rl M p (eL M p - p).toNat) = -1 then 2 else 16 + wI (rl M p (eL M p - p).toNat) := by unfold tyC; rw [if_neg (by omega), if_pos hp]
  have vaE : vaC M p = fR 32 96 (rl M p (eL M p - p).toNat) := by unfold vaC; rw [if_pos hp]
  have key : ∀ k, ∀ M' : aM, p ≤ k → k ≤ M 145 0 → eL M p = eL M k → (∀ j, p ≤ j → j < k → 97 ≤ M 146 j ∧ M 146 j ≤ 122) → oneF M1 M' i → M' 5 i = M1 5 i → (k - p ≤ 8 → M' 7 i = fR 32 96 (rl M p (k - p).toNat)) → ∃ M2, aX xc_20 (aSeek xc_20 2) [aR 4, aI i, aI p, aI k, aU] [] (SH L) M' ([aI (eL M p)], SH L, M2) ∧ oneF M1 M2 i ∧ M2 5 i = tyC M p ∧ (tyC M p = 2 → M2 7 i = vaC M p) := by
    refine upto (M 145 0) (fun k hk M' k0 k1 eq hl f f5 fv => ?_) (fun k hk ih M' k0 k1 eq hl f f5 fv => ?_)
    all_goals
      have cc := oneF_tC c f
      have fin : isL M k = false → ∃ M2, aX xc_20 (aSeek xc_20 55) [aR 4, aI i, aI p, aI k, aU] [] (SH L) M' ([aI (eL M p)], SH L, M2) ∧ oneF M1 M2 i ∧ M2 5 i = tyC M p ∧ (tyC M p = 2 → M2 7 i = vaC M p) := by
        intro nl
        have ek : eL M p = k := by rw [eq]; exact rn_stop nl k1
        rw [tyE, vaE, ek]
        have ef : ∀ v, oneF M1 (aSet M' 5 i v) i := fun v => ⟨fun a a1 a2 => by rw [aSet_c a1]; exact f.1 a a1 a2, fun j hj => by rw [aSet_i hj]; exact f.2.1 j hj, fun j hj => by rw [aSet_c (by omega)]; exact f.2.2 j hj⟩
        have e7 : ∀ v, (aSet M' 5 i v) 7 i = M' 7 i := fun v => by rw [aSet_c (by omega)]
        by_cases g : 8 < k - p
        · rw [if_pos g]
          exact ⟨_, bl_20_55 ⟨fun q => absurd q (by rw [aWi (by omega) (by omega)]; omega), fun _ => ⟨by omega, rfl⟩⟩, ef 1, aSet_e, fun q => by omega⟩
        · rw [if_neg g]
          have w := s_19 (L := L) h cc p0 k0 k1
          by_cases g2 : wI (rl M p (k - p).toNat) = -1
          · rw [if_pos g2]
            exact ⟨_, bl_20_55 ⟨fun _ => ⟨M', _, w, fun q => absurd g2 q, fun _ => ⟨by omega, rfl⟩⟩, fun q => absurd (by rw [aWi (by omega) (by omega)]; omega) q⟩, ef 2, aSet_e, fun _ => by rw [e7]; exact fv (by omega)⟩
          · rw [if_neg g2]
            have wb : ∀ (cs : List Nat) (kk : Int) (u : List Int), 0 ≤ kk → wsU (rl M p (k - p).toNat) cs kk u = -1 ∨ (0 ≤ wsU (rl M p (k - p).toNat) cs kk u ∧ wsU (rl M p (k - p).toNat) cs kk u ≤ kk + cs.length) := by
              intro cs
              induction cs with
              | nil => intro kk u _; exact Or.inl rfl
              | cons x cs ih2 =>
                intro kk u hk
                unfold wsU
                rw [List.length_cons]
                split
                · split
                  · omega
                  · have := ih2 (kk + 1) [] (by omega); omega
                · have := ih2 kk ((x : Int) :: u) hk; omega
            have wv := wb aTxt 0 [] (Int.le_refl _)
            rw [tx_n] at wv
            have wv2 : wI (rl M p (k - p).toNat) = -1 ∨ (0 ≤ wI (rl M p (k - p).toNat) ∧ wI (rl M p (k - p).toNat) ≤ 0 + ((118 : Nat) : Int)) := wv
            exact ⟨_, bl_20_55 ⟨fun _ => ⟨M', _, w, fun _ => ⟨by omega, rfl⟩, fun q => absurd g2 q⟩, fun q => absurd (by rw [aWi (by omega) (by omega)]; omega) q⟩, ef _, by rw [aSet_e, aWi (by omega) (by omega)], fun q => by omega⟩
    · have nl : isL M k = false := by unfold isL; exact decide_eq_false (by omega)
      obtain ⟨M2, r, y⟩ := fin nl
      exact ⟨M2, bl_20_2 ⟨fun _ => r, fun q => absurd (by rw [cc.2.1]; exact hk) q⟩, y⟩
    · have b := tC_b h cc (k := k) (by omega) hk
      by_cases g : isL M k = true
      · have g2 := of_decide_eq_true (show decide (k < M 145 0 ∧ 97 ≤ M 146 k ∧ M 146 k ≤ 122) = true from g)
        have bv : M' 2 k = M 146 k := by rw [b.1, if_pos (by omega)]
        obtain ⟨w, hw⟩ : ∃ w, w = aLor (aLsl (M' 7 i) 5) (aW (aW (M' 2 k - 97) + 1)) := ⟨_, rfl⟩
        obtain ⟨M2, r, y⟩ := ih (aSet M' 7 i w) (by omega) (by omega) (by rw [eq]; exact rn_go g hk) (fun j j0 j1 => by
          by_cases q : j = k
          · rw [q]; exact g2.2
          · exact hl j j0 (by omega)) ⟨fun a a1 a2 => by rw [aSet_c a2]; exact f.1 a a1 a2, fun j hj => by rw [aSet_c (by omega)]; exact f.2.1 j hj, fun j hj => by rw [aSet_i hj]; exact f.2.2 j hj⟩ (by rw [aSet_c (by omega)]; exact f5) (fun q => by
          have fv2 := fv (by omega)
          have bd := fR_le (m := 32) (s := 96) (by omega) (rl M p (k - p).toNat) (fun x hx => by
            have := rl_mem (M := M) (p := p) (lo := 97) (hi := 122) (k - p).toNat (fun j j0 j1 => hl j j0 (by omega)) x hx
            omega)
          rw [rl_len] at bd
          have mm := pw_mono (m := 32) (by omega) (show (k - p).toNat ≤ 7 by omega)
          rw [show (32 : Int) ^ 7 = 34359738368 by decide] at mm
          rw [aSet_e, hw, bv, fv2, aWi (z := M 146 k - 97) (by omega) (by omega), aWi (by omega) (by omega), lor5 bd.1 (by omega) (by omega) (by omega), show (k + 1 - p).toNat = (k - p).toNat + 1 by omega]
          show _ = 32 * fR 32 96 (rl M p (k - p).toNat) + (M 146 (p + ((k - p).toNat : Nat)) - 96)
          rw [show p + ((k - p).toNat : Nat) = k by omega]
          omega)
        refine ⟨M2, bl_20_2 ⟨fun q => absurd q (by rw [cc.2.1]; omega), fun _ => ⟨by rw [cc.1]; omega, M', _, by rw [cc.1]; exact s_18, fun q => absurd (bid0.mp q) (fun w => w (by rw [bv]; omega)), fun _ => ⟨by omega, by rw [cc.1]; omega, by omega, ?_⟩⟩⟩, y⟩
        rw [cc.1, ← hw, aWi (z := k + 1) (by omega) (by omega)]
        exact r
      · obtain ⟨M2, r, y⟩ := fin (by simpa using g)
        refine ⟨M2, bl_20_2 ⟨fun q => absurd q (by rw [cc.2.1]; omega), fun _ => ⟨by rw [cc.1]; omega, M', _, by rw [cc.1]; exact s_18, fun _ => r, fun q => absurd (fun w => g ?_) (fun w => q (bid0.mpr w))⟩⟩, y⟩
        unfold isL
        refine decide_eq_true ⟨hk, ?_⟩
        rw [b.1] at w
        by_cases q2 : M 146 k < 128
        · rw [if_pos q2] at w; exact w
        · rw [if_neg q2] at w; omega
  obtain ⟨M2, r, y⟩ := key p M1 (by omega) (by omega) rfl (fun j j0 j1 => by omega) ⟨fun _ _ _ => rfl, fun _ _ => rfl, fun _ _ => rfl⟩ rfl (fun _ => by rw [z, show (p - p).toNat = 0 by omega]; rfl)
  exact ⟨M2, en_20 r, y⟩
theorem s_22 (h : tR M) (c : tC M M1) {i p : Int} (i0 : 0 ≤ i) (i1 : i ≤ 400) (p0 : 0 ≤ p) (p1 : p < M 145 0) (hL : ¬ isL M p = true) (hp : isDg M p = true) (z : M1 7 i = 0) : ∃ M2, aE 22 [aR 4, aI i, aI p] (SH L) M1 ([aI (eD M p)], SH L, M2) ∧ oneF M1 M2 i ∧ M2 5 i = tyC M p ∧ (tyC M p = 3 → M2 7 i = vaC M p ∧ 0 ≤ vaC M p ∧ vaC M p ≤ 9999) := by
  have h2 := h.2.1
  have h1 := h.1
  have l5 : aLn (SH L) 1 5 = 401 := rfl
  have l7 : aLn (SH L) 2 7 = 401 := rfl
  have l2 : aLn (SH L) 3 2 = 2000 := rfl
  have tyE : tyC M p = if 4 < eD M p - p then 1 else 3 := by unfold tyC; rw [if_neg (by omega), if_neg hL, if_pos hp]
  have vaE : vaC M p = fR 10 48 (rl M p (eD M p - p).toNat) := by unfold vaC; rw [if_neg hL]
  have key : ∀ k, ∀ M' : aM, p ≤ k → k ≤ M 145 0 → eD M p = eD M k → (∀ j, p ≤ j → j < k → 48 ≤ M 146 j ∧ M 146 j ≤ 57) → oneF M1 M' i → (k - p ≤ 4 → M' 7 i = fR 10 48 (rl M p (k - p).toNat)) → ∃ M2, aX xc_22 (aSeek xc_22 2) [aR 4, aI i, aI p, aI k] [] (SH L) M' ([aI (eD M p)], SH L, M2) ∧ oneF M1 M2 i ∧ M2 5 i = tyC M p ∧ (tyC M p = 3 → M2 7 i = vaC M p ∧ 0 ≤ vaC M p ∧ vaC M p ≤ 9999) := by
    refine upto (M 145 0) (fun k hk M' k0 k1 eq hl f fv => ?_) (fun k hk ih M' k0 k1 eq hl f fv => ?_)
    all_goals
      have cc := oneF_tC c f
      have bd := fR_le (m := 10) (s := 48) (by omega) (rl M p (k - p).toNat) (fun x hx => by
            have := rl_mem (M := M) (p := p) (lo := 48) (hi := 57) (k - p).toNat (fun j j0 j1 => hl j j0 (by omega)) x hx
            omega)
      rw [rl_len] at bd
      have fin : isDg M k = false → ∃ M2, aX xc_22 (aSeek xc_22 56) [aR 4, aI i, aI p, aI k] [] (SH L) M' ([aI (eD M p)], SH L, M2) ∧ oneF M1 M2 i ∧ M2 5 i = tyC M p ∧ (tyC M p = 3 → M2 7 i = vaC M p ∧ 0 ≤ vaC M p ∧ vaC M p ≤ 9999) := by
        intro nl
        have ek : eD M p = k := by rw [eq]; exact rn_stop nl k1
        rw [tyE, vaE, ek]
        have ef : ∀ v, oneF M1 (aSet M' 5 i v) i := fun v => ⟨fun a a1 a2 => by rw [aSet_c a1]; exact f.1 a a1 a2, fun j hj => by rw [aSet_i hj]; exact f.2.1 j hj, fun j hj => by rw [aSet_c (by omega)]; exact f.2.2 j hj⟩
        have e7 : ∀ v, (aSet M' 5 i v) 7 i = M' 7 i := fun v => by rw [aSet_c (by omega)]
        by_cases g : 4 < k - p
        · rw [if_pos g]
          exact ⟨_, bl_22_56 ⟨fun q => absurd q (by rw [aWi (by omega) (by omega)]; omega), fun _ => ⟨by omega, rfl⟩⟩, ef 1, aSet_e, fun q => by omega⟩
        · rw [if_neg g]
          have mm := pw_mono (m := 10) (by omega) (show (k - p).toNat ≤ 4 by omega)
          rw [show (10 : Int) ^ 4 = 10000 by decide] at mm
          exact ⟨_, bl_22_56 ⟨fun _ => ⟨by omega, rfl⟩, fun q => absurd (by rw [aWi (by omega) (by omega)]; omega) q⟩, ef 3, aSet_e, fun _ => ⟨by rw [e7]; exact fv (by omega), bd.1, by omega⟩⟩
    · have nl : isDg M k = false := by unfold isDg; exact decide_eq_false (by omega)
      obtain ⟨M2, r, y⟩ := fin nl
      exact ⟨M2, bl_22_2 ⟨fun _ => r, fun q => absurd (by rw [cc.2.1]; exact hk) q⟩, y⟩
    · have b := tC_b h cc (k := k) (by omega) hk
      by_cases g : isDg M k = true
      · have g2 := of_decide_eq_true (show decide (k < M 145 0 ∧ 48 ≤ M 146 k ∧ M 146 k ≤ 57) = true from g)
        have bv : M' 2 k = M 146 k := by rw [b.1, if_pos (by omega)]
        obtain ⟨w, hw⟩ : ∃ w, w = aWL (aWL (aWL (10 * M' 7 i) + M' 2 k) - 48) := ⟨_, rfl⟩
        obtain ⟨M2, r, y⟩ := ih (aSet M' 7 i w) (by omega) (by omega) (by rw [eq]; exact rn_go g hk) (fun j j0 j1 => by
          by_cases q : j = k
          · rw [q]; exact g2.2
          · exact hl j j0 (by omega)) ⟨fun a a1 a2 => by rw [aSet_c a2]; exact f.1 a a1 a2, fun j hj => by rw [aSet_c (by omega)]; exact f.2.1 j hj, fun j hj => by rw [aSet_i hj]; exact f.2.2 j hj⟩ (fun q => by
          have fv2 := fv (by omega)
          have mm := pw_mono (m := 10) (by omega) (show (k - p).toNat ≤ 3 by omega)
          rw [show (10 : Int) ^ 3 = 1000 by decide] at mm
          rw [aSet_e, hw, bv, fv2, aWLi (z := 10 * fR 10 48 (rl M p (k - p).toNat)) (by omega) (by omega), aWLi (z := 10 * fR 10 48 (rl M p (k - p).toNat) + M 146 k) (by omega) (by omega), aWLi (by omega) (by omega), show (k + 1 - p).toNat = (k - p).toNat + 1 by omega]
          show _ = 10 * fR 10 48 (rl M p (k - p).toNat) + (M 146 (p + ((k - p).toNat : Nat)) - 48)
          rw [show p + ((k - p).toNat : Nat) = k by omega]
          omega)
        refine ⟨M2, bl_22_2 ⟨fun q => absurd q (by rw [cc.2.1]; omega), fun _ => ⟨by rw [cc.1]; omega, M', _, by rw [cc.1]; exact s_21, fun q => absurd (bid0.mp q) (fun w => w (by rw [bv]; omega)), fun _ => ⟨by omega, by rw [cc.1]; omega, by omega, ?_⟩⟩⟩, y⟩
        rw [cc.1, ← hw, aWi (z := k + 1) (by omega) (by omega)]
        exact r
      · obtain ⟨M2, r, y⟩ := fin (by simpa using g)
        refine ⟨M2, bl_22_2 ⟨fun q => absurd q (by rw [cc.2.1]; omega), fun _ => ⟨by rw [cc.1]; omega, M', _, by rw [cc.1]; exact s_21, fun _ => r, fun q => absurd (fun w => g ?_) (fun w => q (bid0.mpr w))⟩⟩, y⟩
        unfold isDg
        refine decide_eq_true ⟨hk, ?_⟩
        rw [b.1] at w
        by_cases q2 : M 146 k < 128
        · rw [if_pos q2] at w; exact w
        · rw [if_neg q2] at w; omega
  obtain ⟨M2, r, y⟩ := key p M1 (by omega) (by omega) rfl (fun j j0 j1 => by omega) ⟨fun _ _ _ => rfl, fun _ _ => rfl, fun _ _ => rfl⟩ (fun _ => by rw [z, show (p - p).toNat = 0 by omega]; rfl)
  exact ⟨M2, en_22 r, y⟩
end TOK1
