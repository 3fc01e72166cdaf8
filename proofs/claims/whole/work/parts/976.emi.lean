/-! reading: codes, what waits, what is put out -/
section EMI1
variable {L : Nat} {C R C1 R1 C2 R2 : aM}
theorem evS_cg {cd cd' vr : Int → Int} : ∀ (n : Nat) (i : Int) (l : List Int) (z : Int), (∀ j, i ≤ j → j < i + n → cd j = cd' j) → evS cd vr n i l z = evS cd' vr n i l z := by
  intro n
  induction n with
  | zero => intro i l z _; rfl
  | succ n ih =>
    intro i l z h
    unfold evS
    rw [h i (by omega) (by omega)]
    split
    · exact ih _ _ _ (fun j j0 j1 => h j (by omega) (by omega))
    · rfl
theorem evS_add {cd vr : Int → Int} : ∀ (n m : Nat) (i : Int) (l : List Int) (z : Int), evS cd vr (n + m) i l z = match evS cd vr n i l z with
    | some (l', z') => evS cd vr m (i + n) l' z'
    | none => none := by
  intro n
  induction n with
  | zero =>
    intro m i l z
    rw [Nat.zero_add]
    show _ = evS cd vr m (i + ((0 : Nat) : Int)) l z
    rw [show i + ((0 : Nat) : Int) = i by omega]
  | succ n ih =>
    intro m i l z
    rw [show n + 1 + m = (n + m) + 1 by omega]
    show (match evO vr (cd i) l z with
      | some (l', z') => evS cd vr (n + m) (i + 1) l' z'
      | none => none) = match (match evO vr (cd i) l z with
      | some (l', z') => evS cd vr n (i + 1) l' z'
      | none => none) with
      | some (l', z') => evS cd vr m (i + ((n + 1 : Nat) : Int)) l' z'
      | none => none
    cases evO vr (cd i) l z with
    | none => rfl
    | some p =>
      obtain ⟨l', z'⟩ := p
      dsimp only
      rw [ih, show i + 1 + (n : Int) = i + ((n + 1 : Nat) : Int) by omega]
theorem evS_one {cd vr : Int → Int} {i : Int} {l : List Int} {z : Int} : evS cd vr 1 i l z = evO vr (cd i) l z := by
  show (match evO vr (cd i) l z with
      | some (l', z') => evS cd vr 0 (i + 1) l' z'
      | none => none) = _
  cases evO vr (cd i) l z with
  | none => rfl
  | some p => rfl
theorem rsS_cg {O V O' V' vr : Int → Int} : ∀ (n : Nat) (i : Int) (l : List Int), (∀ j, i ≤ j → j < i + n → O j = O' j ∧ V j = V' j) → rsS O V vr n i l = rsS O' V' vr n i l := by
  intro n
  induction n with
  | zero => intro i l _; rfl
  | succ n ih =>
    intro i l h
    unfold rsS
    have := h i (by omega) (by omega)
    rw [this.1, this.2]
    split
    · exact ih _ _ (fun j j0 j1 => h j (by omega) (by omega))
    · rfl
    · rfl
theorem rsS_snoc {O V vr : Int → Int} : ∀ (n : Nat) (i : Int) (l : List Int), rsS O V vr (n + 1) i l = match rsS O V vr n i l with
    | some (some l') => rsO (O (i + n)) (V (i + n)) vr l'
    | some none => some none
    | none => none := by
  intro n
  induction n with
  | zero =>
    intro i l
    show (match rsO (O i) (V i) vr l with
      | some (some l') => rsS O V vr 0 (i + 1) l'
      | some none => some none
      | none => none) = rsO (O (i + ((0 : Nat) : Int))) (V (i + ((0 : Nat) : Int))) vr l
    rw [show i + ((0 : Nat) : Int) = i by omega]
    cases rsO (O i) (V i) vr l with
    | none => rfl
    | some p => cases p <;> rfl
  | succ n ih =>
    intro i l
    show (match rsO (O i) (V i) vr l with
      | some (some l') => rsS O V vr (n + 1) (i + 1) l'
      | some none => some none
      | none => none) = match (match rsO (O i) (V i) vr l with
      | some (some l') => rsS O V vr n (i + 1) l'
      | some none => some none
      | none => none) with
      | some (some l') => rsO (O (i + ((n + 1 : Nat) : Int))) (V (i + ((n + 1 : Nat) : Int))) vr l'
      | some none => some none
      | none => none
    cases rsO (O i) (V i) vr l with
    | none => rfl
    | some p =>
      cases p with
      | none => rfl
      | some l' =>
        dsimp only
        rw [ih, show i + 1 + (n : Int) = i + ((n + 1 : Nat) : Int) by omega]
def opq (t : Int) : Int := if t = 14 then 0 else if t = 6 then 2 else if t = 7 then 3 else if t = 8 then 4 else 5
def wtV (C R : aM) : List Int → Prop
  | [] => True
  | x :: r => C 8 (r.length : Int) = x ∧ R 190 (r.length : Int) = opq x ∧ wtV C R r
theorem wtV_cg : ∀ w : List Int, wtV C R w → (∀ i : Nat, i < w.length → C1 8 (i : Int) = C 8 i ∧ R1 190 (i : Int) = R 190 i) → wtV C1 R1 w := by
  intro w
  induction w with
  | nil => intro _ _; exact trivial
  | cons x r ih =>
    intro h f
    have a := f r.length (by rw [List.length_cons]; omega)
    exact ⟨by rw [a.1]; exact h.1, by rw [a.2]; exact h.2.1, ih h.2.2 (fun i hi => f i (by rw [List.length_cons]; omega))⟩
/-- what waits, both sides -/
def WT (C R : aM) (w : List Int) : Prop := C 3 8 = (w.length : Int) ∧ R 145 54 = (w.length : Int) ∧ wtV C R w
def nbW : List Int → Nat
  | [] => 0
  | x :: r => (if x = 14 then 0 else 1) + nbW r
def noW : List Int → Nat
  | [] => 0
  | x :: r => (if x = 14 then 1 else 0) + noW r
def tpW : List Int → Int
  | [] => 0
  | x :: _ => rk x
def wV : List Int → Prop
  | [] => True
  | x :: r => (x = 14 ∨ (6 ≤ x ∧ x ≤ 9 ∧ tpW r < rk x)) ∧ wV r
theorem rk_le {x : Int} : 0 ≤ rk x ∧ rk x ≤ 2 := by unfold rk; split <;> (try split) <;> omega
theorem tp_le {w : List Int} : 0 ≤ tpW w ∧ tpW w ≤ 2 := by
  cases w with
  | nil => exact ⟨Int.le_refl _, by decide⟩
  | cons x r => exact rk_le
theorem nb_le : ∀ w : List Int, wV w → (nbW w : Int) ≤ 2 * noW w + tpW w := by
  intro w
  induction w with
  | nil => intro _; decide
  | cons x r ih =>
    rintro ⟨h, hr⟩
    have a := ih hr
    have b := tp_le (w := r)
    show ((((if x = 14 then 0 else 1) + nbW r : Nat)) : Int) ≤ 2 * (((if x = 14 then 1 else 0) + noW r : Nat) : Int) + rk x
    rcases h with h | ⟨h1, h2, h3⟩
    · rw [if_pos h, if_pos h]
      have := rk_le (x := x)
      omega
    · rw [if_neg (by omega), if_neg (by omega)]; omega
theorem len_W : ∀ w : List Int, w.length = nbW w + noW w := by
  intro w
  induction w with
  | nil => rfl
  | cons x r ih =>
    show r.length + 1 = ((if x = 14 then 0 else 1) + nbW r) + ((if x = 14 then 1 else 0) + noW r)
    rw [ih]
    split <;> omega
/-- what stays behind a release -/
def relW (k : Int) : List Int → List Int
  | [] => []
  | x :: r => if k ≤ rk x then relW k r else x :: r
theorem rel_wV {k : Int} : ∀ w : List Int, wV w → wV (relW k w) ∧ tpW (relW k w) ≤ max 0 (k - 1) := by
  intro w
  induction w with
  | nil => intro _; exact ⟨trivial, by show (0 : Int) ≤ _; omega⟩
  | cons x r ih =>
    intro h
    unfold relW
    split
    · exact ih h.2
    · exact ⟨h, by show rk x ≤ _; omega⟩
theorem rel_no {k : Int} (k1 : 1 ≤ k) : ∀ w : List Int, noW (relW k w) = noW w ∧ nbW (relW k w) ≤ nbW w := by
  intro w
  induction w with
  | nil => exact ⟨rfl, Nat.le_refl _⟩
  | cons x r ih =>
    unfold relW
    split
    · rename_i q
      have : x ≠ 14 := by
        rintro rfl
        have : rk 14 = 0 := rfl
        omega
      show noW (relW k r) = (if x = 14 then 1 else 0) + noW r ∧ nbW (relW k r) ≤ (if x = 14 then 0 else 1) + nbW r
      rw [if_neg this, if_neg this]
      omega
    · exact ⟨rfl, Nat.le_refl _⟩
/-- without an open ( nothing waits behind a release of all -/
theorem rel_0 : ∀ w : List Int, wV w → noW w = 0 → relW 1 w = [] := by
  intro w
  induction w with
  | nil => intro _ _; rfl
  | cons x r ih =>
    rintro ⟨h, hr⟩ h0
    have h0' : (if x = 14 then 1 else 0) + noW r = 0 := h0
    rcases h with h | ⟨h1, h2, h3⟩
    · rw [if_pos h] at h0'; omega
    · unfold relW
      have := tp_le (w := r)
      rw [if_pos (by omega)]
      exact ih hr (by omega)
/-- with an open ( it stands on top behind a release of all -/
theorem rel_o : ∀ w : List Int, wV w → 0 < noW w → ∃ r, relW 1 w = 14 :: r ∧ noW w = noW r + 1 := by
  intro w
  induction w with
  | nil => intro _ h; exact absurd h (by decide)
  | cons x r ih =>
    rintro ⟨h, hr⟩ h0
    have h0' : 0 < (if x = 14 then 1 else 0) + noW r := h0
    unfold relW
    rcases h with h | ⟨h1, h2, h3⟩
    · refine ⟨r, by rw [h, if_neg (by decide)], ?_⟩
      show (if x = 14 then 1 else 0) + noW r = noW r + 1
      rw [if_pos h]; omega
    · have := tp_le (w := r)
      rw [if_pos (by omega)]
      rw [if_neg (by omega)] at h0'
      obtain ⟨r', e, n⟩ := ih hr (by omega)
      refine ⟨r', e, ?_⟩
      show (if x = 14 then 1 else 0) + noW r = noW r' + 1
      rw [if_neg (by omega)]; omega
def oO (R : aM) (k : Int) : Int := R 170 (500 + k)
def oV (R : aM) (k : Int) : Int := R 171 (500 + k)
/-- what the code that was put out since cc0, rc0 means, both sides -/
def SM (C R : aM) (T cc0 rc0 : Int) (d : Nat) : Prop := (0 ≤ cc0 ∧ cc0 ≤ C T 13 ∧ C T 13 ≤ 400) ∧ (0 ≤ rc0 ∧ rc0 ≤ R 169 1 ∧ R 169 1 ≤ 400) ∧ ∀ (vr : Int → Int) (base : List Int) (z : Int), base.length ≤ 16 → ∃ l z', l.length = d ∧ evS (C (T + 8)) vr (C T 13 - cc0).toNat cc0 base z = some (l ++ base, z') ∧
  (rsS (oO R) (oV R) vr (R 169 1 - rc0).toNat rc0 [] = some (some l) ∧ z' = z ∨ rsS (oO R) (oV R) vr (R 169 1 - rc0).toNat rc0 [] = some none ∧ z' = 1)
theorem SM_cg {T cc0 rc0 : Int} {d : Nat} (h : SM C R T cc0 rc0 d) (c : C1 T 13 = C T 13) (c8 : ∀ i, i < C T 13 → C1 (T + 8) i = C (T + 8) i) (r : R1 169 1 = R 169 1) (r0 : ∀ i, i < 500 + R 169 1 → R1 170 i = R 170 i ∧ R1 171 i = R 171 i) : SM C1 R1 T cc0 rc0 d := by
  obtain ⟨a, b, e⟩ := h
  unfold SM
  rw [c, r]
  refine ⟨a, b, fun vr base z hb => ?_⟩
  obtain ⟨l, z', x, y, w⟩ := e vr base z hb
  refine ⟨l, z', x, ?_, ?_⟩
  · rw [evS_cg (cd := C1 (T + 8)) (cd' := C (T + 8)) _ _ _ _ (fun j j0 j1 => c8 j (by omega))]; exact y
  · rw [rsS_cg (O := oO R1) (V := oV R1) (O' := oO R) (V' := oV R) _ _ _ (fun j j0 j1 => r0 (500 + j) (by omega))]; exact w
def adC (C : aM) (T o : Int) : aM := aSet (aSet C (T + 8) (C T 13) o) T 13 (C T 13 + 1)
def adR (R : aM) (op v : Int) : aM := aSet (aSet (aSet R 170 (500 + R 169 1) op) 171 (500 + R 169 1) v) 169 1 (R 169 1 + 1)
theorem s_40 {T o : Int} (ht : isTx T) (h : 0 ≤ C T 13 ∧ C T 13 < 400) : aE 40 [aR T, aI o] (SH L) C ([], SH L, adC C T o) := by
  have t := tx_le ht
  apply en_40
  simp only [tx ht]
  refine ⟨trivial, trivial, trivial, fun q => absurd q (by omega), fun _ => ⟨trivial, trivial, by omega, trivial, trivial, ?_⟩⟩
  unfold adC
  rw [aSet_c (show T ≠ T + 8 by omega), aWi (z := C T 13 + 1) (by omega) (by omega)]
theorem s_40f {T o : Int} (ht : isTx T) (h : 0 ≤ C T 13 ∧ C T 13 ≤ 400) : ∃ C1, aE 40 [aR T, aI o] (SH L) C ([], SH L, C1) ∧ (C1 = C ∨ C T 13 < 400 ∧ C1 = adC C T o) := by
  by_cases c : C T 13 < 400
  · exact ⟨_, s_40 ht ⟨h.1, c⟩, Or.inr ⟨c, rfl⟩⟩
  · refine ⟨C, ?_, Or.inl rfl⟩
    apply en_40
    simp only [tx ht]
    exact ⟨trivial, trivial, trivial, fun _ => trivial, fun q => absurd (by omega) q⟩
theorem s_198 {o v : Int} (h : 0 ≤ R 169 1 ∧ R 169 1 ≤ 400) : aE 198 [aR 145, aI o, aI v] (SH L) R ([], SH L, adR R o v) := by
  have l0 : aLn (SH L) 1 170 = 1000 := rfl
  have l1 : aLn (SH L) 1 171 = 1000 := rfl
  apply en_198
  rw [aWi (z := 500 + R 169 1) (by omega) (by omega), aSet_c (show (169 : Int) ≠ 170 by omega), aWi (z := 500 + R 169 1) (by omega) (by omega), aSet_c (show (169 : Int) ≠ 171 by omega), aSet_c (show (169 : Int) ≠ 170 by omega), aWi (z := R 169 1 + 1) (by omega) (by omega)]
  exact ⟨by omega, by omega, rfl⟩
theorem adC_8 {T o : Int} : (∀ i, i < C T 13 → adC C T o (T + 8) i = C (T + 8) i) ∧ adC C T o (T + 8) (C T 13) = o ∧ adC C T o T 13 = C T 13 + 1 := by
  unfold adC
  refine ⟨fun i hi => ?_, ?_, aSet_e⟩
  · rw [aSet_c (show T + 8 ≠ T by omega), aSet_i (by omega)]
  · rw [aSet_c (show T + 8 ≠ T by omega), aSet_e]
theorem adR_0 {o v : Int} : (∀ i, i < 500 + R 169 1 → adR R o v 170 i = R 170 i ∧ adR R o v 171 i = R 171 i) ∧ oO (adR R o v) (R 169 1) = o ∧ oV (adR R o v) (R 169 1) = v ∧ adR R o v 169 1 = R 169 1 + 1 := by
  unfold oO oV adR
  refine ⟨fun i hi => ⟨?_, ?_⟩, ?_, ?_, aSet_e⟩
  · rw [aSet_c (show (170 : Int) ≠ 169 by omega), aSet_c (show (170 : Int) ≠ 171 by omega), aSet_i (by omega)]
  · rw [aSet_c (show (171 : Int) ≠ 169 by omega), aSet_i (by omega), aSet_c (show (171 : Int) ≠ 170 by omega)]
  · rw [aSet_c (show (170 : Int) ≠ 169 by omega), aSet_c (show (170 : Int) ≠ 171 by omega), aSet_e]
  · rw [aSet_c (show (171 : Int) ≠ 169 by omega), aSet_e]
/-- one code more -/
theorem SM_ad {T cc0 rc0 o op v : Int} {d d' : Nat} (h : SM C R T cc0 rc0 d) (c4 : C T 13 < 400) (r4 : R 169 1 < 400)
    (st : ∀ (vr : Int → Int) (l base : List Int) (z : Int), l.length = d → base.length ≤ 16 → ∃ l' z', l'.length = d' ∧ evO vr o (l ++ base) z = some (l' ++ base, z') ∧ (rsO op v vr l = some (some l') ∧ z' = z ∨ rsO op v vr l = some none ∧ z' = 1))
    (st1 : ∀ (vr : Int → Int) (l base : List Int), l.length = d → base.length ≤ 16 → ∃ l', l'.length = d' ∧ evO vr o (l ++ base) 1 = some (l' ++ base, 1)) : SM (adC C T o) (adR R op v) T cc0 rc0 d' := by
  obtain ⟨a, b, e⟩ := h
  obtain ⟨g1, g2, g3⟩ := adC_8 (C := C) (T := T) (o := o)
  obtain ⟨k1, k2, k3, k4⟩ := adR_0 (R := R) (o := op) (v := v)
  unfold SM
  rw [g3, k4]
  refine ⟨by omega, by omega, fun vr base z hb => ?_⟩
  obtain ⟨l, z', x, y, w⟩ := e vr base z hb
  have y2 : evS (adC C T o (T + 8)) vr (C T 13 - cc0).toNat cc0 base z = some (l ++ base, z') := by
    rw [evS_cg (cd := adC C T o (T + 8)) (cd' := C (T + 8)) _ _ _ _ (fun j j0 j1 => g1 j (by omega))]; exact y
  have w2 : rsS (oO (adR R op v)) (oV (adR R op v)) vr (R 169 1 - rc0).toNat rc0 [] = rsS (oO R) (oV R) vr (R 169 1 - rc0).toNat rc0 [] := rsS_cg _ _ _ (fun j j0 j1 => k1 (500 + j) (by omega))
  rw [show (C T 13 + 1 - cc0).toNat = (C T 13 - cc0).toNat + 1 by omega, evS_add, y2, show (R 169 1 + 1 - rc0).toNat = (R 169 1 - rc0).toNat + 1 by omega, rsS_snoc, w2]
  dsimp only
  rw [evS_one, show cc0 + ((C T 13 - cc0).toNat : Int) = C T 13 by omega, g2, show rc0 + ((R 169 1 - rc0).toNat : Int) = R 169 1 by omega, k2, k3]
  rcases w with ⟨w, zz⟩ | ⟨w, zz⟩
  · obtain ⟨l', z'', x', y', w'⟩ := st vr l base z' x hb
    rw [w]
    dsimp only
    refine ⟨l', z'', x', y', ?_⟩
    rcases w' with ⟨w', q⟩ | ⟨w', q⟩
    · exact Or.inl ⟨w', by rw [q, zz]⟩
    · exact Or.inr ⟨w', q⟩
  · obtain ⟨l', x', y'⟩ := st1 vr l base x hb
    rw [w, zz]
    dsimp only
    exact ⟨l', 1, x', y', Or.inr ⟨rfl, rfl⟩⟩
theorem SM_int {T cc0 rc0 v : Int} {d : Nat} (h : SM C R T cc0 rc0 d) (c4 : C T 13 < 400) (r4 : R 169 1 < 400) (hd : d ≤ 14) (v0 : 0 ≤ v ∧ v ≤ 9999) : SM (adC C T (1000 + v)) (adR R 0 v) T cc0 rc0 (d + 1) := by
  have e : ∀ (vr : Int → Int) (l base : List Int) (z : Int), l.length = d → base.length ≤ 16 → evO vr (1000 + v) (l ++ base) z = some ((v :: l) ++ base, z) := by
    intro vr l base z hl hb
    unfold evO
    rw [if_pos (by omega), if_pos ⟨by rw [List.length_append]; omega, by omega⟩, show 1000 + v - 1000 = v by omega]
    rfl
  refine SM_ad h c4 r4 (fun vr l base z hl hb => ⟨v :: l, z, by rw [List.length_cons, hl], e vr l base z hl hb, Or.inl ⟨?_, rfl⟩⟩) (fun vr l base hl hb => ⟨v :: l, by rw [List.length_cons, hl], e vr l base 1 hl hb⟩)
  unfold rsO
  rw [if_pos rfl, if_pos (by omega)]
theorem SM_var {T cc0 rc0 j : Int} {d : Nat} (h : SM C R T cc0 rc0 d) (c4 : C T 13 < 400) (r4 : R 169 1 < 400) (hd : d ≤ 14) (v0 : 0 ≤ j ∧ j < 9) : SM (adC C T (16 + j)) (adR R 1 j) T cc0 rc0 (d + 1) := by
  have e : ∀ (vr : Int → Int) (l base : List Int) (z : Int), l.length = d → base.length ≤ 16 → evO vr (16 + j) (l ++ base) z = some ((vr j :: l) ++ base, z) := by
    intro vr l base z hl hb
    unfold evO
    rw [if_neg (by omega), if_pos (by omega), if_pos (by rw [List.length_append]; omega), show 16 + j - 16 = j by omega]
    rfl
  refine SM_ad h c4 r4 (fun vr l base z hl hb => ⟨vr j :: l, z, by rw [List.length_cons, hl], e vr l base z hl hb, Or.inl ⟨?_, rfl⟩⟩) (fun vr l base hl hb => ⟨vr j :: l, by rw [List.length_cons, hl], e vr l base 1 hl hb⟩)
  unfold rsO
  rw [if_neg (by omega), if_pos rfl, if_pos (by omega)]
theorem SM_op {T cc0 rc0 o : Int} {d : Nat} (h : SM C R T cc0 rc0 (d + 2)) (c4 : C T 13 < 400) (r4 : R 169 1 < 400) (o0 : 6 ≤ o ∧ o ≤ 9) : SM (adC C T o) (adR R (opq o) 0) T cc0 rc0 (d + 1) := by
  have e : ∀ (vr : Int → Int) (b a : Int) (r : List Int) (z : Int), evO vr o (b :: a :: r) z = some (coB o a b :: r, if ¬ o = 6 ∧ ¬ o = 7 ∧ ¬ o = 8 ∧ ¬ o = 37 ∧ ¬ o = 38 ∧ b = 0 then 1 else z) := by
    intro vr b a r z
    unfold evO
    rw [if_neg (by omega), if_neg (by omega), if_neg (by omega)]
    dsimp only
    rw [if_neg (by omega)]
  refine SM_ad h c4 r4 (fun vr l base z hl hb => ?_) (fun vr l base hl hb => ?_)
  · cases l with
    | nil => cases hl
    | cons b r =>
      cases r with
      | nil => cases hl
      | cons a r =>
        have hr : r.length = d := by rw [List.length_cons, List.length_cons] at hl; omega
        refine ⟨coB o a b :: r, _, by rw [List.length_cons, hr], e vr b a (r ++ base) z, ?_⟩
        unfold rsO opq
        have : o = 6 ∨ o = 7 ∨ o = 8 ∨ o = 9 := by omega
        rcases this with rfl | rfl | rfl | rfl
        · exact Or.inl ⟨by simp [coB], by simp⟩
        · exact Or.inl ⟨by simp [coB], by simp⟩
        · exact Or.inl ⟨by simp [coB], by simp⟩
        · by_cases c : b = 0
          · exact Or.inr ⟨by simp [c], by simp [c]⟩
          · exact Or.inl ⟨by simp [c, coB], by simp [c]⟩
  · cases l with
    | nil => cases hl
    | cons b r =>
      cases r with
      | nil => cases hl
      | cons a r =>
        have hr : r.length = d := by rw [List.length_cons, List.length_cons] at hl; omega
        refine ⟨coB o a b :: r, by rw [List.length_cons, hr], ?_⟩
        show evO vr o (b :: a :: (r ++ base)) 1 = _
        rw [e]
        split <;> rfl
def cE (T : Int) (C C1 : aM) : Prop := (∀ a, a ≠ 3 → a ≠ 8 → a ≠ T → a ≠ T + 8 → C1 a = C a) ∧ (∀ j, j ≠ 13 → C1 T j = C T j) ∧ (∀ i, i < C T 13 → C1 (T + 8) i = C (T + 8) i) ∧ (∀ j, j ≠ 0 → j ≠ 1 → j ≠ 4 → j ≠ 8 → C1 3 j = C 3 j) ∧ C T 13 ≤ C1 T 13
def rE (R R1 : aM) : Prop := (∀ a, a ≠ 145 → a ≠ 169 → a ≠ 170 → a ≠ 171 → a ≠ 190 → R1 a = R a) ∧ (∀ j, j < 7 ∨ 9 < j → j ≠ 54 → R1 145 j = R 145 j) ∧ (∀ j, j ≠ 1 → R1 169 j = R 169 j) ∧ (∀ i, i < 500 + R 169 1 → R1 170 i = R 170 i ∧ R1 171 i = R 171 i) ∧ R 169 1 ≤ R1 169 1
theorem cE_rf {T : Int} : cE T C C := ⟨fun _ _ _ _ _ => rfl, fun _ _ => rfl, fun _ _ => rfl, fun _ _ _ _ _ => rfl, Int.le_refl _⟩
theorem rE_rf : rE R R := ⟨fun _ _ _ _ _ _ => rfl, fun _ _ _ => rfl, fun _ _ => rfl, fun _ _ => ⟨rfl, rfl⟩, Int.le_refl _⟩
theorem cE_tr {T : Int} (h : cE T C C1) (g : cE T C1 C2) : cE T C C2 := ⟨fun a x y z w => (g.1 a x y z w).trans (h.1 a x y z w), fun j hj => (g.2.1 j hj).trans (h.2.1 j hj), fun i hi => (g.2.2.1 i (by have := h.2.2.2.2; omega)).trans (h.2.2.1 i hi), fun j x y z w => (g.2.2.2.1 j x y z w).trans (h.2.2.2.1 j x y z w), Int.le_trans h.2.2.2.2 g.2.2.2.2⟩
theorem rE_tr (h : rE R R1) (g : rE R1 R2) : rE R R2 := ⟨fun a x y z w v => (g.1 a x y z w v).trans (h.1 a x y z w v), fun j x y => (g.2.1 j x y).trans (h.2.1 j x y), fun j hj => (g.2.2.1 j hj).trans (h.2.2.1 j hj), fun i hi => ⟨((g.2.2.2.1 i (by have := h.2.2.2.2; omega)).1).trans (h.2.2.2.1 i hi).1, ((g.2.2.2.1 i (by have := h.2.2.2.2; omega)).2).trans (h.2.2.2.1 i hi).2⟩, Int.le_trans h.2.2.2.2 g.2.2.2.2⟩
theorem cE_ad {T o : Int} (ht : isTx T) : cE T C (adC C T o) := by
  have t := tx_le ht
  unfold adC
  exact ⟨fun a x y z w => by rw [aSet_c z, aSet_c w], fun j hj => by rw [aSet_i hj, aSet_c (by omega)], adC_8.1, fun j _ _ _ _ => by rw [aSet_c (by omega), aSet_c (by omega)], by rw [aSet_e]; omega⟩
theorem rE_ad {o v : Int} : rE R (adR R o v) := by
  refine ⟨fun a x y z w u => ?_, fun j x y => ?_, fun j hj => ?_, adR_0.1, by rw [adR_0.2.2.2]; omega⟩
  · unfold adR; rw [aSet_c y, aSet_c w, aSet_c z]
  · unfold adR; rw [aSet_c (by omega), aSet_c (by omega), aSet_c (by omega)]
  · unfold adR; rw [aSet_i hj, aSet_c (by omega), aSet_c (by omega)]
theorem adC_c {T o a : Int} (h : a ≠ T) (h8 : a ≠ T + 8) : adC C T o a = C a := by unfold adC; rw [aSet_c h, aSet_c h8]
theorem adR_c {o v a : Int} (h : a ≠ 169) (h1 : a ≠ 170) (h2 : a ≠ 171) : adR R o v a = R a := by unfold adR; rw [aSet_c h, aSet_c h2, aSet_c h1]
theorem cE_3 {T j v : Int} (h : cE T C C1) (hj : j = 0 ∨ j = 1 ∨ j = 4 ∨ j = 8) (ht : isTx T) : cE T C (aSet C1 3 j v) := by
  have t := tx_le ht
  exact ⟨fun a x y z w => by rw [aSet_c x]; exact h.1 a x y z w, fun i hi => by rw [aSet_c (by omega)]; exact h.2.1 i hi, fun i hi => by rw [aSet_c (by omega)]; exact h.2.2.1 i hi, fun i x y z w => by rw [aSet_i (by omega)]; exact h.2.2.2.1 i x y z w, by rw [aSet_c (by omega)]; exact h.2.2.2.2⟩
theorem cE_8 {T j v : Int} (h : cE T C C1) (ht : isTx T) : cE T C (aSet C1 8 j v) := by
  have t := tx_le ht
  exact ⟨fun a x y z w => by rw [aSet_c y]; exact h.1 a x y z w, fun i hi => by rw [aSet_c (by omega)]; exact h.2.1 i hi, fun i hi => by rw [aSet_c (by omega)]; exact h.2.2.1 i hi, fun i x y z w => by rw [aSet_c (by omega)]; exact h.2.2.2.1 i x y z w, by rw [aSet_c (by omega)]; exact h.2.2.2.2⟩
theorem rE_1 {j v : Int} (h : rE R R1) (hj : (7 ≤ j ∧ j ≤ 9) ∨ j = 54) : rE R (aSet R1 145 j v) :=
  ⟨fun a x y z w u => by rw [aSet_c x]; exact h.1 a x y z w u, fun i x y => by rw [aSet_i (by omega)]; exact h.2.1 i x y, fun i hi => by rw [aSet_c (by omega)]; exact h.2.2.1 i hi, fun i hi => by rw [aSet_c (by omega), aSet_c (by omega)]; exact h.2.2.2.1 i hi, by rw [aSet_c (by omega)]; exact h.2.2.2.2⟩
theorem rE_190 {j v : Int} (h : rE R R1) : rE R (aSet R1 190 j v) :=
  ⟨fun a x y z w u => by rw [aSet_c u]; exact h.1 a x y z w u, fun i x y => by rw [aSet_c (by omega)]; exact h.2.1 i x y, fun i hi => by rw [aSet_c (by omega)]; exact h.2.2.1 i hi, fun i hi => by rw [aSet_c (by omega), aSet_c (by omega)]; exact h.2.2.2.1 i hi, by rw [aSet_c (by omega)]; exact h.2.2.2.2⟩
theorem s_199 {a : Int} : aE 199 [aI a] (SH L) R ([aI (if 3 < a then 2 else if 1 < a then 1 else 0)], SH L, R) := by
  refine en_199 ⟨fun q => ⟨fun q2 => rI ?_, fun q2 => rI ?_⟩, fun q => rI ?_⟩
  · rw [if_neg (by omega), if_neg (by omega)]
  · rw [if_neg (by omega), if_pos (by omega)]
  · rw [if_pos (by omega)]
theorem rk_op {x : Int} (h : x = 14 ∨ 6 ≤ x ∧ x ≤ 9) : (if 3 < opq x then (2 : Int) else if 1 < opq x then 1 else 0) = rk x := by
  have : x = 14 ∨ x = 6 ∨ x = 7 ∨ x = 8 ∨ x = 9 := by omega
  rcases this with rfl | rfl | rfl | rfl | rfl <;> decide
/-- release on the one side, reduce on the other -/
theorem rel_pair {T cc0 rc0 k : Int} (ht : isTx T) (k1 : 1 ≤ k) : ∀ (w : List Int) (C R : aM), C 3 3 = T → WT C R w → wV w → w.length ≤ 28 → SM C R T cc0 rc0 (nbW w + 1) → C T 13 + nbW w ≤ 400 → R 169 1 + nbW w ≤ 400 →
    ∃ C1 R1, aE 43 [aR 3, aI k] (SH L) C ([], SH L, C1) ∧ aE 200 [aR 145, aI k, aI 0] (SH L) R ([], SH L, R1) ∧ WT C1 R1 (relW k w) ∧ SM C1 R1 T cc0 rc0 (nbW (relW k w) + 1) ∧ C1 T 13 + nbW (relW k w) = C T 13 + nbW w ∧ R1 169 1 + nbW (relW k w) = R 169 1 + nbW w ∧ cE T C C1 ∧ rE R R1 ∧ (∀ j, j ≠ 8 → C1 3 j = C 3 j) ∧ (∀ j, j ≠ 54 → R1 145 j = R 145 j) ∧ C1 8 = C 8 ∧ R1 190 = R 190 := by
  have t := tx_le ht
  have l8 : aLn (SH L) 1 8 = 28 := rfl
  have l9 : aLn (SH L) 1 190 = 500 := rfl
  intro w
  induction w with
  | nil =>
    intro C R h3 hw hv hn sm c4 r4
    have a : C 3 8 = 0 := hw.1
    have b : R 145 54 = 0 := hw.2.1
    exact ⟨C, R, en_43 ⟨fun _ => rfl, fun q => absurd (by omega) q⟩, en_200 ⟨fun _ => rfl, fun q => absurd (by omega) q⟩, hw, sm, rfl, rfl, cE_rf, rE_rf, fun _ _ => rfl, fun _ _ => rfl, rfl, rfl⟩
  | cons x r ih =>
    intro C R h3 hw hv hn sm c4 r4
    obtain ⟨a, b, e1, e2, e3⟩ := hw
    rw [List.length_cons] at a b hn
    have i1 : aW (C 3 8 - 1) = (r.length : Int) := by rw [a, aWi (by omega) (by omega)]; omega
    have i2 : aW (R 145 54 - 1) = (r.length : Int) := by rw [b, aWi (by omega) (by omega)]; omega
    have xo : x = 14 ∨ 6 ≤ x ∧ x ≤ 9 := by rcases hv.1 with q | q; exact Or.inl q; exact Or.inr ⟨q.1, q.2.1⟩
    have rk2 := rk_op xo
    unfold relW
    by_cases c : k ≤ rk x
    · rw [if_pos c]
      have x14 : x ≠ 14 := by
        rintro rfl
        have : rk 14 = 0 := rfl
        omega
      have nb : nbW (x :: r) = nbW r + 1 := by show (if x = 14 then 0 else 1) + nbW r = _; rw [if_neg x14]; omega
      rw [nb] at sm c4 r4 ⊢
      have smb := sm.1
      have smr := sm.2.1
      have sm2 := SM_op (o := x) sm (by omega) (by omega) (by omega)
      obtain ⟨C', hC'⟩ : ∃ C', C' = aSet (adC C T x) 3 8 (r.length : Int) := ⟨_, rfl⟩
      obtain ⟨K, hK⟩ : ∃ K, K = aSet R 145 54 (r.length : Int) := ⟨_, rfl⟩
      have adK : adR K (opq x) 0 = aSet (adR R (opq x) 0) 145 54 (r.length : Int) := by
        funext p q
        unfold adR
        rw [hK, aSet_c (show (169 : Int) ≠ 145 by omega)]
        simp only [aSet_a]
        by_cases w1 : p = 169 ∧ q = 1
        · rw [if_pos w1, if_neg (by omega), if_pos w1]
        · rw [if_neg w1]
          by_cases w2 : p = 171 ∧ q = 500 + R 169 1
          · rw [if_pos w2, if_neg (by omega), if_neg w1, if_pos w2]
          · rw [if_neg w2]
            by_cases w3 : p = 170 ∧ q = 500 + R 169 1
            · rw [if_pos w3, if_neg (by omega), if_neg w1, if_neg w2, if_pos w3]
            · rw [if_neg w3, if_neg w1, if_neg w2, if_neg w3]
      have g3 : ∀ j, j ≠ 8 → C' 3 j = C 3 j := fun j hj => by rw [hC', aSet_i hj, adC_c (by omega) (by omega)]
      have gT : C' T = adC C T x T := by rw [hC', aSet_c (by omega)]
      have gT8 : C' (T + 8) = adC C T x (T + 8) := by rw [hC', aSet_c (by omega)]
      obtain ⟨C1, R1, p1, p2, p3, p4, p5, p6, p7, p8, p9, p10, p11, p12⟩ := ih C' (adR K (opq x) 0) (by rw [g3 3 (by omega)]; exact h3) ⟨by rw [hC', aSet_e], by rw [adK, aSet_e], wtV_cg r e3 (fun i hi => ⟨by rw [hC', aSet_c (by omega), adC_c (by omega) (by omega)], by rw [adK, aSet_c (by omega), adR_c (by omega) (by omega) (by omega)]⟩)⟩ hv.2 (by omega) (SM_cg sm2 (by rw [gT]) (fun i _ => by rw [gT8]) (by rw [adK, aSet_c (by omega)]) (fun i _ => by rw [adK, aSet_c (by omega), aSet_c (by omega)]; exact ⟨rfl, rfl⟩)) (by rw [gT, adC_8.2.2]; omega) (by rw [adK, aSet_c (by omega), adR_0.2.2.2]; omega)
      refine ⟨C1, R1, ?_, ?_, p3, p4, ?_, ?_, cE_tr (by rw [hC']; exact cE_3 (cE_ad ht) (by omega) ht) p7, rE_tr (by rw [adK]; exact rE_1 rE_ad (by omega)) p8, fun j hj => by rw [p9 j hj, g3 j hj], fun j hj => by rw [p10 j hj, adK, aSet_i hj, adR_c (by omega) (by omega) (by omega)], by rw [p11, hC', aSet_c (by omega), adC_c (by omega) (by omega)], by rw [p12, adK, aSet_c (by omega), adR_c (by omega) (by omega) (by omega)]⟩
      · refine en_43 ⟨fun q => absurd q (by omega), fun _ => ⟨fun q => absurd q (by rw [show aL (SH L) 8 = 28 from rfl]; omega), fun _ => ⟨by rw [i1]; omega, C, _, s_42, fun q => absurd q (by rw [i1, e1]; omega), fun _ => ⟨by rw [i1]; omega, ?_⟩⟩⟩⟩
        rw [h3, i1, e1]
        refine ⟨(tx ht).1, adC C T x, s_40 ht (by omega), ?_⟩
        rw [adC_c (show (3 : Int) ≠ T by omega) (by omega), i1, ← hC']
        exact p1
      · refine en_200 ⟨fun q => absurd q (by omega), fun _ => ⟨by rw [i2]; omega, R, _, s_199, fun q => absurd q (by rw [i2, e2, rk2]; omega), fun _ => ?_⟩⟩
        rw [i2, ← hK]
        have k54 : K 145 54 = (r.length : Int) := by rw [hK, aSet_e]
        rw [k54]
        refine ⟨by omega, adR K (opq x) 0, ?_, p2⟩
        rw [show K 190 (r.length : Int) = opq x by rw [hK, aSet_c (by omega)]; exact e2]
        exact s_198 (by rw [hK, aSet_c (by omega)]; omega)
      · rw [p5, gT, adC_8.2.2]; omega
      · rw [p6, adK, aSet_c (by omega), adR_0.2.2.2]; omega
    · rw [if_neg c]
      refine ⟨C, R, en_43 ⟨fun q => absurd q (by omega), fun _ => ⟨fun q => absurd q (by rw [show aL (SH L) 8 = 28 from rfl]; omega), fun _ => ⟨by rw [i1]; omega, C, _, s_42, fun _ => rfl, fun q => absurd (by rw [i1, e1]; omega) q⟩⟩⟩, en_200 ⟨fun q => absurd q (by omega), fun _ => ⟨by rw [i2]; omega, R, _, s_199, fun _ => rfl, fun q => absurd (by rw [i2, e2, rk2]; omega) q⟩⟩, ⟨by rw [List.length_cons]; exact a, by rw [List.length_cons]; exact b, e1, e2, e3⟩, sm, rfl, rfl, cE_rf, rE_rf, fun _ _ => rfl, fun _ _ => rfl, rfl, rfl⟩
end EMI1
