/-! the reference's sums -/
section SUM1
variable {L : Nat} {M M1 M2 : aM}
/-- one op of the reference: none: it can't be; some none: a division by nought -/
def rsO (o v : Int) (vr : Int → Int) (l : List Int) : Option (Option (List Int)) :=
  if o = 0 then (if l.length < 32 then some (some (v :: l)) else none)
  else if o = 1 then (if l.length < 32 ∧ 0 ≤ v ∧ v < 9 then some (some (vr v :: l)) else none)
  else if 2 ≤ o ∧ o ≤ 5 then match l with
    | y :: x :: r => if o = 5 ∧ y = 0 then some none else some (some ((if o = 2 then aW (x + y) else if o = 3 then aW (x - y) else if o = 4 then aW (x * y) else aDiv x y) :: r))
    | _ => none
  else none
def rsS (O V vr : Int → Int) : Nat → Int → List Int → Option (Option (List Int))
  | 0, _, l => some (some l)
  | n + 1, k, l => match rsO (O k) (V k) vr l with
    | some (some l') => rsS O V vr n (k + 1) l'
    | some none => some none
    | none => none
def stW (M : aM) : List Int → Prop
  | [] => True
  | x :: r => M 192 (r.length : Int) = x ∧ stW M r
theorem stW_cg : ∀ l : List Int, stW M l → (∀ i : Nat, i < l.length → M1 192 (i : Int) = M 192 i) → stW M1 l := by
  intro l
  induction l with
  | nil => intro _ _; exact trivial
  | cons x r ih =>
    intro h f
    exact ⟨by rw [f r.length (by rw [List.length_cons]; omega)]; exact h.1, ih h.2 (fun i hi => f i (by rw [List.length_cons]; omega))⟩
/-- what a sum leaves as it was -/
def smF (M M1 : aM) : Prop := (∀ a, a ≠ 145 → a ≠ 192 → M1 a = M a) ∧ ∀ j, j ≠ 59 → M1 145 j = M 145 j
theorem smF_rf : smF M M := ⟨fun _ _ _ => rfl, fun _ _ => rfl⟩
theorem smF_tr (h : smF M M1) (h2 : smF M1 M2) : smF M M2 := ⟨fun a x y => (h2.1 a x y).trans (h.1 a x y), fun j hj => (h2.2 j hj).trans (h.2 j hj)⟩
theorem smF_s {i v : Int} (h : smF M M1) : smF M (aSet M1 192 i v) := ⟨fun a x y => (aSet_c y).trans (h.1 a x y), fun j hj => by rw [aSet_c (by omega)]; exact h.2 j hj⟩
theorem smF_b {v : Int} (h : smF M M1) : smF M (aSet M1 145 59 v) := ⟨fun a x y => (aSet_c x).trans (h.1 a x y), fun j hj => (aSet_i hj).trans (h.2 j hj)⟩
theorem smF_sc (h : smF M M1) : sc M M1 := ⟨fun a x y z => h.1 a x (by omega), fun j hj => h.2 j (by omega)⟩
theorem sm_run {t : Int} (t1 : t ≤ 1000) : ∀ n : Nat, ∀ i : Int, ∀ l : List Int, ∀ M' : aM, i + n = t → 0 ≤ i → l.length ≤ 32 → stW M' l → smF M M' → M' 145 59 = 0 →
    (rsS (M 170) (M 171) (M 191) n i l = some none → ∃ M1, aX xc_216 (aSeek xc_216 10) [aR 145, aU, aI t, aI (l.length : Int), aI i, aU, aU, aU] [] (SH L) M' ([aI 0], SH L, M1) ∧ smF M M1 ∧ M1 145 59 = 1) ∧
    ∀ v, rsS (M 170) (M 171) (M 191) n i l = some (some [v]) → ∃ M1, aX xc_216 (aSeek xc_216 10) [aR 145, aU, aI t, aI (l.length : Int), aI i, aU, aU, aU] [] (SH L) M' ([aI v], SH L, M1) ∧ smF M M1 ∧ M1 145 59 = 0 := by
  intro n
  induction n with
  | zero =>
    intro i l M' it i0 hl hs hf hz
    refine ⟨fun e => ?_, fun v e => ?_⟩
    · unfold rsS at e; cases e
    · unfold rsS at e
      injection e with e
      injection e with e
      subst e
      exact ⟨M', bl_216_10 ⟨fun _ => rI hs.1.symm, fun q => absurd (by omega) q⟩, hf, hz⟩
  | succ n ih =>
    intro i l M' it i0 hl hs hf hz
    have e170 : M' 170 = M 170 := hf.1 170 (by omega) (by omega)
    have e171 : M' 171 = M 171 := hf.1 171 (by omega) (by omega)
    have e191 : M' 191 = M 191 := hf.1 191 (by omega) (by omega)
    have l0 : aLn (SH L) 1 170 = 1000 := rfl
    have l1 : aLn (SH L) 1 171 = 1000 := rfl
    have l2 : aLn (SH L) 1 192 = 500 := rfl
    have l3 : aLn (SH L) 1 191 = 9 := rfl
    unfold rsS
    cases er : rsO (M 170 i) (M 171 i) (M 191) l with
    | none => exact ⟨fun e => (by cases e), fun v e => (by cases e)⟩
    | some ro =>
      unfold rsO at er
      by_cases c0 : M 170 i = 0
      · rw [if_pos c0] at er
        by_cases d : l.length < 32
        · rw [if_pos d] at er
          injection er with er
          subst er
          obtain ⟨x1, x2⟩ := ih (i + 1) (M 171 i :: l) (aSet M' 192 (l.length : Int) (M 171 i)) (by omega) (by omega) (by rw [List.length_cons]; omega) ⟨aSet_e, stW_cg l hs (fun k hk => aSet_i (by omega))⟩ (smF_s hf) (by rw [aSet_c (by omega)]; exact hz)
          rw [List.length_cons] at x1 x2
          have st : ∀ o, aX xc_216 (aSeek xc_216 10) [aR 145, aU, aI t, aI ((l.length + 1 : Nat) : Int), aI (i + 1), aU, aU, aU] [] (SH L) (aSet M' 192 (l.length : Int) (M 171 i)) o → aX xc_216 (aSeek xc_216 10) [aR 145, aU, aI t, aI (l.length : Int), aI i, aU, aU, aU] [] (SH L) M' o := by
            intro o r
            refine bl_216_10 ⟨fun q => absurd q (by omega), fun _ => ⟨by omega, fun q => absurd q (by rw [e170]; omega), fun _ => ⟨fun q => absurd (by rw [e170]; exact c0) q, fun _ => ⟨by omega, bl_216_63 ⟨by omega, bl_216_166 ?_⟩⟩⟩⟩⟩
            rw [e171, aWi (z := (l.length : Int) + 1) (by omega) (by omega), aWi (z := i + 1) (by omega) (by omega)]
            exact r
          refine ⟨fun e => ?_, fun v e => ?_⟩
          · obtain ⟨M1, r, y⟩ := x1 e; exact ⟨M1, st _ r, y⟩
          · obtain ⟨M1, r, y⟩ := x2 v e; exact ⟨M1, st _ r, y⟩
        · rw [if_neg d] at er; cases er
      · rw [if_neg c0] at er
        by_cases c1 : M 170 i = 1
        · rw [if_pos c1] at er
          by_cases d : l.length < 32 ∧ 0 ≤ M 171 i ∧ M 171 i < 9
          · rw [if_pos d] at er
            injection er with er
            subst er
            obtain ⟨x1, x2⟩ := ih (i + 1) (M 191 (M 171 i) :: l) (aSet M' 192 (l.length : Int) (M 191 (M 171 i))) (by omega) (by omega) (by rw [List.length_cons]; omega) ⟨aSet_e, stW_cg l hs (fun k hk => aSet_i (by omega))⟩ (smF_s hf) (by rw [aSet_c (by omega)]; exact hz)
            rw [List.length_cons] at x1 x2
            have st : ∀ o, aX xc_216 (aSeek xc_216 10) [aR 145, aU, aI t, aI ((l.length + 1 : Nat) : Int), aI (i + 1), aU, aU, aU] [] (SH L) (aSet M' 192 (l.length : Int) (M 191 (M 171 i))) o → aX xc_216 (aSeek xc_216 10) [aR 145, aU, aI t, aI (l.length : Int), aI i, aU, aU, aU] [] (SH L) M' o := by
              intro o r
              refine bl_216_10 ⟨fun q => absurd q (by omega), fun _ => ⟨by omega, fun q => absurd q (by rw [e170]; omega), fun _ => ⟨fun _ => ⟨by omega, by rw [e171]; omega, bl_216_63 ⟨by omega, bl_216_166 ?_⟩⟩, fun q => absurd (by rw [e170]; exact c0) q⟩⟩⟩
              rw [e171, e191, aWi (z := (l.length : Int) + 1) (by omega) (by omega), aWi (z := i + 1) (by omega) (by omega)]
              exact r
            refine ⟨fun e => ?_, fun v e => ?_⟩
            · obtain ⟨M1, r, y⟩ := x1 e; exact ⟨M1, st _ r, y⟩
            · obtain ⟨M1, r, y⟩ := x2 v e; exact ⟨M1, st _ r, y⟩
          · rw [if_neg d] at er; cases er
        · rw [if_neg c1] at er
          by_cases c2 : 2 ≤ M 170 i ∧ M 170 i ≤ 5
          · rw [if_pos c2] at er
            cases l with
            | nil => cases er
            | cons b r =>
              cases r with
              | nil => cases er
              | cons a r =>
                have hb : M' 192 (r.length + 1 : Int) = b := by have := hs.1; rw [List.length_cons] at this; exact this
                have ha : M' 192 (r.length : Int) = a := hs.2.1
                rw [List.length_cons, List.length_cons] at hl
                have z1 : aW (((b :: a :: r).length : Int) - 1) = (r.length : Int) + 1 := by rw [List.length_cons, List.length_cons, aWi (by omega) (by omega)]; omega
                have z2 : aW (((b :: a :: r).length : Int) - 2) = (r.length : Int) := by rw [List.length_cons, List.length_cons, aWi (by omega) (by omega)]; omega
                have z3 : aW (((b :: a :: r).length : Int) + -1) = (r.length : Int) + 1 := by rw [List.length_cons, List.length_cons, aWi (by omega) (by omega)]; omega
                by_cases d : M 170 i = 5 ∧ b = 0
                · simp only [if_pos d] at er
                  injection er with er
                  subst er
                  refine ⟨fun _ => ⟨aSet M' 145 59 1, bl_216_10 ⟨fun q => absurd q (by omega), fun _ => ⟨by omega, fun _ => ?_, fun q => absurd (by rw [e170]; omega) q⟩⟩, smF_b hf, aSet_e⟩, fun v e => (by cases e)⟩
                  rw [z1, z2, e170, hb]
                  exact ⟨by omega, by omega, fun q => absurd d.1 q, fun _ => ⟨fun q => absurd d.2 q, fun _ => rfl⟩⟩
                · simp only [if_neg d] at er
                  injection er with er
                  subst er
                  obtain ⟨w, hw⟩ : ∃ w, w = (if M 170 i = 2 then aW (a + b) else if M 170 i = 3 then aW (a - b) else if M 170 i = 4 then aW (a * b) else aDiv a b) := ⟨_, rfl⟩
                  rw [← hw]
                  obtain ⟨x1, x2⟩ := ih (i + 1) (w :: r) (aSet M' 192 (r.length : Int) w) (by omega) (by omega) (by rw [List.length_cons]; omega) ⟨aSet_e, stW_cg r hs.2.2 (fun k hk => aSet_i (by omega))⟩ (smF_s hf) (by rw [aSet_c (by omega)]; exact hz)
                  rw [List.length_cons] at x1 x2
                  have st2 : ∀ o, aX xc_216 (aSeek xc_216 10) [aR 145, aU, aI t, aI ((r.length + 1 : Nat) : Int), aI (i + 1), aU, aU, aU] [] (SH L) (aSet M' 192 (r.length : Int) w) o → aX xc_216 (aSeek xc_216 111) [aR 145, aU, aI t, aI ((r.length : Int) + 1), aI i, aI (M 170 i), aI b, aI a] [] (SH L) M' o := by
                    intro o r1
                    have fin : aX xc_216 (aSeek xc_216 165) [aR 145, aU, aI t, aI ((r.length : Int) + 1), aI i, aU, aU, aU] [aI w, aI (aW ((r.length : Int) + 1 - 1)), aR 192] (SH L) M' o := by
                      rw [aWi (z := (r.length : Int) + 1 - 1) (by omega) (by omega), show (r.length : Int) + 1 - 1 = r.length by omega]
                      refine bl_216_165 ⟨by omega, bl_216_166 ?_⟩
                      rw [aWi (z := i + 1) (by omega) (by omega)]
                      exact r1
                    refine bl_216_111 ⟨fun q1 => ⟨fun q2 => ⟨fun q3 => ⟨fun q4 => d ⟨by omega, q4⟩, ?_⟩, fun q3 => ?_⟩, fun q2 => ?_⟩, fun q1 => ?_⟩
                    · rw [if_neg q1, if_neg q2, if_neg q3] at hw; rw [← hw]; exact fin
                    · rw [if_neg q1, if_neg q2, if_pos (Classical.not_not.mp q3)] at hw; rw [← hw]; exact fin
                    · rw [if_neg q1, if_pos (Classical.not_not.mp q2)] at hw; rw [← hw]; exact fin
                    · rw [if_pos (Classical.not_not.mp q1)] at hw; rw [← hw]; exact fin
                  have st : ∀ o, aX xc_216 (aSeek xc_216 10) [aR 145, aU, aI t, aI ((r.length + 1 : Nat) : Int), aI (i + 1), aU, aU, aU] [] (SH L) (aSet M' 192 (r.length : Int) w) o → aX xc_216 (aSeek xc_216 10) [aR 145, aU, aI t, aI ((b :: a :: r).length : Int), aI i, aU, aU, aU] [] (SH L) M' o := by
                    intro o r1
                    refine bl_216_10 ⟨fun q => absurd q (by omega), fun _ => ⟨by omega, fun _ => ?_, fun q => absurd (by rw [e170]; omega) q⟩⟩
                    rw [z1, z2, z3, e170, hb, ha]
                    exact ⟨by omega, by omega, fun _ => st2 o r1, fun q => ⟨fun _ => st2 o r1, fun q2 => absurd ⟨Classical.not_not.mp q, Classical.not_not.mp q2⟩ d⟩⟩
                  refine ⟨fun e => ?_, fun v e => ?_⟩
                  · obtain ⟨M1, r, y⟩ := x1 e; exact ⟨M1, st _ r, y⟩
                  · obtain ⟨M1, r, y⟩ := x2 v e; exact ⟨M1, st _ r, y⟩
          · rw [if_neg c2] at er; cases er
def exV (O V vr : Int → Int) (f t : Int) : Option Int := match rsS O V vr (t - f).toNat f [] with
  | some (some [x]) => some x
  | _ => none
def wfE (O V : Int → Int) (f t : Int) : Prop := (0 ≤ f ∧ f ≤ t ∧ t ≤ 500) ∧ ∀ vr, rsS O V vr (t - f).toNat f [] = some none ∨ ∃ x, rsS O V vr (t - f).toNat f [] = some (some [x])
theorem s_216 {f t : Int} (w : wfE (M 170) (M 171) f t) : ∃ M1, aE 216 [aR 145, aI f, aI t] (SH L) M ([aI ((exV (M 170) (M 171) (M 191) f t).getD 0)], SH L, M1) ∧ smF M M1 ∧ M1 145 59 = (match exV (M 170) (M 171) (M 191) f t with
    | none => 1
    | some _ => 0) := by
  obtain ⟨⟨f0, ft, t1⟩, w⟩ := w
  have c170 : ∀ v, (aSet M 145 59 v) 170 = M 170 := fun v => aSet_c (by omega)
  have c171 : ∀ v, (aSet M 145 59 v) 171 = M 171 := fun v => aSet_c (by omega)
  have c191 : ∀ v, (aSet M 145 59 v) 191 = M 191 := fun v => aSet_c (by omega)
  obtain ⟨x1, x2⟩ := sm_run (L := L) (M := M) (show t ≤ 1000 by omega) (t - f).toNat f [] (aSet M 145 59 0) (by omega) f0 (by decide) trivial (smF_b smF_rf) aSet_e
  unfold exV
  rcases w (M 191) with e | ⟨x, e⟩
  · obtain ⟨M1, r, y⟩ := x1 e
    rw [e]
    exact ⟨M1, en_216 r, y⟩
  · obtain ⟨M1, r, y⟩ := x2 x e
    rw [e]
    exact ⟨M1, en_216 r, y⟩
end SUM1
