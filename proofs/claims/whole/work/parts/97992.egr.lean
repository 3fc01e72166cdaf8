/-! reading: the TELLs enough, give and rule -/
section EGR
variable {L : Nat} {C R C1 R1 C2 R2 K Q : aM}
theorem tk_mono {N : Nat} (h : TK C R N) : ∀ (d i : Nat), i + d ≤ N → C 6 (i : Int) ≤ C 6 ((i + d : Nat) : Int) := by
  intro d
  induction d with
  | zero => intro i _; exact Int.le_refl _
  | succ d ih =>
    intro i hi
    have a := ih i (by omega)
    have b := h.2.2.2.2 (i + d) (by omega)
    rw [show i + (d + 1) = i + d + 1 by omega]
    omega
theorem LT_e {N h h1 : Nat} {T : Int} (s : ST C R N T h) (l : LT C R h) (hh : h ≤ h1) (h1N : h1 ≤ N) (c6 : C1 6 = C 6) (c : C1 3 5 = C 3 5 ∧ C1 3 6 = C 3 6) (r : R1 145 10 = R 145 10 ∧ R1 145 11 = R 145 11) : LT C1 R1 h1 := by
  have m := tk_mono s.1 (h1 - h) h (by omega)
  rw [show h + (h1 - h) = h1 by omega] at m
  unfold LT LN at l ⊢
  rw [c6, c.1, c.2, r.1, r.2]
  refine ⟨l.1, ?_⟩
  rcases l.2 with x | ⟨x, y | ⟨y, _⟩⟩
  · exact Or.inl x
  · exact Or.inr ⟨x, Or.inl (by omega)⟩
  · cases y
theorem RU_q {T : Int} (h : RU C R T) (r : ∀ a, 166 ≤ a → a ≤ 178 → Q a = R a) : RU C Q T := by
  have sh : ∀ a, 166 ≤ a → a ≤ 178 → shR Q a = shR R a := fun a ha hb => by funext b; unfold shR; rw [r a ha hb]
  unfold RU at h ⊢
  rw [r 166 (by omega) (by omega), r 167 (by omega) (by omega), r 168 (by omega) (by omega), r 172 (by omega) (by omega)]
  refine ⟨h.1, fun k k0 k1 => ?_⟩
  obtain ⟨x1, x2, x3⟩ := h.2 k k0 k1
  exact ⟨x1, x2, fun vr => by rw [hdV_cg (fun a x y => sh a (by omega) (by omega))]; exact x3 vr⟩
theorem LI_q (h : LI R) (r : ∀ a, 169 ≤ a → a ≤ 178 → Q a = R a) : LI Q := by
  have sh : ∀ a, 169 ≤ a → a ≤ 178 → shR Q a = shR R a := fun a ha hb => by funext b; unfold shR; rw [r a ha hb]
  intro k k0 k1
  rw [r 172 (by omega) (by omega)] at k1
  obtain ⟨x, y⟩ := h k k0 k1
  refine ⟨?_, liOk_cg y (fun a x y => sh a (by omega) (by omega))⟩
  unfold lB at x ⊢
  rw [r 175 (by omega) (by omega), r 176 (by omega) (by omega), r 177 (by omega) (by omega), r 169 (by omega) (by omega)]
  exact x
theorem RD_x {N h h1 : Nat} {T : Int} (d : RD C R N T h) (hh : h ≤ h1) (s : ST K Q N T h1) (c1 : ∀ a, a ≠ 3 → a ≠ 8 → a < T ∨ (T < a ∧ a ≤ T + 7) → K a = C a) (c2 : ∀ j, j < 13 → K T j = C T j) (c3 : K 3 5 = C 3 5 ∧ K 3 6 = C 3 6) (r1 : ∀ a, 151 ≤ a → a ≤ 163 → Q a = R a) (r2 : Q 145 10 = R 145 10 ∧ Q 145 11 = R 145 11) (bg : BG K Q T h1) (gd : GD K Q T) (ru : RU K Q T) (li : LI Q) (b : b3 Q) : RD K Q N T h1 := by
  obtain ⟨s0, l0, _, kd, fd, wd, _⟩ := d
  have t := tx_le s.2.2.2.2
  have z : K 3 5 = 0 → C 3 5 = 0 := fun q => by rw [c3.1] at q; exact q
  exact ⟨s, LT_e s0 l0 hh s.2.1.1 (c1 6 (by omega) (by omega) (by omega)) c3 r2, bg, KD_cg kd z (c2 3 (by omega)) (fun a x y => c1 a (by omega) (by omega) (by omega)) (fun a x y => r1 a (by omega) (by omega)), FD_cg fd z (fun j x y => c2 j (by omega)) (fun a x => r1 a (by omega) (by omega)), WD_cg wd z (c2 9 (by omega)) (fun a x y => c1 a (by omega) (by omega) (by omega)) (fun a x y => r1 a (by omega) (by omega)), gd, ru, li, b⟩
theorem b3_K (h : b3 R) (r : rK R R1) : b3 R1 := fun i i0 i1 => r.2.2.2.2.2.2.2 i (h i i0 i1)
theorem tell_enough {N h : Nat} {T : Int} (d : RD C R N T h) (q : C 5 (h : Int) = 33) : ∃ Cf R1 v, (∀ o, aX xc_49 (aSeek xc_49 115) [aR 3, aU] [] (SH L) Cf o → ∃ (M8 : aM) (v9 : Int), aE 29 [aR 3, aI 33] (SH L) C ([aI v9], SH L, M8) ∧ (∃ (M10 : aM) (v11 : Int), aE 32 [aR 3, aI 1, aI 100] (SH L) M8 ([aI v11], SH L, M10) ∧ (aK (SH L) (M8 3 3) = 19) ∧ aX xc_49 (aSeek xc_49 115) [aR 3, aU] [] (SH L) (aSet M10 (M8 3 3) 2 v11) o)) ∧ aX xc_212 (aSeek xc_212 93) [aR 145, aI 4] [] (SH L) R ([aI v], SH L, R1) ∧ bdE C R Cf R1 N T h v := by
  have s := d.1
  have ht := s.2.2.2.2
  have t := tx_le ht
  have t19 : aK (SH L) T = 19 := (tx ht).1
  rcases pass_y (L := L) s q (by omega) with ⟨h4, p1, p2, p3⟩ | ⟨h4, p1, p2, p3⟩
  · have d1 := RD_nx d p3
    have g1 := p3.2.2.2.1
    obtain ⟨Ca, Ra, x, v, a1, a2, a3, a4, a5⟩ := int_put (L := L) (lo := 1) (hi := 100) (ca := T) (cj := 2) (ra := 163) (rj := 1) p3 d1.2.1 (by omega) (by omega)
    have cl := nL_tr nL_nx a3
    have rl_ := nM_tr nM_nx a4
    refine ⟨aSet Ca T 2 x, if v = 0 then Ra else aSet Ra 163 1 x, v, fun o y => ⟨_, 1, p1, Ca, x, a1, by rw [g1]; exact t19, by rw [g1]; exact y⟩, ?_⟩
    rcases a5 with ⟨v1, e53, s2, l2, z2⟩ | ⟨v0, ft⟩
    · rw [if_neg (by omega)]
      refine ⟨bl_212_93 ⟨_, 1, p2, fun _ => ⟨fun z => absurd rfl z, fun _ => ⟨Ra, v, a2, fun _ => by rw [e53.1, v1], fun z => absurd (by omega) z⟩⟩, fun z => absurd (by omega) z⟩, cZ_tr (cZ_nL cl) (cZ_s (by omega)), rZ_tr (rZ_nM rl_) (rZ_s (by unfold zR; omega)), Or.inl ⟨v1, h + 1 + 1, by omega, ?_⟩⟩
      obtain ⟨_, _, _, kd, fd, wd, _⟩ := id d
      have cT : ∀ j, j ≠ 2 → (aSet Ca T 2 x) T j = C T j := fun j hj => by rw [aSet_i hj, cl.1 T (by omega)]
      have cc : ∀ a, T < a → (aSet Ca T 2 x) a = C a := fun a ha => by rw [aSet_c (by omega), cl.1 a (by omega)]
      have rr : ∀ a, 150 ≤ a → a ≠ 163 → (aSet Ra 163 1 x) a = R a := fun a ha h3 => by rw [aSet_c h3, rl_.1 a (by omega)]
      have z5 : (aSet Ca T 2 x) 3 5 = 0 → C 3 5 = 0 := fun q => by
        have := (z2 q).1
        rw [nxC_3 (by omega)] at this
        exact this
      refine RD_w d (by omega) s2 l2 (fun j x y => cT j (by omega)) (fun a x y => cc a (by omega)) (fun a x y => rr a (by omega) (by omega)) (KD_cg kd z5 (cT 3 (by omega)) (fun a x y => cc a (by omega)) (fun a x y => rr a (by omega) (by omega))) ?_ (WD_cg wd z5 (cT 9 (by omega)) (fun a x y => cc a (by omega)) (fun a x y => rr a (by omega) (by omega)))
      unfold FD
      rw [rr 151 (by omega) (by omega), rr 152 (by omega) (by omega), aSet_e, aSet_e, cT 0 (by omega), cT 1 (by omega)]
      exact ⟨⟨fd.1.1, fd.1.2.1, rfl⟩, fun u => ⟨(fd.2 (z5 u)).1, (fd.2 (z5 u)).2.1, (z2 u).2⟩⟩
    · rw [if_pos v0]
      exact ⟨bl_212_93 ⟨_, 1, p2, fun _ => ⟨fun z => absurd rfl z, fun _ => ⟨Ra, v, a2, fun z => absurd v0 z, fun _ => by rw [v0]⟩⟩, fun z => absurd (by omega) z⟩, cZ_tr (cZ_nL cl) (cZ_s (by omega)), rZ_nM rl_, Or.inr ⟨v0, FT_T ft (by omega)⟩⟩
  · obtain ⟨x, b1⟩ := int_f (L := L) (lo := 1) (hi := 100) p3
    have g1 := p3.2.2.2.2.1
    exact ⟨aSet (flC C 2) T 2 x, flR R 2, 0, fun o y => ⟨_, 0, p1, _, x, b1, by rw [g1]; exact t19, by rw [g1]; exact y⟩, bl_212_93 ⟨_, 0, p2, fun z => absurd rfl z, fun _ => rfl⟩, cZ_tr (cZ_nL nL_fl) (cZ_s (by omega)), rZ_nM nM_fl, Or.inr ⟨rfl, FT_T p3 (by omega)⟩⟩
end EGR
