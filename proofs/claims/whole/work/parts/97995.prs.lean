/-! reading: one TELL, and all -/
section PRS
variable {L : Nat} {C R C1 R1 C2 R2 K Q : aM}
theorem cm_tl : ∀ w : Nat, w < 24 → (cmW (w : Int) = 0 ↔ w = 9) ∧ (cmW (w : Int) = 1 ↔ w = 10) ∧ (cmW (w : Int) = 2 ↔ w = 11) ∧ (cmW (w : Int) = 3 ↔ w = 12) ∧ (cmW (w : Int) = 4 ↔ w = 17) ∧ (cmW (w : Int) = 5 ↔ w = 18) ∧ (cmW (w : Int) = 6 ↔ w = 19) := by decide +kernel
/-- one TELL without its end -/
theorem body_pair {N h : Nat} {T : Int} (d : RD C R N T h) : ∃ Cb Rb v, (∀ o, aX xc_49 (aSeek xc_49 115) [aR 3, aU] [] (SH L) Cb o → aE 49 [aR 3] (SH L) C o) ∧ aE 212 [aR 145] (SH L) R ([aI v], SH L, Rb) ∧ bdE C R Cb Rb N T h v := by
  have s := d.1
  have hh := ST_h s
  have bb := s.2.1
  have tk := (ST_tk s).1
  have so := tk_so tk
  have l7 : aLn (SH L) 1 147 = 2001 := rfl
  have l9 : aLn (SH L) 1 149 = 2001 := rfl
  have r26 := s_26 (L := L) (C := C) hh.2.1
  rw [bb.2.1] at r26
  obtain ⟨ty, hty⟩ : ∃ ty, ty = C 5 (h : Int) := ⟨_, rfl⟩
  rw [← hty] at r26 so
  -- the word's number, if it is one
  have g212 : ∀ o, (∀ b0 : Int, (25 ≤ ty → ty ≤ 28 → b0 = ty - 25) → (33 ≤ ty → ty ≤ 35 → b0 = ty - 29) → (¬ (25 ≤ ty ∧ ty ≤ 28) → ¬ (33 ≤ ty ∧ ty ≤ 35) → b0 < 0 ∨ 6 < b0) → aX xc_212 (aSeek xc_212 26) [aR 145, aU] [aI b0] (SH L) R o) → aE 212 [aR 145] (SH L) R o := by
    intro o x
    refine en_212 ⟨by omega, fun q => x (-1) (fun a b => ?_) (fun a b => ?_) (fun _ _ => by omega), fun q => ⟨by omega, ?_⟩⟩
    · exact absurd (so.2.2.2.1.mpr (by omega)) (by rw [bb.2.2] at q; exact q)
    · exact absurd (so.2.2.2.1.mpr (by omega)) (by rw [bb.2.2] at q; exact q)
    · obtain ⟨w, w0, w1, w2⟩ := so.2.2.2.2.2 (by rw [bb.2.2] at q; exact Classical.not_not.mp q)
      have e : R 149 (R 145 7) = cmW (w : Int) := by rw [bb.2.2]; exact w2
      have cm := cm_tl w w0
      have nn := cm_nn w w0
      rw [e]
      refine x _ (fun a b => ?_) (fun a b => ?_) (fun a b => ?_)
      · have : w = 9 ∨ w = 10 ∨ w = 11 ∨ w = 12 := by omega
        rcases this with q | q | q | q
        · rw [cm.1.mpr q]; omega
        · rw [cm.2.1.mpr q]; omega
        · rw [cm.2.2.1.mpr q]; omega
        · rw [cm.2.2.2.1.mpr q]; omega
      · have : w = 17 ∨ w = 18 ∨ w = 19 := by omega
        rcases this with q | q | q
        · rw [cm.2.2.2.2.1.mpr q]; omega
        · rw [cm.2.2.2.2.2.1.mpr q]; omega
        · rw [cm.2.2.2.2.2.2.mpr q]; omega
      · have n0 : ¬ cmW (w : Int) = 0 := fun q => by have := cm.1.mp q; omega
        have n1 : ¬ cmW (w : Int) = 1 := fun q => by have := cm.2.1.mp q; omega
        have n2 : ¬ cmW (w : Int) = 2 := fun q => by have := cm.2.2.1.mp q; omega
        have n3 : ¬ cmW (w : Int) = 3 := fun q => by have := cm.2.2.2.1.mp q; omega
        have n4 : ¬ cmW (w : Int) = 4 := fun q => by have := cm.2.2.2.2.1.mp q; omega
        have n5 : ¬ cmW (w : Int) = 5 := fun q => by have := cm.2.2.2.2.2.1.mp q; omega
        have n6 : ¬ cmW (w : Int) = 6 := fun q => by have := cm.2.2.2.2.2.2.mp q; omega
        omega
  have v01 : ∀ {Cb Rb : aM} {v : Int}, bdE C R Cb Rb N T h v → v = 0 ∨ v = 1 := fun x => by
    rcases x.2.2 with ⟨a, _⟩ | ⟨a, _⟩
    · exact Or.inr a
    · exact Or.inl a
  by_cases c25 : ty = 25
  · obtain ⟨Cb, Rb, v, a, b, c⟩ := tell_frame (L := L) d (by rw [← hty, c25])
    refine ⟨Cb, Rb, v, fun o x => en_49 ⟨C, ty, r26, fun q => absurd c25 q, fun _ => ⟨Cb, a, x⟩⟩, g212 _ (fun b0 x1 x2 x3 => ?_), c⟩
    exact bl_212_26 ⟨fun q => absurd (by have := x1 (by omega) (by omega); omega) q, fun _ => ⟨Rb, v, b, v01 c, rfl⟩⟩
  by_cases c26 : ty = 26
  · obtain ⟨Cb, Rb, v, a, b, c⟩ := tell_block (L := L) d (by rw [← hty, c26])
    refine ⟨Cb, Rb, v, fun o x => en_49 ⟨C, ty, r26, fun _ => ⟨fun _ => bl_49_30 ⟨Cb, by rw [c26]; exact a, x⟩, fun q => absurd c26 q⟩, fun q => absurd c25 q⟩, g212 _ (fun b0 x1 x2 x3 => ?_), c⟩
    have e := x1 (by omega) (by omega)
    exact bl_212_26 ⟨fun _ => ⟨fun q => absurd (by omega) q, fun _ => ⟨Rb, v, b, v01 c, rfl⟩⟩, fun q => absurd (show ¬ b0 = 0 by omega) q⟩
  by_cases c27 : ty = 27
  · obtain ⟨Cb, Rb, v, a, b, c⟩ := tell_piece (L := L) d (by rw [← hty, c27])
    refine ⟨Cb, Rb, v, fun o x => en_49 ⟨C, ty, r26, fun _ => ⟨fun q => absurd q c26, fun _ => ⟨fun q => absurd c27 q, fun _ => bl_49_30 ⟨Cb, by rw [c27]; exact a, x⟩⟩⟩, fun q => absurd c25 q⟩, g212 _ (fun b0 x1 x2 x3 => ?_), c⟩
    have e := x1 (by omega) (by omega)
    exact bl_212_26 ⟨fun _ => ⟨fun _ => ⟨fun q => absurd (by omega) q, fun _ => ⟨Rb, v, b, v01 c, rfl⟩⟩, fun q => absurd (show ¬ b0 = 1 by omega) q⟩, fun q => absurd (show ¬ b0 = 0 by omega) q⟩
  by_cases c28 : ty = 28
  · obtain ⟨Cb, Rb, v, a, b, c⟩ := tell_wedge (L := L) d (by rw [← hty, c28])
    refine ⟨Cb, Rb, v, fun o x => en_49 ⟨C, ty, r26, fun _ => ⟨fun q => absurd q c26, fun _ => ⟨fun _ => ⟨fun q => absurd c28 q, fun _ => ⟨Cb, a, x⟩⟩, fun q => absurd c27 q⟩⟩, fun q => absurd c25 q⟩, g212 _ (fun b0 x1 x2 x3 => ?_), c⟩
    have e := x1 (by omega) (by omega)
    exact bl_212_26 ⟨fun _ => ⟨fun _ => ⟨fun _ => ⟨fun q => absurd (by omega) q, fun _ => ⟨Rb, v, b, v01 c, rfl⟩⟩, fun q => absurd (show ¬ b0 = 2 by omega) q⟩, fun q => absurd (show ¬ b0 = 1 by omega) q⟩, fun q => absurd (show ¬ b0 = 0 by omega) q⟩
  by_cases c33 : ty = 33
  · obtain ⟨Cb, Rb, v, a, b, c⟩ := tell_enough (L := L) d (by rw [← hty, c33])
    refine ⟨Cb, Rb, v, fun o x => en_49 ⟨C, ty, r26, fun _ => ⟨fun q => absurd q c26, fun _ => ⟨fun _ => ⟨fun _ => ⟨fun q => absurd c33 q, fun _ => ?_⟩, fun q => absurd c28 q⟩, fun q => absurd c27 q⟩⟩, fun q => absurd c25 q⟩, g212 _ (fun b0 x1 x2 x3 => ?_), c⟩
    · rw [c33]; exact a o x
    · have e : b0 = 4 := by have := x2 (by omega) (by omega); omega
      rw [e]
      exact bl_212_26 ⟨fun _ => ⟨fun _ => ⟨fun _ => ⟨fun _ => ⟨fun _ => ⟨fun _ => b, fun q => absurd rfl q⟩, fun q => absurd (show ¬ (4 : Int) = 6 by omega) q⟩, fun q => absurd (show ¬ (4 : Int) = 3 by omega) q⟩, fun q => absurd (show ¬ (4 : Int) = 2 by omega) q⟩, fun q => absurd (show ¬ (4 : Int) = 1 by omega) q⟩, fun q => absurd (show ¬ (4 : Int) = 0 by omega) q⟩
  by_cases c34 : ty = 34
  · obtain ⟨Cb, Rb, v, a, b, c⟩ := tell_give (L := L) d (by rw [← hty, c34])
    refine ⟨Cb, Rb, v, fun o x => en_49 ⟨C, ty, r26, fun _ => ⟨fun q => absurd q c26, fun _ => ⟨fun _ => ⟨fun _ => ⟨fun _ => ⟨fun q => absurd c34 q, fun _ => ⟨Cb, a, x⟩⟩, fun q => absurd c33 q⟩, fun q => absurd c28 q⟩, fun q => absurd c27 q⟩⟩, fun q => absurd c25 q⟩, g212 _ (fun b0 x1 x2 x3 => ?_), c⟩
    have e : b0 = 5 := by have := x2 (by omega) (by omega); omega
    rw [e]
    exact bl_212_26 ⟨fun _ => ⟨fun _ => ⟨fun _ => ⟨fun _ => ⟨fun _ => ⟨fun q => absurd q (by omega), fun _ => ⟨fun _ => b, fun q => absurd rfl q⟩⟩, fun q => absurd (show ¬ (5 : Int) = 6 by omega) q⟩, fun q => absurd (show ¬ (5 : Int) = 3 by omega) q⟩, fun q => absurd (show ¬ (5 : Int) = 2 by omega) q⟩, fun q => absurd (show ¬ (5 : Int) = 1 by omega) q⟩, fun q => absurd (show ¬ (5 : Int) = 0 by omega) q⟩
  by_cases c35 : ty = 35
  · obtain ⟨Cb, Rb, v, a, b, c⟩ := tell_rule (L := L) d (by rw [← hty, c35])
    refine ⟨Cb, Rb, v, fun o x => en_49 ⟨C, ty, r26, fun _ => ⟨fun q => absurd q c26, fun _ => ⟨fun _ => ⟨fun _ => ⟨fun _ => ⟨fun _ => ⟨fun q => absurd c35 q, fun _ => ⟨Cb, a, x⟩⟩, fun q => absurd c34 q⟩, fun q => absurd c33 q⟩, fun q => absurd c28 q⟩, fun q => absurd c27 q⟩⟩, fun q => absurd c25 q⟩, g212 _ (fun b0 x1 x2 x3 => ?_), c⟩
    have e : b0 = 6 := by have := x2 (by omega) (by omega); omega
    rw [e]
    exact bl_212_26 ⟨fun _ => ⟨fun _ => ⟨fun _ => ⟨fun _ => ⟨fun q => absurd rfl q, fun _ => ⟨Rb, v, b, v01 c, rfl⟩⟩, fun q => absurd (show ¬ (6 : Int) = 3 by omega) q⟩, fun q => absurd (show ¬ (6 : Int) = 2 by omega) q⟩, fun q => absurd (show ¬ (6 : Int) = 1 by omega) q⟩, fun q => absurd (show ¬ (6 : Int) = 0 by omega) q⟩
  · obtain ⟨⟨M2, v, f1, f2⟩, f3, f4⟩ := full (L := L) s (n := 1) (by omega)
    refine ⟨flC C 1, flR R 1, 0, fun o x => en_49 ⟨C, ty, r26, fun _ => ⟨fun q => absurd q c26, fun _ => ⟨fun _ => ⟨fun _ => ⟨fun _ => ⟨fun _ => ⟨fun _ => ⟨M2, v, f1, _, f2, x⟩, fun q => absurd c35 q⟩, fun q => absurd c34 q⟩, fun q => absurd c33 q⟩, fun q => absurd c28 q⟩, fun q => absurd c27 q⟩⟩, fun q => absurd c25 q⟩, g212 _ (fun b0 x1 x2 x3 => ?_), cZ_nL nL_fl, rZ_nM nM_fl, Or.inr ⟨rfl, f4⟩⟩
    have e := x3 (by omega) (by omega)
    exact bl_212_26 ⟨fun _ => ⟨fun _ => ⟨fun _ => ⟨fun _ => ⟨fun _ => ⟨fun q => absurd q (by omega), fun _ => ⟨fun q => absurd q (by omega), fun _ => ⟨_, 0, f3, Or.inl rfl, rfl⟩⟩⟩, fun q => absurd (show ¬ b0 = 6 by omega) q⟩, fun q => absurd (show ¬ b0 = 3 by omega) q⟩, fun q => absurd (show ¬ b0 = 2 by omega) q⟩, fun q => absurd (show ¬ b0 = 1 by omega) q⟩, fun q => absurd (show ¬ b0 = 0 by omega) q⟩
theorem bdE_st {N h h1 : Nat} {T v : Int} (hh : h ≤ h1) (a : cZ T C C1) (b : rZ R R1) (x : bdE C1 R1 C2 R2 N T h1 v) : bdE C R C2 R2 N T h v := ⟨cZ_tr a x.1, rZ_tr b x.2.1, by
  rcases x.2.2 with ⟨y, h2, y1, y2⟩ | y
  · exact Or.inl ⟨y, h2, by omega, y2⟩
  · exact Or.inr y⟩
/-- one TELL -/
theorem tell_pair {N h : Nat} {T : Int} (d : RD C R N T h) (q4 : ¬ C 5 (h : Int) = 0) : ∃ C1 R1 v, aE 49 [aR 3] (SH L) C ([], SH L, C1) ∧ (∀ o, (v = 1 → aX xc_213 (aSeek xc_213 5) [aR 145] [] (SH L) R1 o) → (v = 0 → o = ([aI 0], SH L, R1)) → aX xc_213 (aSeek xc_213 5) [aR 145] [] (SH L) R o) ∧ bdE C R C1 R1 N T h v := by
  have s := d.1
  have hh := ST_h s
  have bb := s.2.1
  have so := tk_so (ST_tk s).1
  have l7 : aLn (SH L) 1 147 = 2001 := rfl
  obtain ⟨Cb, Rb, v, a, b, c⟩ := body_pair (L := L) d
  have n4 : ¬ R 147 (R 145 7) = 4 := by rw [bb.2.2]; exact fun q => q4 (so.1.mpr q)
  rcases c.2.2 with ⟨v1, h1, hh1, d1⟩ | ⟨v0, ft⟩
  · have s1 := d1.1
    have hb := ST_h s1
    have sg := tk_sign (t := 4) (ST_tk s1).1 (by omega)
    rw [show sgR 4 = 59 by decide] at sg
    have r59 := s_194 (L := L) (R := Rb) (c := 59) hb.2.2
    rw [s1.2.1.2.2] at r59
    have go : ∀ o, (∃ (M3 : aM) (v4 : Int), aE 194 [aR 145, aI 59] (SH L) Rb ([aI v4], SH L, M3) ∧ ((¬ v4 = 0 → (∃ (M5 : aM) (v6 : Int), aE 193 [aR 145] (SH L) M3 ([aI v6], SH L, M5) ∧ ((¬ v6 = 0 → aX xc_213 (aSeek xc_213 5) [aR 145] [] (SH L) M5 o) ∧ (¬ (¬ v6 = 0) → o = ([aI 0], SH L, M5))))) ∧ (¬ (¬ v4 = 0) → (∃ (M7 : aM) (v8 : Int), aE 191 [aR 145, aI 1] (SH L) M3 ([aI v8], SH L, M7) ∧ ((v8 : Int) = 0 ∨ (v8 : Int) = 1) ∧ o = ([aI v8], SH L, M7))))) → aX xc_213 (aSeek xc_213 5) [aR 145] [] (SH L) R o := fun o x => bl_213_5 ⟨by omega, fun q => absurd q n4, fun _ => ⟨Rb, v, b, fun _ => x, fun q => absurd (by omega) q⟩⟩
    by_cases c4 : Cb 5 (h1 : Int) = 4
    · rw [bip (sg.mp c4)] at r59
      rcases pass_y (L := L) s1 c4 (by omega) with ⟨h4, p1, p2, p3⟩ | ⟨h4, p1, p2, p3⟩
      · exact ⟨nxC Cb, nxR Rb, 1, a _ (bl_49_115 ⟨_, 1, p1, rfl⟩), fun o x _ => go o ⟨_, 1, r59, fun _ => ⟨_, 1, p2, fun _ => x rfl, fun q => absurd (by omega) q⟩, fun q => absurd (by omega) q⟩, cZ_tr c.1 (cZ_nL nL_nx), rZ_tr c.2.1 (rZ_nM nM_nx), Or.inl ⟨rfl, h1 + 1, by omega, RD_nx d1 p3⟩⟩
      · exact ⟨flC Cb 2, flR Rb 2, 0, a _ (bl_49_115 ⟨_, 0, p1, rfl⟩), fun o _ x => go o ⟨_, 1, r59, fun _ => ⟨_, 0, p2, fun q => absurd rfl q, fun _ => x rfl⟩, fun q => absurd (by omega) q⟩, cZ_tr c.1 (cZ_nL nL_fl), rZ_tr c.2.1 (rZ_nM nM_fl), Or.inr ⟨rfl, p3⟩⟩
    · rw [bin (fun z => c4 (sg.mpr z))] at r59
      exact ⟨flC Cb 1, flR Rb 1, 0, a _ (bl_49_115 ⟨_, 0, s_29n s1.2.2.1.1 hb.2.1 (by rw [s1.2.1.2.1]; exact c4), rfl⟩), fun o _ x => go o ⟨_, 0, r59, fun q => absurd rfl q, fun _ => ⟨_, 0, s_191 hb.2.2, Or.inl rfl, x rfl⟩⟩, cZ_tr c.1 (cZ_nL nL_fl), rZ_tr c.2.1 (rZ_nM nM_fl), Or.inr ⟨rfl, ST_fl s1 (by omega)⟩⟩
  · exact ⟨Cb, Rb, 0, a _ (bl_49_115 ⟨_, 0, s_29f ft.1, rfl⟩), fun o _ x => bl_213_5 ⟨by omega, fun q => absurd q n4, fun _ => ⟨Rb, v, b, fun q => absurd v0 q, fun _ => x rfl⟩⟩, c.1, c.2.1, Or.inr ⟨rfl, ft⟩⟩
def endC (C : aM) : aM := if C 3 5 = 0 then C else aSet (aSet C 3 0 (C 3 5)) 3 1 (C 3 6)
/-- how the reading ends -/
def prE (C R C1 R1 : aM) (N : Nat) (T v : Int) : Prop := cZ T C C1 ∧ rZ R R1 ∧ ((v = 1 ∧ ∃ h1 Ce, RD Ce R1 N T h1 ∧ C1 = endC Ce) ∨ (v = 0 ∧ FT C1 R1 T))
theorem parse_loop {N : Nat} {T : Int} : ∀ (m h : Nat) (a4 : Int) (C R : aM), 401 ≤ h + m → RD C R N T h → (0 ≤ a4 ∧ a4 ≤ h) → ∃ C1 R1 v, aX xc_50 (aSeek xc_50 44) [aR 3, aU, aU, aU, aI a4] [] (SH L) C ([], SH L, C1) ∧ aX xc_213 (aSeek xc_213 5) [aR 145] [] (SH L) R ([aI v], SH L, R1) ∧ prE C R C1 R1 N T v := by
  intro m
  induction m with
  | zero => intro h a4 C R hm d _; have := (ST_h d.1).1; omega
  | succ m ih =>
    intro h a4 C R hm d ha
    have s := d.1
    have hh := ST_h s
    have bb := s.2.1
    have so := tk_so (ST_tk s).1
    have l7 : aLn (SH L) 1 147 = 2001 := rfl
    have r26 := s_26 (L := L) (C := C) hh.2.1
    rw [bb.2.1] at r26
    have e0 := s.2.2.1.1
    by_cases c : C 5 (h : Int) = 0
    · refine ⟨endC C, R, 1, bl_50_44 ⟨fun q => absurd q (by omega), fun _ => ⟨fun q => absurd e0 q, fun _ => ⟨C, _, r26, fun _ => bl_50_76 ⟨fun q => absurd e0 q, fun _ => ⟨fun q => by unfold endC; rw [if_pos q], fun q => by unfold endC; rw [if_neg q, aSet_i (show (6 : Int) ≠ 0 by omega)]⟩⟩, fun q => absurd c q⟩⟩⟩, bl_213_5 ⟨by omega, fun _ => rfl, fun q => absurd (by rw [bb.2.2]; exact so.1.mp c) q⟩, ?_, rZ_rf, Or.inl ⟨rfl, h, C, d, rfl⟩⟩
      unfold endC
      split
      · exact cZ_rf
      · exact cZ_tr (cZ_s (by omega)) (cZ_s (by omega))
    · obtain ⟨Cb, Rb, v, p1, p2, p3, p4, p5⟩ := tell_pair (L := L) d c
      have e1 : aW (a4 + 1) = a4 + 1 := aWi (by omega) (by omega)
      rcases p5 with ⟨v1, h1, hh1, d1⟩ | ⟨v0, ft⟩
      · obtain ⟨C1, R1, u, x1, x2, x3, x4, x5⟩ := ih h1 (a4 + 1) Cb Rb (by omega) d1 (by omega)
        exact ⟨C1, R1, u, bl_50_44 ⟨fun q => absurd q (by omega), fun _ => ⟨fun q => absurd e0 q, fun _ => ⟨C, _, r26, fun q => absurd q c, fun _ => ⟨Cb, p1, by rw [e1]; exact x1⟩⟩⟩⟩, p2 _ (fun _ => x2) (fun q => absurd v1 (by omega)), cZ_tr p3 x3, rZ_tr p4 x4, x5⟩
      · have e76 : aX xc_50 (aSeek xc_50 76) [aR 3, aU, aU, aU, aU] [] (SH L) Cb ([], SH L, Cb) := bl_50_76 ⟨fun _ => rfl, fun q => absurd ft.1 q⟩
        refine ⟨Cb, Rb, 0, bl_50_44 ⟨fun q => absurd q (by omega), fun _ => ⟨fun q => absurd e0 q, fun _ => ⟨C, _, r26, fun q => absurd q c, fun _ => ⟨Cb, p1, ?_⟩⟩⟩⟩, p2 _ (fun q => absurd v0 (by omega)) (fun _ => rfl), p3, p4, Or.inr ⟨rfl, ft⟩⟩
        exact bl_50_44 ⟨fun _ => e76, fun _ => ⟨fun _ => e76, fun q => absurd ft.1 q⟩⟩
end PRS
