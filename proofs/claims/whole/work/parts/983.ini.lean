/-! the start: what the constructors leave, and that the law runs to 1 -/
section INI
variable {L : Nat} {M : aM}
def k0 : Option (List aV × aSh × List kEv) := kRun tgT gP 2000 (gP 12) (aLoc [aR 1] (gL 12)) [] [(9, 0, []), (21, 17, List.replicate 17 (-1))] [.inr (1, 11)]
set_option maxRecDepth 100000 in
theorem k0_s : k0.map (fun o => (o.1, o.2.1)) = some ([], (9, 0, []) :: SHt.take 144) := by decide +kernel
def kV0 : List kEv := match k0 with
  | some o => o.2.2
  | none => []
theorem k0_e : k0 = some ([], (9, 0, []) :: SHt.take 144, kV0) := by
  have h := k0_s
  unfold kV0
  cases hk : k0 with
  | none => rw [hk] at h; cases h
  | some o =>
    obtain ⟨v, S, W⟩ := o
    rw [hk, Option.map_some] at h
    have h2 := Option.some.inj h
    obtain ⟨h3, h4⟩ := Prod.mk.inj h2
    have h3' : v = [] := h3
    have h4' : S = (9, 0, []) :: SHt.take 144 := h4
    rw [h3', h4']
def k1 : Option (List aV × aSh × List kEv) := kRun tgT gP 3000 (gP 179) (aLoc [aR 145] (gL 179)) [] (((9, 0, []) :: SHt.take 144) ++ [(22, 81, List.replicate 81 (-1))]) (.inr (145, 12) :: kV0)
set_option maxRecDepth 100000 in
theorem k1_s : k1.map (fun o => (o.1, o.2.1)) = some ([], (9, 0, []) :: SHt) := by decide +kernel
def kV1 : List kEv := match k1 with
  | some o => o.2.2
  | none => []
theorem k1_e : k1 = some ([], (9, 0, []) :: SHt, kV1) := by
  have h := k1_s
  unfold kV1
  cases hk : k1 with
  | none => rw [hk] at h; cases h
  | some o =>
    obtain ⟨v, S, W⟩ := o
    rw [hk, Option.map_some] at h
    have h2 := Option.some.inj h
    obtain ⟨h3, h4⟩ := Prod.mk.inj h2
    have h3' : v = [] := h3
    have h4' : S = (9, 0, []) :: SHt := h4
    rw [h3', h4']
def kNo (W : List kEv) (a : Int) : Bool := W.all (fun e => match e with
  | .inl (r, _, _) => decide (r ≠ a)
  | .inr (r, _) => decide (r ≠ a))
theorem look_no {t : Nat → Nat → Nat} {W : List kEv} {a : Int} (h : kNo W a = true) (b : Int) : look t W a b = 0 := by
  unfold kNo at h
  induction W with
  | nil => rfl
  | cons e W ih =>
    rw [List.all_cons, Bool.and_eq_true] at h
    obtain ⟨h1, h2⟩ := h
    rcases e with ⟨r, j, v⟩ | ⟨r, c⟩
    · have h1' : r ≠ a := of_decide_eq_true h1
      show (if a = r ∧ b = j then v else look t W a b) = 0
      rw [if_neg (fun q => h1' q.1.symm)]
      exact ih h2
    · have h1' : r ≠ a := of_decide_eq_true h1
      show (if a = r then (if t c b.toNat = 2 then (-1 : Int) else 0) else look t W a b) = 0
      rw [if_neg (fun q => h1' q.symm)]
      exact ih h2
def kFs : List (Int × Int × Int) := [(1, 1, 0), (1, 3, 9), (1, 4, 20), (1, 5, 0), (1, 6, (-1)), (1, 9, 0), (1, 10, 0), (9, 0, 60), (9, 1, 60), (9, 2, 50), (9, 3, 0), (9, 9, 0), (9, 14, 0), (9, 15, 0), (9, 16, 0), (31, 0, 0), (31, 8, 0), (40, 9, 0), (48, 9, 0), (56, 9, 0), (64, 13, (-1)), (64, 14, (-1)), (84, 5, (-1)), (90, 9, (-1)), (99, 8, (-1)), (118, 7, (-1)), (138, 0, 0), (145, 0, 0), (145, 9, (-1)), (145, 40, 1), (145, 48, 0), (151, 0, 60), (152, 0, 60), (153, 0, 0), (163, 0, 50), (159, 0, 0), (164, 0, (-1)), (166, 0, 0), (179, 0, 0), (180, 0, 0), (185, 1, 0), (185, 2, 0), (185, 3, 0)]
set_option maxRecDepth 100000 in
theorem kFs_ok : (kFs.all (fun q => decide (look tgT kV1 q.1 q.2.1 = q.2.2)) && kNo kV1 184 && kNo kV1 173) = true := by decide +kernel
theorem kFs_at {a b v : Int} (h : (a, b, v) ∈ kFs) : look tgT kV1 a b = v := by
  have k := kFs_ok
  rw [Bool.and_eq_true, Bool.and_eq_true] at k
  exact of_decide_eq_true (List.all_eq_true.mp k.1.1 (a, b, v) h)
/-- what holds before the first call -/
theorem Rl_0 (h : ∀ a b, 1 ≤ a → a < 210 → M a b = look tgT kV1 a b) : Rl 0 M := by
  have k := kFs_ok
  rw [Bool.and_eq_true, Bool.and_eq_true] at k
  have e : ∀ a b v, 1 ≤ a → a < 210 → (a, b, v) ∈ kFs → M a b = v := fun a b v a1 a2 q => by rw [h a b a1 a2]; exact kFs_at q
  have e_1_1 : M 1 1 = 0 := e 1 1 0 (by omega) (by omega) (by decide)
  have e_1_3 : M 1 3 = 9 := e 1 3 9 (by omega) (by omega) (by decide)
  have e_1_4 : M 1 4 = 20 := e 1 4 20 (by omega) (by omega) (by decide)
  have e_1_5 : M 1 5 = 0 := e 1 5 0 (by omega) (by omega) (by decide)
  have e_1_6 : M 1 6 = (-1) := e 1 6 (-1) (by omega) (by omega) (by decide)
  have e_1_9 : M 1 9 = 0 := e 1 9 0 (by omega) (by omega) (by decide)
  have e_1_10 : M 1 10 = 0 := e 1 10 0 (by omega) (by omega) (by decide)
  have e_9_0 : M 9 0 = 60 := e 9 0 60 (by omega) (by omega) (by decide)
  have e_9_1 : M 9 1 = 60 := e 9 1 60 (by omega) (by omega) (by decide)
  have e_9_2 : M 9 2 = 50 := e 9 2 50 (by omega) (by omega) (by decide)
  have e_9_3 : M 9 3 = 0 := e 9 3 0 (by omega) (by omega) (by decide)
  have e_9_9 : M 9 9 = 0 := e 9 9 0 (by omega) (by omega) (by decide)
  have e_9_14 : M 9 14 = 0 := e 9 14 0 (by omega) (by omega) (by decide)
  have e_9_15 : M 9 15 = 0 := e 9 15 0 (by omega) (by omega) (by decide)
  have e_9_16 : M 9 16 = 0 := e 9 16 0 (by omega) (by omega) (by decide)
  have e_31_0 : M 31 0 = 0 := e 31 0 0 (by omega) (by omega) (by decide)
  have e_31_8 : M 31 8 = 0 := e 31 8 0 (by omega) (by omega) (by decide)
  have e_40_9 : M 40 9 = 0 := e 40 9 0 (by omega) (by omega) (by decide)
  have e_48_9 : M 48 9 = 0 := e 48 9 0 (by omega) (by omega) (by decide)
  have e_56_9 : M 56 9 = 0 := e 56 9 0 (by omega) (by omega) (by decide)
  have e_64_13 : M 64 13 = (-1) := e 64 13 (-1) (by omega) (by omega) (by decide)
  have e_64_14 : M 64 14 = (-1) := e 64 14 (-1) (by omega) (by omega) (by decide)
  have e_84_5 : M 84 5 = (-1) := e 84 5 (-1) (by omega) (by omega) (by decide)
  have e_90_9 : M 90 9 = (-1) := e 90 9 (-1) (by omega) (by omega) (by decide)
  have e_99_8 : M 99 8 = (-1) := e 99 8 (-1) (by omega) (by omega) (by decide)
  have e_118_7 : M 118 7 = (-1) := e 118 7 (-1) (by omega) (by omega) (by decide)
  have e_138_0 : M 138 0 = 0 := e 138 0 0 (by omega) (by omega) (by decide)
  have e_145_0 : M 145 0 = 0 := e 145 0 0 (by omega) (by omega) (by decide)
  have e_145_9 : M 145 9 = (-1) := e 145 9 (-1) (by omega) (by omega) (by decide)
  have e_145_40 : M 145 40 = 1 := e 145 40 1 (by omega) (by omega) (by decide)
  have e_145_48 : M 145 48 = 0 := e 145 48 0 (by omega) (by omega) (by decide)
  have e_151_0 : M 151 0 = 60 := e 151 0 60 (by omega) (by omega) (by decide)
  have e_152_0 : M 152 0 = 60 := e 152 0 60 (by omega) (by omega) (by decide)
  have e_153_0 : M 153 0 = 0 := e 153 0 0 (by omega) (by omega) (by decide)
  have e_163_0 : M 163 0 = 50 := e 163 0 50 (by omega) (by omega) (by decide)
  have e_159_0 : M 159 0 = 0 := e 159 0 0 (by omega) (by omega) (by decide)
  have e_164_0 : M 164 0 = (-1) := e 164 0 (-1) (by omega) (by omega) (by decide)
  have e_166_0 : M 166 0 = 0 := e 166 0 0 (by omega) (by omega) (by decide)
  have e_179_0 : M 179 0 = 0 := e 179 0 0 (by omega) (by omega) (by decide)
  have e_180_0 : M 180 0 = 0 := e 180 0 0 (by omega) (by omega) (by decide)
  have e_185_1 : M 185 1 = 0 := e 185 1 0 (by omega) (by omega) (by decide)
  have e_185_2 : M 185 2 = 0 := e 185 2 0 (by omega) (by omega) (by decide)
  have e_185_3 : M 185 3 = 0 := e 185 3 0 (by omega) (by omega) (by decide)
  have x1 : M 1 3 = 9 := e_1_3
  have n9 : M 9 3 = 0 := e_9_3
  refine ⟨⟨⟨?_, ?_, ?_⟩, ?_, ?_, ?_, ?_, ?_, ?_, ?_, by rw [e_1_6, e_145_9], by rw [e_1_9]; decide, by rw [e_1_10]; decide, by rw [e_1_5]; decide⟩, ?_, ?_, ?_, ?_, ?_⟩
  · rw [x1]
    refine ⟨⟨Or.inl rfl, by rw [e_9_0]; decide, by rw [e_9_1]; decide, by rw [e_9_2]; decide, by rw [n9]; decide, fun k k0 k1 => absurd (by rw [n9] at k1; exact k1) (by omega)⟩, ⟨by rw [e_151_0, e_9_0], by rw [e_152_0, e_9_1], by rw [e_163_0, e_9_2], by rw [e_153_0, n9]⟩, fun k k0 k1 => absurd (by rw [n9] at k1; exact k1) (by omega), by rw [e_9_9, e_159_0]; decide, fun k k0 k1 => absurd (by rw [e_9_9] at k1; exact k1) (by omega)⟩
  · exact ⟨⟨bd31, by rw [e_31_0]; decide, fun k k0 k1 => absurd (by rw [e_31_0] at k1; exact k1) (by omega)⟩, by rw [e_179_0, e_31_0], by rw [e_31_8, e_180_0]; decide, fun k k0 k1 => absurd (by rw [e_31_0] at k1; exact k1) (by omega), fun i j i0 i1 => absurd (by rw [e_31_0] at i1; exact i1) (by omega)⟩
  · rw [x1]
    exact ⟨fun k k0 k1 => absurd (by rw [e_31_0] at k1; exact k1) (by omega), fun k k0 k1 => absurd (by rw [n9] at k1; exact k1) (by omega)⟩
  · refine ⟨by rw [e_1_5]; decide, by rw [e_145_40, e_1_5]; rfl, fun s s0 s1 => Or.inl ?_⟩
    rcases (show s = 0 ∨ s = 1 ∨ s = 2 by omega) with rfl | rfl | rfl
    · exact ⟨e_40_9, e_185_1⟩
    · exact ⟨e_48_9, e_185_2⟩
    · exact ⟨e_56_9, e_185_3⟩
  · exact ⟨by rw [e_138_0]; decide, by rw [e_145_48, e_138_0], fun k k0 k1 => absurd (by rw [e_138_0] at k1; exact k1) (by omega)⟩
  · intro i i0 i1
    left
    rw [h 184 i (by omega) (by omega)]
    exact look_no k.1.2 i
  · exact ⟨by rw [e_1_1]; decide, by rw [e_145_0, e_1_1], fun k k0 k1 => absurd (by rw [e_1_1] at k1; exact k1) (by omega)⟩
  · rw [x1]
    refine ⟨Or.inl ⟨e_164_0, e_9_14, e_9_15⟩, ⟨by rw [e_9_16, e_166_0]; decide, fun r r0 r1 => absurd (by rw [e_9_16] at r1; exact r1) (by omega)⟩⟩
  · intro i i0 i1
    left
    rw [h 173 i (by omega) (by omega)]
    exact look_no k.2 i
  · rw [x1, e_1_4]
    exact ⟨Or.inr rfl, by decide⟩
  · exact ⟨by rw [e_64_13, e_1_9]; decide, by rw [e_64_14, e_1_10]; decide, fun q => absurd (by rw [e_64_13, e_1_9] at q; exact q) (by decide), fun q => absurd (by rw [e_64_14, e_1_10] at q; exact q) (by decide)⟩
  · exact ⟨by rw [e_99_8, e_1_9]; decide, fun q => absurd (by rw [e_99_8, e_1_9] at q; exact q) (by decide)⟩
  · exact ⟨by rw [e_118_7, e_1_9]; decide, fun q => absurd (by rw [e_118_7, e_1_9] at q; exact q) (by decide)⟩
  · exact ⟨by rw [e_90_9, e_1_10]; decide, fun q => absurd (by rw [e_90_9, e_1_10] at q; exact q) (by decide)⟩
  · exact ⟨by rw [e_84_5, e_1_9]; decide, fun q => absurd (by rw [e_84_5, e_1_9] at q; exact q) (by decide)⟩
set_option maxRecDepth 100000 in
/-- the law's run -/
theorem law_run (hL : L ≤ 3072) (wr : wRd L M) : ∃ Z, aE 315 [aR 0] [(9, L, [])] M ([aI 1], SH L, Z) := by
  -- new TypeLock()
  have hr0 : kHd tgT [(9, L, [])] M [] := ⟨fun a b a1 a2 => by have a2' : a < 1 := a2; omega, fun a b a1 => rfl⟩
  have hr1 := kHd_new hr0 (c := (21, 17, List.replicate 17 (-1))) (ci := 11)
  have he1 : kE L [(9, 0, []), (21, 17, List.replicate 17 (-1))] ([(9, L, [])] ++ [(21, 17, List.replicate 17 (-1))]) := ⟨_, rfl, rfl⟩
  obtain ⟨M1, hM1⟩ : ∃ M1, M1 = aNew M (([(9, L, [])] : aSh).length : Int) (fun j => if tgT 11 j.toNat = 2 then -1 else 0) := ⟨_, rfl⟩
  rw [← hM1] at hr1
  have z1 : M1 0 = M 0 := by
    rw [hM1]
    funext b
    exact if_neg (show ¬ (0 : Int) = 1 by decide)
  obtain ⟨S2, M2, r2, he2, hr2, z2⟩ := k_sim 2000 _ _ _ _ _ _ k0_e (gP 12) _ M1 he1 hr1
  obtain ⟨l2, q2, rfl⟩ := he2
  have q2' : SHt.take 144 = l2 := (List.cons.inj q2).2
  subst q2'
  -- new TypeLockModel()
  have hr3 := kHd_new hr2 (c := (22, 81, List.replicate 81 (-1))) (ci := 12)
  have len2 : ((((9, L, []) :: SHt.take 144 : aSh).length : Nat) : Int) = 145 := rfl
  have he3 : kE L (((9, 0, []) :: SHt.take 144) ++ [(22, 81, List.replicate 81 (-1))]) (((9, L, []) :: SHt.take 144) ++ [(22, 81, List.replicate 81 (-1))]) := ⟨_, rfl, rfl⟩
  obtain ⟨M3, hM3⟩ : ∃ M3, M3 = aNew M2 (((9, L, []) :: SHt.take 144 : aSh).length : Int) (fun j => if tgT 12 j.toNat = 2 then -1 else 0) := ⟨_, rfl⟩
  rw [← hM3] at hr3
  have z3 : M3 0 = M2 0 := by
    rw [hM3]
    funext b
    exact if_neg (by rw [len2]; decide)
  rw [len2] at hr3
  obtain ⟨S4, M4, r4, he4, hr4, z4⟩ := k_sim 3000 _ _ _ _ _ _ k1_e (gP 179) _ M3 he3 hr3
  obtain ⟨l4, q4, rfl⟩ := he4
  have q4' : SHt = l4 := (List.cons.inj q4).2
  subst q4'
  have z : M4 0 = M 0 := z4.trans (z3.trans (z2.trans z1))
  have hl : Rl 0 M4 := Rl_0 (fun a b a1 a2 => hr4.1 a b a1 (by show a < (210 : Int); exact a2))
  obtain ⟨Z, hz⟩ := law_loop (L := L) hL 513 M4 0 0 (fun j j0 j1 => by rw [z]; exact wr j j0 j1) hl (by omega) (by omega) (by omega) (by omega)
  refine ⟨Z, ?_⟩
  have t1 : aX xc_315 (aSeek xc_315 15) [aR 0, aR 1, aU, aU] [aR 145] (SH L) M4 ([aI 1], SH L, Z) := aX_seg 3 (fun n g => g) hz
  have t2 : aX xc_315 (aSeek xc_315 12) [aR 0, aR 1, aU, aU] [aR 145, aR 145] (((9, L, []) :: SHt.take 144) ++ [(22, 81, List.replicate 81 (-1))]) M3 ([aI 1], SH L, Z) := aX_calli (as := []) (v := []) rfl rfl rfl rfl ⟨3000, r4⟩ t1
  have t3 : aX xc_315 (aSeek xc_315 7) [aR 0, aU, aU, aU] [aR 1] ((9, L, []) :: SHt.take 144) M2 ([aI 1], SH L, Z) := by
    refine aX_seg 3 (fun n g => ?_) t2
    rw [hM3] at g
    exact g
  have t4 : aX xc_315 (aSeek xc_315 4) [aR 0, aU, aU, aU] [aR 1, aR 1] ([(9, L, [])] ++ [(21, 17, List.replicate 17 (-1))]) M1 ([aI 1], SH L, Z) := aX_calli (as := []) (v := []) rfl rfl rfl rfl ⟨2000, r2⟩ t3
  obtain ⟨n, hn⟩ := t4
  refine ⟨n + 2, ?_⟩
  rw [hM1] at hn
  exact hn
end INI
