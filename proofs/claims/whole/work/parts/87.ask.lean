/-! what is asked of a thing, both sides -/
section ASK1
variable {L : Nat} {M M1 M2 : aM}
def asV (M : aM) (t tc hl j : Int) : Int := if j = 0 then M 34 t else if j = 1 then M 35 t else if j = 2 then M 36 t else if j = 3 then M 37 t else if j = 4 then tc else if j = 5 then hl else if j = 6 then bc6 (M 31 8) else if j = 7 then bi (decide (M 33 t = 2)) else bi (decide (M 33 t = 3))
theorem rsO_vr {o v : Int} {vr vs : Int → Int} {l : List Int} (f : ∀ j, 0 ≤ j → j < 9 → vr j = vs j) : rsO o v vr l = rsO o v vs l := by
  unfold rsO
  split
  · rfl
  · split
    · split
      · rename_i d; rw [f v d.2.1 d.2.2]
      · rfl
    · rfl
theorem rsS_vr {O V vr vs : Int → Int} (f : ∀ j, 0 ≤ j → j < 9 → vr j = vs j) : ∀ (n : Nat) (k : Int) (l : List Int), rsS O V vr n k l = rsS O V vs n k l := by
  intro n
  induction n with
  | zero => intro k l; rfl
  | succ n ih =>
    intro k l
    unfold rsS
    rw [rsO_vr f]
    split
    · exact ih _ _
    · rfl
    · rfl
theorem exV_vr {O V vr vs : Int → Int} {a b : Int} (f : ∀ j, 0 ≤ j → j < 9 → vr j = vs j) : exV O V vr a b = exV O V vs a b := by
  unfold exV
  rw [rsS_vr f]
theorem liV_vr {vr vs : Int → Int} {k : Int} (f : ∀ j, 0 ≤ j → j < 9 → vr j = vs j) : liV M vr k = liV M vs k := by
  unfold liV
  rw [exV_vr f, exV_vr f]
theorem hdI_vr {vr vs : Int → Int} (f : ∀ j, 0 ≤ j → j < 9 → vr j = vs j) : ∀ (n : Nat) (k row all : Int), hdI M vr n k row all = hdI M vs n k row all := by
  intro n
  induction n with
  | zero => intro k row all; rfl
  | succ n ih =>
    intro k row all
    unfold hdI
    rw [liV_vr f, ih, ih]
theorem hdV_vr {vr vs : Int → Int} {a b : Int} (f : ∀ j, 0 ≤ j → j < 9 → vr j = vs j) : hdV M vr a b = hdV M vs a b := by
  unfold hdV
  rw [liV_vr f, hdI_vr f]
theorem s_275 (h : rP M) {t : Int} (t0 : 0 ≤ t) (t1 : t < M 31 0) : ∃ M1, aE 275 [aR 145, aI t] (SH L) M ([], SH L, M1) ∧ (∀ a, a ≠ 191 → M1 a = M a) ∧ ∀ j, 0 ≤ j → j < 9 → M1 191 j = asV M t 0 0 j := by
  have n := rP_n h
  have hi := rP_i h t0 t1
  obtain ⟨m1, m2, m3, m4, m5, m6, m7, m8, m9, m10⟩ := rP_m h t0 t1
  have l1 : aLn (SH L) 1 182 = 160 := rfl
  have l2 : aLn (SH L) 1 183 = 160 := rfl
  have l3 : aLn (SH L) 1 191 = 9 := rfl
  have l4 : aLn (SH L) 1 181 = 160 := rfl
  have l5 : aLn (SH L) 1 154 = 28 := rfl
  have hc : ∀ K : aM, (∀ a, a ≠ 191 → K a = M a) → rP K := fun K hK => rP_cg h (fun a ha => hK a (by omega)) (by rw [hK 1 (by omega)])
  obtain ⟨K1, e1⟩ : ∃ K, K = aSet (aSet M 191 0 (M 182 t)) 191 1 (M 183 t) := ⟨_, rfl⟩
  have k1 : ∀ a, a ≠ 191 → K1 a = M a := fun a ha => by rw [e1, aSet_c ha, aSet_c ha]
  obtain ⟨K2, e2⟩ : ∃ K, K = aSet K1 191 2 (M 36 t) := ⟨_, rfl⟩
  have k2 : ∀ a, a ≠ 191 → K2 a = M a := fun a ha => by rw [e2, aSet_c ha, k1 a ha]
  obtain ⟨K3, e3⟩ : ∃ K, K = aSet (aSet (aSet K2 191 3 (M 37 t)) 191 4 0) 191 5 0 := ⟨_, rfl⟩
  have k3 : ∀ a, a ≠ 191 → K3 a = M a := fun a ha => by rw [e3, aSet_c ha, aSet_c ha, aSet_c ha, k2 a ha]
  obtain ⟨K4, e4⟩ : ∃ K, K = aSet K3 191 6 (bc6 (M 31 8)) := ⟨_, rfl⟩
  have k4 : ∀ a, a ≠ 191 → K4 a = M a := fun a ha => by rw [e4, aSet_c ha, k3 a ha]
  have r1 : aE 223 [aR 145, aI t] (SH L) K1 ([aI (M 36 t)], SH L, K1) := by
    have := s_223 (L := L) (hc K1 k1) (i := t) t0 (by rw [k1 31 (by omega)]; exact t1)
    rw [k1 36 (by omega)] at this; exact this
  have r2 : aE 224 [aR 145, aI t] (SH L) K2 ([aI (M 37 t)], SH L, K2) := by
    have := s_224 (L := L) (hc K2 k2) (i := t) t0 (by rw [k2 31 (by omega)]; exact t1)
    rw [k2 37 (by omega)] at this; exact this
  have tg := h.2.1.2.2.1
  have r3 : aE 274 [aI (K3 180 0)] (SH L) K3 ([aI (bc6 (M 31 8))], SH L, K3) := by
    rw [k3 180 (by omega), rP_tg h]
    exact s_274 ⟨tg.1, tg.2.1⟩
  have r4 : aE 225 [aR 145, aI t] (SH L) K4 ([aI (bi (decide (M 33 t = 2)))], SH L, K4) := by
    have := s_225 (L := L) (hc K4 k4) (i := t) t0 (by rw [k4 31 (by omega)]; exact t1)
    rw [k4 33 (by omega)] at this; exact this
  obtain ⟨u, hu⟩ : ∃ u, u = bi (decide (M 33 t = 2)) := ⟨_, rfl⟩
  obtain ⟨w, hw⟩ : ∃ w, w = bi (decide (M 33 t = 3)) := ⟨_, rfl⟩
  have u01 := bi_01 (decide (M 33 t = 2))
  rw [← hu] at r4 u01
  have fin : aX xc_275 (aSeek xc_275 95) [aR 145, aI t] [aI u, aI 7, aR 191] (SH L) K4 ([], SH L, aSet (aSet K4 191 7 u) 191 8 w) := by
    apply bl_275_95
    have c181 : (aSet K4 191 7 u) 181 t = M 32 t := by rw [aSet_c (by omega), k4 181 (by omega), m1]
    have c154 : (aSet K4 191 7 u) 154 (M 32 t) = M 33 t := by rw [aSet_c (by omega), k4 154 (by omega), ← m1, m8]
    rw [c181, c154]
    refine ⟨by omega, by omega, by omega, fun q => ?_, fun q => ?_⟩
    · rw [hw, bin q]
    · rw [hw, bip (Classical.not_not.mp q)]
  refine ⟨aSet (aSet K4 191 7 u) 191 8 w, en_275 ⟨by omega, by omega, K1, M 36 t, ?_, K2, M 37 t, ?_, K3, bc6 (M 31 8), ?_, K4, u, ?_, fun q => ?_, fun q => ?_⟩, fun a ha => by rw [aSet_c ha, aSet_c ha, k4 a ha], fun j j0 j1 => ?_⟩
  · rw [aSet_c (show (183 : Int) ≠ 191 by omega), ← e1]; exact r1
  · rw [← e2]; exact r2
  · rw [← e3]; exact r3
  · rw [← e4]; exact r4
  · rw [q] at fin ⊢; exact fin
  · rw [show u = 1 by omega] at fin; rw [show u = 1 by omega]; exact fin
  · rw [e4, e3, e2, e1]
    unfold asV
    simp only [aSet_q]
    rw [m2, m3]
    have : j = 0 ∨ j = 1 ∨ j = 2 ∨ j = 3 ∨ j = 4 ∨ j = 5 ∨ j = 6 ∨ j = 7 ∨ j = 8 := by omega
    rcases this with rfl | rfl | rfl | rfl | rfl | rfl | rfl | rfl | rfl
    · rfl
    · rfl
    · rfl
    · rfl
    · rfl
    · rfl
    · rfl
    · exact hu
    · exact hw
theorem raw_sum (h : rP M) (hk : ctR M) {s t : Int} (hs : 0 ≤ s ∧ s < 4) (t0 : 0 ≤ t) (t1 : t < M 31 0) : sumI (fun p => if M (67 + 5 * axS s + (if s = 0 ∨ s = 3 then 2 else 1)) p = t then M (67 + 5 * axS s + 3) p else 0) 0 (M (67 + 5 * axS s) 0) = sumI (fun o => tA M t s o) 0 (M 31 0) := by
  have np := ct_P h hk (s := s)
  have e := pr_sum h hk hs t0 t1 (fun _ => true)
  simp only [and_true, if_true] at e
  rw [← e]
  by_cases c : s = 0 ∨ s = 3
  · refine sumI_congr 0 (fun p p0 p1 => ?_)
    unfold fbI ptI prI
    simp only [if_pos c]
  · rw [← sumI_rev (f := fun p => if M (67 + 5 * axS s + (if s = 0 ∨ s = 3 then 2 else 1)) p = t then M (67 + 5 * axS s + 3) p else 0) np.1]
    refine sumI_congr 0 (fun p p0 p1 => ?_)
    unfold fbI ptI prI
    simp only [if_neg c]
def tcS (M : aM) (t s : Int) : Int := frB M s (fun _ => true) t + sumI (fun o => tA M t s o) 0 (M 31 0)
def tcV (M : aM) (t : Int) : Int := sumI (tcS M t) 0 4
theorem tcS_le (h : rP M) {t s : Int} (t0 : 0 ≤ t) (t1 : t < M 31 0) : (0 ≤ frB M s (fun _ => true) t ∧ frB M s (fun _ => true) t ≤ 60) ∧ 0 ≤ sumI (fun o => tA M t s o) 0 (M 31 0) ∧ sumI (fun o => tA M t s o) 0 (M 31 0) ≤ 2400 := by
  have n := rP_n h
  have := sumI_le (f := fun o => tA M t s o) (n := M 31 0) (c := 60) 0 (fun j j0 j1 => tA_le h t0 t1 j0 j1)
  exact ⟨frB_le h t0 t1, this.1, by have := this.2 n.1; omega⟩
theorem s_133 (h : rP M) (hk : lkd M) {t : Int} (t0 : 0 ≤ t) (t1 : t < M 31 0) : aE 133 [aR 64, aI t] (SH L) M ([aI (tcV M t)], SH L, M) := by
  have n := rP_n h
  have key : ∀ s, ∀ a, 0 ≤ s → 0 ≤ a → a ≤ 5000 * s → aX xc_133 (aSeek xc_133 4) [aR 64, aI t, aI a, aI s, aU, aU] [] (SH L) M ([aI (a + sumI (tcS M t) s 4)], SH L, M) := by
    refine upto 4 (fun s hs a s0 a0 a1 => ?_) (fun s hs ih a s0 a0 a1 => ?_)
    · exact bl_133_4 ⟨fun _ => rI (by rw [sumI_nil hs]; omega), fun q => absurd hs (by omega)⟩
    · have b := tcS_le h (s := s) t0 t1
      have np := ct_P h hk.2.2 (s := s)
      have hC := ctS_is (s := s)
      have e87 : aE 87 [aR 31, aR (M 1 3), aI t, aI s, aJ (spn 0 60)] (SH L) M ([aI (frB M s (fun _ => true) t)], SH L, M) := by
        have := s_87 (L := L) h (s := s) (z := spn 0 60) t0 t1
        rw [frB_w h (w' := fun _ => true) t0 t1 (fun p p0 p1 => by rw [lb_spn p0 (by omega)]; exact decide_eq_true (by omega))] at this
        exact this
      have e83 : aE 83 [aR 64, aI s] (SH L) M ([aR (67 + 5 * axS s)], SH L, M) := by
        have := s_83 (L := L) (M := M) (a1 := s)
        rw [show (if s = 0 ∨ s = 2 then (72 : Int) else 67) = 67 + 5 * axS s by unfold axS; split <;> omega] at this
        exact this
      obtain ⟨c, hc⟩ : ∃ c, c = 67 + 5 * axS s := ⟨_, rfl⟩
      have rs := raw_sum h hk.2.2 ⟨s0, hs⟩ t0 t1
      rw [← hc] at rs e83 np hC
      obtain ⟨far, hfar⟩ : ∃ far, far = (fun p => M (c + (if s = 0 ∨ s = 3 then 2 else 1)) p) := ⟨_, rfl⟩
      have e91 : ∀ p, 0 ≤ p → p < M c 0 → aE 91 [aR c, aI s, aI p] (SH L) M ([aI (far p)], SH L, M) := fun p p0 p1 => by
        rw [hfar]
        exact s_91 hC ⟨p0, by omega⟩
      have vb : ∀ p, 0 ≤ p → p < M c 0 → 0 ≤ M (c + 3) p ∧ M (c + 3) p ≤ 60 := by
        intro p p0 p1
        obtain ⟨-, hb, -, -⟩ := ctR_at hk.2.2 s
        rw [← hc] at hb
        have x := hb p p0 p1
        have := ov_le h.2.1.1 x.1.1 x.1.2 x.2.1.1 x.2.1.2
        have y := hlf_le (M := M) (i := M (c + 1) p) (j := M (c + 2) p) (n := max (ovX M (M (c + 1) p) (M (c + 2) p)) (ovY M (M (c + 1) p) (M (c + 2) p)))
        rw [x.2.2.2.1]
        unfold ctc
        split
        · have := y (by omega); omega
        · omega
      have inn : ∀ i, ∀ v, 0 ≤ i → i ≤ M c 0 → 0 ≤ v → v ≤ a + 60 + 60 * i → aX xc_133 (aSeek xc_133 41) [aR 64, aI t, aI v, aI s, aR c, aI i] [] (SH L) M ([aI (v + sumI (fun p => if far p = t then M (c + 3) p else 0) i (M c 0) + sumI (tcS M t) (s + 1) 4)], SH L, M) := by
        refine upto (M c 0) (fun i hi v i0 i1 v0 v1 => ?_) (fun i hi ih2 v i0 i1 v0 v1 => ?_)
        · refine bl_133_41 ⟨(ct hC).1, fun _ => ?_, fun q => absurd hi (by omega)⟩
          rw [aWi (z := s + 1) (by omega) (by omega), sumI_nil hi, Int.add_zero]
          exact ih v (by omega) v0 (by omega)
        · have x := vb i i0 hi
          have nx : ∀ w, 0 ≤ w → w ≤ a + 60 + 60 * (i + 1) → aX xc_133 (aSeek xc_133 74) [aR 64, aI t, aI w, aI s, aR c, aI i] [] (SH L) M ([aI (w + sumI (fun p => if far p = t then M (c + 3) p else 0) (i + 1) (M c 0) + sumI (tcS M t) (s + 1) 4)], SH L, M) := fun w w0 w1 => bl_133_74 (by rw [aWi (z := i + 1) (by omega) (by omega)]; exact ih2 w (by omega) (by omega) w0 w1)
          refine bl_133_41 ⟨(ct hC).1, fun q => absurd hi (by omega), fun _ => ⟨(ct hC).1, M, far i, e91 i i0 hi, fun q => ?_, fun q => ⟨(ct hC).1, ?_⟩⟩⟩
          · rw [sumI_step hi, if_neg q, Int.zero_add]
            exact nx v v0 (by omega)
          · simp only [ct hC]
            refine ⟨by omega, ?_⟩
            rw [aWi (z := v + M (c + 3) i) (by omega) (by omega), sumI_step hi, if_pos (Classical.not_not.mp q)]
            have := nx (v + M (c + 3) i) (by omega) (by omega)
            rw [show v + (M (c + 3) i + sumI (fun p => if far p = t then M (c + 3) p else 0) (i + 1) (M c 0)) = v + M (c + 3) i + sumI (fun p => if far p = t then M (c + 3) p else 0) (i + 1) (M c 0) by omega]
            exact this
      refine bl_133_4 ⟨fun q => absurd hs (by omega), fun _ => ⟨M, _, s_37, by rw [hk.2.1]; rfl, M, _, by rw [hk.2.1, hk.1]; exact e87, M, _, e83, ?_⟩⟩
      have := inn 0 (a + frB M s (fun _ => true) t) (by omega) (by omega) (by omega) (by omega)
      rw [aWi (z := a + frB M s (fun _ => true) t) (by omega) (by omega), sumI_step hs]
      rw [hfar] at this
      dsimp only at this
      rw [rs] at this
      rw [show a + (tcS M t s + sumI (tcS M t) (s + 1) 4) = a + frB M s (fun _ => true) t + sumI (fun o => tA M t s o) 0 (M 31 0) + sumI (tcS M t) (s + 1) 4 by unfold tcS; omega]
      exact this
  have := key 0 0 (by omega) (by omega) (by omega)
  rw [Int.zero_add] at this
  exact en_133 this
theorem tc_eq (h : rP M) {t : Int} (t0 : 0 ≤ t) (t1 : t < M 31 0) : tcV M t = sumI (fun o => if o = t then 0 else ctc M t o) 0 (M 31 0) + sumI (fun s => frB M s (fun _ => true) t) 0 4 := by
  have n := rP_n h
  unfold tcV tcS
  rw [sumI_add, Int.add_comm, sumI_swap]
  congr 1
  refine sumI_congr 0 (fun o o0 o1 => ?_)
  rw [sumI_step (by omega), sumI_step (by omega), sumI_step (by omega), sumI_step (by omega), sumI_nil (by omega)]
  by_cases c : o = t
  · rw [if_pos c, c, tA_self h t0 t1, tA_self h t0 t1, tA_self h t0 t1, tA_self h t0 t1]; rfl
  · rw [if_neg c]
    have := tA_sum h t0 t1 o0 o1 (fun z => c z.symm)
    show tA M t 0 o + (tA M t 1 o + (tA M t 2 o + (tA M t 3 o + 0))) = ctc M t o
    omega
/-- the class asks -/
theorem s_134 (h : rP M) (hk : lkd M) (e3 : M 90 3 = 31) (e4 : M 90 4 = 64) {t hl : Int} (t0 : 0 ≤ t) (t1 : t < M 31 0) : ∃ M1, aE 134 [aR 90, aI t, aI hl] (SH L) M ([], SH L, M1) ∧ (∀ a, a ≠ 97 → M1 a = M a) ∧ ∀ j, 0 ≤ j → j < 9 → M1 97 j = asV M t (tcV M t) hl j := by
  obtain ⟨K, r, f, v0, v1, v2, v3, v4, v5, v6, v7, v8⟩ := s_119 (L := L) h e3 t0 t1
  have hK : rP K := rP_cg h (fun a ha => f a (by omega)) (by rw [f 1 (by omega)])
  have kK : lkd K := lkd_cg hk (by rw [f 1 (by omega)]) (fun a x y => f a (by omega)) (fun a x y => f a (by omega)) (by rw [f 64 (by omega)]) (by rw [f 64 (by omega)]) (by rw [f 64 (by omega)])
  have kk : ke M K := fun a ha => f a (by omega)
  have et : tcV K t = tcV M t := by
    unfold tcV tcS
    refine sumI_congr 0 (fun s s0 s1 => ?_)
    rw [ke_frB h kk, f 31 (by omega)]
    congr 1
    refine sumI_congr 0 (fun o o0 o1 => ?_)
    rw [ke_tA kk]
  have r2 := s_133 (L := L) hK kK (t := t) t0 (by rw [f 31 (by omega)]; exact t1)
  rw [et] at r2
  refine ⟨aSet (aSet K 97 4 (tcV M t)) 97 5 hl, en_134 ⟨K, r, by rw [f 90 (by omega), e4]; rfl, K, _, by rw [f 90 (by omega), e4]; exact r2, rfl⟩, fun a ha => by rw [aSet_c ha, aSet_c ha, f a ha], fun j j0 j1 => ?_⟩
  unfold asV
  simp only [aSet_q]
  have : j = 0 ∨ j = 1 ∨ j = 2 ∨ j = 3 ∨ j = 4 ∨ j = 5 ∨ j = 6 ∨ j = 7 ∨ j = 8 := by omega
  rcases this with rfl | rfl | rfl | rfl | rfl | rfl | rfl | rfl | rfl
  · exact v0
  · exact v1
  · exact v2
  · exact v3
  · rfl
  · rfl
  · exact v6
  · exact v7
  · exact v8
theorem tc_ke (h : rP M) (k : ke M M1) {t : Int} : tcV M1 t = tcV M t := by
  unfold tcV tcS
  refine sumI_congr 0 (fun s s0 s1 => ?_)
  rw [ke_frB h k, k 31 (by omega)]
  congr 1
  refine sumI_congr 0 (fun o o0 o1 => ?_)
  rw [ke_tA k]
theorem asV_ke (k : ke M M1) {t tc hl j : Int} : asV M1 t tc hl j = asV M t tc hl j := by
  unfold asV
  rw [k 34 (by omega), k 35 (by omega), k 36 (by omega), k 37 (by omega), k 31 (by omega), k 33 (by omega)]
/-- the reference asks -/
theorem s_281 (h : rP M) {ly : Int → Bool} {tg : Int} (hm : mS M ly tg) {t : Int} (t0 : 0 ≤ t) (t1 : t < M 31 0) : ∃ M1, aE 281 [aR 145, aI t] (SH L) M ([], SH L, M1) ∧ (∀ a, a ≠ 191 → M1 a = M a) ∧ ∀ j, 0 ≤ j → j < 9 → M1 191 j = asV M t (tcV M t) (bi (hld M ly tg t)) j := by
  have n := rP_n h
  obtain ⟨K, r, f, v⟩ := s_275 (L := L) h t0 t1
  have hK : rP K := rP_cg h (fun a ha => f a (by omega)) (by rw [f 1 (by omega)])
  have kk : ke M K := fun a ha => f a (by omega)
  have c0 : ∀ o, 0 ≤ o → o < M 31 0 → o ≠ t → 0 ≤ ctc M t o ∧ ctc M t o ≤ 60 := by
    intro o o0 o1 ot
    have := ov_le h.2.1.1 t0 t1 o0 o1
    have y := hlf_le (M := M) (i := t) (j := o) (n := max (ovX M t o) (ovY M t o))
    unfold ctc
    split
    · have := y (by omega); omega
    · omega
  have lp2 : ∀ s, ∀ a, 0 ≤ s → 0 ≤ a → a ≤ 2400 + 60 * s → ∃ M1, aX xc_281 (aSeek xc_281 41) [aR 145, aI t, aI a, aI s] [] (SH L) K ([], SH L, M1) ∧ M1 = aSet (aSet K 191 4 (a + sumI (fun s => frB M s (fun _ => true) t) s 4)) 191 5 (bi (hld M ly tg t)) := by
    refine upto 4 (fun s hs a s0 a0 a1 => ?_) (fun s hs ih a s0 a0 a1 => ?_)
    · obtain ⟨K2, e2⟩ : ∃ K2, K2 = aSet K 191 4 a := ⟨_, rfl⟩
      have f2 : ∀ a, a ≠ 191 → K2 a = M a := fun a ha => by rw [e2, aSet_c ha, f a ha]
      have h2 : rP K2 := rP_cg h (fun a ha => f2 a (by omega)) (by rw [f2 1 (by omega)])
      have k2 : ke M K2 := fun a ha => f2 a (by omega)
      have m2 : mS K2 ly tg := mS_ke h k2 hm (f2 193 (by omega)) (f2 194 (by omega)) (f2 195 (by omega))
      have r2 := s_250 (L := L) h2 m2 (t := t) t0 (by rw [f2 31 (by omega)]; exact t1)
      rw [hld_ke h k2] at r2
      have b01 := bi_01 (hld M ly tg t)
      refine ⟨_, bl_281_41 ⟨fun _ => ⟨K2, _, by rw [← e2]; exact r2, fun q => ?_, fun q => ?_⟩, fun q => absurd hs (by omega)⟩, rfl⟩
      · rw [sumI_nil hs, Int.add_zero, q, e2]
      · rw [sumI_nil hs, Int.add_zero, show bi (hld M ly tg t) = 1 by omega, e2]
    · have b := frB_le h (s := s) (w := fun _ => true) t0 t1
      have r2 := s_242 (L := L) hK (t := t) (s := s) (b := 0) ⟨s0, hs⟩ t0 (by rw [f 31 (by omega)]; exact t1)
      have e2 : frB K s (wB K 0 (K 145 61) s) t = frB M s (fun _ => true) t := by
        unfold wB
        rw [if_pos rfl, ke_frB h kk]
      rw [e2] at r2
      obtain ⟨M1, r3, y⟩ := ih (a + frB M s (fun _ => true) t) (by omega) (by omega) (by omega)
      refine ⟨M1, bl_281_41 ⟨fun q => absurd hs (by omega), fun _ => ⟨K, _, r2, ?_⟩⟩, ?_⟩
      · rw [aWi (z := a + frB M s (fun _ => true) t) (by omega) (by omega), aWi (z := s + 1) (by omega) (by omega)]
        exact r3
      · rw [y, sumI_step hs, Int.add_assoc]
  have lp1 : ∀ o, ∀ a, 0 ≤ o → o ≤ M 31 0 → 0 ≤ a → a ≤ 60 * o → ∃ M1, aX xc_281 (aSeek xc_281 9) [aR 145, aI t, aI a, aI o] [] (SH L) K ([], SH L, M1) ∧ M1 = aSet (aSet K 191 4 (a + sumI (fun o => if o = t then 0 else ctc M t o) o (M 31 0) + sumI (fun s => frB M s (fun _ => true) t) 0 4)) 191 5 (bi (hld M ly tg t)) := by
    refine upto (M 31 0) (fun o ho a o0 o1 a0 a1 => ?_) (fun o ho ih a o0 o1 a0 a1 => ?_)
    · obtain ⟨M1, r2, y⟩ := lp2 0 a (by omega) a0 (by omega)
      refine ⟨M1, bl_281_9 ⟨fun _ => r2, fun q => absurd (by rw [f 179 (by omega), n.2.2]; exact ho) q⟩, ?_⟩
      rw [y, sumI_nil ho, Int.add_zero]
    · have q0 : ¬ K 179 0 ≤ o := by rw [f 179 (by omega), n.2.2]; omega
      by_cases c : o = t
      · obtain ⟨M1, r2, y⟩ := ih a (by omega) (by omega) a0 (by omega)
        refine ⟨M1, bl_281_9 ⟨fun q => absurd q q0, fun _ => ⟨fun _ => bl_281_33 ?_, fun q => absurd c q⟩⟩, ?_⟩
        · rw [aWi (z := o + 1) (by omega) (by omega)]; exact r2
        · rw [y, sumI_step ho, if_pos c, Int.zero_add]
      · have b := c0 o o0 ho c
        obtain ⟨M1, r2, y⟩ := ih (a + ctc M t o) (by omega) (by omega) (by omega) (by omega)
        have r3 := s_236 (L := L) hK (i := t) (j := o) t0 (by rw [f 31 (by omega)]; exact t1) o0 (by rw [f 31 (by omega)]; exact ho) (fun z => c z.symm)
        rw [ke_ctc kk] at r3
        refine ⟨M1, bl_281_9 ⟨fun q => absurd q q0, fun _ => ⟨fun q => absurd q c, fun _ => ⟨K, _, r3, bl_281_33 ?_⟩⟩⟩, ?_⟩
        · rw [aWi (z := o + 1) (by omega) (by omega), aWi (z := a + ctc M t o) (by omega) (by omega)]; exact r2
        · rw [y, sumI_step ho, if_neg c, ← Int.add_assoc]
  obtain ⟨M1, r2, y⟩ := lp1 0 0 (by omega) n.1 (by omega) (by omega)
  rw [Int.zero_add, ← tc_eq h t0 t1] at y
  refine ⟨M1, en_281 ⟨K, r, r2⟩, fun a ha => by rw [y, aSet_c ha, aSet_c ha, f a ha], fun j j0 j1 => ?_⟩
  rw [y, aSet_q, aSet_q]
  by_cases c5 : j = 5
  · rw [if_pos c5, c5]; rfl
  · rw [if_neg c5]
    by_cases c4 : j = 4
    · rw [if_pos c4, c4]; rfl
    · rw [if_neg c4, v j j0 j1]
      unfold asV
      rw [if_neg c4, if_neg c5, if_neg c4, if_neg c5]
end ASK1
