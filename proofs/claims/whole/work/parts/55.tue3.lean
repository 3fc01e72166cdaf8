/-! tuesday: the model -/
section TUE3
variable {L : Nat} {M M1 M2 : aM}
theorem s_312 {M' : aM} (g : fr 208 209 M M') (h : rP M) {c s i j : Int} (hc : rB M c (s + 1)) (hs : 0 ≤ s ∧ s < 3) (i0 : 0 ≤ i) (i1 : i < M 31 0) (j0 : 0 ≤ j) (j1 : j < M c 0) : aE 312 [aR 145, aI (40 * (s + 1) + j), aI i] (SH L) M' ([aI (bi (alk M c i j))], SH L, M') := by
  have n := rP_n h
  have nc := hc.1.2.1
  obtain ⟨b1, b2, b3, b4, -⟩ := rP_m h i0 i1
  obtain ⟨c1, c2, c3, c4⟩ := hc.2.2.2.1 j j0 j1
  apply en_312
  simp only [ln0, ln1, ln2, ln3, ln4]
  rw [g 181 (by omega), g 182 (by omega), g 183 (by omega), g 184 (by omega), b1, b2, b3, b4, c1, c2, c3, c4]
  unfold alk
  refine ⟨by omega, by omega, fun q => rI (bin (fun z => q z.1)), fun q => ⟨by omega, by omega, fun q1 => rI (bin (fun z => q1 z.2.1)), fun q1 => ⟨by omega, by omega, fun q2 => rI (bin (fun z => q2 z.2.2.1)), fun q2 => ⟨by omega, by omega, fun q3 => rI (bin (fun z => q3 z.2.2.2)), fun q3 => rI (bip ⟨Classical.not_not.mp q, Classical.not_not.mp q1, Classical.not_not.mp q2, Classical.not_not.mp q3⟩)⟩⟩⟩⟩
theorem bi_and {p q : Bool} : bi (p && q) = bi p * bi q := by cases p <;> cases q <;> rfl
theorem s_313 (h : rP M) (hs : rS M) {s w : Int} : ∃ M1, aE 313 [aR 145, aI s, aI w] (SH L) M ([aI (tuV M s w)], SH L, M1) ∧ sc M M1 := by
  by_cases c : (0 ≤ s ∧ s < 3) ∧ (0 ≤ w ∧ w ≤ 2) ∧ M (40 + 8 * s) 9 = 1
  · obtain ⟨c1, c2, c3⟩ := c
    rcases hs.2.2 s c1.1 c1.2 with ⟨a, -⟩ | ⟨-, e185, e10, eB, -⟩
    · omega
    · obtain ⟨c, hcd⟩ : ∃ c : Int, c = 40 + 8 * s := ⟨_, rfl⟩
      have ev : tuV M s w = if w = 0 then alM M c (-1) else if w = 1 then mvV M c else M c 0 - alM M c (-1) - mvV M c := by rw [hcd]; exact if_pos ⟨c1, c2, c3⟩
      rw [← hcd] at c3 e185 e10 eB
      rw [ev]
      have n := rP_n h
      have hb := h.2.1.1
      have nc := eB.1.2.1
      have m179 := eB.2.1
      obtain ⟨al, hal⟩ : ∃ al : Int → Bool, al = fun j => anyI (fun i => alk M c i j) 0 (M 31 0) := ⟨_, rfl⟩
      obtain ⟨ak, hak⟩ : ∃ ak : Int → Int → Int, ak = fun k j => bi (decide (k = -1 ∨ M (c + 1) j = k) && al j) := ⟨_, rfl⟩
      have akM : ∀ k, sumI (fun j => ak k j) 0 (M c 0) = alM M c k := fun k => by rw [hak, hal]; rfl
      have f : ∀ {M'}, fr 208 209 M M' → sc M M' := fun g => ⟨fun a x y z => g a (by omega), fun j hj => by rw [g 145 (by omega)]⟩
      have l242 : ∀ k, ∀ (a : Int) (M' : aM), 0 ≤ k → (-(80 * k) ≤ a ∧ a ≤ 80 * k) → fr 208 209 M M' → (∀ x, 0 ≤ x → x < 14 → M' 208 x = cntK M 31 x - alM M c x ∧ M' 209 x = cntK M c x - alM M c x) → a + sumI (fun k => min (cntK M 31 k) (cntK M c k) - alM M c k) k 14 = mvV M c → aX xc_313 (aSeek xc_313 242) [aR 145, aI s, aI w, aU, aI (alM M c (-1)), aI a, aI k, aU] [] (SH L) M' ([aI (if w = 0 then alM M c (-1) else if w = 1 then mvV M c else M c 0 - alM M c (-1) - mvV M c)], SH L, M') := by
        refine upto 14 (fun k hk a M' k0 ka g v e => ?_) (fun k hk ih a M' k0 ka g v e => ?_)
        · rw [sumI_nil hk, Int.add_zero] at e
          have a1 := al_le (k := -1) eB.1
          refine bl_313_242 ⟨fun _ => ⟨fun q => ⟨fun q1 => ⟨?_, rI ?_⟩, fun q1 => rI ?_⟩, fun q => rI ?_⟩, fun q => absurd hk q⟩
          · rw [show aLn (SH L) 1 179 = 4 from rfl, aWi (by omega) (by omega)]; omega
          · have ml : -2000 ≤ mvV M c ∧ mvV M c ≤ 2000 := by
              have x1 := sumI_mono (f := fun k => min (cntK M 31 k) (cntK M c k) - alM M c k) (g := fun _ => 40) (n := 14) 0 (fun j _ _ => by
                have := ck_le (k := j) hb
                have := al_le (k := j) eB.1
                omega)
              have x2 := sumI_mono (f := fun _ => -40) (g := fun k => min (cntK M 31 k) (cntK M c k) - alM M c k) (n := 14) 0 (fun j _ _ => by
                have := ck_le (k := j) hb
                have := ck_le (k := j) eB.1
                have := al_le (k := j) eB.1
                omega)
              have x3 : sumI (fun _ => (40 : Int)) 0 14 = 560 := rfl
              have x4 : sumI (fun _ => (-40 : Int)) 0 14 = -560 := rfl
              unfold mvV
              omega
            rw [if_neg q, if_neg q1, aWi (z := 1 + s) (by omega) (by omega), g 179 (by omega), show 1 + s = s + 1 by omega, m179, aWi (z := M c 0 - alM M c (-1)) (by omega) (by omega), e, aWi (by omega) (by omega)]
          · rw [if_neg q, if_pos (Classical.not_not.mp q1), e]
          · rw [if_pos (Classical.not_not.mp q)]
        · have b1 := ck_le (k := k) hb
          have b2 := ck_le (k := k) eB.1
          have b3 := al_le (k := k) eB.1
          obtain ⟨v1, v2⟩ := v k k0 (by omega)
          have nx : ∀ x, x = min (cntK M 31 k) (cntK M c k) - alM M c k → aX xc_313 (aSeek xc_313 285) [aR 145, aI s, aI w, aU, aI (alM M c (-1)), aU, aI k, aU] [aI x, aI a] (SH L) M' ([aI (if w = 0 then alM M c (-1) else if w = 1 then mvV M c else M c 0 - alM M c (-1) - mvV M c)], SH L, M') := by
            intro x hx
            rw [sumI_step hk, ← Int.add_assoc, ← hx] at e
            refine bl_313_285 ?_
            rw [aWi (by omega) (by omega), aWi (by omega) (by omega)]
            exact ih (a + x) M' (by omega) (by omega) g v e
          refine bl_313_242 ⟨fun q => absurd hk (by omega), fun _ => ⟨by rw [show aLn (SH L) 1 208 = 14 from rfl]; omega, by rw [show aLn (SH L) 1 209 = 14 from rfl]; omega, fun q => ⟨by rw [show aLn (SH L) 1 209 = 14 from rfl]; omega, nx _ ?_⟩, fun q => ⟨by rw [show aLn (SH L) 1 208 = 14 from rfl]; omega, nx _ ?_⟩⟩⟩
          · omega
          · omega
      have l112 : ∀ j, ∀ M' : aM, 0 ≤ j → j ≤ M c 0 → fr 208 209 M M' → (∀ x, 0 ≤ x → x < 14 → M' 208 x = cntK M 31 x - sumI (fun j => ak x j) 0 j ∧ M' 209 x = sumI (fun j => bi (decide (M (c + 1) j = x))) 0 j - sumI (fun j => ak x j) 0 j) → ∃ M1, aX xc_313 (aSeek xc_313 112) [aR 145, aI s, aI w, aI (40 * (s + 1)), aI (sumI (fun j => ak (-1) j) 0 j), aI j, aU, aU] [] (SH L) M' ([aI (if w = 0 then alM M c (-1) else if w = 1 then mvV M c else M c 0 - alM M c (-1) - mvV M c)], SH L, M1) ∧ sc M M1 := by
        refine upto (M c 0) (fun j hj M' j0 j1 g v => ?_) (fun j hj ih M' j0 j1 g v => ?_)
        · have e : j = M c 0 := by omega
          subst e
          rw [akM]
          refine ⟨M', bl_313_112 ⟨?_, fun _ => ?_, fun q => absurd ?_ q⟩, f g⟩
          · rw [show aLn (SH L) 1 179 = 4 from rfl, aWi (by omega) (by omega)]; omega
          · exact l242 0 0 M' (by omega) (by omega) g (fun x x0 x1 => by rw [← akM x]; exact v x x0 x1) (by unfold mvV; omega)
          · rw [g 179 (by omega), aWi (z := 1 + s) (by omega) (by omega), show 1 + s = s + 1 by omega, m179]; omega
        · obtain ⟨r1, r2, r3, r4⟩ := eB.2.2.2.1 j j0 hj
          have kj := (eB.1.2.2 j j0 hj).1
          have akb : ∀ k j, 0 ≤ ak k j ∧ ak k j ≤ 1 := fun k j => by rw [hak]; exact bi_le _
          have sb := sumI_le (f := fun j => ak (-1) j) (n := j) (c := 1) 0 (fun x _ _ => akb (-1) x)
          have sb2 := sb.2 j0
          obtain ⟨kd, hkd⟩ : ∃ kd : Int, kd = M (c + 1) j := ⟨_, rfl⟩
          rw [← hkd] at r1 kj
          have sbk := sumI_le (f := fun j => ak kd j) (n := j) (c := 1) 0 (fun x _ _ => akb kd x)
          have sbk2 := sbk.2 j0
          have sbc := sumI_le (f := fun j => bi (decide (M (c + 1) j = kd))) (n := j) (c := 1) 0 (fun x _ _ => bi_le _)
          have sbc2 := sbc.2 j0
          have ckb := ck_le (k := kd) hb
          obtain ⟨v1, v2⟩ := v kd kj.1 kj.2
          obtain ⟨M3, hM3⟩ : ∃ M3, M3 = aSet M' 209 kd (M' 209 kd + 1) := ⟨_, rfl⟩
          have g3 : fr 208 209 M M3 := by rw [hM3]; exact fr_set g (by omega)
          obtain ⟨o1, ho1⟩ : ∃ o1 : Int, o1 = if w = 0 then alM M c (-1) else if w = 1 then mvV M c else M c 0 - alM M c (-1) - mvV M c := ⟨_, rfl⟩
          rw [← ho1] at ih ⊢
          have t183 : ∃ M1, aX xc_313 (aSeek xc_313 183) [aR 145, aI s, aI w, aI (40 * (s + 1)), aI (sumI (fun j => ak (-1) j) 0 j), aI j, aI (bi (al j)), aU] [] (SH L) M3 ([aI o1], SH L, M1) ∧ sc M M1 := by
            have akj : ∀ k, 0 ≤ k → ak k j = if kd = k then bi (al j) else 0 := by
              intro k k0
              rw [hak]
              by_cases q : kd = k
              · rw [if_pos q]
                show bi (decide (k = -1 ∨ M (c + 1) j = k) && al j) = _
                rw [decide_eq_true (by omega), Bool.true_and]
              · rw [if_neg q]
                show bi (decide (k = -1 ∨ M (c + 1) j = k) && al j) = _
                rw [decide_eq_false (by omega)]; rfl
            have akj1 : ak (-1) j = bi (al j) := by
              rw [hak]
              show bi (decide ((-1 : Int) = -1 ∨ M (c + 1) j = -1) && al j) = _
              rw [decide_eq_true (Or.inl rfl), Bool.true_and]
            have ckj : ∀ k, bi (decide (M (c + 1) j = k)) = if kd = k then 1 else 0 := by
              intro k
              rw [← hkd]
              by_cases q : kd = k
              · rw [if_pos q, decide_eq_true q]; rfl
              · rw [if_neg q, decide_eq_false q]; rfl
            have i1 := sumI_snoc (f := fun j => ak (-1) j) 0 j0
            cases q : al j
            · have nxt := ih M3 (by omega) (by omega) g3 (fun x x0 x1 => by
                obtain ⟨y1, y2⟩ := v x x0 x1
                rw [sumI_snoc (f := fun j => ak x j) 0 j0, sumI_snoc (f := fun j => bi (decide (M (c + 1) j = x))) 0 j0, akj x x0, ckj x, hM3, aSet_r (by omega), aSet_q, q]
                by_cases e : kd = x
                · subst e
                  rw [if_pos rfl, if_pos rfl, if_pos rfl]
                  show _ = _ - (_ + (0:Int)) ∧ _ = _ + 1 - (_ + (0:Int))
                  omega
                · rw [if_neg e, if_neg e, if_neg (Ne.symm e)]
                  omega)
              rw [i1, akj1, q, show bi false = 0 from rfl, Int.add_zero] at nxt
              obtain ⟨M1, r, x⟩ := nxt
              refine ⟨M1, bl_313_183 ⟨fun q => absurd rfl q, fun _ => bl_313_230 ?_⟩, x⟩
              rw [aWi (by omega) (by omega)]
              exact r
            · obtain ⟨M4, hM4⟩ : ∃ M4, M4 = aSet (aSet M3 209 kd (M' 209 kd)) 208 kd (M' 208 kd - 1) := ⟨_, rfl⟩
              have g4 : fr 208 209 M M4 := by rw [hM4]; exact fr_set (fr_set g3 (by omega)) (by omega)
              have nxt := ih M4 (by omega) (by omega) g4 (fun x x0 x1 => by
                obtain ⟨y1, y2⟩ := v x x0 x1
                rw [sumI_snoc (f := fun j => ak x j) 0 j0, sumI_snoc (f := fun j => bi (decide (M (c + 1) j = x))) 0 j0, akj x x0, ckj x, hM4, aSet_q, aSet_r (show (209:Int) ≠ 208 by omega), aSet_q, hM3, aSet_r (show (208:Int) ≠ 209 by omega), aSet_r (show (208:Int) ≠ 209 by omega), aSet_q, q]
                by_cases e : kd = x
                · subst e
                  rw [if_pos rfl, if_pos rfl, if_pos rfl, if_pos rfl]
                  show _ = _ - (_ + (1:Int)) ∧ _ = _ + 1 - (_ + (1:Int))
                  omega
                · rw [if_neg e, if_neg e, if_neg (Ne.symm e), if_neg (Ne.symm e), if_neg (Ne.symm e)]
                  omega)
              rw [i1, akj1, q, show bi true = 1 from rfl] at nxt
              obtain ⟨M1, r, x⟩ := nxt
              refine ⟨M1, bl_313_183 ⟨fun _ => ?_, fun q => absurd (by decide) q⟩, x⟩
              simp only [ln0, ln1, ln2, ln3, ln4]
              have e3 : M3 209 kd = M' 209 kd + 1 := by rw [hM3, aSet_e]
              have e4 : M3 208 kd = M' 208 kd := by rw [hM3, aSet_r (by omega)]
              have e5 : M3 181 (40 * (s + 1) + j) = kd := by rw [g3 181 (by omega), r1]
              rw [aWi (z := 40 * (s + 1) + j) (by omega) (by omega), aSet_r (show (181:Int) ≠ 209 by omega), aSet_r (show (208:Int) ≠ 209 by omega), e5, e3, e4, aWi (z := M' 209 kd + 1 - 1) (by omega) (by omega), aWi (z := M' 208 kd - 1) (by omega) (by omega), aWi (z := sumI (fun j => ak (-1) j) 0 j + 1) (by omega) (by omega), show M' 209 kd + 1 - 1 = M' 209 kd by omega, ← hM4]
              refine ⟨by omega, by omega, by omega, by omega, by omega, by omega, bl_313_230 ?_⟩
              rw [aWi (by omega) (by omega)]
              exact r
          obtain ⟨M1, r, x⟩ := t183
          have l149 : ∀ i, 0 ≤ i → i ≤ M 31 0 → aX xc_313 (aSeek xc_313 149) [aR 145, aI s, aI w, aI (40 * (s + 1)), aI (sumI (fun j => ak (-1) j) 0 j), aI j, aI (bi (anyI (fun i => alk M c i j) 0 i)), aI i] [] (SH L) M3 ([aI o1], SH L, M1) := by
            refine upto (M 31 0) (fun i hi i0 i1 => ?_) (fun i hi ih i0 i1 => ?_)
            · have e : i = M 31 0 := by omega
              subst e
              refine bl_313_149 ⟨fun _ => ?_, fun q => absurd ?_ q⟩
              · rw [show anyI (fun i => alk M c i j) 0 (M 31 0) = al j by rw [hal]]; exact r
              · rw [g3 179 (by omega)]; omega
            · refine bl_313_149 ⟨fun q => absurd q ?_, fun _ => ⟨fun q => ?_, fun q => ?_⟩⟩
              · rw [g3 179 (by omega)]; omega
              · have e : anyI (fun i => alk M c i j) 0 i = true := by
                  rw [bi_0, Bool.not_eq_false] at q; exact q
                have e2 : al j = true := by
                  rw [hal]
                  obtain ⟨z, z0, z1, z2⟩ := (anyI_iff 0).mp e
                  exact (anyI_iff 0).mpr ⟨z, z0, by omega, z2⟩
                rw [e, ← e2]; exact r
              · rw [Classical.not_not] at q
                rw [bi_0] at q
                refine ⟨M3, bi (alk M c i j), ?_, ?_⟩
                · rw [aWi (z := 40 * (s + 1) + j) (by omega) (by omega)]
                  exact s_312 g3 h eB c1 i0 hi j0 hj
                · rw [aWi (by omega) (by omega)]
                  have := ih (by omega) (by omega)
                  rw [anyI_snoc i0, q, Bool.false_or] at this
                  exact this
          refine ⟨M1, bl_313_112 ⟨?_, fun q => absurd q ?_, fun _ => ?_⟩, x⟩
          · rw [show aLn (SH L) 1 179 = 4 from rfl, aWi (by omega) (by omega)]; omega
          · rw [g 179 (by omega), aWi (z := 1 + s) (by omega) (by omega), show 1 + s = s + 1 by omega, m179]; omega
          · simp only [ln0, ln1, ln2, ln3, ln4]
            rw [aWi (z := 40 * (s + 1) + j) (by omega) (by omega), g 181 (by omega), r1, aWi (z := M' 209 kd + 1) (by omega) (by omega), ← hM3]
            refine ⟨by omega, by omega, by omega, ?_⟩
            exact l149 0 (by omega) (by omega)
      have l76 : ∀ i, ∀ M' : aM, 0 ≤ i → i ≤ M 31 0 → fr 208 209 M M' → (∀ x, 0 ≤ x → x < 14 → M' 208 x = sumI (fun j => bi (decide (M 32 j = x))) 0 i ∧ M' 209 x = 0) → ∃ M1, aX xc_313 (aSeek xc_313 76) [aR 145, aI s, aI w, aI (40 * (s + 1)), aI 0, aI i, aU, aU] [] (SH L) M' ([aI (if w = 0 then alM M c (-1) else if w = 1 then mvV M c else M c 0 - alM M c (-1) - mvV M c)], SH L, M1) ∧ sc M M1 := by
        refine upto (M 31 0) (fun i hi M' i0 i1 g v => ?_) (fun i hi ih M' i0 i1 g v => ?_)
        · have e : i = M 31 0 := by omega
          subst e
          obtain ⟨M1, r, x⟩ := l112 0 M' (by omega) nc.1 g (fun x x0 x1 => by
            rw [sumI_nil (by omega), sumI_nil (by omega), (v x x0 x1).1, (v x x0 x1).2]
            unfold cntK
            show _ = sumI (fun j => bi (decide (M 32 j = x))) 0 (M 31 0) - 0 ∧ _
            omega)
          rw [sumI_nil (by omega)] at r
          exact ⟨M1, bl_313_76 ⟨fun _ => r, fun q => absurd (by rw [g 179 (by omega)]; omega) q⟩, x⟩
        · have b1 := (rP_m h i0 hi).1
          have b2 := (rP_i h i0 hi).1
          obtain ⟨kd, hkd⟩ : ∃ kd : Int, kd = M 32 i := ⟨_, rfl⟩
          rw [← hkd] at b1 b2
          have v1 := v kd b2.1 b2.2
          have sbc := sumI_le (f := fun j => bi (decide (M 32 j = kd))) (n := i) (c := 1) 0 (fun x _ _ => bi_le _)
          have sbc2 := sbc.2 i0
          obtain ⟨M1, r, x⟩ := ih (aSet M' 208 kd (M' 208 kd + 1)) (by omega) (by omega) (fr_set g (by omega)) (fun x x0 x1 => by
            rw [sumI_snoc (f := fun j => bi (decide (M 32 j = x))) 0 i0, aSet_q, aSet_r (show (209:Int) ≠ 208 by omega), ← hkd]
            obtain ⟨y1, y2⟩ := v x x0 x1
            by_cases e : kd = x
            · subst e
              rw [if_pos rfl, decide_eq_true rfl, y1]; exact ⟨rfl, y2⟩
            · rw [if_neg (Ne.symm e), decide_eq_false e, y1, show bi false = 0 from rfl, Int.add_zero]; exact ⟨rfl, y2⟩)
          refine ⟨M1, bl_313_76 ⟨fun q => absurd q (by rw [g 179 (by omega)]; omega), fun _ => ?_⟩, x⟩
          simp only [ln0, ln1, ln2, ln3, ln4]
          rw [g 181 (by omega), b1, aWi (by omega) (by omega), aWi (by omega) (by omega)]
          exact ⟨by omega, by omega, by omega, r⟩
      have l44 : ∀ k, ∀ M' : aM, 0 ≤ k → k ≤ 14 → fr 208 209 M M' → (∀ x, 0 ≤ x → x < k → M' 208 x = 0 ∧ M' 209 x = 0) → ∃ M1, aX xc_313 (aSeek xc_313 44) [aR 145, aI s, aI w, aI (40 * (s + 1)), aI 0, aI k, aU, aU] [] (SH L) M' ([aI (if w = 0 then alM M c (-1) else if w = 1 then mvV M c else M c 0 - alM M c (-1) - mvV M c)], SH L, M1) ∧ sc M M1 := by
        refine upto 14 (fun k hk M' k0 k1 g v => ?_) (fun k hk ih M' k0 k1 g v => ?_)
        · obtain ⟨M1, r, x⟩ := l76 0 M' (by omega) (by omega) g (fun x x0 x1 => by
            rw [sumI_nil (by omega)]; exact v x x0 (by omega))
          exact ⟨M1, bl_313_44 ⟨fun _ => r, fun q => absurd hk q⟩, x⟩
        · obtain ⟨M1, r, x⟩ := ih (aSet (aSet M' 208 k 0) 209 k 0) (by omega) (by omega) (fr_set (fr_set g (by omega)) (by omega)) (fun x x0 x1 => by
            rw [aSet_r (show (208:Int) ≠ 209 by omega), aSet_q, aSet_q, aSet_r (show (209:Int) ≠ 208 by omega)]
            by_cases e : x = k
            · rw [if_pos e, if_pos e]; exact ⟨rfl, rfl⟩
            · rw [if_neg e, if_neg e]; exact v x x0 (by omega))
          refine ⟨M1, bl_313_44 ⟨fun q => absurd q (by omega), fun _ => ?_⟩, x⟩
          simp only [ln0, ln1, ln2, ln3, ln4]
          rw [aWi (by omega) (by omega)]
          exact ⟨by omega, by omega, r⟩
      obtain ⟨M1, r, x⟩ := l44 0 M (by omega) (by omega) fr_rf (fun x x0 x1 => by omega)
      refine ⟨M1, en_313 ⟨fun q => absurd q (by omega), fun _ => ⟨fun q => absurd q (by omega), fun _ => ?_⟩⟩, x⟩
      simp only [ln0, ln1, ln2, ln3, ln4]
      rw [aWi (z := 1 + s) (by omega) (by omega), aWi (z := 40 * (1 + s)) (by omega) (by omega), show 1 + s = s + 1 by omega, e185]
      refine ⟨by omega, fun q => absurd q (by omega), fun _ => ⟨M, _, s_219, fun _ => r, fun q => absurd c2 (bid0.mp (Classical.not_not.mp q))⟩⟩
  · have ev : tuV M s w = -1 := if_neg c
    rw [ev]
    refine ⟨M, en_313 ⟨fun q => rfl, fun q1 => ⟨fun q => rfl, fun q2 => ?_⟩⟩, sc_rf⟩
    rw [aWi (z := 1 + s) (by omega) (by omega), show 1 + s = s + 1 by omega, show aLn (SH L) 1 185 = 4 from rfl]
    refine ⟨by omega, fun q => rfl, fun q3 => ⟨M, _, s_219, fun q4 => ?_, fun q4 => rfl⟩⟩
    have q5 : 0 ≤ w ∧ w ≤ 2 := Classical.byContradiction (fun z => q4 (bid0.mpr z))
    rcases hs.2.2 s (by omega) (by omega) with ⟨-, a⟩ | ⟨a, -⟩
    · exact absurd a q3
    · exact absurd ⟨by omega, q5, a⟩ c
end TUE3
