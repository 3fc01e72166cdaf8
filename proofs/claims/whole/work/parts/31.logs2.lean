/-! what is lacked, both sides -/
section LOG2
variable {L : Nat} {M : aM}
def fl (M M1 : aM) : Prop := ∀ a b, ¬ (a = 138 ∧ b = 5) → a ≠ 143 → a ≠ 144 → M1 a b = M a b
theorem fl_c {M1 : aM} (h : fl M M1) {a : Int} (h1 : a ≠ 138) (h2 : a ≠ 143) (h3 : a ≠ 144) : M1 a = M a := funext fun b => h a b (fun q => h1 q.1) h2 h3
theorem fl_rL {M1 : aM} (h : rL M) (hf : fl M M1) : rL M1 := rL_of h (hf 138 0 (by omega) (by omega) (by omega)) (by rw [fl_c hf (by omega) (by omega) (by omega)]) (fun a ha => fl_c hf (by omega) (by omega) (by omega))
theorem fl_lv {M1 : aM} {n kd d has : Int} (hf : fl M M1) : lckV M1 n kd d has = lckV M n kd d has := lckV_cg (hf 138 0 (by omega) (by omega) (by omega)) (fun a ha => fl_c hf (by omega) (by omega) (by omega))
theorem lvc {M1 : aM} {n k : Int} (h1 : ∀ a, 139 ≤ a ∧ a ≤ 142 → M1 a = M a) : lv M1 n k = lv M n k := by
  unfold lv
  rw [h1 139 (by omega), h1 141 (by omega)]
/-- the logs of a kind, tallied: what is lacked on each day -/
theorem s_162b (h : rL M) {n kd : Int} (h2 : n ≤ M 138 0) (hk : ∀ k, 0 ≤ k → k < 64 → lb (M 138 5) k = lv M n k) : ∃ M1, aE 162 [aR 138, aI kd] (SH L) M ([], SH L, M1) ∧ fl M M1 ∧ M1 138 5 = M 138 5 ∧
    ∀ d has, 0 ≤ has → has ≤ 99 → aE 163 [aR 138, aI d, aI has] (SH L) M1 ([aI (if 0 ≤ d ∧ d < 100 then lckV M n kd d has else 0)], SH L, M1) := by
  obtain ⟨M1, r, f, v⟩ := s_162 (kd := kd) h h2 hk
  refine ⟨M1, r, fun a b _ x y => by rw [f a (by omega)], by rw [f 138 (by omega)], fun d has h0 h1 => ?_⟩
  have := s_163 (L := L) (M := M1) (d := d) (h := has)
  by_cases c : 0 ≤ d ∧ d < 100
  · rw [if_pos c, (v d c.1 c.2).1, (v d c.1 c.2).2] at this
    have b1 := sum_le60 h.1 (fun j x y => (btE_le h (n := n) (kd := kd) (d := d) x y).2.1)
    have b2 := sum_le60 h.1 (fun j x y => (btE_le h (n := n) (kd := kd) (d := d) x y).2.2)
    rw [aWi (z := sumI (ndF M n kd d) 0 (M 138 0) - has) (by omega) (by omega), aWi (by omega) (by omega)] at this
    rw [if_pos c]
    exact this
  · rw [if_neg c] at this
    rw [if_neg c]
    exact this
theorem s_164 (h : rL M) (ht : tOk M (M 1 3)) {d kd n : Int} : ∃ M1, aE 164 [aR 1, aI d, aI kd, aI n] (SH L) M ([aI (if (0 ≤ d ∧ d < 100) ∧ (0 ≤ kd ∧ kd < M (M 1 3) 3) ∧ 0 ≤ n ∧ n ≤ M 138 0 then lckV M n kd d (M (M 1 3 + 5) kd) else -1)], SH L, M1) ∧ fl M M1 := by
  have tl := tx_le ht.1
  have hm := ht.2.2.2.2
  by_cases c : (0 ≤ d ∧ d < 100) ∧ (0 ≤ kd ∧ kd < M (M 1 3) 3) ∧ 0 ≤ n ∧ n ≤ M 138 0
  · obtain ⟨c1, c2, c3⟩ := c
    rw [if_pos ⟨c1, c2, c3⟩]
    obtain ⟨M1, r1, x1, k1⟩ := s_161 (L := L) h c3.1 c3.2
    have f1 : fl M M1 := fun a b hab _ _ => x1 a b hab
    have e13 : M1 1 = M 1 := fl_c f1 (by omega) (by omega) (by omega)
    obtain ⟨M2, r2, f2, -, k2⟩ := s_162b (L := L) (kd := kd) (fl_rL h f1) (n := n) (by rw [f1 138 0 (by omega) (by omega) (by omega)]; exact c3.2) (fun k a b => by rw [k1 k a b, lvc (fun a ha => fl_c f1 (by omega) (by omega) (by omega))])
    have f12 : fl M M2 := fun a b x y z => (f2 a b x y z).trans (f1 a b x y z)
    have e23 : M2 1 = M 1 := fl_c f12 (by omega) (by omega) (by omega)
    refine ⟨M2, ?_, f12⟩
    have hk := hm.2 kd c2.1 c2.2
    have et : M2 (M 1 3 + 5) = M (M 1 3 + 5) := fl_c f12 (by omega) (by omega) (by omega)
    apply en_164
    refine ⟨fun q => absurd q (by omega), fun _ => ⟨fun q => absurd q (by omega), fun _ => ⟨(tx ht.1).1, _, _, s_55 ht.1, fun q => ?_, fun _ => ⟨fun q => absurd q (by omega), fun _ => ⟨fun _ => ⟨_, r1, _, r2, ?_⟩, fun q => absurd c3.2 q⟩⟩⟩⟩⟩
    · rw [bid0] at q; exact absurd c2 q
    · rw [e23]
      simp only [tx ht.1]
      refine ⟨trivial, by omega, _, _, k2 d _ (by rw [et]; omega) (by rw [et]; omega), rI ?_⟩
      rw [if_pos c1, fl_lv f1, et]
  · rw [if_neg c]
    by_cases c4 : (0 ≤ d ∧ d < 100)
    · refine ⟨M, ?_, fun _ _ _ _ _ => rfl⟩
      apply en_164
      refine ⟨fun q => absurd q (by omega), fun _ => ⟨fun q => absurd q (by omega), fun _ => ⟨(tx ht.1).1, _, _, s_55 ht.1, fun q => rfl, fun q => ⟨fun q => rfl, fun q1 => ⟨fun q2 => ?_, fun q => rfl⟩⟩⟩⟩⟩
      rw [bid0, Classical.not_not] at q
      exact absurd ⟨c4, q, by omega, q2⟩ c
    · refine ⟨M, ?_, fun _ _ _ _ _ => rfl⟩
      apply en_164
      refine ⟨fun q => rfl, fun q1 => ⟨fun q => rfl, fun q2 => absurd (by omega) c4⟩⟩
theorem s_302 (h : rL M) (ht : rT M (M 1 3)) {d kd n : Int} : aE 302 [aR 145, aI d, aI kd, aI n] (SH L) M ([aI (if (0 ≤ d ∧ d < 100) ∧ (0 ≤ kd ∧ kd < M (M 1 3) 3) ∧ 0 ≤ n ∧ n ≤ M 138 0 then lckV M n kd d (M (M 1 3 + 5) kd) else -1)], SH L, M) := by
  have hm := ht.1.2.2.2.2
  have h3 := ht.2.1.2.2.2
  have s299 : ∀ {k : Int}, aE 299 [aR 145, aI k] (SH L) M ([aI (bi (decide (0 ≤ k ∧ k ≤ M 145 48)))], SH L, M) := by
    intro k
    apply en_299
    repeat' (first | apply And.intro | intro _)
    all_goals (refine rI ?_; first | exact bip (by omega) | exact bin (by omega))
  have hl := h.2.1
  apply en_302
  refine ⟨_, _, s_219, fun q => rI ?_, fun q => ⟨_, _, s_220, fun q1 => rI ?_, fun q1 => ⟨_, _, s299, fun q2 => rI ?_, fun q2 => ?_⟩⟩⟩
  all_goals (simp only [bid0, Classical.not_not, hl, h3] at *)
  · rw [if_neg (by omega)]
  · rw [if_neg (by omega)]
  · rw [if_neg (by omega)]
  · have e := (ht.2.2.1 kd q1.1 (by omega)).2.2.2
    have hk := hm.2 kd q1.1 (by omega)
    refine ⟨_, _, s_301 h (by omega) (by omega) (by omega) (by omega), rI ?_⟩
    rw [if_pos (by omega), e]
def wrN (f : Int → Int) : Nat → Int → Int → Int → Int
  | 0, _, w, _ => w
  | k + 1, i, w, m => if m < f i then wrN f k (i + 1) i (f i) else wrN f k (i + 1) w m
def wrI (f : Int → Int) (n i w m : Int) : Int := wrN f (n - i).toNat i w m
theorem wrI_nil {f : Int → Int} {n i w m : Int} (h : n ≤ i) : wrI f n i w m = w := by
  unfold wrI
  rw [show (n - i).toNat = 0 by omega]
  rfl
theorem wrI_yes {f : Int → Int} {n i w m : Int} (h : i < n) (h2 : m < f i) : wrI f n i w m = wrI f n (i + 1) i (f i) := by
  unfold wrI
  rw [show (n - i).toNat = (n - (i + 1)).toNat + 1 by omega]
  exact if_pos h2
theorem wrI_no {f : Int → Int} {n i w m : Int} (h : i < n) (h2 : ¬ m < f i) : wrI f n i w m = wrI f n (i + 1) w m := by
  unfold wrI
  rw [show (n - i).toNat = (n - (i + 1)).toNat + 1 by omega]
  exact if_neg h2
/-- all that is lacked of a kind -/
def lckS (M : aM) (n kd has : Int) : Int := sumI (fun d => lckV M n kd d has) 0 100
theorem s_165 (h : rL M) (ht : tOk M (M 1 3)) {n : Int} : ∃ M1, aE 165 [aR 1, aI n] (SH L) M ([aI (if 0 ≤ n ∧ n ≤ M 138 0 then wrI (fun kd => lckS M n kd (M (M 1 3 + 5) kd)) (M (M 1 3) 3) 0 (-2) 0 else -1)], SH L, M1) ∧ fl M M1 := by
  have tl := tx_le ht.1
  have hm := ht.2.2.2.2
  by_cases c : 0 ≤ n ∧ n ≤ M 138 0
  · rw [if_pos c]
    obtain ⟨M1, r1, x1, k1⟩ := s_161 (L := L) h c.1 c.2
    have f1 : fl M M1 := fun a b hab _ _ => x1 a b hab
    have k1' : ∀ k, 0 ≤ k → k < 64 → lb (M1 138 5) k = lv M n k := k1
    have key : ∀ kd, ∀ w m : Int, ∀ M2 : aM, 0 ≤ kd → fl M M2 → M2 138 5 = M1 138 5 → ∃ M3, aX xc_165 (aSeek xc_165 33) [aR 1, aU, aI m, aI w, aI kd, aU, aU] [] (SH L) M2 ([aI (wrI (fun kd => lckS M n kd (M (M 1 3 + 5) kd)) (M (M 1 3) 3) kd w m)], SH L, M3) ∧ fl M M3 := by
      refine upto (M (M 1 3) 3) (fun kd hi w m M2 h0 f2 e2 => ?_) (fun kd hi ih w m M2 h0 f2 e2 => ?_)
      · have e13 : M2 1 = M 1 := fl_c f2 (by omega) (by omega) (by omega)
        have et : M2 (M 1 3) = M (M 1 3) := fl_c f2 (by omega) (by omega) (by omega)
        refine ⟨M2, bl_165_33 ?_, f2⟩
        rw [e13, et]
        exact ⟨(tx ht.1).1, fun _ => rI (wrI_nil hi), fun q => absurd hi q⟩
      · have e13 : M2 1 = M 1 := fl_c f2 (by omega) (by omega) (by omega)
        have et : M2 (M 1 3) = M (M 1 3) := fl_c f2 (by omega) (by omega) (by omega)
        have hk := hm.2 kd h0 hi
        obtain ⟨M3, r3, f3, e3, k3⟩ := s_162b (L := L) (kd := kd) (fl_rL h f2) (n := n) (by rw [f2 138 0 (by omega) (by omega) (by omega)]; exact c.2) (fun k a b => by rw [e2, k1' k a b, lvc (fun a ha => fl_c f2 (by omega) (by omega) (by omega))])
        have f23 : fl M M3 := fun a b x y z => (f3 a b x y z).trans (f2 a b x y z)
        have e33 : M3 1 = M 1 := fl_c f23 (by omega) (by omega) (by omega)
        have et5 : M3 (M 1 3 + 5) = M (M 1 3 + 5) := fl_c f23 (by omega) (by omega) (by omega)
        have fin : ∀ w2 m2 : Int, wrI (fun kd => lckS M n kd (M (M 1 3 + 5) kd)) (M (M 1 3) 3) kd w m = wrI (fun kd => lckS M n kd (M (M 1 3 + 5) kd)) (M (M 1 3) 3) (kd + 1) w2 m2 →
            ∃ M4, aX xc_165 (aSeek xc_165 109) [aR 1, aU, aI m2, aI w2, aI kd, aU, aU] [] (SH L) M3 ([aI (wrI (fun kd => lckS M n kd (M (M 1 3 + 5) kd)) (M (M 1 3) 3) kd w m)], SH L, M4) ∧ fl M M4 := by
          intro w2 m2 e
          obtain ⟨M4, r4, f4⟩ := ih w2 m2 M3 (by omega) f23 (e3.trans e2)
          refine ⟨M4, bl_165_109 ?_, f4⟩
          rw [aWi (by omega) (by omega), e]
          exact r4
        have lk : ∀ d, 0 ≤ lckV M n kd d (M (M 1 3 + 5) kd) ∧ lckV M n kd d (M (M 1 3 + 5) kd) ≤ 5940 := fun d => lckV_le h (by omega)
        have day : ∀ d, ∀ a, 0 ≤ d → d ≤ 100 → (0 ≤ a ∧ a ≤ 5940 * d) → lckS M n kd (M (M 1 3 + 5) kd) = a + sumI (fun d => lckV M n kd d (M (M 1 3 + 5) kd)) d 100 →
            ∃ M4, aX xc_165 (aSeek xc_165 60) [aR 1, aU, aI m, aI w, aI kd, aI a, aI d] [] (SH L) M3 ([aI (wrI (fun kd => lckS M n kd (M (M 1 3 + 5) kd)) (M (M 1 3) 3) kd w m)], SH L, M4) ∧ fl M M4 := by
          refine upto 100 (fun d hd a d0 d1 ha e => ?_) (fun d hd ihd a d0 d1 ha e => ?_)
          · rw [sumI_nil hd, Int.add_zero] at e
            by_cases c2 : a ≤ m
            · obtain ⟨M4, r4, f4⟩ := fin w m (wrI_no hi (by show ¬ m < lckS M n kd (M (M 1 3 + 5) kd); omega))
              exact ⟨M4, bl_165_60 ⟨fun _ => ⟨fun _ => r4, fun q => absurd c2 q⟩, fun q => absurd hd q⟩, f4⟩
            · obtain ⟨M4, r4, f4⟩ := fin kd a (by rw [wrI_yes hi (by show m < lckS M n kd (M (M 1 3 + 5) kd); omega)]; show wrI _ _ _ _ (lckS M n kd (M (M 1 3 + 5) kd)) = _; rw [e])
              exact ⟨M4, bl_165_60 ⟨fun _ => ⟨fun q => absurd q c2, fun _ => r4⟩, fun q => absurd hd q⟩, f4⟩
          · have lkd := lk d
            rw [sumI_step hd, ← Int.add_assoc] at e
            obtain ⟨M4, r4, f4⟩ := ihd (a + lckV M n kd d (M (M 1 3 + 5) kd)) (by omega) (by omega) (by omega) e
            refine ⟨M4, bl_165_60 ⟨fun q => absurd q (by omega), fun _ => ?_⟩, f4⟩
            rw [e33]
            simp only [tx ht.1]
            refine ⟨trivial, by omega, _, _, k3 d _ (by rw [et5]; omega) (by rw [et5]; omega), ?_⟩
            rw [if_pos ⟨d0, hd⟩, fl_lv f2, et5, aWi (by omega) (by omega), aWi (by omega) (by omega)]
            exact r4
        obtain ⟨M4, r4, f4⟩ := day 0 0 (by omega) (by omega) (by omega) (by unfold lckS; omega)
        refine ⟨M4, bl_165_33 ?_, f4⟩
        rw [e13, et]
        exact ⟨(tx ht.1).1, fun q => absurd hi (by omega), fun _ => ⟨M3, r3, r4⟩⟩
    obtain ⟨M3, r3, f3⟩ := key 0 (-2) 0 M1 (by omega) f1 rfl
    exact ⟨M3, en_165 ⟨fun q => absurd q (by omega), fun _ => ⟨fun _ => ⟨M1, r1, r3⟩, fun q => absurd c.2 q⟩⟩, f3⟩
  · rw [if_neg c]
    refine ⟨M, en_165 ⟨fun q => rfl, fun q => ⟨fun q2 => absurd ⟨by omega, q2⟩ c, fun q => rfl⟩⟩, fun _ _ _ _ _ => rfl⟩
theorem s_303 (h : rL M) (ht : rT M (M 1 3)) {n : Int} : aE 303 [aR 145, aI n] (SH L) M ([aI (if 0 ≤ n ∧ n ≤ M 138 0 then wrI (fun kd => lckS M n kd (M (M 1 3 + 5) kd)) (M (M 1 3) 3) 0 (-2) 0 else -1)], SH L, M) := by
  have hm := ht.1.2.2.2.2
  have h3 := ht.2.1.2.2.2
  have hl := h.2.1
  have s299 : ∀ {k : Int}, aE 299 [aR 145, aI k] (SH L) M ([aI (bi (decide (0 ≤ k ∧ k ≤ M 145 48)))], SH L, M) := by
    intro k
    apply en_299
    repeat' (first | apply And.intro | intro _)
    all_goals (refine rI ?_; first | exact bip (by omega) | exact bin (by omega))
  refine en_303 ⟨_, _, s299, fun q => ?_, fun q => rI ?_⟩
  all_goals (simp only [bi_0, decide_eq_false_iff_not, Classical.not_not, hl] at q)
  · rw [if_pos q]
    have key : ∀ kd, ∀ w m : Int, 0 ≤ kd → aX xc_303 (aSeek xc_303 18) [aR 145, aI n, aI w, aI m, aI kd, aU, aU] [] (SH L) M ([aI (wrI (fun kd => lckS M n kd (M (M 1 3 + 5) kd)) (M (M 1 3) 3) kd w m)], SH L, M) := by
      refine upto (M (M 1 3) 3) (fun kd hi w m h0 => ?_) (fun kd hi ih w m h0 => ?_)
      · exact bl_303_18 ⟨fun _ => rI (wrI_nil hi), fun q => absurd hi (by omega)⟩
      · have e5 := (ht.2.2.1 kd h0 hi).2.2.2
        have hk := hm.2 kd h0 hi
        have fin : ∀ w2 m2 : Int, wrI (fun kd => lckS M n kd (M (M 1 3 + 5) kd)) (M (M 1 3) 3) kd w m = wrI (fun kd => lckS M n kd (M (M 1 3 + 5) kd)) (M (M 1 3) 3) (kd + 1) w2 m2 →
            aX xc_303 (aSeek xc_303 77) [aR 145, aI n, aI w2, aI m2, aI kd, aU, aU] [] (SH L) M ([aI (wrI (fun kd => lckS M n kd (M (M 1 3 + 5) kd)) (M (M 1 3) 3) kd w m)], SH L, M) := by
          intro w2 m2 e
          refine bl_303_77 ?_
          rw [aWi (by omega) (by omega), e]
          exact ih w2 m2 (by omega)
        have lk : ∀ d, 0 ≤ lckV M n kd d (M (M 1 3 + 5) kd) ∧ lckV M n kd d (M (M 1 3 + 5) kd) ≤ 5940 := fun d => lckV_le h (by omega)
        have day : ∀ d, ∀ a, 0 ≤ d → d ≤ 100 → (0 ≤ a ∧ a ≤ 5940 * d) → lckS M n kd (M (M 1 3 + 5) kd) = a + sumI (fun d => lckV M n kd d (M (M 1 3 + 5) kd)) d 100 →
            aX xc_303 (aSeek xc_303 35) [aR 145, aI n, aI w, aI m, aI kd, aI a, aI d] [] (SH L) M ([aI (wrI (fun kd => lckS M n kd (M (M 1 3 + 5) kd)) (M (M 1 3) 3) kd w m)], SH L, M) := by
          refine upto 100 (fun d hd a d0 d1 ha e => ?_) (fun d hd ihd a d0 d1 ha e => ?_)
          · rw [sumI_nil hd, Int.add_zero] at e
            refine bl_303_35 ⟨fun _ => ⟨fun c2 => fin kd a ?_, fun c2 => fin w m ?_⟩, fun q => absurd hd q⟩
            · rw [wrI_yes hi (by show m < lckS M n kd (M (M 1 3 + 5) kd); omega)]; show wrI _ _ _ _ (lckS M n kd (M (M 1 3 + 5) kd)) = _; rw [e]
            · exact wrI_no hi (by show ¬ m < lckS M n kd (M (M 1 3 + 5) kd); omega)
          · have lkd := lk d
            rw [sumI_step hd, ← Int.add_assoc] at e
            refine bl_303_35 ⟨fun q => absurd q (by omega), fun _ => ⟨_, _, s_301 h (by omega) (by omega) (by omega) (by omega), ?_⟩⟩
            rw [e5, aWi (by omega) (by omega), aWi (by omega) (by omega)]
            exact ihd (a + lckV M n kd d (M (M 1 3 + 5) kd)) (by omega) (by omega) (by omega) e
        exact bl_303_18 ⟨fun q => absurd hi (by omega), fun _ => day 0 0 (by omega) (by omega) (by omega) (by unfold lckS; omega)⟩
    exact key 0 (-2) 0 (by omega)
  · rw [if_neg q]
end LOG2
