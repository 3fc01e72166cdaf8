/-! sums; rows that are filled -/
section SUM
variable {L : Nat} {M : aM}
theorem sumI_snoc {f : Int → Int} {n : Int} : ∀ i, i ≤ n → sumI f i (n + 1) = sumI f i n + f n := by
  refine upto n (fun i hi h => ?_) (fun i hi ih h => ?_)
  · have e : i = n := by omega
    subst e
    rw [sumI_step (by omega), sumI_nil (by omega), sumI_nil (by omega)]
    omega
  · rw [sumI_step (by omega), sumI_step hi, ih (by omega)]
    omega
theorem sumI_add {f g : Int → Int} {n : Int} : ∀ i, sumI (fun j => f j + g j) i n = sumI f i n + sumI g i n := by
  refine upto n (fun i hi => ?_) (fun i hi ih => ?_)
  · rw [sumI_nil hi, sumI_nil hi, sumI_nil hi]; rfl
  · rw [sumI_step hi, sumI_step hi, sumI_step hi, ih]
    show f i + g i + _ = _
    omega
theorem sumI_0 {f : Int → Int} {n : Int} : ∀ i, (∀ j, i ≤ j → j < n → f j = 0) → sumI f i n = 0 := by
  refine upto n (fun i hi _ => sumI_nil hi) (fun i hi ih h => ?_)
  rw [sumI_step hi, h i (by omega) hi, ih (fun j h1 h2 => h j (by omega) h2)]
  rfl
theorem sumI_cut {f : Int → Int} {m n : Int} (h2 : m ≤ n) : ∀ i, i ≤ m → sumI f i n = sumI f i m + sumI f m n := by
  refine upto m (fun i hi h => ?_) (fun i hi ih h => ?_)
  · have e : i = m := by omega
    subst e
    rw [sumI_nil (i := i) (n := i) (by omega)]
    omega
  · rw [sumI_step (by omega), sumI_step hi, ih (by omega)]
    omega
def aFill (M : aM) (r n v : Int) : aM := fun a b => if a = r ∧ 0 ≤ b ∧ b < n then v else M a b
theorem aFill_in {r n v b : Int} (h : 0 ≤ b) (h2 : b < n) : aFill M r n v r b = v := if_pos ⟨rfl, h, h2⟩
theorem aFill_c {r n v a : Int} (h : a ≠ r) : aFill M r n v a = M a := funext fun _ => if_neg (fun q => h q.1)
theorem s_78 {r v n : Int} (hk : aK (SH L) r = 1) (hl : aL (SH L) r = n) (hn : n < 10000) : aE 78 [aR r, aI v] (SH L) M ([], SH L, aFill M r n v) := by
  have hl2 : aLn (SH L) 1 r = n := by unfold aLn; rw [if_pos hk, hl]
  have hn0 : 0 ≤ n := by rw [← hl]; unfold aL; omega
  have key : ∀ i, ∀ M1 : aM, 0 ≤ i → i ≤ n → (∀ a b, M1 a b = if a = r ∧ 0 ≤ b ∧ b < i then v else M a b) → aX xc_78 (aSeek xc_78 5) [aR r, aI v, aI i, aI n] [] (SH L) M1 ([], SH L, aFill M r n v) := by
    refine upto n (fun i hi M1 h0 h1 hM => ?_) (fun i hi ih M1 h0 h1 hM => ?_)
    · have e : i = n := by omega
      subst e
      refine bl_78_5 ⟨fun _ => rM ?_, fun q => absurd (Int.le_refl _) q⟩
      funext a b
      exact (hM a b).symm
    · refine bl_78_5 ⟨fun q => absurd q (by omega), fun _ => ⟨by omega, ?_⟩⟩
      rw [aWi (by omega) (by omega)]
      refine ih _ (by omega) (by omega) (fun a b => ?_)
      rw [aSet_a, hM a b]
      by_cases c : a = r ∧ b = i
      · rw [if_pos c, if_pos (by omega)]
      · rw [if_neg c]
        by_cases c2 : a = r ∧ 0 ≤ b ∧ b < i
        · rw [if_pos c2, if_pos (by omega)]
        · rw [if_neg c2, if_neg (by omega)]
  refine en_78 ⟨hk, ?_⟩
  rw [hl]
  refine key 0 M (by omega) hn0 (fun a b => ?_)
  rw [if_neg (by omega)]
end SUM
/-! logs -/
section LOGS
variable {L : Nat} {M : aM}
def rL (M : aM) : Prop := (0 ≤ M 138 0 ∧ M 138 0 ≤ 60) ∧ M 145 48 = M 138 0 ∧ ∀ k, 0 ≤ k → k < M 138 0 → (0 ≤ M 139 k ∧ M 139 k ≤ 2) ∧ M 186 k = M 139 k ∧ (0 ≤ M 142 k ∧ M 142 k ≤ 99) ∧
  (¬ M 139 k = 2 → (0 ≤ M 140 k ∧ M 140 k < 100) ∧ M 187 k = M 140 k ∧ M 188 k = M 141 k ∧ M 189 k = M 142 k) ∧ (M 139 k = 2 → M 187 k = M 141 k ∧ 0 ≤ M 141 k ∧ M 141 k < k)
/-- a log that is one for those who know n -/
def lv (M : aM) (n k : Int) : Bool := decide (k < n ∧ ¬ M 139 k = 2) && !anyI (fun v => decide (M 139 v = 2 ∧ M 141 v = k)) 0 n
def ndF (M : aM) (n kd d k : Int) : Int := if lv M n k = true ∧ M 141 k = kd ∧ M 139 k = 0 ∧ M 140 k = d then M 142 k else 0
def btF (M : aM) (n kd d k : Int) : Int := if lv M n k = true ∧ M 141 k = kd ∧ ¬ M 139 k = 0 ∧ M 140 k ≤ d then M 142 k else 0
def btE (M : aM) (n kd d k : Int) : Int := if lv M n k = true ∧ M 141 k = kd ∧ ¬ M 139 k = 0 ∧ M 140 k = d then M 142 k else 0
theorem anyI_snoc {p : Int → Bool} {n : Int} (h : 0 ≤ n) : anyI p 0 (n + 1) = (anyI p 0 n || p n) := by
  rw [Bool.eq_iff_iff, Bool.or_eq_true, anyI_iff, anyI_iff]
  constructor
  · rintro ⟨j, a, b, c⟩
    by_cases e : j = n
    · exact Or.inr (e ▸ c)
    · exact Or.inl ⟨j, a, by omega, c⟩
  · rintro (⟨j, a, b, c⟩ | c)
    · exact ⟨j, a, by omega, c⟩
    · exact ⟨n, h, by omega, c⟩
theorem s_161 (h : rL M) {n : Int} (h1 : 0 ≤ n) (h2 : n ≤ M 138 0) : ∃ M1, aE 161 [aR 138, aI n] (SH L) M ([], SH L, M1) ∧ (∀ a b, ¬ (a = 138 ∧ b = 5) → M1 a b = M a b) ∧ ∀ k, 0 ≤ k → k < 64 → lb (M1 138 5) k = lv M n k := by
  have hs := h.1
  have key : ∀ i, ∀ v : Int, ∀ M1 : aM, 0 ≤ i → i ≤ n → (∀ a b, ¬ (a = 138 ∧ b = 5) → M1 a b = M a b) → (∀ k, 0 ≤ k → k < 64 → lb (M1 138 5) k = decide (k < i ∧ ¬ M 139 k = 2)) → (∀ k, 0 ≤ k → k < 64 → lb v k = anyI (fun u => decide (M 139 u = 2 ∧ M 141 u = k)) 0 i) →
      ∃ M2, aX xc_161 (aSeek xc_161 10) [aR 138, aI n, aJ v, aU, aI i] [] (SH L) M1 ([], SH L, M2) ∧ (∀ a b, ¬ (a = 138 ∧ b = 5) → M2 a b = M a b) ∧ ∀ k, 0 ≤ k → k < 64 → lb (M2 138 5) k = lv M n k := by
    refine upto n (fun i hi v M1 h0 h1 hM hb hv => ?_) (fun i hi ih v M1 h0 h1 hM hb hv => ?_)
    · have e : i = n := by omega
      subst e
      refine ⟨_, bl_161_10 ⟨fun _ => bl_161_70 rfl, fun q => absurd (Int.le_refl _) q⟩, fun a b hab => ?_, fun k k1 k2 => ?_⟩
      · rw [aSet_a, if_neg hab, hM a b hab]
      · rw [aSet_e, lb_and, lb_not k2, hb k k1 k2, hv k k1 k2]
        rfl
    · have e0 : M1 138 0 = M 138 0 := hM _ _ (by omega)
      have e1 : M1 139 i = M 139 i := hM _ _ (by omega)
      have e2 : M1 141 i = M 141 i := hM _ _ (by omega)
      have hi2 := h.2.2 i h0 (by omega)
      by_cases c : M 139 i = 2
      · obtain ⟨M2, r, x, y⟩ := ih (aLor v (aLsl 1 (M 141 i))) M1 (by omega) (by omega) hM (fun k k1 k2 => by
            rw [hb k k1 k2]
            apply decide_eq_decide.mpr
            constructor
            · rintro ⟨a, b⟩; exact ⟨by omega, b⟩
            · rintro ⟨a, b⟩
              refine ⟨?_, b⟩
              by_cases e : k = i
              · rw [e] at b; exact absurd c b
              · omega) (fun k k1 k2 => by
            have h3 := hi2.2.2.2.2 c
            rw [lb_or, hv k k1 k2, anyI_snoc h0, lb_one h3.2.1 (by omega) k1 k2]
            congr 1
            apply decide_eq_decide.mpr
            constructor
            · intro e; exact ⟨c, e.symm⟩
            · intro e; exact e.2.symm)
        refine ⟨M2, bl_161_10 ⟨fun q => absurd q (by omega), fun _ => ⟨fun q => absurd q (by omega), fun _ => ?_⟩⟩, x, y⟩
        simp only [ln0, ln1, ln2, ln3, ln4, e1, e2]
        refine ⟨by omega, fun q => absurd c q, fun _ => ⟨by omega, bl_161_64 ?_⟩⟩
        rw [aWi (by omega) (by omega)]
        exact r
      · obtain ⟨M2, r, x, y⟩ := ih v (aSet M1 138 5 (aLor (M1 138 5) (aLsl 1 i))) (by omega) (by omega) (fun a b hab => by rw [aSet_a, if_neg hab, hM a b hab]) (fun k k1 k2 => by
            rw [aSet_e, lb_or, hb k k1 k2, lb_one h0 (by omega) k1 k2, ← Bool.decide_or]
            apply decide_eq_decide.mpr
            constructor
            · rintro (⟨a, b⟩ | a)
              · exact ⟨by omega, b⟩
              · rw [a]; exact ⟨by omega, c⟩
            · rintro ⟨a, b⟩
              by_cases e : k = i
              · exact Or.inr e
              · exact Or.inl ⟨by omega, b⟩) (fun k k1 k2 => by
            rw [hv k k1 k2, anyI_snoc h0, decide_eq_false (p := M 139 i = 2 ∧ M 141 i = k) (fun q => c q.1), Bool.or_false])
        refine ⟨M2, bl_161_10 ⟨fun q => absurd q (by omega), fun _ => ⟨fun q => absurd q (by omega), fun _ => ?_⟩⟩, x, y⟩
        simp only [ln0, ln1, ln2, ln3, ln4, e1, e2]
        refine ⟨by omega, fun _ => bl_161_64 ?_, fun q => absurd c q⟩
        rw [aWi (by omega) (by omega)]
        exact r
  obtain ⟨M2, r, x, y⟩ := key 0 0 (aSet M 138 5 0) (by omega) h1 (fun a b hab => by rw [aSet_a, if_neg hab]) (fun k k1 k2 => by rw [aSet_e, lb_0]; exact (decide_eq_false (by omega)).symm) (fun k k1 k2 => by rw [lb_0, anyI_nil (by omega)])
  exact ⟨M2, en_161 r, x, y⟩
theorem rL_of {M1 : aM} (h : rL M) (hs : M1 138 0 = M 138 0) (ht : M1 145 48 = M 145 48) (h1 : ∀ a, (139 ≤ a ∧ a ≤ 142) ∨ (186 ≤ a ∧ a ≤ 189) → M1 a = M a) : rL M1 := by
  unfold rL
  rw [hs, ht, h1 139 (by omega), h1 140 (by omega), h1 141 (by omega), h1 142 (by omega), h1 186 (by omega), h1 187 (by omega), h1 188 (by omega), h1 189 (by omega)]
  exact h
theorem btE_le (h : rL M) {n kd d k : Int} (h1 : 0 ≤ k) (h2 : k < M 138 0) : (0 ≤ btE M n kd d k ∧ btE M n kd d k ≤ 99) ∧ (0 ≤ btF M n kd d k ∧ btF M n kd d k ≤ 99) ∧ 0 ≤ ndF M n kd d k ∧ ndF M n kd d k ≤ 99 := by
  have a := (h.2.2 k h1 h2).2.2.1
  unfold btE btF ndF
  repeat' split
  all_goals omega
theorem btF_s {n kd d k : Int} : btF M n kd d k = btE M n kd d k + btF M n kd (d - 1) k := by
  unfold btF btE
  by_cases c : lv M n k = true ∧ M 141 k = kd ∧ ¬ M 139 k = 0
  · by_cases c1 : M 140 k ≤ d - 1
    · rw [if_pos ⟨c.1, c.2.1, c.2.2, by omega⟩, if_neg (fun q => by have := q.2.2.2; omega), if_pos ⟨c.1, c.2.1, c.2.2, c1⟩]; omega
    · by_cases c2 : M 140 k = d
      · rw [if_pos ⟨c.1, c.2.1, c.2.2, by omega⟩, if_pos ⟨c.1, c.2.1, c.2.2, c2⟩, if_neg (fun q => c1 q.2.2.2)]; omega
      · rw [if_neg (fun q => by have := q.2.2.2; omega), if_neg (fun q => c2 q.2.2.2), if_neg (fun q => c1 q.2.2.2)]; omega
  · rw [if_neg (fun q => c ⟨q.1, q.2.1, q.2.2.1⟩), if_neg (fun q => c ⟨q.1, q.2.1, q.2.2.1⟩), if_neg (fun q => c ⟨q.1, q.2.1, q.2.2.1⟩)]; omega
theorem btF_0 (h : rL M) {n kd k : Int} (h1 : 0 ≤ k) (h2 : k < M 138 0) : btE M n kd 0 k = btF M n kd 0 k := by
  unfold btF btE
  have := h.2.2 k h1 h2
  by_cases c : lv M n k = true ∧ M 141 k = kd ∧ ¬ M 139 k = 0
  · have c2 : ¬ M 139 k = 2 := by
      have := c.1
      unfold lv at this
      rw [Bool.and_eq_true] at this
      exact (of_decide_eq_true this.1).2
    have d := (this.2.2.2.1 c2).1
    by_cases c1 : M 140 k = 0
    · rw [if_pos ⟨c.1, c.2.1, c.2.2, c1⟩, if_pos ⟨c.1, c.2.1, c.2.2, by omega⟩]
    · rw [if_neg (fun q => c1 q.2.2.2), if_neg (fun q => by have := q.2.2.2; omega)]
  · rw [if_neg (fun q => c ⟨q.1, q.2.1, q.2.2.1⟩), if_neg (fun q => c ⟨q.1, q.2.1, q.2.2.1⟩)]
theorem sum_le60 {f : Int → Int} {m : Int} (hm : 0 ≤ m ∧ m ≤ 60) (h : ∀ j, 0 ≤ j → j < m → 0 ≤ f j ∧ f j ≤ 99) : 0 ≤ sumI f 0 m ∧ sumI f 0 m ≤ 5940 := by
  have a := sumI_le (f := f) (n := m) (c := 99) 0 (fun j x y => h j (by omega) y)
  have b := a.2 hm.1
  omega
theorem s_162 (h : rL M) {n kd : Int} (h2 : n ≤ M 138 0) (hk : ∀ k, 0 ≤ k → k < 64 → lb (M 138 5) k = lv M n k) : ∃ M1, aE 162 [aR 138, aI kd] (SH L) M ([], SH L, M1) ∧ fr 143 144 M M1 ∧ ∀ d, 0 ≤ d → d < 100 → M1 143 d = sumI (ndF M n kd d) 0 (M 138 0) ∧ M1 144 d = sumI (btF M n kd d) 0 (M 138 0) := by
  have hs := h.1
  have k2 : ∀ i, ∀ M1 : aM, 1 ≤ i → i ≤ 100 → fr 143 144 M M1 → (∀ d, 0 ≤ d → d < 100 → M1 143 d = sumI (ndF M n kd d) 0 (M 138 0)) → (∀ d, 0 ≤ d → d < i → M1 144 d = sumI (btF M n kd d) 0 (M 138 0)) → (∀ d, i ≤ d → d < 100 → M1 144 d = sumI (btE M n kd d) 0 (M 138 0)) →
      ∃ M2, aX xc_162 (aSeek xc_162 108) [aR 138, aU, aI i] [] (SH L) M1 ([], SH L, M2) ∧ fr 143 144 M M2 ∧ ∀ d, 0 ≤ d → d < 100 → M2 143 d = sumI (ndF M n kd d) 0 (M 138 0) ∧ M2 144 d = sumI (btF M n kd d) 0 (M 138 0) := by
    refine upto 100 (fun i hi M1 h0 h1 hf hn ha hb => ?_) (fun i hi ih M1 h0 h1 hf hn ha hb => ?_)
    · exact ⟨M1, bl_162_108 ⟨fun _ => rfl, fun q => absurd hi q⟩, hf, fun d d1 d2 => ⟨hn d d1 d2, ha d d1 (by omega)⟩⟩
    · have e : sumI (btF M n kd i) 0 (M 138 0) = sumI (btE M n kd i) 0 (M 138 0) + sumI (btF M n kd (i - 1)) 0 (M 138 0) := by
        rw [← sumI_add]
        exact sumI_congr 0 (fun j j1 j2 => btF_s)
      have b1 := sum_le60 (f := btE M n kd i) hs (fun j x y => (btE_le h (n := n) (kd := kd) (d := i) x y).1)
      have b2 := sum_le60 (f := btF M n kd (i - 1)) hs (fun j x y => (btE_le h (n := n) (kd := kd) (d := i - 1) x y).2.1)
      obtain ⟨M2, r, x, y⟩ := ih (aSet M1 144 i (sumI (btF M n kd i) 0 (M 138 0))) (by omega) (by omega) (fr_set hf (by omega)) (fun d d1 d2 => by rw [aSet_r (by omega)]; exact hn d d1 d2) (fun d d1 d2 => by
          by_cases c : d = i
          · rw [c, aSet_e]
          · rw [aSet_i c]; exact ha d d1 (by omega)) (fun d d1 d2 => by rw [aSet_i (by omega)]; exact hb d (by omega) d2)
      refine ⟨M2, bl_162_108 ⟨fun q => absurd q (by omega), fun _ => ?_⟩, x, y⟩
      simp only [ln0, ln1, ln2, ln3, ln4]
      rw [aWi (z := i - 1) (by omega) (by omega), aWi (z := i + 1) (by omega) (by omega), hb i (by omega) (by omega), ha (i - 1) (by omega) (by omega), aWi (by omega) (by omega), ← e]
      exact ⟨by omega, by omega, by omega, r⟩
  have k1 : ∀ i, ∀ M1 : aM, 0 ≤ i → i ≤ M 138 0 → fr 143 144 M M1 → (∀ d, 0 ≤ d → d < 100 → M1 143 d = sumI (ndF M n kd d) 0 i ∧ M1 144 d = sumI (btE M n kd d) 0 i) →
      ∃ M2, aX xc_162 (aSeek xc_162 18) [aR 138, aI kd, aI i] [] (SH L) M1 ([], SH L, M2) ∧ fr 143 144 M M2 ∧ ∀ d, 0 ≤ d → d < 100 → M2 143 d = sumI (ndF M n kd d) 0 (M 138 0) ∧ M2 144 d = sumI (btF M n kd d) 0 (M 138 0) := by
    refine upto (M 138 0) (fun i hi M1 h0 h1 hf hn => ?_) (fun i hi ih M1 h0 h1 hf hn => ?_)
    · have e : i = M 138 0 := by omega
      have e0 : M1 138 0 = M 138 0 := by rw [hf 138 (by omega)]
      obtain ⟨M2, r, x, y⟩ := k2 1 M1 (by omega) (by omega) hf (fun d d1 d2 => by rw [← e]; exact (hn d d1 d2).1) (fun d d1 d2 => by
          have d0 : d = 0 := by omega
          rw [(hn d d1 (by omega)).2, e, d0]
          exact sumI_congr 0 (fun j j1 j2 => btF_0 h j1 j2)) (fun d d1 d2 => by rw [← e]; exact (hn d (by omega) d2).2)
      exact ⟨M2, bl_162_18 ⟨fun _ => r, fun q => absurd (by omega) q⟩, x, y⟩
    · have e0 : M1 138 = M 138 := hf 138 (by omega)
      have e00 : M1 138 0 = M 138 0 := by rw [e0]
      have e1 : M1 139 = M 139 := hf 139 (by omega)
      have e2 : M1 140 = M 140 := hf 140 (by omega)
      have e3 : M1 141 = M 141 := hf 141 (by omega)
      have e4 : M1 142 = M 142 := hf 142 (by omega)
      have hi2 := h.2.2 i h0 hi
      have kz : ∀ M3 : aM, fr 143 144 M M3 → (∀ d, 0 ≤ d → d < 100 → M3 143 d = sumI (ndF M n kd d) 0 (i + 1) ∧ M3 144 d = sumI (btE M n kd d) 0 (i + 1)) → ∃ M2, aX xc_162 (aSeek xc_162 100) [aR 138, aI kd, aI i] [] (SH L) M3 ([], SH L, M2) ∧ fr 143 144 M M2 ∧ ∀ d, 0 ≤ d → d < 100 → M2 143 d = sumI (ndF M n kd d) 0 (M 138 0) ∧ M2 144 d = sumI (btF M n kd d) 0 (M 138 0) := by
        intro M3 a b
        obtain ⟨M2, r, x, y⟩ := ih M3 (by omega) (by omega) a b
        refine ⟨M2, bl_162_100 ?_, x, y⟩
        rw [aWi (by omega) (by omega)]
        exact r
      have sn : ∀ d, sumI (ndF M n kd d) 0 (i + 1) = sumI (ndF M n kd d) 0 i + ndF M n kd d i := fun d => sumI_snoc 0 h0
      have se : ∀ d, sumI (btE M n kd d) 0 (i + 1) = sumI (btE M n kd d) 0 i + btE M n kd d i := fun d => sumI_snoc 0 h0
      by_cases c : lv M n i = true ∧ M 141 i = kd
      · have c3 : ¬ M 139 i = 2 := by
          have := c.1
          unfold lv at this
          rw [Bool.and_eq_true] at this
          exact (of_decide_eq_true this.1).2
        have hd := (hi2.2.2.2.1 c3).1
        have b1 := sum_le60 (f := btE M n kd (M 140 i)) (m := i) (by omega) (fun j x y => (btE_le h (n := n) (kd := kd) (d := M 140 i) x (by omega)).1)
        have b2 := sum_le60 (f := ndF M n kd (M 140 i)) (m := i) (by omega) (fun j x y => (btE_le h (n := n) (kd := kd) (d := M 140 i) x (by omega)).2.2)
        have hx := hn (M 140 i) hd.1 hd.2
        by_cases c4 : M 139 i = 0
        · obtain ⟨M2, r, x, y⟩ := kz (aSet M1 143 (M 140 i) (sumI (ndF M n kd (M 140 i)) 0 i + M 142 i)) (fr_set hf (by omega)) (fun d d1 d2 => by
            rw [sn, se]
            refine ⟨?_, ?_⟩
            · by_cases c5 : d = M 140 i
              · have en : ndF M n kd (M 140 i) i = M 142 i := if_pos ⟨c.1, c.2, c4, rfl⟩
                rw [c5, aSet_e, en]
              · have en : ndF M n kd d i = 0 := if_neg (fun q => c5 q.2.2.2.symm)
                rw [aSet_i c5, (hn d d1 d2).1, en]; omega
            · have en : btE M n kd d i = 0 := if_neg (fun q => q.2.2.1 c4)
              rw [aSet_r (show (144 : Int) ≠ 143 by omega), (hn d d1 d2).2, en]; omega)
          refine ⟨M2, bl_162_18 ⟨fun q => absurd q (by omega), fun _ => ⟨_, _, s_84 h0 (by omega), fun q => ?_, fun _ => ?_⟩⟩, x, y⟩
          · rw [e0, hk i h0 (by omega), c.1] at q; exact absurd rfl q
          · simp only [ln0, ln1, ln2, ln3, ln4, e1, e2, e3, e4]
            refine ⟨by omega, fun q => absurd c.2 q, fun _ => ⟨by omega, fun q => absurd c4 q, fun _ => ⟨by omega, by omega, by omega, by omega, ?_⟩⟩⟩
            rw [hx.1, aWi (by omega) (by omega)]
            exact r
        · obtain ⟨M2, r, x, y⟩ := kz (aSet M1 144 (M 140 i) (sumI (btE M n kd (M 140 i)) 0 i + M 142 i)) (fr_set hf (by omega)) (fun d d1 d2 => by
            rw [sn, se]
            refine ⟨?_, ?_⟩
            · have en : ndF M n kd d i = 0 := if_neg (fun q => c4 q.2.2.1)
              rw [aSet_r (show (143 : Int) ≠ 144 by omega), (hn d d1 d2).1, en]; omega
            · by_cases c5 : d = M 140 i
              · have en : btE M n kd (M 140 i) i = M 142 i := if_pos ⟨c.1, c.2, c4, rfl⟩
                rw [c5, aSet_e, en]
              · have en : btE M n kd d i = 0 := if_neg (fun q => c5 q.2.2.2.symm)
                rw [aSet_i c5, (hn d d1 d2).2, en]; omega)
          refine ⟨M2, bl_162_18 ⟨fun q => absurd q (by omega), fun _ => ⟨_, _, s_84 h0 (by omega), fun q => ?_, fun _ => ?_⟩⟩, x, y⟩
          · rw [e0, hk i h0 (by omega), c.1] at q; exact absurd rfl q
          · simp only [ln0, ln1, ln2, ln3, ln4, e1, e2, e3, e4]
            refine ⟨by omega, fun q => absurd c.2 q, fun _ => ⟨by omega, fun _ => ⟨by omega, by omega, by omega, by omega, ?_⟩, fun q => absurd (Classical.not_not.mp q) c4⟩⟩
            rw [hx.2, aWi (by omega) (by omega)]
            exact r
      · obtain ⟨M2, r, x, y⟩ := kz M1 hf (fun d d1 d2 => by
          rw [sn, se, (hn d d1 d2).1, (hn d d1 d2).2]
          have en : ndF M n kd d i = 0 := if_neg (fun q => c ⟨q.1, q.2.1⟩)
          have eb : btE M n kd d i = 0 := if_neg (fun q => c ⟨q.1, q.2.1⟩)
          rw [en, eb]
          omega)
        refine ⟨M2, bl_162_18 ⟨fun q => absurd q (by omega), fun _ => ⟨_, _, s_84 h0 (by omega), fun _ => r, fun q => ?_⟩⟩, x, y⟩
        simp only [ln0, ln1, ln2, ln3, ln4, e1, e2, e3, e4]
        rw [e0, hk i h0 (by omega), Classical.not_not, bi_1] at q
        exact ⟨by omega, fun _ => r, fun q2 => absurd ⟨q, Classical.not_not.mp q2⟩ c⟩
  obtain ⟨M2, r, x, y⟩ := k1 0 (aFill (aFill M 143 100 0) 144 100 0) (by omega) hs.1 (fun a ha => by rw [aFill_c (by omega), aFill_c (by omega)]) (fun d d1 d2 => by
    rw [aFill_c (a := 143) (by omega), aFill_in d1 d2, aFill_in d1 d2, sumI_nil (by omega), sumI_nil (by omega)]
    exact ⟨rfl, rfl⟩)
  exact ⟨M2, en_162 ⟨_, s_78 (n := 100) rfl rfl (by omega), _, s_78 (n := 100) rfl rfl (by omega), r⟩, x, y⟩
def lckV (M : aM) (n kd d has : Int) : Int := max 0 (sumI (ndF M n kd d) 0 (M 138 0) - has - sumI (btF M n kd d) 0 (M 138 0))
theorem lckV_le (h : rL M) {n kd d has : Int} (hh : 0 ≤ has) : 0 ≤ lckV M n kd d has ∧ lckV M n kd d has ≤ 5940 := by
  have b1 := sum_le60 h.1 (fun j x y => (btE_le h (n := n) (kd := kd) (d := d) x y).2.1)
  have b2 := sum_le60 h.1 (fun j x y => (btE_le h (n := n) (kd := kd) (d := d) x y).2.2)
  unfold lckV
  omega
theorem lckV_cg {M1 : aM} {n kd d has : Int} (hs : M1 138 0 = M 138 0) (h1 : ∀ a, 139 ≤ a ∧ a ≤ 142 → M1 a = M a) : lckV M1 n kd d has = lckV M n kd d has := by
  unfold lckV ndF btF lv
  rw [hs, h1 139 (by omega), h1 140 (by omega), h1 141 (by omega), h1 142 (by omega)]
theorem s_300 (h : rL M) {k n : Int} (h1 : 0 ≤ k) (h2 : k < M 138 0) (h3 : n ≤ M 138 0) : aE 300 [aR 145, aI k, aI n] (SH L) M ([aI (bi (!anyI (fun v => decide (M 139 v = 2 ∧ M 141 v = k)) (k + 1) n))], SH L, M) := by
  have hs := h.1
  have key : ∀ i, 0 ≤ i → aX xc_300 (aSeek xc_300 4) [aR 145, aI k, aI n, aI i] [] (SH L) M ([aI (bi (!anyI (fun v => decide (M 139 v = 2 ∧ M 141 v = k)) i n))], SH L, M) := by
    refine upto n (fun i hi h0 => ?_) (fun i hi ih h0 => ?_)
    · exact bl_300_4 ⟨fun _ => rI (by rw [anyI_nil hi]; rfl), fun q => absurd hi q⟩
    · have hi2 := h.2.2 i h0 (by omega)
      have nx := ih (by omega)
      apply bl_300_4
      simp only [ln0, ln1, ln2, ln3, ln4]
      refine ⟨fun q => absurd q (by omega), fun _ => ⟨by omega, fun q => bl_300_31 ?_, fun q => ⟨by omega, fun q2 => bl_300_31 ?_, fun q2 => rI ?_⟩⟩⟩
      · rw [anyI_no hi (by simp only [decide_eq_true_eq]; omega), aWi (z := i + 1) (by omega) (by omega)]
        exact nx
      · have := hi2.2.2.2.2 (by omega)
        rw [anyI_no hi (by simp only [decide_eq_true_eq]; omega), aWi (z := i + 1) (by omega) (by omega)]
        exact nx
      · have := hi2.2.2.2.2 (by omega)
        rw [anyI_yes hi (by simp only [decide_eq_true_eq]; omega)]
        rfl
  refine en_300 ?_
  rw [aWi (by omega) (by omega)]
  exact key (k + 1) (by omega)
theorem lv_eq (h : rL M) {k n : Int} (h1 : 0 ≤ k) (h2 : k < n) (h3 : n ≤ M 138 0) : lv M n k = (decide (¬ M 139 k = 2) && !anyI (fun v => decide (M 139 v = 2 ∧ M 141 v = k)) (k + 1) n) := by
  unfold lv
  have e : anyI (fun v => decide (M 139 v = 2 ∧ M 141 v = k)) 0 n = anyI (fun v => decide (M 139 v = 2 ∧ M 141 v = k)) (k + 1) n := by
    rw [Bool.eq_iff_iff, anyI_iff, anyI_iff]
    constructor
    · rintro ⟨j, a, b, c⟩
      have c2 := of_decide_eq_true c
      have := (h.2.2 j a (by omega)).2.2.2.2 c2.1
      exact ⟨j, by omega, b, c⟩
    · rintro ⟨j, a, b, c⟩
      exact ⟨j, by omega, b, c⟩
  rw [e]
  congr 1
  apply decide_eq_decide.mpr
  exact ⟨fun q => q.2, fun q => ⟨h2, q⟩⟩
theorem s_301 (h : rL M) {d kd n : Int} (hk : 0 ≤ kd ∧ kd < 14) (hm : 0 ≤ M 157 kd ∧ M 157 kd ≤ 99) (h0 : 0 ≤ n) (h3 : n ≤ M 138 0) : aE 301 [aR 145, aI d, aI kd, aI n] (SH L) M ([aI (lckV M n kd d (M 157 kd))], SH L, M) := by
  have hs := h.1
  have hz : ∀ f : Int → Int, (∀ k, n ≤ k → k < M 138 0 → f k = 0) → sumI f 0 (M 138 0) = sumI f 0 n := by
    intro f hf
    rw [sumI_cut h3 0 h0, sumI_0 n hf]
    omega
  have lvf : ∀ k, n ≤ k → lv M n k = false := by
    intro k hk
    unfold lv
    rw [decide_eq_false (by omega)]
    rfl
  have ez : lckV M n kd d (M 157 kd) = max 0 (-M 157 kd + sumI (fun k => ndF M n kd d k - btF M n kd d k) 0 n) := by
    unfold lckV
    rw [hz (ndF M n kd d) (fun k a b => by unfold ndF; rw [lvf k a]; rfl), hz (btF M n kd d) (fun k a b => by unfold btF; rw [lvf k a]; rfl)]
    have e := sumI_add (f := fun k => ndF M n kd d k - btF M n kd d k) (g := btF M n kd d) (n := n) 0
    rw [sumI_congr (f := fun j => ndF M n kd d j - btF M n kd d j + btF M n kd d j) (g := ndF M n kd d) 0 (fun j _ _ => by omega)] at e
    omega
  have key : ∀ i, ∀ a, 0 ≤ i → i ≤ n → (-(99 * i) - 99 ≤ a ∧ a ≤ 99 * i) → aX xc_301 (aSeek xc_301 12) [aR 145, aI d, aI kd, aI n, aI a, aI i] [] (SH L) M ([aI (max 0 (a + sumI (fun k => ndF M n kd d k - btF M n kd d k) i n))], SH L, M) := by
    refine upto n (fun i hi a i0 i1 ha => ?_) (fun i hi ih a i0 i1 ha => ?_)
    · refine bl_301_12 ⟨fun _ => ⟨fun q => rI ?_, fun q => rI ?_⟩, fun q => absurd hi q⟩
      · rw [sumI_nil hi]; omega
      · rw [sumI_nil hi]; omega
    · have hi2 := h.2.2 i i0 (by omega)
      have le := lv_eq h i0 hi h3
      have nx : ∀ b, (-(99 * i) - 198 ≤ b ∧ b ≤ 99 * i + 99) → b = a + (ndF M n kd d i - btF M n kd d i) → aX xc_301 (aSeek xc_301 120) [aR 145, aI d, aI kd, aI n, aI b, aI i] [] (SH L) M ([aI (max 0 (a + sumI (fun k => ndF M n kd d k - btF M n kd d k) i n))], SH L, M) := by
        intro b hb e
        refine bl_301_120 ?_
        rw [aWi (by omega) (by omega), sumI_step hi, ← Int.add_assoc, ← e]
        exact ih b (by omega) (by omega) (by omega)
      apply bl_301_12
      simp only [ln0, ln1, ln2, ln3, ln4]
      refine ⟨fun q => absurd q (by omega), fun _ => ⟨by omega, fun q => ?_, fun q => ?_⟩⟩
      · refine nx a (by omega) ?_
        unfold ndF btF
        rw [le, decide_eq_false (by omega)]
        simp
      · have v := hi2.2.2.2.1 (by omega)
        have lc : ∀ b, aX xc_301 (aSeek xc_301 86) [aR 145, aI d, aI kd, aI n, aI b, aI i] [] (SH L) M ([aI (max 0 (a + sumI (fun k => ndF M n kd d k - btF M n kd d k) i n))], SH L, M) → True := fun _ _ => trivial
        refine ⟨by omega, fun q2 => nx a (by omega) ?_, fun q2 => ⟨_, _, s_300 h i0 (by omega) h3, fun q3 => ?_, fun q3 => nx a (by omega) ?_⟩⟩
        · unfold ndF btF
          rw [if_neg (by omega), if_neg (by omega)]; omega
        · rw [bi_0] at q3
          have lt : lv M n i = true := by
            rw [le, decide_eq_true (by omega)]
            simpa using q3
          refine ⟨by omega, fun q4 => bl_301_86 ?_, fun q4 => ⟨by omega, fun q5 => bl_301_86 ?_, fun q5 => ⟨by omega, bl_301_86 ?_⟩⟩⟩
          all_goals simp only [ln0, ln1, ln2, ln3, ln4]
          · refine ⟨by omega, fun q6 => absurd ?_ q6, fun q6 => ⟨by omega, fun q7 => nx a (by omega) ?_, fun q7 => ⟨by omega, nx _ ?_ ?_⟩⟩⟩
            · omega
            · unfold ndF btF
              rw [if_neg (by omega), if_neg (by omega)]; omega
            · rw [aWi (by omega) (by omega)]; omega
            · rw [aWi (by omega) (by omega)]
              unfold ndF btF
              rw [if_neg (by omega), if_pos ⟨lt, by omega, by omega, by omega⟩]; omega
          · refine ⟨by omega, fun q6 => nx a (by omega) ?_, fun q6 => absurd q6 (by omega)⟩
            unfold ndF btF
            rw [if_neg (by omega), if_neg (by omega)]; omega
          · refine ⟨by omega, fun q6 => nx _ ?_ ?_, fun q6 => absurd q6 (by omega)⟩
            · rw [aWi (by omega) (by omega)]; omega
            · rw [aWi (by omega) (by omega)]
              unfold ndF btF
              rw [if_pos ⟨lt, by omega, by omega, by omega⟩, if_neg (by omega)]; omega
        · rw [Classical.not_not, bi_0] at q3
          have lt : lv M n i = false := by
            rw [le, q3, Bool.and_false]
          unfold ndF btF
          rw [lt]
          simp
  apply en_301
  simp only [ln0, ln1, ln2, ln3, ln4]
  rw [aWi (by omega) (by omega), ez]
  exact ⟨by omega, key 0 _ (by omega) h0 (by omega)⟩
end LOGS
