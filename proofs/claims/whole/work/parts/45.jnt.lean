/-! joints -/
section JNT
variable {L : Nat} {M M1 : aM}
theorem lsl_1 {s i : Int} (hi : 0 ≤ i) (hi2 : i < 64) : lb (aLsl s 1) i = (decide (1 ≤ i) && lb s (i - 1)) := by
  unfold lb aLsl
  rw [o_backL, show ((Int32.ofInt 1).toInt64 &&& 63) = (1 : Int64) by decide]
  show ((Int64.ofInt s <<< (1 : Int64)).toBitVec).getLsbD i.toNat = _
  rw [Int64.toBitVec_shiftLeft]
  show ((Int64.ofInt s).toBitVec <<< ((1 : Int64).toBitVec.smod 64)).getLsbD i.toNat = _
  rw [show ((1 : Int64).toBitVec.smod 64) = 1#64 by decide, BitVec.shiftLeft_eq', BitVec.getLsbD_shiftLeft]
  rw [show (1#64).toNat = 1 by decide, decide_eq_true (show i.toNat < 64 by omega), Bool.true_and]
  by_cases c : 1 ≤ i
  · rw [decide_eq_true c, decide_eq_false (show ¬ i.toNat < 1 by omega), show i.toNat - 1 = (i - 1).toNat by omega]
    rfl
  · rw [decide_eq_false c, decide_eq_true (show i.toNat < 1 by omega)]
    rfl
def rn (f : Int → Bool) (q r : Int) : Prop := ∀ k, q ≤ k → k < q + r → f k = true
/-- the longest run has R points -/
def isMx (f : Int → Bool) (R : Int) : Prop := 0 ≤ R ∧ (∃ q, 0 ≤ q ∧ q + R ≤ 64 ∧ rn f q R) ∧ ∀ q, 0 ≤ q → q + R + 1 ≤ 64 → ¬ rn f q (R + 1)
theorem isMx_one {f : Int → Bool} {R S : Int} (h : isMx f R) (g : isMx f S) : R = S := by
  have key : ∀ {R S : Int}, isMx f R → isMx f S → ¬ R < S := by
    intro R S h g c
    obtain ⟨q, q0, q1, q2⟩ := g.2.1
    exact h.2.2 q q0 (by omega) (fun k k0 k1 => q2 k k0 (by omega))
  have a := key h g
  have b := key g h
  omega
theorem isMx_ex (f : Int → Bool) : ∃ R, isMx f R := by
  refine Classical.byContradiction fun hn => ?_
  have key : ∀ k : Nat, k ≤ 65 → ∃ q, 0 ≤ q ∧ q + (k : Int) ≤ 64 ∧ rn f q k := by
    intro k
    induction k with
    | zero => intro _; exact ⟨0, by omega, by omega, fun k a b => by omega⟩
    | succ k ih =>
      intro hk
      refine Classical.byContradiction fun hm => hn ⟨k, by omega, ih (by omega), fun q q0 q1 q2 => hm ⟨q, q0, by omega, ?_⟩⟩
      rw [show ((k + 1 : Nat) : Int) = (k : Int) + 1 by omega]
      exact q2
  obtain ⟨q, q0, q1, -⟩ := key 65 (by omega)
  omega
noncomputable def mxR (f : Int → Bool) : Int := @Classical.epsilon _ ⟨0⟩ (fun R => isMx f R)
theorem mxR_is {f : Int → Bool} : isMx f (mxR f) := @Classical.epsilon_spec _ (fun R => isMx f R) (isMx_ex f)
theorem mxR_cg {f g : Int → Bool} (h : ∀ p, 0 ≤ p → p < 64 → f p = g p) : mxR f = mxR g := by
  have a := mxR_is (f := f)
  have e : ∀ q r, 0 ≤ q → q + r ≤ 64 → (rn f q r ↔ rn g q r) := fun q r q0 q1 => ⟨fun z k k0 k1 => by rw [← h k (by omega) (by omega)]; exact z k k0 k1, fun z k k0 k1 => by rw [h k (by omega) (by omega)]; exact z k k0 k1⟩
  refine isMx_one (f := g) ⟨a.1, ?_, fun q q0 q1 q2 => a.2.2 q q0 q1 ((e q _ q0 (by omega)).mpr q2)⟩ mxR_is
  obtain ⟨q, q0, q1, q2⟩ := a.2.1
  exact ⟨q, q0, q1, (e q _ q0 q1).mp q2⟩
theorem s_109 {z : Int} (hz : ∀ p, 60 ≤ p → p < 64 → lb z p = false) (hx : xL z) : aE 109 [aJ z] (SH L) M ([aI (mxR (fun p => lb z p))], SH L, M) := by
  have key : ∀ r, ∀ y : Int, 0 ≤ r → r ≤ 60 → xL y → (∀ p, 0 ≤ p → p < 64 → (lb y p = true ↔ r ≤ p ∧ rn (fun p => lb z p) (p - r) (r + 1))) → (∃ q, 0 ≤ q ∧ q + r ≤ 64 ∧ rn (fun p => lb z p) q r) →
      aX xc_109 (aSeek xc_109 5) [aU, aU, aJ y, aU, aI r] [] (SH L) M ([aI (mxR (fun p => lb z p))], SH L, M) := by
    refine upto 61 (fun r hr y r0 r1 => by omega) (fun r hr ih y r0 r1 hxy hy hq => ?_)
    by_cases c : y = 0
    · refine bl_109_5 ⟨fun _ => rI ?_, fun q => absurd (aCmp_0.mpr c) q⟩
      refine isMx_one (f := fun p => lb z p) mxR_is ⟨r0, hq, fun q q0 q1 q2 => ?_⟩
      have := (hy (q + r) (by omega) (by omega)).mpr ⟨by omega, by rw [show q + r - r = q by omega]; exact q2⟩
      rw [c, lb_0] at this
      cases this
    · have ex : ∃ p, 0 ≤ p ∧ p < 64 ∧ lb y p = true := by
        refine Classical.byContradiction fun hn => c (lb_ext hxy ⟨by omega, by omega⟩ (fun p p0 p1 => ?_))
        rw [lb_0]
        cases e : lb y p
        · rfl
        · exact absurd ⟨p, p0, p1, e⟩ hn
      obtain ⟨p, p0, p1, p2⟩ := ex
      have hp := (hy p p0 p1).mp p2
      have p60 : p < 60 := by
        by_cases d : p < 60
        · exact d
        · have := hp.2 p (by omega) (by omega)
          have e := hz p (by omega) p1
          dsimp only at this
          rw [e] at this; cases this
      refine bl_109_5 ⟨fun q => absurd (aCmp_0.mp q) c, fun _ => ⟨fun q => by omega, fun _ => ?_⟩⟩
      rw [aWi (by omega) (by omega)]
      refine ih _ (by omega) (by omega) xL_and (fun k k0 k1 => ?_) ⟨p - r, by omega, by omega, hp.2⟩
      rw [lb_and, lsl_1 k0 k1, Bool.and_eq_true, Bool.and_eq_true, decide_eq_true_eq, hy k k0 k1]
      constructor
      · rintro ⟨⟨a, b⟩, d, e⟩
        have e2 := (hy (k - 1) (by omega) (by omega)).mp e
        refine ⟨by omega, fun j j0 j1 => ?_⟩
        by_cases f : j = k
        · exact b j (by omega) (by omega)
        · exact e2.2 j (by omega) (by omega)
      · rintro ⟨a, b⟩
        refine ⟨⟨by omega, fun j j0 j1 => b j (by omega) (by omega)⟩, by omega, (hy (k - 1) (by omega) (by omega)).mpr ⟨by omega, fun j j0 j1 => b j (by omega) (by omega)⟩⟩
  refine en_109 (key 0 z (by omega) (by omega) hx (fun p p0 p1 => ?_) ⟨0, by omega, by omega, fun k a b => by omega⟩)
  constructor
  · intro h
    refine ⟨p0, fun k k0 k1 => ?_⟩
    rw [show k = p by omega]
    exact h
  · rintro ⟨-, h⟩
    exact h p (by omega) (by omega)
/-- whether a side of thing i lies on a point of a line -/
def jtH (M : aM) (al ln p i : Int) : Bool := if al = 0 then decide ((M 35 i = ln ∨ M 35 i + M 37 i = ln) ∧ M 34 i ≤ p ∧ p < M 34 i + M 36 i) else decide ((M 34 i = ln ∨ M 34 i + M 36 i = ln) ∧ M 35 i ≤ p ∧ p < M 35 i + M 37 i)
def jt (M : aM) (al ln p : Int) : Bool := anyI (jtH M al ln p) 0 (M 31 0)
theorem s_108 (h : rP M) {al ln : Int} : ∃ z, aE 108 [aR 31, aI al, aI ln] (SH L) M ([aJ z], SH L, M) ∧ xL z ∧ ∀ p, 0 ≤ p → p < 64 → lb z p = jt M al ln p := by
  have n := rP_n h
  have key : ∀ i, ∀ z : Int, 0 ≤ i → i ≤ M 31 0 → xL z → (∀ p, 0 ≤ p → p < 64 → lb z p = anyI (jtH M al ln p) 0 i) → ∃ z', aX xc_108 (aSeek xc_108 5) [aR 31, aI al, aI ln, aJ z, aU, aI i] [] (SH L) M ([aJ z'], SH L, M) ∧ xL z' ∧ ∀ p, 0 ≤ p → p < 64 → lb z' p = jt M al ln p := by
    refine upto (M 31 0) (fun i hi z i0 i1 hx hz => ?_) (fun i hi ih z i0 i1 hx hz => ?_)
    · have e : i = M 31 0 := by omega
      subst e
      exact ⟨z, bl_108_5 ⟨rfl, fun _ => rfl, fun q => absurd hi q⟩, hx, hz⟩
    · have a := rP_i h i0 hi
      have nx : ∀ z' : Int, xL z' → (∀ p, 0 ≤ p → p < 64 → lb z' p = (lb z p || jtH M al ln p i)) → ∃ z'', aX xc_108 (aSeek xc_108 138) [aR 31, aI al, aI ln, aJ z', aU, aI i] [] (SH L) M ([aJ z''], SH L, M) ∧ xL z'' ∧ ∀ p, 0 ≤ p → p < 64 → lb z'' p = jt M al ln p := by
        intro z' hx' hz'
        obtain ⟨z'', r, x⟩ := ih z' (by omega) (by omega) hx' (fun p p0 p1 => by rw [hz' p p0 p1, hz p p0 p1, anyI_snoc i0])
        refine ⟨z'', bl_108_138 ?_, x⟩
        rw [aWi (by omega) (by omega)]
        exact r
      by_cases c : al = 0
      · have e0 : ∀ p, jtH M al ln p i = decide ((M 35 i = ln ∨ M 35 i + M 37 i = ln) ∧ M 34 i ≤ p ∧ p < M 34 i + M 36 i) := fun p => if_pos c
        by_cases d : M 35 i = ln ∨ M 35 i + M 37 i = ln
        · obtain ⟨z'', r, x⟩ := nx (aLor z (spn (M 34 i) (M 34 i + M 36 i))) xL_or (fun p p0 p1 => by
            rw [lb_or, lb_spn p0 p1, e0]
            congr 1
            apply decide_eq_decide.mpr
            omega)
          have k110 : aX xc_108 (aSeek xc_108 110) [aR 31, aI al, aI ln, aJ z, aU, aI i] [] (SH L) M ([aJ z''], SH L, M) := by
            apply bl_108_110
            simp only [bd bd31]
            rw [show (31 + 3 : Int) = 34 by rfl, show (31 + 5 : Int) = 36 by rfl, aWi (by omega) (by omega)]
            exact ⟨trivial, by omega, trivial, by omega, trivial, by omega, M, _, s_37, r⟩
          refine ⟨z'', bl_108_5 ⟨rfl, fun q => absurd hi (by omega), fun _ => ⟨fun _ => bl_108_76 ⟨fun q => absurd c q, fun _ => ?_⟩, fun q => absurd c q⟩⟩, x⟩
          simp only [bd bd31]
          rw [show (31 + 4 : Int) = 35 by rfl, show (31 + 6 : Int) = 37 by rfl, aWi (by omega) (by omega)]
          exact ⟨trivial, by omega, fun _ => k110, fun q => ⟨trivial, by omega, trivial, by omega, fun q2 => absurd d (by omega), fun _ => k110⟩⟩
        · obtain ⟨z'', r, x⟩ := nx z hx (fun p p0 p1 => by rw [e0, decide_eq_false (fun q => d q.1), Bool.or_false])
          refine ⟨z'', bl_108_5 ⟨rfl, fun q => absurd hi (by omega), fun _ => ⟨fun _ => bl_108_76 ⟨fun q => absurd c q, fun _ => ?_⟩, fun q => absurd c q⟩⟩, x⟩
          simp only [bd bd31]
          rw [show (31 + 4 : Int) = 35 by rfl, show (31 + 6 : Int) = 37 by rfl, aWi (by omega) (by omega)]
          exact ⟨trivial, by omega, fun q => absurd (Or.inl q) d, fun q => ⟨trivial, by omega, trivial, by omega, fun _ => r, fun q2 => absurd (Or.inr (Classical.not_not.mp q2)) d⟩⟩
      · have e0 : ∀ p, jtH M al ln p i = decide ((M 34 i = ln ∨ M 34 i + M 36 i = ln) ∧ M 35 i ≤ p ∧ p < M 35 i + M 37 i) := fun p => if_neg c
        by_cases d : M 34 i = ln ∨ M 34 i + M 36 i = ln
        · obtain ⟨z'', r, x⟩ := nx (aLor z (spn (M 35 i) (M 35 i + M 37 i))) xL_or (fun p p0 p1 => by
            rw [lb_or, lb_spn p0 p1, e0]
            congr 1
            apply decide_eq_decide.mpr
            omega)
          have k48 : aX xc_108 (aSeek xc_108 48) [aR 31, aI al, aI ln, aJ z, aU, aI i] [] (SH L) M ([aJ z''], SH L, M) := by
            apply bl_108_48
            simp only [bd bd31]
            rw [show (31 + 4 : Int) = 35 by rfl, show (31 + 6 : Int) = 37 by rfl, aWi (by omega) (by omega)]
            exact ⟨trivial, by omega, trivial, by omega, trivial, by omega, M, _, s_37, bl_108_76 ⟨fun _ => r, fun q => absurd c q⟩⟩
          refine ⟨z'', bl_108_5 ⟨rfl, fun q => absurd hi (by omega), fun _ => ⟨fun q => absurd q c, fun _ => ?_⟩⟩, x⟩
          simp only [bd bd31]
          rw [show (31 + 3 : Int) = 34 by rfl, show (31 + 5 : Int) = 36 by rfl, aWi (by omega) (by omega)]
          exact ⟨trivial, by omega, fun _ => k48, fun q => ⟨trivial, by omega, trivial, by omega, fun q2 => absurd d (by omega), fun _ => k48⟩⟩
        · obtain ⟨z'', r, x⟩ := nx z hx (fun p p0 p1 => by rw [e0, decide_eq_false (fun q => d q.1), Bool.or_false])
          refine ⟨z'', bl_108_5 ⟨rfl, fun q => absurd hi (by omega), fun _ => ⟨fun q => absurd q c, fun _ => ?_⟩⟩, x⟩
          simp only [bd bd31]
          rw [show (31 + 3 : Int) = 34 by rfl, show (31 + 5 : Int) = 36 by rfl, aWi (by omega) (by omega)]
          exact ⟨trivial, by omega, fun q => absurd (Or.inl q) d, fun q => ⟨trivial, by omega, trivial, by omega, fun _ => bl_108_76 ⟨fun _ => r, fun q => absurd c q⟩, fun q2 => absurd (Or.inr (Classical.not_not.mp q2)) d⟩⟩
  obtain ⟨z, r, x⟩ := key 0 0 (by omega) n.1 ⟨by omega, by omega⟩ (fun p p0 p1 => by rw [lb_0, anyI_nil (by omega)])
  exact ⟨z, en_108 r, x⟩
/-- beyond the FRAME nothing lies -/
theorem jt_far (h : rP M) {al ln p : Int} (hp : (if al = 0 then M 151 0 else M 152 0) ≤ p) : jt M al ln p = false := by
  unfold jt
  cases e : anyI (jtH M al ln p) 0 (M 31 0)
  · rfl
  · rw [anyI_iff] at e
    obtain ⟨i, i0, i1, i2⟩ := e
    obtain ⟨-, -, -, -, -, -, -, -, b9, b10⟩ := rP_m h i0 i1
    unfold jtH at i2
    by_cases c : al = 0
    · rw [if_pos c] at i2 hp
      have := of_decide_eq_true i2; omega
    · rw [if_neg c] at i2 hp
      have := of_decide_eq_true i2; omega
theorem fr_le (h : rP M) : 1 ≤ M 151 0 ∧ M 151 0 ≤ 60 ∧ 1 ≤ M 152 0 ∧ M 152 0 ≤ 60 := by
  have a := h.1.2.1
  have b := h.1.1.2.1
  have c := h.1.1.2.2.1
  omega
noncomputable def jV (M : aM) (al ln : Int) : Int := mxR (fun p => jt M al ln p)
theorem jV_le (h : rP M) {al ln : Int} : 0 ≤ jV M al ln ∧ jV M al ln ≤ 64 := by
  have a := mxR_is (f := fun p => jt M al ln p)
  obtain ⟨q, q0, q1, -⟩ := a.2.1
  unfold jV
  have := a.1
  omega
theorem s_109j (h : rP M) {al ln : Int} : ∃ z, aE 108 [aR 31, aI al, aI ln] (SH L) M ([aJ z], SH L, M) ∧ aE 109 [aJ z] (SH L) M ([aI (jV M al ln)], SH L, M) := by
  obtain ⟨z, r, x, v⟩ := s_108 (L := L) h (al := al) (ln := ln)
  refine ⟨z, r, ?_⟩
  have f := fr_le h
  have := s_109 (L := L) (M := M) (z := z) (fun p p0 p1 => by rw [v p (by omega) p1]; exact jt_far h (by split <;> omega)) x
  have e : mxR (fun p => lb z p) = jV M al ln := mxR_cg v
  rw [e] at this
  exact this
theorem s_110 (h : rP M) {al ln : Int} : aE 110 [aR 1, aI al, aI ln] (SH L) M ([aI (if 1 ≤ ln ∧ ln < (if al = 0 then M (M 1 3) 1 else M (M 1 3) 0) then jV M al ln else -1)], SH L, M) := by
  have ht := rP_tx h
  obtain ⟨z, r1, r2⟩ := s_109j (L := L) h (al := al) (ln := ln)
  have k27 : ∀ b : Int, b = (if al = 0 then M (M 1 3) 1 else M (M 1 3) 0) → ¬ ln < 1 → aX xc_110 (aSeek xc_110 27) [aR 1, aI al, aI ln] [aI b, aI ln] (SH L) M ([aI (if 1 ≤ ln ∧ ln < (if al = 0 then M (M 1 3) 1 else M (M 1 3) 0) then jV M al ln else -1)], SH L, M) := by
    intro b hb c
    rw [← hb]
    refine bl_110_27 ⟨fun q => ⟨M, z, r1, M, _, r2, rI ?_⟩, fun q => rI ?_⟩
    · rw [if_pos (by omega)]
    · rw [if_neg (by omega)]
  refine en_110 ⟨fun q => rI (if_neg (by omega)), fun q => ⟨fun c => ⟨(tx ht).1, k27 _ (if_pos c).symm q⟩, fun c => ⟨(tx ht).1, k27 _ (if_neg c).symm q⟩⟩⟩
/-- the greatest, with its label -/
def wqN (f g : Int → Int) : Nat → Int → Int → Int → Int × Int
  | 0, _, w, m => (w, m)
  | k + 1, i, w, m => if m < f i then wqN f g k (i + 1) (g i) (f i) else wqN f g k (i + 1) w m
def wqI (f g : Int → Int) (n i w m : Int) : Int × Int := wqN f g (n - i).toNat i w m
theorem wqI_nil {f g : Int → Int} {n i w m : Int} (h : n ≤ i) : wqI f g n i w m = (w, m) := by
  unfold wqI
  rw [show (n - i).toNat = 0 by omega]
  rfl
theorem wqI_yes {f g : Int → Int} {n i w m : Int} (h : i < n) (h2 : m < f i) : wqI f g n i w m = wqI f g n (i + 1) (g i) (f i) := by
  unfold wqI
  rw [show (n - i).toNat = (n - (i + 1)).toNat + 1 by omega]
  exact if_pos h2
theorem wqI_no {f g : Int → Int} {n i w m : Int} (h : i < n) (h2 : ¬ m < f i) : wqI f g n i w m = wqI f g n (i + 1) w m := by
  unfold wqI
  rw [show (n - i).toNat = (n - (i + 1)).toNat + 1 by omega]
  exact if_neg h2
def anL (p : Int × Int) : Int := if p.2 = 0 then 0 else 100 * p.2 + p.1
noncomputable def lgV (M : aM) : Int := anL (wqI (jV M 1) (fun x => x + 10000) (M (M 1 3) 0) 1 (wqI (jV M 0) (fun x => x) (M (M 1 3) 1) 1 0 0).1 (wqI (jV M 0) (fun x => x) (M (M 1 3) 1) 1 0 0).2)
theorem s_111 (h : rP M) : aE 111 [aR 1] (SH L) M ([aI (lgV M)], SH L, M) := by
  have ht := rP_tx h
  have tw := h.1.1.2.1
  have th := h.1.1.2.2.1
  have k2 : ∀ x, ∀ w m : Int, 1 ≤ x → (0 ≤ m ∧ m ≤ 64) → (0 ≤ w ∧ w ≤ 10100) → aX xc_111 (aSeek xc_111 56) [aR 1, aI m, aI (anL (w, m)), aI x, aU] [] (SH L) M ([aI (anL (wqI (jV M 1) (fun x => x + 10000) (M (M 1 3) 0) x w m))], SH L, M) := by
    refine upto (M (M 1 3) 0) (fun x hx w m x0 hm hw => ?_) (fun x hx ih w m x0 hm hw => ?_)
    · exact bl_111_56 ⟨(tx ht).1, fun _ => rI (by rw [wqI_nil hx]), fun q => absurd hx q⟩
    · obtain ⟨z, r1, r2⟩ := s_109j (L := L) h (al := 1) (ln := x)
      have jl := jV_le h (al := 1) (ln := x)
      refine bl_111_56 ⟨(tx ht).1, fun q => absurd hx (by omega), fun _ => ⟨M, z, r1, M, _, r2, fun q => bl_111_102 ?_, fun q => bl_111_102 ?_⟩⟩
      · rw [aWi (by omega) (by omega), wqI_no hx (by omega)]
        exact ih w m (by omega) hm hw
      · rw [aWi (z := 100 * jV M 1 x) (by omega) (by omega), aWi (z := 100 * jV M 1 x + x) (by omega) (by omega), aWi (z := 100 * jV M 1 x + x + 10000) (by omega) (by omega), aWi (by omega) (by omega), wqI_yes hx (by omega)]
        have := ih (x + 10000) (jV M 1 x) (by omega) (by omega) (by omega)
        rw [show anL (x + 10000, jV M 1 x) = 100 * jV M 1 x + x + 10000 by unfold anL; rw [if_neg (by show ¬ jV M 1 x = 0; omega)]; show 100 * jV M 1 x + (x + 10000) = _; omega] at this
        exact this
  have k1 : ∀ y, ∀ w m : Int, 1 ≤ y → (0 ≤ m ∧ m ≤ 64) → (0 ≤ w ∧ w ≤ 100) → aX xc_111 (aSeek xc_111 6) [aR 1, aI m, aI (anL (w, m)), aI y, aU] [] (SH L) M ([aI (anL (wqI (jV M 1) (fun x => x + 10000) (M (M 1 3) 0) 1 (wqI (jV M 0) (fun x => x) (M (M 1 3) 1) y w m).1 (wqI (jV M 0) (fun x => x) (M (M 1 3) 1) y w m).2))], SH L, M) := by
    refine upto (M (M 1 3) 1) (fun y hy w m y0 hm hw => ?_) (fun y hy ih w m y0 hm hw => ?_)
    · rw [wqI_nil hy]
      exact bl_111_6 ⟨(tx ht).1, fun _ => k2 1 w m (by omega) hm (by omega), fun q => absurd hy q⟩
    · obtain ⟨z, r1, r2⟩ := s_109j (L := L) h (al := 0) (ln := y)
      have jl := jV_le h (al := 0) (ln := y)
      refine bl_111_6 ⟨(tx ht).1, fun q => absurd hy (by omega), fun _ => ⟨M, z, r1, M, _, r2, fun q => bl_111_48 ?_, fun q => bl_111_48 ?_⟩⟩
      · rw [aWi (by omega) (by omega), wqI_no hy (by omega)]
        exact ih w m (by omega) hm hw
      · rw [aWi (z := 100 * jV M 0 y) (by omega) (by omega), aWi (z := 100 * jV M 0 y + y) (by omega) (by omega), aWi (by omega) (by omega), wqI_yes hy (by omega)]
        have := ih y (jV M 0 y) (by omega) (by omega) (by omega)
        rw [show anL (y, jV M 0 y) = 100 * jV M 0 y + y by unfold anL; rw [if_neg (by show ¬ jV M 0 y = 0; omega)]] at this
        exact this
  have := k1 1 0 0 (by omega) (by omega) (by omega)
  exact en_111 this
end JNT
