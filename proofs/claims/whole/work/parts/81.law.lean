/-! laws: the class's stack -/
section LAW1
variable {L : Nat} {M M1 M2 : aM}
def stV (M : aM) : List Int → Prop
  | [] => True
  | x :: r => M 98 (r.length : Int) = x ∧ stV M r
/-- what waits on the stack, the top first -/
def stk (M : aM) (l : List Int) : Prop := M 90 7 = (l.length : Int) ∧ l.length ≤ 32 ∧ stV M l
theorem stV_cg : ∀ l : List Int, stV M l → (∀ i : Nat, i < l.length → M1 98 (i : Int) = M 98 i) → stV M1 l := by
  intro l
  induction l with
  | nil => intro _ _; exact trivial
  | cons x r ih =>
    intro h f
    exact ⟨by rw [f r.length (by rw [List.length_cons]; omega)]; exact h.1, ih h.2 (fun i hi => f i (by rw [List.length_cons]; omega))⟩
theorem s_120 {l : List Int} {v : Int} (h : stk M l) (h2 : l.length < 32) : ∃ M1, aE 120 [aR 90, aI v] (SH L) M ([], SH L, M1) ∧ stk M1 (v :: l) ∧ (∀ a, a ≠ 90 → a ≠ 98 → M1 a = M a) ∧ ∀ j, j ≠ 7 → M1 90 j = M 90 j := by
  obtain ⟨h7, h32, hv⟩ := h
  refine ⟨aSet (aSet M 98 (l.length : Int) v) 90 7 ((l.length : Int) + 1), en_120 ⟨fun q => absurd q (by omega), fun _ => ⟨fun q => absurd q (by rw [h7, show aL (SH L) 98 = 32 from rfl]; omega), fun _ => ⟨by rw [h7, show aLn (SH L) 1 98 = 32 from rfl]; omega, ?_⟩⟩⟩, ⟨by rw [aSet_e, List.length_cons]; omega, by rw [List.length_cons]; omega, by rw [aSet_c (by omega), aSet_e], stV_cg l hv (fun i hi => by rw [aSet_c (by omega), aSet_i (by omega)])⟩, fun a a1 a2 => by rw [aSet_c a1, aSet_c a2], fun j hj => by rw [aSet_i hj, aSet_c (by omega)]⟩
  rw [h7, aSet_c (show (90 : Int) ≠ 98 by omega), h7, aWi (by omega) (by omega)]
theorem s_121 {l : List Int} {v : Int} (h : stk M (v :: l)) : ∃ M1, aE 121 [aR 90] (SH L) M ([aI v], SH L, M1) ∧ stk M1 l ∧ (∀ a, a ≠ 90 → M1 a = M a) ∧ ∀ j, j ≠ 7 → M1 90 j = M 90 j := by
  obtain ⟨h7, h32, hv, hr⟩ := h
  rw [List.length_cons] at h7 h32
  have e : aW (M 90 7 - 1) = (l.length : Int) := by rw [h7, aWi (by omega) (by omega)]; omega
  refine ⟨aSet M 90 7 (l.length : Int), en_121 ⟨fun q => absurd q (by omega), fun _ => ⟨fun _ => ?_, fun q => absurd (by rw [h7, show aL (SH L) 98 = 32 from rfl]; omega) q⟩⟩, ⟨aSet_e, by omega, stV_cg l hr (fun i hi => by rw [aSet_c (by omega)])⟩, fun a ha => by rw [aSet_c ha], fun j hj => by rw [aSet_i hj]⟩
  rw [e, aSet_e, aSet_c (show (98 : Int) ≠ 90 by omega), hv]
  exact ⟨by rw [show aLn (SH L) 1 98 = 32 from rfl]; omega, rfl⟩
/-- an empty stack answers nought -/
theorem s_121z (h : M 90 7 = 0) : aE 121 [aR 90] (SH L) M ([aI 0], SH L, M) := en_121 ⟨fun _ => rfl, fun q => absurd (by omega) q⟩
def cmV (o a b : Int) : Int := if o = 10 then bi (decide (a = b)) else if o = 11 then bi (decide (¬ a = b)) else if o = 12 then bi (decide (a < b)) else bi (decide (a ≤ b))
theorem s_122 {o a b : Int} : aE 122 [aI o, aI a, aI b] (SH L) M ([aI (cmV o a b)], SH L, M) := by
  unfold cmV
  refine en_122 ⟨fun q => ⟨fun q1 => rI ?_, fun q1 => rI ?_⟩, fun q => ⟨fun q1 => rI ?_, fun q1 => rI ?_⟩, fun q => ⟨fun q1 => rI ?_, fun q1 => rI ?_⟩, fun q q0 q2 => ⟨fun q1 => rI ?_, fun q1 => rI ?_⟩⟩
  · rw [if_pos q]; exact bin q1
  · rw [if_pos q]; exact bip (Classical.not_not.mp q1)
  · rw [if_neg (by omega), if_pos q]; exact bin (fun z => z q1)
  · rw [if_neg (by omega), if_pos q]; exact bip q1
  · rw [if_neg (by omega), if_neg (by omega), if_pos q]; exact bin (by omega)
  · rw [if_neg (by omega), if_neg (by omega), if_pos q]; exact bip (by omega)
  · rw [if_neg q, if_neg q0, if_neg q2]; exact bin (by omega)
  · rw [if_neg q, if_neg q0, if_neg q2]; exact bip (by omega)
def coB (o a b : Int) : Int := if o = 6 then aW (a + b) else if o = 7 then aW (a - b) else if o = 8 then aW (a * b) else if o = 37 then aOr a b else if o = 38 then aAnd a b else if b = 0 then 0 else aDiv a b
/-- whether it divides by nought -/
def dvZ (o b : Int) : Prop := ¬ o = 6 ∧ ¬ o = 7 ∧ ¬ o = 8 ∧ ¬ o = 37 ∧ ¬ o = 38 ∧ b = 0
theorem s_123 {o a b : Int} : ∃ M1, aE 123 [aR 90, aI o, aI a, aI b] (SH L) M ([aI (coB o a b)], SH L, M1) ∧ (dvZ o b → M1 = aSet M 90 8 1) ∧ (¬ dvZ o b → M1 = M) := by
  by_cases d : dvZ o b
  · obtain ⟨d1, d2, d3, d4, d5, d6⟩ := d
    refine ⟨aSet M 90 8 1, en_123 ⟨fun q => absurd q d1, fun q => absurd q d2, fun q => absurd q d3, fun q => absurd q d4, fun q => absurd q d5, fun _ _ _ _ _ => ⟨fun q => absurd d6 q, fun _ => ?_⟩⟩, fun _ => rfl, fun q => absurd ⟨d1, d2, d3, d4, d5, d6⟩ q⟩
    unfold coB
    rw [if_neg d1, if_neg d2, if_neg d3, if_neg d4, if_neg d5, if_pos d6]
  · refine ⟨M, en_123 ⟨fun q => rI ?_, fun q => rI ?_, fun q => rI ?_, fun q => rI ?_, fun q => rI ?_, fun q1 q2 q3 q4 q5 => ⟨fun q => ⟨q, rI ?_⟩, fun q => absurd ⟨q1, q2, q3, q4, q5, Classical.not_not.mp q⟩ d⟩⟩, fun q => absurd q d, fun _ => rfl⟩
    · unfold coB; rw [if_pos q]
    · unfold coB; rw [if_neg (by omega), if_pos q]
    · unfold coB; rw [if_neg (by omega), if_neg (by omega), if_pos q]
    · unfold coB; rw [if_neg (by omega), if_neg (by omega), if_neg (by omega), if_pos q]
    · unfold coB; rw [if_neg (by omega), if_neg (by omega), if_neg (by omega), if_neg (by omega), if_pos q]
    · unfold coB; rw [if_neg q1, if_neg q2, if_neg q3, if_neg q4, if_neg q5, if_neg q]
end LAW1
