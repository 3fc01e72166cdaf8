/-! laws: one op of the class's stack -/
section LAW2
variable {L : Nat} {M M1 M2 : aM}
/-- what running an op leaves: the stack, the flag, and all else as it was -/
def opR (M M1 : aM) (l : List Int) (z : Int) : Prop := stk M1 l ∧ M1 90 8 = z ∧ (∀ a, a ≠ 90 → a ≠ 98 → M1 a = M a) ∧ ∀ j, j ≠ 7 → j ≠ 8 → M1 90 j = M 90 j
theorem opR_1 {l : List Int} (h1 : stk M1 l) (h2 : ∀ a, a ≠ 90 → a ≠ 98 → M1 a = M a) (h3 : ∀ j, j ≠ 7 → M1 90 j = M 90 j) : opR M M1 l (M 90 8) := ⟨h1, h3 8 (by omega), h2, fun j j7 _ => h3 j j7⟩
theorem s_124n {l : List Int} {o : Int} (h : stk M l) (hl : l.length < 32) (o1 : 1000 ≤ o) (o2 : o < 2147483648) : ∃ M1, aE 124 [aR 90, aI o] (SH L) M ([], SH L, M1) ∧ opR M M1 ((o - 1000) :: l) (M 90 8) := by
  obtain ⟨M1, r, a, b, c⟩ := s_120 (L := L) (v := o - 1000) h hl
  refine ⟨M1, en_124 ⟨fun q => absurd q (by omega), fun _ => ?_⟩, opR_1 a b c⟩
  rw [aWi (by omega) (by omega)]
  exact ⟨M1, r, rfl⟩
theorem s_124v {l : List Int} {o : Int} (h : stk M l) (hl : l.length < 32) (o1 : 16 ≤ o) (o2 : o < 25) : ∃ M1, aE 124 [aR 90, aI o] (SH L) M ([], SH L, M1) ∧ opR M M1 (M 97 (o - 16) :: l) (M 90 8) := by
  obtain ⟨M1, r, a, b, c⟩ := s_120 (L := L) (v := M 97 (o - 16)) h hl
  refine ⟨M1, en_124 ⟨fun _ => ⟨fun q => absurd q (by omega), fun _ => ⟨fun q => absurd q (by omega), fun _ => ?_⟩⟩, fun q => absurd (by omega) q⟩, opR_1 a b c⟩
  rw [aWi (by omega) (by omega)]
  exact ⟨by rw [show aLn (SH L) 1 97 = 9 from rfl]; omega, M1, r, rfl⟩
theorem s_124i {o : Int} {u : aO} (o1 : o < 16 ∨ 25 ≤ o) (o2 : o < 1000) (h : aX xc_124 (aSeek xc_124 47) [aR 90, aI o, aU, aU] [] (SH L) M u) : aE 124 [aR 90, aI o] (SH L) M u := en_124 ⟨fun _ => ⟨fun _ => h, fun _ => ⟨fun _ => h, fun q => by omega⟩⟩, fun q => absurd o2 q⟩
theorem s_124t {l : List Int} {v : Int} (h : stk M (v :: l)) : ∃ M1, aE 124 [aR 90, aI 39] (SH L) M ([], SH L, M1) ∧ opR M M1 (aW (1 - v) :: l) (M 90 8) := by
  obtain ⟨K, r1, a1, b1, c1⟩ := s_121 (L := L) h
  have hl : l.length < 32 := by have := h.2.1; rw [List.length_cons] at this; omega
  obtain ⟨M1, r2, a2, b2, c2⟩ := s_120 (L := L) (v := aW (1 - v)) a1 hl
  refine ⟨M1, s_124i (Or.inr (by omega)) (by omega) (bl_124_47 ⟨fun q => absurd rfl q, fun _ => ⟨K, v, r1, M1, r2, rfl⟩⟩), opR_1 a2 (fun a x y => by rw [b2 a x y, b1 a x]) (fun j hj => by rw [c2 j hj, c1 j hj])⟩
theorem s_124b {l : List Int} {o a b : Int} (h : stk M (b :: a :: l)) (o1 : o < 10 ∨ 13 < o) (o2 : o < 16 ∨ 25 ≤ o) (o3 : o < 1000) (o4 : o ≠ 39) : ∃ M1, aE 124 [aR 90, aI o] (SH L) M ([], SH L, M1) ∧ (dvZ o b → opR M M1 (coB o a b :: l) 1) ∧ (¬ dvZ o b → opR M M1 (coB o a b :: l) (M 90 8)) := by
  obtain ⟨K, r1, a1, b1, c1⟩ := s_121 (L := L) h
  obtain ⟨K2, r2, a2, b2, c2⟩ := s_121 (L := L) a1
  obtain ⟨K3, r3, d1, d2⟩ := s_123 (L := L) (M := K2) (o := o) (a := a) (b := b)
  have hl : l.length < 32 := by have := h.2.1; rw [List.length_cons, List.length_cons] at this; omega
  have k3 : stk K3 l ∧ (∀ a, a ≠ 90 → K3 a = K2 a) ∧ ∀ j, j ≠ 8 → K3 90 j = K2 90 j := by
    by_cases d : dvZ o b
    · have e := d1 d
      subst e
      exact ⟨⟨by rw [aSet_i (by omega)]; exact a2.1, a2.2.1, stV_cg l a2.2.2 (fun i hi => by rw [aSet_c (by omega)])⟩, fun a ha => by rw [aSet_c ha], fun j hj => by rw [aSet_i hj]⟩
    · have e := d2 d
      subst e
      exact ⟨a2, fun _ _ => rfl, fun _ _ => rfl⟩
  obtain ⟨M1, r4, a4, b4, c4⟩ := s_120 (L := L) (v := coB o a b) k3.1 hl
  have k121 : aX xc_124 (aSeek xc_124 121) [aR 90, aI o, aI b, aI a] [] (SH L) K2 ([], SH L, M1) := bl_124_121 ⟨K3, _, r3, M1, r4, rfl⟩
  have fr1 : ∀ c, c ≠ 90 → c ≠ 98 → M1 c = M c := fun c x y => by rw [b4 c x y, k3.2.1 c x, b2 c x, b1 c x]
  have fr2 : ∀ j, j ≠ 7 → j ≠ 8 → M1 90 j = M 90 j := fun j x y => by rw [c4 j x, k3.2.2 j y, c2 j x, c1 j x]
  refine ⟨M1, s_124i o2 o3 (bl_124_47 ⟨fun _ => ⟨K, b, r1, K2, a, r2, fun _ => k121, fun q => ⟨fun _ => k121, fun q2 => by omega⟩⟩, fun q => absurd o4 q⟩), fun d => ⟨a4, ?_, fr1, fr2⟩, fun d => ⟨a4, ?_, fr1, fr2⟩⟩
  · rw [c4 8 (by omega), d1 d, aSet_e]
  · rw [c4 8 (by omega), d2 d, c2 8 (by omega), c1 8 (by omega)]
theorem s_124c {l : List Int} {o a b : Int} (h : stk M (b :: a :: l)) (o1 : 10 ≤ o) (o2 : o ≤ 13) : ∃ M1, aE 124 [aR 90, aI o] (SH L) M ([], SH L, M1) ∧ opR M M1 ((if M 90 8 = 0 then cmV o a b else 0) :: l) 0 := by
  obtain ⟨K, r1, a1, b1, c1⟩ := s_121 (L := L) h
  obtain ⟨K2, r2, a2, b2, c2⟩ := s_121 (L := L) a1
  have hl : l.length < 32 := by have := h.2.1; rw [List.length_cons, List.length_cons] at this; omega
  obtain ⟨v, hv⟩ : ∃ v, v = if M 90 8 = 0 then cmV o a b else 0 := ⟨_, rfl⟩
  rw [← hv]
  obtain ⟨M1, r4, a4, b4, c4⟩ := s_120 (L := L) (v := v) a2 hl
  have k8 : K2 90 8 = M 90 8 := by rw [c2 8 (by omega), c1 8 (by omega)]
  have k110 : aX xc_124 (aSeek xc_124 110) [aR 90, aU, aU, aU] [aI v, aR 90] (SH L) K2 ([], SH L, aSet M1 90 8 0) := bl_124_110 ⟨rfl, M1, r4, rfl⟩
  have cm : cmV o a b = 0 ∨ cmV o a b = 1 := by
    unfold cmV
    split
    · exact bi_01 _
    · split
      · exact bi_01 _
      · split
        · exact bi_01 _
        · exact bi_01 _
  refine ⟨aSet M1 90 8 0, s_124i (Or.inl (by omega)) (by omega) (bl_124_47 ⟨fun _ => ⟨K, b, r1, K2, a, r2, fun q => absurd q (by omega), fun _ => ⟨fun q => absurd q (by omega), fun _ => ⟨K2, _, s_122, fun q => bl_124_109 ?_, fun q => ⟨fun q2 => bl_124_109 ?_, fun q2 => ?_⟩⟩⟩⟩, fun q => absurd (by omega) q⟩), ⟨by rw [aSet_i (by omega)]; exact a4.1, a4.2.1, stV_cg _ a4.2.2 (fun i hi => by rw [aSet_c (by omega)])⟩, aSet_e, fun c x y => by rw [aSet_c x, b4 c x y, b2 c x, b1 c x], fun j x y => by rw [aSet_i y, c4 j x, c2 j x, c1 j x]⟩
  · have : v = 0 := by rw [hv, q]; split <;> rfl
    rw [this] at k110; exact k110
  · rw [k8] at q2
    rw [if_neg q2] at hv
    rw [hv] at k110; exact k110
  · rw [k8] at q2
    rw [if_pos (Classical.not_not.mp q2)] at hv
    have : v = 1 := by omega
    rw [this] at k110; exact k110
end LAW2
