/-! log, annul, tuesday: both -/
section TUES
variable {L : Nat} {M M1 M2 : aM}
def lgC (M : aM) (so d ofv mn : Int) : aM := aSet (aSet (aSet (aSet (aSet M 139 (M 138 0) so) 140 (M 138 0) d) 141 (M 138 0) ofv) 142 (M 138 0) mn) 138 0 (M 138 0 + 1)
def lgM (M : aM) (so d kd mn : Int) : aM := aSet (aSet (aSet (aSet (aSet M 186 (M 145 48) so) 187 (M 145 48) d) 188 (M 145 48) kd) 189 (M 145 48) mn) 145 48 (M 145 48 + 1)
theorem s_157 {so d ofv mn : Int} (h : 0 ≤ M 138 0 ∧ M 138 0 ≤ 60) : aE 157 [aR 138, aI so, aI d, aI ofv, aI mn] (SH L) M ([aI (if M 138 0 < 60 then M 138 0 else -1)], SH L, if M 138 0 < 60 then lgC M so d ofv mn else M) := by
  apply en_157
  simp only [ln0, ln1, ln2, ln3, ln4]
  simp (disch := omega) only [aSet_c]
  refine ⟨fun q => ?_, fun q => ?_⟩
  · rw [if_pos q, if_pos q]
    rw [aWi (z := M 138 0 + 1) (by omega) (by omega), aSet_e, aWi (by omega) (by omega), show M 138 0 + 1 - 1 = M 138 0 by omega]
    exact ⟨by omega, by omega, by omega, by omega, rfl⟩
  · rw [if_neg q, if_neg q]
theorem s_296 {so d kd mn : Int} (h : 0 ≤ M 145 48 ∧ M 145 48 ≤ 60) : aE 296 [aR 145, aI so, aI d, aI kd, aI mn] (SH L) M ([aI (if M 145 48 < 60 then M 145 48 else -1)], SH L, if M 145 48 < 60 then lgM M so d kd mn else M) := by
  apply en_296
  simp only [ln0, ln1, ln2, ln3, ln4]
  simp (disch := omega) only [aSet_c]
  refine ⟨fun q => ?_, fun q => ?_⟩
  · have q' : M 145 48 < 60 := by omega
    rw [if_pos q', if_pos q']
    rw [aWi (z := M 145 48 + 1) (by omega) (by omega), aSet_e, aWi (by omega) (by omega), show M 145 48 + 1 - 1 = M 145 48 by omega]
    exact ⟨by omega, by omega, by omega, by omega, rfl⟩
  · have q' : ¬ M 145 48 < 60 := by omega
    rw [if_neg q', if_neg q']
theorem lgC_c {so d ofv mn a : Int} (ha : a < 138 ∨ 142 < a) : lgC M so d ofv mn a = M a := by
  unfold lgC
  simp (disch := omega) only [aSet_c]
theorem lgM_c {so d ofv mn a : Int} (ha : a ≠ 145 ∧ (a < 186 ∨ 189 < a)) : lgM M so d ofv mn a = M a := by
  unfold lgM
  simp (disch := omega) only [aSet_c]
/-- a log more, on both sides -/
theorem rL_add (h : rL M) {so d ofv mn d' kd mn' : Int} (hso : 0 ≤ so ∧ so ≤ 2) (hmn : 0 ≤ mn ∧ mn ≤ 99) (h1 : ¬ so = 2 → (0 ≤ d ∧ d < 100) ∧ d' = d ∧ kd = ofv ∧ mn' = mn) (h2 : so = 2 → d' = ofv ∧ 0 ≤ ofv ∧ ofv < M 138 0) (h60 : M 138 0 < 60) : rL (lgM (lgC M so d ofv mn) so d' kd mn') := by
  have hn := h.2.1
  have e48 : lgC M so d ofv mn 145 = M 145 := lgC_c (by omega)
  have v0 : lgM (lgC M so d ofv mn) so d' kd mn' 138 0 = M 138 0 + 1 := by
    rw [lgM_c (by omega)]; unfold lgC; rw [aSet_e]
  have v48 : lgM (lgC M so d ofv mn) so d' kd mn' 145 48 = M 138 0 + 1 := by
    unfold lgM; rw [aSet_e, e48, hn]
  have cr : ∀ k, lgM (lgC M so d ofv mn) so d' kd mn' 139 k = (if k = M 138 0 then so else M 139 k) ∧ lgM (lgC M so d ofv mn) so d' kd mn' 140 k = (if k = M 138 0 then d else M 140 k) ∧ lgM (lgC M so d ofv mn) so d' kd mn' 141 k = (if k = M 138 0 then ofv else M 141 k) ∧ lgM (lgC M so d ofv mn) so d' kd mn' 142 k = (if k = M 138 0 then mn else M 142 k) := by
    intro k
    rw [lgM_c (by omega), lgM_c (by omega), lgM_c (by omega), lgM_c (by omega)]
    unfold lgC
    simp (disch := omega) only [aSet_c, aSet_q]
    exact ⟨trivial, trivial, trivial, trivial⟩
  have mr : ∀ k, lgM (lgC M so d ofv mn) so d' kd mn' 186 k = (if k = M 138 0 then so else M 186 k) ∧ lgM (lgC M so d ofv mn) so d' kd mn' 187 k = (if k = M 138 0 then d' else M 187 k) ∧ lgM (lgC M so d ofv mn) so d' kd mn' 188 k = (if k = M 138 0 then kd else M 188 k) ∧ lgM (lgC M so d ofv mn) so d' kd mn' 189 k = (if k = M 138 0 then mn' else M 189 k) := by
    intro k
    unfold lgM
    simp (disch := omega) only [aSet_c, aSet_q]
    rw [e48, hn, lgC_c (by omega), lgC_c (by omega), lgC_c (by omega), lgC_c (by omega)]
    exact ⟨rfl, rfl, rfl, rfl⟩
  refine ⟨by rw [v0]; have := h.1; omega, by rw [v48, v0], fun k k0 k1 => ?_⟩
  rw [v0] at k1
  obtain ⟨c1, c2, c3, c4⟩ := cr k
  obtain ⟨m1, m2, m3, m4⟩ := mr k
  rw [c1, c2, c3, c4, m1, m2, m3, m4]
  by_cases e : k = M 138 0
  · simp only [if_pos e]
    refine ⟨hso, trivial, hmn, h1, fun q => ?_⟩
    rw [e]; exact h2 q
  · simp only [if_neg e]
    exact h.2.2 k k0 (by omega)
/-- what log and annul may change -/
def lgF (M M2 : aM) : Prop := (∀ a, a ≠ 145 → (a < 138 ∨ 142 < a) → (a < 186 ∨ 189 < a) → M2 a = M a) ∧ (∀ j, j ≠ 48 → M2 145 j = M 145 j) ∧ ∀ j, j ≠ 0 → M2 138 j = M 138 j
theorem lgF_add {so d ofv mn so' d' kd mn' : Int} : lgF M (lgM (lgC M so d ofv mn) so' d' kd mn') := by
  refine ⟨fun a a1 a2 a3 => by rw [lgM_c ⟨a1, a3⟩, lgC_c a2], fun j hj => ?_, fun j hj => ?_⟩
  · unfold lgM
    rw [aSet_i hj]
    simp (disch := omega) only [aSet_c]
    rw [lgC_c (by omega)]
  · rw [lgM_c (by omega)]
    unfold lgC
    rw [aSet_i hj]
    simp (disch := omega) only [aSet_c]
theorem lgF_rf : lgF M M := ⟨fun _ _ _ _ => rfl, fun _ _ => rfl, fun _ _ => rfl⟩
theorem o_log (h : rL M) {d k m b : Int} : ∃ v M1 M2, aE 158 [aR 1, aI d, aI k, aI m, aI b] (SH L) M ([aI v], SH L, M1) ∧ aE 297 [aR 145, aI d, aI k, aI m, aI b] (SH L) M1 ([aI v], SH L, M2) ∧ rL M2 ∧ lgF M M2 := by
  have h60 := h.1
  have hn := h.2.1
  by_cases c : (0 ≤ d ∧ d ≤ 99) ∧ (0 ≤ k ∧ k ≤ 13) ∧ 0 ≤ m ∧ m ≤ 99
  · obtain ⟨c1, c2, c3⟩ := c
    have go : ∀ so : Int, (so = 0 ∨ so = 1) → (b = 0 → so = 0) → (¬ b = 0 → so = 1) → ∃ v M1 M2, aE 158 [aR 1, aI d, aI k, aI m, aI b] (SH L) M ([aI v], SH L, M1) ∧ aE 297 [aR 145, aI d, aI k, aI m, aI b] (SH L) M1 ([aI v], SH L, M2) ∧ rL M2 ∧ lgF M M2 := by
      intro so hso h0 h1
      have run1 : ∀ o, aE 157 [aR 138, aI so, aI d, aI k, aI m] (SH L) M o → (∃ v M1, o = ([aI v], SH L, M1)) → aE 158 [aR 1, aI d, aI k, aI m, aI b] (SH L) M o := by
        intro o ho hv
        obtain ⟨v, M1, rfl⟩ := hv
        refine en_158 ⟨fun q => absurd q (by omega), fun _ => ⟨fun q => absurd q (by omega), fun _ => ⟨fun q => absurd q (by omega), fun _ => ⟨fun q => absurd q (by omega), fun _ => ⟨fun q => absurd q (by omega), fun _ => ⟨fun _ => ⟨fun q => ?_, fun q => ?_⟩, fun q => absurd (by omega) q⟩⟩⟩⟩⟩⟩
        · rw [h0 q] at ho; exact bl_158_46 ⟨rfl, M1, v, ho, rfl⟩
        · rw [h1 q] at ho; exact bl_158_46 ⟨rfl, M1, v, ho, rfl⟩
      have run2 : ∀ (M1 : aM) o, aE 296 [aR 145, aI so, aI d, aI k, aI m] (SH L) M1 o → (∃ v M2, o = ([aI v], SH L, M2)) → aE 297 [aR 145, aI d, aI k, aI m, aI b] (SH L) M1 o := by
        intro M1 o ho hv
        obtain ⟨v, M2, rfl⟩ := hv
        refine en_297 ⟨M1, _, s_219, fun q => absurd c1 (bid0.mp q), fun _ => ⟨M1, _, s_219, fun q => absurd c2 (bid0.mp q), fun _ => ⟨M1, _, s_219, fun q => absurd c3 (bid0.mp q), fun _ => ⟨fun q => ?_, fun q => ?_⟩⟩⟩⟩
        · rw [h0 q] at ho; exact bl_297_41 ⟨rfl, M2, v, ho, rfl⟩
        · rw [h1 q] at ho; exact bl_297_41 ⟨rfl, M2, v, ho, rfl⟩
      have e1 := s_157 (L := L) (M := M) (so := so) (d := d) (ofv := k) (mn := m) h60
      by_cases f : M 138 0 < 60
      · rw [if_pos f, if_pos f] at e1
        have e48 : lgC M so d k m 145 = M 145 := lgC_c (by omega)
        have e2 := s_296 (L := L) (M := lgC M so d k m) (so := so) (d := d) (kd := k) (mn := m) (by rw [e48, hn]; exact h60)
        rw [e48, hn, if_pos f, if_pos f] at e2
        exact ⟨_, _, _, run1 _ e1 ⟨_, _, rfl⟩, run2 _ _ e2 ⟨_, _, rfl⟩, rL_add h (by omega) c3 (fun _ => ⟨by omega, rfl, rfl, rfl⟩) (fun q => by omega) f, lgF_add⟩
      · rw [if_neg f, if_neg f] at e1
        have e2 := s_296 (L := L) (M := M) (so := so) (d := d) (kd := k) (mn := m) (by rw [hn]; exact h60)
        rw [hn, if_neg f, if_neg f] at e2
        exact ⟨_, _, _, run1 _ e1 ⟨_, _, rfl⟩, run2 _ _ e2 ⟨_, _, rfl⟩, h, lgF_rf⟩
    by_cases b0 : b = 0
    · exact go 0 (Or.inl rfl) (fun _ => rfl) (fun q => absurd b0 q)
    · exact go 1 (Or.inr rfl) (fun q => absurd q b0) (fun _ => rfl)
  · refine ⟨-1, M, M, en_158 ⟨fun q => rfl, fun q1 => ⟨fun q => rfl, fun q2 => ⟨fun q => rfl, fun q3 => ⟨fun q => rfl, fun q4 => ⟨fun q => rfl, fun q5 => ⟨fun q6 => absurd ⟨by omega, by omega, by omega, q6⟩ c, fun q => rfl⟩⟩⟩⟩⟩⟩, en_297 ⟨M, _, s_219, fun q => rfl, fun q1 => ⟨M, _, s_219, fun q => rfl, fun q2 => ⟨M, _, s_219, fun q => rfl, fun q3 => ?_⟩⟩⟩, h, lgF_rf⟩
    rw [bid0, Classical.not_not] at q1 q2 q3
    exact absurd ⟨q1, q2, q3⟩ c
theorem o_annul (h : rL M) {k : Int} : ∃ v M1 M2, aE 160 [aR 1, aI k] (SH L) M ([aI v], SH L, M1) ∧ aE 298 [aR 145, aI k] (SH L) M1 ([aI v], SH L, M2) ∧ rL M2 ∧ lgF M M2 := by
  have h60 := h.1
  have hn := h.2.1
  by_cases c : 0 ≤ k ∧ k < M 138 0 ∧ ¬ M 139 k = 2
  · have e1 := s_157 (L := L) (M := M) (so := 2) (d := 0) (ofv := k) (mn := 0) h60
    have e186 := (h.2.2 k c.1 c.2.1).2.1
    by_cases f : M 138 0 < 60
    · rw [if_pos f, if_pos f] at e1
      have e48 : lgC M 2 0 k 0 145 = M 145 := lgC_c (by omega)
      have e2 := s_296 (L := L) (M := lgC M 2 0 k 0) (so := 2) (d := k) (kd := -1) (mn := 0) (by rw [e48, hn]; exact h60)
      rw [e48, hn, if_pos f, if_pos f] at e2
      refine ⟨_, _, _, en_160 ⟨M, _, s_159 h60.2, fun _ => ⟨_, _, e1, rfl⟩, fun q => binn c q⟩, en_298 ⟨_, _, s_219, fun q => ?_, fun _ => ?_⟩, rL_add (so := 2) (d := 0) (ofv := k) (mn := 0) (d' := k) (kd := -1) (mn' := 0) h (by omega) (by omega) (fun q => absurd rfl q) (fun _ => ⟨rfl, c.1, c.2.1⟩) f, lgF_add⟩
      · rw [e48, hn, aWi (by omega) (by omega)] at q
        exact absurd (show 0 ≤ k ∧ k ≤ M 138 0 - 1 by omega) (bid0.mp q)
      · simp only [ln0, ln1, ln2, ln3, ln4]
        rw [lgC_c (by omega)]
        exact ⟨by omega, fun q => absurd q (by omega), fun _ => ⟨_, _, e2, rfl⟩⟩
    · rw [if_neg f, if_neg f] at e1
      have e2 := s_296 (L := L) (M := M) (so := 2) (d := k) (kd := -1) (mn := 0) (by rw [hn]; exact h60)
      rw [hn, if_neg f, if_neg f] at e2
      refine ⟨_, _, _, en_160 ⟨M, _, s_159 h60.2, fun _ => ⟨_, _, e1, rfl⟩, fun q => binn c q⟩, en_298 ⟨_, _, s_219, fun _ => rfl, fun _ => ?_⟩, h, lgF_rf⟩
      · simp only [ln0, ln1, ln2, ln3, ln4]
        exact ⟨by omega, fun q => absurd q (by omega), fun _ => ⟨_, _, e2, rfl⟩⟩
  · refine ⟨-1, M, M, en_160 ⟨M, _, s_159 h60.2, fun q => absurd (bin c) q, fun _ => rfl⟩, en_298 ⟨M, _, s_219, fun q => rfl, fun q => ?_⟩, h, lgF_rf⟩
    rw [hn, bid0, Classical.not_not, aWi (by omega) (by omega)] at q
    have e186 := (h.2.2 k q.1 (by omega)).2.1
    simp only [ln0, ln1, ln2, ln3, ln4]
    exact ⟨by omega, fun _ => trivial, fun q2 => absurd ⟨q.1, by omega, by omega⟩ c⟩
end TUES
