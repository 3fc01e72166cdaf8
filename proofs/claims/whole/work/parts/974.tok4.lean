/-! TOKENS: the reference's scan, the whole of it -/
section TOK4
variable {L : Nat} {M M1 M2 : aM}
def tkS (M : aM) (so fr wh : Int) : aM := aSet (aSet (aSet (aSet M 147 (M 145 2) so) 148 (M 145 2) fr) 149 (M 145 2) wh) 145 2 (M 145 2 + 1)
theorem s_186 {so f w : Int} (h : 0 ≤ M 145 2 ∧ M 145 2 ≤ 2000) : aE 186 [aR 145, aI so, aI f, aI w] (SH L) M ([], SH L, tkS M so f w) := by
  have l7 : aLn (SH L) 1 147 = 2001 := rfl
  have l8 : aLn (SH L) 1 148 = 2001 := rfl
  have l9 : aLn (SH L) 1 149 = 2001 := rfl
  apply en_186
  simp only [aSet_c (show (145 : Int) ≠ 147 by omega), aSet_c (show (145 : Int) ≠ 148 by omega), aSet_c (show (145 : Int) ≠ 149 by omega)]
  refine ⟨by omega, by omega, by omega, ?_⟩
  unfold tkS
  rw [aWi (z := M 145 2 + 1) (by omega) (by omega)]
/-- a TOKEN more -/
def tkA (M M1 M2 : aM) (p : Int) : Prop := (∀ a, a ≠ 145 → (a < 147 ∨ 150 < a) → M2 a = M1 a) ∧ (∀ j, j ≠ 2 → M2 145 j = M1 145 j) ∧ M2 145 2 = M1 145 2 + 1 ∧ (∀ a j, 147 ≤ a → a ≤ 150 → j ≠ M1 145 2 → M2 a j = M1 a j) ∧ M2 147 (M1 145 2) = tyR M p ∧ M2 148 (M1 145 2) = p ∧
  (tyR M p = 1 ∨ tyR M p = 2 ∨ tyR M p = 3 → M2 149 (M1 145 2) = whR M p) ∧ (tyR M p = 0 → M2 150 (M1 145 2) = naR M p)
theorem tkA_S {M1 : aM} {K : aM} {p w : Int} (g1 : ∀ a, a ≠ 150 → K a = M1 a) (g2 : ∀ j, j ≠ M1 145 2 → K 150 j = M1 150 j) (g3 : tyR M p = 0 → K 150 (M1 145 2) = naR M p) (g4 : tyR M p = 1 ∨ tyR M p = 2 ∨ tyR M p = 3 → w = whR M p) : tkA M M1 (tkS K (tyR M p) p w) p := by
  have e : K 145 2 = M1 145 2 := by rw [g1 145 (by omega)]
  unfold tkS
  rw [e]
  refine ⟨fun a a1 a2 => by rw [aSet_c a1, aSet_c (by omega), aSet_c (by omega), aSet_c (by omega), g1 a (by omega)], fun j hj => by rw [aSet_i hj, aSet_c (by omega), aSet_c (by omega), aSet_c (by omega), g1 145 (by omega)], aSet_e, fun a j a1 a2 hj => ?_, ?_, ?_, fun q => ?_, fun q => ?_⟩
  · rw [aSet_c (by omega), aSet_i hj, aSet_i hj, aSet_i hj]
    by_cases c : a = 150
    · rw [c]; exact g2 j hj
    · rw [g1 a c]
  · rw [aSet_c (by omega), aSet_c (by omega), aSet_c (by omega), aSet_e]
  · rw [aSet_c (by omega), aSet_c (by omega), aSet_e]
  · rw [aSet_c (by omega), aSet_e, g4 q]
  · rw [aSet_c (by omega), aSet_c (by omega), aSet_c (by omega), aSet_c (by omega), g3 q]
theorem s_189 (h : tR M) (c : tM M M1) {p : Int} (p0 : 0 ≤ p) (p1 : p < M 145 0) (hi : 0 ≤ M1 145 2 ∧ M1 145 2 ≤ 2000) : ∃ M2, aE 189 [aR 145, aI p] (SH L) M1 ([aI (enT M p)], SH L, M2) ∧ tkA M M1 M2 p := by
  have h1 := h.1
  have h2 := h.2.1
  have hn : M 145 0 ≤ 2000 := by omega
  have l0 : aLn (SH L) 2 150 = 2001 := rfl
  have ce : ¬ M 145 0 ≤ p := by omega
  by_cases cl : isL M p = true
  · have e2 : enT M p = eL M p := by unfold enT; rw [if_neg ce, if_pos cl]
    have el := rn_le (p := isL M) (n := M 145 0) p (by omega)
    have tyE : tyR M p = if 8 < eL M p - p then 5 else if wI (rl M p (eL M p - p).toNat) = -1 then 0 else 3 := by unfold tyR; rw [if_neg ce, if_pos cl]
    have whE : whR M p = cmW (wI (rl M p (eL M p - p).toNat)) := by unfold whR; rw [if_pos cl]
    have lwp := el_lw h p0 (by omega)
    have wd := wd_eq lwp
    have fin : ∀ (v x : Int) (e : Int), e = eL M p → (e - p ≤ 8 → v = naR M p ∧ x = cmW (wI (rl M p (eL M p - p).toNat))) → ∃ M2, aX xc_189 (aSeek xc_189 67) [aR 145, aI p, aI e, aJ v, aU, aU] [aI x] (SH L) M1 ([aI (eL M p)], SH L, M2) ∧ tkA M M1 M2 p := by
      intro v x e he hv
      subst he
      obtain ⟨K, hK⟩ : ∃ K, K = aSet M1 150 (M1 145 2) v := ⟨_, rfl⟩
      have g1 : ∀ a, a ≠ 150 → K a = M1 a := fun a ha => by rw [hK, aSet_c ha]
      have g2 : ∀ j, j ≠ M1 145 2 → K 150 j = M1 150 j := fun j hj => by rw [hK, aSet_i hj]
      have g5 : K 150 (M1 145 2) = v := by rw [hK, aSet_e]
      have r186 : ∀ so : Int, aE 186 [aR 145, aI so, aI p, aI x] (SH L) K ([], SH L, tkS K so p x) := fun so => s_186 (by rw [g1 145 (by omega)]; exact hi)
      have dE : aW (eL M p - p) = eL M p - p := by have : p ≤ eL M p ∧ eL M p ≤ M 145 0 := el; rw [aWi (by omega) (by omega)]
      by_cases g : 8 < eL M p - p
      · rw [if_pos g] at tyE
        have st := tkA_S (M := M) (M1 := M1) (K := K) (p := p) (w := x) g1 g2 (fun q => by omega) (fun q => by omega)
        rw [tyE] at st
        refine ⟨_, bl_189_67 ⟨by omega, fun q => absurd q (by rw [dE]; omega), fun _ => bl_189_102 ⟨rfl, _, by rw [← hK]; exact r186 5, rfl⟩⟩, ?_⟩
        exact st
      · rw [if_neg g] at tyE
        have vv := hv (by omega)
        by_cases w1 : wI (rl M p (eL M p - p).toNat) = -1
        · rw [if_pos w1] at tyE
          have st := tkA_S (M := M) (M1 := M1) (K := K) (p := p) (w := x) g1 g2 (fun q => by rw [g5]; exact vv.1) (fun q => by omega)
          rw [tyE] at st
          have x1 : x = -1 := by rw [vv.2, w1]; rfl
          refine ⟨_, bl_189_67 ⟨by omega, fun _ => ⟨fun _ => bl_189_102 ⟨rfl, _, by rw [← hK]; exact r186 0, rfl⟩, fun q => absurd (by omega) q⟩, fun q => absurd (by rw [dE]; omega) q⟩, ?_⟩
          exact st
        · rw [if_neg w1] at tyE
          have st := tkA_S (M := M) (M1 := M1) (K := K) (p := p) (w := x) g1 g2 (fun q => by omega) (fun q => by rw [whE]; exact vv.2)
          rw [tyE] at st
          have x1 : 0 ≤ x := by
            rw [vv.2]
            have := cm_nn (wI (rl M p (eL M p - p).toNat)).toNat (by omega)
            rw [show (((wI (rl M p (eL M p - p).toNat)).toNat : Nat) : Int) = wI (rl M p (eL M p - p).toNat) by omega] at this
            exact this
          refine ⟨_, bl_189_67 ⟨by omega, fun _ => ⟨fun q => absurd q (by omega), fun _ => bl_189_102 ⟨rfl, _, by rw [← hK]; exact r186 3, rfl⟩⟩, fun q => absurd (by rw [dE]; omega) q⟩, ?_⟩
          exact st
    have key : ∀ k, ∀ v : Int, p ≤ k → k ≤ M 145 0 → eL M p = eL M k → (∀ j, p ≤ j → j < k → 97 ≤ M 146 j ∧ M 146 j ≤ 122) → (k - p ≤ 8 → v = fR 27 96 (rl M p (k - p).toNat)) → ∃ M2, aX xc_189 (aSeek xc_189 12) [aR 145, aI p, aI k, aJ v, aU, aU] [] (SH L) M1 ([aI (eL M p)], SH L, M2) ∧ tkA M M1 M2 p := by
      have ed : ∀ k, ∀ v : Int, p ≤ k → k ≤ M 145 0 → eL M p = eL M k → isL M k = false → (k - p ≤ 8 → v = fR 27 96 (rl M p (k - p).toNat)) → ∃ M2, aX xc_189 (aSeek xc_189 12) [aR 145, aI p, aI k, aJ v, aU, aU] [] (SH L) M1 ([aI (eL M p)], SH L, M2) ∧ tkA M M1 M2 p := by
        intro k v k0 k1 eq nl hv
        have ek : k = eL M p := by rw [eq]; exact (rn_stop nl k1).symm
        have r184 := s_184 (L := L) c (k := k) (by omega) hn
        rw [nl] at r184
        have dE : aW (k - p) = k - p := by rw [aWi (by omega) (by omega)]
        by_cases g : k - p ≤ 8
        · have vv := hv g
          have nv : v = naR M p := by rw [vv]; unfold naR; rw [← ek]
          obtain ⟨M2, r, y⟩ := fin v (cmW (wI (rl M p (eL M p - p).toNat))) k ek (fun _ => ⟨nv, rfl⟩)
          have r187 : aE 187 [aJ v] (SH L) M1 ([aI (cmW (wI (rl M p (eL M p - p).toNat)))], SH L, M1) := by
            rw [← wd.1, nv]; exact s_187
          exact ⟨M2, bl_189_12 ⟨M1, _, r184, fun _ => ⟨fun _ => ⟨M1, _, r187, r⟩, fun q => absurd (by rw [dE]; exact g) q⟩, fun q => absurd rfl q⟩, y⟩
        · obtain ⟨M2, r, y⟩ := fin v (-1) k ek (fun q => absurd q g)
          exact ⟨M2, bl_189_12 ⟨M1, _, r184, fun _ => ⟨fun q => absurd q (by rw [dE]; exact g), fun _ => r⟩, fun q => absurd rfl q⟩, y⟩
      refine upto (M 145 0) (fun k hk v k0 k1 eq hl hv => ?_) (fun k hk ih v k0 k1 eq hl hv => ?_)
      · exact ed k v k0 k1 eq (by unfold isL; exact decide_eq_false (by omega)) hv
      · by_cases g : isL M k = true
        · have g2 := of_decide_eq_true (show decide (k < M 145 0 ∧ 97 ≤ M 146 k ∧ M 146 k ≤ 122) = true from g)
          have r184 := s_184 (L := L) c (k := k) (by omega) hn
          rw [g] at r184
          have dE : aW (k - p) = k - p := by rw [aWi (by omega) (by omega)]
          have hl2 : ∀ j, p ≤ j → j < k + 1 → 97 ≤ M 146 j ∧ M 146 j ≤ 122 := fun j j0 j1 => by
            by_cases q : j = k
            · rw [q]; exact g2.2
            · exact hl j j0 (by omega)
          have nx : ∀ w : Int, (k + 1 - p ≤ 8 → w = fR 27 96 (rl M p (k + 1 - p).toNat)) → ∃ M2, aX xc_189 (aSeek xc_189 45) [aR 145, aI p, aI k, aJ w, aU, aU] [] (SH L) M1 ([aI (eL M p)], SH L, M2) ∧ tkA M M1 M2 p := by
            intro w hw
            obtain ⟨M2, r, y⟩ := ih w (by omega) (by omega) (by rw [eq]; exact rn_go g hk) hl2 hw
            refine ⟨M2, bl_189_45 ?_, y⟩
            rw [aWi (z := k + 1) (by omega) (by omega)]
            exact r
          by_cases g8 : 8 ≤ k - p
          · obtain ⟨M2, r, y⟩ := nx v (fun q => by omega)
            exact ⟨M2, bl_189_12 ⟨M1, _, r184, fun q => absurd q (by decide), fun _ => ⟨fun _ => r, fun q => absurd (by rw [dE]; exact g8) q⟩⟩, y⟩
          · have vv := hv (by omega)
            have bd := fR_le (m := 27) (s := 96) (by omega) (rl M p (k - p).toNat) (fun x hx => by
              have := rl_mem (M := M) (p := p) (lo := 97) (hi := 122) (k - p).toNat (fun j j0 j1 => hl j j0 (by omega)) x hx
              omega)
            rw [rl_len] at bd
            have mm := pw_mono (m := 27) (by omega) (show (k - p).toNat ≤ 7 by omega)
            rw [show (27 : Int) ^ 7 = 10460353203 by decide] at mm
            obtain ⟨M2, r, y⟩ := nx (v * 27 + M 146 k - 96) (fun q => by
              rw [vv, show (k + 1 - p).toNat = (k - p).toNat + 1 by omega]
              show _ = 27 * fR 27 96 (rl M p (k - p).toNat) + (M 146 (p + ((k - p).toNat : Nat)) - 96)
              rw [show p + ((k - p).toNat : Nat) = k by omega]
              omega)
            have r183 := s_183 (L := L) c (k := k) (by omega) hn
            rw [if_pos hk] at r183
            refine ⟨M2, bl_189_12 ⟨M1, _, r184, fun q => absurd q (by decide), fun _ => ⟨fun q => absurd q (by rw [dE]; exact g8), fun _ => ⟨M1, _, r183, ?_⟩⟩⟩, y⟩
            rw [aWLi (z := v * 27) (by omega) (by omega), aWLi (z := v * 27 + M 146 k) (by omega) (by omega), aWLi (by omega) (by omega)]
            exact r
        · exact ed k v k0 k1 eq (by simpa using g) hv
    obtain ⟨M2, r, y⟩ := key p 0 (by omega) (by omega) rfl (fun j j0 j1 => by omega) (fun _ => by rw [show (p - p).toNat = 0 by omega]; rfl)
    have r184 := s_184 (L := L) c (k := p) p0 hn
    rw [cl] at r184
    rw [e2]
    exact ⟨M2, en_189 ⟨M1, _, r184, fun q => absurd q (by decide), fun _ => r⟩, y⟩
  · have cl' : isL M p = false := by simpa using cl
    have r184 := s_184 (L := L) c (k := p) p0 hn
    rw [cl'] at r184
    have r185 := s_185 (L := L) c (k := p) p0 hn
    by_cases cd : isDg M p = true
    · rw [cd] at r185
      have e2 : enT M p = eD M p := by unfold enT; rw [if_neg ce, if_neg cl, if_pos cd]
      have tyE : tyR M p = if 4 < eD M p - p then 5 else 1 := by unfold tyR; rw [if_neg ce, if_neg cl, if_pos cd]
      have whE : whR M p = fR 10 48 (rl M p (eD M p - p).toNat) := by unfold whR; rw [if_neg cl, if_pos cd]
      have st : ∀ w, (tyR M p = 1 ∨ tyR M p = 2 ∨ tyR M p = 3 → w = whR M p) → tkA M M1 (tkS M1 (tyR M p) p w) p := fun w hw => tkA_S (fun _ _ => rfl) (fun _ _ => rfl) (fun q => by rw [tyE] at q; split at q <;> omega) hw
      have key : ∀ k, ∀ v : Int, p ≤ k → k ≤ M 145 0 → eD M p = eD M k → (∀ j, p ≤ j → j < k → 48 ≤ M 146 j ∧ M 146 j ≤ 57) → (k - p ≤ 4 → v = fR 10 48 (rl M p (k - p).toNat)) → ∃ M2, aX xc_189 (aSeek xc_189 120) [aR 145, aI p, aI k, aI v, aU, aU] [] (SH L) M1 ([aI (eD M p)], SH L, M2) ∧ tkA M M1 M2 p := by
        have ed : ∀ k, ∀ v : Int, p ≤ k → k ≤ M 145 0 → eD M p = eD M k → isDg M k = false → (k - p ≤ 4 → v = fR 10 48 (rl M p (k - p).toNat)) → ∃ M2, aX xc_189 (aSeek xc_189 120) [aR 145, aI p, aI k, aI v, aU, aU] [] (SH L) M1 ([aI (eD M p)], SH L, M2) ∧ tkA M M1 M2 p := by
          intro k v k0 k1 eq nl hv
          have ek : k = eD M p := by rw [eq]; exact (rn_stop nl k1).symm
          have rk := s_185 (L := L) c (k := k) (by omega) hn
          rw [nl] at rk
          have dE : aW (k - p) = k - p := by rw [aWi (by omega) (by omega)]
          by_cases g : 4 < k - p
          · have t5 : tyR M p = 5 := by rw [tyE, ← ek, if_pos g]
            have s := st v (fun q => by omega)
            rw [t5] at s
            exact ⟨_, bl_189_120 ⟨M1, _, rk, fun _ => ⟨fun q => absurd q (by rw [dE]; omega), fun _ => bl_189_168 ⟨rfl, _, s_186 hi, by rw [ek]⟩⟩, fun q => absurd rfl q⟩, s⟩
          · have t1 : tyR M p = 1 := by rw [tyE, ← ek, if_neg g]
            have s := st v (fun q => by rw [hv (by omega), whE, ← ek])
            rw [t1] at s
            exact ⟨_, bl_189_120 ⟨M1, _, rk, fun _ => ⟨fun _ => bl_189_168 ⟨rfl, _, s_186 hi, by rw [ek]⟩, fun q => absurd (by rw [dE]; omega) q⟩, fun q => absurd rfl q⟩, s⟩
        refine upto (M 145 0) (fun k hk v k0 k1 eq hl hv => ?_) (fun k hk ih v k0 k1 eq hl hv => ?_)
        · exact ed k v k0 k1 eq (by unfold isDg; exact decide_eq_false (by omega)) hv
        · by_cases g : isDg M k = true
          · have g2 := of_decide_eq_true (show decide (k < M 145 0 ∧ 48 ≤ M 146 k ∧ M 146 k ≤ 57) = true from g)
            have rk := s_185 (L := L) c (k := k) (by omega) hn
            rw [g] at rk
            have dE : aW (k - p) = k - p := by rw [aWi (by omega) (by omega)]
            have hl2 : ∀ j, p ≤ j → j < k + 1 → 48 ≤ M 146 j ∧ M 146 j ≤ 57 := fun j j0 j1 => by
              by_cases q : j = k
              · rw [q]; exact g2.2
              · exact hl j j0 (by omega)
            have nx : ∀ w : Int, (k + 1 - p ≤ 4 → w = fR 10 48 (rl M p (k + 1 - p).toNat)) → ∃ M2, aX xc_189 (aSeek xc_189 149) [aR 145, aI p, aI k, aI w, aU, aU] [] (SH L) M1 ([aI (eD M p)], SH L, M2) ∧ tkA M M1 M2 p := by
              intro w hw
              obtain ⟨M2, r, y⟩ := ih w (by omega) (by omega) (by rw [eq]; exact rn_go g hk) hl2 hw
              refine ⟨M2, bl_189_149 ?_, y⟩
              rw [aWi (z := k + 1) (by omega) (by omega)]
              exact r
            by_cases g8 : 4 ≤ k - p
            · obtain ⟨M2, r, y⟩ := nx v (fun q => by omega)
              exact ⟨M2, bl_189_120 ⟨M1, _, rk, fun q => absurd q (by decide), fun _ => ⟨fun _ => r, fun q => absurd (by rw [dE]; exact g8) q⟩⟩, y⟩
            · have vv := hv (by omega)
              have bd := fR_le (m := 10) (s := 48) (by omega) (rl M p (k - p).toNat) (fun x hx => by
                have := rl_mem (M := M) (p := p) (lo := 48) (hi := 57) (k - p).toNat (fun j j0 j1 => hl j j0 (by omega)) x hx
                omega)
              rw [rl_len] at bd
              have mm := pw_mono (m := 10) (by omega) (show (k - p).toNat ≤ 3 by omega)
              rw [show (10 : Int) ^ 3 = 1000 by decide] at mm
              obtain ⟨M2, r, y⟩ := nx (10 * v + M 146 k - 48) (fun q => by
                rw [vv, show (k + 1 - p).toNat = (k - p).toNat + 1 by omega]
                show _ = 10 * fR 10 48 (rl M p (k - p).toNat) + (M 146 (p + ((k - p).toNat : Nat)) - 48)
                rw [show p + ((k - p).toNat : Nat) = k by omega]
                omega)
              have r183 := s_183 (L := L) c (k := k) (by omega) hn
              rw [if_pos hk] at r183
              refine ⟨M2, bl_189_120 ⟨M1, _, rk, fun q => absurd q (by decide), fun _ => ⟨fun q => absurd q (by rw [dE]; exact g8), fun _ => ⟨M1, _, r183, ?_⟩⟩⟩, y⟩
              rw [aWi (z := 10 * v) (by omega) (by omega), aWi (z := 10 * v + M 146 k) (by omega) (by omega), aWi (by omega) (by omega)]
              exact r
          · exact ed k v k0 k1 eq (by simpa using g) hv
      obtain ⟨M2, r, y⟩ := key p 0 (by omega) (by omega) rfl (fun j j0 j1 => by omega) (fun _ => by rw [show (p - p).toNat = 0 by omega]; rfl)
      rw [e2]
      exact ⟨M2, en_189 ⟨M1, _, r184, fun _ => ⟨M1, _, r185, fun q => absurd q (by decide), fun _ => r⟩, fun q => absurd rfl q⟩, y⟩
    · have cd' : isDg M p = false := by simpa using cd
      rw [cd'] at r185
      have r188 := s_188 (L := L) c p0 p1 hn
      obtain ⟨sg, hsg⟩ : ∃ sg, sg = sgC (M 146 p) (dbl M p) := ⟨_, rfl⟩
      have sgn : sg = 1 ∨ 4 ≤ sg ∧ sg ≤ 15 := by
        rw [hsg]
        unfold sgC
        repeat' split
        all_goals omega
      have e2 : enT M p = if sg = 10 ∨ sg = 11 ∨ sg = 13 then p + 2 else p + 1 := by unfold enT; rw [if_neg ce, if_neg cl, if_neg cd, hsg]
      have tyE : tyR M p = if sg = 1 then 5 else 2 := by unfold tyR; rw [if_neg ce, if_neg cl, if_neg cd, hsg]
      have whE : whR M p = sgR sg := by unfold whR; rw [if_neg cl, if_neg cd, hsg]
      rw [← hsg] at r188
      have s := tkA_S (M := M) (M1 := M1) (K := M1) (p := p) (w := sgR sg) (fun _ _ => rfl) (fun _ _ => rfl) (fun q => by rw [tyE] at q; split at q <;> omega) (fun _ => whE.symm)
      have sz : (sgR sg = 0 ↔ sg = 1) ∧ (300 ≤ sgR sg ↔ (sg = 10 ∨ sg = 11 ∨ sg = 13)) := by
        have : sg = 1 ∨ sg = 4 ∨ sg = 5 ∨ sg = 6 ∨ sg = 7 ∨ sg = 8 ∨ sg = 9 ∨ sg = 10 ∨ sg = 11 ∨ sg = 12 ∨ sg = 13 ∨ sg = 14 ∨ sg = 15 := by omega
        rcases this with q | q | q | q | q | q | q | q | q | q | q | q | q <;> rw [q] <;> decide
      have fin : ∀ so : Int, so = tyR M p → aX xc_189 (aSeek xc_189 191) [aU, aI p, aU, aI (sgR sg), aU, aU] [aI so, aR 145] (SH L) M1 ([aI (enT M p)], SH L, tkS M1 (tyR M p) p (sgR sg)) := by
        intro so hso
        subst hso
        refine bl_189_191 ⟨rfl, _, s_186 hi, fun q => ?_, fun q => ?_⟩
        · rw [e2, if_neg (by omega), aWi (z := p + 1) (by omega) (by omega)]
        · rw [e2, if_pos (by omega), aWi (z := p + 2) (by omega) (by omega)]
      refine ⟨_, en_189 ⟨M1, _, r184, fun _ => ⟨M1, _, r185, fun _ => ⟨M1, _, r188, fun q => fin 2 ?_, fun q => fin 5 ?_⟩, fun q => absurd rfl q⟩, fun q => absurd rfl q⟩, s⟩
      · rw [tyE, if_neg (by omega)]
      · rw [tyE, if_pos (by omega)]
def tkM (M M2 : aM) (N : Nat) : Prop := N ≤ 2000 ∧ (∀ i : Nat, i ≤ N → M2 147 (i : Int) = tyR M (pl M i) ∧ M2 148 (i : Int) = pl M i ∧ (tyR M (pl M i) = 1 ∨ tyR M (pl M i) = 2 ∨ tyR M (pl M i) = 3 → M2 149 (i : Int) = whR M (pl M i)) ∧ (tyR M (pl M i) = 0 → M2 150 (i : Int) = naR M (pl M i))) ∧
  (∀ i : Nat, i < N → ¬ (tyR M (pl M i) = 4 ∨ tyR M (pl M i) = 5)) ∧ (tyR M (pl M N) = 4 ∨ tyR M (pl M N) = 5)
theorem s_190 {B : aM} (h : tR M) (cB : tM M B) : ∃ N M2, aE 190 [aR 145] (SH L) B ([], SH L, M2) ∧ (∀ a, a ≠ 145 → (a < 147 ∨ 150 < a) → M2 a = B a) ∧ (∀ j, j ≠ 2 → M2 145 j = B 145 j) ∧ tkM M M2 N := by
  have h1 := h.1
  have h2 := h.2.1
  have hn : M 145 0 ≤ 2000 := by omega
  have l7 : aLn (SH L) 1 147 = 2001 := rfl
  let G : aM → Nat → Prop := fun M' i => (∀ a, a ≠ 145 → (a < 147 ∨ 150 < a) → M' a = B a) ∧ (∀ j, j ≠ 2 → M' 145 j = B 145 j) ∧ M' 145 2 = (i : Int) ∧ ∀ j : Nat, j < i → M' 147 (j : Int) = tyR M (pl M j) ∧ M' 148 (j : Int) = pl M j ∧ (tyR M (pl M j) = 1 ∨ tyR M (pl M j) = 2 ∨ tyR M (pl M j) = 3 → M' 149 (j : Int) = whR M (pl M j)) ∧ (tyR M (pl M j) = 0 → M' 150 (j : Int) = naR M (pl M j))
  have key : ∀ k, ∀ i : Nat, ∀ M' : aM, fm M i ≤ k → k ≤ M 145 0 → skT M k = pl M i → (i : Int) ≤ k → G M' i → (∀ j : Nat, j < i → ¬ (tyR M (pl M j) = 4 ∨ tyR M (pl M j) = 5)) →
      ∃ N M2, aX xc_190 (aSeek xc_190 9) [aR 145, aI k, aI 1, aU] [] (SH L) M' ([], SH L, M2) ∧ (∀ a, a ≠ 145 → (a < 147 ∨ 150 < a) → M2 a = B a) ∧ (∀ j, j ≠ 2 → M2 145 j = B 145 j) ∧ tkM M M2 N := by
    have stp : ∀ (m : Nat) (k : Int), (M 145 0 - k).toNat < m → ∀ i : Nat, ∀ M' : aM, fm M i ≤ k → k ≤ M 145 0 → skT M k = pl M i → (i : Int) ≤ k → G M' i → (∀ j : Nat, j < i → ¬ (tyR M (pl M j) = 4 ∨ tyR M (pl M j) = 5)) →
      ∃ N M2, aX xc_190 (aSeek xc_190 9) [aR 145, aI k, aI 1, aU] [] (SH L) M' ([], SH L, M2) ∧ (∀ a, a ≠ 145 → (a < 147 ∨ 150 < a) → M2 a = B a) ∧ (∀ j, j ≠ 2 → M2 145 j = B 145 j) ∧ tkM M M2 N := by
      intro m
      induction m with
      | zero => intro k hm; omega
      | succ m ih =>
        intro k hm i M' k0 k1 sk ik hG hj
        obtain ⟨g1, g2, g3, g4⟩ := hG
        have f0 := (fm_rng h i).1
        have c : tM M M' := ⟨(g2 0 (by omega)).trans cB.1, (g1 146 (by omega) (by omega)).trans cB.2⟩
        by_cases ck : M 145 0 ≤ k
        · have pe : pl M i = M 145 0 := by rw [← sk]; unfold skT rnE; rw [fndI_nil ck]
          have t4 : tyR M (pl M i) = 4 := by unfold tyR; rw [if_pos (by omega)]
          obtain ⟨K, hK⟩ : ∃ K, K = tkS M' 4 (M 145 0) 0 := ⟨_, rfl⟩
          have ta := tkA_S (M := M) (M1 := M') (K := M') (p := pl M i) (w := 0) (fun _ _ => rfl) (fun _ _ => rfl) (fun q => by omega) (fun q => by omega)
          rw [t4, pe, ← hK, ← pe] at ta
          obtain ⟨b1, b2, b3, b4, b5, b6, b7, b8⟩ := ta
          rw [g3] at b3 b4 b5 b6 b7 b8
          refine ⟨i, K, bl_190_9 ⟨fun _ => bl_190_87 ⟨fun q => absurd q (by omega), fun _ => ⟨K, ?_, rfl⟩⟩, fun q => absurd (by rw [c.1]; exact ck) q⟩, fun a a1 a2 => by rw [b1 a a1 a2, g1 a a1 a2], fun j hj2 => by rw [b2 j hj2, g2 j hj2], by omega, fun j hj2 => ?_, hj, Or.inl t4⟩
          · rw [hK, c.1]; exact s_186 (by rw [g3]; omega)
          · by_cases q : j = i
            · rw [q]; exact ⟨b5, b6, b7, b8⟩
            · rw [b4 147 _ (by omega) (by omega) (by omega), b4 148 _ (by omega) (by omega) (by omega), b4 149 _ (by omega) (by omega) (by omega), b4 150 _ (by omega) (by omega) (by omega)]
              exact g4 j (by omega)
        · have r183 := s_183 (L := L) c (k := k) (by omega) hn
          rw [if_pos (by omega)] at r183
          by_cases cb : isB M k = true
          · have cb2 := of_decide_eq_true (show decide (k < M 145 0 ∧ (M 146 k = 9 ∨ M 146 k = 10 ∨ M 146 k = 13 ∨ M 146 k = 32)) = true from cb)
            obtain ⟨N, M2, r, y⟩ := ih (k + 1) (by omega) i M' (by omega) (by omega) (by rw [← sk]; exact (rn_go cb (by omega)).symm) (by omega) ⟨g1, g2, g3, g4⟩ hj
            have r51 : aX xc_190 (aSeek xc_190 51) [aR 145, aI k, aI 1, aU] [] (SH L) M' ([], SH L, M2) := by
              refine bl_190_51 ?_
              rw [aWi (z := k + 1) (by omega) (by omega)]
              exact r
            exact ⟨N, M2, bl_190_9 ⟨fun q => absurd q (by rw [c.1]; exact ck), fun _ => ⟨fun q => absurd q (by omega), fun _ => ⟨M', _, r183, fun _ => r51, fun _ => ⟨fun _ => r51, fun _ => ⟨fun _ => r51, fun _ => ⟨fun q => absurd q (by omega), fun _ => r51⟩⟩⟩⟩⟩⟩, y⟩
          · have pk : pl M i = k := by rw [← sk]; exact rn_stop (by simpa using cb) k1
            have nb : ¬ (M 146 k = 9 ∨ M 146 k = 10 ∨ M 146 k = 13 ∨ M 146 k = 32) := fun q => cb (by unfold isB; exact decide_eq_true ⟨by omega, q⟩)
            obtain ⟨K, r189, ta⟩ := s_189 (L := L) h c (p := k) (by omega) (by omega) (by rw [g3]; omega)
            obtain ⟨b1, b2, b3, b4, b5, b6, b7, b8⟩ := ta
            rw [g3] at b3 b4 b5 b6 b7 b8
            have er := en_rng h (p := k) (by omega) k1
            have all : ∀ j : Nat, j < i + 1 → K 147 (j : Int) = tyR M (pl M j) ∧ K 148 (j : Int) = pl M j ∧ (tyR M (pl M j) = 1 ∨ tyR M (pl M j) = 2 ∨ tyR M (pl M j) = 3 → K 149 (j : Int) = whR M (pl M j)) ∧ (tyR M (pl M j) = 0 → K 150 (j : Int) = naR M (pl M j)) := by
              intro j hj2
              by_cases q : j = i
              · rw [q, pk]; exact ⟨b5, b6, b7, b8⟩
              · rw [b4 147 _ (by omega) (by omega) (by omega), b4 148 _ (by omega) (by omega) (by omega), b4 149 _ (by omega) (by omega) (by omega), b4 150 _ (by omega) (by omega) (by omega)]
                exact g4 j (by omega)
            have gK1 : ∀ a, a ≠ 145 → (a < 147 ∨ 150 < a) → K a = B a := fun a a1 a2 => by rw [b1 a a1 a2, g1 a a1 a2]
            have gK2 : ∀ j, j ≠ 2 → K 145 j = B 145 j := fun j hj2 => by rw [b2 j hj2, g2 j hj2]
            have idx : aW (K 145 2 - 1) = (i : Int) := by rw [b3, aWi (by omega) (by omega)]; omega
            have t4 : tyR M k ≠ 4 := by
              unfold tyR
              rw [if_neg ck]
              repeat' split
              all_goals omega
            have st : ∀ o, (tyR M k = 5 → aX xc_190 (aSeek xc_190 83) [aR 145, aI (enT M k), aU, aU] [aI 0] (SH L) K o) → (¬ tyR M k = 5 → aX xc_190 (aSeek xc_190 83) [aR 145, aI (enT M k), aU, aU] [aI 1] (SH L) K o) → aX xc_190 (aSeek xc_190 9) [aR 145, aI k, aI 1, aU] [] (SH L) M' o := by
              intro o x y
              refine bl_190_9 ⟨fun q => absurd q (by rw [c.1]; exact ck), fun _ => ⟨fun q => absurd q (by omega), fun _ => ⟨M', _, r183, fun q => by omega, fun _ => ⟨fun q => by omega, fun _ => ⟨fun q => by omega, fun _ => ⟨fun _ => ⟨K, _, r189, by rw [idx]; omega, ?_⟩, fun q => absurd (by omega) q⟩⟩⟩⟩⟩⟩
              rw [idx, b5]
              exact ⟨x, y⟩
            by_cases t5 : tyR M k = 5
            · refine ⟨i, K, st _ (fun _ => bl_190_83 (bl_190_9 ⟨fun _ => bl_190_87 ⟨fun _ => rfl, fun q => absurd rfl q⟩, fun _ => ⟨fun _ => bl_190_87 ⟨fun _ => rfl, fun q => absurd rfl q⟩, fun q => absurd rfl q⟩⟩)) (fun q => absurd t5 q), gK1, gK2, by omega, fun j hj2 => all j (by omega), hj, Or.inr (by rw [pk]; exact t5)⟩
            · obtain ⟨N, M2, r, y⟩ := ih (enT M k) (by have := er.2.2 (by omega); omega) (i + 1) K (by show enT M (pl M i) ≤ enT M k; rw [pk]; exact Int.le_refl _) er.2.1 (by rw [pl_fm]; show skT M (enT M k) = skT M (enT M (pl M i)); rw [pk]) (by have := er.2.2 (by omega); omega) ⟨gK1, gK2, by rw [b3]; omega, all⟩ (fun j hj2 => by
                by_cases q : j = i
                · rw [q, pk]; omega
                · exact hj j (by omega))
              exact ⟨N, M2, st _ (fun q => absurd q t5) (fun _ => bl_190_83 r), y⟩
    intro k
    exact stp _ k (Nat.lt_succ_self _)
  obtain ⟨K, hK⟩ : ∃ K, K = aSet B 145 2 0 := ⟨_, rfl⟩
  obtain ⟨N, M2, r, y⟩ := key 0 0 K (Int.le_refl _) (by omega) rfl (Int.le_refl _) ⟨fun a a1 a2 => by rw [hK, aSet_c a1], fun j hj => by rw [hK, aSet_i hj], by rw [hK, aSet_e]; rfl, fun j hj => by omega⟩ (fun j hj => by omega)
  exact ⟨N, M2, en_190 (by rw [← hK]; exact r), y⟩
end TOK4
