/-! the law: what the caches speak of, and no more -/
section KW
variable {L : Nat} {M M1 M2 : aM} {n : Int}
def kw (M M1 : aM) : Prop := (∀ a, (9 ≤ a ∧ a ≤ 30) ∨ (32 ≤ a ∧ a ≤ 38) ∨ (151 ≤ a ∧ a ≤ 178) → M1 a = M a) ∧ M1 31 0 = M 31 0 ∧ M1 1 3 = M 1 3
theorem kw_ext (k : kw M M1) {s t : Int} : ext M1 s t = ext M s t := by unfold ext; rw [k.1 36 (by omega), k.1 37 (by omega)]
theorem kw_lo (k : kw M M1) {s t : Int} : lo M1 s t = lo M s t := by unfold lo; rw [k.1 34 (by omega), k.1 35 (by omega)]
theorem kw_T (h : rP M) (k : kw M M1) : M1 1 3 = M 1 3 ∧ M1 (M 1 3) = M (M 1 3) ∧ M1 (M 1 3 + 6) = M (M 1 3 + 6) := by
  have t := tx_le (rP_tx h)
  exact ⟨k.2.2, k.1 _ (by omega), k.1 _ (by omega)⟩
theorem kw_tA (k : kw M M1) {s t o : Int} : tA M1 t s o = tA M t s o := by
  unfold tA hlf ovX ovY
  rw [k.1 33 (by omega), k.1 34 (by omega), k.1 35 (by omega), k.1 36 (by omega), k.1 37 (by omega)]
theorem kw_wdg (h : rP M) (k : kw M M1) {tg s p : Int} : wdg M1 tg s p = wdg M tg s p := by
  obtain ⟨a, b, c⟩ := kw_T h k
  unfold wdg
  rw [a, b, c, k.1 161 (by omega), k.1 162 (by omega)]
theorem kw_onF (h : rP M) (k : kw M M1) {s t : Int} : onF M1 s t = onF M s t := by
  obtain ⟨a, b, c⟩ := kw_T h k
  unfold onF
  rw [a, b, k.1 34 (by omega), k.1 35 (by omega), k.1 36 (by omega), k.1 37 (by omega)]
theorem kw_frB (h : rP M) (k : kw M M1) {s t : Int} {w : Int → Bool} : frB M1 s w t = frB M s w t := by
  unfold frB cnW
  rw [kw_onF h k, kw_lo k, kw_ext k, k.1 33 (by omega)]
theorem kw_EQ (h : rP M) (k : kw M M1) {ly : Int → Bool} {bs : Int → Int} {s : Int} {F : Int → Bool} : EQ M1 ly bs s F ↔ EQ M ly bs s F := by
  obtain ⟨a, b, c⟩ := kw_T h k
  unfold EQ
  rw [a, b, k.2.1]
  simp only [kw_ext k, kw_tA k]
theorem kw_pF (h : rP M) (k : kw M M1) {ly : Int → Bool} {bs : Int → Int} {s : Int} : pF M1 ly bs s = pF M ly bs s := by
  unfold pF
  have e : (fun F => EQ M1 ly bs s F) = (fun F => EQ M ly bs s F) := funext fun F => propext (kw_EQ h k)
  rw [e]
theorem kw_psh (h : rP M) (k : kw M M1) {ly : Int → Bool} {tg s t : Int} : psh M1 ly tg s t = psh M ly tg s t := by
  unfold psh
  have e : frB M1 s (fun p => wdg M1 tg s p) = frB M s (fun p => wdg M tg s p) := funext fun t => by
    rw [kw_frB h k]
    have : (fun p => wdg M1 tg s p) = (fun p => wdg M tg s p) := funext fun p => kw_wdg h k
    rw [this]
  rw [e, kw_pF h k]
theorem kw_brn (h : rP M) (k : kw M M1) {ly : Int → Bool} {s t : Int} : brn M1 ly s t = brn M ly s t := by
  unfold brn
  have e : frB M1 s (fun _ => true) = frB M s (fun _ => true) := funext fun t => kw_frB h k
  rw [e, kw_pF h k]
theorem kw_hAc (h : rP M) (k : kw M M1) {ly : Int → Bool} {tg t : Int} : hAc M1 ly tg t = hAc M ly tg t := by unfold hAc; simp only [kw_psh h k, kw_brn h k]
theorem kw_hAl (h : rP M) (k : kw M M1) {ly : Int → Bool} {tg t : Int} : hAl M1 ly tg t = hAl M ly tg t := by unfold hAl; simp only [kw_psh h k, kw_brn h k]
theorem kw_hld (h : rP M) (k : kw M M1) {ly : Int → Bool} {tg t : Int} : hld M1 ly tg t = hld M ly tg t := by unfold hld hRd; rw [kw_hAc h k, kw_hAl h k, k.1 33 (by omega)]
theorem kw_lfS (h : rP M) (k : kw M M1) {tg : Int} : ∀ r : Nat, lfS M1 tg r = lfS M tg r
  | 0 => rfl
  | r + 1 => by
    funext t
    show hld M1 (lfS M1 tg r) tg t = hld M (lfS M tg r) tg t
    rw [kw_lfS h k r, kw_hld h k]
theorem kw_drp (h : rP M) (k : kw M M1) {tg t : Int} : drp M1 tg t = drp M tg t := by unfold drp; simp only [kw_lfS h k]
theorem kw_rnd (h : rP M) (k : kw M M1) {tg r : Int} : rndV M1 tg r = rndV M tg r := by unfold rndV; simp only [kw_drp h k]; rw [k.2.1]
theorem kw_kpV (h : rP M) (k : kw M M1) {tg r : Int} : kpV M1 tg r = kpV M tg r := by unfold kpV; simp only [kw_hld h k]; rw [k.2.1]
theorem kw_hSt (h : rP M) (k : kw M M1) : hSt M1 = hSt M := by
  funext s
  unfold hSt
  rw [k.2.1]
  simp only [kw_hld h k]
end KW
