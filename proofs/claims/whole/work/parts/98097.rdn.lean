/-! the law: read behind a FAULT -/
section KZ
variable {L : Nat} {M M1 M2 Z : aM} {n : Int}
/-- what the caches speak of, place by place -/
def kz (M M1 : aM) : Prop := (∀ a, (M 1 3 ≤ a ∧ a ≤ M 1 3 + 10) ∨ (32 ≤ a ∧ a ≤ 38) → M1 a = M a) ∧ M1 31 0 = M 31 0 ∧ M1 1 3 = M 1 3 ∧ (∀ p, p < 6 → M1 161 p = M 161 p ∧ M1 162 p = M 162 p) ∧ gvV M1 = gvV M
theorem kz_ext (k : kz M M1) {s t : Int} : ext M1 s t = ext M s t := by unfold ext; rw [k.1 36 (by omega), k.1 37 (by omega)]
theorem kz_lo (k : kz M M1) {s t : Int} : lo M1 s t = lo M s t := by unfold lo; rw [k.1 34 (by omega), k.1 35 (by omega)]
theorem kz_T (h : rP M) (k : kz M M1) : M1 1 3 = M 1 3 ∧ M1 (M 1 3) = M (M 1 3) ∧ M1 (M 1 3 + 6) = M (M 1 3 + 6) := by
  have t := tx_le (rP_tx h)
  exact ⟨k.2.2.1, k.1 _ (by omega), k.1 _ (by omega)⟩
theorem kz_tA (k : kz M M1) {s t o : Int} : tA M1 t s o = tA M t s o := by
  unfold tA hlf ovX ovY
  rw [k.1 33 (by omega), k.1 34 (by omega), k.1 35 (by omega), k.1 36 (by omega), k.1 37 (by omega)]
theorem kz_wdg (h : rP M) (k : kz M M1) {tg s p : Int} : wdg M1 tg s p = wdg M tg s p := by
  obtain ⟨a, b, c⟩ := kz_T h k
  have w6 := h.1.2.2.2.1.2.1
  unfold wdg
  rw [a, b, c]
  exact anyI_congr 0 (fun j j0 j1 => by rw [(k.2.2.2.1 j (by omega)).1, (k.2.2.2.1 j (by omega)).2])
theorem kz_onF (h : rP M) (k : kz M M1) {s t : Int} : onF M1 s t = onF M s t := by
  obtain ⟨a, b, c⟩ := kz_T h k
  unfold onF
  rw [a, b, k.1 34 (by omega), k.1 35 (by omega), k.1 36 (by omega), k.1 37 (by omega)]
theorem kz_frB (h : rP M) (k : kz M M1) {s t : Int} {w : Int → Bool} : frB M1 s w t = frB M s w t := by
  unfold frB cnW
  rw [kz_onF h k, kz_lo k, kz_ext k, k.1 33 (by omega)]
theorem kz_EQ (h : rP M) (k : kz M M1) {ly : Int → Bool} {bs : Int → Int} {s : Int} {F : Int → Bool} : EQ M1 ly bs s F ↔ EQ M ly bs s F := by
  obtain ⟨a, b, c⟩ := kz_T h k
  unfold EQ
  rw [a, b, k.2.1]
  simp only [kz_ext k, kz_tA k]
theorem kz_pF (h : rP M) (k : kz M M1) {ly : Int → Bool} {bs : Int → Int} {s : Int} : pF M1 ly bs s = pF M ly bs s := by
  unfold pF
  have e : (fun F => EQ M1 ly bs s F) = (fun F => EQ M ly bs s F) := funext fun F => propext (kz_EQ h k)
  rw [e]
theorem kz_psh (h : rP M) (k : kz M M1) {ly : Int → Bool} {tg s t : Int} : psh M1 ly tg s t = psh M ly tg s t := by
  unfold psh
  have e : frB M1 s (fun p => wdg M1 tg s p) = frB M s (fun p => wdg M tg s p) := funext fun t => by
    rw [kz_frB h k]
    have : (fun p => wdg M1 tg s p) = (fun p => wdg M tg s p) := funext fun p => kz_wdg h k
    rw [this]
  rw [e, kz_pF h k]
theorem kz_brn (h : rP M) (k : kz M M1) {ly : Int → Bool} {s t : Int} : brn M1 ly s t = brn M ly s t := by
  unfold brn
  have e : frB M1 s (fun _ => true) = frB M s (fun _ => true) := funext fun t => kz_frB h k
  rw [e, kz_pF h k]
theorem kz_hAc (h : rP M) (k : kz M M1) {ly : Int → Bool} {tg t : Int} : hAc M1 ly tg t = hAc M ly tg t := by unfold hAc; simp only [kz_psh h k, kz_brn h k]
theorem kz_hAl (h : rP M) (k : kz M M1) {ly : Int → Bool} {tg t : Int} : hAl M1 ly tg t = hAl M ly tg t := by unfold hAl; simp only [kz_psh h k, kz_brn h k]
theorem kz_hld (h : rP M) (k : kz M M1) {ly : Int → Bool} {tg t : Int} : hld M1 ly tg t = hld M ly tg t := by unfold hld hRd; rw [kz_hAc h k, kz_hAl h k, k.1 33 (by omega)]
theorem kz_lfS (h : rP M) (k : kz M M1) {tg : Int} : ∀ r : Nat, lfS M1 tg r = lfS M tg r
  | 0 => rfl
  | r + 1 => by
    funext t
    show hld M1 (lfS M1 tg r) tg t = hld M (lfS M tg r) tg t
    rw [kz_lfS h k r, kz_hld h k]
theorem kz_drp (h : rP M) (k : kz M M1) {tg t : Int} : drp M1 tg t = drp M tg t := by unfold drp; simp only [kz_lfS h k]
theorem kz_rnd (h : rP M) (k : kz M M1) {tg r : Int} : rndV M1 tg r = rndV M tg r := by unfold rndV; simp only [kz_drp h k]; rw [k.2.1]
theorem kz_kpV (h : rP M) (k : kz M M1) {tg r : Int} : kpV M1 tg r = kpV M tg r := by unfold kpV; simp only [kz_hld h k]; rw [k.2.1]
theorem kz_hSt (h : rP M) (k : kz M M1) : hSt M1 = hSt M := by
  funext s
  unfold hSt
  rw [k.2.1]
  simp only [kz_hld h k]
theorem kz_lfT (h : rP M) (k : kz M M1) {i : Int} : lfT M1 i = lfT M i := by
  have tl := tx_le (rP_tx h)
  unfold lfT cntK
  rw [k.2.2.1, k.1 (M 1 3) (by omega), k.1 (M 1 3 + 2) (by omega), k.1 (M 1 3 + 5) (by omega), k.2.1, k.1 (31 + 1) (by omega)]
theorem kz_cP (hp : rP M) (h : cP M) (k : kz M M1) (k31 : M1 31 = M 31) (e9 : M1 1 9 = M 1 9) (e10 : M1 1 10 = M 1 10) (f : ∀ a, 64 ≤ a → a ≤ 83 → M1 a = M a) : cP M1 := by
  unfold cP at h ⊢
  rw [f 64 (by omega) (by omega), e9, e10]
  refine ⟨h.1, h.2.1, fun q => ctR_cg (h.2.2.1 q) (fun a x y => ?_) (fun a x y => f a (by omega) (by omega)) (by rw [f 64 (by omega) (by omega)]), fun q => ?_⟩
  · by_cases c : a = 31
    · rw [c, k31]
    · exact k.1 a (by omega)
  · obtain ⟨x1, x2, x3⟩ := h.2.2.2 q
    refine ⟨x1, ?_, ?_⟩
    · unfold liR at x2 ⊢
      rw [f 64 (by omega) (by omega), f 65 (by omega) (by omega), f 66 (by omega) (by omega), k31]
      rcases x2 with x2 | ⟨y1, y2, y3⟩
      · exact Or.inl x2
      · exact Or.inr ⟨y1, fun t t0 t1 => by rw [kz_drp hp k]; exact y2 t t0 t1, fun r r0 r1 => by rw [kz_rnd hp k]; exact y3 r r0 r1⟩
    · unfold kpR at x3 ⊢
      rw [f 83 (by omega) (by omega), k31]
      intro t t0 t1
      rw [kz_kpV hp k]
      exact x3 t t0 t1
theorem kz_cL (hp : rP M) (h : cL M) (k : kz M M1) (e9 : M1 1 9 = M 1 9) (f : ∀ a, 99 ≤ a → a ≤ 117 → M1 a = M a) : cL M1 := by
  have tl := tx_le (rP_tx hp)
  have t14 := hp.1.1.2.2.2.2.1
  unfold cL at h ⊢
  rw [f 99 (by omega) (by omega), e9]
  refine ⟨h.1, fun q => ?_⟩
  have hl2 := h.2 q
  have eT : M1 (M 1 3) = M (M 1 3) := k.1 _ (by omega)
  unfold lnR at hl2 ⊢
  rw [k.2.2.1, eT, f 99 (by omega) (by omega), f (101 + M (M 1 3) 3) (by omega) (by omega)]
  refine ⟨hl2.1, hl2.2.1, fun k' k0 k1 => ?_⟩
  rw [kz_lfT hp k, f 117 (by omega) (by omega), f (101 + k') (by omega) (by omega), f (102 + k') (by omega) (by omega), k.1 (M 1 3 + 3) (by omega), k.1 (M 1 3 + 4) (by omega)]
  exact hl2.2.2 k' k0 k1
theorem kz_cG (hp : rP M) (h : cG M) (k : kz M M1) (e9 : M1 1 9 = M 1 9) (f : ∀ a, 118 ≤ a → a ≤ 137 → M1 a = M a) : cG M1 := by
  have tl := tx_le (rP_tx hp)
  have t14 := hp.1.1.2.2.2.2.1
  unfold cG at h ⊢
  rw [f 118 (by omega) (by omega), e9]
  refine ⟨h.1, fun q => ⟨(h.2 q).1, ?_⟩⟩
  have hl2 := (h.2 q).2
  have eT : M1 (M 1 3) = M (M 1 3) := k.1 _ (by omega)
  unfold gpR at hl2 ⊢
  rw [k.2.2.1, eT, f 118 (by omega) (by omega), f (120 + M (M 1 3) 3) (by omega) (by omega)]
  refine ⟨hl2.1, hl2.2.1, fun k' k0 k1 => ?_⟩
  rw [kz_lfT hp k, f 135 (by omega) (by omega), f 136 (by omega) (by omega), f 137 (by omega) (by omega), f (120 + k') (by omega) (by omega), f (121 + k') (by omega) (by omega), k.1 (M 1 3 + 3) (by omega), k.1 (M 1 3 + 4) (by omega)]
  exact hl2.2.2 k' k0 k1
theorem kz_cW (h : cW M) (k : kz M M1) (k31 : M1 31 = M 31) (e10 : M1 1 10 = M 1 10) (f : ∀ a, 90 ≤ a → a ≤ 96 → M1 a = M a) : cW M1 := by
  unfold cW at h ⊢
  rw [f 90 (by omega) (by omega), e10]
  refine ⟨h.1, fun q => ?_⟩
  obtain ⟨a, b, c, d, e⟩ := h.2 q
  have ge : gvV M1 = gvV M := k.2.2.2.2
  unfold cWd
  rw [f 90 (by omega) (by omega), f 91 (by omega) (by omega), k.2.2.1, k31, ge]
  refine ⟨a, b, c, d, fun s s0 s1 => ?_⟩
  rw [f (93 + s) (by omega) (by omega)]
  refine ⟨?_, (e s s0 s1).2⟩
  have sq := (e s s0 s1).1
  unfold SQ at sq ⊢
  rw [k31]
  simp only [kz_tA k]
  exact sq
theorem kz_cO (hp : rP M) (h : cO M) (k : kz M M1) (e9 : M1 1 9 = M 1 9) (f : ∀ a, 84 ≤ a → a ≤ 86 → M1 a = M a) : cO M1 := by
  have t := tx_le (rP_tx hp)
  have eT : M1 (M 1 3) = M (M 1 3) := k.1 _ (by omega)
  have eb : bsO M1 = bsO M := by unfold bsO; rw [kz_hSt hp k, k.2.2.1, eT]
  unfold cO
  rw [f 84 (by omega) (by omega), f 85 (by omega) (by omega), f 86 (by omega) (by omega), eb, kz_hSt hp k, k.2.2.1, e9, eT]
  exact h
theorem Rc_kz (hp : rP M) (h : Rc M) (k : kz M M1) (k31 : M1 31 = M 31) (e9 : M1 1 9 = M 1 9) (e10 : M1 1 10 = M 1 10) (f : ∀ a, 64 ≤ a → a ≤ 137 → M1 a = M a) : Rc M1 := ⟨kz_cP hp h.1 k k31 e9 e10 (fun a x y => f a x (by omega)), kz_cL hp h.2.1 k e9 (fun a x y => f a (by omega) (by omega)), kz_cG hp h.2.2.1 k e9 (fun a x y => f a (by omega) y), kz_cW h.2.2.2.1 k k31 e10 (fun a x y => f a (by omega) (by omega)), kz_cO hp h.2.2.2.2 k e9 (fun a x y => f a (by omega) (by omega))⟩
/-- the places that a read behind a FAULT leaves -/
def zk (M Z : aM) : Prop := (∀ a, (M 1 3 ≤ a ∧ a ≤ M 1 3 + 10) ∨ (31 ≤ a ∧ a < 145) → Z a = M a) ∧ (∀ j, j ≠ 1 → j ≠ 6 → Z 1 j = M 1 j) ∧ ∀ a b, 151 ≤ a → ¬ zR a b → Z a b = M a b
theorem zk_O (k : zk M Z) {j : Int} (h : j < 500) : Z 170 j = M 170 j ∧ Z 171 j = M 171 j := ⟨k.2.2 170 j (by omega) (by unfold zR; omega), k.2.2 171 j (by omega) (by unfold zR; omega)⟩
theorem zk_l (k : zk M Z) {a j : Int} (h : j < 200) (x : 173 ≤ a) (y : a ≤ 178) : Z a j = M a j := k.2.2 a j (by omega) (by unfold zR; omega)
theorem zk_rs (k : zk M Z) {f t : Int} (h : t ≤ 500) (ft : f ≤ t) (vr : Int → Int) : rsS (Z 170) (Z 171) vr (t - f).toNat f [] = rsS (M 170) (M 171) vr (t - f).toNat f [] := rsS_cg _ _ _ (fun j j0 j1 => zk_O k (by omega))
theorem zk_ex (k : zk M Z) {f t : Int} (w : wfE (M 170) (M 171) f t) (vr : Int → Int) : exV (Z 170) (Z 171) vr f t = exV (M 170) (M 171) vr f t := by
  unfold exV
  rw [zk_rs k w.1.2.2 w.1.2.1 vr]
theorem zk_wf (k : zk M Z) {f t : Int} (w : wfE (M 170) (M 171) f t) : wfE (Z 170) (Z 171) f t := ⟨w.1, fun vr => by rw [zk_rs k w.1.2.2 w.1.2.1 vr]; exact w.2 vr⟩
theorem zk_li (k : zk M Z) {j : Int} (h : j < 200) (w : liOk M j) : liOk Z j := by
  obtain ⟨a, b, c⟩ := w
  unfold liOk
  rw [zk_l k h (by omega) (by omega), zk_l k h (by omega) (by omega), zk_l k h (by omega) (by omega), zk_l k h (by omega) (by omega)]
  exact ⟨a, zk_wf k b, zk_wf k c⟩
theorem zk_lv (k : zk M Z) {j : Int} (h : j < 200) (w : liOk M j) (vr : Int → Int) : liV Z vr j = liV M vr j := by
  obtain ⟨a, b, c⟩ := w
  unfold liV
  rw [zk_l k h (a := 173) (by omega) (by omega), zk_l k h (a := 174) (by omega) (by omega), zk_l k h (a := 175) (by omega) (by omega), zk_l k h (a := 176) (by omega) (by omega), zk_l k h (a := 177) (by omega) (by omega), zk_ex k b, zk_ex k c]
theorem zk_rW (k : zk M Z) (h : rW M (M 1 3)) : rW Z (M 1 3) := by
  obtain ⟨g, r⟩ := h
  have T0 : Z (M 1 3) = M (M 1 3) := k.1 _ (by omega)
  have T8 : Z (M 1 3 + 8) = M (M 1 3 + 8) := k.1 _ (by omega)
  have T9 : Z (M 1 3 + 9) = M (M 1 3 + 9) := k.1 _ (by omega)
  have Ta : Z (M 1 3 + 10) = M (M 1 3 + 10) := k.1 _ (by omega)
  have e4 : Z 164 0 = M 164 0 := k.2.2 164 0 (by omega) (by unfold zR; omega)
  have e5 : Z 165 0 = M 165 0 := k.2.2 165 0 (by omega) (by unfold zR; omega)
  have e6 : Z 166 0 = M 166 0 := k.2.2 166 0 (by omega) (by unfold zR; omega)
  constructor
  · unfold rG at g ⊢
    rw [T0, T8, e4, e5]
    rcases g with g | ⟨g1, g2, g3⟩
    · exact Or.inl g
    · refine Or.inr ⟨g1, zk_wf k g2, fun vr base z hb => ?_⟩
      rw [zk_rs k g2.1.2.2 g2.1.2.1 vr]
      exact g3 vr base z hb
  · unfold rR at r ⊢
    rw [T0, T8, T9, Ta, e6]
    refine ⟨r.1, fun q q0 q1 => ?_⟩
    obtain ⟨x1, x2, x3, x4⟩ := r.2 q q0 q1
    have e7 : Z 167 q = M 167 q := k.2.2 167 q (by omega) (by unfold zR; omega)
    have e8 : Z 168 q = M 168 q := k.2.2 168 q (by omega) (by unfold zR; omega)
    rw [e7, e8]
    refine ⟨x1, x2, fun j j0 j1 => zk_li k (by omega) (x3 j j0 j1), fun vr => ?_⟩
    rw [hdV_rng (fun j j0 j1 => ⟨zk_lv k (by omega) (x3 j j0 j1) vr, zk_l k (by omega) (by omega) (by omega)⟩)]
    exact x4 vr
theorem zk_gv (k : zk M Z) (h : rG M (M 1 3)) : gvV Z = gvV M := by
  have e4 : Z 164 0 = M 164 0 := k.2.2 164 0 (by omega) (by unfold zR; omega)
  have e5 : Z 165 0 = M 165 0 := k.2.2 165 0 (by omega) (by unfold zR; omega)
  funext t
  have ea : asV Z t 0 0 = asV M t 0 0 := funext fun j => by
    unfold asV
    rw [k.1 34 (by omega), k.1 35 (by omega), k.1 36 (by omega), k.1 37 (by omega), k.1 31 (by omega), k.1 33 (by omega)]
  unfold gvV
  rw [e4, e5, ea]
  rcases h with h | ⟨-, h, -⟩
  · rw [h.1]; rfl
  · rw [zk_ex k h]
theorem zk_kz (k : zk M Z) (h : rP M) (g : rG M (M 1 3)) : kz M Z := ⟨fun a x => k.1 a (by omega), by rw [k.1 31 (by omega)], k.2.1 3 (by omega) (by omega), fun p hp => ⟨k.2.2 161 p (by omega) (by unfold zR; omega), k.2.2 162 p (by omega) (by unfold zR; omega)⟩, zk_gv k g⟩
theorem zk_rT (k : zk M Z) (h : rT M (M 1 3)) : rT Z (M 1 3) := by
  have T : ∀ i, 0 ≤ i → i ≤ 10 → Z (M 1 3 + i) = M (M 1 3 + i) := fun i x y => k.1 _ (by omega)
  have T0 : Z (M 1 3) = M (M 1 3) := k.1 _ (by omega)
  obtain ⟨h1, h2, h3, h4, h5⟩ := h
  have t14 := h1.2.2.2.2.1
  unfold rT
  unfold tOk at h1 ⊢
  rw [T0, T 2 (by omega) (by omega), T 3 (by omega) (by omega), T 4 (by omega) (by omega), T 5 (by omega) (by omega), T 6 (by omega) (by omega), T 7 (by omega) (by omega), k.2.2 151 0 (by omega) (by unfold zR; omega), k.2.2 152 0 (by omega) (by unfold zR; omega), k.2.2 163 0 (by omega) (by unfold zR; omega), k.2.2 153 0 (by omega) (by unfold zR; omega), k.2.2 159 0 (by omega) (by unfold zR; omega)]
  refine ⟨h1, h2, fun i i0 i1 => ?_, h4, fun i i0 i1 => ?_⟩
  · rw [k.2.2 154 i (by omega) (by unfold zR; omega), k.2.2 155 i (by omega) (by unfold zR; omega), k.2.2 156 i (by omega) (by unfold zR; omega), k.2.2 157 i (by omega) (by unfold zR; omega)]
    exact h3 i i0 i1
  · rw [k.2.2 160 i (by omega) (by unfold zR; omega), k.2.2 161 i (by omega) (by unfold zR; omega), k.2.2 162 i (by omega) (by unfold zR; omega)]
    exact h5 i i0 i1
theorem Rl_readN (h : Rl n M) (f : rdF M Z) (y : rdN M Z) : Rl (n + 1) Z := by
  obtain ⟨⟨h1, h2, h3, h4, h5, h6, h7, h8, h9, h10, h11, h12⟩, hc⟩ := h
  obtain ⟨f1, f2, f3, f4, f5, ⟨f6, f7, f8⟩, f9⟩ := f
  obtain ⟨y1, y2, y3, y4⟩ := y
  have t3 := rP_tx h1
  have b3_ := tx_le t3
  have b4 := tx_le h8.1
  have sp : M 1 3 + 10 < M 1 4 ∨ M 1 4 + 10 < M 1 3 := by
    have a := h8.2
    rcases t3 with x | x <;> rcases h8.1 with z | z <;> omega
  have k : zk M Z := by
    refine ⟨fun a x => ?_, y1, fun a b x z => y4 a b (by omega) z (by omega)⟩
    by_cases c : a = 31
    · rw [c]; exact y2
    · exact f1 a (by omega) (by omega) c (by omega) (by omega)
  have hi : ∀ a, 179 ≤ a → a ≤ 189 → Z a = M a := fun a x y => funext fun b => k.2.2 a b (by omega) (by unfold zR; omega)
  have e13 : Z 1 3 = M 1 3 := y1 3 (by omega) (by omega)
  have e14 : Z 1 4 = M 1 4 := y1 4 (by omega) (by omega)
  have e15 : Z 1 5 = M 1 5 := y1 5 (by omega) (by omega)
  have e19 : Z 1 9 = M 1 9 := y1 9 (by omega) (by omega)
  have e1t : Z 1 10 = M 1 10 := y1 10 (by omega) (by omega)
  have rF_ : ∀ b, 31 ≤ b → b < 63 → rF M (M 1 3) b → rF Z (M 1 3) b := fun b x y q => rF_cg q (fun a x y => k.1 a (by omega)) (fun a x y => k.1 a (by omega))
  refine ⟨⟨⟨by rw [e13]; exact zk_rT k h1.1, rB_cg h1.2.1 (fun a x y => hi a (by omega) (by omega)) (fun a x y => k.1 a (by omega)), by rw [e13]; exact rF_ 31 (by omega) (by omega) h1.2.2⟩, ?_, rL_cg h3 (fun a x => ?_) (by rw [k.1 138 (by omega)]) (f4 48 (by omega) (by omega) (by omega) (by omega) (by omega)), fun i i0 i1 => ?_, ⟨by rw [f6]; decide, by rw [f6, f7], fun k k0 k1 => absurd (by rw [f6] at k1; exact k1) (by omega)⟩, by rw [e13]; exact zk_rW k h6, f9, by rw [e13, e14]; exact h8, f8, by omega, by omega, by omega⟩, Rc_kz h1 hc (zk_kz k h1 h6.1) y2 e19 e1t (fun a x y => k.1 a (by omega))⟩
  · obtain ⟨s1, s2, s3⟩ := h2
    refine ⟨by omega, by omega, fun s s0 s1' => ?_⟩
    have q := s3 s s0 s1'
    unfold rSl at q ⊢
    rw [k.1 (40 + 8 * s) (by omega), hi 185 (by omega) (by omega), e15, e13]
    rcases q with x | ⟨x1, x2, x3, x4, x5⟩
    · exact Or.inl x
    · exact Or.inr ⟨x1, x2, x3, rB_cg x4 (fun a x y => hi a (by omega) (by omega)) (fun a x y => k.1 a (by omega)), fun q => rF_ _ (by omega) (by omega) (x5 q)⟩
  · by_cases c : a ≤ 142
    · exact k.1 a (by omega)
    · exact hi a (by omega) (by omega)
  · rw [hi 184 (by omega) (by omega)]; exact h4 i i0 i1
theorem op_read (h : Rl n M) (hn : n < 10000) : opG L n 53 214 [] M := by
  have h0 := h.1
  obtain ⟨h1, h2, h3, h4, h5, h6, h7, h8, h9, h10, h11, h12⟩ := h0
  obtain ⟨v, K, Z, r1, r2, f, e⟩ := o_read (L := L) h5 (rP_tx h1) h8.1 h7 (by omega) (by omega) h2.2.1
  refine ⟨v, K, Z, r1, r2, ?_⟩
  rcases e with ⟨-, e⟩ | ⟨-, e⟩
  · exact Rl_readN h f e
  · exact Rl_readY h hn f e
end KZ
