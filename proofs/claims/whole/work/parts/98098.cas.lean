/-! the law: every case of the switch, written by a program -/
section CAS
variable {L : Nat} {M : aM} {n a3 : Int}
def wRd (L : Nat) (M : aM) : Prop := ∀ j : Int, 0 ≤ j → j < (L : Int) → -2147483648 ≤ M 0 j ∧ M 0 j < 2147483648
theorem lw_ix {j : Int} (hL : L ≤ 3072) (g0 : 0 ≤ a3) (g5 : a3 + 5 < L) (j0 : 0 ≤ j) (j1 : j ≤ 5) : 0 ≤ aW (a3 + j) ∧ aW (a3 + j) < aLn (SH L) 9 0 := by
  rw [ln_s, aWi (z := a3 + j) (by omega) (by omega)]
  omega
theorem k1_ : aK (SH L) 1 = 21 := rfl
theorem k145_ : aK (SH L) 145 = 22 := rfl
/-- what a round leaves to be shown -/
def nxt (L : Nat) (n a3 : Int) (M : aM) : Prop := ∀ Z, Rl (n + 1) Z → Z 0 = M 0 → ∃ W, aX xc_315 (aSeek xc_315 1533) [aR 0, aR 1, aR 145, aI a3] [] (SH L) Z ([aI 1], SH L, W)
theorem ca_0 (hL : L ≤ 3072) (hn : n < 10000) (g0 : 0 ≤ a3) (g5 : a3 + 5 < L) (wr : wRd L M) (h : Rl n M) (K : nxt L n a3 M) : ∃ W, aX xc_315 (aSeek xc_315 220) [aR 0, aR 1, aR 145, aI a3] [] (SH L) M ([aI 1], SH L, W) := by
  have b1 := lw_ix (L := L) (j := 1) hL g0 g5 (by omega) (by omega)
  have b2 := lw_ix (L := L) (j := 2) hL g0 g5 (by omega) (by omega)
  have b3 := lw_ix (L := L) (j := 3) hL g0 g5 (by omega) (by omega)
  have b4 := lw_ix (L := L) (j := 4) hL g0 g5 (by omega) (by omega)
  have b5 := lw_ix (L := L) (j := 5) hL g0 g5 (by omega) (by omega)
  have H : opG L n 14 181 [aI (M 0 (aW (a3 + 1))), aI (M 0 (aW (a3 + 2))), aI (M 0 (aW (a3 + 3))), aI (M 0 (aW (a3 + 4))), aI (M 0 (aW (a3 + 5)))] M := op_feed h
  obtain ⟨v, M1, M2, r1, r2, q⟩ := H
  have z1 : M1 0 = M 0 := aE_c0 r1
  have z2 : M2 0 = M1 0 := aE_c0 r2
  obtain ⟨W, w⟩ := K M2 q (z2.trans z1)
  refine ⟨W, bl_315_220 ⟨b1, b2, b3, b4, b5, M1, v, r1, b1, b2, b3, b4, b5, M2, v, ?_, fun _ => w, fun c => absurd rfl c⟩⟩
  rw [z1]; exact r2
theorem ca_1 (hL : L ≤ 3072) (hn : n < 10000) (g0 : 0 ≤ a3) (g5 : a3 + 5 < L) (wr : wRd L M) (h : Rl n M) (K : nxt L n a3 M) : ∃ W, aX xc_315 (aSeek xc_315 283) [aR 0, aR 1, aR 145, aI a3] [] (SH L) M ([aI 1], SH L, W) := by
  have b1 := lw_ix (L := L) (j := 1) hL g0 g5 (by omega) (by omega)
  have H : opG L n 15 182 [aI (M 0 (aW (a3 + 1)))] M := op_back h (wr _ (b1).1 (b1).2).2
  obtain ⟨v, M1, M2, r1, r2, q⟩ := H
  have z1 : M1 0 = M 0 := aE_c0 r1
  have z2 : M2 0 = M1 0 := aE_c0 r2
  obtain ⟨W, w⟩ := K M2 q (z2.trans z1)
  refine ⟨W, bl_315_283 ⟨b1, M1, v, r1, b1, M2, v, ?_, fun _ => w, fun c => absurd rfl c⟩⟩
  rw [z1]; exact r2
theorem ca_2 (hL : L ≤ 3072) (hn : n < 10000) (g0 : 0 ≤ a3) (g5 : a3 + 5 < L) (wr : wRd L M) (h : Rl n M) (K : nxt L n a3 M) : ∃ W, aX xc_315 (aSeek xc_315 306) [aR 0, aR 1, aR 145, aI a3] [] (SH L) M ([aI 1], SH L, W) := by
  have H : opG L n 53 214 [] M := op_read h (by omega)
  obtain ⟨v, M1, M2, r1, r2, q⟩ := H
  have z1 : M1 0 = M 0 := aE_c0 r1
  have z2 : M2 0 = M1 0 := aE_c0 r2
  obtain ⟨W, w⟩ := K M2 q (z2.trans z1)
  refine ⟨W, bl_315_306 ⟨M1, v, r1, M2, v, ?_, fun _ => w, fun c => absurd rfl c⟩⟩
  exact r2
theorem ca_3 (hL : L ≤ 3072) (hn : n < 10000) (g0 : 0 ≤ a3) (g5 : a3 + 5 < L) (wr : wRd L M) (h : Rl n M) (K : nxt L n a3 M) : ∃ W, aX xc_315 (aSeek xc_315 319) [aR 0, aR 1, aR 145, aI a3] [] (SH L) M ([aI 1], SH L, W) := by
  have H : opG L n 54 215 [] M := op_place h
  obtain ⟨v, M1, M2, r1, r2, q⟩ := H
  have z1 : M1 0 = M 0 := aE_c0 r1
  have z2 : M2 0 = M1 0 := aE_c0 r2
  obtain ⟨W, w⟩ := K M2 q (z2.trans z1)
  refine ⟨W, bl_315_319 ⟨M1, v, r1, M2, v, ?_, fun _ => w, fun c => absurd rfl c⟩⟩
  exact r2
theorem ca_4 (hL : L ≤ 3072) (hn : n < 10000) (g0 : 0 ≤ a3) (g5 : a3 + 5 < L) (wr : wRd L M) (h : Rl n M) (K : nxt L n a3 M) : ∃ W, aX xc_315 (aSeek xc_315 332) [aR 0, aR 1, aR 145, aI a3] [] (SH L) M ([aI 1], SH L, W) := by
  have b1 := lw_ix (L := L) (j := 1) hL g0 g5 (by omega) (by omega)
  have b2 := lw_ix (L := L) (j := 2) hL g0 g5 (by omega) (by omega)
  have H : opG L n 56 222 [aI (M 0 (aW (a3 + 1))), aI (M 0 (aW (a3 + 2)))] M := op_kind h
  obtain ⟨v, M1, M2, r1, r2, q⟩ := H
  have z1 : M1 0 = M 0 := aE_c0 r1
  have z2 : M2 0 = M1 0 := aE_c0 r2
  obtain ⟨W, w⟩ := K M2 q (z2.trans z1)
  refine ⟨W, bl_315_332 ⟨b1, b2, M1, v, r1, b1, b2, M2, v, ?_, fun _ => w, fun c => absurd rfl c⟩⟩
  rw [z1]; exact r2
theorem ca_5 (hL : L ≤ 3072) (hn : n < 10000) (g0 : 0 ≤ a3) (g5 : a3 + 5 < L) (wr : wRd L M) (h : Rl n M) (K : nxt L n a3 M) : ∃ W, aX xc_315 (aSeek xc_315 365) [aR 0, aR 1, aR 145, aI a3] [] (SH L) M ([aI 1], SH L, W) := by
  have b1 := lw_ix (L := L) (j := 1) hL g0 g5 (by omega) (by omega)
  have b2 := lw_ix (L := L) (j := 2) hL g0 g5 (by omega) (by omega)
  have b3 := lw_ix (L := L) (j := 3) hL g0 g5 (by omega) (by omega)
  have b4 := lw_ix (L := L) (j := 4) hL g0 g5 (by omega) (by omega)
  have G : ∀ bb : Int, (bb = 0 ∨ bb = 1) → (bb = 0 ↔ M 0 (aW (a3 + 4)) = 0) → ∃ W, aX xc_315 (aSeek xc_315 394) [aR 0, aR 1, aR 145, aI a3] [aI bb, aI (M 0 (aW (a3 + 3))), aI (M 0 (aW (a3 + 2))), aI (M 0 (aW (a3 + 1))), aR 1] (SH L) M ([aI 1], SH L, W) := by
    intro bb tbx eb
    have H : opG L n 62 227 [aI (M 0 (aW (a3 + 1))), aI (M 0 (aW (a3 + 2))), aI (M 0 (aW (a3 + 3))), aI bb] M := op_lay h (by omega) tbx
    obtain ⟨v, M1, M2, r1, r2, q⟩ := H
    have z1 : M1 0 = M 0 := aE_c0 r1
    have z2 : M2 0 = M1 0 := aE_c0 r2
    obtain ⟨W, w⟩ := K M2 q (z2.trans z1)
    have G2 : aX xc_315 (aSeek xc_315 426) [aR 0, aR 1, aR 145, aI a3] [aI bb, aI (M 0 (aW (a3 + 3))), aI (M 0 (aW (a3 + 2))), aI (M 0 (aW (a3 + 1))), aR 145, aI v] (SH L) M1 ([aI 1], SH L, W) := bl_315_426 ⟨k145_, M2, v, r2, fun _ => w, fun c => absurd rfl c⟩
    refine ⟨W, bl_315_394 ⟨k1_, M1, v, r1, b1, b2, b3, b4, ?_, ?_⟩⟩
    · rw [z1]; intro c; have e : bb = 0 := eb.mpr c; rw [e] at G2; exact G2
    · rw [z1]; intro c; have e : bb = 1 := by rcases tbx with e | e; exact absurd (eb.mp e) c; exact e
      rw [e] at G2; exact G2
  by_cases c : M 0 (aW (a3 + 4)) = 0
  · obtain ⟨W, g⟩ := G 0 (Or.inl rfl) ⟨fun _ => c, fun _ => rfl⟩
    exact ⟨W, bl_315_365 ⟨b1, b2, b3, b4, fun _ => g, fun e => absurd c e⟩⟩
  · obtain ⟨W, g⟩ := G 1 (Or.inr rfl) ⟨fun e => absurd e (by decide), fun e => absurd e c⟩
    exact ⟨W, bl_315_365 ⟨b1, b2, b3, b4, fun e => absurd e c, fun _ => g⟩⟩
theorem ca_6 (hL : L ≤ 3072) (hn : n < 10000) (g0 : 0 ≤ a3) (g5 : a3 + 5 < L) (wr : wRd L M) (h : Rl n M) (K : nxt L n a3 M) : ∃ W, aX xc_315 (aSeek xc_315 434) [aR 0, aR 1, aR 145, aI a3] [] (SH L) M ([aI 1], SH L, W) := by
  have b1 := lw_ix (L := L) (j := 1) hL g0 g5 (by omega) (by omega)
  have H : opG L n 65 228 [aI (M 0 (aW (a3 + 1)))] M := op_take h (by omega)
  obtain ⟨v, M1, M2, r1, r2, q⟩ := H
  have z1 : M1 0 = M 0 := aE_c0 r1
  have z2 : M2 0 = M1 0 := aE_c0 r2
  obtain ⟨W, w⟩ := K M2 q (z2.trans z1)
  refine ⟨W, bl_315_434 ⟨b1, M1, v, r1, b1, M2, v, ?_, fun _ => w, fun c => absurd rfl c⟩⟩
  rw [z1]; exact r2
theorem ca_7 (hL : L ≤ 3072) (hn : n < 10000) (g0 : 0 ≤ a3) (g5 : a3 + 5 < L) (wr : wRd L M) (h : Rl n M) (K : nxt L n a3 M) : ∃ W, aX xc_315 (aSeek xc_315 457) [aR 0, aR 1, aR 145, aI a3] [] (SH L) M ([aI 1], SH L, W) := by
  have b1 := lw_ix (L := L) (j := 1) hL g0 g5 (by omega) (by omega)
  have b2 := lw_ix (L := L) (j := 2) hL g0 g5 (by omega) (by omega)
  have H : opG L n 66 229 [aI (M 0 (aW (a3 + 1))), aI (M 0 (aW (a3 + 2)))] M := op_thing h
  obtain ⟨v, M1, M2, r1, r2, q⟩ := H
  have z1 : M1 0 = M 0 := aE_c0 r1
  have z2 : M2 0 = M1 0 := aE_c0 r2
  obtain ⟨W, w⟩ := K M2 q (z2.trans z1)
  refine ⟨W, bl_315_457 ⟨b1, b2, M1, v, r1, b1, b2, M2, v, ?_, fun _ => w, fun c => absurd rfl c⟩⟩
  rw [z1]; exact r2
theorem ca_8 (hL : L ≤ 3072) (hn : n < 10000) (g0 : 0 ≤ a3) (g5 : a3 + 5 < L) (wr : wRd L M) (h : Rl n M) (K : nxt L n a3 M) : ∃ W, aX xc_315 (aSeek xc_315 490) [aR 0, aR 1, aR 145, aI a3] [] (SH L) M ([aI 1], SH L, W) := by
  have b1 := lw_ix (L := L) (j := 1) hL g0 g5 (by omega) (by omega)
  have b2 := lw_ix (L := L) (j := 2) hL g0 g5 (by omega) (by omega)
  have H : opG L n 68 231 [aI (M 0 (aW (a3 + 1))), aI (M 0 (aW (a3 + 2)))] M := op_at h
  obtain ⟨v, M1, M2, r1, r2, q⟩ := H
  have z1 : M1 0 = M 0 := aE_c0 r1
  have z2 : M2 0 = M1 0 := aE_c0 r2
  obtain ⟨W, w⟩ := K M2 q (z2.trans z1)
  refine ⟨W, bl_315_490 ⟨b1, b2, M1, v, r1, b1, b2, M2, v, ?_, fun _ => w, fun c => absurd rfl c⟩⟩
  rw [z1]; exact r2
theorem ca_9 (hL : L ≤ 3072) (hn : n < 10000) (g0 : 0 ≤ a3) (g5 : a3 + 5 < L) (wr : wRd L M) (h : Rl n M) (K : nxt L n a3 M) : ∃ W, aX xc_315 (aSeek xc_315 523) [aR 0, aR 1, aR 145, aI a3] [] (SH L) M ([aI 1], SH L, W) := by
  have H : opG L n 70 232 [] M := op_empty h
  obtain ⟨v, M1, M2, r1, r2, q⟩ := H
  have z1 : M1 0 = M 0 := aE_c0 r1
  have z2 : M2 0 = M1 0 := aE_c0 r2
  obtain ⟨W, w⟩ := K M2 q (z2.trans z1)
  refine ⟨W, bl_315_523 ⟨M1, v, r1, M2, v, ?_, fun _ => w, fun c => absurd rfl c⟩⟩
  exact r2
theorem ca_10 (hL : L ≤ 3072) (hn : n < 10000) (g0 : 0 ≤ a3) (g5 : a3 + 5 < L) (wr : wRd L M) (h : Rl n M) (K : nxt L n a3 M) : ∃ W, aX xc_315 (aSeek xc_315 536) [aR 0, aR 1, aR 145, aI a3] [] (SH L) M ([aI 1], SH L, W) := by
  have b1 := lw_ix (L := L) (j := 1) hL g0 g5 (by omega) (by omega)
  have b2 := lw_ix (L := L) (j := 2) hL g0 g5 (by omega) (by omega)
  have H : opG L n 74 237 [aI (M 0 (aW (a3 + 1))), aI (M 0 (aW (a3 + 2)))] M := op_touch h
  obtain ⟨v, M1, M2, r1, r2, q⟩ := H
  have z1 : M1 0 = M 0 := aE_c0 r1
  have z2 : M2 0 = M1 0 := aE_c0 r2
  obtain ⟨W, w⟩ := K M2 q (z2.trans z1)
  refine ⟨W, bl_315_536 ⟨b1, b2, M1, v, r1, b1, b2, M2, v, ?_, fun _ => w, fun c => absurd rfl c⟩⟩
  rw [z1]; exact r2
theorem ca_11 (hL : L ≤ 3072) (hn : n < 10000) (g0 : 0 ≤ a3) (g5 : a3 + 5 < L) (wr : wRd L M) (h : Rl n M) (K : nxt L n a3 M) : ∃ W, aX xc_315 (aSeek xc_315 569) [aR 0, aR 1, aR 145, aI a3] [] (SH L) M ([aI 1], SH L, W) := by
  have b1 := lw_ix (L := L) (j := 1) hL g0 g5 (by omega) (by omega)
  have b2 := lw_ix (L := L) (j := 2) hL g0 g5 (by omega) (by omega)
  have G : ∀ bb : Int, (bb = 0 ∨ bb = 1) → (bb = 0 ↔ M 0 (aW (a3 + 2)) = 0) → ∃ W, aX xc_315 (aSeek xc_315 588) [aR 0, aR 1, aR 145, aI a3] [aI bb, aI (M 0 (aW (a3 + 1))), aR 1] (SH L) M ([aI 1], SH L, W) := by
    intro bb tbx eb
    have H : opG L n 75 238 [aI (M 0 (aW (a3 + 1))), aI bb] M := op_tight h (by omega)
    obtain ⟨v, M1, M2, r1, r2, q⟩ := H
    have z1 : M1 0 = M 0 := aE_c0 r1
    have z2 : M2 0 = M1 0 := aE_c0 r2
    obtain ⟨W, w⟩ := K M2 q (z2.trans z1)
    have G2 : aX xc_315 (aSeek xc_315 610) [aR 0, aR 1, aR 145, aI a3] [aI bb, aI (M 0 (aW (a3 + 1))), aR 145, aI v] (SH L) M1 ([aI 1], SH L, W) := bl_315_610 ⟨k145_, M2, v, r2, fun _ => w, fun c => absurd rfl c⟩
    refine ⟨W, bl_315_588 ⟨k1_, M1, v, r1, b1, b2, ?_, ?_⟩⟩
    · rw [z1]; intro c; have e : bb = 0 := eb.mpr c; rw [e] at G2; exact G2
    · rw [z1]; intro c; have e : bb = 1 := by rcases tbx with e | e; exact absurd (eb.mp e) c; exact e
      rw [e] at G2; exact G2
  by_cases c : M 0 (aW (a3 + 2)) = 0
  · obtain ⟨W, g⟩ := G 0 (Or.inl rfl) ⟨fun _ => c, fun _ => rfl⟩
    exact ⟨W, bl_315_569 ⟨b1, b2, fun _ => g, fun e => absurd c e⟩⟩
  · obtain ⟨W, g⟩ := G 1 (Or.inr rfl) ⟨fun e => absurd e (by decide), fun e => absurd e c⟩
    exact ⟨W, bl_315_569 ⟨b1, b2, fun e => absurd e c, fun _ => g⟩⟩
theorem ca_12 (hL : L ≤ 3072) (hn : n < 10000) (g0 : 0 ≤ a3) (g5 : a3 + 5 < L) (wr : wRd L M) (h : Rl n M) (K : nxt L n a3 M) : ∃ W, aX xc_315 (aSeek xc_315 618) [aR 0, aR 1, aR 145, aI a3] [] (SH L) M ([aI 1], SH L, W) := by
  have b1 := lw_ix (L := L) (j := 1) hL g0 g5 (by omega) (by omega)
  have b2 := lw_ix (L := L) (j := 2) hL g0 g5 (by omega) (by omega)
  have H : opG L n 94 252 [aI (M 0 (aW (a3 + 1))), aI (M 0 (aW (a3 + 2)))] M := op_pushed h
  obtain ⟨v, M1, M2, r1, r2, q⟩ := H
  have z1 : M1 0 = M 0 := aE_c0 r1
  have z2 : M2 0 = M1 0 := aE_c0 r2
  obtain ⟨W, w⟩ := K M2 q (z2.trans z1)
  refine ⟨W, bl_315_618 ⟨b1, b2, M1, v, r1, b1, b2, M2, v, ?_, fun _ => w, fun c => absurd rfl c⟩⟩
  rw [z1]; exact r2
theorem ca_13 (hL : L ≤ 3072) (hn : n < 10000) (g0 : 0 ≤ a3) (g5 : a3 + 5 < L) (wr : wRd L M) (h : Rl n M) (K : nxt L n a3 M) : ∃ W, aX xc_315 (aSeek xc_315 651) [aR 0, aR 1, aR 145, aI a3] [] (SH L) M ([aI 1], SH L, W) := by
  have b1 := lw_ix (L := L) (j := 1) hL g0 g5 (by omega) (by omega)
  have b2 := lw_ix (L := L) (j := 2) hL g0 g5 (by omega) (by omega)
  have H : opG L n 96 253 [aI (M 0 (aW (a3 + 1))), aI (M 0 (aW (a3 + 2)))] M := op_borne h
  obtain ⟨v, M1, M2, r1, r2, q⟩ := H
  have z1 : M1 0 = M 0 := aE_c0 r1
  have z2 : M2 0 = M1 0 := aE_c0 r2
  obtain ⟨W, w⟩ := K M2 q (z2.trans z1)
  refine ⟨W, bl_315_651 ⟨b1, b2, M1, v, r1, b1, b2, M2, v, ?_, fun _ => w, fun c => absurd rfl c⟩⟩
  rw [z1]; exact r2
theorem ca_14 (hL : L ≤ 3072) (hn : n < 10000) (g0 : 0 ≤ a3) (g5 : a3 + 5 < L) (wr : wRd L M) (h : Rl n M) (K : nxt L n a3 M) : ∃ W, aX xc_315 (aSeek xc_315 684) [aR 0, aR 1, aR 145, aI a3] [] (SH L) M ([aI 1], SH L, W) := by
  have b1 := lw_ix (L := L) (j := 1) hL g0 g5 (by omega) (by omega)
  have H : opG L n 99 254 [aI (M 0 (aW (a3 + 1)))] M := op_held h
  obtain ⟨v, M1, M2, r1, r2, q⟩ := H
  have z1 : M1 0 = M 0 := aE_c0 r1
  have z2 : M2 0 = M1 0 := aE_c0 r2
  obtain ⟨W, w⟩ := K M2 q (z2.trans z1)
  refine ⟨W, bl_315_684 ⟨b1, M1, v, r1, b1, M2, v, ?_, fun _ => w, fun c => absurd rfl c⟩⟩
  rw [z1]; exact r2
theorem ca_15 (hL : L ≤ 3072) (hn : n < 10000) (g0 : 0 ≤ a3) (g5 : a3 + 5 < L) (wr : wRd L M) (h : Rl n M) (K : nxt L n a3 M) : ∃ W, aX xc_315 (aSeek xc_315 707) [aR 0, aR 1, aR 145, aI a3] [] (SH L) M ([aI 1], SH L, W) := by
  have H : opG L n 100 255 [] M := op_holds h
  obtain ⟨v, M1, M2, r1, r2, q⟩ := H
  have z1 : M1 0 = M 0 := aE_c0 r1
  have z2 : M2 0 = M1 0 := aE_c0 r2
  obtain ⟨W, w⟩ := K M2 q (z2.trans z1)
  refine ⟨W, bl_315_707 ⟨M1, v, r1, M2, v, ?_, fun _ => w, fun c => absurd rfl c⟩⟩
  exact r2
theorem ca_16 (hL : L ≤ 3072) (hn : n < 10000) (g0 : 0 ≤ a3) (g5 : a3 + 5 < L) (wr : wRd L M) (h : Rl n M) (K : nxt L n a3 M) : ∃ W, aX xc_315 (aSeek xc_315 720) [aR 0, aR 1, aR 145, aI a3] [] (SH L) M ([aI 1], SH L, W) := by
  have b1 := lw_ix (L := L) (j := 1) hL g0 g5 (by omega) (by omega)
  have H : opG L n 102 257 [aI (M 0 (aW (a3 + 1)))] M := op_drops h
  obtain ⟨v, M1, M2, r1, r2, q⟩ := H
  have z1 : M1 0 = M 0 := aE_c0 r1
  have z2 : M2 0 = M1 0 := aE_c0 r2
  obtain ⟨W, w⟩ := K M2 q (z2.trans z1)
  refine ⟨W, bl_315_720 ⟨b1, M1, v, r1, b1, M2, v, ?_, fun _ => w, fun c => absurd rfl c⟩⟩
  rw [z1]; exact r2
theorem ca_17 (hL : L ≤ 3072) (hn : n < 10000) (g0 : 0 ≤ a3) (g5 : a3 + 5 < L) (wr : wRd L M) (h : Rl n M) (K : nxt L n a3 M) : ∃ W, aX xc_315 (aSeek xc_315 743) [aR 0, aR 1, aR 145, aI a3] [] (SH L) M ([aI 1], SH L, W) := by
  have b1 := lw_ix (L := L) (j := 1) hL g0 g5 (by omega) (by omega)
  have H : opG L n 103 258 [aI (M 0 (aW (a3 + 1)))] M := op_round h
  obtain ⟨v, M1, M2, r1, r2, q⟩ := H
  have z1 : M1 0 = M 0 := aE_c0 r1
  have z2 : M2 0 = M1 0 := aE_c0 r2
  obtain ⟨W, w⟩ := K M2 q (z2.trans z1)
  refine ⟨W, bl_315_743 ⟨b1, M1, v, r1, b1, M2, v, ?_, fun _ => w, fun c => absurd rfl c⟩⟩
  rw [z1]; exact r2
theorem ca_18 (hL : L ≤ 3072) (hn : n < 10000) (g0 : 0 ≤ a3) (g5 : a3 + 5 < L) (wr : wRd L M) (h : Rl n M) (K : nxt L n a3 M) : ∃ W, aX xc_315 (aSeek xc_315 766) [aR 0, aR 1, aR 145, aI a3] [] (SH L) M ([aI 1], SH L, W) := by
  have b1 := lw_ix (L := L) (j := 1) hL g0 g5 (by omega) (by omega)
  have H : opG L n 105 261 [aI (M 0 (aW (a3 + 1)))] M := op_keeps h
  obtain ⟨v, M1, M2, r1, r2, q⟩ := H
  have z1 : M1 0 = M 0 := aE_c0 r1
  have z2 : M2 0 = M1 0 := aE_c0 r2
  obtain ⟨W, w⟩ := K M2 q (z2.trans z1)
  refine ⟨W, bl_315_766 ⟨b1, M1, v, r1, b1, M2, v, ?_, fun _ => w, fun c => absurd rfl c⟩⟩
  rw [z1]; exact r2
theorem ca_19 (hL : L ≤ 3072) (hn : n < 10000) (g0 : 0 ≤ a3) (g5 : a3 + 5 < L) (wr : wRd L M) (h : Rl n M) (K : nxt L n a3 M) : ∃ W, aX xc_315 (aSeek xc_315 789) [aR 0, aR 1, aR 145, aI a3] [] (SH L) M ([aI 1], SH L, W) := by
  have H : opG L n 106 262 [] M := op_most h
  obtain ⟨v, M1, M2, r1, r2, q⟩ := H
  have z1 : M1 0 = M 0 := aE_c0 r1
  have z2 : M2 0 = M1 0 := aE_c0 r2
  obtain ⟨W, w⟩ := K M2 q (z2.trans z1)
  refine ⟨W, bl_315_789 ⟨M1, v, r1, M2, v, ?_, fun _ => w, fun c => absurd rfl c⟩⟩
  exact r2
theorem ca_20 (hL : L ≤ 3072) (hn : n < 10000) (g0 : 0 ≤ a3) (g5 : a3 + 5 < L) (wr : wRd L M) (h : Rl n M) (K : nxt L n a3 M) : ∃ W, aX xc_315 (aSeek xc_315 802) [aR 0, aR 1, aR 145, aI a3] [] (SH L) M ([aI 1], SH L, W) := by
  have b1 := lw_ix (L := L) (j := 1) hL g0 g5 (by omega) (by omega)
  have H : opG L n 107 263 [aI (M 0 (aW (a3 + 1)))] M := op_simple h (wr _ (b1).1 (b1).2).2
  obtain ⟨v, M1, M2, r1, r2, q⟩ := H
  have z1 : M1 0 = M 0 := aE_c0 r1
  have z2 : M2 0 = M1 0 := aE_c0 r2
  obtain ⟨W, w⟩ := K M2 q (z2.trans z1)
  refine ⟨W, bl_315_802 ⟨b1, M1, v, r1, b1, M2, v, ?_, fun _ => w, fun c => absurd rfl c⟩⟩
  rw [z1]; exact r2
theorem ca_21 (hL : L ≤ 3072) (hn : n < 10000) (g0 : 0 ≤ a3) (g5 : a3 + 5 < L) (wr : wRd L M) (h : Rl n M) (K : nxt L n a3 M) : ∃ W, aX xc_315 (aSeek xc_315 825) [aR 0, aR 1, aR 145, aI a3] [] (SH L) M ([aI 1], SH L, W) := by
  have b1 := lw_ix (L := L) (j := 1) hL g0 g5 (by omega) (by omega)
  have b2 := lw_ix (L := L) (j := 2) hL g0 g5 (by omega) (by omega)
  have G : ∀ bb : Int, (bb = 0 ∨ bb = 1) → (bb = 0 ↔ M 0 (aW (a3 + 1)) = 0) → ∃ W, aX xc_315 (aSeek xc_315 839) [aR 0, aR 1, aR 145, aI a3] [aI bb, aR 1] (SH L) M ([aI 1], SH L, W) := by
    intro bb tbx eb
    have H : opG L n 110 266 [aI bb, aI (M 0 (aW (a3 + 2)))] M := op_joint h
    obtain ⟨v, M1, M2, r1, r2, q⟩ := H
    have z1 : M1 0 = M 0 := aE_c0 r1
    have z2 : M2 0 = M1 0 := aE_c0 r2
    obtain ⟨W, w⟩ := K M2 q (z2.trans z1)
    have G2 : aX xc_315 (aSeek xc_315 861) [aR 0, aR 1, aR 145, aI a3] [aI bb, aR 145, aI v] (SH L) M1 ([aI 1], SH L, W) := bl_315_861 ⟨b2, k145_, M2, v, by rw [z1]; exact r2, fun _ => w, fun c => absurd rfl c⟩
    refine ⟨W, bl_315_839 ⟨b2, k1_, M1, v, r1, b1, ?_, ?_⟩⟩
    · rw [z1]; intro c; have e : bb = 0 := eb.mpr c; rw [e] at G2; exact G2
    · rw [z1]; intro c; have e : bb = 1 := by rcases tbx with e | e; exact absurd (eb.mp e) c; exact e
      rw [e] at G2; exact G2
  by_cases c : M 0 (aW (a3 + 1)) = 0
  · obtain ⟨W, g⟩ := G 0 (Or.inl rfl) ⟨fun _ => c, fun _ => rfl⟩
    exact ⟨W, bl_315_825 ⟨b1, fun _ => g, fun e => absurd c e⟩⟩
  · obtain ⟨W, g⟩ := G 1 (Or.inr rfl) ⟨fun e => absurd e (by decide), fun e => absurd e c⟩
    exact ⟨W, bl_315_825 ⟨b1, fun e => absurd e c, fun _ => g⟩⟩
theorem ca_22 (hL : L ≤ 3072) (hn : n < 10000) (g0 : 0 ≤ a3) (g5 : a3 + 5 < L) (wr : wRd L M) (h : Rl n M) (K : nxt L n a3 M) : ∃ W, aX xc_315 (aSeek xc_315 874) [aR 0, aR 1, aR 145, aI a3] [] (SH L) M ([aI 1], SH L, W) := by
  have H : opG L n 111 267 [] M := op_long h
  obtain ⟨v, M1, M2, r1, r2, q⟩ := H
  have z1 : M1 0 = M 0 := aE_c0 r1
  have z2 : M2 0 = M1 0 := aE_c0 r2
  obtain ⟨W, w⟩ := K M2 q (z2.trans z1)
  refine ⟨W, bl_315_874 ⟨M1, v, r1, M2, v, ?_, fun _ => w, fun c => absurd rfl c⟩⟩
  exact r2
theorem ca_23 (hL : L ≤ 3072) (hn : n < 10000) (g0 : 0 ≤ a3) (g5 : a3 + 5 < L) (wr : wRd L M) (h : Rl n M) (K : nxt L n a3 M) : ∃ W, aX xc_315 (aSeek xc_315 887) [aR 0, aR 1, aR 145, aI a3] [] (SH L) M ([aI 1], SH L, W) := by
  have b1 := lw_ix (L := L) (j := 1) hL g0 g5 (by omega) (by omega)
  have H : opG L n 117 272 [aI (M 0 (aW (a3 + 1)))] M := op_order h
  obtain ⟨v, M1, M2, r1, r2, q⟩ := H
  have z1 : M1 0 = M 0 := aE_c0 r1
  have z2 : M2 0 = M1 0 := aE_c0 r2
  obtain ⟨W, w⟩ := K M2 q (z2.trans z1)
  refine ⟨W, bl_315_887 ⟨b1, M1, v, r1, b1, M2, v, ?_, fun _ => w, fun c => absurd rfl c⟩⟩
  rw [z1]; exact r2
theorem ca_24 (hL : L ≤ 3072) (hn : n < 10000) (g0 : 0 ≤ a3) (g5 : a3 + 5 < L) (wr : wRd L M) (h : Rl n M) (K : nxt L n a3 M) : ∃ W, aX xc_315 (aSeek xc_315 910) [aR 0, aR 1, aR 145, aI a3] [] (SH L) M ([aI 1], SH L, W) := by
  have b1 := lw_ix (L := L) (j := 1) hL g0 g5 (by omega) (by omega)
  have H : opG L n 118 273 [aI (M 0 (aW (a3 + 1)))] M := op_ordered h
  obtain ⟨v, M1, M2, r1, r2, q⟩ := H
  have z1 : M1 0 = M 0 := aE_c0 r1
  have z2 : M2 0 = M1 0 := aE_c0 r2
  obtain ⟨W, w⟩ := K M2 q (z2.trans z1)
  refine ⟨W, bl_315_910 ⟨b1, M1, v, r1, b1, M2, v, ?_, fun _ => w, fun c => absurd rfl c⟩⟩
  rw [z1]; exact r2
theorem ca_25 (hL : L ≤ 3072) (hn : n < 10000) (g0 : 0 ≤ a3) (g5 : a3 + 5 < L) (wr : wRd L M) (h : Rl n M) (K : nxt L n a3 M) : ∃ W, aX xc_315 (aSeek xc_315 933) [aR 0, aR 1, aR 145, aI a3] [] (SH L) M ([aI 1], SH L, W) := by
  have b1 := lw_ix (L := L) (j := 1) hL g0 g5 (by omega) (by omega)
  have H : opG L n 129 277 [aI (M 0 (aW (a3 + 1)))] M := op_gives h
  obtain ⟨v, M1, M2, r1, r2, q⟩ := H
  have z1 : M1 0 = M 0 := aE_c0 r1
  have z2 : M2 0 = M1 0 := aE_c0 r2
  obtain ⟨W, w⟩ := K M2 q (z2.trans z1)
  refine ⟨W, bl_315_933 ⟨b1, M1, v, r1, b1, M2, v, ?_, fun _ => w, fun c => absurd rfl c⟩⟩
  rw [z1]; exact r2
theorem ca_26 (hL : L ≤ 3072) (hn : n < 10000) (g0 : 0 ≤ a3) (g5 : a3 + 5 < L) (wr : wRd L M) (h : Rl n M) (K : nxt L n a3 M) : ∃ W, aX xc_315 (aSeek xc_315 956) [aR 0, aR 1, aR 145, aI a3] [] (SH L) M ([aI 1], SH L, W) := by
  have b1 := lw_ix (L := L) (j := 1) hL g0 g5 (by omega) (by omega)
  have b2 := lw_ix (L := L) (j := 2) hL g0 g5 (by omega) (by omega)
  have H : opG L n 130 279 [aI (M 0 (aW (a3 + 1))), aI (M 0 (aW (a3 + 2)))] M := op_shift h
  obtain ⟨v, M1, M2, r1, r2, q⟩ := H
  have z1 : M1 0 = M 0 := aE_c0 r1
  have z2 : M2 0 = M1 0 := aE_c0 r2
  obtain ⟨W, w⟩ := K M2 q (z2.trans z1)
  refine ⟨W, bl_315_956 ⟨b1, b2, M1, v, r1, b1, b2, M2, v, ?_, fun _ => w, fun c => absurd rfl c⟩⟩
  rw [z1]; exact r2
theorem ca_27 (hL : L ≤ 3072) (hn : n < 10000) (g0 : 0 ≤ a3) (g5 : a3 + 5 < L) (wr : wRd L M) (h : Rl n M) (K : nxt L n a3 M) : ∃ W, aX xc_315 (aSeek xc_315 989) [aR 0, aR 1, aR 145, aI a3] [] (SH L) M ([aI 1], SH L, W) := by
  have b1 := lw_ix (L := L) (j := 1) hL g0 g5 (by omega) (by omega)
  have b2 := lw_ix (L := L) (j := 2) hL g0 g5 (by omega) (by omega)
  have H : opG L n 132 280 [aI (M 0 (aW (a3 + 1))), aI (M 0 (aW (a3 + 2)))] M := op_bow h
  obtain ⟨v, M1, M2, r1, r2, q⟩ := H
  have z1 : M1 0 = M 0 := aE_c0 r1
  have z2 : M2 0 = M1 0 := aE_c0 r2
  obtain ⟨W, w⟩ := K M2 q (z2.trans z1)
  refine ⟨W, bl_315_989 ⟨b1, b2, M1, v, r1, b1, b2, M2, v, ?_, fun _ => w, fun c => absurd rfl c⟩⟩
  rw [z1]; exact r2
theorem ca_28 (hL : L ≤ 3072) (hn : n < 10000) (g0 : 0 ≤ a3) (g5 : a3 + 5 < L) (wr : wRd L M) (h : Rl n M) (K : nxt L n a3 M) : ∃ W, aX xc_315 (aSeek xc_315 1022) [aR 0, aR 1, aR 145, aI a3] [] (SH L) M ([aI 1], SH L, W) := by
  have H : opG L n 136 282 [] M := op_judge h
  obtain ⟨v, M1, M2, r1, r2, q⟩ := H
  have z1 : M1 0 = M 0 := aE_c0 r1
  have z2 : M2 0 = M1 0 := aE_c0 r2
  obtain ⟨W, w⟩ := K M2 q (z2.trans z1)
  refine ⟨W, bl_315_1022 ⟨M1, v, r1, M2, v, ?_, fun _ => w, fun c => absurd rfl c⟩⟩
  exact r2
theorem ca_29 (hL : L ≤ 3072) (hn : n < 10000) (g0 : 0 ≤ a3) (g5 : a3 + 5 < L) (wr : wRd L M) (h : Rl n M) (K : nxt L n a3 M) : ∃ W, aX xc_315 (aSeek xc_315 1035) [aR 0, aR 1, aR 145, aI a3] [] (SH L) M ([aI 1], SH L, W) := by
  have b1 := lw_ix (L := L) (j := 1) hL g0 g5 (by omega) (by omega)
  have H : opG L n 137 283 [aI (M 0 (aW (a3 + 1)))] M := op_breaks h
  obtain ⟨v, M1, M2, r1, r2, q⟩ := H
  have z1 : M1 0 = M 0 := aE_c0 r1
  have z2 : M2 0 = M1 0 := aE_c0 r2
  obtain ⟨W, w⟩ := K M2 q (z2.trans z1)
  refine ⟨W, bl_315_1035 ⟨b1, M1, v, r1, b1, M2, v, ?_, fun _ => w, fun c => absurd rfl c⟩⟩
  rw [z1]; exact r2
theorem ca_30 (hL : L ≤ 3072) (hn : n < 10000) (g0 : 0 ≤ a3) (g5 : a3 + 5 < L) (wr : wRd L M) (h : Rl n M) (K : nxt L n a3 M) : ∃ W, aX xc_315 (aSeek xc_315 1058) [aR 0, aR 1, aR 145, aI a3] [] (SH L) M ([aI 1], SH L, W) := by
  have b1 := lw_ix (L := L) (j := 1) hL g0 g5 (by omega) (by omega)
  have b2 := lw_ix (L := L) (j := 2) hL g0 g5 (by omega) (by omega)
  have b3 := lw_ix (L := L) (j := 3) hL g0 g5 (by omega) (by omega)
  have H : opG L n 146 288 [aI (M 0 (aW (a3 + 1))), aI (M 0 (aW (a3 + 2))), aI (M 0 (aW (a3 + 3)))] M := op_line h (wr _ (b3).1 (b3).2).2
  obtain ⟨v, M1, M2, r1, r2, q⟩ := H
  have z1 : M1 0 = M 0 := aE_c0 r1
  have z2 : M2 0 = M1 0 := aE_c0 r2
  obtain ⟨W, w⟩ := K M2 q (z2.trans z1)
  refine ⟨W, bl_315_1058 ⟨b1, b2, b3, M1, v, r1, b1, b2, b3, M2, v, ?_, fun _ => w, fun c => absurd rfl c⟩⟩
  rw [z1]; exact r2
theorem ca_31 (hL : L ≤ 3072) (hn : n < 10000) (g0 : 0 ≤ a3) (g5 : a3 + 5 < L) (wr : wRd L M) (h : Rl n M) (K : nxt L n a3 M) : ∃ W, aX xc_315 (aSeek xc_315 1101) [aR 0, aR 1, aR 145, aI a3] [] (SH L) M ([aI 1], SH L, W) := by
  have b1 := lw_ix (L := L) (j := 1) hL g0 g5 (by omega) (by omega)
  have b2 := lw_ix (L := L) (j := 2) hL g0 g5 (by omega) (by omega)
  have H : opG L n 148 289 [aI (M 0 (aW (a3 + 1))), aI (M 0 (aW (a3 + 2)))] M := op_fill h
  obtain ⟨v, M1, M2, r1, r2, q⟩ := H
  have z1 : M1 0 = M 0 := aE_c0 r1
  have z2 : M2 0 = M1 0 := aE_c0 r2
  obtain ⟨W, w⟩ := K M2 q (z2.trans z1)
  refine ⟨W, bl_315_1101 ⟨b1, b2, M1, v, r1, b1, b2, M2, v, ?_, fun _ => w, fun c => absurd rfl c⟩⟩
  rw [z1]; exact r2
theorem ca_32 (hL : L ≤ 3072) (hn : n < 10000) (g0 : 0 ≤ a3) (g5 : a3 + 5 < L) (wr : wRd L M) (h : Rl n M) (K : nxt L n a3 M) : ∃ W, aX xc_315 (aSeek xc_315 1134) [aR 0, aR 1, aR 145, aI a3] [] (SH L) M ([aI 1], SH L, W) := by
  have b1 := lw_ix (L := L) (j := 1) hL g0 g5 (by omega) (by omega)
  have b2 := lw_ix (L := L) (j := 2) hL g0 g5 (by omega) (by omega)
  have b3 := lw_ix (L := L) (j := 3) hL g0 g5 (by omega) (by omega)
  have H : opG L n 156 295 [aI (M 0 (aW (a3 + 1))), aI (M 0 (aW (a3 + 2))), aI (M 0 (aW (a3 + 3)))] M := op_gap h (wr _ (b3).1 (b3).2).2
  obtain ⟨v, M1, M2, r1, r2, q⟩ := H
  have z1 : M1 0 = M 0 := aE_c0 r1
  have z2 : M2 0 = M1 0 := aE_c0 r2
  obtain ⟨W, w⟩ := K M2 q (z2.trans z1)
  refine ⟨W, bl_315_1134 ⟨b1, b2, b3, M1, v, r1, b1, b2, b3, M2, v, ?_, fun _ => w, fun c => absurd rfl c⟩⟩
  rw [z1]; exact r2
theorem ca_33 (hL : L ≤ 3072) (hn : n < 10000) (g0 : 0 ≤ a3) (g5 : a3 + 5 < L) (wr : wRd L M) (h : Rl n M) (K : nxt L n a3 M) : ∃ W, aX xc_315 (aSeek xc_315 1177) [aR 0, aR 1, aR 145, aI a3] [] (SH L) M ([aI 1], SH L, W) := by
  have b1 := lw_ix (L := L) (j := 1) hL g0 g5 (by omega) (by omega)
  have b2 := lw_ix (L := L) (j := 2) hL g0 g5 (by omega) (by omega)
  have b3 := lw_ix (L := L) (j := 3) hL g0 g5 (by omega) (by omega)
  have b4 := lw_ix (L := L) (j := 4) hL g0 g5 (by omega) (by omega)
  have G : ∀ bb : Int, (bb = 0 ∨ bb = 1) → (bb = 0 ↔ M 0 (aW (a3 + 4)) = 0) → ∃ W, aX xc_315 (aSeek xc_315 1206) [aR 0, aR 1, aR 145, aI a3] [aI bb, aI (M 0 (aW (a3 + 3))), aI (M 0 (aW (a3 + 2))), aI (M 0 (aW (a3 + 1))), aR 1] (SH L) M ([aI 1], SH L, W) := by
    intro bb tbx eb
    have H : opG L n 158 297 [aI (M 0 (aW (a3 + 1))), aI (M 0 (aW (a3 + 2))), aI (M 0 (aW (a3 + 3))), aI bb] M := op_log h
    obtain ⟨v, M1, M2, r1, r2, q⟩ := H
    have z1 : M1 0 = M 0 := aE_c0 r1
    have z2 : M2 0 = M1 0 := aE_c0 r2
    obtain ⟨W, w⟩ := K M2 q (z2.trans z1)
    have G2 : aX xc_315 (aSeek xc_315 1238) [aR 0, aR 1, aR 145, aI a3] [aI bb, aI (M 0 (aW (a3 + 3))), aI (M 0 (aW (a3 + 2))), aI (M 0 (aW (a3 + 1))), aR 145, aI v] (SH L) M1 ([aI 1], SH L, W) := bl_315_1238 ⟨k145_, M2, v, r2, fun _ => w, fun c => absurd rfl c⟩
    refine ⟨W, bl_315_1206 ⟨k1_, M1, v, r1, b1, b2, b3, b4, ?_, ?_⟩⟩
    · rw [z1]; intro c; have e : bb = 0 := eb.mpr c; rw [e] at G2; exact G2
    · rw [z1]; intro c; have e : bb = 1 := by rcases tbx with e | e; exact absurd (eb.mp e) c; exact e
      rw [e] at G2; exact G2
  by_cases c : M 0 (aW (a3 + 4)) = 0
  · obtain ⟨W, g⟩ := G 0 (Or.inl rfl) ⟨fun _ => c, fun _ => rfl⟩
    exact ⟨W, bl_315_1177 ⟨b1, b2, b3, b4, fun _ => g, fun e => absurd c e⟩⟩
  · obtain ⟨W, g⟩ := G 1 (Or.inr rfl) ⟨fun e => absurd e (by decide), fun e => absurd e c⟩
    exact ⟨W, bl_315_1177 ⟨b1, b2, b3, b4, fun e => absurd e c, fun _ => g⟩⟩
theorem ca_34 (hL : L ≤ 3072) (hn : n < 10000) (g0 : 0 ≤ a3) (g5 : a3 + 5 < L) (wr : wRd L M) (h : Rl n M) (K : nxt L n a3 M) : ∃ W, aX xc_315 (aSeek xc_315 1246) [aR 0, aR 1, aR 145, aI a3] [] (SH L) M ([aI 1], SH L, W) := by
  have b1 := lw_ix (L := L) (j := 1) hL g0 g5 (by omega) (by omega)
  have H : opG L n 160 298 [aI (M 0 (aW (a3 + 1)))] M := op_annul h
  obtain ⟨v, M1, M2, r1, r2, q⟩ := H
  have z1 : M1 0 = M 0 := aE_c0 r1
  have z2 : M2 0 = M1 0 := aE_c0 r2
  obtain ⟨W, w⟩ := K M2 q (z2.trans z1)
  refine ⟨W, bl_315_1246 ⟨b1, M1, v, r1, b1, M2, v, ?_, fun _ => w, fun c => absurd rfl c⟩⟩
  rw [z1]; exact r2
theorem ca_35 (hL : L ≤ 3072) (hn : n < 10000) (g0 : 0 ≤ a3) (g5 : a3 + 5 < L) (wr : wRd L M) (h : Rl n M) (K : nxt L n a3 M) : ∃ W, aX xc_315 (aSeek xc_315 1269) [aR 0, aR 1, aR 145, aI a3] [] (SH L) M ([aI 1], SH L, W) := by
  have b1 := lw_ix (L := L) (j := 1) hL g0 g5 (by omega) (by omega)
  have b2 := lw_ix (L := L) (j := 2) hL g0 g5 (by omega) (by omega)
  have b3 := lw_ix (L := L) (j := 3) hL g0 g5 (by omega) (by omega)
  have H : opG L n 164 302 [aI (M 0 (aW (a3 + 1))), aI (M 0 (aW (a3 + 2))), aI (M 0 (aW (a3 + 3)))] M := op_lack h
  obtain ⟨v, M1, M2, r1, r2, q⟩ := H
  have z1 : M1 0 = M 0 := aE_c0 r1
  have z2 : M2 0 = M1 0 := aE_c0 r2
  obtain ⟨W, w⟩ := K M2 q (z2.trans z1)
  refine ⟨W, bl_315_1269 ⟨b1, b2, b3, M1, v, r1, b1, b2, b3, M2, v, ?_, fun _ => w, fun c => absurd rfl c⟩⟩
  rw [z1]; exact r2
theorem ca_36 (hL : L ≤ 3072) (hn : n < 10000) (g0 : 0 ≤ a3) (g5 : a3 + 5 < L) (wr : wRd L M) (h : Rl n M) (K : nxt L n a3 M) : ∃ W, aX xc_315 (aSeek xc_315 1312) [aR 0, aR 1, aR 145, aI a3] [] (SH L) M ([aI 1], SH L, W) := by
  have b1 := lw_ix (L := L) (j := 1) hL g0 g5 (by omega) (by omega)
  have H : opG L n 165 303 [aI (M 0 (aW (a3 + 1)))] M := op_worst h
  obtain ⟨v, M1, M2, r1, r2, q⟩ := H
  have z1 : M1 0 = M 0 := aE_c0 r1
  have z2 : M2 0 = M1 0 := aE_c0 r2
  obtain ⟨W, w⟩ := K M2 q (z2.trans z1)
  refine ⟨W, bl_315_1312 ⟨b1, M1, v, r1, b1, M2, v, ?_, fun _ => w, fun c => absurd rfl c⟩⟩
  rw [z1]; exact r2
theorem ca_37 (hL : L ≤ 3072) (hn : n < 10000) (g0 : 0 ≤ a3) (g5 : a3 + 5 < L) (wr : wRd L M) (h : Rl n M) (K : nxt L n a3 M) : ∃ W, aX xc_315 (aSeek xc_315 1335) [aR 0, aR 1, aR 145, aI a3] [] (SH L) M ([aI 1], SH L, W) := by
  have b1 := lw_ix (L := L) (j := 1) hL g0 g5 (by omega) (by omega)
  have b2 := lw_ix (L := L) (j := 2) hL g0 g5 (by omega) (by omega)
  have b3 := lw_ix (L := L) (j := 3) hL g0 g5 (by omega) (by omega)
  have H : opG L n 167 307 [aI (M 0 (aW (a3 + 1))), aI (M 0 (aW (a3 + 2))), aI (M 0 (aW (a3 + 3)))] M := op_page h
  obtain ⟨v, M1, M2, r1, r2, q⟩ := H
  have z1 : M1 0 = M 0 := aE_c0 r1
  have z2 : M2 0 = M1 0 := aE_c0 r2
  obtain ⟨W, w⟩ := K M2 q (z2.trans z1)
  refine ⟨W, bl_315_1335 ⟨b1, b2, b3, M1, v, r1, b1, b2, b3, M2, v, ?_, fun _ => w, fun c => absurd rfl c⟩⟩
  rw [z1]; exact r2
theorem ca_38 (hL : L ≤ 3072) (hn : n < 10000) (g0 : 0 ≤ a3) (g5 : a3 + 5 < L) (wr : wRd L M) (h : Rl n M) (K : nxt L n a3 M) : ∃ W, aX xc_315 (aSeek xc_315 1378) [aR 0, aR 1, aR 145, aI a3] [] (SH L) M ([aI 1], SH L, W) := by
  have b1 := lw_ix (L := L) (j := 1) hL g0 g5 (by omega) (by omega)
  have b2 := lw_ix (L := L) (j := 2) hL g0 g5 (by omega) (by omega)
  have b3 := lw_ix (L := L) (j := 3) hL g0 g5 (by omega) (by omega)
  have b4 := lw_ix (L := L) (j := 4) hL g0 g5 (by omega) (by omega)
  have H : opG L n 168 308 [aI (M 0 (aW (a3 + 1))), aI (M 0 (aW (a3 + 2))), aI (M 0 (aW (a3 + 3))), aI (M 0 (aW (a3 + 4)))] M := op_lies h
  obtain ⟨v, M1, M2, r1, r2, q⟩ := H
  have z1 : M1 0 = M 0 := aE_c0 r1
  have z2 : M2 0 = M1 0 := aE_c0 r2
  obtain ⟨W, w⟩ := K M2 q (z2.trans z1)
  refine ⟨W, bl_315_1378 ⟨b1, b2, b3, b4, M1, v, r1, b1, b2, b3, b4, M2, v, ?_, fun _ => w, fun c => absurd rfl c⟩⟩
  rw [z1]; exact r2
theorem ca_39 (hL : L ≤ 3072) (hn : n < 10000) (g0 : 0 ≤ a3) (g5 : a3 + 5 < L) (wr : wRd L M) (h : Rl n M) (K : nxt L n a3 M) : ∃ W, aX xc_315 (aSeek xc_315 1431) [aR 0, aR 1, aR 145, aI a3] [] (SH L) M ([aI 1], SH L, W) := by
  have b1 := lw_ix (L := L) (j := 1) hL g0 g5 (by omega) (by omega)
  have b2 := lw_ix (L := L) (j := 2) hL g0 g5 (by omega) (by omega)
  have H : opG L n 172 313 [aI (M 0 (aW (a3 + 1))), aI (M 0 (aW (a3 + 2)))] M := op_tuesday h
  obtain ⟨v, M1, M2, r1, r2, q⟩ := H
  have z1 : M1 0 = M 0 := aE_c0 r1
  have z2 : M2 0 = M1 0 := aE_c0 r2
  obtain ⟨W, w⟩ := K M2 q (z2.trans z1)
  refine ⟨W, bl_315_1431 ⟨b1, b2, M1, v, r1, b1, b2, M2, v, ?_, fun _ => w, fun c => absurd rfl c⟩⟩
  rw [z1]; exact r2
theorem ca_40 (hL : L ≤ 3072) (hn : n < 10000) (g0 : 0 ≤ a3) (g5 : a3 + 5 < L) (wr : wRd L M) (h : Rl n M) (K : nxt L n a3 M) : ∃ W, aX xc_315 (aSeek xc_315 1464) [aR 0, aR 1, aR 145, aI a3] [] (SH L) M ([aI 1], SH L, W) := by
  have b1 := lw_ix (L := L) (j := 1) hL g0 g5 (by omega) (by omega)
  have H : opG L n 174 310 [aI (M 0 (aW (a3 + 1)))] M := op_hold h
  obtain ⟨v, M1, M2, r1, r2, q⟩ := H
  have z1 : M1 0 = M 0 := aE_c0 r1
  have z2 : M2 0 = M1 0 := aE_c0 r2
  obtain ⟨W, w⟩ := K M2 q (z2.trans z1)
  refine ⟨W, bl_315_1464 ⟨b1, M1, v, r1, b1, M2, v, ?_, fun _ => w, fun c => absurd rfl c⟩⟩
  rw [z1]; exact r2
theorem ca_41 (hL : L ≤ 3072) (hn : n < 10000) (g0 : 0 ≤ a3) (g5 : a3 + 5 < L) (wr : wRd L M) (h : Rl n M) (K : nxt L n a3 M) : ∃ W, aX xc_315 (aSeek xc_315 1487) [aR 0, aR 1, aR 145, aI a3] [] (SH L) M ([aI 1], SH L, W) := by
  have b1 := lw_ix (L := L) (j := 1) hL g0 g5 (by omega) (by omega)
  have H : opG L n 175 311 [aI (M 0 (aW (a3 + 1)))] M := op_again h (by omega)
  obtain ⟨v, M1, M2, r1, r2, q⟩ := H
  have z1 : M1 0 = M 0 := aE_c0 r1
  have z2 : M2 0 = M1 0 := aE_c0 r2
  obtain ⟨W, w⟩ := K M2 q (z2.trans z1)
  refine ⟨W, bl_315_1487 ⟨b1, M1, v, r1, b1, M2, v, ?_, fun _ => w, fun c => absurd rfl c⟩⟩
  rw [z1]; exact r2
theorem ca_42 (hL : L ≤ 3072) (hn : n < 10000) (g0 : 0 ≤ a3) (g5 : a3 + 5 < L) (wr : wRd L M) (h : Rl n M) (K : nxt L n a3 M) : ∃ W, aX xc_315 (aSeek xc_315 1510) [aR 0, aR 1, aR 145, aI a3] [] (SH L) M ([aI 1], SH L, W) := by
  have b1 := lw_ix (L := L) (j := 1) hL g0 g5 (by omega) (by omega)
  have H : opG L n 177 314 [aI (M 0 (aW (a3 + 1)))] M := op_count h (wr _ (b1).1 (b1).2).2 (wr _ (b1).1 (b1).2).1
  obtain ⟨v, M1, M2, r1, r2, q⟩ := H
  have z1 : M1 0 = M 0 := aE_c0 r1
  have z2 : M2 0 = M1 0 := aE_c0 r2
  obtain ⟨W, w⟩ := K M2 q (z2.trans z1)
  refine ⟨W, bl_315_1510 ⟨b1, M1, v, r1, b1, M2, v, ?_, fun _ => w, fun c => absurd rfl c⟩⟩
  rw [z1]; exact r2
end CAS
