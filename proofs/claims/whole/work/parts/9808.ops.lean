/-! the law: calls that ask only -/
section OPS
variable {L : Nat} {M M1 M2 : aM} {n : Int}
/-- both answer alike, and what holds, holds on -/
def opG (L : Nat) (n : Int) (x y : Nat) (as : List aV) (M : aM) : Prop := ∃ v M1 M2, aE x (aR 1 :: as) (SH L) M ([aI v], SH L, M1) ∧ aE y (aR 145 :: as) (SH L) M1 ([aI v], SH L, M2) ∧ Rl (n + 1) M2
theorem Rl_1 (h : Rl n M) : Rl (n + 1) M := Rl_mn h (by omega)
theorem op_place (h : Rl n M) : opG L n 54 215 [] M := ⟨M 1 6, M, M, en_54 rfl, en_215 (by rw [h.1.2.2.2.2.2.2.2.2.1]), Rl_1 h⟩
theorem op_kind (h : Rl n M) {k w : Int} : opG L n 56 222 [aI k, aI w] M := ⟨_, M, M, (o_kind h.1.1).1, (o_kind h.1.1).2, Rl_1 h⟩
theorem op_thing (h : Rl n M) {k w : Int} : opG L n 66 229 [aI k, aI w] M := ⟨_, M, M, (o_thing h.1.1).1, (o_thing h.1.1).2, Rl_1 h⟩
theorem op_at (h : Rl n M) {x y : Int} : opG L n 68 231 [aI x, aI y] M := ⟨_, M, M, s_68 h.1.1.2.1.1 (rP_tx h.1.1), s_231 h.1.1, Rl_1 h⟩
theorem op_empty (h : Rl n M) : opG L n 70 232 [] M := ⟨_, M, M, s_70 h.1.1.2.1.1 h.1.1.1.1, s_232 h.1.1, Rl_1 h⟩
theorem op_touch (h : Rl n M) {i j : Int} : opG L n 74 237 [aI i, aI j] M := ⟨_, M, M, s_74 h.1.1.2.1.1, s_237 h.1.1, Rl_1 h⟩
theorem op_joint (h : Rl n M) {a l : Int} : opG L n 110 266 [aI a, aI l] M := ⟨_, M, M, s_110 h.1.1, s_266 h.1.1, Rl_1 h⟩
theorem op_long (h : Rl n M) : opG L n 111 267 [] M := ⟨_, M, M, s_111 h.1.1, s_267 h.1.1, Rl_1 h⟩
theorem op_page (h : Rl n M) {f p w : Int} : opG L n 167 307 [aI f, aI p, aI w] M := by
  obtain ⟨M1, r, s⟩ := s_307 (L := L) (M := M) (f := f) (p := p) (w := w)
  exact ⟨_, M, M1, s_167, r, Rl_1 (Rl_sc h s)⟩
theorem op_lies (h : Rl n M) {f a b c : Int} : opG L n 168 308 [aI f, aI a, aI b, aI c] M := by
  obtain ⟨M1, r, s⟩ := s_308 (L := L) (M := M) (f := f) (a := a) (b := b) (c := c)
  exact ⟨_, M, M1, s_168, r, Rl_1 (Rl_sc h s)⟩
theorem op_tuesday (h : Rl n M) {s w : Int} : opG L n 172 313 [aI s, aI w] M := by
  obtain ⟨M1, r, z⟩ := s_313 (L := L) h.1.1 h.1.2.1 (s := s) (w := w)
  exact ⟨_, M, M1, s_172 h.1.1 h.1.2.1, r, Rl_1 (Rl_sc h z)⟩
theorem op_count (h : Rl n M) {w : Int} (hw : w < 2147483648) (hw0 : -2147483648 ≤ w) : opG L n 177 314 [aI w] M :=
  ⟨_, M, M, s_177 h.1.1 hw, s_314 h.1.1 h.1.2.2.1 h.1.2.1 h.1.2.2.2.2.1.2.1 h.1.2.2.2.2.2.1.2.1.2.2 hw hw0, Rl_1 h⟩
theorem Rl_fl (h : Rl n M) (f : fl M M1) : Rl n M1 := ⟨Rb_cg h.1 (bF_fl f), Rc_cg h.1.1 h.2 (fun a x => funext fun b => f a b (by omega) (by omega) (by omega)) (fun a x y => funext fun b => f a b (by omega) (by omega) (by omega))⟩
theorem op_lack (h : Rl n M) {d k m : Int} : opG L n 164 302 [aI d, aI k, aI m] M := by
  obtain ⟨M1, r, f⟩ := s_164 (L := L) h.1.2.2.1 h.1.1.1.1 (d := d) (kd := k) (n := m)
  have h1 := Rl_fl h f
  have t := tx_le (rP_tx h.1.1)
  have g := s_302 (L := L) h1.1.2.2.1 h1.1.1.1 (d := d) (kd := k) (n := m)
  have e1 : M1 1 = M 1 := funext fun b => f 1 b (by omega) (by omega) (by omega)
  have eT : ∀ a, 9 ≤ a → a ≤ 63 → M1 a = M a := fun a x y => funext fun b => f a b (by omega) (by omega) (by omega)
  have e0 : M1 138 0 = M 138 0 := f 138 0 (by omega) (by omega) (by omega)
  rw [e1, eT (M 1 3) (by omega) (by omega), eT (M 1 3 + 5) (by omega) (by omega), e0, lckV_cg e0 (fun a x => funext fun b => f a b (by omega) (by omega) (by omega))] at g
  exact ⟨_, M1, M1, r, g, Rl_1 h1⟩
theorem op_worst (h : Rl n M) {m : Int} : opG L n 165 303 [aI m] M := by
  obtain ⟨M1, r, f⟩ := s_165 (L := L) h.1.2.2.1 h.1.1.1.1 (n := m)
  have h1 := Rl_fl h f
  have t := tx_le (rP_tx h.1.1)
  have g := s_303 (L := L) h1.1.2.2.1 h1.1.1.1 (n := m)
  have e1 : M1 1 = M 1 := funext fun b => f 1 b (by omega) (by omega) (by omega)
  have eT : ∀ a, 9 ≤ a → a ≤ 63 → M1 a = M a := fun a x y => funext fun b => f a b (by omega) (by omega) (by omega)
  have e0 : M1 138 0 = M 138 0 := f 138 0 (by omega) (by omega) (by omega)
  have eS : ∀ kd has : Int, lckS M1 m kd has = lckS M m kd has := fun kd has => by
    unfold lckS
    congr 1
    funext d
    exact lckV_cg e0 (fun a x => funext fun b => f a b (by omega) (by omega) (by omega))
  simp only [e1, eT (M 1 3) (by omega) (by omega), eT (M 1 3 + 5) (by omega) (by omega), e0, eS] at g
  exact ⟨_, M1, M1, r, g, Rl_1 h1⟩
/-- questions to the bed -/
theorem op_P {x y : Nat} {as : List aV} {V : aM → Int} (h : Rl n M) (c : ∃ M1, aE x (aR 1 :: as) (SH L) M ([aI (V M)], SH L, M1) ∧ fr 64 83 M M1 ∧ cP M1) (r : ∀ K, rP K → ∃ M1, aE y (aR 145 :: as) (SH L) K ([aI (V K)], SH L, M1) ∧ sc K M1) (e : ∀ K, rP M → ke M K → V K = V M) : opG L n x y as M := by
  obtain ⟨M1, a1, a2, a3⟩ := c
  have h1 := Rl_P h a2 a3
  obtain ⟨M2, b1, b2⟩ := r M1 h1.1.1
  rw [e M1 h.1.1 (ke_fr a2 (by omega) (by omega))] at b1
  exact ⟨_, M1, M2, a1, b1, Rl_1 (Rl_sc h1 b2)⟩
theorem op_pushed (h : Rl n M) {t s : Int} : opG L n 94 252 [aI t, aI s] M := op_P (V := fun M => if (0 ≤ t ∧ t < M 31 0) ∧ 0 ≤ s ∧ s < 4 then bi (psh M (fun _ => true) (M 31 8) s t) else -1) h (s_94 h.1.1 h.2.1) (fun K hK => s_252 hK) (fun K hp k => by rw [psh_ke hp k, k 31 (by omega)])
theorem op_borne (h : Rl n M) {t s : Int} : opG L n 96 253 [aI t, aI s] M := op_P (V := fun M => if (0 ≤ t ∧ t < M 31 0) ∧ 0 ≤ s ∧ s < 4 then bi (brn M (fun _ => true) s t) else -1) h (s_96 h.1.1 h.2.1) (fun K hK => s_253 hK) (fun K hp k => by rw [brn_ke hp k, k 31 (by omega)])
theorem op_held (h : Rl n M) {t : Int} : opG L n 99 254 [aI t] M := op_P (V := fun M => if 0 ≤ t ∧ t < M 31 0 then bi (hAc M (fun _ => true) (M 31 8) t) + 2 * bi (hAl M (fun _ => true) (M 31 8) t) else -1) h (s_99 h.1.1 h.2.1) (fun K hK => s_254 hK) (fun K hp k => by rw [hAc_ke hp k, hAl_ke hp k, k 31 (by omega)])
theorem op_holds (h : Rl n M) : opG L n 100 255 [] M := op_P (V := fun M => sumI (fun t => bi (hld M (fun _ => true) (M 31 8) t)) 0 (M 31 0)) h (s_100 h.1.1 h.2.1) (fun K hK => s_255 hK) (fun K hp k => by simp only [hld_ke hp k]; rw [k 31 (by omega)])
theorem op_drops (h : Rl n M) {t : Int} : opG L n 102 257 [aI t] M := op_P (V := fun M => if 0 ≤ t ∧ t < M 31 0 then drp M (M 31 8) t else -1) h (s_102 h.1.1 h.2.1) (fun K hK => s_257 hK) (fun K hp k => by rw [drp_ke hp k, k 31 (by omega)])
theorem op_round (h : Rl n M) {r : Int} : opG L n 103 258 [aI r] M := op_P (V := fun M => if 0 ≤ r then rndV M (M 31 8) r else -1) h (s_103 h.1.1 h.2.1) (fun K hK => s_258 hK) (fun K hp k => by rw [rndV_ke hp k, k 31 (by omega)])
theorem op_keeps (h : Rl n M) {t : Int} : opG L n 105 261 [aI t] M := op_P (V := fun M => if 0 ≤ t ∧ t < M 31 0 then kpV M (M 31 8) t else -1) h (s_105 h.1.1 h.2.1) (fun K hK => s_261 hK) (fun K hp k => by rw [kpV_ke hp k, k 31 (by omega)])
theorem op_most (h : Rl n M) : opG L n 106 262 [] M := op_P (V := fun M => if M 31 0 = 0 then -2 else wrI (kpV M (M 31 8)) (M 31 0) 1 0 (kpV M (M 31 8) 0)) h (s_106 h.1.1 h.2.1) (fun K hK => s_262 hK) (fun K hp k => by
  have e : kpV K (K 31 8) = kpV M (M 31 8) := by funext t; rw [kpV_ke hp k, k 31 (by omega)]
  rw [e, k 31 (by omega)])
theorem op_simple (h : Rl n M) {i : Int} (hi : i < 2147483648) : opG L n 107 263 [aI i] M := op_P (V := fun M => if i < 0 then -1 else ntI (smP M (M 31 8)) (M 31 0) 0 i) h (s_107 h.1.1 h.2.1 hi) (fun K hK => s_263 hK hi) (fun K hp k => by
  have e : smP K (K 31 8) = smP M (M 31 8) := by funext t; rw [smP_ke hp k, k 31 (by omega)]
  rw [e, k 31 (by omega)])
/-- lines and gaps -/
theorem op_line (h : Rl n M) {x a w : Int} (hw : w < 2147483648) : opG L n 146 288 [aI x, aI a, aI w] M := by
  obtain ⟨v, M1, M2, r1, r2, f, c, s⟩ := o_line (L := L) h.1.1 h.2.2.1 (x := x) (a := a) hw
  have k := ke_fr f (by omega) (by omega)
  have h1 : Rl n M1 := ⟨Rb_cg h.1 (bF_fr f (by omega) (by omega)), cP_cg h.1.1 h.2.1 k (fun a x y => f a (by omega)), c, cG_ke h.1.1 h.2.2.2.1 k (fun a x y => f a (by omega)), cW_cg k (fun a x y => f a (by omega)) h.2.2.2.2.1, cO_cg h.1.1 k (fun a x y => f a (by omega)) h.2.2.2.2.2⟩
  exact ⟨v, M1, M2, r1, r2, Rl_1 (Rl_sc h1 s)⟩
theorem op_fill (h : Rl n M) {x a : Int} : opG L n 148 289 [aI x, aI a] M := by
  obtain ⟨v, M1, M2, r1, r2, f, c, s⟩ := o_fill (L := L) h.1.1 h.2.2.1 (x := x) (a := a)
  have k := ke_fr f (by omega) (by omega)
  have h1 : Rl n M1 := ⟨Rb_cg h.1 (bF_fr f (by omega) (by omega)), cP_cg h.1.1 h.2.1 k (fun a x y => f a (by omega)), c, cG_ke h.1.1 h.2.2.2.1 k (fun a x y => f a (by omega)), cW_cg k (fun a x y => f a (by omega)) h.2.2.2.2.1, cO_cg h.1.1 k (fun a x y => f a (by omega)) h.2.2.2.2.2⟩
  exact ⟨v, M1, M2, r1, r2, Rl_1 (Rl_sc h1 s)⟩
theorem op_gap (h : Rl n M) {W x w : Int} (hw : w < 2147483648) : opG L n 156 295 [aI W, aI x, aI w] M := by
  obtain ⟨v, M1, M2, r1, r2, f, c, s⟩ := o_gap (L := L) h.1.1 h.2.2.2.1 (W := W) (x := x) hw
  have k := ke_fr f (by omega) (by omega)
  have h1 : Rl n M1 := ⟨Rb_cg h.1 (bF_fr f (by omega) (by omega)), cP_cg h.1.1 h.2.1 k (fun a x y => f a (by omega)), cL_cg h.1.1 h.2.2.1 k (fun a x y => f a (by omega)), c, cW_cg k (fun a x y => f a (by omega)) h.2.2.2.2.1, cO_cg h.1.1 k (fun a x y => f a (by omega)) h.2.2.2.2.2⟩
  exact ⟨v, M1, M2, r1, r2, Rl_1 (Rl_sc h1 s)⟩
end OPS
