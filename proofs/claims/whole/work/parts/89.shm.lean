/-! what a thing gives, and shifts: the reference's -/
section SHM1
variable {L : Nat} {M M1 M2 : aM}
def clp (v : Int) : Int := max 0 (min 9 v)
def gvV (M : aM) (t : Int) : Int := if M 164 0 < 0 then 0 else clp ((exV (M 170) (M 171) (asV M t 0 0) (M 164 0) (M 165 0)).getD 0)
theorem clp_le {v : Int} : 0 ≤ clp v ∧ clp v ≤ 9 := by unfold clp; omega
theorem gv_le {t : Int} : 0 ≤ gvV M t ∧ gvV M t ≤ 9 := by
  unfold gvV
  split
  · omega
  · exact clp_le
theorem gv_ke (k : ke M M1) {t : Int} : gvV M1 t = gvV M t := by
  unfold gvV
  rw [k 164 (by omega), k 165 (by omega), k 170 (by omega), k 171 (by omega), exV_vr (fun j _ _ => asV_ke k)]
def gvF (M M1 : aM) : Prop := (∀ a, a ≠ 145 → a ≠ 191 → a ≠ 192 → M1 a = M a) ∧ ∀ j, j ≠ 59 → M1 145 j = M 145 j
theorem gvF_sc (h : gvF M M1) : sc M M1 := ⟨fun a x y z => h.1 a x (by omega) (by omega), fun j hj => h.2 j (by omega)⟩
theorem rG_ke (h : rP M) (k : ke M M1) (hg : rG M (M 1 3)) : rG M1 (M1 1 3) := by
  have t := tx_le (rP_tx h)
  rw [k 1 (by omega)]
  unfold rG
  rw [k 164 (by omega), k 165 (by omega), k 170 (by omega), k 171 (by omega), k (M 1 3) (by omega), k (M 1 3 + 8) (by omega)]
  exact hg
theorem s_276 (h : rP M) (hg : rG M (M 1 3)) {t : Int} (t0 : 0 ≤ t) (t1 : t < M 31 0) : ∃ M1, aE 276 [aR 145, aI t] (SH L) M ([aI (gvV M t)], SH L, M1) ∧ gvF M M1 := by
  obtain ⟨K, r, f, v⟩ := s_275 (L := L) h t0 t1
  have fin : ∀ (M' : aM) (b : Int), aX xc_276 (aSeek xc_276 34) [aU, aU, aU] [aI b] (SH L) M' ([aI (clp b)], SH L, M') := by
    intro M' b
    refine bl_276_34 ⟨fun q => ⟨fun q2 => rI ?_, fun q2 => rI ?_⟩, fun q => rI ?_⟩
    · unfold clp; omega
    · unfold clp; omega
    · unfold clp; omega
  unfold gvV
  rcases hg with ⟨g0, -, -⟩ | ⟨-, w, -⟩
  · rw [if_pos (by omega)]
    refine ⟨K, en_276 ⟨K, r, fun q => absurd q (by rw [f 164 (by omega)]; omega), fun _ => fin K 0⟩, fun a x y z => f a y, fun j _ => by rw [f 145 (by omega)]⟩
  · have w0 := w.1.1
    rw [if_neg (by omega)]
    obtain ⟨M1, r1, f1, -⟩ := s_216 (L := L) (M := K) (f := M 164 0) (t := M 165 0) (by rw [f 170 (by omega), f 171 (by omega)]; exact w)
    rw [f 170 (by omega), f 171 (by omega), exV_vr v] at r1
    refine ⟨M1, en_276 ⟨K, r, fun _ => ⟨M1, _, by rw [f 164 (by omega), f 165 (by omega)]; exact r1, fin M1 _⟩, fun q => absurd (by rw [f 164 (by omega)]; omega) q⟩, fun a x y z => by rw [f1.1 a x z, f a y], fun j hj => by rw [f1.2 j hj, f 145 (by omega)]⟩
theorem s_277 (h : rP M) (hg : rG M (M 1 3)) {t : Int} : ∃ M1, aE 277 [aR 145, aI t] (SH L) M ([aI (if 0 ≤ t ∧ t < M 31 0 then gvV M t else -1)], SH L, M1) ∧ sc M M1 := by
  have n := rP_n h
  by_cases c : 0 ≤ t ∧ t < M 31 0
  · obtain ⟨M1, r, f⟩ := s_276 (L := L) h hg c.1 c.2
    rw [if_pos c]
    exact ⟨M1, en_277 ⟨M, _, s_221, fun q => absurd (bid0.mp q) (by omega), fun _ => ⟨M1, _, r, rfl⟩⟩, gvF_sc f⟩
  · rw [if_neg c]
    exact ⟨M, en_277 ⟨M, _, s_221, fun _ => rfl, fun q => absurd (bid0.mpr (by omega)) q⟩, sc_rf⟩
def smD (M : aM) (S A : Int → Int) : Int := sumI (fun t => S t - A t) 0 (M 31 0)
theorem smD_set {S A B : Int → Int} {t v : Int} (t0 : 0 ≤ t) (t1 : t < M 31 0) (hb : B t = v) (h2 : ∀ x, x ≠ t → B x = A x) (hv : A t < v) : smD M S B < smD M S A := by
  unfold smD
  have e := sumI_add (f := fun x => S x - B x) (g := fun x => if x = t then v - A t else 0) (n := M 31 0) 0
  have e2 : sumI (fun x => S x - B x + if x = t then v - A t else 0) 0 (M 31 0) = sumI (fun x => S x - A x) 0 (M 31 0) := by
    refine sumI_congr 0 (fun x x0 x1 => ?_)
    by_cases q : x = t
    · rw [if_pos q, q, hb]; omega
    · rw [if_neg q, h2 x q]; omega
  rw [e2, sumI_pick (f := fun x => if x = t then v - A t else 0) (t := t) 0 t0 t1 (fun j j0 j1 jt => if_neg jt), if_pos rfl] at e
  omega
theorem s_278 (h : rP M) (hg : rG M (M 1 3)) {s : Int} (hs : 0 ≤ s ∧ s < 4) {S : Int → Int} (hS : SQ M s (gvV M) S) (hB : ∀ t, 0 ≤ t → t < M 31 0 → S t ≤ 720) : ∃ M1, aE 278 [aR 145, aI s] (SH L) M ([], SH L, M1) ∧ sc M M1 ∧ ∀ t, 0 ≤ t → t < M 31 0 → M1 203 t = S t := by
  have n := rP_n h
  have l2 : aLn (SH L) 1 202 = 40 := rfl
  have l3 : aLn (SH L) 1 203 = 40 := rfl
  -- the sweeps
  have sw : ∀ K : aM, sc M K → (∀ t, 0 ≤ t → t < M 31 0 → K 202 t = gvV M t) → ∀ m : Nat, ∀ M' : aM, (∀ a, a ≠ 203 → M' a = K a) → (∀ t, 0 ≤ t → t < M 31 0 → 0 ≤ M' 203 t ∧ M' 203 t ≤ S t) → smD M S (M' 203) < m →
      ∃ M1, aX xc_278 (aSeek xc_278 38) [aR 145, aI s, aI 1, aU, aU] [] (SH L) M' ([], SH L, M1) ∧ (∀ a, a ≠ 203 → M1 a = K a) ∧ ∀ t, 0 ≤ t → t < M 31 0 → M1 203 t = S t := by
    intro K hK hv m
    induction m with
    | zero =>
      intro M' hf hi hm
      have := (sumI_le (f := fun t => S t - M' 203 t) (n := M 31 0) (c := 720) 0 (fun j j0 j1 => by have := hi j j0 j1; have := hB j j0 j1; omega)).1
      unfold smD at hm
      omega
    | succ m ihm =>
      intro M' hf hi hm
      let C : aM → Int → Int → Prop := fun Q t o => 0 < tA M t s o → Q 203 o + gvV M o ≤ Q 203 t
      let J : aM → Int → Int → Int → Prop := fun Q b t o => (∀ a, a ≠ 203 → Q a = K a) ∧ (∀ t, 0 ≤ t → t < M 31 0 → 0 ≤ Q 203 t ∧ Q 203 t ≤ S t) ∧ ((b = 0 ∧ smD M S (Q 203) ≤ m ∧ (∀ t' o', 0 ≤ t' → t' < t → 0 ≤ o' → o' < M 31 0 → C Q t' o') ∧ ∀ o', 0 ≤ o' → o' < o → C Q t o') ∨ (b = 1 ∧ smD M S (Q 203) < m))
      have fin : ∀ (Q : aM) (b t : Int), M 31 0 ≤ t → J Q b t 0 → ∃ M1, aX xc_278 (aSeek xc_278 38) [aR 145, aI s, aI b, aU, aU] [] (SH L) Q ([], SH L, M1) ∧ (∀ a, a ≠ 203 → M1 a = K a) ∧ ∀ t, 0 ≤ t → t < M 31 0 → M1 203 t = S t := by
        rintro Q b t ht ⟨j1, j2, ⟨rfl, -, j3, -⟩ | ⟨rfl, j3⟩⟩
        · refine ⟨Q, bl_278_38 ⟨fun _ => rfl, fun q => absurd rfl q⟩, j1, fun x x0 x1 => ?_⟩
          have := SQ_min h hs hS (fun y y0 y1 => (j2 y y0 y1).1) (fun y o y0 y1 o0 o1 ho => j3 y o y0 (by omega) o0 o1 ho) x x0 x1
          have := (j2 x x0 x1).2
          omega
        · exact ihm Q j1 j2 j3
      have inn : ∀ t, 0 ≤ t → t < M 31 0 → (∀ (Q : aM) (b : Int), J Q b (t + 1) 0 → ∃ M1, aX xc_278 (aSeek xc_278 46) [aR 145, aI s, aI b, aI (t + 1), aU] [] (SH L) Q ([], SH L, M1) ∧ (∀ a, a ≠ 203 → M1 a = K a) ∧ ∀ t, 0 ≤ t → t < M 31 0 → M1 203 t = S t) →
          ∀ o, ∀ (Q : aM) (b : Int), 0 ≤ o → o ≤ M 31 0 → J Q b t o → ∃ M1, aX xc_278 (aSeek xc_278 59) [aR 145, aI s, aI b, aI t, aI o] [] (SH L) Q ([], SH L, M1) ∧ (∀ a, a ≠ 203 → M1 a = K a) ∧ ∀ t, 0 ≤ t → t < M 31 0 → M1 203 t = S t := by
        intro t t0 t1 nxt
        refine upto (M 31 0) (fun o ho Q b o0 o1 hJ => ?_) (fun o ho ih Q b o0 o1 hJ => ?_)
        · obtain ⟨j1, j2, j3⟩ := hJ
          obtain ⟨M1, r, y⟩ := nxt Q b ⟨j1, j2, by
            rcases j3 with ⟨jb, jm, j3, j4⟩ | j3
            · refine Or.inl ⟨jb, jm, fun t' o' a1 a2 a3 a4 => ?_, fun o' a1 a2 => by omega⟩
              by_cases q : t' = t
              · rw [q]; exact j4 o' a3 (by omega)
              · exact j3 t' o' a1 (by omega) a3 a4
            · exact Or.inr j3⟩
          refine ⟨M1, bl_278_59 ⟨fun _ => ?_, fun q => absurd ?_ q⟩, y⟩
          · rw [aWi (z := t + 1) (by omega) (by omega)]; exact r
          · rw [j1 179 (by omega), hK.1 179 (by omega) (by omega) (by omega), n.2.2]; exact ho
        · obtain ⟨j1, j2, j3⟩ := hJ
          have hQ : sc M Q := ⟨fun a x y z => by rw [j1 a (by omega)]; exact hK.1 a x y z, fun j hj => by rw [j1 145 (by omega)]; exact hK.2 j hj⟩
          have kQ := ke_sc hQ
          have q179 : ¬ Q 179 0 ≤ o := by rw [j1 179 (by omega), hK.1 179 (by omega) (by omega) (by omega), n.2.2]; omega
          have skip : C Q t o → ∃ M1, aX xc_278 (aSeek xc_278 137) [aR 145, aI s, aI b, aI t, aI o] [] (SH L) Q ([], SH L, M1) ∧ (∀ a, a ≠ 203 → M1 a = K a) ∧ ∀ t, 0 ≤ t → t < M 31 0 → M1 203 t = S t := by
            intro hc
            obtain ⟨M1, r, y⟩ := ih Q b (by omega) (by omega) ⟨j1, j2, by
              rcases j3 with ⟨jb, jm, j3, j4⟩ | j3
              · refine Or.inl ⟨jb, jm, j3, fun o' a1 a2 => ?_⟩
                by_cases q : o' = o
                · rw [q]; exact hc
                · exact j4 o' a1 (by omega)
              · exact Or.inr j3⟩
            refine ⟨M1, bl_278_137 ?_, y⟩
            rw [aWi (z := o + 1) (by omega) (by omega)]; exact r
          by_cases c : o = t
          · obtain ⟨M1, r, y⟩ := skip (fun q => by rw [c, tA_self h t0 t1] at q; omega)
            exact ⟨M1, bl_278_59 ⟨fun q => absurd q q179, fun _ => ⟨fun _ => r, fun q => absurd c q⟩⟩, y⟩
          · have e235 := s_235 (L := L) (ke_rP h kQ) (t := t) (s := s) (o := o) t0 (by rw [kQ 31 (by omega)]; exact t1) o0 (by rw [kQ 31 (by omega)]; exact ho)
            rw [ke_tA kQ] at e235
            have tp := tA_le h (s := s) t0 t1 o0 ho
            by_cases d : tA M t s o = 0
            · obtain ⟨M1, r, y⟩ := skip (fun q => by omega)
              exact ⟨M1, bl_278_59 ⟨fun q => absurd q q179, fun _ => ⟨fun q => absurd q c, fun _ => ⟨Q, _, e235, fun _ => r, fun q => absurd d q⟩⟩⟩, y⟩
            · have vo := j2 o o0 ho
              have vt := j2 t t0 t1
              have so := hB o o0 ho
              have st := hB t t0 t1
              have gg := gv_le (M := M) (t := o)
              have e202 : Q 202 o = gvV M o := by rw [j1 202 (by omega)]; exact hv o o0 ho
              have eW : aW (Q 203 o + Q 202 o) = Q 203 o + gvV M o := by rw [e202, aWi (by omega) (by omega)]
              by_cases e : Q 203 t < Q 203 o + gvV M o
              · have up := (hS t t0 t1).2.1 o o0 ho (by omega)
                have dec := smD_set (M := M) (S := S) (A := Q 203) (B := (aSet Q 203 t (Q 203 o + gvV M o)) 203) t0 t1 aSet_e (fun x hx => aSet_i hx) e
                have ms : smD M S (Q 203) ≤ m := by
                  rcases j3 with ⟨-, jm, -⟩ | ⟨-, jm⟩
                  · exact jm
                  · omega
                obtain ⟨M1, r, y⟩ := ih (aSet Q 203 t (Q 203 o + gvV M o)) 1 (by omega) (by omega) ⟨fun a ha => by rw [aSet_c ha]; exact j1 a ha, fun x x0 x1 => by
                  rw [aSet_q]
                  have := j2 x x0 x1
                  split
                  · rename_i q; rw [q]; omega
                  · exact this, Or.inr ⟨rfl, by omega⟩⟩
                refine ⟨M1, bl_278_59 ⟨fun q => absurd q q179, fun _ => ⟨fun q => absurd q c, fun _ => ⟨Q, _, e235, fun q => absurd q d, fun _ => ⟨by omega, by omega, by omega, fun _ => ⟨by omega, by omega, by omega, bl_278_137 ?_⟩, fun q => absurd (by rw [eW]; exact e) q⟩⟩⟩⟩, y⟩
                rw [eW, aWi (z := o + 1) (by omega) (by omega)]
                exact r
              · obtain ⟨M1, r, y⟩ := skip (fun _ => by omega)
                exact ⟨M1, bl_278_59 ⟨fun q => absurd q q179, fun _ => ⟨fun q => absurd q c, fun _ => ⟨Q, _, e235, fun q => absurd q d, fun _ => ⟨by omega, by omega, by omega, fun q => absurd q (by rw [eW]; exact e), fun _ => r⟩⟩⟩⟩, y⟩
      have out : ∀ t, ∀ (Q : aM) (b : Int), 0 ≤ t → t ≤ M 31 0 → J Q b t 0 → ∃ M1, aX xc_278 (aSeek xc_278 46) [aR 145, aI s, aI b, aI t, aU] [] (SH L) Q ([], SH L, M1) ∧ (∀ a, a ≠ 203 → M1 a = K a) ∧ ∀ t, 0 ≤ t → t < M 31 0 → M1 203 t = S t := by
        refine upto (M 31 0) (fun t ht Q b t0 t1 hJ => ?_) (fun t ht ih Q b t0 t1 hJ => ?_)
        · obtain ⟨M1, r, y⟩ := fin Q b t ht hJ
          refine ⟨M1, bl_278_46 ⟨fun _ => r, fun q => absurd ?_ q⟩, y⟩
          rw [hJ.1 179 (by omega), hK.1 179 (by omega) (by omega) (by omega), n.2.2]; exact ht
        · obtain ⟨M1, r, y⟩ := inn t t0 ht (fun Q' b' hJ' => ih Q' b' (by omega) (by omega) hJ') 0 Q b (by omega) (by omega) hJ
          exact ⟨M1, bl_278_46 ⟨fun q => absurd q (by rw [hJ.1 179 (by omega), hK.1 179 (by omega) (by omega) (by omega), n.2.2]; omega), fun _ => r⟩, y⟩
      obtain ⟨M1, r, y⟩ := out 0 M' 0 (by omega) n.1 ⟨hf, hi, Or.inl ⟨rfl, by omega, fun t' o' a1 a2 => by omega, fun o' a1 a2 => by omega⟩⟩
      exact ⟨M1, bl_278_38 ⟨fun q => absurd q (by omega), fun _ => r⟩, y⟩
  -- the first loop
  have lp : ∀ t, ∀ M' : aM, 0 ≤ t → t ≤ M 31 0 → sc M M' → (∀ x, 0 ≤ x → x < t → M' 202 x = gvV M x ∧ M' 203 x = 0) → ∃ M1, aX xc_278 (aSeek xc_278 2) [aR 145, aI s, aI t, aU, aU] [] (SH L) M' ([], SH L, M1) ∧ sc M M1 ∧ ∀ t, 0 ≤ t → t < M 31 0 → M1 203 t = S t := by
    refine upto (M 31 0) (fun t ht M' t0 t1 hf hv => ?_) (fun t ht ih M' t0 t1 hf hv => ?_)
    · obtain ⟨M1, r, f, y⟩ := sw M' hf (fun x x0 x1 => (hv x x0 (by omega)).1) (smD M S (M' 203) + 1).toNat M' (fun _ _ => rfl) (fun x x0 x1 => by have := (hv x x0 (by omega)).2; have := (hS x x0 x1).1; omega) (by omega)
      refine ⟨M1, bl_278_2 ⟨fun _ => r, fun q => absurd ?_ q⟩, sc_tr hf ⟨fun a x y z => f a (by omega), fun j hj => by rw [f 145 (by omega)]⟩, y⟩
      rw [hf.1 179 (by omega) (by omega) (by omega), n.2.2]; exact ht
    · have kf := ke_sc hf
      obtain ⟨K, r, f⟩ := s_276 (L := L) (ke_rP h kf) (rG_ke h kf hg) (t := t) t0 (by rw [kf 31 (by omega)]; exact ht)
      rw [gv_ke kf] at r
      obtain ⟨M1, r1, y⟩ := ih (aSet (aSet K 202 t (gvV M t)) 203 t 0) (by omega) (by omega) (sc_set (sc_set (sc_tr hf (gvF_sc f)) (by omega)) (by omega)) (fun x x0 x1 => by
        rw [aSet_c (show (202 : Int) ≠ 203 by omega), aSet_q, aSet_q, aSet_c (show (203 : Int) ≠ 202 by omega), f.1 202 (by omega) (by omega) (by omega), f.1 203 (by omega) (by omega) (by omega)]
        by_cases q : x = t
        · rw [if_pos q, if_pos q, q]; exact ⟨rfl, rfl⟩
        · rw [if_neg q, if_neg q]; exact hv x x0 (by omega))
      refine ⟨M1, bl_278_2 ⟨fun q => absurd q (by rw [kf 179 (by omega), n.2.2]; omega), fun _ => ⟨K, _, r, by omega, by omega, ?_⟩⟩, y⟩
      rw [aWi (z := t + 1) (by omega) (by omega)]
      exact r1
  obtain ⟨M1, r, y⟩ := lp 0 M (by omega) n.1 sc_rf (fun x a b => by omega)
  exact ⟨M1, en_278 r, y⟩
end SHM1
