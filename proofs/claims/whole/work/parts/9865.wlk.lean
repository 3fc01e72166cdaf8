/-! the walk once more: the words of arrays over a class are known by the state, not carried among the tables' words -/
section WALK3
variable {yN : Nat → MethodName} {yB : Nat → ByteArray} {yL : Nat → Nat} {yR : Nat → Option FieldType} {yF yO : Nat → Nat} {P : Nat → List aEnt} {wT wN : List Jvm.Cond} {XF : State → Prop}
variable {tg : Nat → Nat → Nat} {cy : Nat → ClassId} {sa bs : Nat} {D : va_G} {cl : List vw_C}
set_option maxHeartbeats 40000000 in
theorem aWalk2 (hN : xOk bs XF) (hXN : ∀ s : State, XF s → ∀ w ∈ wN, va_Nw w s) (hStr : sStr wT XF sa bs) (hMa : Cond.static Lib.Math.min.name ∈ wT ∧ Cond.static Lib.Math.max.name ∈ wT ∧ Cond.initialized "java/lang/Math" ∈ wT ∧ Cond.code Lib.Math.min.name Lib.Math.min.code 2 (some .int) ∈ wT ∧ Cond.code Lib.Math.max.name Lib.Math.max.code 2 (some .int) ∈ wT) (hcl : clOk tg cl wT) (hG : ∀ w ∈ wT, goodWord w = true) (hBed : ∃ T N, cl[0]? = some ("TypeLock$Bed", T, N)) (hAr : Cond.arrayClass .int ∈ wT ∧ Cond.arrayClass .long ∈ wT ∧ Cond.arrayClass .byte ∈ wT ∧ Cond.arrayClass .boolean ∈ wT)
    (hXO : ∀ (s : State) (A : Array Value), XF s → (Cond.arrayOver (.object "TypeLock$Bed")).before A s = true ∧ (Cond.arrayOver (.array .int)).before A s = true ∧ (Cond.arrayOver (.array .long)).before A s = true) (htab : ∀ y, P y ≠ [] → tabOk tg yN yB yL yR yF yO P cl wT wN y) :
    ∀ (n : Nat), aWk yN yB yL yR yF yO P wT XF tg cy sa bs D cl n := by
  intro n
  induction n with
  | zero => intro y rest ls st S M o _ h; simp [aRun] at h
  | succ n ih =>
    intro y rest ls st S M o hsuf h hls hst p l e R s m args below meth c H locs ads ads0 lsM n0 s0 hC hbs hfr hlo hcs hss hn0 hs0 hI hS hx0 hL
    cases rest with
    | nil => exact absurd rfl (run_ne h)
    | cons ent rest =>
      obtain ⟨pc, i, k, q⟩ := ent
      obtain ⟨hx, hb, hr, hml, hown, hts, hlocks, hnm, hnw⟩ := id hC
      obtain ⟨pre, hpre⟩ := hsuf
      have hne : P y ≠ [] := by rw [hpre]; simp
      obtain ⟨htm, ht⟩ := htab y hne
      obtain ⟨hd, hnx, hlk, hj⟩ := ht pre pc i k q rest hpre
      have hsuf' : ∃ pre, P y = pre ++ rest := ⟨pre ++ [(pc, i, k, q)], by rw [hpre]; simp⟩
      have go : ∀ (ls' st' : List aV) (S' : aSh) (M' : aM) (H' : Heap) (locs' : List Loc) (ads' : List Nat) (lsM' : Array Slot), aRun tg P n (P y) rest ls' st' S' M' = some o → (∀ v ∈ ls', sOk S'.length v) → (∀ v ∈ st', sOk S'.length v) → n0 ≤ S'.length → s0 ≤ sS S' →
          sIn tg cy sa bs D cl s H' ads' S' M' → va_S (sA bs) s.heap H' locs' → (∃ l2, ads' = ads0 ++ l2) → sL ads' sa ls' (yL y) lsM' →
          W p l e R s m args below meth c H' locs' (S'.length - n0) (sS S' - s0) (MQ below (sQ tg cy sa bs D cl ads0 o) args s (o.2.1.length - n0) (sS o.2.1 - s0) (sA bs)) (F0 m (aPc rest) lsM' (st'.map (sV ads' sa))) :=
        fun ls' st' S' M' H' locs' ads' lsM' g1 g2 g3 g4 g5 g6 g7 g8 g9 => ih y rest ls' st' S' M' o hsuf' g1 g2 g3 p l e R s m args below meth c H' locs' ads' ads0 lsM' n0 s0 hC hbs hfr hlo hcs hss g4 g5 g6 g7 g8 g9
      have go1 : ∀ (ls' st' : List aV) (lsM' : Array Slot), aRun tg P n (P y) rest ls' st' S M = some o → (∀ v ∈ ls', sOk S.length v) → (∀ v ∈ st', sOk S.length v) → sL ads sa ls' (yL y) lsM' →
          W p l e R s m args below meth c H locs (S.length - n0) (sS S - s0) (MQ below (sQ tg cy sa bs D cl ads0 o) args s (o.2.1.length - n0) (sS o.2.1 - s0) (sA bs)) (F0 m (aPc rest) lsM' (st'.map (sV ads sa))) :=
        fun ls' st' lsM' g1 g2 g3 g4 => go ls' st' S M H locs ads lsM' g1 g2 g3 hn0 hs0 hI hS hx0 g4
      have jmp : ∀ (tgt : Nat) (st' : List aV), aRun tg P n (P y) (aSeek (P y) tgt) ls st' S M = some o → (∀ v ∈ st', sOk S.length v) →
          W p l e R s m args below meth c H locs (S.length - n0) (sS S - s0) (MQ below (sQ tg cy sa bs D cl ads0 o) args s (o.2.1.length - n0) (sS o.2.1 - s0) (sA bs)) (F0 m tgt lsM (st'.map (sV ads sa))) :=
        fun tgt st' g1 g2 => by
          have K := ih y (aSeek (P y) tgt) ls st' S M o (seek_suf tgt) g1 hls g2 p l e R s m args below meth c H locs ads ads0 lsM n0 s0 hC hbs hfr hlo hcs hss hn0 hs0 hI hS hx0 hL
          rw [seek_pc (run_ne g1)] at K
          exact K
      have hall : mAll tg S M := hI.2.2.2.2.2.2.2
      cases i with
      | iload_n j =>
        dsimp only [aRun] at h
        split at h
        · rename_i z hz
          have K := go1 _ _ lsM h hls (fcc (ok_get hls hz) hst) hL
          rw [hnx (run_ne h)] at K
          exact lv_iload_n hx hb hd rfl (sL_get hL hz (by simp)) K
        · cases h
      | iload j =>
        dsimp only [aRun] at h
        split at h
        · rename_i z hz
          have K := go1 _ _ lsM h hls (fcc (ok_get hls hz) hst) hL
          rw [hnx (run_ne h)] at K
          exact lv_iload hx hb hd (sL_get hL hz (by simp)) K
        · cases h
      | lload_n j =>
        dsimp only [aRun] at h
        split at h
        · rename_i z hz
          have K := go1 _ _ lsM h hls (fcc (ok_get hls hz) hst) hL
          rw [hnx (run_ne h)] at K
          exact lv_lload_n hx hb hd rfl (sL_get hL hz (by simp)) K
        · cases h
      | lload j =>
        dsimp only [aRun] at h
        split at h
        · rename_i z hz
          have K := go1 _ _ lsM h hls (fcc (ok_get hls hz) hst) hL
          rw [hnx (run_ne h)] at K
          exact lv_lload hx hb hd (sL_get hL hz (by simp)) K
        · cases h
      | aload_n j =>
        dsimp only [aRun] at h
        split at h
        · rename_i z hz
          have K := go1 _ _ lsM h hls (fcc (ok_get hls hz) hst) hL
          rw [hnx (run_ne h)] at K
          exact lv_aload_nV hx hb hd sV_nU (sL_get hL hz (by simp)) K
        · cases h
      | aload j =>
        dsimp only [aRun] at h
        split at h
        · rename_i z hz
          have K := go1 _ _ lsM h hls (fcc (ok_get hls hz) hst) hL
          rw [hnx (run_ne h)] at K
          exact lv_aloadV hx hb hd sV_nU (sL_get hL hz (by simp)) K
        · cases h
      | istore_n j =>
        dsimp only [aRun] at h
        split at h
        · refine lv_istore_n hx hb hd rfl hL.2 hlk rfl (fun lsN h2 => ?_)
          have K := go1 _ _ lsN h (aSt_ok hls (fac hst).1) (fac hst).2 (sL_st hL hlk h2)
          rw [hnx (run_ne h)] at K
          exact K
        · cases h
      | istore j =>
        dsimp only [aRun] at h
        split at h
        · refine lv_istore hx hb hd hL.2 hlk rfl (fun lsN h2 => ?_)
          have K := go1 _ _ lsN h (aSt_ok hls (fac hst).1) (fac hst).2 (sL_st hL hlk h2)
          rw [hnx (run_ne h)] at K
          exact K
        · cases h
      | astore_n j =>
        dsimp only [aRun] at h
        split at h
        · refine lv_astore_nV hx hb hd sV_nU hL.2 hlk (fun lsN h2 => ?_)
          have K := go1 _ _ lsN h (aSt_ok hls (fac hst).1) (fac hst).2 (sL_st hL hlk h2)
          rw [hnx (run_ne h)] at K
          exact K
        · cases h
      | astore j =>
        dsimp only [aRun] at h
        split at h
        · refine lv_astoreV hx hb hd sV_nU hL.2 hlk (fun lsN h2 => ?_)
          have K := go1 _ _ lsN h (aSt_ok hls (fac hst).1) (fac hst).2 (sL_st hL hlk h2)
          rw [hnx (run_ne h)] at K
          exact K
        · cases h
      | lstore_n j =>
        dsimp only [aRun] at h
        split at h
        · refine lv_lstore_n hx hb hd rfl hL.2 hlk rfl (fun lsN h2 => ?_)
          have K := go1 _ _ lsN h (aSt2_ok hls (fac hst).1) (fac hst).2 (sL_st2 hL hlk h2)
          rw [hnx (run_ne h)] at K
          exact K
        · cases h
      | lstore j =>
        dsimp only [aRun] at h
        split at h
        · refine lv_lstore hx hb hd hL.2 hlk rfl (fun lsN h2 => ?_)
          have K := go1 _ _ lsN h (aSt2_ok hls (fac hst).1) (fac hst).2 (sL_st2 hL hlk h2)
          rw [hnx (run_ne h)] at K
          exact K
        · cases h
      | iconst z =>
        dsimp only [aRun] at h
        have K := go1 _ _ lsM h hls (fcc (a := aI z) hlk hst) hL
        rw [hnx (run_ne h)] at K
        exact lv_iconst hx hb hd rfl K
      | bipush z =>
        dsimp only [aRun] at h
        have hz : -128 ≤ z ∧ z < 128 := hlk
        have K := go1 _ _ lsM h hls (fcc (a := aI z) (⟨by omega, by omega⟩ : xI z) hst) hL
        rw [hnx (run_ne h)] at K
        exact lv_bipush hx hb hd (o_bipush hz) K
      | sipush z =>
        dsimp only [aRun] at h
        have hz : -32768 ≤ z ∧ z < 32768 := hlk
        have K := go1 _ _ lsM h hls (fcc (a := aI z) (⟨by omega, by omega⟩ : xI z) hst) hL
        rw [hnx (run_ne h)] at K
        exact lv_sipush hx hb hd (o_sipush hz) K
      | lconst z =>
        dsimp only [aRun] at h
        have K := go1 _ _ lsM h hls (fcc (a := aJ (z.val : Int)) (⟨by omega, by omega⟩ : xL (z.val : Int)) hst) hL
        rw [hnx (run_ne h)] at K
        exact lv_lconst hx hb hd (by show Int64.ofNat z.val = Int64.ofInt (z.val : Int); rcases z with ⟨z, hz⟩; rcases (show z = 0 ∨ z = 1 by omega) with rfl | rfl <;> rfl) K
      | ldc idx =>
        cases k with
        | nil =>
          obtain ⟨e1, rfl⟩ : (yN y).cls = "TypeLock$Tokens" ∧ idx = 66 := hlk
          dsimp only [aRun] at h
          have K := go1 _ _ lsM h hls (fcc (a := aR (-2)) ⟨by omega, by omega⟩ hst) hL
          rw [hnx (run_ne h)] at K
          exact (hStr p l e R s m args below meth c H locs _ _ _ (yB y) pc 0 lsM (st.map (sV ads sa)) hx hb (hml.trans hL.2.1.symm) (e1 ▸ hown) hts hnw hS).1 hd K
        | cons a k =>
          dsimp only [aRun] at h
          obtain ⟨h1, h2⟩ : xI q ∧ Cond.constant (yN y).cls idx (Int32.ofInt q) ∈ wT := hlk
          have K := go1 _ _ lsM h hls (fcc (a := aI q) h1 hst) hL
          rw [hnx (run_ne h)] at K
          exact lv_ldc hx hb hown (hts _ h2) hd K
      | ldc_w idx =>
        dsimp only [aRun] at h
        obtain ⟨h1, h2⟩ : xI q ∧ Cond.constant (yN y).cls idx (Int32.ofInt q) ∈ wT := hlk
        have K := go1 _ _ lsM h hls (fcc (a := aI q) h1 hst) hL
        rw [hnx (run_ne h)] at K
        exact lv_ldcw hx hb hown (hts _ h2) hd K
      | ldc2_w idx =>
        dsimp only [aRun] at h
        obtain ⟨h1, h2⟩ : xL q ∧ Cond.constantLong (yN y).cls idx (Int64.ofInt q) ∈ wT := hlk
        have K := go1 _ _ lsM h hls (fcc (a := aJ q) h1 hst) hL
        rw [hnx (run_ne h)] at K
        exact lv_ldc2 hx hb hown (hts _ h2) hd K
      | iadd =>
        dsimp only [aRun] at h
        split at h
        · have K := go1 _ _ lsM h hls (fcc (xI_w _) (fac (fac hst).2).2) hL
          rw [hnx (run_ne h)] at K
          refine lv_iadd hx hb hd ?_
          rw [o_add]
          exact K
        · cases h
      | isub =>
        dsimp only [aRun] at h
        split at h
        · have K := go1 _ _ lsM h hls (fcc (xI_w _) (fac (fac hst).2).2) hL
          rw [hnx (run_ne h)] at K
          refine lv_isub hx hb hd ?_
          rw [o_sub]
          exact K
        · cases h
      | imul =>
        dsimp only [aRun] at h
        split at h
        · have K := go1 _ _ lsM h hls (fcc (xI_w _) (fac (fac hst).2).2) hL
          rw [hnx (run_ne h)] at K
          refine lv_imul hx hb hd ?_
          rw [o_mul]
          exact K
        · cases h
      | iand =>
        dsimp only [aRun] at h
        split at h
        · have K := go1 _ _ lsM h hls (fcc (xI_toInt _) (fac (fac hst).2).2) hL
          rw [hnx (run_ne h)] at K
          refine lv_iand hx hb hd ?_
          rw [← o_back (_ &&& _)]
          exact K
        · cases h
      | ior =>
        dsimp only [aRun] at h
        split at h
        · have K := go1 _ _ lsM h hls (fcc (xI_toInt _) (fac (fac hst).2).2) hL
          rw [hnx (run_ne h)] at K
          refine lv_ior hx hb hd ?_
          rw [← o_back (_ ||| _)]
          exact K
        · cases h
      | ixor =>
        dsimp only [aRun] at h
        split at h
        · have K := go1 _ _ lsM h hls (fcc (xI_toInt _) (fac (fac hst).2).2) hL
          rw [hnx (run_ne h)] at K
          refine lv_ixor hx hb hd ?_
          rw [← o_back (_ ^^^ _)]
          exact K
        · cases h
      | ishl =>
        dsimp only [aRun] at h
        split at h
        · have K := go1 _ _ lsM h hls (fcc (xI_toInt _) (fac (fac hst).2).2) hL
          rw [hnx (run_ne h)] at K
          refine lv_ishl hx hb hd ?_
          rw [← o_back (_ <<< _)]
          exact K
        · cases h
      | ishr =>
        dsimp only [aRun] at h
        split at h
        · have K := go1 _ _ lsM h hls (fcc (xI_toInt _) (fac (fac hst).2).2) hL
          rw [hnx (run_ne h)] at K
          refine lv_ishr hx hb hd ?_
          rw [← o_back (_ >>> _)]
          exact K
        · cases h
      | ineg =>
        dsimp only [aRun] at h
        split at h
        · have K := go1 _ _ lsM h hls (fcc (xI_w _) (fac hst).2) hL
          rw [hnx (run_ne h)] at K
          refine lv_ineg hx hb hd ?_
          rw [o_neg]
          exact K
        · cases h
      | idiv =>
        dsimp only [aRun] at h
        split at h
        · split at h
          · rename_i hc
            have K := go1 _ _ lsM h hls (fcc (xI_toInt _) (fac (fac hst).2).2) hL
            rw [hnx (run_ne h)] at K
            refine lv_idiv hx hb hd (fun q => hc ((o_eq0 (fac hst).1).mp q)) ?_
            rw [← o_back (_ / _)]
            exact K
          · cases h
        · cases h
      | irem =>
        dsimp only [aRun] at h
        split at h
        · split at h
          · rename_i hc
            have K := go1 _ _ lsM h hls (fcc (xI_toInt _) (fac (fac hst).2).2) hL
            rw [hnx (run_ne h)] at K
            refine lv_irem hx hb hd (fun q => hc ((o_eq0 (fac hst).1).mp q)) ?_
            rw [← o_back (_ - _)]
            exact K
          · cases h
        · cases h
      | iushr =>
        dsimp only [aRun] at h
        split at h
        · have K := go1 _ _ lsM h hls (fcc (xI_toInt _) (fac (fac hst).2).2) hL
          rw [hnx (run_ne h)] at K
          exact lv_iushr hx hb hd (o_back _).symm K
        · cases h
      | ladd =>
        dsimp only [aRun] at h
        split at h
        · have K := go1 _ _ lsM h hls (fcc (xL_w _) (fac (fac hst).2).2) hL
          rw [hnx (run_ne h)] at K
          refine lv_ladd hx hb hd ?_
          rw [o_addL]
          exact K
        · cases h
      | lsub =>
        dsimp only [aRun] at h
        split at h
        · have K := go1 _ _ lsM h hls (fcc (xL_w _) (fac (fac hst).2).2) hL
          rw [hnx (run_ne h)] at K
          refine lv_lsub hx hb hd ?_
          rw [o_subL]
          exact K
        · cases h
      | lmul =>
        dsimp only [aRun] at h
        split at h
        · have K := go1 _ _ lsM h hls (fcc (xL_w _) (fac (fac hst).2).2) hL
          rw [hnx (run_ne h)] at K
          refine lv_lmul hx hb hd ?_
          rw [o_mulL]
          exact K
        · cases h
      | land =>
        dsimp only [aRun] at h
        split at h
        · have K := go1 _ _ lsM h hls (fcc (xL_toInt _) (fac (fac hst).2).2) hL
          rw [hnx (run_ne h)] at K
          refine lv_land hx hb hd ?_
          rw [← o_backL (_ &&& _)]
          exact K
        · cases h
      | lor =>
        dsimp only [aRun] at h
        split at h
        · have K := go1 _ _ lsM h hls (fcc (xL_toInt _) (fac (fac hst).2).2) hL
          rw [hnx (run_ne h)] at K
          refine lv_lor hx hb hd ?_
          rw [← o_backL (_ ||| _)]
          exact K
        · cases h
      | lxor =>
        dsimp only [aRun] at h
        split at h
        · have K := go1 _ _ lsM h hls (fcc (xL_toInt _) (fac (fac hst).2).2) hL
          rw [hnx (run_ne h)] at K
          refine lv_lxor hx hb hd ?_
          rw [← o_backL (_ ^^^ _)]
          exact K
        · cases h
      | lshl =>
        dsimp only [aRun] at h
        split at h
        · have K := go1 _ _ lsM h hls (fcc (xL_toInt _) (fac (fac hst).2).2) hL
          rw [hnx (run_ne h)] at K
          exact lv_lshl hx hb hd (o_backL _).symm K
        · cases h
      | lushr =>
        dsimp only [aRun] at h
        split at h
        · have K := go1 _ _ lsM h hls (fcc (xL_toInt _) (fac (fac hst).2).2) hL
          rw [hnx (run_ne h)] at K
          exact lv_lushr hx hb hd (o_backL _).symm K
        · cases h
      | lcmp =>
        dsimp only [aRun] at h
        split at h
        · have K := go1 _ _ lsM h hls (fcc (xI_cmp _ _) (fac (fac hst).2).2) hL
          rw [hnx (run_ne h)] at K
          refine W.lcmp hx hb hd ?_
          rw [o_cmp (fac (fac hst).2).1 (fac hst).1]
          exact K
        · cases h
      | i2l =>
        dsimp only [aRun] at h
        split at h
        · have h1 := (fac hst).1
          have K := go1 _ _ lsM h hls (fcc (⟨by have := h1.1; omega, by have := h1.2; omega⟩) (fac hst).2) hL
          rw [hnx (run_ne h)] at K
          exact lv_i2l hx hb hd (o_i2l h1) K
        · cases h
      | l2i =>
        dsimp only [aRun] at h
        split at h
        · have K := go1 _ _ lsM h hls (fcc (xI_w _) (fac hst).2) hL
          rw [hnx (run_ne h)] at K
          exact lv_l2i hx hb hd (o_l2i _) K
        · cases h
      | i2b =>
        dsimp only [aRun] at h
        split at h
        · have K := go1 _ _ lsM h hls (fcc (xI_b _) (fac hst).2) hL
          rw [hnx (run_ne h)] at K
          exact lv_i2b hx hb hd (o_i2b _) K
        · cases h
      | iinc j z =>
        dsimp only [aRun] at h
        split at h
        · rename_i x hz
          obtain ⟨pk, hpk⟩ := List.getElem?_of_mem (sP_mem (ads := ads) (sa := sa) hz (by simp))
          refine lv_iinc hx hb hd hL.2 hpk (o_iinc x z) hlk rfl (fun lsN h2 => ?_)
          have K := go1 _ _ lsN h (aSt_ok hls (xI_w _)) hst (sL_st hL hlk h2)
          rw [hnx (run_ne h)] at K
          exact K
        · cases h
      | dup =>
        dsimp only [aRun] at h
        split at h
        · have K := go1 _ _ lsM h hls (fcc (fac hst).1 hst) hL
          rw [hnx (run_ne h)] at K
          exact lv_dup hx hb hd rfl K
        · have K := go1 _ _ lsM h hls (fcc (fac hst).1 hst) hL
          rw [hnx (run_ne h)] at K
          exact lv_dup hx hb hd sV_1 K
        · cases h
      | pop =>
        dsimp only [aRun] at h
        split at h
        · have K := go1 _ _ lsM h hls (fac hst).2 hL
          rw [hnx (run_ne h)] at K
          exact lv_pop hx hb hd rfl K
        · have K := go1 _ _ lsM h hls (fac hst).2 hL
          rw [hnx (run_ne h)] at K
          exact lv_pop hx hb hd sV_1 K
        · cases h
      | dup2 =>
        dsimp only [aRun] at h
        split at h
        · have K := go1 _ _ lsM h hls (fcc (fac hst).1 hst) hL
          rw [hnx (run_ne h)] at K
          exact lv_dup2_2 hx hb hd rfl K
        · have K := go1 _ _ lsM h hls (fcc (fac hst).1 (fcc (fac (fac hst).2).1 hst)) hL
          rw [hnx (run_ne h)] at K
          exact lv_dup2_11 hx hb hd rfl sV_1 K
        · cases h
      | pop2 =>
        dsimp only [aRun] at h
        split at h
        · have K := go1 _ _ lsM h hls (fac hst).2 hL
          rw [hnx (run_ne h)] at K
          exact lv_pop2_2 hx hb hd rfl K
        · cases h
      | ifCond cd off =>
        dsimp only [aRun] at h
        have htg : (pc : Int) + off = (aTo pc off : Int) := by
          have h0 : 0 ≤ (pc : Int) + off := hj
          unfold aTo
          omega
        split at h
        · refine lv_if_eq (tgt := aTo pc off) hx hb hd htg (fun q => ?_) (fun q => ?_)
          · rw [if_pos ((o_eq0 (fac hst).1).mp q)] at h
            exact jmp _ _ h (fac hst).2
          · rw [if_neg (fun z => q ((o_eq0 (fac hst).1).mpr z))] at h
            have K := go1 _ _ lsM h hls (fac hst).2 hL
            rw [hnx (run_ne h)] at K
            exact K
        · refine lv_if_ne (tgt := aTo pc off) hx hb hd htg (fun q => ?_) (fun q => ?_)
          · rw [if_pos (fun z => q ((o_eq0 (fac hst).1).mpr z))] at h
            exact jmp _ _ h (fac hst).2
          · rw [if_neg (fun z => z ((o_eq0 (fac hst).1).mp q))] at h
            have K := go1 _ _ lsM h hls (fac hst).2 hL
            rw [hnx (run_ne h)] at K
            exact K
        · refine lv_if_lt (tgt := aTo pc off) hx hb hd htg (fun q => ?_) (fun q => ?_)
          · rw [if_pos ((o_lt0 (fac hst).1).mp q)] at h
            exact jmp _ _ h (fac hst).2
          · rw [if_neg (fun z => q ((o_lt0 (fac hst).1).mpr z))] at h
            have K := go1 _ _ lsM h hls (fac hst).2 hL
            rw [hnx (run_ne h)] at K
            exact K
        · refine lv_if_ge (tgt := aTo pc off) hx hb hd htg (fun q => ?_) (fun q => ?_)
          · rw [if_pos ((o_0le (fac hst).1).mp q)] at h
            exact jmp _ _ h (fac hst).2
          · rw [if_neg (fun z => q ((o_0le (fac hst).1).mpr z))] at h
            have K := go1 _ _ lsM h hls (fac hst).2 hL
            rw [hnx (run_ne h)] at K
            exact K
        · refine lv_if_gt (tgt := aTo pc off) hx hb hd htg (fun q => ?_) (fun q => ?_)
          · rw [if_pos ((o_0lt (fac hst).1).mp q)] at h
            exact jmp _ _ h (fac hst).2
          · rw [if_neg (fun z => q ((o_0lt (fac hst).1).mpr z))] at h
            have K := go1 _ _ lsM h hls (fac hst).2 hL
            rw [hnx (run_ne h)] at K
            exact K
        · refine lv_if_le (tgt := aTo pc off) hx hb hd htg (fun q => ?_) (fun q => ?_)
          · rw [if_pos ((o_le0 (fac hst).1).mp q)] at h
            exact jmp _ _ h (fac hst).2
          · rw [if_neg (fun z => q ((o_le0 (fac hst).1).mpr z))] at h
            have K := go1 _ _ lsM h hls (fac hst).2 hL
            rw [hnx (run_ne h)] at K
            exact K
        · cases h
      | if_icmp cd off =>
        dsimp only [aRun] at h
        have htg : (pc : Int) + off = (aTo pc off : Int) := by
          have h0 : 0 ≤ (pc : Int) + off := hj
          unfold aTo
          omega
        split at h
        · have hy := (fac hst).1
          have hx1 := (fac (fac hst).2).1
          refine lv_icmp_eq (tgt := aTo pc off) hx hb hd htg (fun q => ?_) (fun q => ?_)
          · rw [if_pos ((o_eq hx1 hy).mp q)] at h
            exact jmp _ _ h (fac (fac hst).2).2
          · rw [if_neg (fun z => q ((o_eq hx1 hy).mpr z))] at h
            have K := go1 _ _ lsM h hls (fac (fac hst).2).2 hL
            rw [hnx (run_ne h)] at K
            exact K
        · have hy := (fac hst).1
          have hx1 := (fac (fac hst).2).1
          refine lv_icmp_ne (tgt := aTo pc off) hx hb hd htg (fun q => ?_) (fun q => ?_)
          · rw [if_pos (fun z => q ((o_eq hx1 hy).mpr z))] at h
            exact jmp _ _ h (fac (fac hst).2).2
          · rw [if_neg (fun z => z ((o_eq hx1 hy).mp q))] at h
            have K := go1 _ _ lsM h hls (fac (fac hst).2).2 hL
            rw [hnx (run_ne h)] at K
            exact K
        · have hy := (fac hst).1
          have hx1 := (fac (fac hst).2).1
          refine lv_icmp_lt (tgt := aTo pc off) hx hb hd htg (fun q => ?_) (fun q => ?_)
          · rw [if_pos ((o_lt hx1 hy).mp q)] at h
            exact jmp _ _ h (fac (fac hst).2).2
          · rw [if_neg (fun z => q ((o_lt hx1 hy).mpr z))] at h
            have K := go1 _ _ lsM h hls (fac (fac hst).2).2 hL
            rw [hnx (run_ne h)] at K
            exact K
        · have hy := (fac hst).1
          have hx1 := (fac (fac hst).2).1
          refine lv_icmp_ge (tgt := aTo pc off) hx hb hd htg (fun q => ?_) (fun q => ?_)
          · rw [if_pos ((o_le hy hx1).mp q)] at h
            exact jmp _ _ h (fac (fac hst).2).2
          · rw [if_neg (fun z => q ((o_le hy hx1).mpr z))] at h
            have K := go1 _ _ lsM h hls (fac (fac hst).2).2 hL
            rw [hnx (run_ne h)] at K
            exact K
        · have hy := (fac hst).1
          have hx1 := (fac (fac hst).2).1
          refine lv_icmp_gt (tgt := aTo pc off) hx hb hd htg (fun q => ?_) (fun q => ?_)
          · rw [if_pos ((o_lt hy hx1).mp q)] at h
            exact jmp _ _ h (fac (fac hst).2).2
          · rw [if_neg (fun z => q ((o_lt hy hx1).mpr z))] at h
            have K := go1 _ _ lsM h hls (fac (fac hst).2).2 hL
            rw [hnx (run_ne h)] at K
            exact K
        · have hy := (fac hst).1
          have hx1 := (fac (fac hst).2).1
          refine lv_icmp_le (tgt := aTo pc off) hx hb hd htg (fun q => ?_) (fun q => ?_)
          · rw [if_pos ((o_le hx1 hy).mp q)] at h
            exact jmp _ _ h (fac (fac hst).2).2
          · rw [if_neg (fun z => q ((o_le hx1 hy).mpr z))] at h
            have K := go1 _ _ lsM h hls (fac (fac hst).2).2 hL
            rw [hnx (run_ne h)] at K
            exact K
        · cases h
      | goto off =>
        dsimp only [aRun] at h
        have htg : (pc : Int) + off = (aTo pc off : Int) := by
          have h0 : 0 ≤ (pc : Int) + off := hj
          unfold aTo
          omega
        exact lv_goto (tgt := aTo pc off) hx hb hd htg (jmp _ _ h hst)
      | tableswitch d lo hi offs =>
        obtain ⟨j1, j2, j3⟩ : 0 ≤ (pc : Int) + d ∧ (∀ x ∈ offs.toList, 0 ≤ (pc : Int) + x) ∧ (offs.size : Int) = hi - lo + 1 := hj
        dsimp only [aRun] at h
        split at h
        · rename_i x st'
          have hx1 : xI x := (fac hst).1
          have K := jmp _ _ h (fac hst).2
          by_cases c : x < lo ∨ hi < x
          · have e1 : aTab lo hi d offs x = d := if_pos c
            rw [e1] at K
            have htg : (pc : Int) + d = (aTo pc d : Int) := by unfold aTo; omega
            exact lv_tableOut (tgt := aTo pc d) hx hb hd (by rw [xI_of hx1]; exact c) htg K
          · have hlt : (x - lo).toNat < offs.size := by omega
            have e2 : offs[(x - lo).toNat]? = some offs[(x - lo).toNat] := Array.getElem?_eq_getElem hlt
            have e1 : aTab lo hi d offs x = offs[(x - lo).toNat] := by unfold aTab; rw [if_neg c, e2]; rfl
            have h0 := j2 offs[(x - lo).toNat] (Array.getElem_mem_toList hlt)
            rw [e1] at K
            have htg : (pc : Int) + offs[(x - lo).toNat] = (aTo pc offs[(x - lo).toNat] : Int) := by unfold aTo; omega
            exact lv_tableIn (tgt := aTo pc offs[(x - lo).toNat]) hx hb hd (by rw [xI_of hx1]; omega) (by rw [xI_of hx1]; omega) (by rw [xI_of hx1]; exact e2) htg K
        · cases h
      | lookupswitch d ps =>
        obtain ⟨j1, j2⟩ : (∀ x : Int, 0 ≤ (pc : Int) + Op.lookupswitch.offset ps.toList d x) ∧ (ps.toList.zip (ps.toList.drop 1)).all (fun (a, next) => a.1 < next.1) = true := hj
        dsimp only [aRun] at h
        split at h
        · rename_i x st'
          have hx1 : xI x := (fac hst).1
          have K := jmp _ _ h (fac hst).2
          have htg : (pc : Int) + Op.lookupswitch.offset ps.toList d x = (aTo pc (aSwi d ps x) : Int) := by
            have := j1 x
            unfold aTo aSwi
            omega
          exact lv_lookup (tgt := aTo pc (aSwi d ps x)) hx hb hd j2 (by rw [xI_of hx1]) htg K
        · cases h
      | getfield idx =>
        dsimp only [aRun] at h
        split at h
        · rename_i ci j r st'
          obtain ⟨hg9, C, T, N, hc, hjN, hlw⟩ : tg ci j ≠ 9 ∧ ∃ C T N, cl[ci]? = some (C, T, N) ∧ j < N ∧ (Cond.fieldLink (yN y).cls idx (T j).1 (T j).2.1 (T j).2.2.1 ∈ wT ∨ ∃ host, Cond.fieldLinkNest (yN y).cls idx (T j).1 (T j).2.1 (T j).2.2.1 host ∈ wT) := hlk
          have key : ∀ v : aV, aK S r = 10 + ci → (∀ kk : Nat, r = (kk : Int) → kk < S.length → mOk tg S.length (S.getD kk (0, 0, [])) (M r) → aCell S r = S.getD kk (0, 0, []) → (S.getD kk (0, 0, [])).1 = 10 + ci → sFv (tg ci j) ads sa (M (kk : Int) (j : Int)) ((S.getD kk (0, 0, [])).2.2.getD j (-1)) = sV ads sa v ∧ sOk S.length v) → aRun tg P n (P y) rest ls (v :: st') S M = some o →
              W p l e R s m args below meth c H locs (S.length - n0) (sS S - s0) (MQ below (sQ tg cy sa bs D cl ads0 o) args s (o.2.1.length - n0) (sS o.2.1 - s0) (sA bs)) (F0 m pc lsM ((aR r :: st').map (sV ads sa))) := by
            intro v hk hv hrun
            obtain ⟨kk, rfl, h1, h2, h3, h4, h5⟩ := cellOf hall hk (by omega) (by omega)
            obtain ⟨hv1, hv2⟩ := hv kk rfl h2 h5 h4 h3
            have hw := sW_get (tg := tg) (cy := cy) (ads := ads) (sa := sa) (M := M) h1 h2
            rw [sE_o h3] at hw
            have hlen : j < (S.getD kk (0, 0, [])).2.1 := h5.2.2.2.2.2.2.2.1 (by omega) j (by rw [h3, Nat.add_sub_cancel_left]; exact hg9)
            have K := go1 _ _ lsM hrun hls (fcc hv2 (fac hst).2) hL
            rw [hnx (run_ne hrun)] at K
            have hf : ((List.range (S.getD kk (0, 0, [])).2.1).map (fun j => sFv (tg ci j) ads sa (M (kk : Int) (j : Int)) ((S.getD kk (0, 0, [])).2.2.getD j (-1))))[j]? = some (sV ads sa v) := by
              rw [List.getElem?_map, List.getElem?_range hlen]
              exact congrArg some hv1
            rcases hlw with hlw | ⟨host, hlw⟩
            · exact va_get (D := D) hx hb hts (hcl ci C T N hc).1 hown hI.2.2.1 hI.1 (kk - 1) hw hc j hjN (hts _ hlw) (fun _ z => z) hf hd K
            · exact va_getN (D := D) hx hb hts (hcl ci C T N hc).1 hown hI.2.2.1 hI.1 (kk - 1) hw hc j hjN (hts _ hlw) (fun _ z => z) hf hd K
          split at h
          · rename_i ht1
            split at h
            · rename_i hk
              exact key _ hk (fun kk e1 e2 e3 e4 e5 => ⟨by rw [ht1]; rw [e1]; rfl, by have := (e3.2.2.1 (by omega) j).1; rw [e5, Nat.add_sub_cancel_left] at this; exact this ht1⟩) h
            · cases h
          · rename_i ht1
            split at h
            · rename_i hk
              exact key _ hk (fun kk e1 e2 e3 e4 e5 => ⟨by rw [ht1]; rw [e1]; rfl, by have := (e3.2.2.1 (by omega) j).2.1; rw [e5, Nat.add_sub_cancel_left] at this; exact xR_ok (this ht1)⟩) h
            · cases h
          · rename_i ht1
            split at h
            · rename_i hk
              exact key _ hk (fun kk e1 e2 e3 e4 e5 => ⟨by rw [ht1]; unfold aF; rw [e4]; rfl, by unfold aF; rw [e4]; exact xR_ok (xR_getD e3.2.2.2.1)⟩) h
            · cases h
          · rename_i ht1 ht2 ht3
            split at h
            · rename_i hk
              refine key _ hk (fun kk e1 e2 e3 e4 e5 => ⟨?_, by have := (e3.2.2.1 (by omega) j).2.2; rw [e5, Nat.add_sub_cancel_left] at this; exact this (fun z => ht1 z) (fun z => ht2 z)⟩) h
              unfold sFv
              rw [e1]
              split
              · rename_i z; exact absurd z ht1
              · rename_i z; exact absurd z ht2
              · rename_i z; exact absurd z ht3
              · rfl
            · cases h
        · cases h
      | iaload =>
        dsimp only [aRun] at h
        split at h
        · split at h
          · rename_i hc
            obtain ⟨hk, hjl⟩ := cellLn hc.1 hc.2
            obtain ⟨kk, rfl, h1, h2, h3, h4, h5⟩ := cellOf hall hk (by omega) (by omega)
            have hw := sW_get (tg := tg) (cy := cy) (ads := ads) (sa := sa) (M := M) h1 h2
            rw [sE_1 h3] at hw
            have hji : xI _ := (fac hst).1
            have hjl2 := hjl
            unfold aL at hjl2
            rw [h4] at hjl2
            have K := go1 _ _ lsM h hls (fcc (h5.2.1 (by omega) (by omega) _) (fac (fac hst).2).2) hL
            rw [hnx (run_ne h)] at K
            refine va_iald hx hb hI.2.2.1 hI.1 (kk - 1) 0 hw rfl (o_in hji hc.1 hjl2) hd ?_
            rw [o_clamp hji]
            rw [Int.toNat_of_nonneg hc.1]
            exact K
          · cases h
        · split at h
          · rename_i hc
            obtain ⟨hk, hjl⟩ := cellLn hc.1 hc.2
            have hr0 := cell9 hall hk
            subst hr0
            have hji : xI _ := (fac hst).1
            have hI7 := hI.2.2.2.2.2.2.1
            have hb5 := hI.2.2.2.2.1
            have hX : va_X (ads.getD 0 0) (S.getD 0 (0, 0, [])).2.1 (fun j => Int32.ofInt (M 0 (j : Int))) s s.heap := hI7.kept (hS.2.1 _ (by omega) (by unfold sA; omega)).symm
            have K := go1 _ _ lsM h hls (fcc (hall.2.2.2.1 _) (fac (fac hst).2).2) hL
            rw [hnx (run_ne h)] at K
            have hb6 : ads.getD 0 0 < s.heap.size := by omega
            have hb7 : ¬ sA bs (ads.getD 0 0) := by unfold sA; omega
            refine va_sld hx hb hX hb6 hb7 hS (o_in hji hc.1 hjl) hd ?_
            rw [o_clamp hji]
            rw [Int.toNat_of_nonneg hc.1]
            exact K
          · cases h
        · cases h
      | laload =>
        dsimp only [aRun] at h
        split at h
        · split at h
          · rename_i hc
            obtain ⟨hk, hjl⟩ := cellLn hc.1 hc.2
            obtain ⟨kk, rfl, h1, h2, h3, h4, h5⟩ := cellOf hall hk (by omega) (by omega)
            have hw := sW_get (tg := tg) (cy := cy) (ads := ads) (sa := sa) (M := M) h1 h2
            rw [sE_2 h3] at hw
            have hji : xI _ := (fac hst).1
            have hjl2 := hjl
            unfold aL at hjl2
            rw [h4] at hjl2
            have K := go1 _ _ lsM h hls (fcc (h5.1 h3 _) (fac (fac hst).2).2) hL
            rw [hnx (run_ne h)] at K
            refine va_lald hx hb hI.2.2.1 hI.1 (kk - 1) 1 hw rfl (o_in hji hc.1 hjl2) hd ?_
            rw [o_clamp hji]
            rw [Int.toNat_of_nonneg hc.1]
            exact K
          · cases h
        · cases h
      | baload =>
        dsimp only [aRun] at h
        split at h
        · split at h
          · rename_i hc
            obtain ⟨hk, hjl⟩ := cellLn hc.1 hc.2
            obtain ⟨kk, rfl, h1, h2, h3, h4, h5⟩ := cellOf hall hk (by omega) (by omega)
            have hw := sW_get (tg := tg) (cy := cy) (ads := ads) (sa := sa) (M := M) h1 h2
            rw [sE_3 h3] at hw
            have hji : xI _ := (fac hst).1
            have hjl2 := hjl
            unfold aL at hjl2
            rw [h4] at hjl2
            have K := go1 _ _ lsM h hls (fcc (h5.2.1 (by omega) (by omega) _) (fac (fac hst).2).2) hL
            rw [hnx (run_ne h)] at K
            refine va_bald hx hb hI.2.2.1 hI.1 (kk - 1) 2 hw rfl (o_in hji hc.1 hjl2) hd ?_
            rw [o_clamp hji]
            rw [Int.toNat_of_nonneg hc.1]
            exact K
          · cases h
        · split at h
          · rename_i hc
            obtain ⟨hk, hjl⟩ := cellLn hc.1 hc.2
            obtain ⟨kk, rfl, h1, h2, h3, h4, h5⟩ := cellOf hall hk (by omega) (by omega)
            have hw := sW_get (tg := tg) (cy := cy) (ads := ads) (sa := sa) (M := M) h1 h2
            rw [sE_4 h3] at hw
            have hji : xI _ := (fac hst).1
            have hjl2 := hjl
            unfold aL at hjl2
            rw [h4] at hjl2
            have K := go1 _ _ lsM h hls (fcc (h5.2.1 (by omega) (by omega) _) (fac (fac hst).2).2) hL
            rw [hnx (run_ne h)] at K
            refine va_zald hx hb hI.2.2.1 hI.1 (kk - 1) 3 hw rfl (o_in hji hc.1 hjl2) hd ?_
            rw [o_clamp hji]
            rw [Int.toNat_of_nonneg hc.1]
            exact K
          · cases h
        · cases h
      | aaload =>
        dsimp only [aRun] at h
        split at h
        · rename_i a j r st'
          have ha : a = 5 ∨ a = 6 ∨ a = 7 := hlk
          split at h
          · rename_i hc
            obtain ⟨hk, hjl⟩ := cellLn hc.1 hc.2
            obtain ⟨kk, rfl, h1, h2, h3, h4, h5⟩ := cellOf hall hk (by omega) (by omega)
            have hw := sW_get (tg := tg) (cy := cy) (ads := ads) (sa := sa) (M := M) h1 h2
            rw [sE_q (by rw [h3]; exact ha)] at hw
            have hji : xI j := (fac hst).1
            have hjl2 : j < (((S.getD kk (0, 0, [])).2.1 : Nat) : Int) := by unfold aL at hjl; rw [h4] at hjl; exact hjl
            have hxr : xR S.length ((S.getD kk (0, 0, [])).2.2.getD j.toNat (-1)) := xR_getD h5.2.2.2.1
            have hval : aF S (kk : Int) j.toNat = (S.getD kk (0, 0, [])).2.2.getD j.toNat (-1) := by unfold aF; rw [h4]
            rw [hval] at h
            have K := go1 _ _ lsM h hls (fcc (xR_ok hxr) (fac (fac hst).2).2) hL
            rw [hnx (run_ne h)] at K
            have hV := sV_R (ads := ads) (sa := sa) hxr
            rcases ha with rfl | rfl | rfl
            all_goals rw [h3] at hw
            · refine va_aldR (ty := .object "TypeLock$Bed") rfl hx hb hI.2.2.1 hI.1 (kk - 1) 4 hw rfl (o_in hji hc.1 hjl2) hd ?_
              rw [o_clamp hji, ← hV]
              exact K
            · refine va_aldR (ty := .array .int) rfl hx hb hI.2.2.1 hI.1 (kk - 1) 5 hw rfl (o_in hji hc.1 hjl2) hd ?_
              rw [o_clamp hji, ← hV]
              exact K
            · refine va_aldR (ty := .array .long) rfl hx hb hI.2.2.1 hI.1 (kk - 1) 6 hw rfl (o_in hji hc.1 hjl2) hd ?_
              rw [o_clamp hji, ← hV]
              exact K
          · cases h
        · cases h
      | iastore =>
        dsimp only [aRun] at h
        split at h
        · split at h
          · rename_i hc
            obtain ⟨hk, hjl⟩ := cellLn hc.1 hc.2
            obtain ⟨kk, rfl, h1, h2, h3, h4, h5⟩ := cellOf hall hk (by omega) (by omega)
            have hw := sW_get (tg := tg) (cy := cy) (ads := ads) (sa := sa) (M := M) h1 h2
            rw [sE_1 h3] at hw
            have hji : xI _ := (fac (fac hst).2).1
            have hzi := (fac hst).1
            have hjl2 := hjl
            unfold aL at hjl2
            rw [h4] at hjl2
            refine va_iast hx hb hI.2.2.1 hI.1 hI.2.1 hS (kk - 1) 0 hw rfl (o_in hji hc.1 hjl2) hd (fun H1 locs1 hP1 hD1 hS1 => ?_)
            rw [o_clamp hji] at hP1 hD1
            have K := go _ _ _ _ H1 locs1 ads lsM h hls (fac (fac (fac hst).2).2).2 hn0 hs0 (sIn_set hI h1 h2 (mOk_int h5 (by omega) (by omega) hzi) hbs hS hS1 (by rw [sE_1 h3, fun_upd hc.1]) hP1 hD1) hS1 hx0 hL
            rw [hnx (run_ne h)] at K
            exact K
          · cases h
        · cases h
      | lastore =>
        dsimp only [aRun] at h
        split at h
        · split at h
          · rename_i hc
            obtain ⟨hk, hjl⟩ := cellLn hc.1 hc.2
            obtain ⟨kk, rfl, h1, h2, h3, h4, h5⟩ := cellOf hall hk (by omega) (by omega)
            have hw := sW_get (tg := tg) (cy := cy) (ads := ads) (sa := sa) (M := M) h1 h2
            rw [sE_2 h3] at hw
            have hji : xI _ := (fac (fac hst).2).1
            have hzi := (fac hst).1
            have hjl2 := hjl
            unfold aL at hjl2
            rw [h4] at hjl2
            refine va_last hx hb hI.2.2.1 hI.1 hI.2.1 hS (kk - 1) 1 hw rfl (o_in hji hc.1 hjl2) hd (fun H1 locs1 hP1 hD1 hS1 => ?_)
            rw [o_clamp hji] at hP1 hD1
            have K := go _ _ _ _ H1 locs1 ads lsM h hls (fac (fac (fac hst).2).2).2 hn0 hs0 (sIn_set hI h1 h2 (mOk_long h5 h3 hzi) hbs hS hS1 (by rw [sE_2 h3, fun_updL hc.1]) hP1 hD1) hS1 hx0 hL
            rw [hnx (run_ne h)] at K
            exact K
          · cases h
        · cases h
      | bastore =>
        dsimp only [aRun] at h
        split at h
        · split at h
          · rename_i hc
            obtain ⟨hk, hjl⟩ := cellLn hc.1 hc.2
            obtain ⟨kk, rfl, h1, h2, h3, h4, h5⟩ := cellOf hall hk (by omega) (by omega)
            have hw := sW_get (tg := tg) (cy := cy) (ads := ads) (sa := sa) (M := M) h1 h2
            rw [sE_3 h3] at hw
            have hji : xI _ := (fac (fac hst).2).1
            have hzi := (fac hst).1
            have hjl2 := hjl
            unfold aL at hjl2
            rw [h4] at hjl2
            refine va_bast hx hb hI.2.2.1 hI.1 hI.2.1 hS (kk - 1) 2 hw rfl (o_in hji hc.1 hjl2) hd (fun H1 locs1 hP1 hD1 hS1 => ?_)
            rw [o_clamp hji, o_nb] at hP1 hD1
            have K := go _ _ _ _ H1 locs1 ads lsM h hls (fac (fac (fac hst).2).2).2 hn0 hs0 (sIn_set hI h1 h2 (mOk_int h5 (by omega) (by omega) (xI_b _)) hbs hS hS1 (by rw [sE_3 h3, fun_upd hc.1]) hP1 hD1) hS1 hx0 hL
            rw [hnx (run_ne h)] at K
            exact K
          · cases h
        · split at h
          · rename_i hc
            obtain ⟨hk, hjl⟩ := cellLn hc.1.1 hc.1.2
            obtain ⟨kk, rfl, h1, h2, h3, h4, h5⟩ := cellOf hall hk (by omega) (by omega)
            have hw := sW_get (tg := tg) (cy := cy) (ads := ads) (sa := sa) (M := M) h1 h2
            rw [sE_4 h3] at hw
            have hji : xI _ := (fac (fac hst).2).1
            have hzi := (fac hst).1
            have hjl2 := hjl
            unfold aL at hjl2
            rw [h4] at hjl2
            refine va_zast hx hb hI.2.2.1 hI.1 hI.2.1 hS (kk - 1) 3 hw rfl (o_in hji hc.1.1 hjl2) hd (fun H1 locs1 hP1 hD1 hS1 => ?_)
            rw [o_clamp hji, o_nz hc.2] at hP1 hD1
            have K := go _ _ _ _ H1 locs1 ads lsM h hls (fac (fac (fac hst).2).2).2 hn0 hs0 (sIn_set hI h1 h2 (mOk_int h5 (by omega) (by omega) hzi) hbs hS hS1 (by rw [sE_4 h3, fun_upd hc.1.1]) hP1 hD1) hS1 hx0 hL
            rw [hnx (run_ne h)] at K
            exact K
          · cases h
        · cases h
      | aastore =>
        dsimp only [aRun] at h
        split at h
        · rename_i z j r st'
          split at h
          · rename_i hc
            obtain ⟨hk, hjl⟩ := cellLn hc.1.1 hc.1.2
            obtain ⟨kk, rfl, h1, h2, h3, h4, h5⟩ := cellOf hall hk (by omega) (by omega)
            obtain ⟨kz, rfl, z1, z2, z3, z4, z5⟩ := cellOf hall hc.2 (by omega) (by omega)
            obtain ⟨TB, NB, hB0⟩ := hBed
            have hw := sW_get (tg := tg) (cy := cy) (ads := ads) (sa := sa) (M := M) h1 h2
            rw [sE_q (Or.inl h3), h3] at hw
            have hwz := sW_get (tg := tg) (cy := cy) (ads := ads) (sa := sa) (M := M) z1 z2
            rw [sE_o (ci := 0) z3] at hwz
            have hji : xI j := (fac (fac hst).2).1
            have hjl2 : j < (((S.getD kk (0, 0, [])).2.1 : Nat) : Int) := by unfold aL at hjl; rw [h4] at hjl; exact hjl
            have hlr : (S.getD kk (0, 0, [])).2.2.length = (S.getD kk (0, 0, [])).2.1 := h5.2.2.2.2.2.2.2.2 (by omega)
            have hputk : (aPut S (kk : Int) j.toNat (kz : Int)).getD kk (0, 0, []) = ((S.getD kk (0, 0, [])).1, (S.getD kk (0, 0, [])).2.1, (S.getD kk (0, 0, [])).2.2.set j.toNat (kz : Int)) := aPut_at h2 h4
            refine va_astq (r := ("TypeLock$Bed", TB, NB)) hx hb hI.2.2.1 hI.1 hI.2.1 hS (kk - 1) 4 (kz - 1) 0 hw rfl hwz hB0 (o_in hji hc.1.1 hjl2) hd (fun H1 locs1 hP1 hD1 hS1 => ?_)
            rw [o_clamp hji] at hP1 hD1
            have K := go _ _ _ _ H1 locs1 ads lsM h (by rw [aPut_len]; exact hls) (by rw [aPut_len]; exact (fac (fac (fac hst).2).2).2) (by rw [aPut_len]; exact hn0) (by rw [aPut_sS]; exact hs0)
              (sIn_upd (M' := M) hI h1 h2 (aPut_len _ _ _ _) (fun i hi => aPut_off hi) (fun _ _ => rfl) (by rw [hputk]; exact mOk_ref h5 ⟨by omega, by omega⟩) hbs hS hS1 (by
                rw [hputk]
                have h3' : (((S.getD kk (0, 0, [])).1, (S.getD kk (0, 0, [])).2.1, (S.getD kk (0, 0, [])).2.2.set j.toNat (kz : Int)) : Nat × Nat × List Int).1 = 5 := h3
                refine (sE_q (Or.inl h3')).trans ?_
                show Sum.inl (cy (S.getD kk (0, 0, [])).1, _, _) = _
                rw [h3]
                refine congrArg (fun f => Sum.inl (cy 5, (S.getD kk (0, 0, [])).2.1, Sum.inr (Sum.inr (Sum.inr (Sum.inr f))))) (funext fun i => ?_)
                exact refs_set (by rw [hlr]; omega)) hP1 hD1) hS1 hx0 hL
            rw [hnx (run_ne h), aPut_len, aPut_sS] at K
            exact K
          · cases h
        · cases h
      | arraylength =>
        dsimp only [aRun] at h
        split at h
        · rename_i a r st'
          have ha : a = 1 ∨ a = 2 ∨ a = 3 ∨ a = 4 ∨ a = 9 := hlk
          split at h
          · rename_i hk
            by_cases h9 : a = 9
            · subst h9
              have hr0 := cell9 hall hk
              subst hr0
              have hI7 := hI.2.2.2.2.2.2.1
              have hb5 := hI.2.2.2.2.1
              have hX : va_X (ads.getD 0 0) (S.getD 0 (0, 0, [])).2.1 (fun j => Int32.ofInt (M 0 (j : Int))) s s.heap := hI7.kept (hS.2.1 _ (by omega) (by unfold sA; omega)).symm
              have K := go1 _ _ lsM h hls (fcc (⟨by show _ ≤ (((S.getD 0 (0, 0, [])).2.1 : Nat) : Int); omega, by show (((S.getD 0 (0, 0, [])).2.1 : Nat) : Int) < _; have := hall.2.2.1; omega⟩) (fac hst).2) hL
              rw [hnx (run_ne h)] at K
              have hb6 : ads.getD 0 0 < s.heap.size := by omega
              have hb7 : ¬ sA bs (ads.getD 0 0) := by unfold sA; omega
              refine va_slen hx hb hX hb6 hb7 hS hd ?_
              rw [o_nat]
              exact K
            · obtain ⟨kk, rfl, h1, h2, h3, h4, h5⟩ := cellOf hall hk (by omega) (by omega)
              have hw := sW_get (tg := tg) (cy := cy) (ads := ads) (sa := sa) (M := M) h1 h2
              have hval : aL S (kk : Int) = (((S.getD kk (0, 0, [])).2.1 : Nat) : Int) := by unfold aL; rw [h4]
              rw [hval] at h
              have K := go1 _ _ lsM h hls (fcc (⟨by omega, by have := h5.2.2.2.2.1; omega⟩) (fac hst).2) hL
              rw [hnx (run_ne h)] at K
              rcases ha with rfl | rfl | rfl | rfl | rfl
              · rw [sE_1 h3] at hw
                exact va_alen hx hb hI.2.2.1 hI.1 (kk - 1) 0 hw rfl (o_nat _) hd K
              · rw [sE_2 h3] at hw
                exact va_alen hx hb hI.2.2.1 hI.1 (kk - 1) 1 hw rfl (o_nat _) hd K
              · rw [sE_3 h3] at hw
                exact va_alen hx hb hI.2.2.1 hI.1 (kk - 1) 2 hw rfl (o_nat _) hd K
              · rw [sE_4 h3] at hw
                exact va_alen hx hb hI.2.2.1 hI.1 (kk - 1) 3 hw rfl (o_nat _) hd K
              · exact absurd rfl h9
          · cases h
        · cases h
      | ireturn =>
        dsimp only [aRun] at h
        split at h
        · cases h
          exact W.iret hx hb (hr.trans hlk) (fun t ht hW => ⟨ads, hx0, rfl, by rw [ht]; exact sIn_moved hW.alike hI, hS.F ht, hst, Nat.le_refl _⟩) hS.2.2 hd hlocks
        · split at h
          · rename_i hc
            cases h
            exact W.zret hx hb (hr.trans hlk) (by rcases hc with rfl | rfl <;> rfl) (fun t ht hW => ⟨ads, hx0, rfl, by rw [ht]; exact sIn_moved hW.alike hI, hS.F ht, hst, Nat.le_refl _⟩) hS.2.2 hd hlocks
          · cases h
        · cases h
      | lreturn =>
        dsimp only [aRun] at h
        split at h
        · cases h
          exact W.lret hx hb (hr.trans hlk) (fun t ht hW => ⟨ads, hx0, rfl, by rw [ht]; exact sIn_moved hW.alike hI, hS.F ht, hst, Nat.le_refl _⟩) hS.2.2 hd hlocks
        · cases h
      | areturn =>
        dsimp only [aRun] at h
        split at h
        · cases h
          have hq : ∃ rt, yR y = some rt ∧ ((∃ n, rt = .object n) ∨ ∃ t, rt = .array t) := by
            rcases (show (∃ n, yR y = some (.object n)) ∨ ∃ u, yR y = some (.array u) from hlk) with ⟨u, q⟩ | ⟨u, q⟩
            · exact ⟨_, q, Or.inl ⟨_, rfl⟩⟩
            · exact ⟨_, q, Or.inr ⟨_, rfl⟩⟩
          obtain ⟨rt, q1, q2⟩ := hq
          exact W.aret hx hb (hr.trans q1) q2 sV_nU (fun t ht hW => ⟨ads, hx0, rfl, by rw [ht]; exact sIn_moved hW.alike hI, hS.F ht, hst, Nat.le_refl _⟩) hS.2.2 hd hlocks
        · cases h
      | return_ =>
        dsimp only [aRun] at h
        split at h
        · cases h
          exact W.vret hx hb (hr.trans hlk) (fun t ht hW => ⟨ads, hx0, rfl, by rw [ht]; exact sIn_moved hW.alike hI, hS.F ht, (fun _ q => by cases q), Nat.zero_le _⟩) hS.2.2 hd hlocks
        · cases h
      | putfield idx =>
        dsimp only [aRun] at h
        split at h
        · rename_i ci j v r st'
          obtain ⟨hg9, C, T, N, hc, hjN, hlw, hfin⟩ : tg ci j ≠ 9 ∧ ∃ C T N, cl[ci]? = some (C, T, N) ∧ j < N ∧ Cond.fieldLink (yN y).cls idx (T j).1 (T j).2.1 (T j).2.2.1 ∈ wT ∧ ((T j).2.2.2 = false ∨ ((T j).2.2.2 = true ∧ (yN y).name = "<init>" ∧ (T j).1 = (yN y).cls)) := hlk
          obtain ⟨hin, hnm', hinst, hini, hjl, hN1, ty, hty, htt⟩ := hcl ci C T N hc
          have put : ∀ (S' : aSh) (M' : aM), aK S r = 10 + ci → aRun tg P n (P y) rest ls st' S' M' = some o → S'.length = S.length → sS S' = sS S → narrow (ty j) (sV ads sa v) = sV ads sa v → fits (ty j) (sV ads sa v) = true →
              (∀ kk : Nat, r = (kk : Int) → 1 ≤ kk → kk < S.length → (S.getD kk (0, 0, [])).1 = 10 + ci → aCell S r = S.getD kk (0, 0, []) → mOk tg S.length (S.getD kk (0, 0, [])) (M r) → j < (S.getD kk (0, 0, [])).2.1 →
                (∀ i, i ≠ kk → S'.getD i (0, 0, []) = S.getD i (0, 0, [])) ∧ (∀ i : Nat, i ≠ kk → M' (i : Int) = M (i : Int)) ∧ mOk tg S.length (S'.getD kk (0, 0, [])) (M' (kk : Int)) ∧ (S'.getD kk (0, 0, [])).1 = 10 + ci ∧ (S'.getD kk (0, 0, [])).2.1 = (S.getD kk (0, 0, [])).2.1 ∧
                (∀ i : Nat, i ≠ j → sFv (tg ci i) ads sa (M' (kk : Int) (i : Int)) ((S'.getD kk (0, 0, [])).2.2.getD i (-1)) = sFv (tg ci i) ads sa (M (kk : Int) (i : Int)) ((S.getD kk (0, 0, [])).2.2.getD i (-1))) ∧
                sFv (tg ci j) ads sa (M' (kk : Int) (j : Int)) ((S'.getD kk (0, 0, [])).2.2.getD j (-1)) = sV ads sa v) →
              W p l e R s m args below meth c H locs (S.length - n0) (sS S - s0) (MQ below (sQ tg cy sa bs D cl ads0 o) args s (o.2.1.length - n0) (sS o.2.1 - s0) (sA bs)) (F0 m pc lsM ((v :: aR r :: st').map (sV ads sa))) := by
            intro S' M' hk hrun hl1 hl2 hna hfi hcell
            obtain ⟨kk, rfl, h1, h2, h3, h4, h5⟩ := cellOf hall hk (by omega) (by omega)
            have hlen : j < (S.getD kk (0, 0, [])).2.1 := h5.2.2.2.2.2.2.2.1 (by omega) j (by rw [h3, Nat.add_sub_cancel_left]; exact hg9)
            obtain ⟨c1, c2, c3, c4, c5, c6, c7⟩ := hcell kk rfl h1 h2 h3 h4 h5 hlen
            have hw := sW_get (tg := tg) (cy := cy) (ads := ads) (sa := sa) (M := M) h1 h2
            rw [sE_o h3] at hw
            have fin : ∀ (H1 : Heap) (locs1 : List Loc), va_P D cl ((sW tg cy ads sa S M).set (kk - 1) (ads.getD kk 0, .inr (ci, ((List.range (S.getD kk (0, 0, [])).2.1).map (fun j => sFv (tg ci j) ads sa (M (kk : Int) (j : Int)) ((S.getD kk (0, 0, [])).2.2.getD j (-1)))).set j (sV ads sa v)))) H1 →
                va_D (sA bs) ((sW tg cy ads sa S M).set (kk - 1) (ads.getD kk 0, .inr (ci, ((List.range (S.getD kk (0, 0, [])).2.1).map (fun j => sFv (tg ci j) ads sa (M (kk : Int) (j : Int)) ((S.getD kk (0, 0, [])).2.2.getD j (-1)))).set j (sV ads sa v)))) → va_S (sA bs) s.heap H1 locs1 →
                W p l e R s m args below meth c H1 locs1 (S.length - n0) (sS S - s0) (MQ below (sQ tg cy sa bs D cl ads0 o) args s (o.2.1.length - n0) (sS o.2.1 - s0) (sA bs)) (F0 m (pc + 3) lsM (st'.map (sV ads sa))) := by
              intro H1 locs1 hP1 hD1 hS1
              have K := go _ _ _ _ H1 locs1 ads lsM hrun (by rw [hl1]; exact hls) (by rw [hl1]; exact (fac (fac hst).2).2) (by rw [hl1]; exact hn0) (by rw [hl2]; exact hs0)
                (sIn_upd (M' := M') hI h1 h2 hl1 c1 c2 c3 hbs hS hS1 (by
                  rw [sE_o c4, c5, ← c7]
                  exact congrArg (fun f => (Sum.inr (ci, f) : va_E)) (range_set hlen c6)) hP1 hD1) hS1 hx0 hL
              rw [hnx (run_ne hrun), hl1, hl2] at K
              exact K
            have hl0 : j < ((List.range (S.getD kk (0, 0, [])).2.1).map (fun j => sFv (tg ci j) ads sa (M (kk : Int) (j : Int)) ((S.getD kk (0, 0, [])).2.2.getD j (-1)))).length := by rw [List.length_map, List.length_range]; exact hlen
            rcases hfin with hfin | ⟨hfin, hi1, hi2⟩
            · exact va_put (D := D) hx hb hts hin ty hty hnm' hown hI.2.2.1 hI.1 hI.2.1 hS (kk - 1) hw hc j hjN (hts _ hlw) (fun _ z => z) hfin (hty j hjN) hna hfi hl0 hd fin
            · exact va_putF (D := D) hx hb hts hin ty hty hnm' hown hI.2.2.1 hI.1 hI.2.1 hS (kk - 1) hw hc j hjN (hts _ hlw) (fun _ z => z) hfin (hnm.trans hi1) hi2 (hty j hjN) hna hfi hl0 hd fin
          have num : ∀ (z : Int), aK S r = 10 + ci → aRun tg P n (P y) rest ls st' S (aSet M r (j : Int) z) = some o → narrow (ty j) (sV ads sa v) = sV ads sa v → fits (ty j) (sV ads sa v) = true → (tg ci j = 1 → xL z) → (tg ci j = 2 → xR S.length z) → (tg ci j ≠ 1 → tg ci j ≠ 2 → xI z) → (∀ x, sFv (tg ci j) ads sa z x = sV ads sa v) →
              W p l e R s m args below meth c H locs (S.length - n0) (sS S - s0) (MQ below (sQ tg cy sa bs D cl ads0 o) args s (o.2.1.length - n0) (sS o.2.1 - s0) (sA bs)) (F0 m pc lsM ((v :: aR r :: st').map (sV ads sa))) := by
            intro z hk hrun hna hfi hv1 hv2 hv3 hval
            refine put S (aSet M r (j : Int) z) hk hrun rfl rfl hna hfi (fun kk e1 h1 h2 h3 h4 h5 hlen => ?_)
            subst e1
            refine ⟨fun _ _ => rfl, fun i hi => aSet_off M (by omega), by rw [aSet_at]; exact mOk_obj h5 h3 hv1 hv2 hv3, h3, rfl, fun i hi => ?_, ?_⟩
            · rw [aSet_at]
              dsimp only
              rw [if_neg (by omega)]
            · rw [aSet_at]
              dsimp only
              rw [if_pos rfl]
              exact hval _
          have htj := (htt j hjN).2
          have hrf : ∀ z : Int, v = aR z → (∃ n, ty j = .object n) ∨ (∃ u, ty j = .array u) → narrow (ty j) (sV ads sa v) = sV ads sa v ∧ fits (ty j) (sV ads sa v) = true := by
            intro z hz hq
            subst hz
            rcases sV_nU (ads := ads) (sa := sa) (z := z) with q | ⟨a, q⟩ <;> rcases hq with ⟨u, hq⟩ | ⟨u, hq⟩ <;> rw [q, hq] <;> exact ⟨rfl, rfl⟩
          split at h
          · rename_i z ht1
            split at h
            · rename_i hk
              rw [ht1] at htj
              have e1 : ty j = .int := htj
              exact num z hk h (by rw [e1]; rfl) (by rw [e1]; rfl) (fun q => absurd (ht1.symm.trans q) (by decide)) (fun q => absurd (ht1.symm.trans q) (by decide)) (fun _ _ => (fac hst).1) (fun x => by rw [ht1]; rfl)
            · cases h
          · rename_i z ht1
            split at h
            · rename_i hk
              rw [ht1] at htj
              have e1 : ty j = .long := htj
              exact num z hk h (by rw [e1]; rfl) (by rw [e1]; rfl) (fun _ => (fac hst).1) (fun q => absurd (ht1.symm.trans q) (by decide)) (fun q _ => absurd ht1 q) (fun x => by rw [ht1]; rfl)
            · cases h
          · rename_i z ht1
            split at h
            · rename_i hk
              rw [ht1] at htj
              obtain ⟨e1, e2⟩ := hrf z rfl htj
              exact num z hk.1 h e1 e2 (fun q => absurd (ht1.symm.trans q) (by decide)) (fun _ => ⟨hk.2, (fac hst).1.2⟩) (fun _ q => absurd ht1 q) (fun x => by rw [ht1]; rfl)
            · cases h
          · rename_i z ht1
            split at h
            · rename_i hk
              rw [ht1] at htj
              obtain ⟨e1, e2⟩ := hrf z rfl htj
              refine put (aPut S r j z) M hk.1 h (aPut_len _ _ _ _) (aPut_sS _ _ _ _) e1 e2 (fun kk e3 h1 h2 h3 h4 h5 hlen => ?_)
              subst e3
              have hputk := aPut_at (j := j) (v := z) h2 h4
              have hlr : (S.getD kk (0, 0, [])).2.2.length = (S.getD kk (0, 0, [])).2.1 := h5.2.2.2.2.2.2.2.2 (by omega)
              refine ⟨fun i hi => aPut_off hi, fun _ _ => rfl, by rw [hputk]; exact mOk_ref h5 ⟨hk.2, (fac hst).1.2⟩, by rw [hputk]; exact h3, by rw [hputk], fun i hi => ?_, ?_⟩
              · rw [hputk]
                dsimp only
                rw [List.getD_eq_getElem?_getD, List.getElem?_set_ne (fun q => hi q.symm), ← List.getD_eq_getElem?_getD]
              · rw [hputk, ht1]
                dsimp only
                rw [List.getD_eq_getElem?_getD, List.getElem?_set_self (by omega)]
                rfl
            · cases h
          · rename_i z ht1
            split at h
            · rename_i hk
              rw [ht1] at htj
              have e1 : ty j = .boolean := htj
              exact num z hk.1 h (by rw [e1]; rcases hk.2 with rfl | rfl <;> rfl) (by rw [e1]; rcases hk.2 with rfl | rfl <;> rfl) (fun q => absurd (ht1.symm.trans q) (by decide)) (fun q => absurd (ht1.symm.trans q) (by decide)) (fun _ _ => (fac hst).1) (fun x => by rw [ht1]; rfl)
            · cases h
          · cases h
        · cases h
      | new idx =>
        dsimp only [aRun] at h
        split at h
        · rename_i ci f
          obtain ⟨C, T, hc, hlw⟩ : ∃ C T, cl[ci]? = some (C, T, f) ∧ Cond.classLink (yN y).cls idx C ∈ wT := hlk
          obtain ⟨hin, hnm', hinst, hini, hjl, hN1, ty, hty, htt⟩ := hcl ci C T f hc
          obtain ⟨a1, a2⟩ := aRun_mono _ _ _ _ _ _ _ _ h
          rw [List.length_append] at a1
          rw [sS_app] at a2
          have a1 : S.length + 1 ≤ o.2.1.length := a1
          have a2 : sS S + (f + 0) ≤ sS o.2.1 := a2
          have hal := hI.2.2.2.1
          refine va_new (D := D) (ci := ci) (fs := (List.range f).map (fun j => sFv (tg ci j) ads sa (if tg ci j = 2 then -1 else 0) (-1))) hx hb hts hin ty hty hown (hts _ hlw) (hts _ hinst) (hts _ hini) hI.2.2.1 hI.1 hI.2.1 hS (fun q hq => Nat.le_trans hbs hq) hc (fun j hj => ?_) (by rw [hcs]; omega) (by rw [hss]; omega) hd (fun q H1 hP1 hD1 hS1 => ?_)
          · unfold vp_V
            rw [List.getD_eq_getElem?_getD, List.getElem?_map, List.getElem?_range hj]
            obtain ⟨t1, t2⟩ := htt j hj
            show defaultValue (ty j) = sFv (tg ci j) ads sa (if tg ci j = 2 then -1 else 0) (-1)
            rcases (show tg ci j = 0 ∨ tg ci j = 1 ∨ tg ci j = 2 ∨ tg ci j = 3 ∨ tg ci j = 4 by omega) with e1 | e1 | e1 | e1 | e1
            all_goals rw [e1] at t2 ⊢
            · rw [show ty j = .int from t2]; rfl
            · rw [show ty j = .long from t2]; rfl
            · rcases t2 with ⟨u, e2⟩ | ⟨u, e2⟩ <;> rw [e2] <;> rfl
            · rcases t2 with ⟨u, e2⟩ | ⟨u, e2⟩ <;> rw [e2] <;> rfl
            · rw [show ty j = .boolean from t2]; rfl
          · have hI1 := sIn_push (M' := aNew M S.length (fun j => if tg ci j.toNat = 2 then -1 else 0)) (c := (10 + ci, f, List.replicate f (-1))) hI (fun k hk => aNew_off M (by omega)) (by
                rw [aNew_at]
                refine ⟨fun q => absurd q (by show ¬ 10 + ci = 2; omega), fun _ q => absurd q (by show ¬ 10 + ci < 10; omega), fun _ j => ?_, fun x hx => ?_, by show f < _; omega, by show 1 ≤ 10 + ci; omega, Or.inr (by show 10 ≤ 10 + ci; omega), fun _ j => ?_, fun _ => List.length_replicate⟩
                · show (tg (10 + ci - 10) j = 1 → _) ∧ (tg (10 + ci - 10) j = 2 → _) ∧ (tg (10 + ci - 10) j ≠ 1 → tg (10 + ci - 10) j ≠ 2 → _)
                  rw [Nat.add_sub_cancel_left]
                  dsimp only
                  rw [Int.toNat_natCast]
                  refine ⟨fun q => ?_, fun q => ?_, fun q1 q2 => ?_⟩
                  · rw [if_neg (by omega)]; exact ⟨by omega, by omega⟩
                  · rw [if_pos q]; exact ⟨by omega, by omega⟩
                  · rw [if_neg q2]; exact xI_0
                · rw [List.mem_replicate] at hx
                  rw [hx.2]
                  exact ⟨by omega, by omega⟩
                · show tg (10 + ci - 10) j ≠ 9 → j < f
                  rw [Nat.add_sub_cancel_left]
                  exact hjl j) hbs hS hS1 (by
                rw [aNew_at, sE_o (ci := ci) rfl]
                refine congrArg (fun f => (Sum.inr (ci, f) : va_E)) (List.map_congr_left (fun j hj => ?_))
                have hj2 : j < f := List.mem_range.mp hj
                show sFv _ _ _ (if tg ci ((j : Int)).toNat = 2 then -1 else 0) ((List.replicate f (-1)).getD j (-1)) = _
                rw [Int.toNat_natCast, List.getD_eq_getElem?_getD, List.getElem?_replicate, if_pos hj2]
                exact sFv_new) hP1 hD1
            have K := go _ _ _ _ H1 locs (ads ++ [q]) lsM h (fun v hv => sOk_grow (by rw [List.length_append]; omega) (hls v hv)) (fcc (⟨by omega, by rw [List.length_append]; show (S.length : Int) < ((S.length + 1 : Nat) : Int); omega⟩) (fun v hv => sOk_grow (by rw [List.length_append]; omega) (hst v hv))) (by rw [List.length_append]; omega) (by rw [sS_app]; omega) hI1 hS1 (by obtain ⟨l2, e2⟩ := hx0; exact ⟨l2 ++ [q], by rw [e2, List.append_assoc]⟩) (sL_grow hL (by rw [hal]; exact hls))
            rw [hnx (run_ne h), List.map_cons, map_grow (by rw [hal]; exact hst), sV_last hal, List.length_append, sS_app] at K
            rw [show S.length - n0 + 1 = S.length + [((10 + ci, f, List.replicate f (-1)) : Nat × Nat × List Int)].length - n0 by show _ = S.length + 1 - n0; omega, show sS S - s0 + f = sS S + sS [((10 + ci, f, List.replicate f (-1)) : Nat × Nat × List Int)] - s0 by show _ = sS S + (f + 0) - s0; omega]
            exact K
        · cases h
      | newarray a =>
        dsimp only [aRun] at h
        split at h
        · rename_i b z st'
          have hlk2 : (b = 1 ∧ newarray.typeOf a = .int) ∨ (b = 2 ∧ newarray.typeOf a = .long) ∨ (b = 3 ∧ newarray.typeOf a = .byte) ∨ (b = 4 ∧ newarray.typeOf a = .boolean) := hlk
          split at h
          · rename_i hz
            have hz1 : xI z := (fac hst).1
            have hal := hI.2.2.2.1
            obtain ⟨a1, a2⟩ := aRun_mono _ _ _ _ _ _ _ _ h
            rw [List.length_append] at a1
            rw [sS_app] at a2
            have a1 : S.length + 1 ≤ o.2.1.length := a1
            have a2 : sS S + (z.toNat + 0) ≤ sS o.2.1 := a2
            rcases hlk2 with ⟨rfl, e⟩ | ⟨rfl, e⟩ | ⟨rfl, e⟩ | ⟨rfl, e⟩
            · refine va_newa (atype := a) (ty := .int) (a0 := (z.toNat, .inl (fun _ => 0))) hx hb (by rw [e]; exact hts _ hAr.1) e hI.2.2.1 hI.1 hI.2.1 hS (fun q hq => Nat.le_trans hbs hq) (fun cA => rfl) (fun q => by have := (o_lt0 hz1).mp q; omega) (o_clamp hz1) (by show z.toNat * _ ≤ _; simp only [componentBytes]; omega) (by rw [hcs]; omega) (by rw [hss]; omega) hd (fun q cA H1 hK1 hP1 hD1 hS1 => ?_)
              have hcA := hK1.2 7 (cA, .int) rfl
              have ecA := sK_cy (k := 0) hI.2.2.1 rfl hcA
              subst ecA
              have hI1 := sIn_push (M' := aNew M S.length (fun _ => 0)) (c := (1, z.toNat, [])) hI (fun k hk => aNew_off M (by omega)) (by rw [aNew_at]; exact mOk_arr (by omega) (by omega) (by omega)) hbs hS hS1 (by rw [aNew_at, sE_1 rfl]; rfl) hP1 hD1
              have K := go _ _ _ _ H1 locs (ads ++ [q]) lsM h (fun v hv => sOk_grow (by rw [List.length_append]; omega) (hls v hv)) (fcc (⟨by omega, by rw [List.length_append]; show (S.length : Int) < ((S.length + 1 : Nat) : Int); omega⟩) (fun v hv => sOk_grow (by rw [List.length_append]; omega) ((fac hst).2 v hv))) (by rw [List.length_append]; omega) (by rw [sS_app]; omega) hI1 hS1 (by obtain ⟨l2, e2⟩ := hx0; exact ⟨l2 ++ [q], by rw [e2, List.append_assoc]⟩) (sL_grow hL (by rw [hal]; exact hls))
              rw [hnx (run_ne h), List.map_cons, map_grow (by rw [hal]; exact (fac hst).2), sV_last hal, List.length_append, sS_app] at K
              rw [show S.length - n0 + 1 = S.length + [((1, z.toNat, []) : Nat × Nat × List Int)].length - n0 by show _ = S.length + 1 - n0; omega, show sS S - s0 + z.toNat = sS S + sS [((1, z.toNat, []) : Nat × Nat × List Int)] - s0 by show _ = sS S + (z.toNat + 0) - s0; omega]
              exact K
            · refine va_newa (atype := a) (ty := .long) (a0 := (z.toNat, .inr (.inl (fun _ => 0)))) hx hb (by rw [e]; exact hts _ hAr.2.1) e hI.2.2.1 hI.1 hI.2.1 hS (fun q hq => Nat.le_trans hbs hq) (fun cA => rfl) (fun q => by have := (o_lt0 hz1).mp q; omega) (o_clamp hz1) (by show z.toNat * _ ≤ _; simp only [componentBytes]; omega) (by rw [hcs]; omega) (by rw [hss]; omega) hd (fun q cA H1 hK1 hP1 hD1 hS1 => ?_)
              have hcA := hK1.2 7 (cA, .long) rfl
              have ecA := sK_cy (k := 1) hI.2.2.1 rfl hcA
              subst ecA
              have hI1 := sIn_push (M' := aNew M S.length (fun _ => 0)) (c := (2, z.toNat, [])) hI (fun k hk => aNew_off M (by omega)) (by rw [aNew_at]; exact mOk_arr (by omega) (by omega) (by omega)) hbs hS hS1 (by rw [aNew_at, sE_2 rfl]; rfl) hP1 hD1
              have K := go _ _ _ _ H1 locs (ads ++ [q]) lsM h (fun v hv => sOk_grow (by rw [List.length_append]; omega) (hls v hv)) (fcc (⟨by omega, by rw [List.length_append]; show (S.length : Int) < ((S.length + 1 : Nat) : Int); omega⟩) (fun v hv => sOk_grow (by rw [List.length_append]; omega) ((fac hst).2 v hv))) (by rw [List.length_append]; omega) (by rw [sS_app]; omega) hI1 hS1 (by obtain ⟨l2, e2⟩ := hx0; exact ⟨l2 ++ [q], by rw [e2, List.append_assoc]⟩) (sL_grow hL (by rw [hal]; exact hls))
              rw [hnx (run_ne h), List.map_cons, map_grow (by rw [hal]; exact (fac hst).2), sV_last hal, List.length_append, sS_app] at K
              rw [show S.length - n0 + 1 = S.length + [((2, z.toNat, []) : Nat × Nat × List Int)].length - n0 by show _ = S.length + 1 - n0; omega, show sS S - s0 + z.toNat = sS S + sS [((2, z.toNat, []) : Nat × Nat × List Int)] - s0 by show _ = sS S + (z.toNat + 0) - s0; omega]
              exact K
            · refine va_newa (atype := a) (ty := .byte) (a0 := (z.toNat, .inl (fun _ => 0))) hx hb (by rw [e]; exact hts _ hAr.2.2.1) e hI.2.2.1 hI.1 hI.2.1 hS (fun q hq => Nat.le_trans hbs hq) (fun cA => rfl) (fun q => by have := (o_lt0 hz1).mp q; omega) (o_clamp hz1) (by show z.toNat * _ ≤ _; simp only [componentBytes]; omega) (by rw [hcs]; omega) (by rw [hss]; omega) hd (fun q cA H1 hK1 hP1 hD1 hS1 => ?_)
              have hcA := hK1.2 7 (cA, .byte) rfl
              have ecA := sK_cy (k := 2) hI.2.2.1 rfl hcA
              subst ecA
              have hI1 := sIn_push (M' := aNew M S.length (fun _ => 0)) (c := (3, z.toNat, [])) hI (fun k hk => aNew_off M (by omega)) (by rw [aNew_at]; exact mOk_arr (by omega) (by omega) (by omega)) hbs hS hS1 (by rw [aNew_at, sE_3 rfl]; rfl) hP1 hD1
              have K := go _ _ _ _ H1 locs (ads ++ [q]) lsM h (fun v hv => sOk_grow (by rw [List.length_append]; omega) (hls v hv)) (fcc (⟨by omega, by rw [List.length_append]; show (S.length : Int) < ((S.length + 1 : Nat) : Int); omega⟩) (fun v hv => sOk_grow (by rw [List.length_append]; omega) ((fac hst).2 v hv))) (by rw [List.length_append]; omega) (by rw [sS_app]; omega) hI1 hS1 (by obtain ⟨l2, e2⟩ := hx0; exact ⟨l2 ++ [q], by rw [e2, List.append_assoc]⟩) (sL_grow hL (by rw [hal]; exact hls))
              rw [hnx (run_ne h), List.map_cons, map_grow (by rw [hal]; exact (fac hst).2), sV_last hal, List.length_append, sS_app] at K
              rw [show S.length - n0 + 1 = S.length + [((3, z.toNat, []) : Nat × Nat × List Int)].length - n0 by show _ = S.length + 1 - n0; omega, show sS S - s0 + z.toNat = sS S + sS [((3, z.toNat, []) : Nat × Nat × List Int)] - s0 by show _ = sS S + (z.toNat + 0) - s0; omega]
              exact K
            · refine va_newa (atype := a) (ty := .boolean) (a0 := (z.toNat, .inl (fun _ => 0))) hx hb (by rw [e]; exact hts _ hAr.2.2.2) e hI.2.2.1 hI.1 hI.2.1 hS (fun q hq => Nat.le_trans hbs hq) (fun cA => rfl) (fun q => by have := (o_lt0 hz1).mp q; omega) (o_clamp hz1) (by show z.toNat * _ ≤ _; simp only [componentBytes]; omega) (by rw [hcs]; omega) (by rw [hss]; omega) hd (fun q cA H1 hK1 hP1 hD1 hS1 => ?_)
              have hcA := hK1.2 7 (cA, .boolean) rfl
              have ecA := sK_cy (k := 3) hI.2.2.1 rfl hcA
              subst ecA
              have hI1 := sIn_push (M' := aNew M S.length (fun _ => 0)) (c := (4, z.toNat, [])) hI (fun k hk => aNew_off M (by omega)) (by rw [aNew_at]; exact mOk_arr (by omega) (by omega) (by omega)) hbs hS hS1 (by rw [aNew_at, sE_4 rfl]; rfl) hP1 hD1
              have K := go _ _ _ _ H1 locs (ads ++ [q]) lsM h (fun v hv => sOk_grow (by rw [List.length_append]; omega) (hls v hv)) (fcc (⟨by omega, by rw [List.length_append]; show (S.length : Int) < ((S.length + 1 : Nat) : Int); omega⟩) (fun v hv => sOk_grow (by rw [List.length_append]; omega) ((fac hst).2 v hv))) (by rw [List.length_append]; omega) (by rw [sS_app]; omega) hI1 hS1 (by obtain ⟨l2, e2⟩ := hx0; exact ⟨l2 ++ [q], by rw [e2, List.append_assoc]⟩) (sL_grow hL (by rw [hal]; exact hls))
              rw [hnx (run_ne h), List.map_cons, map_grow (by rw [hal]; exact (fac hst).2), sV_last hal, List.length_append, sS_app] at K
              rw [show S.length - n0 + 1 = S.length + [((4, z.toNat, []) : Nat × Nat × List Int)].length - n0 by show _ = S.length + 1 - n0; omega, show sS S - s0 + z.toNat = sS S + sS [((4, z.toNat, []) : Nat × Nat × List Int)] - s0 by show _ = sS S + (z.toNat + 0) - s0; omega]
              exact K
          · cases h
        · cases h
      | anewarray idx =>
        dsimp only [aRun] at h
        split at h
        · rename_i z st'
          split at h
          · rename_i hz
            have hz1 : xI z := (fac hst).1
            have hal := hI.2.2.2.1
            obtain ⟨a1, a2⟩ := aRun_mono _ _ _ _ _ _ _ _ h
            rw [List.length_append] at a1
            rw [sS_app] at a2
            have a1 : S.length + 1 ≤ o.2.1.length := a1
            have a2 : sS S + (z.toNat + 0) ≤ sS o.2.1 := a2
            refine va_newq (C := "TypeLock$Bed") hx hb hown (hts _ hlk) (va_AO.of (hXO s args hnw).1) hI.2.2.1 hI.1 hI.2.1 hS (fun q hq => Nat.le_trans hbs hq) (fun q => by have := (o_lt0 hz1).mp q; omega) (o_clamp hz1) (by omega) (by rw [hcs]; omega) (by rw [hss]; omega) hd (fun q cA H1 hK1 hP1 hD1 hS1 => ?_)
            have hcA := hK1.2 7 (cA, .object "TypeLock$Bed") rfl
            have ecA := sK_cy (k := 4) hI.2.2.1 rfl hcA
            subst ecA
            have hI1 := sIn_push (M' := aNew M S.length (fun _ => 0)) (c := (5, z.toNat, List.replicate z.toNat (-1))) hI (fun k hk => aNew_off M (by omega)) (by rw [aNew_at]; exact mOk_arrq (by omega)) hbs hS hS1 (by rw [aNew_at, sE_q (Or.inl rfl)]; exact congrArg (fun f => (Sum.inl (cy 5, z.toNat, Sum.inr (Sum.inr (Sum.inr (Sum.inr f)))) : va_E)) (funext fun j => sR_none)) hP1 hD1
            have K := go _ _ _ _ H1 locs (ads ++ [q]) lsM h (fun v hv => sOk_grow (by rw [List.length_append]; omega) (hls v hv)) (fcc (⟨by omega, by rw [List.length_append]; show (S.length : Int) < ((S.length + 1 : Nat) : Int); omega⟩) (fun v hv => sOk_grow (by rw [List.length_append]; omega) ((fac hst).2 v hv))) (by rw [List.length_append]; omega) (by rw [sS_app]; omega) hI1 hS1 (by obtain ⟨l2, e2⟩ := hx0; exact ⟨l2 ++ [q], by rw [e2, List.append_assoc]⟩) (sL_grow hL (by rw [hal]; exact hls))
            rw [hnx (run_ne h), List.map_cons, map_grow (by rw [hal]; exact (fac hst).2), sV_last hal, List.length_append, sS_app] at K
            rw [show S.length - n0 + 1 = S.length + [((5, z.toNat, List.replicate z.toNat (-1)) : Nat × Nat × List Int)].length - n0 by show _ = S.length + 1 - n0; omega, show sS S - s0 + z.toNat = sS S + sS [((5, z.toNat, List.replicate z.toNat (-1)) : Nat × Nat × List Int)] - s0 by show _ = sS S + (z.toNat + 0) - s0; omega]
            exact K
          · cases h
        · cases h
      | invokestatic idx =>
        dsimp only [aRun] at h
        split at h
        · rename_i z na ml
          obtain ⟨⟨hml2, hfz, hoz, hpar, hlk1⟩, hstat⟩ : cOk yN yL yF yO wT wN y z ml idx na ∧ Cond.static (yN z) ∈ wT := hlk
          split at h
          · rename_i hbl
            split at h
            · rename_i v S' M' hcal
              obtain ⟨⟨hb1, hb2⟩, hb3⟩ := ble3 hbl
              subst hml2
              have hmc := aRun_mono _ _ _ _ _ _ _ _ hcal
              have hmh := aRun_mono _ _ _ _ _ _ _ _ h
              have hz := htab z (run_ne hcal)
              have hasok : ∀ w ∈ (st.take na).reverse, sOk S.length w := fun w hw => hst w (List.mem_of_mem_take (List.mem_reverse.mp hw))
              have hM := aMet ih hz hcal hasok hb3 l ads
              have hGd : GoodIn wT (Cond.code (yN z) (yB z) (yL z) (yR z) :: wT) := fun w hw => by
                rcases List.mem_cons.mp hw with rfl | q
                · exact ⟨hz.1.2.2.1, good_of_word (hG _ hz.1.2.2.1)⟩
                · exact ⟨q, good_of_word (hG _ q)⟩
              have hrm : yF z + 1 ≤ R.frames ∧ 8 + (yL z + 11) + yO z ≤ R.locals := ⟨by rw [hfr]; exact hfz, by rw [hlo]; exact hoz⟩
              have hfit : S.length - n0 + (S'.length - S.length) ≤ R.cells ∧ sS S - s0 + (sS S' - sS S) ≤ R.slots := by
                have m1 : S.length ≤ S'.length := hmc.1
                have m2 : sS S ≤ sS S' := hmc.2
                have m3 : S'.length ≤ o.2.1.length := hmh.1
                have m4 : sS S' ≤ sS o.2.1 := hmh.2
                rw [hcs, hss]
                omega
              have hroom := lv_room (pc := pc) (ls := lsM) (m := m) (rest := st.map (sV ads sa)) (st := (st.drop na).map (sV ads sa)) (by rw [aCat_eq]; exact hb2)
              have hlen : ((st.take na).reverse.map (sV ads sa)).length = na := by rw [List.length_map, List.length_reverse, List.length_take]; omega
              have hr : va_Run p l e R s m args below meth c H locs (S.length - n0) (sS S - s0) (S'.length - S.length) (sS S' - sS S) (F0 m pc lsM (st.map (sV ads sa))) ((st.drop na).map (sV ads sa)) (sQ tg cy sa bs D cl ads (v, S', M') ((st.take na).reverse.map (sV ads sa)).toArray) (sA bs) := by
                rcases hlk1 with hlk1 | ⟨host, hlk1⟩
                · exact va_runS (As := (st.take na).reverse.map (sV ads sa)) (rest := (st.drop na).map (sV ads sa)) ⟨hx, hb, hml, hown, hts⟩ hM ⟨callB_of na hts hGd rfl rfl rfl (hts _ hz.1.2.2.2.1) (hts _ hlk1) ⟨hz.1.2.1.1, hz.1.2.1.2, hpar⟩ hrm, hts _ hstat⟩ ⟨sPc_blind hN, fun U hU hW => ⟨rfl, by rw [hU]; exact sIn_moved hW.alike hI, hN.2 s U H locs hS hU hW hnw⟩⟩ rfl hlen hL.2.1 (stk_map na) hroom hd hfit
                · exact va_runSN (As := (st.take na).reverse.map (sV ads sa)) (rest := (st.drop na).map (sV ads sa)) ⟨hx, hb, hml, hown, hts⟩ hM ⟨va_cnB na hts hGd rfl rfl rfl (hXN s hnw _ hlk1) (hts _ hz.1.2.2.2.1) ⟨hz.1.2.1.1, hz.1.2.1.2, hpar⟩ hrm, hts _ hstat, trivial⟩ ⟨sPc_blind hN, fun U hU hW => ⟨rfl, by rw [hU]; exact sIn_moved hW.alike hI, hN.2 s U H locs hS hU hW hnw⟩⟩ rfl hlen hL.2.1 (stk_map na) hroom hd hfit
              refine st_call (S := S) (M := M) (o := (v, S', M')) hbs hS hr (fun ads' H1 locs1 hx1 hI1 hS1 hok1 hlen1 => ?_)
              have K := go ls (v ++ st.drop na) S' M' H1 locs1 ads' lsM h (fun w hw => sOk_grow hmc.1 (hls w hw)) (fun w hw => by
                  rcases List.mem_append.mp hw with q | q
                  · exact hok1 w q
                  · exact sOk_grow hmc.1 (hst w (List.mem_of_mem_drop q))) (Nat.le_trans hn0 hmc.1) (Nat.le_trans hs0 hmc.2) hI1 hS1 (by
                  obtain ⟨l1, e1⟩ := hx0
                  obtain ⟨l2, e2⟩ := hx1
                  exact ⟨l1 ++ l2, by rw [e2, e1, List.append_assoc]⟩) (by
                  obtain ⟨l2, e2⟩ := hx1
                  rw [e2]
                  exact sL_grow hL (by rw [hI.2.2.2.1]; exact hls))
              have est : (v ++ st.drop na).map (sV ads' sa) = (sRt ads' sa v).toList ++ (st.drop na).map (sV ads sa) := by
                obtain ⟨l2, e2⟩ := hx1
                rw [e2]
                exact ret_map hlen1 (by rw [hI.2.2.2.1]; exact fun w hw => hst w (List.mem_of_mem_drop hw))
              have m1 : S.length ≤ S'.length := hmc.1
              have m2 : sS S ≤ sS S' := hmc.2
              rw [hnx (run_ne h), est] at K
              rw [show S.length - n0 + (S'.length - S.length) = S'.length - n0 by omega, show sS S - s0 + (sS S' - sS S) = sS S' - s0 by omega]
              exact K
            · cases h
          · cases h
        · obtain ⟨k1, k2, k3, k4, k5, k6⟩ : Cond.methodLink (yN y).cls idx arraycopyName ∈ wT ∧ Cond.native arraycopyName ∈ wT ∧ Cond.static arraycopyName ∈ wT ∧ Cond.initialized "java/lang/System" ∈ wT ∧ 1 ≤ yF y ∧ nativeFrameWords "java/lang/System" "arraycopy" 5 + 11 ≤ yO y := hlk
          split at h
          · rename_i len dp d sp sr
            split at h
            · rename_i hc
              obtain ⟨⟨⟨hk1, hk2⟩, l1, l2, l3⟩, l4, l5⟩ := hc
              obtain ⟨ks, rfl, h1, h2, h3, h4, h5⟩ := cellOf hall hk1 (by omega) (by omega)
              obtain ⟨kd, rfl, z1, z2, z3, z4, z5⟩ := cellOf hall hk2 (by omega) (by omega)
              have hws := sW_get (tg := tg) (cy := cy) (ads := ads) (sa := sa) (M := M) h1 h2
              have hwd := sW_get (tg := tg) (cy := cy) (ads := ads) (sa := sa) (M := M) z1 z2
              rw [sE_1 h3] at hws
              rw [sE_1 z3] at hwd
              unfold aL at l4 l5
              rw [h4] at l4
              rw [z4] at l5
              have x1 : xI len := (fac hst).1
              have x2 : xI dp := (fac (fac hst).2).1
              have x3 : xI sp := (fac (fac (fac (fac hst).2).2).2).1
              refine va_copyi (rest := []) hx hb (hml.trans hL.2.1.symm) hown (hts _ k1) (hts _ k2) (hts _ k3) (hts _ k4) hI.2.2.1 hI.1 hI.2.1 hS (ks - 1) (kd - 1) 0 0 hws hwd rfl rfl rfl (fun q => by have := (o_lt0 x3).mp q; omega) (fun q => by have := (o_lt0 x2).mp q; omega) (fun q => by have := (o_lt0 x1).mp q; omega) (by rw [o_clamp x3, o_clamp x1]; omega) (by rw [o_clamp x2, o_clamp x1]; omega) (fun _ _ => rfl) (by rw [hfr]; exact k5) (by rw [hlo]; show 0 + _ ≤ _; omega) hd (fun H1 locs1 hP1 hD1 hS1 => ?_)
              rw [o_clamp x1, o_clamp x2, o_clamp x3] at hP1 hD1
              have K := go _ _ _ _ H1 locs1 ads lsM h hls (fun _ q => by cases q) hn0 hs0
                (sIn_upd (M' := aCpy M (ks : Int) sp (kd : Int) dp len) hI z1 z2 rfl (fun _ _ => rfl) (fun i hi => aCpy_off (by omega)) (by rw [aCpy_at]; exact mOk_cpy z5 z3 (h5.2.1 (by omega) (by omega))) hbs hS hS1 (by rw [sE_1 z3, aCpy_at]; exact congrArg (fun f => (Sum.inl (cy 1, _, Sum.inl f) : va_E)) (fun_cpy l1 l2 l3)) hP1 hD1) hS1 hx0 hL
              rw [hnx (run_ne h)] at K
              exact K
            · cases h
          · cases h
        · obtain ⟨k1, k2, k3⟩ : Cond.methodLink (yN y).cls idx Lib.Math.min.name ∈ wT ∧ 1 ≤ yF y ∧ 21 ≤ yO y := hlk
          split at h
          · split at h
            · rename_i hbl
              have hy1 := (fac hst).1
              have hx1 := (fac (fac hst).2).1
              have m1 := (aRun_mono _ _ _ _ _ _ _ _ h).1
              have m2 := (aRun_mono _ _ _ _ _ _ _ _ h).2
              have hcat := Nat.le_of_ble_eq_true hbl
              have K := go1 _ _ lsM h hls (fcc (xmin hx1 hy1) (fac (fac hst).2).2) hL
              rw [hnx (run_ne h)] at K
              refine va_mmin hx hb (hml.trans hL.2.1.symm) hown (hts _ k1) (hts _ hMa.1) (hts _ hMa.2.2.1) (hts _ hMa.2.2.2.1) (by rw [hfr]; exact k2) (by rw [hlo, aCat_eq]; omega) (by rw [hcs]; omega) (by rw [hss]; omega) hd ?_
              rw [o_min hx1 hy1]
              exact K
            · cases h
          · cases h
        · obtain ⟨k1, k2, k3⟩ : Cond.methodLink (yN y).cls idx Lib.Math.max.name ∈ wT ∧ 1 ≤ yF y ∧ 21 ≤ yO y := hlk
          split at h
          · split at h
            · rename_i hbl
              have hy1 := (fac hst).1
              have hx1 := (fac (fac hst).2).1
              have m1 := (aRun_mono _ _ _ _ _ _ _ _ h).1
              have m2 := (aRun_mono _ _ _ _ _ _ _ _ h).2
              have hcat := Nat.le_of_ble_eq_true hbl
              have K := go1 _ _ lsM h hls (fcc (xmax hx1 hy1) (fac (fac hst).2).2) hL
              rw [hnx (run_ne h)] at K
              refine va_mmax hx hb (hml.trans hL.2.1.symm) hown (hts _ k1) (hts _ hMa.2.1) (hts _ hMa.2.2.1) (hts _ hMa.2.2.2.2) (by rw [hfr]; exact k2) (by rw [hlo, aCat_eq]; omega) (by rw [hcs]; omega) (by rw [hss]; omega) hd ?_
              rw [o_max hx1 hy1]
              exact K
            · cases h
          · cases h
        · cases h
      | invokespecial idx =>
        dsimp only [aRun] at h
        split at h
        · rename_i z na ml ci
          obtain ⟨⟨hml2, hfz, hoz, hpar, hlk1⟩, hins, hini, hret⟩ : cOk yN yL yF yO wT wN y z ml idx (na - 1) ∧ Cond.instanceMethod (yN z) ∈ wT ∧ (yN z).name = "<init>" ∧ yR z = none := hlk
          split at h
          · rename_i r as' hbl has
            split at h
            · rename_i hk
              split at h
              · rename_i v S' M' hcal
                obtain ⟨⟨hb1, hb2⟩, hb3⟩ := ble3 hbl
                subst hml2
                have hmc := aRun_mono _ _ _ _ _ _ _ _ hcal
                have hmh := aRun_mono _ _ _ _ _ _ _ _ h
                have hz := htab z (run_ne hcal)
                have hasok : ∀ w ∈ (st.take na).reverse, sOk S.length w := fun w hw => hst w (List.mem_of_mem_take (List.mem_reverse.mp hw))
                have hM := aMet ih hz hcal hasok hb3 l ads
                have hGd : GoodIn wT (Cond.code (yN z) (yB z) (yL z) (yR z) :: wT) := fun w hw => by
                  rcases List.mem_cons.mp hw with rfl | q
                  · exact ⟨hz.1.2.2.1, good_of_word (hG _ hz.1.2.2.1)⟩
                  · exact ⟨q, good_of_word (hG _ q)⟩
                have hrm : yF z + 1 ≤ R.frames ∧ 8 + (yL z + 11) + yO z ≤ R.locals := ⟨by rw [hfr]; exact hfz, by rw [hlo]; exact hoz⟩
                have hfit : S.length - n0 + (S'.length - S.length) ≤ R.cells ∧ sS S - s0 + (sS S' - sS S) ≤ R.slots := by
                  have m1 : S.length ≤ S'.length := hmc.1
                  have m2 : sS S ≤ sS S' := hmc.2
                  have m3 : S'.length ≤ o.2.1.length := hmh.1
                  have m4 : sS S' ≤ sS o.2.1 := hmh.2
                  rw [hcs, hss]
                  omega
                have hroom := lv_room (pc := pc) (ls := lsM) (m := m) (rest := st.map (sV ads sa)) (st := (st.drop na).map (sV ads sa)) (by rw [aCat_eq]; exact hb2)
                obtain ⟨kk, rfl, h1, h2, h3, h4, h5⟩ := cellOf hall hk (by omega) (by omega)
                have hlen : (as'.map (sV ads sa)).length = na - 1 := by
                  have e := congrArg List.length has
                  rw [List.length_reverse, List.length_take] at e
                  have e2 : (aR (kk : Int) :: as').length = as'.length + 1 := rfl
                  rw [List.length_map]
                  have e3 : min na st.length = as'.length + 1 := e
                  omega
                have hmap : (st.take na).reverse.map (sV ads sa) = .ref (ads.getD kk 0) :: as'.map (sV ads sa) := by rw [has]; rfl
                have hstk : st.map (sV ads sa) = (as'.map (sV ads sa)).reverse ++ .ref (ads.getD kk 0) :: (st.drop na).map (sV ads sa) := by
                  rw [stk_map na, hmap, List.reverse_cons, List.append_assoc]
                  rfl
                have hr : va_Run p l e R s m args below meth c H locs (S.length - n0) (sS S - s0) (S'.length - S.length) (sS S' - sS S) (F0 m pc lsM (st.map (sV ads sa))) ((st.drop na).map (sV ads sa)) (sQ tg cy sa bs D cl ads (v, S', M') (.ref (ads.getD kk 0) :: as'.map (sV ads sa)).toArray) (sA bs) := by
                  rcases hlk1 with hlk1 | ⟨host, hlk1⟩
                  · exact va_runI (As := as'.map (sV ads sa)) (b := ads.getD kk 0) (rest := (st.drop na).map (sV ads sa)) ⟨hx, hb, hml, hown, hts⟩ hM (cwI (bytes := yB z) (maxL := yL z) (na - 1) hts hGd (by rw [hret]) rfl rfl (hts _ hz.1.2.2.2.1) (hts _ hlk1) (hts _ hins) hini ⟨hz.1.2.1.1, hz.1.2.1.2, hpar⟩ hrm) ⟨sPc_blind hN, fun U hU hW => ⟨by rw [hmap], by rw [hU]; exact sIn_moved hW.alike hI, hN.2 s U H locs hS hU hW hnw⟩⟩ rfl hlen hL.2.1 hstk hroom hd hfit
                  · exact va_runIN (As := as'.map (sV ads sa)) (b := ads.getD kk 0) (rest := (st.drop na).map (sV ads sa)) ⟨hx, hb, hml, hown, hts⟩ hM ⟨va_cnB (bytes := yB z) (maxL := yL z) (na - 1) hts hGd (by rw [hret]) rfl rfl (hXN s hnw _ hlk1) (hts _ hz.1.2.2.2.1) ⟨hz.1.2.1.1, hz.1.2.1.2, hpar⟩ hrm, hini, hts _ hins⟩ ⟨sPc_blind hN, fun U hU hW => ⟨by rw [hmap], by rw [hU]; exact sIn_moved hW.alike hI, hN.2 s U H locs hS hU hW hnw⟩⟩ rfl hlen hL.2.1 hstk hroom hd hfit
                refine st_call (S := S) (M := M) (o := (v, S', M')) hbs hS hr (fun ads' H1 locs1 hx1 hI1 hS1 hok1 hlen1 => ?_)
                have K := go ls (v ++ st.drop na) S' M' H1 locs1 ads' lsM h (fun w hw => sOk_grow hmc.1 (hls w hw)) (fun w hw => by
                    rcases List.mem_append.mp hw with q | q
                    · exact hok1 w q
                    · exact sOk_grow hmc.1 (hst w (List.mem_of_mem_drop q))) (Nat.le_trans hn0 hmc.1) (Nat.le_trans hs0 hmc.2) hI1 hS1 (by
                    obtain ⟨l1, e1⟩ := hx0
                    obtain ⟨l2, e2⟩ := hx1
                    exact ⟨l1 ++ l2, by rw [e2, e1, List.append_assoc]⟩) (by
                    obtain ⟨l2, e2⟩ := hx1
                    rw [e2]
                    exact sL_grow hL (by rw [hI.2.2.2.1]; exact hls))
                have est : (v ++ st.drop na).map (sV ads' sa) = (sRt ads' sa v).toList ++ (st.drop na).map (sV ads sa) := by
                  obtain ⟨l2, e2⟩ := hx1
                  rw [e2]
                  exact ret_map hlen1 (by rw [hI.2.2.2.1]; exact fun w hw => hst w (List.mem_of_mem_drop hw))
                have m1 : S.length ≤ S'.length := hmc.1
                have m2 : sS S ≤ sS S' := hmc.2
                rw [hnx (run_ne h), est] at K
                rw [show S.length - n0 + (S'.length - S.length) = S'.length - n0 by omega, show sS S - s0 + (sS S' - sS S) = sS S' - s0 by omega]
                exact K
              · cases h
            · cases h
          · cases h
        · obtain ⟨k1, k2, k3, k4, k5⟩ : Cond.methodLink (yN y).cls idx objectInit ∈ wT ∧ Cond.instanceMethod objectInit ∈ wT ∧ Cond.code objectInit ⟨#[0xb1]⟩ 1 none ∈ wT ∧ 1 ≤ yF y ∧ 12 ≤ yO y := hlk
          split at h
          · rename_i r
            split at h
            · rename_i hk
              have q0 : aK S r ≠ 0 := by omega
              have q9 : aK S r ≠ 9 := by omega
              obtain ⟨kk, rfl, h1, h2, h3, h4, h5⟩ := cellOf hall rfl q0 q9
              have K := go1 _ _ lsM h hls (fun _ q => by cases q) hL
              rw [hnx (run_ne h)] at K
              exact W.objInit (rest := []) hx hb hown (hts _ k1) (hts _ k2) (hts _ k3) rfl (hL.2.1.trans hml.symm) rfl hd (by rw [hfr]; exact k4) (by rw [hlo]; exact k5) K
            · cases h
          · cases h
        · cases h
      | invokevirtual idx =>
        dsimp only [aRun] at h
        split at h
        · rename_i z na ml ci
          obtain ⟨⟨hml2, hfz, hoz, hpar, hlk1⟩, hins, hsel, TC, NC, hcz⟩ : cOk yN yL yF yO wT wN y z ml idx (na - 1) ∧ Cond.instanceMethod (yN z) ∈ wT ∧ Cond.selects (yN z).cls (yN z) (yN z) ∈ wT ∧ ∃ T N, cl[ci]? = some ((yN z).cls, T, N) := hlk
          split at h
          · rename_i r as' hbl has
            split at h
            · rename_i hk
              split at h
              · rename_i v S' M' hcal
                obtain ⟨⟨hb1, hb2⟩, hb3⟩ := ble3 hbl
                subst hml2
                have hmc := aRun_mono _ _ _ _ _ _ _ _ hcal
                have hmh := aRun_mono _ _ _ _ _ _ _ _ h
                have hz := htab z (run_ne hcal)
                have hasok : ∀ w ∈ (st.take na).reverse, sOk S.length w := fun w hw => hst w (List.mem_of_mem_take (List.mem_reverse.mp hw))
                have hM := aMet ih hz hcal hasok hb3 l ads
                have hGd : GoodIn wT (Cond.code (yN z) (yB z) (yL z) (yR z) :: wT) := fun w hw => by
                  rcases List.mem_cons.mp hw with rfl | q
                  · exact ⟨hz.1.2.2.1, good_of_word (hG _ hz.1.2.2.1)⟩
                  · exact ⟨q, good_of_word (hG _ q)⟩
                have hrm : yF z + 1 ≤ R.frames ∧ 8 + (yL z + 11) + yO z ≤ R.locals := ⟨by rw [hfr]; exact hfz, by rw [hlo]; exact hoz⟩
                have hfit : S.length - n0 + (S'.length - S.length) ≤ R.cells ∧ sS S - s0 + (sS S' - sS S) ≤ R.slots := by
                  have m1 : S.length ≤ S'.length := hmc.1
                  have m2 : sS S ≤ sS S' := hmc.2
                  have m3 : S'.length ≤ o.2.1.length := hmh.1
                  have m4 : sS S' ≤ sS o.2.1 := hmh.2
                  rw [hcs, hss]
                  omega
                have hroom := lv_room (pc := pc) (ls := lsM) (m := m) (rest := st.map (sV ads sa)) (st := (st.drop na).map (sV ads sa)) (by rw [aCat_eq]; exact hb2)
                obtain ⟨kk, rfl, h1, h2, h3, h4, h5⟩ := cellOf hall hk (by omega) (by omega)
                have hlen : (as'.map (sV ads sa)).length = na - 1 := by
                  have e := congrArg List.length has
                  rw [List.length_reverse, List.length_take] at e
                  have e2 : (aR (kk : Int) :: as').length = as'.length + 1 := rfl
                  rw [List.length_map]
                  have e3 : min na st.length = as'.length + 1 := e
                  omega
                have hmap : (st.take na).reverse.map (sV ads sa) = .ref (ads.getD kk 0) :: as'.map (sV ads sa) := by rw [has]; rfl
                have hstk : st.map (sV ads sa) = (as'.map (sV ads sa)).reverse ++ .ref (ads.getD kk 0) :: (st.drop na).map (sV ads sa) := by
                  rw [stk_map na, hmap, List.reverse_cons, List.append_assoc]
                  rfl
                have hw := sW_get (tg := tg) (cy := cy) (ads := ads) (sa := sa) (M := M) h1 h2
                rw [sE_o h3] at hw
                have hrec := va_recv hI.2.2.1 hI.1 hcz hw
                have hr : va_Run p l e R s m args below meth c H locs (S.length - n0) (sS S - s0) (S'.length - S.length) (sS S' - sS S) (F0 m pc lsM (st.map (sV ads sa))) ((st.drop na).map (sV ads sa)) (sQ tg cy sa bs D cl ads (v, S', M') (.ref (ads.getD kk 0) :: as'.map (sV ads sa)).toArray) (sA bs) := by
                  rcases hlk1 with hlk1 | ⟨host, hlk1⟩
                  · exact va_runV (C := (yN z).cls) (As := as'.map (sV ads sa)) (b := ads.getD kk 0) (rest := (st.drop na).map (sV ads sa)) ⟨hx, hb, hml, hown, hts⟩ hM ⟨callB_of (na - 1) hts hGd rfl rfl rfl (hts _ hz.1.2.2.2.1) (hts _ hlk1) ⟨hz.1.2.1.1, hz.1.2.1.2, hpar⟩ hrm, hts _ hins, hts _ hsel⟩ ⟨sPc_blind hN, hrec, fun U hU hW => ⟨by rw [hmap], by rw [hU]; exact sIn_moved hW.alike hI, hN.2 s U H locs hS hU hW hnw⟩⟩ rfl hlen hL.2.1 hstk hroom hd hfit
                  · exact va_runVN (C := (yN z).cls) (As := as'.map (sV ads sa)) (b := ads.getD kk 0) (rest := (st.drop na).map (sV ads sa)) ⟨hx, hb, hml, hown, hts⟩ hM ⟨va_cnB (na - 1) hts hGd rfl rfl rfl (hXN s hnw _ hlk1) (hts _ hz.1.2.2.2.1) ⟨hz.1.2.1.1, hz.1.2.1.2, hpar⟩ hrm, hts _ hins, hts _ hsel⟩ ⟨sPc_blind hN, hrec, fun U hU hW => ⟨by rw [hmap], by rw [hU]; exact sIn_moved hW.alike hI, hN.2 s U H locs hS hU hW hnw⟩⟩ rfl hlen hL.2.1 hstk hroom hd hfit
                refine st_call (S := S) (M := M) (o := (v, S', M')) hbs hS hr (fun ads' H1 locs1 hx1 hI1 hS1 hok1 hlen1 => ?_)
                have K := go ls (v ++ st.drop na) S' M' H1 locs1 ads' lsM h (fun w hw => sOk_grow hmc.1 (hls w hw)) (fun w hw => by
                    rcases List.mem_append.mp hw with q | q
                    · exact hok1 w q
                    · exact sOk_grow hmc.1 (hst w (List.mem_of_mem_drop q))) (Nat.le_trans hn0 hmc.1) (Nat.le_trans hs0 hmc.2) hI1 hS1 (by
                    obtain ⟨l1, e1⟩ := hx0
                    obtain ⟨l2, e2⟩ := hx1
                    exact ⟨l1 ++ l2, by rw [e2, e1, List.append_assoc]⟩) (by
                    obtain ⟨l2, e2⟩ := hx1
                    rw [e2]
                    exact sL_grow hL (by rw [hI.2.2.2.1]; exact hls))
                have est : (v ++ st.drop na).map (sV ads' sa) = (sRt ads' sa v).toList ++ (st.drop na).map (sV ads sa) := by
                  obtain ⟨l2, e2⟩ := hx1
                  rw [e2]
                  exact ret_map hlen1 (by rw [hI.2.2.2.1]; exact fun w hw => hst w (List.mem_of_mem_drop hw))
                have m1 : S.length ≤ S'.length := hmc.1
                have m2 : sS S ≤ sS S' := hmc.2
                rw [hnx (run_ne h), est] at K
                rw [show S.length - n0 + (S'.length - S.length) = S'.length - n0 by omega, show sS S - s0 + (sS S' - sS S) = sS S' - s0 by omega]
                exact K
              · cases h
            · cases h
          · cases h
        · obtain ⟨e1, e2, e3, e4⟩ : (yN y).cls = "TypeLock$Tokens" ∧ Cond.methodLink (yN y).cls idx ⟨"java/lang/String", "length", "()I"⟩ ∈ wT ∧ 4 ≤ yF y ∧ 150 ≤ yO y := hlk
          split at h
          · split at h
            · rename_i hbl
              split at h
              · rename_i hr
                subst hr
                have m1 := (aRun_mono _ _ _ _ _ _ _ _ h).1
                have m2 := (aRun_mono _ _ _ _ _ _ _ _ h).2
                refine ((hStr p l e R s m args below meth c H locs _ _ _ (yB y) pc idx lsM _ hx hb (hml.trans hL.2.1.symm) (e1 ▸ hown) hts hnw hS).2 (by rw [hfr]; exact e3) (by rw [hlo]; exact e4) (by rw [hcs]; omega) (by rw [hss]; omega) (by rw [aCat_eq]; exact Nat.le_of_ble_eq_true hbl)).1 (e1 ▸ e2) hd (fun locs1 hS1 => ?_)
                have K := go _ _ _ _ H locs1 ads lsM h hls (fcc aTxt_len (fac hst).2) hn0 hs0 hI hS1 hx0 hL
                rw [hnx (run_ne h)] at K
                exact K
              · cases h
            · cases h
          · cases h
        · obtain ⟨e1, e2, e3, e4⟩ : (yN y).cls = "TypeLock$Tokens" ∧ Cond.methodLink (yN y).cls idx ⟨"java/lang/String", "charAt", "(I)C"⟩ ∈ wT ∧ 4 ≤ yF y ∧ 150 ≤ yO y := hlk
          split at h
          · split at h
            · rename_i hbl
              split at h
              · rename_i hr
                obtain ⟨hr, hj0, hj1⟩ := hr
                subst hr
                have m1 := (aRun_mono _ _ _ _ _ _ _ _ h).1
                have m2 := (aRun_mono _ _ _ _ _ _ _ _ h).2
                refine ((hStr p l e R s m args below meth c H locs _ _ _ (yB y) pc idx lsM _ hx hb (hml.trans hL.2.1.symm) (e1 ▸ hown) hts hnw hS).2 (by rw [hfr]; exact e3) (by rw [hlo]; exact e4) (by rw [hcs]; omega) (by rw [hss]; omega) (by rw [aCat_eq]; exact Nat.le_of_ble_eq_true hbl)).2 _ hj0 hj1 (e1 ▸ e2) hd (fun locs1 hS1 => ?_)
                have K := go _ _ _ _ H locs1 ads lsM h hls (fcc (aTxt_xI _) (fac (fac hst).2).2) hn0 hs0 hI hS1 hx0 hL
                rw [hnx (run_ne h)] at K
                exact K
              · cases h
            · cases h
          · cases h
        · cases h
      | multianewarray idx d =>
        dsimp only [aRun] at h
        split at h
        · rename_i a b yy x st'
          obtain ⟨rfl, hlk2⟩ : d = 2 ∧ ((a = 6 ∧ b = 1 ∧ Cond.classLink (yN y).cls idx ("[" ++ (FieldType.array .int).toString) ∈ wT) ∨ (a = 7 ∧ b = 2 ∧ Cond.classLink (yN y).cls idx ("[" ++ (FieldType.array .long).toString) ∈ wT)) := hlk
          split at h
          · rename_i hz
            have hy1 : xI yy := (fac hst).1
            have hx1 : xI x := (fac (fac hst).2).1
            have hal := hI.2.2.2.1
            obtain ⟨a1, a2⟩ := aRun_mono _ _ _ _ _ _ _ _ h
            rw [List.length_append, List.length_append, List.length_replicate] at a1
            rw [sS_app, sS_app, sS_rep] at a2
            have a1 : S.length + 1 + x.toNat ≤ o.2.1.length := a1
            have a2 : sS S + (x.toNat + 0) + x.toNat * yy.toNat ≤ sS o.2.1 := a2
            have hmul : x.toNat * yy.toNat ≤ 4000 * 4000 := Nat.mul_le_mul (by omega) (by omega)
            rcases hlk2 with ⟨rfl, rfl, hlw⟩ | ⟨rfl, rfl, hlw⟩
            · have hcy : s.vm.findClass (FieldType.array .int).toString = some (cy 1) := (hI.2.2.1.2 0 _ rfl).2
              refine va_mna (X := sW tg cy ads sa S M) (L := []) (f := fun _ => .inr (0, [])) (ty := .int) (cy := cy 1) (z := (yy.toNat, .inl (fun _ => 0))) hx hb hown (hts _ hlw) (hXO s args hnw).2.1 (hts _ hAr.1) hcy hI.2.2.1 (by rw [pl_nil]; exact hI.1) (by rw [pl_nil]; exact hI.2.1) hS (fun q hq => Nat.le_trans hbs hq) (fun q => by have := (o_lt0 hx1).mp q; omega) (fun q => by have := (o_lt0 hy1).mp q; omega) (o_clamp hx1) (o_clamp hy1) (by omega) (by simp only [componentBytes]; omega) (by omega) rfl rfl (by rw [hcs]; omega) (by rw [hss]; omega) (fun c9 => by show ({ cls := c9, slots := Array.replicate yy.toNat (defaultValue .int), vm := .none } : Cell) = _; rw [arrV_new]; rfl) hd (fun q r cA H1 hinj hnot hK1 hP1 hD1 hS1 => ?_)
              have hcA := hK1.2 7 (cA, .array .int) rfl
              have ecA := sK_cy (k := 5) hI.2.2.1 rfl hcA
              subst ecA
              have hI1 := sIn_pushes (qs := q :: (List.range x.toNat).map r) (cs := (6, x.toNat, (List.range x.toNat).map (fun (i : Nat) => (S.length : Int) + 1 + (i : Int))) :: List.replicate x.toNat (1, yy.toNat, [])) (M' := aNews M S.length x) (w2 := (q, .inl (cy 6, x.toNat, .inr (.inr (.inr (.inr (fun i => if i < x.toNat then some (r i) else none)))))) :: va_pl ([] ++ (List.range x.toNat).map r) (vr_up (fun _ => .inr (0, [])) ((List.range x.toNat).map r) (.inl (cy 1, (yy.toNat, .inl (fun _ => 0))))))
                hI (by simp) (fun k hk => aNews_off (by omega)) (by simp [va_pl]) (fun i hi => by
                  cases i with
                  | zero =>
                    rw [List.getElem?_cons_zero, List.getD_cons_zero, List.getD_cons_zero, Nat.add_zero, sE_q (by first | exact Or.inr (Or.inl rfl) | exact Or.inr (Or.inr rfl))]
                    refine congrArg (fun f => some ((q, Sum.inl (cy 6, x.toNat, Sum.inr (Sum.inr (Sum.inr (Sum.inr f)))))  : Nat × va_E)) (funext fun i => ?_)
                    exact (refs_multi hal).symm
                  | succ i =>
                    have hi2 : i < x.toNat := by simp at hi; omega
                    have e1 : (aNews M S.length x ((S.length + (i + 1) : Nat) : Int)) = fun _ => 0 := aNews_in (by omega) (by omega)
                    rw [List.getElem?_cons_succ, List.getD_cons_succ, List.getD_cons_succ, e1]
                    have e2 : (List.replicate x.toNat ((1, yy.toNat, []) : Nat × Nat × List Int)).getD i (0, 0, []) = (1, yy.toNat, []) := by
                      rw [List.getD_eq_getElem?_getD, List.getElem?_replicate, if_pos hi2]; rfl
                    rw [e2, sE_1 rfl]
                    unfold va_pl
                    rw [List.nil_append, List.getElem?_map, List.getElem?_map, List.getElem?_range hi2, List.getD_eq_getElem?_getD, List.getElem?_map, List.getElem?_range hi2]
                    show some (r i, vr_up _ _ _ (r i)) = some (r i, _)
                    rw [vr_up_in (List.mem_map.mpr ⟨i, List.mem_range.mpr hi2, rfl⟩)]
                    rfl) (fun i hi => by
                  cases i with
                  | zero =>
                    rw [List.getD_cons_zero, aNews_in (by omega) (by omega)]
                    refine mOk_arrm (by omega) (by omega) (by omega) (fun z hz => ?_) (by simp)
                    obtain ⟨j, hj, rfl⟩ := List.mem_map.mp hz
                    have hj2 := List.mem_range.mp hj
                    rw [List.length_cons, List.length_replicate]
                    exact ⟨by omega, by omega⟩
                  | succ i =>
                    have hi2 : i < x.toNat := by simp at hi; omega
                    have e2 : (List.replicate x.toNat ((1, yy.toNat, []) : Nat × Nat × List Int)).getD i (0, 0, []) = (1, yy.toNat, []) := by
                      rw [List.getD_eq_getElem?_getD, List.getElem?_replicate, if_pos hi2]; rfl
                    rw [List.getD_cons_succ, e2, aNews_in (by omega) (by omega)]
                    exact mOk_arr (by omega) (by omega) (by omega)) hbs hS hS1 (by have h9 := hP1; rw [List.append_assoc] at h9; exact h9) (by have h9 := hD1; rw [List.append_assoc] at h9; exact h9)
              rw [List.append_assoc] at h
              have hlen9 : (S ++ ([((6, x.toNat, (List.range x.toNat).map (fun (i : Nat) => (S.length : Int) + 1 + (i : Int))) : Nat × Nat × List Int)] ++ List.replicate x.toNat (1, yy.toNat, []))).length = S.length + 1 + x.toNat := by simp; omega
              have hss9 : sS (S ++ ([((6, x.toNat, (List.range x.toNat).map (fun (i : Nat) => (S.length : Int) + 1 + (i : Int))) : Nat × Nat × List Int)] ++ List.replicate x.toNat (1, yy.toNat, []))) = sS S + x.toNat + x.toNat * yy.toNat := by
                rw [sS_app, sS_app, sS_rep]
                show sS S + ((x.toNat + 0) + _) = _
                omega
              have K := go _ _ _ _ H1 locs (ads ++ (q :: (List.range x.toNat).map r)) lsM h (fun v hv => sOk_grow (by rw [hlen9]; omega) (hls v hv)) (fcc (⟨by omega, by rw [hlen9]; omega⟩) (fun v hv => sOk_grow (by rw [hlen9]; omega) ((fac (fac hst).2).2 v hv))) (by rw [hlen9]; omega) (by rw [hss9]; omega) hI1 hS1 (by obtain ⟨l2, e2⟩ := hx0; exact ⟨l2 ++ _, by rw [e2, List.append_assoc]⟩) (sL_grow hL (by rw [hal]; exact hls))
              rw [hnx (run_ne h), List.map_cons, map_grow (by rw [hal]; exact (fac (fac hst).2).2), sV_cons hal, hlen9, hss9] at K
              rw [show S.length - n0 + 1 + x.toNat = S.length + 1 + x.toNat - n0 by omega, show sS S - s0 + x.toNat + x.toNat * yy.toNat = sS S + x.toNat + x.toNat * yy.toNat - s0 by omega]
              exact K
            · have hcy : s.vm.findClass (FieldType.array .long).toString = some (cy 2) := (hI.2.2.1.2 1 _ rfl).2
              refine va_mna (X := sW tg cy ads sa S M) (L := []) (f := fun _ => .inr (0, [])) (ty := .long) (cy := cy 2) (z := (yy.toNat, .inr (.inl (fun _ => 0)))) hx hb hown (hts _ hlw) (hXO s args hnw).2.2 (hts _ hAr.2.1) hcy hI.2.2.1 (by rw [pl_nil]; exact hI.1) (by rw [pl_nil]; exact hI.2.1) hS (fun q hq => Nat.le_trans hbs hq) (fun q => by have := (o_lt0 hx1).mp q; omega) (fun q => by have := (o_lt0 hy1).mp q; omega) (o_clamp hx1) (o_clamp hy1) (by omega) (by simp only [componentBytes]; omega) (by omega) rfl rfl (by rw [hcs]; omega) (by rw [hss]; omega) (fun c9 => by show ({ cls := c9, slots := Array.replicate yy.toNat (defaultValue .long), vm := .none } : Cell) = _; rw [arrV_new]; rfl) hd (fun q r cA H1 hinj hnot hK1 hP1 hD1 hS1 => ?_)
              have hcA := hK1.2 7 (cA, .array .long) rfl
              have ecA := sK_cy (k := 6) hI.2.2.1 rfl hcA
              subst ecA
              have hI1 := sIn_pushes (qs := q :: (List.range x.toNat).map r) (cs := (7, x.toNat, (List.range x.toNat).map (fun (i : Nat) => (S.length : Int) + 1 + (i : Int))) :: List.replicate x.toNat (2, yy.toNat, [])) (M' := aNews M S.length x) (w2 := (q, .inl (cy 7, x.toNat, .inr (.inr (.inr (.inr (fun i => if i < x.toNat then some (r i) else none)))))) :: va_pl ([] ++ (List.range x.toNat).map r) (vr_up (fun _ => .inr (0, [])) ((List.range x.toNat).map r) (.inl (cy 2, (yy.toNat, .inr (.inl (fun _ => 0)))))))
                hI (by simp) (fun k hk => aNews_off (by omega)) (by simp [va_pl]) (fun i hi => by
                  cases i with
                  | zero =>
                    rw [List.getElem?_cons_zero, List.getD_cons_zero, List.getD_cons_zero, Nat.add_zero, sE_q (by first | exact Or.inr (Or.inl rfl) | exact Or.inr (Or.inr rfl))]
                    refine congrArg (fun f => some ((q, Sum.inl (cy 7, x.toNat, Sum.inr (Sum.inr (Sum.inr (Sum.inr f)))))  : Nat × va_E)) (funext fun i => ?_)
                    exact (refs_multi hal).symm
                  | succ i =>
                    have hi2 : i < x.toNat := by simp at hi; omega
                    have e1 : (aNews M S.length x ((S.length + (i + 1) : Nat) : Int)) = fun _ => 0 := aNews_in (by omega) (by omega)
                    rw [List.getElem?_cons_succ, List.getD_cons_succ, List.getD_cons_succ, e1]
                    have e2 : (List.replicate x.toNat ((2, yy.toNat, []) : Nat × Nat × List Int)).getD i (0, 0, []) = (2, yy.toNat, []) := by
                      rw [List.getD_eq_getElem?_getD, List.getElem?_replicate, if_pos hi2]; rfl
                    rw [e2, sE_2 rfl]
                    unfold va_pl
                    rw [List.nil_append, List.getElem?_map, List.getElem?_map, List.getElem?_range hi2, List.getD_eq_getElem?_getD, List.getElem?_map, List.getElem?_range hi2]
                    show some (r i, vr_up _ _ _ (r i)) = some (r i, _)
                    rw [vr_up_in (List.mem_map.mpr ⟨i, List.mem_range.mpr hi2, rfl⟩)]
                    rfl) (fun i hi => by
                  cases i with
                  | zero =>
                    rw [List.getD_cons_zero, aNews_in (by omega) (by omega)]
                    refine mOk_arrm (by omega) (by omega) (by omega) (fun z hz => ?_) (by simp)
                    obtain ⟨j, hj, rfl⟩ := List.mem_map.mp hz
                    have hj2 := List.mem_range.mp hj
                    rw [List.length_cons, List.length_replicate]
                    exact ⟨by omega, by omega⟩
                  | succ i =>
                    have hi2 : i < x.toNat := by simp at hi; omega
                    have e2 : (List.replicate x.toNat ((2, yy.toNat, []) : Nat × Nat × List Int)).getD i (0, 0, []) = (2, yy.toNat, []) := by
                      rw [List.getD_eq_getElem?_getD, List.getElem?_replicate, if_pos hi2]; rfl
                    rw [List.getD_cons_succ, e2, aNews_in (by omega) (by omega)]
                    exact mOk_arr (by omega) (by omega) (by omega)) hbs hS hS1 (by have h9 := hP1; rw [List.append_assoc] at h9; exact h9) (by have h9 := hD1; rw [List.append_assoc] at h9; exact h9)
              rw [List.append_assoc] at h
              have hlen9 : (S ++ ([((7, x.toNat, (List.range x.toNat).map (fun (i : Nat) => (S.length : Int) + 1 + (i : Int))) : Nat × Nat × List Int)] ++ List.replicate x.toNat (2, yy.toNat, []))).length = S.length + 1 + x.toNat := by simp; omega
              have hss9 : sS (S ++ ([((7, x.toNat, (List.range x.toNat).map (fun (i : Nat) => (S.length : Int) + 1 + (i : Int))) : Nat × Nat × List Int)] ++ List.replicate x.toNat (2, yy.toNat, []))) = sS S + x.toNat + x.toNat * yy.toNat := by
                rw [sS_app, sS_app, sS_rep]
                show sS S + ((x.toNat + 0) + _) = _
                omega
              have K := go _ _ _ _ H1 locs (ads ++ (q :: (List.range x.toNat).map r)) lsM h (fun v hv => sOk_grow (by rw [hlen9]; omega) (hls v hv)) (fcc (⟨by omega, by rw [hlen9]; omega⟩) (fun v hv => sOk_grow (by rw [hlen9]; omega) ((fac (fac hst).2).2 v hv))) (by rw [hlen9]; omega) (by rw [hss9]; omega) hI1 hS1 (by obtain ⟨l2, e2⟩ := hx0; exact ⟨l2 ++ _, by rw [e2, List.append_assoc]⟩) (sL_grow hL (by rw [hal]; exact hls))
              rw [hnx (run_ne h), List.map_cons, map_grow (by rw [hal]; exact (fac (fac hst).2).2), sV_cons hal, hlen9, hss9] at K
              rw [show S.length - n0 + 1 + x.toNat = S.length + 1 + x.toNat - n0 by omega, show sS S - s0 + x.toNat + x.toNat * yy.toNat = sS S + x.toNat + x.toNat * yy.toNat - s0 by omega]
              exact K
          · cases h
        · cases h
      | _ => exact absurd h (by simp [aRun])
end WALK3
