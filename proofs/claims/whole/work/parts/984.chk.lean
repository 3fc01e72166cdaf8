/-! the check of the tables once more: no call goes to the law -/
section CHK2
theorem okG_eLk {G : Nat → Prop} {y : Nat} {i : Instr} {k : List Nat} {q : Int} {p : Nat} (hm : ∀ z, G z → mOkW z) (hz : ∀ z, z ∈ k.head? → (match i with | .invokestatic _ => True | .invokespecial _ => True | .invokevirtual _ => True | _ => False) → G z) (hob : Cond.instanceMethod objectInit ∈ wT ∧ Cond.code objectInit ⟨#[0xb1]⟩ 1 none ∈ wT) (hac : Cond.native arraycopyName ∈ wT ∧ Cond.static arraycopyName ∈ wT ∧ Cond.initialized "java/lang/System" ∈ wT)
    (h : okE y i k q p = true) : eLk tgT gN gL gR gF gO kCl wT wN y i k q := by
  cases i with
  | istore_n j => exact ofd h
  | istore j => exact ofd h
  | astore_n j => exact ofd h
  | astore j => exact ofd h
  | iinc j z => exact ofd h
  | lstore_n j => exact ofd h
  | lstore j => exact ofd h
  | iconst z => exact ofd h
  | bipush z => exact ofd h
  | sipush z => exact ofd h
  | ldc idx =>
    cases k with
    | nil => exact ofd h
    | cons a k =>
      have h' : (decide (-2147483648 ≤ q ∧ q < 2147483648) && wAt (gW y) p (Cond.constant (gN y).cls idx (Int32.ofInt q))) = true := h
      rw [Bool.and_eq_true] at h'
      exact ⟨ofd h'.1, gW_sub y _ (wAt_mem h'.2)⟩
  | ldc_w idx =>
    have h' : (decide (-2147483648 ≤ q ∧ q < 2147483648) && wAt (gW y) p (Cond.constant (gN y).cls idx (Int32.ofInt q))) = true := h
    rw [Bool.and_eq_true] at h'
    exact ⟨ofd h'.1, gW_sub y _ (wAt_mem h'.2)⟩
  | ldc2_w idx =>
    have h' : (decide (-9223372036854775808 ≤ q ∧ q < 9223372036854775808) && wAt (gW y) p (Cond.constantLong (gN y).cls idx (Int64.ofInt q))) = true := h
    rw [Bool.and_eq_true] at h'
    exact ⟨ofd h'.1, gW_sub y _ (wAt_mem h'.2)⟩
  | getfield idx =>
    match k, h with
    | [], _ => trivial
    | [_], _ => trivial
    | _ :: _ :: _ :: _, _ => trivial
    | [ci, j], h =>
      dsimp only [okE] at h
      rw [Bool.and_eq_true] at h
      obtain ⟨h1, h2⟩ := h
      cases e : kCl[ci]? with
      | none => rw [e] at h2; cases h2
      | some q =>
        obtain ⟨C, T, N⟩ := q
        rw [e] at h2
        dsimp only at h2
        rw [Bool.and_eq_true] at h2
        exact ⟨ofd h1, C, T, N, e, ofd h2.1, Or.inl (gW_sub y _ (wAt_mem h2.2))⟩
  | putfield idx =>
    match k, h with
    | [], _ => trivial
    | [_], _ => trivial
    | _ :: _ :: _ :: _, _ => trivial
    | [ci, j], h =>
      dsimp only [okE] at h
      rw [Bool.and_eq_true] at h
      obtain ⟨h1, h2⟩ := h
      cases e : kCl[ci]? with
      | none => rw [e] at h2; cases h2
      | some q =>
        obtain ⟨C, T, N⟩ := q
        rw [e] at h2
        dsimp only at h2
        rw [Bool.and_eq_true, Bool.and_eq_true] at h2
        exact ⟨ofd h1, C, T, N, e, ofd h2.1.1, gW_sub y _ (wAt_mem h2.1.2), ofd h2.2⟩
  | invokestatic idx =>
    match k, h with
    | [], h =>
      have h' : (wAt (gW y) p (Cond.methodLink (gN y).cls idx arraycopyName) && decide (1 ≤ gF y) && decide (nativeFrameWords "java/lang/System" "arraycopy" 5 + 11 ≤ gO y)) = true := h
      rw [Bool.and_eq_true, Bool.and_eq_true] at h'
      exact ⟨gW_sub y _ (wAt_mem h'.1.1), hac.1, hac.2.1, hac.2.2, ofd h'.1.2, ofd h'.2⟩
    | [0], h =>
      have h' : (wAt (gW y) p (Cond.methodLink (gN y).cls idx Lib.Math.min.name) && decide (1 ≤ gF y ∧ 21 ≤ gO y)) = true := h
      rw [Bool.and_eq_true] at h'
      exact ⟨gW_sub y _ (wAt_mem h'.1), ofd h'.2⟩
    | [1], h =>
      have h' : (wAt (gW y) p (Cond.methodLink (gN y).cls idx Lib.Math.max.name) && decide (1 ≤ gF y ∧ 21 ≤ gO y)) = true := h
      rw [Bool.and_eq_true] at h'
      exact ⟨gW_sub y _ (wAt_mem h'.1), ofd h'.2⟩
    | [_ + 2], _ => trivial
    | [_, _], _ => trivial
    | _ :: _ :: _ :: _ :: _, _ => trivial
    | [z, na, ml], h =>
      have h' : (okC y z ml idx na p && gS z) = true := h
      rw [Bool.and_eq_true] at h'
      exact ⟨okC_cOk h'.1, (hm z (hz z (by simp) trivial)).1 h'.2⟩
  | invokespecial idx =>
    match k, h with
    | [], h =>
      have h' : (wAt (gW y) p (Cond.methodLink (gN y).cls idx objectInit) && decide (1 ≤ gF y) && decide (12 ≤ gO y)) = true := h
      rw [Bool.and_eq_true, Bool.and_eq_true] at h'
      exact ⟨gW_sub y _ (wAt_mem h'.1.1), hob.1, hob.2, ofd h'.1.2, ofd h'.2⟩
    | [_], _ => trivial
    | [_, _], _ => trivial
    | [_, _, _], _ => trivial
    | _ :: _ :: _ :: _ :: _ :: _, _ => trivial
    | [z, na, ml, ci], h =>
      have h' : (okC y z ml idx (na - 1) p && !(gS z) && decide ((gN z).name = "<init>") && decide (gR z = none)) = true := h
      simp only [Bool.and_eq_true, Bool.not_eq_true'] at h'
      obtain ⟨⟨⟨a1, a2⟩, a3⟩, a4⟩ := h'
      exact ⟨okC_cOk a1, ((hm z (hz z (by simp) trivial)).2 a2).1, ofd a3, ofd a4⟩
  | invokevirtual idx =>
    match k, h with
    | [], _ => trivial
    | [0], h =>
      have h' : (decide ((gN y).cls = "TypeLock$Tokens") && wAt (gW y) p (Cond.methodLink (gN y).cls idx ⟨"java/lang/String", "length", "()I"⟩) && decide (4 ≤ gF y ∧ 150 ≤ gO y)) = true := h
      rw [Bool.and_eq_true, Bool.and_eq_true] at h'
      exact ⟨ofd h'.1.1, gW_sub y _ (wAt_mem h'.1.2), ofd h'.2⟩
    | [1], h =>
      have h' : (decide ((gN y).cls = "TypeLock$Tokens") && wAt (gW y) p (Cond.methodLink (gN y).cls idx ⟨"java/lang/String", "charAt", "(I)C"⟩) && decide (4 ≤ gF y ∧ 150 ≤ gO y)) = true := h
      rw [Bool.and_eq_true, Bool.and_eq_true] at h'
      exact ⟨ofd h'.1.1, gW_sub y _ (wAt_mem h'.1.2), ofd h'.2⟩
    | [_ + 2], _ => trivial
    | [_, _], _ => trivial
    | [_, _, _], _ => trivial
    | _ :: _ :: _ :: _ :: _ :: _, _ => trivial
    | [z, na, ml, ci], h =>
      dsimp only [okE] at h
      simp only [Bool.and_eq_true, Bool.not_eq_true'] at h
      obtain ⟨⟨⟨a1, a2⟩, a3⟩, a4⟩ := h
      cases e : kCl[ci]? with
      | none => rw [e] at a4; cases a4
      | some q =>
        obtain ⟨C, T, N⟩ := q
        rw [e] at a4
        have e2 : C = (gN z).cls := ofd a4
        subst e2
        have hw := (hm z (hz z (by simp) trivial)).2 a2
        exact ⟨okC_cOk a1, hw.1, hw.2 (ofd a3), T, N, e⟩
  | new idx =>
    match k, h with
    | [], _ => trivial
    | [_], _ => trivial
    | _ :: _ :: _ :: _, _ => trivial
    | [ci, f], h =>
      dsimp only [okE] at h
      cases e : kCl[ci]? with
      | none => rw [e] at h; cases h
      | some q =>
        obtain ⟨C, T, N⟩ := q
        rw [e] at h
        dsimp only at h
        rw [Bool.and_eq_true] at h
        have e2 : N = f := ofd h.1
        subst e2
        exact ⟨C, T, e, gW_sub y _ (wAt_mem h.2)⟩
  | newarray a =>
    match k, h with
    | [], _ => trivial
    | _ :: _ :: _, _ => trivial
    | [b], h => exact ofd h
  | anewarray idx => exact gW_sub y _ (wAt_mem h)
  | multianewarray idx d =>
    match k, h with
    | [], _ => trivial
    | [_], _ => trivial
    | _ :: _ :: _ :: _, _ => trivial
    | [a, b], h =>
      have h' : (decide (d = 2) && ((decide (a = 6 ∧ b = 1) && wAt (gW y) p (Cond.classLink (gN y).cls idx ("[" ++ (FieldType.array .int).toString))) || (decide (a = 7 ∧ b = 2) && wAt (gW y) p (Cond.classLink (gN y).cls idx ("[" ++ (FieldType.array .long).toString))))) = true := h
      rw [Bool.and_eq_true, Bool.or_eq_true, Bool.and_eq_true, Bool.and_eq_true] at h'
      refine ⟨ofd h'.1, ?_⟩
      rcases h'.2 with ⟨a1, a2⟩ | ⟨a1, a2⟩
      · have := ofd a1
        exact Or.inl ⟨this.1, this.2, gW_sub y _ (wAt_mem a2)⟩
      · have := ofd a1
        exact Or.inr ⟨this.1, this.2, gW_sub y _ (wAt_mem a2)⟩
  | aaload =>
    match k, h with
    | [], _ => trivial
    | _ :: _ :: _, _ => trivial
    | [b], h => exact ofd h
  | arraylength =>
    match k, h with
    | [], _ => trivial
    | _ :: _ :: _, _ => trivial
    | [b], h => exact ofd h
  | ireturn =>
    match k, h with
    | [], h => exact ofd h
    | [0], _ => exact True.intro
    | [1], _ => exact True.intro
    | [2], _ => exact True.intro
    | [3], _ => exact True.intro
    | [4], h => exact ofd h
    | [_ + 5], _ => exact True.intro
    | 0 :: _ :: _, _ => exact True.intro
    | 1 :: _ :: _, _ => exact True.intro
    | 2 :: _ :: _, _ => exact True.intro
    | 3 :: _ :: _, _ => exact True.intro
    | 4 :: _ :: _, _ => exact True.intro
    | (_ + 5) :: _ :: _, _ => exact True.intro
  | lreturn => exact ofd h
  | areturn =>
    dsimp only [okE] at h
    show (∃ n, gR y = some (.object n)) ∨ ∃ u, gR y = some (.array u)
    split at h
    · rename_i n e; exact Or.inl ⟨n, e⟩
    · rename_i n e; exact Or.inr ⟨n, e⟩
    · cases h
  | return_ => exact ofd h
  | _ => trivial
theorem okG_tab {G : Nat → Prop} {y : Nat} (hm : ∀ z, G z → mOkW z) (hob : Cond.instanceMethod objectInit ∈ wT ∧ Cond.code objectInit ⟨#[0xb1]⟩ 1 none ∈ wT) (hac : Cond.native arraycopyName ∈ wT ∧ Cond.static arraycopyName ∈ wT ∧ Cond.initialized "java/lang/System" ∈ wT) :
    ∀ (l : List aEnt) (ps : List Nat), okL y l ps = true → (∀ e ∈ l, ∀ z, z ∈ e.2.2.1.head? → (match e.2.1 with | .invokestatic _ => True | .invokespecial _ => True | .invokevirtual _ => True | _ => False) → G z) →
      ∀ (pre : List aEnt) (pc : Nat) (i : Instr) (k : List Nat) (q : Int) (rest : List aEnt), l = pre ++ (pc, i, k, q) :: rest →
        decode (gB y) pc = .ok (i, aLen i (aPc rest - pc)) ∧ (rest ≠ [] → aPc rest = pc + aLen i (aPc rest - pc)) ∧ eLk tgT gN gL gR gF gO kCl wT wN y i k q ∧ jOk pc i := by
  intro l
  induction l with
  | nil => intro ps _ _ pre pc i k q rest h; cases pre <;> cases h
  | cons e l ih =>
    intro ps h hc pre pc i k q rest he
    obtain ⟨pc0, i0, k0, q0⟩ := e
    cases ps with
    | nil => cases h
    | cons p ps =>
      unfold okL at h
      simp only [Bool.and_eq_true] at h
      obtain ⟨⟨⟨⟨h1, h2⟩, h3⟩, h4⟩, h5⟩ := h
      cases pre with
      | nil =>
        rw [List.nil_append] at he
        obtain ⟨he1, rfl⟩ := List.cons.inj he
        cases he1
        refine ⟨ofd h1, fun hr => ?_, okG_eLk hm (hc _ List.mem_cons_self) hob hac h3, okJ_jOk h4⟩
        cases l with
        | nil => exact absurd rfl hr
        | cons a l => exact ofd h2
      | cons a pre =>
        obtain ⟨-, rfl⟩ := List.cons.inj he
        exact ih ps h5 (fun e hq => hc e (List.mem_cons_of_mem _ hq)) pre pc i k q rest rfl
def okZ3 (l : List aEnt) : Bool := l.all fun e => match e.2.1, e.2.2.1 with
  | .invokestatic _, z :: _ => decide (z < 315)
  | .invokespecial _, z :: _ => decide (z < 315)
  | .invokevirtual _, z :: _ => decide (z < 315)
  | _, _ => true
theorem okZ3_ok {l : List aEnt} (h : okZ3 l = true) : ∀ e ∈ l, ∀ z, z ∈ e.2.2.1.head? → (match e.2.1 with | .invokestatic _ => True | .invokespecial _ => True | .invokevirtual _ => True | _ => False) → z < 315 := by
  intro e he z hz hi
  have h1 := List.all_eq_true.mp h e he
  obtain ⟨pc, i, k, q⟩ := e
  cases k with
  | nil => simp at hz
  | cons a k =>
    have : a = z := by simpa using hz
    subst this
    dsimp only at h1 hi
    cases i <;> first | (exact hi.elim) | (exact of_decide_eq_true h1)
set_option maxRecDepth 100000 in
theorem okZ3_all : (List.range 316).all (fun y => okZ3 (gP y)) = true := by decide +kernel
theorem all_ok (z : Nat) (hz : z < 315) : okAll z = true := by
  by_cases c0 : z < 7
  · exact List.all_eq_true.mp ok_0 z (List.mem_range'_1.mpr ⟨by omega, by omega⟩)
  by_cases c7 : z < 14
  · exact List.all_eq_true.mp ok_7 z (List.mem_range'_1.mpr ⟨by omega, by omega⟩)
  by_cases c14 : z < 21
  · exact List.all_eq_true.mp ok_14 z (List.mem_range'_1.mpr ⟨by omega, by omega⟩)
  by_cases c21 : z < 28
  · exact List.all_eq_true.mp ok_21 z (List.mem_range'_1.mpr ⟨by omega, by omega⟩)
  by_cases c28 : z < 35
  · exact List.all_eq_true.mp ok_28 z (List.mem_range'_1.mpr ⟨by omega, by omega⟩)
  by_cases c35 : z < 42
  · exact List.all_eq_true.mp ok_35 z (List.mem_range'_1.mpr ⟨by omega, by omega⟩)
  by_cases c42 : z < 49
  · exact List.all_eq_true.mp ok_42 z (List.mem_range'_1.mpr ⟨by omega, by omega⟩)
  by_cases c49 : z < 56
  · exact List.all_eq_true.mp ok_49 z (List.mem_range'_1.mpr ⟨by omega, by omega⟩)
  by_cases c56 : z < 63
  · exact List.all_eq_true.mp ok_56 z (List.mem_range'_1.mpr ⟨by omega, by omega⟩)
  by_cases c63 : z < 70
  · exact List.all_eq_true.mp ok_63 z (List.mem_range'_1.mpr ⟨by omega, by omega⟩)
  by_cases c70 : z < 77
  · exact List.all_eq_true.mp ok_70 z (List.mem_range'_1.mpr ⟨by omega, by omega⟩)
  by_cases c77 : z < 84
  · exact List.all_eq_true.mp ok_77 z (List.mem_range'_1.mpr ⟨by omega, by omega⟩)
  by_cases c84 : z < 91
  · exact List.all_eq_true.mp ok_84 z (List.mem_range'_1.mpr ⟨by omega, by omega⟩)
  by_cases c91 : z < 98
  · exact List.all_eq_true.mp ok_91 z (List.mem_range'_1.mpr ⟨by omega, by omega⟩)
  by_cases c98 : z < 105
  · exact List.all_eq_true.mp ok_98 z (List.mem_range'_1.mpr ⟨by omega, by omega⟩)
  by_cases c105 : z < 112
  · exact List.all_eq_true.mp ok_105 z (List.mem_range'_1.mpr ⟨by omega, by omega⟩)
  by_cases c112 : z < 119
  · exact List.all_eq_true.mp ok_112 z (List.mem_range'_1.mpr ⟨by omega, by omega⟩)
  by_cases c119 : z < 126
  · exact List.all_eq_true.mp ok_119 z (List.mem_range'_1.mpr ⟨by omega, by omega⟩)
  by_cases c126 : z < 133
  · exact List.all_eq_true.mp ok_126 z (List.mem_range'_1.mpr ⟨by omega, by omega⟩)
  by_cases c133 : z < 140
  · exact List.all_eq_true.mp ok_133 z (List.mem_range'_1.mpr ⟨by omega, by omega⟩)
  by_cases c140 : z < 147
  · exact List.all_eq_true.mp ok_140 z (List.mem_range'_1.mpr ⟨by omega, by omega⟩)
  by_cases c147 : z < 154
  · exact List.all_eq_true.mp ok_147 z (List.mem_range'_1.mpr ⟨by omega, by omega⟩)
  by_cases c154 : z < 161
  · exact List.all_eq_true.mp ok_154 z (List.mem_range'_1.mpr ⟨by omega, by omega⟩)
  by_cases c161 : z < 168
  · exact List.all_eq_true.mp ok_161 z (List.mem_range'_1.mpr ⟨by omega, by omega⟩)
  by_cases c168 : z < 175
  · exact List.all_eq_true.mp ok_168 z (List.mem_range'_1.mpr ⟨by omega, by omega⟩)
  by_cases c175 : z = 175
  · rw [c175]; exact ok_175
  by_cases c176 : z = 176
  · rw [c176]; exact ok_176
  by_cases c177 : z = 177
  · rw [c177]; exact ok_177
  by_cases c178 : z = 178
  · rw [c178]; exact ok_178
  by_cases c179 : z = 179
  · rw [c179]; exact ok_179
  by_cases c180 : z = 180
  · rw [c180]; exact ok_180
  by_cases c181 : z = 181
  · rw [c181]; exact ok_181
  by_cases c182 : z = 182
  · rw [c182]; exact ok_182
  by_cases c183 : z = 183
  · rw [c183]; exact ok_183
  by_cases c184 : z = 184
  · rw [c184]; exact ok_184
  by_cases c185 : z = 185
  · rw [c185]; exact ok_185
  by_cases c186 : z = 186
  · rw [c186]; exact ok_186
  by_cases c187 : z = 187
  · rw [c187]; exact ok_187
  by_cases c188 : z = 188
  · rw [c188]; exact ok_188
  by_cases c189 : z = 189
  · rw [c189]; exact ok_189
  by_cases c190 : z = 190
  · rw [c190]; exact ok_190
  by_cases c191 : z = 191
  · rw [c191]; exact ok_191
  by_cases c192 : z = 192
  · rw [c192]; exact ok_192
  by_cases c193 : z = 193
  · rw [c193]; exact ok_193
  by_cases c194 : z = 194
  · rw [c194]; exact ok_194
  by_cases c195 : z = 195
  · rw [c195]; exact ok_195
  by_cases c196 : z = 196
  · rw [c196]; exact ok_196
  by_cases c197 : z = 197
  · rw [c197]; exact ok_197
  by_cases c198 : z = 198
  · rw [c198]; exact ok_198
  by_cases c199 : z = 199
  · rw [c199]; exact ok_199
  by_cases c200 : z = 200
  · rw [c200]; exact ok_200
  by_cases c201 : z = 201
  · rw [c201]; exact ok_201
  by_cases c202 : z = 202
  · rw [c202]; exact ok_202
  by_cases c203 : z = 203
  · rw [c203]; exact ok_203
  by_cases c204 : z = 204
  · rw [c204]; exact ok_204
  by_cases c205 : z = 205
  · rw [c205]; exact ok_205
  by_cases c206 : z = 206
  · rw [c206]; exact ok_206
  by_cases c207 : z = 207
  · rw [c207]; exact ok_207
  by_cases c208 : z = 208
  · rw [c208]; exact ok_208
  by_cases c209 : z = 209
  · rw [c209]; exact ok_209
  by_cases c210 : z = 210
  · rw [c210]; exact ok_210
  by_cases c211 : z = 211
  · rw [c211]; exact ok_211
  by_cases c212 : z = 212
  · rw [c212]; exact ok_212
  by_cases c213 : z = 213
  · rw [c213]; exact ok_213
  by_cases c214 : z = 214
  · rw [c214]; exact ok_214
  by_cases c215 : z = 215
  · rw [c215]; exact ok_215
  by_cases c216 : z = 216
  · rw [c216]; exact ok_216
  by_cases c217 : z = 217
  · rw [c217]; exact ok_217
  by_cases c218 : z = 218
  · rw [c218]; exact ok_218
  by_cases c219 : z = 219
  · rw [c219]; exact ok_219
  by_cases c220 : z = 220
  · rw [c220]; exact ok_220
  by_cases c221 : z = 221
  · rw [c221]; exact ok_221
  by_cases c222 : z = 222
  · rw [c222]; exact ok_222
  by_cases c223 : z = 223
  · rw [c223]; exact ok_223
  by_cases c224 : z = 224
  · rw [c224]; exact ok_224
  by_cases c225 : z = 225
  · rw [c225]; exact ok_225
  by_cases c226 : z = 226
  · rw [c226]; exact ok_226
  by_cases c227 : z = 227
  · rw [c227]; exact ok_227
  by_cases c228 : z = 228
  · rw [c228]; exact ok_228
  by_cases c229 : z = 229
  · rw [c229]; exact ok_229
  by_cases c230 : z = 230
  · rw [c230]; exact ok_230
  by_cases c231 : z = 231
  · rw [c231]; exact ok_231
  by_cases c232 : z = 232
  · rw [c232]; exact ok_232
  by_cases c233 : z = 233
  · rw [c233]; exact ok_233
  by_cases c234 : z = 234
  · rw [c234]; exact ok_234
  by_cases c235 : z = 235
  · rw [c235]; exact ok_235
  by_cases c236 : z = 236
  · rw [c236]; exact ok_236
  by_cases c237 : z = 237
  · rw [c237]; exact ok_237
  by_cases c238 : z = 238
  · rw [c238]; exact ok_238
  by_cases c239 : z = 239
  · rw [c239]; exact ok_239
  by_cases c240 : z = 240
  · rw [c240]; exact ok_240
  by_cases c241 : z = 241
  · rw [c241]; exact ok_241
  by_cases c242 : z = 242
  · rw [c242]; exact ok_242
  by_cases c243 : z = 243
  · rw [c243]; exact ok_243
  by_cases c244 : z = 244
  · rw [c244]; exact ok_244
  by_cases c245 : z = 245
  · rw [c245]; exact ok_245
  by_cases c246 : z = 246
  · rw [c246]; exact ok_246
  by_cases c247 : z = 247
  · rw [c247]; exact ok_247
  by_cases c248 : z = 248
  · rw [c248]; exact ok_248
  by_cases c249 : z = 249
  · rw [c249]; exact ok_249
  by_cases c250 : z = 250
  · rw [c250]; exact ok_250
  by_cases c251 : z = 251
  · rw [c251]; exact ok_251
  by_cases c252 : z = 252
  · rw [c252]; exact ok_252
  by_cases c253 : z = 253
  · rw [c253]; exact ok_253
  by_cases c254 : z = 254
  · rw [c254]; exact ok_254
  by_cases c255 : z = 255
  · rw [c255]; exact ok_255
  by_cases c256 : z = 256
  · rw [c256]; exact ok_256
  by_cases c257 : z = 257
  · rw [c257]; exact ok_257
  by_cases c258 : z = 258
  · rw [c258]; exact ok_258
  by_cases c259 : z = 259
  · rw [c259]; exact ok_259
  by_cases c260 : z = 260
  · rw [c260]; exact ok_260
  by_cases c261 : z = 261
  · rw [c261]; exact ok_261
  by_cases c262 : z = 262
  · rw [c262]; exact ok_262
  by_cases c263 : z = 263
  · rw [c263]; exact ok_263
  by_cases c264 : z = 264
  · rw [c264]; exact ok_264
  by_cases c265 : z = 265
  · rw [c265]; exact ok_265
  by_cases c266 : z = 266
  · rw [c266]; exact ok_266
  by_cases c267 : z = 267
  · rw [c267]; exact ok_267
  by_cases c268 : z = 268
  · rw [c268]; exact ok_268
  by_cases c269 : z = 269
  · rw [c269]; exact ok_269
  by_cases c270 : z = 270
  · rw [c270]; exact ok_270
  by_cases c271 : z = 271
  · rw [c271]; exact ok_271
  by_cases c272 : z = 272
  · rw [c272]; exact ok_272
  by_cases c273 : z = 273
  · rw [c273]; exact ok_273
  by_cases c274 : z = 274
  · rw [c274]; exact ok_274
  by_cases c275 : z = 275
  · rw [c275]; exact ok_275
  by_cases c276 : z = 276
  · rw [c276]; exact ok_276
  by_cases c277 : z = 277
  · rw [c277]; exact ok_277
  by_cases c278 : z = 278
  · rw [c278]; exact ok_278
  by_cases c279 : z = 279
  · rw [c279]; exact ok_279
  by_cases c280 : z = 280
  · rw [c280]; exact ok_280
  by_cases c281 : z = 281
  · rw [c281]; exact ok_281
  by_cases c282 : z = 282
  · rw [c282]; exact ok_282
  by_cases c283 : z = 283
  · rw [c283]; exact ok_283
  by_cases c284 : z = 284
  · rw [c284]; exact ok_284
  by_cases c285 : z = 285
  · rw [c285]; exact ok_285
  by_cases c286 : z = 286
  · rw [c286]; exact ok_286
  by_cases c287 : z = 287
  · rw [c287]; exact ok_287
  by_cases c288 : z = 288
  · rw [c288]; exact ok_288
  by_cases c289 : z = 289
  · rw [c289]; exact ok_289
  by_cases c290 : z = 290
  · rw [c290]; exact ok_290
  by_cases c291 : z = 291
  · rw [c291]; exact ok_291
  by_cases c292 : z = 292
  · rw [c292]; exact ok_292
  by_cases c293 : z = 293
  · rw [c293]; exact ok_293
  by_cases c294 : z = 294
  · rw [c294]; exact ok_294
  by_cases c295 : z = 295
  · rw [c295]; exact ok_295
  by_cases c296 : z = 296
  · rw [c296]; exact ok_296
  by_cases c297 : z = 297
  · rw [c297]; exact ok_297
  by_cases c298 : z = 298
  · rw [c298]; exact ok_298
  by_cases c299 : z = 299
  · rw [c299]; exact ok_299
  by_cases c300 : z = 300
  · rw [c300]; exact ok_300
  by_cases c301 : z = 301
  · rw [c301]; exact ok_301
  by_cases c302 : z = 302
  · rw [c302]; exact ok_302
  by_cases c303 : z = 303
  · rw [c303]; exact ok_303
  by_cases c304 : z = 304
  · rw [c304]; exact ok_304
  by_cases c305 : z = 305
  · rw [c305]; exact ok_305
  by_cases c306 : z = 306
  · rw [c306]; exact ok_306
  by_cases c307 : z = 307
  · rw [c307]; exact ok_307
  by_cases c308 : z = 308
  · rw [c308]; exact ok_308
  by_cases c309 : z = 309
  · rw [c309]; exact ok_309
  by_cases c310 : z = 310
  · rw [c310]; exact ok_310
  by_cases c311 : z = 311
  · rw [c311]; exact ok_311
  by_cases c312 : z = 312
  · rw [c312]; exact ok_312
  by_cases c313 : z = 313
  · rw [c313]; exact ok_313
  by_cases c314 : z = 314
  · rw [c314]; exact ok_314
  exfalso; omega
end CHK2
