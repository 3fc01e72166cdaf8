section OK
def okLn (y : Nat) : Nat → List aEnt → List Nat → Bool
  | 0, _, _ => true
  | _ + 1, [], _ => true
  | _ + 1, _ :: _, [] => false
  | n + 1, (pc, i, k, q) :: rest, p :: ps => decide (decode (gB y) pc = .ok (i, aLen i (aPc rest - pc))) && (match rest with
    | [] => true
    | _ :: _ => decide (aPc rest = pc + aLen i (aPc rest - pc))) && okE y i k q p && okJ pc i && okLn y n rest ps
theorem okLn_app {y : Nat} : ∀ (n : Nat) (l : List aEnt) (ps : List Nat), okLn y n l ps = true → okL y (l.drop n) (ps.drop n) = true → okL y l ps = true
  | 0, _, _, _, h => h
  | _ + 1, [], _, _, _ => rfl
  | _ + 1, _ :: _, [], h, _ => by cases h
  | n + 1, (pc, i, k, q) :: rest, p :: ps, h, h2 => by
    unfold okLn at h
    unfold okL
    rw [Bool.and_eq_true] at h ⊢
    exact ⟨h.1, okLn_app n rest ps h.2 h2⟩
end OK
section OK
theorem ok_175 : okAll 175 = true := by decide +kernel
theorem ok_176 : okAll 176 = true := by decide +kernel
theorem okm_177 : (okM 177 && okZ (gP 177)) = true := by decide +kernel
theorem okc_177_0 : okLn 177 40 ((gP 177).drop 0) ((kQ.getD 177 []).drop 0) = true := by decide +kernel
theorem okc_177_1 : okL 177 ((gP 177).drop 40) ((kQ.getD 177 []).drop 40) = true := by decide +kernel
theorem ok_177 : okAll 177 = true := by
  have h := okm_177
  rw [Bool.and_eq_true] at h
  have hl : okL 177 (gP 177) (kQ.getD 177 []) = true := okLn_app 40 _ _ okc_177_0 (okc_177_1)
  show (okM 177 && okL 177 (gP 177) (kQ.getD 177 []) && okZ (gP 177)) = true
  rw [h.1, hl, h.2]; rfl
theorem okm_178 : (okM 178 && okZ (gP 178)) = true := by decide +kernel
theorem okc_178_0 : okLn 178 40 ((gP 178).drop 0) ((kQ.getD 178 []).drop 0) = true := by decide +kernel
theorem okc_178_1 : okL 178 ((gP 178).drop 40) ((kQ.getD 178 []).drop 40) = true := by decide +kernel
theorem ok_178 : okAll 178 = true := by
  have h := okm_178
  rw [Bool.and_eq_true] at h
  have hl : okL 178 (gP 178) (kQ.getD 178 []) = true := okLn_app 40 _ _ okc_178_0 (okc_178_1)
  show (okM 178 && okL 178 (gP 178) (kQ.getD 178 []) && okZ (gP 178)) = true
  rw [h.1, hl, h.2]; rfl
theorem okm_179 : (okM 179 && okZ (gP 179)) = true := by decide +kernel
theorem okc_179_0 : okLn 179 40 ((gP 179).drop 0) ((kQ.getD 179 []).drop 0) = true := by decide +kernel
theorem okc_179_1 : okLn 179 40 ((gP 179).drop 40) ((kQ.getD 179 []).drop 40) = true := by decide +kernel
theorem okc_179_2 : okLn 179 40 ((gP 179).drop 80) ((kQ.getD 179 []).drop 80) = true := by decide +kernel
theorem okc_179_3 : okLn 179 40 ((gP 179).drop 120) ((kQ.getD 179 []).drop 120) = true := by decide +kernel
theorem okc_179_4 : okLn 179 40 ((gP 179).drop 160) ((kQ.getD 179 []).drop 160) = true := by decide +kernel
theorem okc_179_5 : okLn 179 40 ((gP 179).drop 200) ((kQ.getD 179 []).drop 200) = true := by decide +kernel
theorem okc_179_6 : okL 179 ((gP 179).drop 240) ((kQ.getD 179 []).drop 240) = true := by decide +kernel
theorem ok_179 : okAll 179 = true := by
  have h := okm_179
  rw [Bool.and_eq_true] at h
  have hl : okL 179 (gP 179) (kQ.getD 179 []) = true := okLn_app 40 _ _ okc_179_0 (okLn_app 40 _ _ okc_179_1 (by rw [List.drop_drop, List.drop_drop]; exact okLn_app 40 _ _ okc_179_2 (by rw [List.drop_drop, List.drop_drop]; exact okLn_app 40 _ _ okc_179_3 (by rw [List.drop_drop, List.drop_drop]; exact okLn_app 40 _ _ okc_179_4 (by rw [List.drop_drop, List.drop_drop]; exact okLn_app 40 _ _ okc_179_5 (by rw [List.drop_drop, List.drop_drop]; exact okc_179_6))))))
  show (okM 179 && okL 179 (gP 179) (kQ.getD 179 []) && okZ (gP 179)) = true
  rw [h.1, hl, h.2]; rfl
theorem ok_180 : okAll 180 = true := by decide +kernel
theorem ok_181 : okAll 181 = true := by decide +kernel
theorem ok_182 : okAll 182 = true := by decide +kernel
theorem ok_183 : okAll 183 = true := by decide +kernel
theorem ok_184 : okAll 184 = true := by decide +kernel
theorem ok_185 : okAll 185 = true := by decide +kernel
theorem ok_186 : okAll 186 = true := by decide +kernel
theorem okm_187 : (okM 187 && okZ (gP 187)) = true := by decide +kernel
theorem okc_187_0 : okLn 187 40 ((gP 187).drop 0) ((kQ.getD 187 []).drop 0) = true := by decide +kernel
theorem okc_187_1 : okLn 187 40 ((gP 187).drop 40) ((kQ.getD 187 []).drop 40) = true := by decide +kernel
theorem okc_187_2 : okLn 187 40 ((gP 187).drop 80) ((kQ.getD 187 []).drop 80) = true := by decide +kernel
theorem okc_187_3 : okL 187 ((gP 187).drop 120) ((kQ.getD 187 []).drop 120) = true := by decide +kernel
theorem ok_187 : okAll 187 = true := by
  have h := okm_187
  rw [Bool.and_eq_true] at h
  have hl : okL 187 (gP 187) (kQ.getD 187 []) = true := okLn_app 40 _ _ okc_187_0 (okLn_app 40 _ _ okc_187_1 (by rw [List.drop_drop, List.drop_drop]; exact okLn_app 40 _ _ okc_187_2 (by rw [List.drop_drop, List.drop_drop]; exact okc_187_3)))
  show (okM 187 && okL 187 (gP 187) (kQ.getD 187 []) && okZ (gP 187)) = true
  rw [h.1, hl, h.2]; rfl
theorem okm_188 : (okM 188 && okZ (gP 188)) = true := by decide +kernel
theorem okc_188_0 : okLn 188 40 ((gP 188).drop 0) ((kQ.getD 188 []).drop 0) = true := by decide +kernel
theorem okc_188_1 : okL 188 ((gP 188).drop 40) ((kQ.getD 188 []).drop 40) = true := by decide +kernel
theorem ok_188 : okAll 188 = true := by
  have h := okm_188
  rw [Bool.and_eq_true] at h
  have hl : okL 188 (gP 188) (kQ.getD 188 []) = true := okLn_app 40 _ _ okc_188_0 (okc_188_1)
  show (okM 188 && okL 188 (gP 188) (kQ.getD 188 []) && okZ (gP 188)) = true
  rw [h.1, hl, h.2]; rfl
theorem okm_189 : (okM 189 && okZ (gP 189)) = true := by decide +kernel
theorem okc_189_0 : okLn 189 40 ((gP 189).drop 0) ((kQ.getD 189 []).drop 0) = true := by decide +kernel
theorem okc_189_1 : okLn 189 40 ((gP 189).drop 40) ((kQ.getD 189 []).drop 40) = true := by decide +kernel
theorem okc_189_2 : okLn 189 40 ((gP 189).drop 80) ((kQ.getD 189 []).drop 80) = true := by decide +kernel
theorem okc_189_3 : okL 189 ((gP 189).drop 120) ((kQ.getD 189 []).drop 120) = true := by decide +kernel
theorem ok_189 : okAll 189 = true := by
  have h := okm_189
  rw [Bool.and_eq_true] at h
  have hl : okL 189 (gP 189) (kQ.getD 189 []) = true := okLn_app 40 _ _ okc_189_0 (okLn_app 40 _ _ okc_189_1 (by rw [List.drop_drop, List.drop_drop]; exact okLn_app 40 _ _ okc_189_2 (by rw [List.drop_drop, List.drop_drop]; exact okc_189_3)))
  show (okM 189 && okL 189 (gP 189) (kQ.getD 189 []) && okZ (gP 189)) = true
  rw [h.1, hl, h.2]; rfl
end OK
