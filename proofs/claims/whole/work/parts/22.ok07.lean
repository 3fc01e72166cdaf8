section OK
theorem okm_206 : (okM 206 && okZ (gP 206)) = true := by decide +kernel
theorem okc_206_0 : okLn 206 40 ((gP 206).drop 0) ((kQ.getD 206 []).drop 0) = true := by decide +kernel
theorem okc_206_1 : okL 206 ((gP 206).drop 40) ((kQ.getD 206 []).drop 40) = true := by decide +kernel
theorem ok_206 : okAll 206 = true := by
  have h := okm_206
  rw [Bool.and_eq_true] at h
  have hl : okL 206 (gP 206) (kQ.getD 206 []) = true := okLn_app 40 _ _ okc_206_0 (okc_206_1)
  show (okM 206 && okL 206 (gP 206) (kQ.getD 206 []) && okZ (gP 206)) = true
  rw [h.1, hl, h.2]; rfl
theorem okm_207 : (okM 207 && okZ (gP 207)) = true := by decide +kernel
theorem okc_207_0 : okLn 207 40 ((gP 207).drop 0) ((kQ.getD 207 []).drop 0) = true := by decide +kernel
theorem okc_207_1 : okL 207 ((gP 207).drop 40) ((kQ.getD 207 []).drop 40) = true := by decide +kernel
theorem ok_207 : okAll 207 = true := by
  have h := okm_207
  rw [Bool.and_eq_true] at h
  have hl : okL 207 (gP 207) (kQ.getD 207 []) = true := okLn_app 40 _ _ okc_207_0 (okc_207_1)
  show (okM 207 && okL 207 (gP 207) (kQ.getD 207 []) && okZ (gP 207)) = true
  rw [h.1, hl, h.2]; rfl
theorem okm_208 : (okM 208 && okZ (gP 208)) = true := by decide +kernel
theorem okc_208_0 : okLn 208 40 ((gP 208).drop 0) ((kQ.getD 208 []).drop 0) = true := by decide +kernel
theorem okc_208_1 : okL 208 ((gP 208).drop 40) ((kQ.getD 208 []).drop 40) = true := by decide +kernel
theorem ok_208 : okAll 208 = true := by
  have h := okm_208
  rw [Bool.and_eq_true] at h
  have hl : okL 208 (gP 208) (kQ.getD 208 []) = true := okLn_app 40 _ _ okc_208_0 (okc_208_1)
  show (okM 208 && okL 208 (gP 208) (kQ.getD 208 []) && okZ (gP 208)) = true
  rw [h.1, hl, h.2]; rfl
theorem okm_209 : (okM 209 && okZ (gP 209)) = true := by decide +kernel
theorem okc_209_0 : okLn 209 40 ((gP 209).drop 0) ((kQ.getD 209 []).drop 0) = true := by decide +kernel
theorem okc_209_1 : okLn 209 40 ((gP 209).drop 40) ((kQ.getD 209 []).drop 40) = true := by decide +kernel
theorem okc_209_2 : okL 209 ((gP 209).drop 80) ((kQ.getD 209 []).drop 80) = true := by decide +kernel
theorem ok_209 : okAll 209 = true := by
  have h := okm_209
  rw [Bool.and_eq_true] at h
  have hl : okL 209 (gP 209) (kQ.getD 209 []) = true := okLn_app 40 _ _ okc_209_0 (okLn_app 40 _ _ okc_209_1 (by rw [List.drop_drop, List.drop_drop]; exact okc_209_2))
  show (okM 209 && okL 209 (gP 209) (kQ.getD 209 []) && okZ (gP 209)) = true
  rw [h.1, hl, h.2]; rfl
theorem okm_210 : (okM 210 && okZ (gP 210)) = true := by decide +kernel
theorem okc_210_0 : okLn 210 40 ((gP 210).drop 0) ((kQ.getD 210 []).drop 0) = true := by decide +kernel
theorem okc_210_1 : okL 210 ((gP 210).drop 40) ((kQ.getD 210 []).drop 40) = true := by decide +kernel
theorem ok_210 : okAll 210 = true := by
  have h := okm_210
  rw [Bool.and_eq_true] at h
  have hl : okL 210 (gP 210) (kQ.getD 210 []) = true := okLn_app 40 _ _ okc_210_0 (okc_210_1)
  show (okM 210 && okL 210 (gP 210) (kQ.getD 210 []) && okZ (gP 210)) = true
  rw [h.1, hl, h.2]; rfl
theorem ok_211 : okAll 211 = true := by decide +kernel
theorem okm_212 : (okM 212 && okZ (gP 212)) = true := by decide +kernel
theorem okc_212_0 : okLn 212 40 ((gP 212).drop 0) ((kQ.getD 212 []).drop 0) = true := by decide +kernel
theorem okc_212_1 : okLn 212 40 ((gP 212).drop 40) ((kQ.getD 212 []).drop 40) = true := by decide +kernel
theorem okc_212_2 : okL 212 ((gP 212).drop 80) ((kQ.getD 212 []).drop 80) = true := by decide +kernel
theorem ok_212 : okAll 212 = true := by
  have h := okm_212
  rw [Bool.and_eq_true] at h
  have hl : okL 212 (gP 212) (kQ.getD 212 []) = true := okLn_app 40 _ _ okc_212_0 (okLn_app 40 _ _ okc_212_1 (by rw [List.drop_drop, List.drop_drop]; exact okc_212_2))
  show (okM 212 && okL 212 (gP 212) (kQ.getD 212 []) && okZ (gP 212)) = true
  rw [h.1, hl, h.2]; rfl
theorem ok_213 : okAll 213 = true := by decide +kernel
theorem ok_214 : okAll 214 = true := by decide +kernel
theorem ok_215 : okAll 215 = true := by decide +kernel
theorem okm_216 : (okM 216 && okZ (gP 216)) = true := by decide +kernel
theorem okc_216_0 : okLn 216 40 ((gP 216).drop 0) ((kQ.getD 216 []).drop 0) = true := by decide +kernel
theorem okc_216_1 : okLn 216 40 ((gP 216).drop 40) ((kQ.getD 216 []).drop 40) = true := by decide +kernel
theorem okc_216_2 : okL 216 ((gP 216).drop 80) ((kQ.getD 216 []).drop 80) = true := by decide +kernel
theorem ok_216 : okAll 216 = true := by
  have h := okm_216
  rw [Bool.and_eq_true] at h
  have hl : okL 216 (gP 216) (kQ.getD 216 []) = true := okLn_app 40 _ _ okc_216_0 (okLn_app 40 _ _ okc_216_1 (by rw [List.drop_drop, List.drop_drop]; exact okc_216_2))
  show (okM 216 && okL 216 (gP 216) (kQ.getD 216 []) && okZ (gP 216)) = true
  rw [h.1, hl, h.2]; rfl
theorem okm_217 : (okM 217 && okZ (gP 217)) = true := by decide +kernel
theorem okc_217_0 : okLn 217 40 ((gP 217).drop 0) ((kQ.getD 217 []).drop 0) = true := by decide +kernel
theorem okc_217_1 : okLn 217 40 ((gP 217).drop 40) ((kQ.getD 217 []).drop 40) = true := by decide +kernel
theorem okc_217_2 : okL 217 ((gP 217).drop 80) ((kQ.getD 217 []).drop 80) = true := by decide +kernel
theorem ok_217 : okAll 217 = true := by
  have h := okm_217
  rw [Bool.and_eq_true] at h
  have hl : okL 217 (gP 217) (kQ.getD 217 []) = true := okLn_app 40 _ _ okc_217_0 (okLn_app 40 _ _ okc_217_1 (by rw [List.drop_drop, List.drop_drop]; exact okc_217_2))
  show (okM 217 && okL 217 (gP 217) (kQ.getD 217 []) && okZ (gP 217)) = true
  rw [h.1, hl, h.2]; rfl
theorem ok_218 : okAll 218 = true := by decide +kernel
theorem ok_219 : okAll 219 = true := by decide +kernel
theorem ok_220 : okAll 220 = true := by decide +kernel
theorem ok_221 : okAll 221 = true := by decide +kernel
theorem ok_222 : okAll 222 = true := by decide +kernel
theorem ok_223 : okAll 223 = true := by decide +kernel
theorem ok_224 : okAll 224 = true := by decide +kernel
end OK
