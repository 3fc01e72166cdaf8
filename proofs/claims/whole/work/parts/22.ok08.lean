section OK
theorem ok_225 : okAll 225 = true := by decide +kernel
theorem ok_226 : okAll 226 = true := by decide +kernel
theorem okm_227 : (okM 227 && okZ (gP 227)) = true := by decide +kernel
theorem okc_227_0 : okLn 227 40 ((gP 227).drop 0) ((kQ.getD 227 []).drop 0) = true := by decide +kernel
theorem okc_227_1 : okLn 227 40 ((gP 227).drop 40) ((kQ.getD 227 []).drop 40) = true := by decide +kernel
theorem okc_227_2 : okLn 227 40 ((gP 227).drop 80) ((kQ.getD 227 []).drop 80) = true := by decide +kernel
theorem okc_227_3 : okL 227 ((gP 227).drop 120) ((kQ.getD 227 []).drop 120) = true := by decide +kernel
theorem ok_227 : okAll 227 = true := by
  have h := okm_227
  rw [Bool.and_eq_true] at h
  have hl : okL 227 (gP 227) (kQ.getD 227 []) = true := okLn_app 40 _ _ okc_227_0 (okLn_app 40 _ _ okc_227_1 (by rw [List.drop_drop, List.drop_drop]; exact okLn_app 40 _ _ okc_227_2 (by rw [List.drop_drop, List.drop_drop]; exact okc_227_3)))
  show (okM 227 && okL 227 (gP 227) (kQ.getD 227 []) && okZ (gP 227)) = true
  rw [h.1, hl, h.2]; rfl
theorem okm_228 : (okM 228 && okZ (gP 228)) = true := by decide +kernel
theorem okc_228_0 : okLn 228 40 ((gP 228).drop 0) ((kQ.getD 228 []).drop 0) = true := by decide +kernel
theorem okc_228_1 : okL 228 ((gP 228).drop 40) ((kQ.getD 228 []).drop 40) = true := by decide +kernel
theorem ok_228 : okAll 228 = true := by
  have h := okm_228
  rw [Bool.and_eq_true] at h
  have hl : okL 228 (gP 228) (kQ.getD 228 []) = true := okLn_app 40 _ _ okc_228_0 (okc_228_1)
  show (okM 228 && okL 228 (gP 228) (kQ.getD 228 []) && okZ (gP 228)) = true
  rw [h.1, hl, h.2]; rfl
theorem okm_229 : (okM 229 && okZ (gP 229)) = true := by decide +kernel
theorem okc_229_0 : okLn 229 40 ((gP 229).drop 0) ((kQ.getD 229 []).drop 0) = true := by decide +kernel
theorem okc_229_1 : okL 229 ((gP 229).drop 40) ((kQ.getD 229 []).drop 40) = true := by decide +kernel
theorem ok_229 : okAll 229 = true := by
  have h := okm_229
  rw [Bool.and_eq_true] at h
  have hl : okL 229 (gP 229) (kQ.getD 229 []) = true := okLn_app 40 _ _ okc_229_0 (okc_229_1)
  show (okM 229 && okL 229 (gP 229) (kQ.getD 229 []) && okZ (gP 229)) = true
  rw [h.1, hl, h.2]; rfl
theorem okm_230 : (okM 230 && okZ (gP 230)) = true := by decide +kernel
theorem okc_230_0 : okLn 230 40 ((gP 230).drop 0) ((kQ.getD 230 []).drop 0) = true := by decide +kernel
theorem okc_230_1 : okL 230 ((gP 230).drop 40) ((kQ.getD 230 []).drop 40) = true := by decide +kernel
theorem ok_230 : okAll 230 = true := by
  have h := okm_230
  rw [Bool.and_eq_true] at h
  have hl : okL 230 (gP 230) (kQ.getD 230 []) = true := okLn_app 40 _ _ okc_230_0 (okc_230_1)
  show (okM 230 && okL 230 (gP 230) (kQ.getD 230 []) && okZ (gP 230)) = true
  rw [h.1, hl, h.2]; rfl
theorem ok_231 : okAll 231 = true := by decide +kernel
theorem ok_232 : okAll 232 = true := by decide +kernel
theorem ok_233 : okAll 233 = true := by decide +kernel
theorem okm_234 : (okM 234 && okZ (gP 234)) = true := by decide +kernel
theorem okc_234_0 : okLn 234 40 ((gP 234).drop 0) ((kQ.getD 234 []).drop 0) = true := by decide +kernel
theorem okc_234_1 : okLn 234 40 ((gP 234).drop 40) ((kQ.getD 234 []).drop 40) = true := by decide +kernel
theorem okc_234_2 : okLn 234 40 ((gP 234).drop 80) ((kQ.getD 234 []).drop 80) = true := by decide +kernel
theorem okc_234_3 : okL 234 ((gP 234).drop 120) ((kQ.getD 234 []).drop 120) = true := by decide +kernel
theorem ok_234 : okAll 234 = true := by
  have h := okm_234
  rw [Bool.and_eq_true] at h
  have hl : okL 234 (gP 234) (kQ.getD 234 []) = true := okLn_app 40 _ _ okc_234_0 (okLn_app 40 _ _ okc_234_1 (by rw [List.drop_drop, List.drop_drop]; exact okLn_app 40 _ _ okc_234_2 (by rw [List.drop_drop, List.drop_drop]; exact okc_234_3)))
  show (okM 234 && okL 234 (gP 234) (kQ.getD 234 []) && okZ (gP 234)) = true
  rw [h.1, hl, h.2]; rfl
theorem ok_235 : okAll 235 = true := by decide +kernel
theorem ok_236 : okAll 236 = true := by decide +kernel
theorem ok_237 : okAll 237 = true := by decide +kernel
theorem ok_238 : okAll 238 = true := by decide +kernel
theorem ok_239 : okAll 239 = true := by decide +kernel
theorem okm_240 : (okM 240 && okZ (gP 240)) = true := by decide +kernel
theorem okc_240_0 : okLn 240 40 ((gP 240).drop 0) ((kQ.getD 240 []).drop 0) = true := by decide +kernel
theorem okc_240_1 : okL 240 ((gP 240).drop 40) ((kQ.getD 240 []).drop 40) = true := by decide +kernel
theorem ok_240 : okAll 240 = true := by
  have h := okm_240
  rw [Bool.and_eq_true] at h
  have hl : okL 240 (gP 240) (kQ.getD 240 []) = true := okLn_app 40 _ _ okc_240_0 (okc_240_1)
  show (okM 240 && okL 240 (gP 240) (kQ.getD 240 []) && okZ (gP 240)) = true
  rw [h.1, hl, h.2]; rfl
theorem ok_241 : okAll 241 = true := by decide +kernel
theorem okm_242 : (okM 242 && okZ (gP 242)) = true := by decide +kernel
theorem okc_242_0 : okLn 242 40 ((gP 242).drop 0) ((kQ.getD 242 []).drop 0) = true := by decide +kernel
theorem okc_242_1 : okL 242 ((gP 242).drop 40) ((kQ.getD 242 []).drop 40) = true := by decide +kernel
theorem ok_242 : okAll 242 = true := by
  have h := okm_242
  rw [Bool.and_eq_true] at h
  have hl : okL 242 (gP 242) (kQ.getD 242 []) = true := okLn_app 40 _ _ okc_242_0 (okc_242_1)
  show (okM 242 && okL 242 (gP 242) (kQ.getD 242 []) && okZ (gP 242)) = true
  rw [h.1, hl, h.2]; rfl
theorem ok_243 : okAll 243 = true := by decide +kernel
theorem ok_244 : okAll 244 = true := by decide +kernel
theorem okm_245 : (okM 245 && okZ (gP 245)) = true := by decide +kernel
theorem okc_245_0 : okLn 245 40 ((gP 245).drop 0) ((kQ.getD 245 []).drop 0) = true := by decide +kernel
theorem okc_245_1 : okLn 245 40 ((gP 245).drop 40) ((kQ.getD 245 []).drop 40) = true := by decide +kernel
theorem okc_245_2 : okL 245 ((gP 245).drop 80) ((kQ.getD 245 []).drop 80) = true := by decide +kernel
theorem ok_245 : okAll 245 = true := by
  have h := okm_245
  rw [Bool.and_eq_true] at h
  have hl : okL 245 (gP 245) (kQ.getD 245 []) = true := okLn_app 40 _ _ okc_245_0 (okLn_app 40 _ _ okc_245_1 (by rw [List.drop_drop, List.drop_drop]; exact okc_245_2))
  show (okM 245 && okL 245 (gP 245) (kQ.getD 245 []) && okZ (gP 245)) = true
  rw [h.1, hl, h.2]; rfl
end OK
