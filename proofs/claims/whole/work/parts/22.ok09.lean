section OK
theorem ok_246 : okAll 246 = true := by decide +kernel
theorem ok_247 : okAll 247 = true := by decide +kernel
theorem ok_248 : okAll 248 = true := by decide +kernel
theorem ok_249 : okAll 249 = true := by decide +kernel
theorem ok_250 : okAll 250 = true := by decide +kernel
theorem ok_251 : okAll 251 = true := by decide +kernel
theorem ok_252 : okAll 252 = true := by decide +kernel
theorem ok_253 : okAll 253 = true := by decide +kernel
theorem ok_254 : okAll 254 = true := by decide +kernel
theorem ok_255 : okAll 255 = true := by decide +kernel
theorem okm_256 : (okM 256 && okZ (gP 256)) = true := by decide +kernel
theorem okc_256_0 : okLn 256 40 ((gP 256).drop 0) ((kQ.getD 256 []).drop 0) = true := by decide +kernel
theorem okc_256_1 : okLn 256 40 ((gP 256).drop 40) ((kQ.getD 256 []).drop 40) = true := by decide +kernel
theorem okc_256_2 : okL 256 ((gP 256).drop 80) ((kQ.getD 256 []).drop 80) = true := by decide +kernel
theorem ok_256 : okAll 256 = true := by
  have h := okm_256
  rw [Bool.and_eq_true] at h
  have hl : okL 256 (gP 256) (kQ.getD 256 []) = true := okLn_app 40 _ _ okc_256_0 (okLn_app 40 _ _ okc_256_1 (by rw [List.drop_drop, List.drop_drop]; exact okc_256_2))
  show (okM 256 && okL 256 (gP 256) (kQ.getD 256 []) && okZ (gP 256)) = true
  rw [h.1, hl, h.2]; rfl
theorem ok_257 : okAll 257 = true := by decide +kernel
theorem ok_258 : okAll 258 = true := by decide +kernel
theorem okm_259 : (okM 259 && okZ (gP 259)) = true := by decide +kernel
theorem okc_259_0 : okLn 259 40 ((gP 259).drop 0) ((kQ.getD 259 []).drop 0) = true := by decide +kernel
theorem okc_259_1 : okL 259 ((gP 259).drop 40) ((kQ.getD 259 []).drop 40) = true := by decide +kernel
theorem ok_259 : okAll 259 = true := by
  have h := okm_259
  rw [Bool.and_eq_true] at h
  have hl : okL 259 (gP 259) (kQ.getD 259 []) = true := okLn_app 40 _ _ okc_259_0 (okc_259_1)
  show (okM 259 && okL 259 (gP 259) (kQ.getD 259 []) && okZ (gP 259)) = true
  rw [h.1, hl, h.2]; rfl
theorem ok_260 : okAll 260 = true := by decide +kernel
theorem ok_261 : okAll 261 = true := by decide +kernel
theorem ok_262 : okAll 262 = true := by decide +kernel
theorem ok_263 : okAll 263 = true := by decide +kernel
theorem okm_264 : (okM 264 && okZ (gP 264)) = true := by decide +kernel
theorem okc_264_0 : okLn 264 40 ((gP 264).drop 0) ((kQ.getD 264 []).drop 0) = true := by decide +kernel
theorem okc_264_1 : okLn 264 40 ((gP 264).drop 40) ((kQ.getD 264 []).drop 40) = true := by decide +kernel
theorem okc_264_2 : okL 264 ((gP 264).drop 80) ((kQ.getD 264 []).drop 80) = true := by decide +kernel
theorem ok_264 : okAll 264 = true := by
  have h := okm_264
  rw [Bool.and_eq_true] at h
  have hl : okL 264 (gP 264) (kQ.getD 264 []) = true := okLn_app 40 _ _ okc_264_0 (okLn_app 40 _ _ okc_264_1 (by rw [List.drop_drop, List.drop_drop]; exact okc_264_2))
  show (okM 264 && okL 264 (gP 264) (kQ.getD 264 []) && okZ (gP 264)) = true
  rw [h.1, hl, h.2]; rfl
theorem okm_265 : (okM 265 && okZ (gP 265)) = true := by decide +kernel
theorem okc_265_0 : okLn 265 40 ((gP 265).drop 0) ((kQ.getD 265 []).drop 0) = true := by decide +kernel
theorem okc_265_1 : okL 265 ((gP 265).drop 40) ((kQ.getD 265 []).drop 40) = true := by decide +kernel
theorem ok_265 : okAll 265 = true := by
  have h := okm_265
  rw [Bool.and_eq_true] at h
  have hl : okL 265 (gP 265) (kQ.getD 265 []) = true := okLn_app 40 _ _ okc_265_0 (okc_265_1)
  show (okM 265 && okL 265 (gP 265) (kQ.getD 265 []) && okZ (gP 265)) = true
  rw [h.1, hl, h.2]; rfl
theorem ok_266 : okAll 266 = true := by decide +kernel
theorem okm_267 : (okM 267 && okZ (gP 267)) = true := by decide +kernel
theorem okc_267_0 : okLn 267 40 ((gP 267).drop 0) ((kQ.getD 267 []).drop 0) = true := by decide +kernel
theorem okc_267_1 : okL 267 ((gP 267).drop 40) ((kQ.getD 267 []).drop 40) = true := by decide +kernel
theorem ok_267 : okAll 267 = true := by
  have h := okm_267
  rw [Bool.and_eq_true] at h
  have hl : okL 267 (gP 267) (kQ.getD 267 []) = true := okLn_app 40 _ _ okc_267_0 (okc_267_1)
  show (okM 267 && okL 267 (gP 267) (kQ.getD 267 []) && okZ (gP 267)) = true
  rw [h.1, hl, h.2]; rfl
theorem okm_268 : (okM 268 && okZ (gP 268)) = true := by decide +kernel
theorem okc_268_0 : okLn 268 40 ((gP 268).drop 0) ((kQ.getD 268 []).drop 0) = true := by decide +kernel
theorem okc_268_1 : okL 268 ((gP 268).drop 40) ((kQ.getD 268 []).drop 40) = true := by decide +kernel
theorem ok_268 : okAll 268 = true := by
  have h := okm_268
  rw [Bool.and_eq_true] at h
  have hl : okL 268 (gP 268) (kQ.getD 268 []) = true := okLn_app 40 _ _ okc_268_0 (okc_268_1)
  show (okM 268 && okL 268 (gP 268) (kQ.getD 268 []) && okZ (gP 268)) = true
  rw [h.1, hl, h.2]; rfl
theorem ok_269 : okAll 269 = true := by decide +kernel
theorem okm_270 : (okM 270 && okZ (gP 270)) = true := by decide +kernel
theorem okc_270_0 : okLn 270 40 ((gP 270).drop 0) ((kQ.getD 270 []).drop 0) = true := by decide +kernel
theorem okc_270_1 : okL 270 ((gP 270).drop 40) ((kQ.getD 270 []).drop 40) = true := by decide +kernel
theorem ok_270 : okAll 270 = true := by
  have h := okm_270
  rw [Bool.and_eq_true] at h
  have hl : okL 270 (gP 270) (kQ.getD 270 []) = true := okLn_app 40 _ _ okc_270_0 (okc_270_1)
  show (okM 270 && okL 270 (gP 270) (kQ.getD 270 []) && okZ (gP 270)) = true
  rw [h.1, hl, h.2]; rfl
theorem okm_271 : (okM 271 && okZ (gP 271)) = true := by decide +kernel
theorem okc_271_0 : okLn 271 40 ((gP 271).drop 0) ((kQ.getD 271 []).drop 0) = true := by decide +kernel
theorem okc_271_1 : okLn 271 40 ((gP 271).drop 40) ((kQ.getD 271 []).drop 40) = true := by decide +kernel
theorem okc_271_2 : okL 271 ((gP 271).drop 80) ((kQ.getD 271 []).drop 80) = true := by decide +kernel
theorem ok_271 : okAll 271 = true := by
  have h := okm_271
  rw [Bool.and_eq_true] at h
  have hl : okL 271 (gP 271) (kQ.getD 271 []) = true := okLn_app 40 _ _ okc_271_0 (okLn_app 40 _ _ okc_271_1 (by rw [List.drop_drop, List.drop_drop]; exact okc_271_2))
  show (okM 271 && okL 271 (gP 271) (kQ.getD 271 []) && okZ (gP 271)) = true
  rw [h.1, hl, h.2]; rfl
end OK
