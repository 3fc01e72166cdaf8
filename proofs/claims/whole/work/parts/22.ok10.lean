section OK
theorem ok_272 : okAll 272 = true := by decide +kernel
theorem ok_273 : okAll 273 = true := by decide +kernel
theorem ok_274 : okAll 274 = true := by decide +kernel
theorem okm_275 : (okM 275 && okZ (gP 275)) = true := by decide +kernel
theorem okc_275_0 : okLn 275 40 ((gP 275).drop 0) ((kQ.getD 275 []).drop 0) = true := by decide +kernel
theorem okc_275_1 : okL 275 ((gP 275).drop 40) ((kQ.getD 275 []).drop 40) = true := by decide +kernel
theorem ok_275 : okAll 275 = true := by
  have h := okm_275
  rw [Bool.and_eq_true] at h
  have hl : okL 275 (gP 275) (kQ.getD 275 []) = true := okLn_app 40 _ _ okc_275_0 (okc_275_1)
  show (okM 275 && okL 275 (gP 275) (kQ.getD 275 []) && okZ (gP 275)) = true
  rw [h.1, hl, h.2]; rfl
theorem ok_276 : okAll 276 = true := by decide +kernel
theorem ok_277 : okAll 277 = true := by decide +kernel
theorem okm_278 : (okM 278 && okZ (gP 278)) = true := by decide +kernel
theorem okc_278_0 : okLn 278 40 ((gP 278).drop 0) ((kQ.getD 278 []).drop 0) = true := by decide +kernel
theorem okc_278_1 : okLn 278 40 ((gP 278).drop 40) ((kQ.getD 278 []).drop 40) = true := by decide +kernel
theorem okc_278_2 : okL 278 ((gP 278).drop 80) ((kQ.getD 278 []).drop 80) = true := by decide +kernel
theorem ok_278 : okAll 278 = true := by
  have h := okm_278
  rw [Bool.and_eq_true] at h
  have hl : okL 278 (gP 278) (kQ.getD 278 []) = true := okLn_app 40 _ _ okc_278_0 (okLn_app 40 _ _ okc_278_1 (by rw [List.drop_drop, List.drop_drop]; exact okc_278_2))
  show (okM 278 && okL 278 (gP 278) (kQ.getD 278 []) && okZ (gP 278)) = true
  rw [h.1, hl, h.2]; rfl
theorem ok_279 : okAll 279 = true := by decide +kernel
theorem okm_280 : (okM 280 && okZ (gP 280)) = true := by decide +kernel
theorem okc_280_0 : okLn 280 40 ((gP 280).drop 0) ((kQ.getD 280 []).drop 0) = true := by decide +kernel
theorem okc_280_1 : okL 280 ((gP 280).drop 40) ((kQ.getD 280 []).drop 40) = true := by decide +kernel
theorem ok_280 : okAll 280 = true := by
  have h := okm_280
  rw [Bool.and_eq_true] at h
  have hl : okL 280 (gP 280) (kQ.getD 280 []) = true := okLn_app 40 _ _ okc_280_0 (okc_280_1)
  show (okM 280 && okL 280 (gP 280) (kQ.getD 280 []) && okZ (gP 280)) = true
  rw [h.1, hl, h.2]; rfl
theorem okm_281 : (okM 281 && okZ (gP 281)) = true := by decide +kernel
theorem okc_281_0 : okLn 281 40 ((gP 281).drop 0) ((kQ.getD 281 []).drop 0) = true := by decide +kernel
theorem okc_281_1 : okL 281 ((gP 281).drop 40) ((kQ.getD 281 []).drop 40) = true := by decide +kernel
theorem ok_281 : okAll 281 = true := by
  have h := okm_281
  rw [Bool.and_eq_true] at h
  have hl : okL 281 (gP 281) (kQ.getD 281 []) = true := okLn_app 40 _ _ okc_281_0 (okc_281_1)
  show (okM 281 && okL 281 (gP 281) (kQ.getD 281 []) && okZ (gP 281)) = true
  rw [h.1, hl, h.2]; rfl
theorem okm_282 : (okM 282 && okZ (gP 282)) = true := by decide +kernel
theorem okc_282_0 : okLn 282 40 ((gP 282).drop 0) ((kQ.getD 282 []).drop 0) = true := by decide +kernel
theorem okc_282_1 : okL 282 ((gP 282).drop 40) ((kQ.getD 282 []).drop 40) = true := by decide +kernel
theorem ok_282 : okAll 282 = true := by
  have h := okm_282
  rw [Bool.and_eq_true] at h
  have hl : okL 282 (gP 282) (kQ.getD 282 []) = true := okLn_app 40 _ _ okc_282_0 (okc_282_1)
  show (okM 282 && okL 282 (gP 282) (kQ.getD 282 []) && okZ (gP 282)) = true
  rw [h.1, hl, h.2]; rfl
theorem okm_283 : (okM 283 && okZ (gP 283)) = true := by decide +kernel
theorem okc_283_0 : okLn 283 40 ((gP 283).drop 0) ((kQ.getD 283 []).drop 0) = true := by decide +kernel
theorem okc_283_1 : okL 283 ((gP 283).drop 40) ((kQ.getD 283 []).drop 40) = true := by decide +kernel
theorem ok_283 : okAll 283 = true := by
  have h := okm_283
  rw [Bool.and_eq_true] at h
  have hl : okL 283 (gP 283) (kQ.getD 283 []) = true := okLn_app 40 _ _ okc_283_0 (okc_283_1)
  show (okM 283 && okL 283 (gP 283) (kQ.getD 283 []) && okZ (gP 283)) = true
  rw [h.1, hl, h.2]; rfl
theorem okm_284 : (okM 284 && okZ (gP 284)) = true := by decide +kernel
theorem okc_284_0 : okLn 284 40 ((gP 284).drop 0) ((kQ.getD 284 []).drop 0) = true := by decide +kernel
theorem okc_284_1 : okLn 284 40 ((gP 284).drop 40) ((kQ.getD 284 []).drop 40) = true := by decide +kernel
theorem okc_284_2 : okL 284 ((gP 284).drop 80) ((kQ.getD 284 []).drop 80) = true := by decide +kernel
theorem ok_284 : okAll 284 = true := by
  have h := okm_284
  rw [Bool.and_eq_true] at h
  have hl : okL 284 (gP 284) (kQ.getD 284 []) = true := okLn_app 40 _ _ okc_284_0 (okLn_app 40 _ _ okc_284_1 (by rw [List.drop_drop, List.drop_drop]; exact okc_284_2))
  show (okM 284 && okL 284 (gP 284) (kQ.getD 284 []) && okZ (gP 284)) = true
  rw [h.1, hl, h.2]; rfl
theorem okm_285 : (okM 285 && okZ (gP 285)) = true := by decide +kernel
theorem okc_285_0 : okLn 285 40 ((gP 285).drop 0) ((kQ.getD 285 []).drop 0) = true := by decide +kernel
theorem okc_285_1 : okL 285 ((gP 285).drop 40) ((kQ.getD 285 []).drop 40) = true := by decide +kernel
theorem ok_285 : okAll 285 = true := by
  have h := okm_285
  rw [Bool.and_eq_true] at h
  have hl : okL 285 (gP 285) (kQ.getD 285 []) = true := okLn_app 40 _ _ okc_285_0 (okc_285_1)
  show (okM 285 && okL 285 (gP 285) (kQ.getD 285 []) && okZ (gP 285)) = true
  rw [h.1, hl, h.2]; rfl
theorem okm_286 : (okM 286 && okZ (gP 286)) = true := by decide +kernel
theorem okc_286_0 : okLn 286 40 ((gP 286).drop 0) ((kQ.getD 286 []).drop 0) = true := by decide +kernel
theorem okc_286_1 : okLn 286 40 ((gP 286).drop 40) ((kQ.getD 286 []).drop 40) = true := by decide +kernel
theorem okc_286_2 : okL 286 ((gP 286).drop 80) ((kQ.getD 286 []).drop 80) = true := by decide +kernel
theorem ok_286 : okAll 286 = true := by
  have h := okm_286
  rw [Bool.and_eq_true] at h
  have hl : okL 286 (gP 286) (kQ.getD 286 []) = true := okLn_app 40 _ _ okc_286_0 (okLn_app 40 _ _ okc_286_1 (by rw [List.drop_drop, List.drop_drop]; exact okc_286_2))
  show (okM 286 && okL 286 (gP 286) (kQ.getD 286 []) && okZ (gP 286)) = true
  rw [h.1, hl, h.2]; rfl
theorem ok_287 : okAll 287 = true := by decide +kernel
theorem okm_288 : (okM 288 && okZ (gP 288)) = true := by decide +kernel
theorem okc_288_0 : okLn 288 40 ((gP 288).drop 0) ((kQ.getD 288 []).drop 0) = true := by decide +kernel
theorem okc_288_1 : okLn 288 40 ((gP 288).drop 40) ((kQ.getD 288 []).drop 40) = true := by decide +kernel
theorem okc_288_2 : okL 288 ((gP 288).drop 80) ((kQ.getD 288 []).drop 80) = true := by decide +kernel
theorem ok_288 : okAll 288 = true := by
  have h := okm_288
  rw [Bool.and_eq_true] at h
  have hl : okL 288 (gP 288) (kQ.getD 288 []) = true := okLn_app 40 _ _ okc_288_0 (okLn_app 40 _ _ okc_288_1 (by rw [List.drop_drop, List.drop_drop]; exact okc_288_2))
  show (okM 288 && okL 288 (gP 288) (kQ.getD 288 []) && okZ (gP 288)) = true
  rw [h.1, hl, h.2]; rfl
theorem ok_289 : okAll 289 = true := by decide +kernel
end OK
