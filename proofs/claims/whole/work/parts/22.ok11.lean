section OK
theorem ok_290 : okAll 290 = true := by decide +kernel
theorem ok_291 : okAll 291 = true := by decide +kernel
theorem okm_292 : (okM 292 && okZ (gP 292)) = true := by decide +kernel
theorem okc_292_0 : okLn 292 40 ((gP 292).drop 0) ((kQ.getD 292 []).drop 0) = true := by decide +kernel
theorem okc_292_1 : okLn 292 40 ((gP 292).drop 40) ((kQ.getD 292 []).drop 40) = true := by decide +kernel
theorem okc_292_2 : okL 292 ((gP 292).drop 80) ((kQ.getD 292 []).drop 80) = true := by decide +kernel
theorem ok_292 : okAll 292 = true := by
  have h := okm_292
  rw [Bool.and_eq_true] at h
  have hl : okL 292 (gP 292) (kQ.getD 292 []) = true := okLn_app 40 _ _ okc_292_0 (okLn_app 40 _ _ okc_292_1 (by rw [List.drop_drop, List.drop_drop]; exact okc_292_2))
  show (okM 292 && okL 292 (gP 292) (kQ.getD 292 []) && okZ (gP 292)) = true
  rw [h.1, hl, h.2]; rfl
theorem okm_293 : (okM 293 && okZ (gP 293)) = true := by decide +kernel
theorem okc_293_0 : okLn 293 40 ((gP 293).drop 0) ((kQ.getD 293 []).drop 0) = true := by decide +kernel
theorem okc_293_1 : okL 293 ((gP 293).drop 40) ((kQ.getD 293 []).drop 40) = true := by decide +kernel
theorem ok_293 : okAll 293 = true := by
  have h := okm_293
  rw [Bool.and_eq_true] at h
  have hl : okL 293 (gP 293) (kQ.getD 293 []) = true := okLn_app 40 _ _ okc_293_0 (okc_293_1)
  show (okM 293 && okL 293 (gP 293) (kQ.getD 293 []) && okZ (gP 293)) = true
  rw [h.1, hl, h.2]; rfl
theorem okm_294 : (okM 294 && okZ (gP 294)) = true := by decide +kernel
theorem okc_294_0 : okLn 294 40 ((gP 294).drop 0) ((kQ.getD 294 []).drop 0) = true := by decide +kernel
theorem okc_294_1 : okLn 294 40 ((gP 294).drop 40) ((kQ.getD 294 []).drop 40) = true := by decide +kernel
theorem okc_294_2 : okLn 294 40 ((gP 294).drop 80) ((kQ.getD 294 []).drop 80) = true := by decide +kernel
theorem okc_294_3 : okL 294 ((gP 294).drop 120) ((kQ.getD 294 []).drop 120) = true := by decide +kernel
theorem ok_294 : okAll 294 = true := by
  have h := okm_294
  rw [Bool.and_eq_true] at h
  have hl : okL 294 (gP 294) (kQ.getD 294 []) = true := okLn_app 40 _ _ okc_294_0 (okLn_app 40 _ _ okc_294_1 (by rw [List.drop_drop, List.drop_drop]; exact okLn_app 40 _ _ okc_294_2 (by rw [List.drop_drop, List.drop_drop]; exact okc_294_3)))
  show (okM 294 && okL 294 (gP 294) (kQ.getD 294 []) && okZ (gP 294)) = true
  rw [h.1, hl, h.2]; rfl
theorem okm_295 : (okM 295 && okZ (gP 295)) = true := by decide +kernel
theorem okc_295_0 : okLn 295 40 ((gP 295).drop 0) ((kQ.getD 295 []).drop 0) = true := by decide +kernel
theorem okc_295_1 : okLn 295 40 ((gP 295).drop 40) ((kQ.getD 295 []).drop 40) = true := by decide +kernel
theorem okc_295_2 : okL 295 ((gP 295).drop 80) ((kQ.getD 295 []).drop 80) = true := by decide +kernel
theorem ok_295 : okAll 295 = true := by
  have h := okm_295
  rw [Bool.and_eq_true] at h
  have hl : okL 295 (gP 295) (kQ.getD 295 []) = true := okLn_app 40 _ _ okc_295_0 (okLn_app 40 _ _ okc_295_1 (by rw [List.drop_drop, List.drop_drop]; exact okc_295_2))
  show (okM 295 && okL 295 (gP 295) (kQ.getD 295 []) && okZ (gP 295)) = true
  rw [h.1, hl, h.2]; rfl
theorem okm_296 : (okM 296 && okZ (gP 296)) = true := by decide +kernel
theorem okc_296_0 : okLn 296 40 ((gP 296).drop 0) ((kQ.getD 296 []).drop 0) = true := by decide +kernel
theorem okc_296_1 : okL 296 ((gP 296).drop 40) ((kQ.getD 296 []).drop 40) = true := by decide +kernel
theorem ok_296 : okAll 296 = true := by
  have h := okm_296
  rw [Bool.and_eq_true] at h
  have hl : okL 296 (gP 296) (kQ.getD 296 []) = true := okLn_app 40 _ _ okc_296_0 (okc_296_1)
  show (okM 296 && okL 296 (gP 296) (kQ.getD 296 []) && okZ (gP 296)) = true
  rw [h.1, hl, h.2]; rfl
theorem ok_297 : okAll 297 = true := by decide +kernel
theorem ok_298 : okAll 298 = true := by decide +kernel
theorem ok_299 : okAll 299 = true := by decide +kernel
theorem ok_300 : okAll 300 = true := by decide +kernel
theorem okm_301 : (okM 301 && okZ (gP 301)) = true := by decide +kernel
theorem okc_301_0 : okLn 301 40 ((gP 301).drop 0) ((kQ.getD 301 []).drop 0) = true := by decide +kernel
theorem okc_301_1 : okL 301 ((gP 301).drop 40) ((kQ.getD 301 []).drop 40) = true := by decide +kernel
theorem ok_301 : okAll 301 = true := by
  have h := okm_301
  rw [Bool.and_eq_true] at h
  have hl : okL 301 (gP 301) (kQ.getD 301 []) = true := okLn_app 40 _ _ okc_301_0 (okc_301_1)
  show (okM 301 && okL 301 (gP 301) (kQ.getD 301 []) && okZ (gP 301)) = true
  rw [h.1, hl, h.2]; rfl
theorem ok_302 : okAll 302 = true := by decide +kernel
theorem okm_303 : (okM 303 && okZ (gP 303)) = true := by decide +kernel
theorem okc_303_0 : okLn 303 40 ((gP 303).drop 0) ((kQ.getD 303 []).drop 0) = true := by decide +kernel
theorem okc_303_1 : okL 303 ((gP 303).drop 40) ((kQ.getD 303 []).drop 40) = true := by decide +kernel
theorem ok_303 : okAll 303 = true := by
  have h := okm_303
  rw [Bool.and_eq_true] at h
  have hl : okL 303 (gP 303) (kQ.getD 303 []) = true := okLn_app 40 _ _ okc_303_0 (okc_303_1)
  show (okM 303 && okL 303 (gP 303) (kQ.getD 303 []) && okZ (gP 303)) = true
  rw [h.1, hl, h.2]; rfl
theorem okm_304 : (okM 304 && okZ (gP 304)) = true := by decide +kernel
theorem okc_304_0 : okLn 304 40 ((gP 304).drop 0) ((kQ.getD 304 []).drop 0) = true := by decide +kernel
theorem okc_304_1 : okL 304 ((gP 304).drop 40) ((kQ.getD 304 []).drop 40) = true := by decide +kernel
theorem ok_304 : okAll 304 = true := by
  have h := okm_304
  rw [Bool.and_eq_true] at h
  have hl : okL 304 (gP 304) (kQ.getD 304 []) = true := okLn_app 40 _ _ okc_304_0 (okc_304_1)
  show (okM 304 && okL 304 (gP 304) (kQ.getD 304 []) && okZ (gP 304)) = true
  rw [h.1, hl, h.2]; rfl
theorem okm_305 : (okM 305 && okZ (gP 305)) = true := by decide +kernel
theorem okc_305_0 : okLn 305 40 ((gP 305).drop 0) ((kQ.getD 305 []).drop 0) = true := by decide +kernel
theorem okc_305_1 : okLn 305 40 ((gP 305).drop 40) ((kQ.getD 305 []).drop 40) = true := by decide +kernel
theorem okc_305_2 : okL 305 ((gP 305).drop 80) ((kQ.getD 305 []).drop 80) = true := by decide +kernel
theorem ok_305 : okAll 305 = true := by
  have h := okm_305
  rw [Bool.and_eq_true] at h
  have hl : okL 305 (gP 305) (kQ.getD 305 []) = true := okLn_app 40 _ _ okc_305_0 (okLn_app 40 _ _ okc_305_1 (by rw [List.drop_drop, List.drop_drop]; exact okc_305_2))
  show (okM 305 && okL 305 (gP 305) (kQ.getD 305 []) && okZ (gP 305)) = true
  rw [h.1, hl, h.2]; rfl
theorem ok_306 : okAll 306 = true := by decide +kernel
theorem ok_307 : okAll 307 = true := by decide +kernel
end OK
