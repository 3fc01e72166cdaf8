section OK
theorem okm_308 : (okM 308 && okZ (gP 308)) = true := by decide +kernel
theorem okc_308_0 : okLn 308 40 ((gP 308).drop 0) ((kQ.getD 308 []).drop 0) = true := by decide +kernel
theorem okc_308_1 : okL 308 ((gP 308).drop 40) ((kQ.getD 308 []).drop 40) = true := by decide +kernel
theorem ok_308 : okAll 308 = true := by
  have h := okm_308
  rw [Bool.and_eq_true] at h
  have hl : okL 308 (gP 308) (kQ.getD 308 []) = true := okLn_app 40 _ _ okc_308_0 (okc_308_1)
  show (okM 308 && okL 308 (gP 308) (kQ.getD 308 []) && okZ (gP 308)) = true
  rw [h.1, hl, h.2]; rfl
theorem okm_309 : (okM 309 && okZ (gP 309)) = true := by decide +kernel
theorem okc_309_0 : okLn 309 40 ((gP 309).drop 0) ((kQ.getD 309 []).drop 0) = true := by decide +kernel
theorem okc_309_1 : okLn 309 40 ((gP 309).drop 40) ((kQ.getD 309 []).drop 40) = true := by decide +kernel
theorem okc_309_2 : okL 309 ((gP 309).drop 80) ((kQ.getD 309 []).drop 80) = true := by decide +kernel
theorem ok_309 : okAll 309 = true := by
  have h := okm_309
  rw [Bool.and_eq_true] at h
  have hl : okL 309 (gP 309) (kQ.getD 309 []) = true := okLn_app 40 _ _ okc_309_0 (okLn_app 40 _ _ okc_309_1 (by rw [List.drop_drop, List.drop_drop]; exact okc_309_2))
  show (okM 309 && okL 309 (gP 309) (kQ.getD 309 []) && okZ (gP 309)) = true
  rw [h.1, hl, h.2]; rfl
theorem ok_310 : okAll 310 = true := by decide +kernel
theorem ok_311 : okAll 311 = true := by decide +kernel
theorem ok_312 : okAll 312 = true := by decide +kernel
theorem okm_313 : (okM 313 && okZ (gP 313)) = true := by decide +kernel
theorem okc_313_0 : okLn 313 40 ((gP 313).drop 0) ((kQ.getD 313 []).drop 0) = true := by decide +kernel
theorem okc_313_1 : okLn 313 40 ((gP 313).drop 40) ((kQ.getD 313 []).drop 40) = true := by decide +kernel
theorem okc_313_2 : okLn 313 40 ((gP 313).drop 80) ((kQ.getD 313 []).drop 80) = true := by decide +kernel
theorem okc_313_3 : okLn 313 40 ((gP 313).drop 120) ((kQ.getD 313 []).drop 120) = true := by decide +kernel
theorem okc_313_4 : okL 313 ((gP 313).drop 160) ((kQ.getD 313 []).drop 160) = true := by decide +kernel
theorem ok_313 : okAll 313 = true := by
  have h := okm_313
  rw [Bool.and_eq_true] at h
  have hl : okL 313 (gP 313) (kQ.getD 313 []) = true := okLn_app 40 _ _ okc_313_0 (okLn_app 40 _ _ okc_313_1 (by rw [List.drop_drop, List.drop_drop]; exact okLn_app 40 _ _ okc_313_2 (by rw [List.drop_drop, List.drop_drop]; exact okLn_app 40 _ _ okc_313_3 (by rw [List.drop_drop, List.drop_drop]; exact okc_313_4))))
  show (okM 313 && okL 313 (gP 313) (kQ.getD 313 []) && okZ (gP 313)) = true
  rw [h.1, hl, h.2]; rfl
theorem okm_314 : (okM 314 && okZ (gP 314)) = true := by decide +kernel
theorem okc_314_0 : okLn 314 40 ((gP 314).drop 0) ((kQ.getD 314 []).drop 0) = true := by decide +kernel
theorem okc_314_1 : okLn 314 40 ((gP 314).drop 40) ((kQ.getD 314 []).drop 40) = true := by decide +kernel
theorem okc_314_2 : okL 314 ((gP 314).drop 80) ((kQ.getD 314 []).drop 80) = true := by decide +kernel
theorem ok_314 : okAll 314 = true := by
  have h := okm_314
  rw [Bool.and_eq_true] at h
  have hl : okL 314 (gP 314) (kQ.getD 314 []) = true := okLn_app 40 _ _ okc_314_0 (okLn_app 40 _ _ okc_314_1 (by rw [List.drop_drop, List.drop_drop]; exact okc_314_2))
  show (okM 314 && okL 314 (gP 314) (kQ.getD 314 []) && okZ (gP 314)) = true
  rw [h.1, hl, h.2]; rfl
end OK
