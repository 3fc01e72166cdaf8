section OK
theorem okm_308 : (okM 308 && okZ (gP 308)) = true := by decide +kernel
theorem okc_308_0 : okLn 308 40 ((gP 308).drop 0) ((kQ.getD 308 []).drop 0) = true := by decide +kernel
theorem okc_308_1 : okL 308 ((gP 308).drop 40) ((kQ.getD 308 []).drop 40) = true := by decide +kernel
theorem ok_308 : okAll 308 = true := by
  have h := okm_308
  rw [Bool.and_eq_true] at h
  have hl : okL 308 (gP 308) (kQ.getD 308 []) = true := okLn_app 40 _ _ okc_308_0 (okc_308_1)
  show (okM 308 && okL 308 (gP 308) (kQ.getD 308 []) && okZ (gP 308)) = true
  rw [h.1, hl, h.2]; rfl
theorem okm_309 : (okM 309 && okZ (gP 309)) = true := by decide +kernel
theorem okc_309_0 : okLn 309 40 ((gP 309).drop 0) ((kQ.getD 309 []).drop 0) = true := by decide +kernel
theorem okc_309_1 : okLn 309 40 ((gP 309).drop 40) ((kQ.getD 309 []).drop 40) = true := by decide +kernel
theorem okc_309_2 : okL 309 ((gP 309).drop 80) ((kQ.getD 309 []).drop 80) = true := by decide +kernel
theorem ok_309 : okAll 309 = true := by
  have h := okm_309
  rw [Bool.and_eq_true] at h
  have hl : okL 309 (gP 309) (kQ.getD 309 []) = true := okLn_app 40 _ _ okc_309_0 (okLn_app 40 _ _ okc_309_1 (by rw [List.drop_drop, List.drop_drop]; exact okc_309_2))
  show (okM 309 && okL 309 (gP 309) (kQ.getD 309 []) && okZ (gP 309)) = true
  rw [h.1, hl, h.2]; rfl
theorem ok_310 : okAll 310 = true := by decide +kernel
theorem ok_311 : okAll 311 = true := by decide +kernel
theorem ok_312 : okAll 312 = true := by decide +kernel
theorem okm_313 : (okM 313 && okZ (gP 313)) = true := by decide +kernel
theorem okc_313_0 : okLn 313 40 ((gP 313).drop 0) ((kQ.getD 313 []).drop 0) = true := by decide +kernel
theorem okc_313_1 : okLn 313 40 ((gP 313).drop 40) ((kQ.getD 313 []).drop 40) = true := by decide +kernel
theorem okc_313_2 : okLn 313 40 ((gP 313).drop 80) ((kQ.getD 313 []).drop 80) = true := by decide +kernel
theorem okc_313_3 : okLn 313 40 ((gP 313).drop 120) ((kQ.getD 313 []).drop 120) = true := by decide +kernel
theorem okc_313_4 : okL 313 ((gP 313).drop 160) ((kQ.getD 313 []).drop 160) = true := by decide +kernel
theorem ok_313 : okAll 313 = true := by
  have h := okm_313
  rw [Bool.and_eq_true] at h
  have hl : okL 313 (gP 313) (kQ.getD 313 []) = true := okLn_app 40 _ _ okc_313_0 (okLn_app 40 _ _ okc_313_1 (by rw [List.drop_drop, List.drop_drop]; exact okLn_app 40 _ _ okc_313_2 (by rw [List.drop_drop, List.drop_drop]; exact okLn_app 40 _ _ okc_313_3 (by rw [List.drop_drop, List.drop_drop]; exact okc_313_4))))
  show (okM 313 && okL 313 (gP 313) (kQ.getD 313 []) && okZ (gP 313)) = true
  rw [h.1, hl, h.2]; rfl
theorem okm_314 : (okM 314 && okZ (gP 314)) = true := by decide +kernel
theorem okc_314_0 : okLn 314 40 ((gP 314).drop 0) ((kQ.getD 314 []).drop 0) = true := by decide +kernel
theorem okc_314_1 : okLn 314 40 ((gP 314).drop 40) ((kQ.getD 314 []).drop 40) = true := by decide +kernel
theorem okc_314_2 : okL 314 ((gP 314).drop 80) ((kQ.getD 314 []).drop 80) = true := by decide +kernel
theorem ok_314 : okAll 314 = true := by
  have h := okm_314
  rw [Bool.and_eq_true] at h
  have hl : okL 314 (gP 314) (kQ.getD 314 []) = true := okLn_app 40 _ _ okc_314_0 (okLn_app 40 _ _ okc_314_1 (by rw [List.drop_drop, List.drop_drop]; exact okc_314_2))
  show (okM 314 && okL 314 (gP 314) (kQ.getD 314 []) && okZ (gP 314)) = true
  rw [h.1, hl, h.2]; rfl
theorem okm_315 : (okM 315 && okZ (gP 315)) = true := by decide +kernel
theorem okc_315_0 : okLn 315 40 ((gP 315).drop 0) ((kQ.getD 315 []).drop 0) = true := by decide +kernel
theorem okc_315_1 : okLn 315 40 ((gP 315).drop 40) ((kQ.getD 315 []).drop 40) = true := by decide +kernel
theorem okc_315_2 : okLn 315 40 ((gP 315).drop 80) ((kQ.getD 315 []).drop 80) = true := by decide +kernel
theorem okc_315_3 : okLn 315 40 ((gP 315).drop 120) ((kQ.getD 315 []).drop 120) = true := by decide +kernel
theorem okc_315_4 : okLn 315 40 ((gP 315).drop 160) ((kQ.getD 315 []).drop 160) = true := by decide +kernel
theorem okc_315_5 : okLn 315 40 ((gP 315).drop 200) ((kQ.getD 315 []).drop 200) = true := by decide +kernel
theorem okc_315_6 : okLn 315 40 ((gP 315).drop 240) ((kQ.getD 315 []).drop 240) = true := by decide +kernel
theorem okc_315_7 : okLn 315 40 ((gP 315).drop 280) ((kQ.getD 315 []).drop 280) = true := by decide +kernel
theorem okc_315_8 : okLn 315 40 ((gP 315).drop 320) ((kQ.getD 315 []).drop 320) = true := by decide +kernel
theorem okc_315_9 : okLn 315 40 ((gP 315).drop 360) ((kQ.getD 315 []).drop 360) = true := by decide +kernel
theorem okc_315_10 : okLn 315 40 ((gP 315).drop 400) ((kQ.getD 315 []).drop 400) = true := by decide +kernel
theorem okc_315_11 : okLn 315 40 ((gP 315).drop 440) ((kQ.getD 315 []).drop 440) = true := by decide +kernel
theorem okc_315_12 : okLn 315 40 ((gP 315).drop 480) ((kQ.getD 315 []).drop 480) = true := by decide +kernel
theorem okc_315_13 : okLn 315 40 ((gP 315).drop 520) ((kQ.getD 315 []).drop 520) = true := by decide +kernel
theorem okc_315_14 : okLn 315 40 ((gP 315).drop 560) ((kQ.getD 315 []).drop 560) = true := by decide +kernel
theorem okc_315_15 : okLn 315 40 ((gP 315).drop 600) ((kQ.getD 315 []).drop 600) = true := by decide +kernel
theorem okc_315_16 : okLn 315 40 ((gP 315).drop 640) ((kQ.getD 315 []).drop 640) = true := by decide +kernel
theorem okc_315_17 : okLn 315 40 ((gP 315).drop 680) ((kQ.getD 315 []).drop 680) = true := by decide +kernel
theorem okc_315_18 : okLn 315 40 ((gP 315).drop 720) ((kQ.getD 315 []).drop 720) = true := by decide +kernel
theorem okc_315_19 : okLn 315 40 ((gP 315).drop 760) ((kQ.getD 315 []).drop 760) = true := by decide +kernel
theorem okc_315_20 : okLn 315 40 ((gP 315).drop 800) ((kQ.getD 315 []).drop 800) = true := by decide +kernel
theorem okc_315_21 : okLn 315 40 ((gP 315).drop 840) ((kQ.getD 315 []).drop 840) = true := by decide +kernel
theorem okc_315_22 : okLn 315 40 ((gP 315).drop 880) ((kQ.getD 315 []).drop 880) = true := by decide +kernel
theorem okc_315_23 : okLn 315 40 ((gP 315).drop 920) ((kQ.getD 315 []).drop 920) = true := by decide +kernel
theorem okc_315_24 : okLn 315 40 ((gP 315).drop 960) ((kQ.getD 315 []).drop 960) = true := by decide +kernel
theorem okc_315_25 : okLn 315 40 ((gP 315).drop 1000) ((kQ.getD 315 []).drop 1000) = true := by decide +kernel
theorem okc_315_26 : okL 315 ((gP 315).drop 1040) ((kQ.getD 315 []).drop 1040) = true := by decide +kernel
theorem ok_315 : okAll 315 = true := by
  have h := okm_315
  rw [Bool.and_eq_true] at h
  have hl : okL 315 (gP 315) (kQ.getD 315 []) = true := okLn_app 40 _ _ okc_315_0 (okLn_app 40 _ _ okc_315_1 (by rw [List.drop_drop, List.drop_drop]; exact okLn_app 40 _ _ okc_315_2 (by rw [List.drop_drop, List.drop_drop]; exact okLn_app 40 _ _ okc_315_3 (by rw [List.drop_drop, List.drop_drop]; exact okLn_app 40 _ _ okc_315_4 (by rw [List.drop_drop, List.drop_drop]; exact okLn_app 40 _ _ okc_315_5 (by rw [List.drop_drop, List.drop_drop]; exact okLn_app 40 _ _ okc_315_6 (by rw [List.drop_drop, List.drop_drop]; exact okLn_app 40 _ _ okc_315_7 (by rw [List.drop_drop, List.drop_drop]; exact okLn_app 40 _ _ okc_315_8 (by rw [List.drop_drop, List.drop_drop]; exact okLn_app 40 _ _ okc_315_9 (by rw [List.drop_drop, List.drop_drop]; exact okLn_app 40 _ _ okc_315_10 (by rw [List.drop_drop, List.drop_drop]; exact okLn_app 40 _ _ okc_315_11 (by rw [List.drop_drop, List.drop_drop]; exact okLn_app 40 _ _ okc_315_12 (by rw [List.drop_drop, List.drop_drop]; exact okLn_app 40 _ _ okc_315_13 (by rw [List.drop_drop, List.drop_drop]; exact okLn_app 40 _ _ okc_315_14 (by rw [List.drop_drop, List.drop_drop]; exact okLn_app 40 _ _ okc_315_15 (by rw [List.drop_drop, List.drop_drop]; exact okLn_app 40 _ _ okc_315_16 (by rw [List.drop_drop, List.drop_drop]; exact okLn_app 40 _ _ okc_315_17 (by rw [List.drop_drop, List.drop_drop]; exact okLn_app 40 _ _ okc_315_18 (by rw [List.drop_drop, List.drop_drop]; exact okLn_app 40 _ _ okc_315_19 (by rw [List.drop_drop, List.drop_drop]; exact okLn_app 40 _ _ okc_315_20 (by rw [List.drop_drop, List.drop_drop]; exact okLn_app 40 _ _ okc_315_21 (by rw [List.drop_drop, List.drop_drop]; exact okLn_app 40 _ _ okc_315_22 (by rw [List.drop_drop, List.drop_drop]; exact okLn_app 40 _ _ okc_315_23 (by rw [List.drop_drop, List.drop_drop]; exact okLn_app 40 _ _ okc_315_24 (by rw [List.drop_drop, List.drop_drop]; exact okLn_app 40 _ _ okc_315_25 (by rw [List.drop_drop, List.drop_drop]; exact okc_315_26))))))))))))))))))))))))))
  show (okM 315 && okL 315 (gP 315) (kQ.getD 315 []) && okZ (gP 315)) = true
  rw [h.1, hl, h.2]; rfl
end OK
