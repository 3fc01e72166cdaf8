section OK
theorem okm_190 : (okM 190 && okZ (gP 190)) = true := by decide +kernel
theorem okc_190_0 : okLn 190 40 ((gP 190).drop 0) ((kQ.getD 190 []).drop 0) = true := by decide +kernel
theorem okc_190_1 : okL 190 ((gP 190).drop 40) ((kQ.getD 190 []).drop 40) = true := by decide +kernel
theorem ok_190 : okAll 190 = true := by
  have h := okm_190
  rw [Bool.and_eq_true] at h
  have hl : okL 190 (gP 190) (kQ.getD 190 []) = true := okLn_app 40 _ _ okc_190_0 (okc_190_1)
  show (okM 190 && okL 190 (gP 190) (kQ.getD 190 []) && okZ (gP 190)) = true
  rw [h.1, hl, h.2]; rfl
theorem ok_191 : okAll 191 = true := by decide +kernel
theorem ok_192 : okAll 192 = true := by decide +kernel
theorem ok_193 : okAll 193 = true := by decide +kernel
theorem ok_194 : okAll 194 = true := by decide +kernel
theorem ok_195 : okAll 195 = true := by decide +kernel
theorem ok_196 : okAll 196 = true := by decide +kernel
theorem ok_197 : okAll 197 = true := by decide +kernel
theorem ok_198 : okAll 198 = true := by decide +kernel
theorem ok_199 : okAll 199 = true := by decide +kernel
theorem ok_200 : okAll 200 = true := by decide +kernel
theorem ok_201 : okAll 201 = true := by decide +kernel
theorem ok_202 : okAll 202 = true := by decide +kernel
theorem okm_203 : (okM 203 && okZ (gP 203)) = true := by decide +kernel
theorem okc_203_0 : okLn 203 40 ((gP 203).drop 0) ((kQ.getD 203 []).drop 0) = true := by decide +kernel
theorem okc_203_1 : okLn 203 40 ((gP 203).drop 40) ((kQ.getD 203 []).drop 40) = true := by decide +kernel
theorem okc_203_2 : okLn 203 40 ((gP 203).drop 80) ((kQ.getD 203 []).drop 80) = true := by decide +kernel
theorem okc_203_3 : okLn 203 40 ((gP 203).drop 120) ((kQ.getD 203 []).drop 120) = true := by decide +kernel
theorem okc_203_4 : okL 203 ((gP 203).drop 160) ((kQ.getD 203 []).drop 160) = true := by decide +kernel
theorem ok_203 : okAll 203 = true := by
  have h := okm_203
  rw [Bool.and_eq_true] at h
  have hl : okL 203 (gP 203) (kQ.getD 203 []) = true := okLn_app 40 _ _ okc_203_0 (okLn_app 40 _ _ okc_203_1 (by rw [List.drop_drop, List.drop_drop]; exact okLn_app 40 _ _ okc_203_2 (by rw [List.drop_drop, List.drop_drop]; exact okLn_app 40 _ _ okc_203_3 (by rw [List.drop_drop, List.drop_drop]; exact okc_203_4))))
  show (okM 203 && okL 203 (gP 203) (kQ.getD 203 []) && okZ (gP 203)) = true
  rw [h.1, hl, h.2]; rfl
theorem okm_204 : (okM 204 && okZ (gP 204)) = true := by decide +kernel
theorem okc_204_0 : okLn 204 40 ((gP 204).drop 0) ((kQ.getD 204 []).drop 0) = true := by decide +kernel
theorem okc_204_1 : okLn 204 40 ((gP 204).drop 40) ((kQ.getD 204 []).drop 40) = true := by decide +kernel
theorem okc_204_2 : okLn 204 40 ((gP 204).drop 80) ((kQ.getD 204 []).drop 80) = true := by decide +kernel
theorem okc_204_3 : okL 204 ((gP 204).drop 120) ((kQ.getD 204 []).drop 120) = true := by decide +kernel
theorem ok_204 : okAll 204 = true := by
  have h := okm_204
  rw [Bool.and_eq_true] at h
  have hl : okL 204 (gP 204) (kQ.getD 204 []) = true := okLn_app 40 _ _ okc_204_0 (okLn_app 40 _ _ okc_204_1 (by rw [List.drop_drop, List.drop_drop]; exact okLn_app 40 _ _ okc_204_2 (by rw [List.drop_drop, List.drop_drop]; exact okc_204_3)))
  show (okM 204 && okL 204 (gP 204) (kQ.getD 204 []) && okZ (gP 204)) = true
  rw [h.1, hl, h.2]; rfl
theorem okm_205 : (okM 205 && okZ (gP 205)) = true := by decide +kernel
theorem okc_205_0 : okLn 205 40 ((gP 205).drop 0) ((kQ.getD 205 []).drop 0) = true := by decide +kernel
theorem okc_205_1 : okLn 205 40 ((gP 205).drop 40) ((kQ.getD 205 []).drop 40) = true := by decide +kernel
theorem okc_205_2 : okLn 205 40 ((gP 205).drop 80) ((kQ.getD 205 []).drop 80) = true := by decide +kernel
theorem okc_205_3 : okLn 205 40 ((gP 205).drop 120) ((kQ.getD 205 []).drop 120) = true := by decide +kernel
theorem okc_205_4 : okLn 205 40 ((gP 205).drop 160) ((kQ.getD 205 []).drop 160) = true := by decide +kernel
theorem okc_205_5 : okLn 205 40 ((gP 205).drop 200) ((kQ.getD 205 []).drop 200) = true := by decide +kernel
theorem okc_205_6 : okL 205 ((gP 205).drop 240) ((kQ.getD 205 []).drop 240) = true := by decide +kernel
theorem ok_205 : okAll 205 = true := by
  have h := okm_205
  rw [Bool.and_eq_true] at h
  have hl : okL 205 (gP 205) (kQ.getD 205 []) = true := okLn_app 40 _ _ okc_205_0 (okLn_app 40 _ _ okc_205_1 (by rw [List.drop_drop, List.drop_drop]; exact okLn_app 40 _ _ okc_205_2 (by rw [List.drop_drop, List.drop_drop]; exact okLn_app 40 _ _ okc_205_3 (by rw [List.drop_drop, List.drop_drop]; exact okLn_app 40 _ _ okc_205_4 (by rw [List.drop_drop, List.drop_drop]; exact okLn_app 40 _ _ okc_205_5 (by rw [List.drop_drop, List.drop_drop]; exact okc_205_6))))))
  show (okM 205 && okL 205 (gP 205) (kQ.getD 205 []) && okZ (gP 205)) = true
  rw [h.1, hl, h.2]; rfl
end OK
