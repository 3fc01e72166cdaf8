section OK
theorem okc_315_3 : okLn 315 40 ((gP 315).drop 120) ((kQ.getD 315 []).drop 120) = true := by decide +kernel
theorem okc_315_4 : okLn 315 40 ((gP 315).drop 160) ((kQ.getD 315 []).drop 160) = true := by decide +kernel
theorem okc_315_5 : okLn 315 40 ((gP 315).drop 200) ((kQ.getD 315 []).drop 200) = true := by decide +kernel
end OK
