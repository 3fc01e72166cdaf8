section OK
theorem okc_315_0 : okLn 315 40 ((gP 315).drop 0) ((kQ.getD 315 []).drop 0) = true := by decide +kernel
theorem okc_315_1 : okLn 315 40 ((gP 315).drop 40) ((kQ.getD 315 []).drop 40) = true := by decide +kernel
theorem okc_315_2 : okLn 315 40 ((gP 315).drop 80) ((kQ.getD 315 []).drop 80) = true := by decide +kernel
end OK
