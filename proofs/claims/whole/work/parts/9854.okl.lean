section OK
theorem okc_315_12 : okLn 315 40 ((gP 315).drop 480) ((kQ.getD 315 []).drop 480) = true := by decide +kernel
theorem okc_315_13 : okLn 315 40 ((gP 315).drop 520) ((kQ.getD 315 []).drop 520) = true := by decide +kernel
theorem okc_315_14 : okLn 315 40 ((gP 315).drop 560) ((kQ.getD 315 []).drop 560) = true := by decide +kernel
end OK
