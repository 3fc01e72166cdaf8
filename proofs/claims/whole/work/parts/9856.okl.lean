section OK
theorem okc_315_18 : okLn 315 40 ((gP 315).drop 720) ((kQ.getD 315 []).drop 720) = true := by decide +kernel
theorem okc_315_19 : okLn 315 40 ((gP 315).drop 760) ((kQ.getD 315 []).drop 760) = true := by decide +kernel
theorem okc_315_20 : okLn 315 40 ((gP 315).drop 800) ((kQ.getD 315 []).drop 800) = true := by decide +kernel
end OK
