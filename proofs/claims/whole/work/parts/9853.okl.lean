section OK
theorem okc_315_9 : okLn 315 40 ((gP 315).drop 360) ((kQ.getD 315 []).drop 360) = true := by decide +kernel
theorem okc_315_10 : okLn 315 40 ((gP 315).drop 400) ((kQ.getD 315 []).drop 400) = true := by decide +kernel
theorem okc_315_11 : okLn 315 40 ((gP 315).drop 440) ((kQ.getD 315 []).drop 440) = true := by decide +kernel
end OK
