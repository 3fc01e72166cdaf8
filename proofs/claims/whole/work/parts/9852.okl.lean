section OK
theorem okc_315_6 : okLn 315 40 ((gP 315).drop 240) ((kQ.getD 315 []).drop 240) = true := by decide +kernel
theorem okc_315_7 : okLn 315 40 ((gP 315).drop 280) ((kQ.getD 315 []).drop 280) = true := by decide +kernel
theorem okc_315_8 : okLn 315 40 ((gP 315).drop 320) ((kQ.getD 315 []).drop 320) = true := by decide +kernel
end OK
