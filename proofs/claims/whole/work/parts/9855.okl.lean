section OK
theorem okc_315_15 : okLn 315 40 ((gP 315).drop 600) ((kQ.getD 315 []).drop 600) = true := by decide +kernel
theorem okc_315_16 : okLn 315 40 ((gP 315).drop 640) ((kQ.getD 315 []).drop 640) = true := by decide +kernel
theorem okc_315_17 : okLn 315 40 ((gP 315).drop 680) ((kQ.getD 315 []).drop 680) = true := by decide +kernel
end OK
