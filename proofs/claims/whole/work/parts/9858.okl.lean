section OK
theorem okc_315_24 : okLn 315 40 ((gP 315).drop 960) ((kQ.getD 315 []).drop 960) = true := by decide +kernel
theorem okc_315_25 : okLn 315 40 ((gP 315).drop 1000) ((kQ.getD 315 []).drop 1000) = true := by decide +kernel
theorem okc_315_26 : okL 315 ((gP 315).drop 1040) ((kQ.getD 315 []).drop 1040) = true := by decide +kernel
end OK
