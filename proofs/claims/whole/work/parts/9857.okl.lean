section OK
theorem okc_315_21 : okLn 315 40 ((gP 315).drop 840) ((kQ.getD 315 []).drop 840) = true := by decide +kernel
theorem okc_315_22 : okLn 315 40 ((gP 315).drop 880) ((kQ.getD 315 []).drop 880) = true := by decide +kernel
theorem okc_315_23 : okLn 315 40 ((gP 315).drop 920) ((kQ.getD 315 []).drop 920) = true := by decide +kernel
end OK
