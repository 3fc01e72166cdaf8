section OK
theorem ok_0 : (List.range' 0 7).all okAll = true := by decide +kernel
theorem ok_7 : (List.range' 7 7).all okAll = true := by decide +kernel
theorem ok_14 : (List.range' 14 7).all okAll = true := by decide +kernel
theorem ok_21 : (List.range' 21 7).all okAll = true := by decide +kernel
theorem ok_28 : (List.range' 28 7).all okAll = true := by decide +kernel
end OK
