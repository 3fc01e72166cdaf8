section OK
theorem ok_35 : (List.range' 35 7).all okAll = true := by decide +kernel
theorem ok_42 : (List.range' 42 7).all okAll = true := by decide +kernel
theorem ok_49 : (List.range' 49 7).all okAll = true := by decide +kernel
theorem ok_56 : (List.range' 56 7).all okAll = true := by decide +kernel
theorem ok_63 : (List.range' 63 7).all okAll = true := by decide +kernel
end OK
