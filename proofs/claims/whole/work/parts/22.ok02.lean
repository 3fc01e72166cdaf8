section OK
theorem ok_70 : (List.range' 70 7).all okAll = true := by decide +kernel
theorem ok_77 : (List.range' 77 7).all okAll = true := by decide +kernel
theorem ok_84 : (List.range' 84 7).all okAll = true := by decide +kernel
theorem ok_91 : (List.range' 91 7).all okAll = true := by decide +kernel
theorem ok_98 : (List.range' 98 7).all okAll = true := by decide +kernel
end OK
