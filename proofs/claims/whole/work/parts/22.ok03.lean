section OK
theorem ok_105 : (List.range' 105 7).all okAll = true := by decide +kernel
theorem ok_112 : (List.range' 112 7).all okAll = true := by decide +kernel
theorem ok_119 : (List.range' 119 7).all okAll = true := by decide +kernel
theorem ok_126 : (List.range' 126 7).all okAll = true := by decide +kernel
theorem ok_133 : (List.range' 133 7).all okAll = true := by decide +kernel
end OK
