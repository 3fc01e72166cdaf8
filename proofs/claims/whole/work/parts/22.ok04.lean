section OK
theorem ok_140 : (List.range' 140 7).all okAll = true := by decide +kernel
theorem ok_147 : (List.range' 147 7).all okAll = true := by decide +kernel
theorem ok_154 : (List.range' 154 7).all okAll = true := by decide +kernel
theorem ok_161 : (List.range' 161 7).all okAll = true := by decide +kernel
theorem ok_168 : (List.range' 168 7).all okAll = true := by decide +kernel
end OK
