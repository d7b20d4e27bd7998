/-! THE START: pacts' links, laws' fields, keys, what is seen of a year -/
set_option maxRecDepth 100000 in
theorem H0_pactp : ((List.range 15).all fun p => decide (hP H0 65 p = some (184 + 6 * p))) = true := by decide +kernel
set_option maxRecDepth 100000 in
theorem H0_lawv : ((List.range 6).all fun l => (List.range 4).all fun k => decide (hI H0 (136 + 8 * l) (8 + k) = 0)) = true := by decide +kernel
set_option maxRecDepth 100000 in
theorem H0_keys : ((List.range 29).all fun k => decide (hJ H0 83 k = keyN k)) = true := by decide +kernel
set_option maxRecDepth 100000 in
theorem H0_cview : ((List.range 2).all fun y => decide (hI H0 (104 + 17 * y) 1 = 360) && (List.range 6).all fun l => decide (hI H0 (105 + 17 * y) l = 0)) = true := by decide +kernel
