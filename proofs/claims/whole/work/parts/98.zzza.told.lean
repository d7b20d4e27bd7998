/-! THE START: rows of links, laws' and years' fields -/
set_option maxRecDepth 100000 in
theorem H0_lawp : ((List.range 6).all fun l => decide (hP H0 64 l = some (136 + 8 * l))) = true := by decide +kernel
set_option maxRecDepth 100000 in
theorem H0_ringp : ((List.range 6).all fun p => decide (hP H0 292 p = some (293 + p))) = true := by decide +kernel
set_option maxRecDepth 100000 in
theorem H0_year : ((List.range 2).all fun y => decide (hI H0 (102 + 17 * y) 3 = 0) && decide (hI H0 303 y = 0) && decide (hI H0 304 (2 * y) = -1) && decide (hI H0 304 (2 * y + 1) = -1) && decide (hI H0 305 y = 0)) = true := by decide +kernel
set_option maxRecDepth 100000 in
theorem H0_mlaw : ((List.range 6).all fun l => decide (hI H0 311 l = 0) && decide (hI H0 319 l = 0) && decide (hI H0 318 l = 0) && decide (hI H0 322 l = 0)) = true := by decide +kernel
set_option maxRecDepth 100000 in
theorem H0_leg : ((List.range 8).all fun k => decide (hI H0 282 k = legF k)) = true := by decide +kernel
