/-! THE START: pacts' rows on both sides, ties -/
set_option maxRecDepth 100000 in
theorem H0_m331 : ((List.range 37).all fun p => decide (hI H0 331 p = 0)) = true := by decide +kernel
set_option maxRecDepth 100000 in
theorem H0_mpact : ((List.range 15).all fun p => decide (hI H0 328 (pmOf p) = 0) && decide (hI H0 330 (pmOf p) = -1) && decide (hI H0 326 (pmOf p) = 0)) = true := by decide +kernel
set_option maxRecDepth 100000 in
theorem H0_ties : ((List.range 2).all fun y => decide (hI H0 (104 + 17 * y) 2 = 0) && decide (hI H0 (104 + 17 * y) 3 = -1) && decide (hI H0 (104 + 17 * y) 4 = -1)) = true := by decide +kernel
set_option maxRecDepth 100000 in
theorem H0_pactv : ((List.range 15).all fun p => decide (hI H0 (184 + 6 * p) 2 = 0) && decide (hI H0 (184 + 6 * p) 3 = 0) && decide (hI H0 (184 + 6 * p) 5 = 0) && decide (hI H0 (184 + 6 * p) 6 = 0)) = true := by decide +kernel
