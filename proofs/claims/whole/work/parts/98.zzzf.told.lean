/-! THE START: nights, in slices -/
set_option maxRecDepth 100000 in
theorem H0_n0 : ((List.range 40).all fun k => decide (hI H0 103 k = nv 6)) = true := by decide +kernel
