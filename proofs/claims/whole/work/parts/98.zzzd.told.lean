/-! THE START: tops -/
set_option maxRecDepth 100000 in
theorem H0_ctop : ((List.range 15).all fun p => (List.range 6).all fun k => decide (hI H0 (186 + 6 * p) k = 100)) = true := by decide +kernel
