/-! THE START: the model's tops; the first nights -/
set_option maxRecDepth 100000 in
theorem H0_mtop : ((List.range 15).all fun p => (List.range 6).all fun k => decide (hI H0 329 (6 * pmOf p + k) = -1)) = true := by decide +kernel
theorem cnt_6 : ∀ l, l < 6 → cnt (fun _ => 6) l 360 = 0 := by decide +kernel
theorem cnt_66 : cnt (fun _ => 6) 6 360 = 360 := by decide +kernel
