/-! THE HEAP AFTER THE CONSTRUCTORS -/
def H0 : Hp := HF146 301 (alc (HF96 62 (alc hp0 (11, 0) 14)) (12, 0) 89)
set_option maxRecDepth 100000 in
theorem H0_N : hN H0 = nOb := by decide +kernel
set_option maxRecDepth 100000 in
theorem H0_M : hN (HF96 62 (alc hp0 (11, 0) 14)) = 301 := by decide +kernel
set_option maxRecDepth 100000 in
theorem H0_K : hK H0 = nSl := by decide +kernel
set_option maxRecDepth 100000 in
theorem H0_S : (List.range nOb).all (fun a => decide (hS H0 a = SH a)) = true := by decide +kernel
