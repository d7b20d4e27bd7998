/-! THE HEAP AFTER THE CONSTRUCTORS -/
/-- as it is made; and by the parts' numbers -/
def HR : Hp := HF146 301 (alc (HF96 62 (alc hp0 (11, 0) 14)) (12, 0) 89)
def H0 : Hp := qH HR
set_option maxRecDepth 100000 in
theorem H0_N : hN H0 = nOb := by decide +kernel
set_option maxRecDepth 100000 in
theorem H0_M : hN (HF96 62 (alc hp0 (11, 0) 14)) = 301 := by decide +kernel
set_option maxRecDepth 100000 in
theorem H0_K : hK H0 = nSl := by decide +kernel
set_option maxRecDepth 100000 in
theorem H0_S : (List.range nOb).all (fun a => decide (hS H0 a = SH a)) = true := by decide +kernel
set_option maxRecDepth 100000 in
theorem H0_P : (List.range nOb).all (fun a => (List.range (LKL.getD (a - 62) []).length).all (fun k => decide (LK a k = none ∨ hP H0 a k = LK a k))) = true := by decide +kernel
set_option maxRecDepth 100000 in
theorem H0_T : (List.range nOb).all (fun a => (List.range (SH a).2).all (fun k => decide ((SH a).1 < 60 ∨ 72 ≤ (SH a).1) || (match hP H0 a k with | some v => decide (SH v = ((SH a).1 - 59, 0)) | none => false))) = true := by decide +kernel
