/-! THE START: what H0 tells; links, and the class's and the model's own fields -/
set_option maxRecDepth 100000 in
theorem H0_spare : hP H0 62 11 = some 91 ∧ hP H0 62 12 = some 99 := by decide +kernel
set_option maxRecDepth 100000 in
theorem H0_mod : hI H0 301 35 = 0 ∧ hI H0 301 42 = 0 ∧ hI H0 301 44 = -1 ∧ hI H0 301 73 = 0 ∧ hI H0 301 76 = 0 ∧ hI H0 301 77 = 0 ∧ hI H0 301 84 = 0 := by decide +kernel
set_option maxRecDepth 100000 in
theorem H0_cls : hI H0 62 13 = 0 ∧ hI H0 82 11 = 0 ∧ hI H0 82 12 = -1 ∧ hI H0 67 8 = 0 ∧ hI H0 67 9 = 0 ∧ hI H0 67 10 = 0 ∧ hI H0 76 4 = 0 := by decide +kernel
