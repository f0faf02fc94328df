set_option maxRecDepth 100000 in
theorem zr_L_law_0 : zrg nL_law 0 40 = true := by decide +kernel
set_option maxRecDepth 100000 in
theorem zr_L_law_40 : zrg nL_law 40 40 = true := by decide +kernel
set_option maxRecDepth 100000 in
theorem zr_L_law_80 : zrg nL_law 80 40 = true := by decide +kernel
set_option maxRecDepth 100000 in
theorem zr_L_law_120 : zrg nL_law 120 40 = true := by decide +kernel
set_option maxRecDepth 100000 in
theorem zr_L_law_160 : zrg nL_law 160 40 = true := by decide +kernel
