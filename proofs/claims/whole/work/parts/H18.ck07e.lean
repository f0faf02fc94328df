set_option maxRecDepth 100000 in
theorem zr_L_law_200 : zrg nL_law 200 40 = true := by decide +kernel
set_option maxRecDepth 100000 in
theorem zr_L_law_240 : zrg nL_law 240 40 = true := by decide +kernel
set_option maxRecDepth 100000 in
theorem zr_L_law_280 : zrg nL_law 280 40 = true := by decide +kernel
set_option maxRecDepth 100000 in
theorem zr_L_law_320 : zrg nL_law 320 14 = true := by decide +kernel
set_option maxRecDepth 100000 in
theorem zr_L_law_334 : zrg nL_law 334 31 = true := by decide +kernel
