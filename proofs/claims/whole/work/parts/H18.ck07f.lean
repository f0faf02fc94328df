set_option maxRecDepth 100000 in
theorem zr_L_law_365 : zrg nL_law 365 40 = true := by decide +kernel
set_option maxRecDepth 100000 in
theorem zr_L_law_405 : zrg nL_law 405 40 = true := by decide +kernel
set_option maxRecDepth 100000 in
theorem zr_L_law_445 : zrg nL_law 445 28 = true := by decide +kernel
set_option maxRecDepth 100000 in
theorem zr_L_law_473 : zrg nL_law 473 32 = true := by decide +kernel
set_option maxRecDepth 100000 in
theorem zr_L_law_505 : zrg nL_law 505 17 = true := by decide +kernel
