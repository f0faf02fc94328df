set_option maxRecDepth 100000 in
theorem zr_X8_onePair_0 : zrg nX8_onePair 0 40 = true := by decide +kernel
set_option maxRecDepth 100000 in
theorem zr_X8_onePair_40 : zrg nX8_onePair 40 40 = true := by decide +kernel
set_option maxRecDepth 100000 in
theorem zr_X8_onePair_80 : zrg nX8_onePair 80 40 = true := by decide +kernel
set_option maxRecDepth 100000 in
theorem zr_X8_onePair_120 : zrg nX8_onePair 120 40 = true := by decide +kernel
set_option maxRecDepth 100000 in
theorem zr_X8_onePair_160 : zrg nX8_onePair 160 29 = true := by decide +kernel
set_option maxRecDepth 100000 in
theorem zr_X8_onePair_189 : zrg nX8_onePair 189 40 = true := by decide +kernel
set_option maxRecDepth 100000 in
theorem zr_X8_onePair_229 : zrg nX8_onePair 229 35 = true := by decide +kernel
set_option maxRecDepth 100000 in
theorem zr_X8_onePair_264 : zed nX8_onePair 264 = true := by decide +kernel
theorem zck_X8_onePair : zckm nX8_onePair = true := zck_of (by decide +kernel) (zed_step zr_X8_onePair_0 rfl (zed_step zr_X8_onePair_40 rfl (zed_step zr_X8_onePair_80 rfl (zed_step zr_X8_onePair_120 rfl (zed_step zr_X8_onePair_160 rfl (zed_step zr_X8_onePair_189 rfl (zed_step zr_X8_onePair_229 rfl zr_X8_onePair_264)))))))
