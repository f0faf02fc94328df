set_option maxRecDepth 100000 in
theorem zck_X8_lessShares : zckm nX8_lessShares = true := by decide +kernel
set_option maxRecDepth 100000 in
theorem zck_X8_scaled : zckm nX8_scaled = true := by decide +kernel
set_option maxRecDepth 100000 in
theorem zr_X8_monic_0 : zrg nX8_monic 0 40 = true := by decide +kernel
set_option maxRecDepth 100000 in
theorem zr_X8_monic_40 : zed nX8_monic 40 = true := by decide +kernel
theorem zck_X8_monic : zckm nX8_monic = true := zck_of (by decide +kernel) (zed_step zr_X8_monic_0 rfl zr_X8_monic_40)
set_option maxRecDepth 100000 in
theorem zck_X8_isWaiting : zckm nX8_isWaiting = true := by decide +kernel
set_option maxRecDepth 100000 in
theorem zck_X8_addPairs : zckm nX8_addPairs = true := by decide +kernel
set_option maxRecDepth 100000 in
theorem zr_X8_isPassed_0 : zrg nX8_isPassed 0 40 = true := by decide +kernel
set_option maxRecDepth 100000 in
theorem zr_X8_isPassed_40 : zed nX8_isPassed 40 = true := by decide +kernel
theorem zck_X8_isPassed : zckm nX8_isPassed = true := zck_of (by decide +kernel) (zed_step zr_X8_isPassed_0 rfl zr_X8_isPassed_40)
