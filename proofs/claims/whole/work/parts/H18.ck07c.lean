set_option maxRecDepth 100000 in
theorem zr_X8_free_0 : zrg nX8_free 0 40 = true := by decide +kernel
set_option maxRecDepth 100000 in
theorem zr_X8_free_40 : zed nX8_free 40 = true := by decide +kernel
theorem zck_X8_free : zckm nX8_free = true := zck_of (by decide +kernel) (zed_step zr_X8_free_0 rfl zr_X8_free_40)
set_option maxRecDepth 100000 in
theorem zr_X8_stairs_0 : zrg nX8_stairs 0 40 = true := by decide +kernel
set_option maxRecDepth 100000 in
theorem zr_X8_stairs_40 : zrg nX8_stairs 40 40 = true := by decide +kernel
set_option maxRecDepth 100000 in
theorem zr_X8_stairs_80 : zrg nX8_stairs 80 40 = true := by decide +kernel
set_option maxRecDepth 100000 in
theorem zr_X8_stairs_120 : zed nX8_stairs 120 = true := by decide +kernel
theorem zck_X8_stairs : zckm nX8_stairs = true := zck_of (by decide +kernel) (zed_step zr_X8_stairs_0 rfl (zed_step zr_X8_stairs_40 rfl (zed_step zr_X8_stairs_80 rfl zr_X8_stairs_120)))
set_option maxRecDepth 100000 in
theorem zck_X8_isStair : zckm nX8_isStair = true := by decide +kernel
set_option maxRecDepth 100000 in
theorem zck_L_cell : zckm nL_cell = true := by decide +kernel
