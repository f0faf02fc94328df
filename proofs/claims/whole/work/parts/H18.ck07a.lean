set_option maxRecDepth 100000 in
theorem zr_X8_basis_0 : zrg nX8_basis 0 40 = true := by decide +kernel
set_option maxRecDepth 100000 in
theorem zr_X8_basis_40 : zed nX8_basis 40 = true := by decide +kernel
theorem zck_X8_basis : zckm nX8_basis = true := zck_of (by decide +kernel) (zed_step zr_X8_basis_0 rfl zr_X8_basis_40)
set_option maxRecDepth 100000 in
theorem zck_X8_done : zckm nX8_done = true := by decide +kernel
set_option maxRecDepth 100000 in
theorem zck_X8_element : zckm nX8_element = true := by decide +kernel
set_option maxRecDepth 100000 in
theorem zck_X8_share : zckm nX8_share = true := by decide +kernel
set_option maxRecDepth 100000 in
theorem zck_X8_own : zckm nX8_own = true := by decide +kernel
set_option maxRecDepth 100000 in
theorem zr_X8_divide_0 : zrg nX8_divide 0 25 = true := by decide +kernel
set_option maxRecDepth 100000 in
theorem zr_X8_divide_25 : zrg nX8_divide 25 17 = true := by decide +kernel
set_option maxRecDepth 100000 in
theorem zr_X8_divide_42 : zed nX8_divide 42 = true := by decide +kernel
theorem zck_X8_divide : zckm nX8_divide = true := zck_of (by decide +kernel) (zed_step zr_X8_divide_0 rfl (zed_step zr_X8_divide_25 rfl zr_X8_divide_42))
