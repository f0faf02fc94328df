set_option maxRecDepth 100000 in
theorem zr_X8_divided_0 : zrg nX8_divided 0 40 = true := by decide +kernel
set_option maxRecDepth 100000 in
theorem zr_X8_divided_40 : zrg nX8_divided 40 40 = true := by decide +kernel
set_option maxRecDepth 100000 in
theorem zr_X8_divided_80 : zrg nX8_divided 80 40 = true := by decide +kernel
set_option maxRecDepth 100000 in
theorem zr_X8_divided_120 : zrg nX8_divided 120 40 = true := by decide +kernel
set_option maxRecDepth 100000 in
theorem zr_X8_divided_160 : zrg nX8_divided 160 40 = true := by decide +kernel
set_option maxRecDepth 100000 in
theorem zr_X8_divided_200 : zed nX8_divided 200 = true := by decide +kernel
theorem zck_X8_divided : zckm nX8_divided = true := zck_of (by decide +kernel) (zed_step zr_X8_divided_0 rfl (zed_step zr_X8_divided_40 rfl (zed_step zr_X8_divided_80 rfl (zed_step zr_X8_divided_120 rfl (zed_step zr_X8_divided_160 rfl zr_X8_divided_200)))))
set_option maxRecDepth 100000 in
theorem zck_X8_cofactor : zckm nX8_cofactor = true := by decide +kernel
