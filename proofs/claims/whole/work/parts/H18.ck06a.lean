set_option maxRecDepth 100000 in
theorem zr_X8_make_0 : zrg nX8_make 0 40 = true := by decide +kernel
set_option maxRecDepth 100000 in
theorem zr_X8_make_40 : zrg nX8_make 40 40 = true := by decide +kernel
set_option maxRecDepth 100000 in
theorem zr_X8_make_80 : zrg nX8_make 80 4 = true := by decide +kernel
set_option maxRecDepth 100000 in
theorem zr_X8_make_84 : zrg nX8_make 84 6 = true := by decide +kernel
set_option maxRecDepth 100000 in
theorem zr_X8_make_90 : zrg nX8_make 90 23 = true := by decide +kernel
set_option maxRecDepth 100000 in
theorem zr_X8_make_113 : zrg nX8_make 113 20 = true := by decide +kernel
set_option maxRecDepth 100000 in
theorem zr_X8_make_133 : zrg nX8_make 133 15 = true := by decide +kernel
set_option maxRecDepth 100000 in
theorem zr_X8_make_148 : zed nX8_make 148 = true := by decide +kernel
theorem zck_X8_make : zckm nX8_make = true := zck_of (by decide +kernel) (zed_step zr_X8_make_0 rfl (zed_step zr_X8_make_40 rfl (zed_step zr_X8_make_80 rfl (zed_step zr_X8_make_84 rfl (zed_step zr_X8_make_90 rfl (zed_step zr_X8_make_113 rfl (zed_step zr_X8_make_133 rfl zr_X8_make_148)))))))
set_option maxRecDepth 100000 in
theorem zck_X8_move : zckm nX8_move = true := by decide +kernel
set_option maxRecDepth 100000 in
theorem zck_X8_generator : zckm nX8_generator = true := by decide +kernel
set_option maxRecDepth 100000 in
theorem zck_X8_clear : zckm nX8_clear = true := by decide +kernel
