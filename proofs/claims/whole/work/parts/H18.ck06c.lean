set_option maxRecDepth 100000 in
theorem zr_X8_clean_0 : zrg nX8_clean 0 40 = true := by decide +kernel
set_option maxRecDepth 100000 in
theorem zr_X8_clean_40 : zrg nX8_clean 40 40 = true := by decide +kernel
set_option maxRecDepth 100000 in
theorem zr_X8_clean_80 : zrg nX8_clean 80 40 = true := by decide +kernel
set_option maxRecDepth 100000 in
theorem zr_X8_clean_120 : zed nX8_clean 120 = true := by decide +kernel
theorem zck_X8_clean : zckm nX8_clean = true := zck_of (by decide +kernel) (zed_step zr_X8_clean_0 rfl (zed_step zr_X8_clean_40 rfl (zed_step zr_X8_clean_80 rfl zr_X8_clean_120)))
set_option maxRecDepth 100000 in
theorem zr_X8_reduce_0 : zrg nX8_reduce 0 35 = true := by decide +kernel
set_option maxRecDepth 100000 in
theorem zr_X8_reduce_35 : zrg nX8_reduce 35 7 = true := by decide +kernel
set_option maxRecDepth 100000 in
theorem zr_X8_reduce_42 : zrg nX8_reduce 42 16 = true := by decide +kernel
set_option maxRecDepth 100000 in
theorem zr_X8_reduce_58 : zrg nX8_reduce 58 4 = true := by decide +kernel
set_option maxRecDepth 100000 in
theorem zr_X8_reduce_62 : zrg nX8_reduce 62 28 = true := by decide +kernel
set_option maxRecDepth 100000 in
theorem zr_X8_reduce_90 : zed nX8_reduce 90 = true := by decide +kernel
theorem zck_X8_reduce : zckm nX8_reduce = true := zck_of (by decide +kernel) (zed_step zr_X8_reduce_0 rfl (zed_step zr_X8_reduce_35 rfl (zed_step zr_X8_reduce_42 rfl (zed_step zr_X8_reduce_58 rfl (zed_step zr_X8_reduce_62 rfl zr_X8_reduce_90)))))
