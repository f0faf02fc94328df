set_option maxRecDepth 100000 in
theorem zr_X8_certificate_0 : zrg nX8_certificate 0 40 = true := by decide +kernel
set_option maxRecDepth 100000 in
theorem zr_X8_certificate_40 : zed nX8_certificate 40 = true := by decide +kernel
theorem zck_X8_certificate : zckm nX8_certificate = true := zck_of (by decide +kernel) (zed_step zr_X8_certificate_0 rfl zr_X8_certificate_40)
set_option maxRecDepth 100000 in
theorem zr_X8_check_0 : zrg nX8_check 0 40 = true := by decide +kernel
set_option maxRecDepth 100000 in
theorem zr_X8_check_40 : zed nX8_check 40 = true := by decide +kernel
theorem zck_X8_check : zckm nX8_check = true := zck_of (by decide +kernel) (zed_step zr_X8_check_0 rfl zr_X8_check_40)
set_option maxRecDepth 100000 in
theorem zr_X8_radical_0 : zrg nX8_radical 0 40 = true := by decide +kernel
set_option maxRecDepth 100000 in
theorem zr_X8_radical_40 : zrg nX8_radical 40 23 = true := by decide +kernel
set_option maxRecDepth 100000 in
theorem zr_X8_radical_63 : zrg nX8_radical 63 11 = true := by decide +kernel
set_option maxRecDepth 100000 in
theorem zr_X8_radical_74 : zed nX8_radical 74 = true := by decide +kernel
theorem zck_X8_radical : zckm nX8_radical = true := zck_of (by decide +kernel) (zed_step zr_X8_radical_0 rfl (zed_step zr_X8_radical_40 rfl (zed_step zr_X8_radical_63 rfl zr_X8_radical_74)))
