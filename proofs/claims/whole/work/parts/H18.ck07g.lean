set_option maxRecDepth 100000 in
theorem zr_L_law_522 : zrg nL_law 522 12 = true := by decide +kernel
set_option maxRecDepth 100000 in
theorem zr_L_law_534 : zrg nL_law 534 17 = true := by decide +kernel
set_option maxRecDepth 100000 in
theorem zr_L_law_551 : zrg nL_law 551 7 = true := by decide +kernel
set_option maxRecDepth 100000 in
theorem zr_L_law_558 : zed nL_law 558 = true := by decide +kernel
theorem zck_L_law : zckm nL_law = true := zck_of (by decide +kernel) (zed_step zr_L_law_0 rfl (zed_step zr_L_law_40 rfl (zed_step zr_L_law_80 rfl (zed_step zr_L_law_120 rfl (zed_step zr_L_law_160 rfl (zed_step zr_L_law_200 rfl (zed_step zr_L_law_240 rfl (zed_step zr_L_law_280 rfl (zed_step zr_L_law_320 rfl (zed_step zr_L_law_334 rfl (zed_step zr_L_law_365 rfl (zed_step zr_L_law_405 rfl (zed_step zr_L_law_445 rfl (zed_step zr_L_law_473 rfl (zed_step zr_L_law_505 rfl (zed_step zr_L_law_522 rfl (zed_step zr_L_law_534 rfl (zed_step zr_L_law_551 rfl zr_L_law_558))))))))))))))))))
