set_option maxRecDepth 100000 in
theorem zck_X0_init : zckm nX0_init = true := by decide +kernel
set_option maxRecDepth 100000 in
theorem zck_X0_allow : zckm nX0_allow = true := by decide +kernel
set_option maxRecDepth 100000 in
theorem zck_X0_makeReady : zckm nX0_makeReady = true := by decide +kernel
set_option maxRecDepth 100000 in
theorem zck_X0_run : zckm nX0_run = true := by decide +kernel
set_option maxRecDepth 100000 in
theorem zck_X0_firstDivisor : zckm nX0_firstDivisor = true := by decide +kernel
set_option maxRecDepth 100000 in
theorem zck_X1_init : zckm nX1_init = true := by decide +kernel
set_option maxRecDepth 100000 in
theorem zck_X1_leading : zckm nX1_leading = true := by decide +kernel
set_option maxRecDepth 100000 in
theorem zck_X1_makeMonic : zckm nX1_makeMonic = true := by decide +kernel
set_option maxRecDepth 100000 in
theorem zck_X2_over : zckm nX2_over = true := by decide +kernel
set_option maxRecDepth 100000 in
theorem zck_X2_under : zckm nX2_under = true := by decide +kernel
set_option maxRecDepth 100000 in
theorem zck_X2_lowest : zckm nX2_lowest = true := by decide +kernel
set_option maxRecDepth 100000 in
theorem zck_X2_sum : zckm nX2_sum = true := by decide +kernel
set_option maxRecDepth 100000 in
theorem zck_X2_product : zckm nX2_product = true := by decide +kernel
set_option maxRecDepth 100000 in
theorem zck_X2_negative : zckm nX2_negative = true := by decide +kernel
set_option maxRecDepth 100000 in
theorem zck_X2_inverse : zckm nX2_inverse = true := by decide +kernel
set_option maxRecDepth 100000 in
theorem zck_X3_init : zckm nX3_init = true := by decide +kernel
set_option maxRecDepth 100000 in
theorem zck_X3_build : zckm nX3_build = true := by decide +kernel
set_option maxRecDepth 100000 in
theorem zck_X3_begin : zckm nX3_begin = true := by decide +kernel
set_option maxRecDepth 100000 in
theorem zck_X3_adopt : zckm nX3_adopt = true := by decide +kernel
set_option maxRecDepth 100000 in
theorem zck_X3_add : zckm nX3_add = true := by decide +kernel
set_option maxRecDepth 100000 in
theorem zck_X3_choosePair : zckm nX3_choosePair = true := by decide +kernel
set_option maxRecDepth 100000 in
theorem zck_X3_settlePair : zckm nX3_settlePair = true := by decide +kernel
set_option maxRecDepth 100000 in
theorem zck_X3_isNeedless : zckm nX3_isNeedless = true := by decide +kernel
set_option maxRecDepth 100000 in
theorem zck_X3_isWaiting : zckm nX3_isWaiting = true := by decide +kernel
set_option maxRecDepth 100000 in
theorem zck_X3_crossOut : zckm nX3_crossOut = true := by decide +kernel
