set_option maxRecDepth 100000 in
theorem zck_X7_element : zckm nX7_element = true := by decide +kernel
set_option maxRecDepth 100000 in
theorem zck_X7_share : zckm nX7_share = true := by decide +kernel
set_option maxRecDepth 100000 in
theorem zck_X7_divide : zckm nX7_divide = true := by decide +kernel
set_option maxRecDepth 100000 in
theorem zck_X7_certificate : zckm nX7_certificate = true := by decide +kernel
set_option maxRecDepth 100000 in
theorem zck_X7_check : zckm nX7_check = true := by decide +kernel
set_option maxRecDepth 100000 in
theorem zck_X7_radical : zckm nX7_radical = true := by decide +kernel
set_option maxRecDepth 100000 in
theorem zck_X7_free : zckm nX7_free = true := by decide +kernel
set_option maxRecDepth 100000 in
theorem zck_X7_stairs : zckm nX7_stairs = true := by decide +kernel
set_option maxRecDepth 100000 in
theorem zck_X7_row : zckm nX7_row = true := by decide +kernel
set_option maxRecDepth 100000 in
theorem zck_X7_isPlace : zckm nX7_isPlace = true := by decide +kernel
set_option maxRecDepth 100000 in
theorem zck_X7_isLarge : zckm nX7_isLarge = true := by decide +kernel
set_option maxRecDepth 100000 in
theorem zck_X7_isTold : zckm nX7_isTold = true := by decide +kernel
set_option maxRecDepth 100000 in
theorem zck_X7_isElement : zckm nX7_isElement = true := by decide +kernel
set_option maxRecDepth 100000 in
theorem zck_X7_isGenerator : zckm nX7_isGenerator = true := by decide +kernel
set_option maxRecDepth 100000 in
theorem zck_X7_put : zckm nX7_put = true := by decide +kernel
set_option maxRecDepth 100000 in
theorem zck_X7_forgetBasis : zckm nX7_forgetBasis = true := by decide +kernel
set_option maxRecDepth 100000 in
theorem zck_X7_sumUp : zckm nX7_sumUp = true := by decide +kernel
set_option maxRecDepth 100000 in
theorem zck_X8_init : zckm nX8_init = true := by decide +kernel
set_option maxRecDepth 100000 in
theorem zck_X8_variables : zckm nX8_variables = true := by decide +kernel
set_option maxRecDepth 100000 in
theorem zck_X8_exponent : zckm nX8_exponent = true := by decide +kernel
set_option maxRecDepth 100000 in
theorem zck_X8_sum : zckm nX8_sum = true := by decide +kernel
set_option maxRecDepth 100000 in
theorem zck_X8_compare : zckm nX8_compare = true := by decide +kernel
set_option maxRecDepth 100000 in
theorem zck_X8_divides : zckm nX8_divides = true := by decide +kernel
set_option maxRecDepth 100000 in
theorem zck_X8_common : zckm nX8_common = true := by decide +kernel
set_option maxRecDepth 100000 in
theorem zck_X8_product : zckm nX8_product = true := by decide +kernel
set_option maxRecDepth 100000 in
theorem zck_X8_lowest : zckm nX8_lowest = true := by decide +kernel
