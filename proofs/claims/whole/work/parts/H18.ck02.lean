set_option maxRecDepth 100000 in
theorem zck_X6_shift : zckm nX6_shift = true := by decide +kernel
set_option maxRecDepth 100000 in
theorem zck_X6_behead : zckm nX6_behead = true := by decide +kernel
set_option maxRecDepth 100000 in
theorem zck_X6_addMultiple : zckm nX6_addMultiple = true := by decide +kernel
set_option maxRecDepth 100000 in
theorem zck_X6_addProduct : zckm nX6_addProduct = true := by decide +kernel
set_option maxRecDepth 100000 in
theorem zck_X6_becomeProduct : zckm nX6_becomeProduct = true := by decide +kernel
set_option maxRecDepth 100000 in
theorem zck_X6_multiply : zckm nX6_multiply = true := by decide +kernel
set_option maxRecDepth 100000 in
theorem zck_X6_arrange : zckm nX6_arrange = true := by decide +kernel
set_option maxRecDepth 100000 in
theorem zck_X6_valueAt : zckm nX6_valueAt = true := by decide +kernel
set_option maxRecDepth 100000 in
theorem zck_X6_termAt : zckm nX6_termAt = true := by decide +kernel
set_option maxRecDepth 100000 in
theorem zck_X7_init : zckm nX7_init = true := by decide +kernel
set_option maxRecDepth 100000 in
theorem zck_X7_variables : zckm nX7_variables = true := by decide +kernel
set_option maxRecDepth 100000 in
theorem zck_X7_order : zckm nX7_order = true := by decide +kernel
set_option maxRecDepth 100000 in
theorem zck_X7_term : zckm nX7_term = true := by decide +kernel
set_option maxRecDepth 100000 in
theorem zck_X7_zero : zckm nX7_zero = true := by decide +kernel
set_option maxRecDepth 100000 in
theorem zck_X7_size : zckm nX7_size = true := by decide +kernel
set_option maxRecDepth 100000 in
theorem zck_X7_told : zckm nX7_told = true := by decide +kernel
set_option maxRecDepth 100000 in
theorem zck_X7_plus : zckm nX7_plus = true := by decide +kernel
set_option maxRecDepth 100000 in
theorem zck_X7_times : zckm nX7_times = true := by decide +kernel
set_option maxRecDepth 100000 in
theorem zck_X7_same : zckm nX7_same = true := by decide +kernel
set_option maxRecDepth 100000 in
theorem zck_X7_vanishes : zckm nX7_vanishes = true := by decide +kernel
set_option maxRecDepth 100000 in
theorem zck_X7_generator : zckm nX7_generator = true := by decide +kernel
set_option maxRecDepth 100000 in
theorem zck_X7_clear : zckm nX7_clear = true := by decide +kernel
set_option maxRecDepth 100000 in
theorem zck_X7_basis : zckm nX7_basis = true := by decide +kernel
set_option maxRecDepth 100000 in
theorem zck_X7_done : zckm nX7_done = true := by decide +kernel
