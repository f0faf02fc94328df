set_option maxRecDepth 100000 in
theorem zck_X8_multiplied : zckm nX8_multiplied = true := by decide +kernel
set_option maxRecDepth 100000 in
theorem zck_X8_copy : zckm nX8_copy = true := by decide +kernel
set_option maxRecDepth 100000 in
theorem zck_X8_lead : zckm nX8_lead = true := by decide +kernel
set_option maxRecDepth 100000 in
theorem zck_X8_comes : zckm nX8_comes = true := by decide +kernel
set_option maxRecDepth 100000 in
theorem zck_X8_adds : zckm nX8_adds = true := by decide +kernel
set_option maxRecDepth 100000 in
theorem zck_X8_made : zckm nX8_made = true := by decide +kernel
set_option maxRecDepth 100000 in
theorem zck_X8_isSame : zckm nX8_isSame = true := by decide +kernel
set_option maxRecDepth 100000 in
theorem zck_X8_sorted : zckm nX8_sorted = true := by decide +kernel
set_option maxRecDepth 100000 in
theorem zck_X8_order : zckm nX8_order = true := by decide +kernel
set_option maxRecDepth 100000 in
theorem zck_X8_isPlace : zckm nX8_isPlace = true := by decide +kernel
set_option maxRecDepth 100000 in
theorem zck_X8_term : zckm nX8_term = true := by decide +kernel
set_option maxRecDepth 100000 in
theorem zck_X8_taken : zckm nX8_taken = true := by decide +kernel
set_option maxRecDepth 100000 in
theorem zck_X8_zero : zckm nX8_zero = true := by decide +kernel
