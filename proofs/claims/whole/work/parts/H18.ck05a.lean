set_option maxRecDepth 100000 in
theorem zck_X8_size : zckm nX8_size = true := by decide +kernel
set_option maxRecDepth 100000 in
theorem zck_X8_told : zckm nX8_told = true := by decide +kernel
set_option maxRecDepth 100000 in
theorem zck_X8_plus : zckm nX8_plus = true := by decide +kernel
set_option maxRecDepth 100000 in
theorem zck_X8_times : zckm nX8_times = true := by decide +kernel
set_option maxRecDepth 100000 in
theorem zck_X8_same : zckm nX8_same = true := by decide +kernel
set_option maxRecDepth 100000 in
theorem zck_X8_vanishes : zckm nX8_vanishes = true := by decide +kernel
