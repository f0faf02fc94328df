set_option maxRecDepth 100000 in
theorem zck_X3_takeQuotients : zckm nX3_takeQuotients = true := by decide +kernel
set_option maxRecDepth 100000 in
theorem zck_X3_dropNeedless : zckm nX3_dropNeedless = true := by decide +kernel
set_option maxRecDepth 100000 in
theorem zck_X3_isCovered : zckm nX3_isCovered = true := by decide +kernel
set_option maxRecDepth 100000 in
theorem zck_X3_sortElements : zckm nX3_sortElements = true := by decide +kernel
set_option maxRecDepth 100000 in
theorem zck_X3_reduceElement : zckm nX3_reduceElement = true := by decide +kernel
set_option maxRecDepth 100000 in
theorem zck_X3_isWhole : zckm nX3_isWhole = true := by decide +kernel
set_option maxRecDepth 100000 in
theorem zck_X3_countBelow : zckm nX3_countBelow = true := by decide +kernel
set_option maxRecDepth 100000 in
theorem zck_X3_wall : zckm nX3_wall = true := by decide +kernel
set_option maxRecDepth 100000 in
theorem zck_X3_height : zckm nX3_height = true := by decide +kernel
set_option maxRecDepth 100000 in
theorem zck_X4_exponent : zckm nX4_exponent = true := by decide +kernel
set_option maxRecDepth 100000 in
theorem zck_X4_single : zckm nX4_single = true := by decide +kernel
set_option maxRecDepth 100000 in
theorem zck_X4_isInside : zckm nX4_isInside = true := by decide +kernel
set_option maxRecDepth 100000 in
theorem zck_X4_divides : zckm nX4_divides = true := by decide +kernel
set_option maxRecDepth 100000 in
theorem zck_X4_leastCommon : zckm nX4_leastCommon = true := by decide +kernel
set_option maxRecDepth 100000 in
theorem zck_X4_haveVariableInCommon : zckm nX4_haveVariableInCommon = true := by decide +kernel
set_option maxRecDepth 100000 in
theorem zck_X5_init : zckm nX5_init = true := by decide +kernel
set_option maxRecDepth 100000 in
theorem zck_X5_rank : zckm nX5_rank = true := by decide +kernel
set_option maxRecDepth 100000 in
theorem zck_X6_init : zckm nX6_init = true := by decide +kernel
set_option maxRecDepth 100000 in
theorem zck_X6_empty : zckm nX6_empty = true := by decide +kernel
set_option maxRecDepth 100000 in
theorem zck_X6_become : zckm nX6_become = true := by decide +kernel
set_option maxRecDepth 100000 in
theorem zck_X6_isLike : zckm nX6_isLike = true := by decide +kernel
set_option maxRecDepth 100000 in
theorem zck_X6_isWithout : zckm nX6_isWithout = true := by decide +kernel
set_option maxRecDepth 100000 in
theorem zck_X6_come : zckm nX6_come = true := by decide +kernel
set_option maxRecDepth 100000 in
theorem zck_X6_find : zckm nX6_find = true := by decide +kernel
