/-! ===== the tables' rows, 3 to 5 ===== -/
set_option maxRecDepth 1000000 in
theorem mv_rw3 : mv_rw 3 = true := by decide +kernel
set_option maxRecDepth 1000000 in
theorem mv_rw4 : mv_rw 4 = true := by decide +kernel
set_option maxRecDepth 1000000 in
theorem mv_rw5 : mv_rw 5 = true := by decide +kernel
