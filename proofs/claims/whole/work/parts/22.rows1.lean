/-! ===== the tables' rows, 0 to 2 ===== -/
set_option maxRecDepth 1000000 in
theorem mv_rw0 : mv_rw 0 = true := by decide +kernel
set_option maxRecDepth 1000000 in
theorem mv_rw1 : mv_rw 1 = true := by decide +kernel
set_option maxRecDepth 1000000 in
theorem mv_rw2 : mv_rw 2 = true := by decide +kernel
