/-! ===== the tables' rows, 9 to 11 ===== -/
set_option maxRecDepth 1000000 in
theorem mv_rw9 : mv_rw 9 = true := by decide +kernel
set_option maxRecDepth 1000000 in
theorem mv_rw10 : mv_rw 10 = true := by decide +kernel
set_option maxRecDepth 1000000 in
theorem mv_rw11 : mv_rw 11 = true := by decide +kernel
