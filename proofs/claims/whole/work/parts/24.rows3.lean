/-! ===== the tables' rows, 6 to 8 ===== -/
set_option maxRecDepth 1000000 in
theorem mv_rw6 : mv_rw 6 = true := by decide +kernel
set_option maxRecDepth 1000000 in
theorem mv_rw7 : mv_rw 7 = true := by decide +kernel
set_option maxRecDepth 1000000 in
theorem mv_rw8 : mv_rw 8 = true := by decide +kernel
