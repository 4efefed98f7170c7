/-! ===== the tables' rows, 15 to 17 ===== -/
set_option maxRecDepth 1000000 in
theorem mv_rw15 : mv_rw 15 = true := by decide +kernel
set_option maxRecDepth 1000000 in
theorem mv_rw16 : mv_rw 16 = true := by decide +kernel
