/-! ===== the tables' rows, 12 to 14 ===== -/
set_option maxRecDepth 1000000 in
theorem mv_rw12 : mv_rw 12 = true := by decide +kernel
set_option maxRecDepth 1000000 in
theorem mv_rw13 : mv_rw 13 = true := by decide +kernel
set_option maxRecDepth 1000000 in
theorem mv_rw14 : mv_rw 14 = true := by decide +kernel
