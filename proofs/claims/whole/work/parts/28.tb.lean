/-! ===== all of them ===== -/
theorem mv_tbl_ok : mv_tb mv_bk mv_mi mv_xn mv_cand := by
  refine mv_tb_of (fun j hj => ?_) rfl
  have h : j = 0 ∨ j = 1 ∨ j = 2 ∨ j = 3 ∨ j = 4 ∨ j = 5 ∨ j = 6 ∨ j = 7 ∨ j = 8 ∨ j = 9 ∨ j = 10 ∨ j = 11 ∨ j = 12 ∨ j = 13 ∨ j = 14 ∨ j = 15 ∨ j = 16 := by omega
  rcases h with rfl | rfl | rfl | rfl | rfl | rfl | rfl | rfl | rfl | rfl | rfl | rfl | rfl | rfl | rfl | rfl | rfl
  · exact mv_rw0
  · exact mv_rw1
  · exact mv_rw2
  · exact mv_rw3
  · exact mv_rw4
  · exact mv_rw5
  · exact mv_rw6
  · exact mv_rw7
  · exact mv_rw8
  · exact mv_rw9
  · exact mv_rw10
  · exact mv_rw11
  · exact mv_rw12
  · exact mv_rw13
  · exact mv_rw14
  · exact mv_rw15
  · exact mv_rw16
