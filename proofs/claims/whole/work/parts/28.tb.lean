/-! ===== all of them ===== -/
theorem mv_tbl_ok : mv_tb mv_bk mv_mi mv_xn mv_cand := sorry
