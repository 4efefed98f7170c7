/-! ===== the tables' methods 0 to 45: printed by a program ===== -/
set_option maxRecDepth 1000000 in
theorem mv_cl_0 : mv_fl (mv_cand 0) (fun cd => ((kb_0.drop 0).take 10).all (fun q => mv_vL cd mv_mi km_0 q.1 q.2)) = true := by decide +kernel
set_option maxRecDepth 1000000 in
theorem mv_cl_1 : mv_fl (mv_cand 0) (fun cd => ((kb_0.drop 10).take 10).all (fun q => mv_vL cd mv_mi km_0 q.1 q.2)) = true := by decide +kernel
set_option maxRecDepth 1000000 in
theorem mv_cl_2 : mv_fl (mv_cand 0) (fun cd => ((kb_0.drop 20).take 10).all (fun q => mv_vL cd mv_mi km_0 q.1 q.2)) = true := by decide +kernel
set_option maxRecDepth 1000000 in
theorem mv_cl_3 : mv_fl (mv_cand 0) (fun cd => ((kb_0.drop 30).take 10).all (fun q => mv_vL cd mv_mi km_0 q.1 q.2)) = true := by decide +kernel
set_option maxRecDepth 1000000 in
theorem mv_cl_m : mv_vm (mv_cand 0) mv_xn km_0 = true := by decide +kernel
noncomputable def mv_f0 (q : Nat × List mv_E) : Bool := mv_vL (mv_cand 0) mv_mi km_0 q.1 q.2
theorem mv_cj_0 : ((kb_0.drop 0).take 10).all mv_f0 = true := by
  have h := mv_cl_0
  rw [mv_fl_eq] at h
  exact h
theorem mv_cj_1 : ((kb_0.drop 10).take 10).all mv_f0 = true := by
  have h := mv_cl_1
  rw [mv_fl_eq] at h
  exact h
theorem mv_cj_2 : ((kb_0.drop 20).take 10).all mv_f0 = true := by
  have h := mv_cl_2
  rw [mv_fl_eq] at h
  exact h
theorem mv_cj_3 : ((kb_0.drop 30).take 10).all mv_f0 = true := by
  have h := mv_cl_3
  rw [mv_fl_eq] at h
  exact h
set_option maxRecDepth 1000000 in
theorem mv_ce_4 : (kb_0.drop 40).all mv_f0 = true := by decide +kernel
theorem mv_ce_3 : (kb_0.drop 30).all mv_f0 = true := mv_td (f := mv_f0) (l := kb_0) 30 10 mv_cj_3 mv_ce_4
theorem mv_ce_2 : (kb_0.drop 20).all mv_f0 = true := mv_td (f := mv_f0) (l := kb_0) 20 10 mv_cj_2 mv_ce_3
theorem mv_ce_1 : (kb_0.drop 10).all mv_f0 = true := mv_td (f := mv_f0) (l := kb_0) 10 10 mv_cj_1 mv_ce_2
theorem mv_ce_0 : (kb_0.drop 0).all mv_f0 = true := mv_td (f := mv_f0) (l := kb_0) 0 10 mv_cj_0 mv_ce_1
theorem mv_cm_0 : mv_ckm 0 = true := by
  have h2 : (mv_vm (mv_cand 0) mv_xn km_0 && kb_0.all mv_f0) = true := by
    have h3 : kb_0.all mv_f0 = true := by
      have h := mv_ce_0
      rw [List.drop_zero] at h
      exact h
    rw [mv_cl_m, h3]
    rfl
  unfold mv_ckm mv_ckb
  rw [mv_fl_eq]
  exact h2
set_option maxRecDepth 1000000 in
theorem mv_cm_1 : mv_ckm 1 = true := by decide +kernel
set_option maxRecDepth 1000000 in
theorem mv_cm_2 : mv_ckm 2 = true := by decide +kernel
set_option maxRecDepth 1000000 in
theorem mv_cm_3 : mv_ckm 3 = true := by decide +kernel
set_option maxRecDepth 1000000 in
theorem mv_cm_4 : mv_ckm 4 = true := by decide +kernel
set_option maxRecDepth 1000000 in
theorem mv_cm_5 : mv_ckm 5 = true := by decide +kernel
set_option maxRecDepth 1000000 in
theorem mv_cm_6 : mv_ckm 6 = true := by decide +kernel
set_option maxRecDepth 1000000 in
theorem mv_cm_7 : mv_ckm 7 = true := by decide +kernel
set_option maxRecDepth 1000000 in
theorem mv_cm_8 : mv_ckm 8 = true := by decide +kernel
set_option maxRecDepth 1000000 in
theorem mv_cm_9 : mv_ckm 9 = true := by decide +kernel
set_option maxRecDepth 1000000 in
theorem mv_cm_10 : mv_ckm 10 = true := by decide +kernel
set_option maxRecDepth 1000000 in
theorem mv_cm_11 : mv_ckm 11 = true := by decide +kernel
set_option maxRecDepth 1000000 in
theorem mv_cm_12 : mv_ckm 12 = true := by decide +kernel
set_option maxRecDepth 1000000 in
theorem mv_cm_13 : mv_ckm 13 = true := by decide +kernel
set_option maxRecDepth 1000000 in
theorem mv_cm_14 : mv_ckm 14 = true := by decide +kernel
set_option maxRecDepth 1000000 in
theorem mv_cm_15 : mv_ckm 15 = true := by decide +kernel
set_option maxRecDepth 1000000 in
theorem mv_cm_16 : mv_ckm 16 = true := by decide +kernel
set_option maxRecDepth 1000000 in
theorem mv_cm_17 : mv_ckm 17 = true := by decide +kernel
set_option maxRecDepth 1000000 in
theorem mv_cm_18 : mv_ckm 18 = true := by decide +kernel
set_option maxRecDepth 1000000 in
theorem mv_cm_19 : mv_ckm 19 = true := by decide +kernel
set_option maxRecDepth 1000000 in
theorem mv_cm_20 : mv_ckm 20 = true := by decide +kernel
set_option maxRecDepth 1000000 in
theorem mv_cm_21 : mv_ckm 21 = true := by decide +kernel
set_option maxRecDepth 1000000 in
theorem mv_cm_22 : mv_ckm 22 = true := by decide +kernel
set_option maxRecDepth 1000000 in
theorem mv_cm_23 : mv_ckm 23 = true := by decide +kernel
set_option maxRecDepth 1000000 in
theorem mv_cm_24 : mv_ckm 24 = true := by decide +kernel
set_option maxRecDepth 1000000 in
theorem mv_cm_25 : mv_ckm 25 = true := by decide +kernel
set_option maxRecDepth 1000000 in
theorem mv_cm_26 : mv_ckm 26 = true := by decide +kernel
set_option maxRecDepth 1000000 in
theorem mv_cm_27 : mv_ckm 27 = true := by decide +kernel
set_option maxRecDepth 1000000 in
theorem mv_cm_28 : mv_ckm 28 = true := by decide +kernel
set_option maxRecDepth 1000000 in
theorem mv_cm_29 : mv_ckm 29 = true := by decide +kernel
set_option maxRecDepth 1000000 in
theorem mv_cm_30 : mv_ckm 30 = true := by decide +kernel
set_option maxRecDepth 1000000 in
theorem mv_cm_31 : mv_ckm 31 = true := by decide +kernel
set_option maxRecDepth 1000000 in
theorem mv_cm_32 : mv_ckm 32 = true := by decide +kernel
set_option maxRecDepth 1000000 in
theorem mv_cm_33 : mv_ckm 33 = true := by decide +kernel
set_option maxRecDepth 1000000 in
theorem mv_cm_34 : mv_ckm 34 = true := by decide +kernel
set_option maxRecDepth 1000000 in
theorem mv_cm_35 : mv_ckm 35 = true := by decide +kernel
set_option maxRecDepth 1000000 in
theorem mv_cm_36 : mv_ckm 36 = true := by decide +kernel
set_option maxRecDepth 1000000 in
theorem mv_cm_37 : mv_ckm 37 = true := by decide +kernel
set_option maxRecDepth 1000000 in
theorem mv_cm_38 : mv_ckm 38 = true := by decide +kernel
set_option maxRecDepth 1000000 in
theorem mv_cm_39 : mv_ckm 39 = true := by decide +kernel
set_option maxRecDepth 1000000 in
theorem mv_cm_40 : mv_ckm 40 = true := by decide +kernel
set_option maxRecDepth 1000000 in
theorem mv_cm_41 : mv_ckm 41 = true := by decide +kernel
set_option maxRecDepth 1000000 in
theorem mv_cm_42 : mv_ckm 42 = true := by decide +kernel
set_option maxRecDepth 1000000 in
theorem mv_cm_43 : mv_ckm 43 = true := by decide +kernel
set_option maxRecDepth 1000000 in
theorem mv_cm_44 : mv_ckm 44 = true := by decide +kernel
set_option maxRecDepth 1000000 in
theorem mv_cm_45 : mv_ckm 45 = true := by decide +kernel
