/-! ===== the tables are true ===== -/
noncomputable def mv_blk (mid : Nat) : List (Nat × List mv_E) := match mv_gt mv_kbs (mid / 16) with
  | some r => match mv_gt r (mid % 16) with
    | some b => b
    | none => []
  | none => []
noncomputable def mv_pl (mid : Nat) : List (Nat × Nat) := match mv_gt mv_kps (mid / 16) with
  | some r => match mv_gt r (mid % 16) with
    | some b => b
    | none => []
  | none => []
noncomputable def mv_wd (q : Nat × Nat) : Option Cond := match mv_gt mv_ck q.1 with
  | some r => mv_gt r q.2
  | none => none
noncomputable def mv_cand (mid : Nat) : List Cond := ((mv_pl mid).filterMap mv_wd).filter goodWord
noncomputable def mv_ckb (cd : List Cond) (x : mv_I) (bl : List (Nat × List mv_E)) : Bool := mv_fl cd (fun cd => mv_vm cd mv_xn x && bl.all (fun q => mv_vL cd mv_mi x q.1 q.2))
noncomputable def mv_ckm (mid : Nat) : Bool := mv_ckb (mv_cand mid) (mv_mi mid) (mv_blk mid)
noncomputable def mv_rw (j : Nat) : Bool := (List.range 16).all (fun i => mv_ckm (16 * j + i))
theorem mv_ck_in : ∀ r ∈ mv_ck, ∀ w ∈ r, w ∈ lw_tbl := by
  have hs : ∀ (a b : List (MethodName × Nat)), k2_sels (a ++ b) = k2_sels a ++ k2_sels b := fun a b => List.map_append
  have e : lw_tbl = (k2_sels lw_privs_1 ++ (k2_sels lw_privs_2 ++ (k2_sels lw_privs_3 ++ (k2_sels lw_privs_4 ++ (k2_sels lw_privs_5 ++ (k2_sels lw_privs_6 ++ (k2_sels lw_privs_7 ++ (k2_sels lw_privs_8 ++ k2_sels lw_privs_9)))))))) ++ (tables_1_1 ++ (tables_1_2 ++ (tables_1_3 ++ (tables_1_4 ++ (tables_1_5 ++ (tables_1_6 ++ tables_1_7)))))) := by
    unfold lw_tbl lw_privs tables_1
    rw [hs, hs, hs, hs, hs, hs, hs, hs]
  intro r hr w hw
  rw [e]
  simp only [List.mem_append]
  unfold mv_ck at hr
  simp only [List.mem_cons, List.not_mem_nil, or_false] at hr
  rcases hr with rfl | rfl | rfl | rfl | rfl | rfl | rfl | rfl | rfl | rfl | rfl | rfl | rfl | rfl | rfl | rfl
  all_goals simp only [hw, true_or, or_true]
theorem mv_cand_in (mid : Nat) : ∀ w ∈ mv_cand mid, w ∈ mv_big := by
  intro w hw
  obtain ⟨h1, h2⟩ := List.mem_filter.mp hw
  obtain ⟨q, -, h3⟩ := List.mem_filterMap.mp h1
  refine List.mem_filter.mpr ⟨?_, h2⟩
  unfold mv_wd at h3
  split at h3
  · rename_i r hr
    rw [mv_gt_eq] at hr h3
    exact mv_ck_in r (List.mem_of_getElem? hr) w (List.mem_of_getElem? h3)
  · cases h3
theorem mv_fb_in {pc : Nat} {L : List mv_E} : ∀ {l : List (Nat × List mv_E)}, mv_fb l pc = some L → (pc, L) ∈ l
  | [], h => by cases h
  | x :: t, h => by
    have h : (bif Nat.beq x.1 pc then some x.2 else mv_fb t pc) = some L := h
    rcases mv_cnd h with ⟨h1, h⟩ | ⟨-, h⟩
    · have e1 := mv_beq h1
      have e2 := Option.some.inj h
      rw [← e1, ← e2]
      exact List.mem_cons_self
    · exact List.mem_cons_of_mem _ (mv_fb_in h)
theorem mv_bk_in {mid pc : Nat} {L : List mv_E} (h : mv_bk mid pc = some L) : (pc, L) ∈ mv_blk mid := by
  unfold mv_bk at h
  unfold mv_blk
  split at h
  · rename_i r hr
    rw [hr]
    show (pc, L) ∈ (match mv_gt r (mid % 16) with
      | some b => b
      | none => [])
    split at h
    · rename_i b hb
      rw [hb]
      exact mv_fb_in h
    · cases h
  · cases h
theorem mv_bl_out {mid : Nat} (h : 272 ≤ mid) : mv_blk mid = [] ∧ mv_mi mid = km_0 := by
  have e1 : mv_gt mv_kbs (mid / 16) = none := by
    rw [mv_gt_eq, List.getElem?_eq_none]
    show 17 ≤ mid / 16
    omega
  have e2 : mv_gt mv_kms (mid / 16) = none := by
    rw [mv_gt_eq, List.getElem?_eq_none]
    show 17 ≤ mid / 16
    omega
  exact ⟨by unfold mv_blk; rw [e1], by unfold mv_mi; rw [e2]⟩
def mv_all : List mv_I → Prop
  | [] => True
  | x :: t => (x.2.2.2.2.2.1 ≠ 9 → mv_hw x ∈ mv_big) ∧ mv_all t
theorem mv_all_ok : ∀ {l : List mv_I} {i : Nat} {x : mv_I}, mv_all l → l[i]? = some x → x.2.2.2.2.2.1 ≠ 9 → mv_hw x ∈ mv_big
  | [], i, x, _, h => by simp at h
  | y :: t, 0, x, h1, h => by
    cases h
    exact h1.1
  | y :: t, i + 1, x, h1, h => mv_all_ok h1.2 (by simpa using h)
def mv_all2 : List (List mv_I) → Prop
  | [] => True
  | x :: t => mv_all x ∧ mv_all2 t
theorem mv_all2_ok : ∀ {l : List (List mv_I)} {i : Nat} {x : List mv_I}, mv_all2 l → l[i]? = some x → mv_all x
  | [], i, x, _, h => by simp at h
  | y :: t, 0, x, h1, h => by
    cases h
    exact h1.1
  | y :: t, i + 1, x, h1, h => mv_all2_ok h1.2 (by simpa using h)
theorem mv_kc (q : Nat × Nat) {w : Cond} (h : mv_wd q = some w) (h2 : goodWord w = true) : w ∈ mv_big := by
  unfold mv_wd at h
  split at h
  · rename_i r hr
    rw [mv_gt_eq] at hr h
    exact List.mem_filter.mpr ⟨mv_ck_in r (List.mem_of_getElem? hr) w (List.mem_of_getElem? h), h2⟩
  · cases h
theorem mv_hw_of (h : mv_all2 mv_kms) (mid : Nat) : (mv_mi mid).2.2.2.2.2.1 ≠ 9 → mv_hw (mv_mi mid) ∈ mv_big := by
  unfold mv_mi
  split
  · rename_i r hr
    rw [mv_gt_eq] at hr
    split
    · rename_i x hx
      rw [mv_gt_eq] at hx
      exact mv_all_ok (mv_all2_ok h hr) hx
    · exact fun h => absurd rfl h
  · exact fun h => absurd rfl h
theorem mv_tb_of (h : ∀ j, j < 17 → mv_rw j = true) (hh : mv_all2 mv_kms) : mv_tb mv_bk mv_mi mv_xn mv_cand := by
  intro mid
  refine ⟨mv_cand_in mid, ?_⟩
  by_cases hm : mid < 272
  · have h1 := h (mid / 16) (by omega)
    have h2 := List.all_eq_true.mp h1 (mid % 16) (List.mem_range.mpr (by omega))
    rw [show 16 * (mid / 16) + mid % 16 = mid by omega] at h2
    unfold mv_ckm mv_ckb at h2
    rw [mv_fl_eq] at h2
    obtain ⟨h3, h4⟩ := mv_a2 h2
    exact ⟨h3, fun pc L hb => List.all_eq_true.mp h4 _ (mv_bk_in hb), mv_hw_of hh mid⟩
  · obtain ⟨e1, e2⟩ := mv_bl_out (mid := mid) (by omega)
    refine ⟨?_, fun pc L hb => ?_, mv_hw_of hh mid⟩
    · rw [e2]
      rfl
    · have h9 := mv_bk_in hb
      rw [e1] at h9
      cases h9
theorem mv_r16 {f : Nat → Bool} (h0 : f 0 = true) (h1 : f 1 = true) (h2 : f 2 = true) (h3 : f 3 = true) (h4 : f 4 = true) (h5 : f 5 = true) (h6 : f 6 = true) (h7 : f 7 = true) (h8 : f 8 = true) (h9 : f 9 = true) (h10 : f 10 = true) (h11 : f 11 = true) (h12 : f 12 = true) (h13 : f 13 = true) (h14 : f 14 = true) (h15 : f 15 = true) : (List.range 16).all f = true := by
  refine List.all_eq_true.mpr fun i hi => ?_
  have hi := List.mem_range.mp hi
  have h : i = 0 ∨ i = 1 ∨ i = 2 ∨ i = 3 ∨ i = 4 ∨ i = 5 ∨ i = 6 ∨ i = 7 ∨ i = 8 ∨ i = 9 ∨ i = 10 ∨ i = 11 ∨ i = 12 ∨ i = 13 ∨ i = 14 ∨ i = 15 := by omega
  rcases h with rfl | rfl | rfl | rfl | rfl | rfl | rfl | rfl | rfl | rfl | rfl | rfl | rfl | rfl | rfl | rfl <;> assumption
theorem mv_td {α : Type} {f : α → Bool} {l : List α} (a n : Nat) (h1 : ((l.drop a).take n).all f = true) (h2 : (l.drop (a + n)).all f = true) : (l.drop a).all f = true := by
  have e : (l.drop a).drop n = l.drop (a + n) := by simp only [List.drop_drop]
  rw [← List.take_append_drop n (l.drop a), List.all_append, h1, e, h2]
  rfl
