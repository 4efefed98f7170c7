/-! ===== fields, new things, and the other handlers ===== -/
def mv_dvs : List (List mv_V) := [[(1, 0), (1, 0), (1, 0), (1, 0), (1, 0), (1, 0), (0, 0), (0, 0), (0, 0)],
  [(1, 0), (1, 0), (1, 0), (1, 0), (1, 0), (0, 0)],
  [(1, 0), (1, 0), (1, 0), (1, 0), (1, 0), (1, 0), (1, 0), (1, 0), (1, 0), (0, 0)],
  [(1, 0), (1, 0), (1, 0), (1, 0), (1, 0), (1, 0), (1, 0), (1, 0), (0, 0), (0, 0)],
  [(1, 0), (1, 0)],
  [(1, 0), (1, 0), (1, 0), (1, 0), (1, 0), (1, 0), (1, 0), (1, 0), (1, 0), (1, 0), (1, 0), (1, 0), (1, 0), (1, 0), (1, 0), (1, 0)],
  [(1, 0), (1, 0), (1, 0), (1, 0), (1, 0), (1, 0), (0, 0), (0, 0)],
  [(1, 0), (1, 0), (1, 0), (1, 0), (1, 0), (1, 0), (1, 0)],
  [(0, 0), (0, 0), (1, 0), (1, 0), (1, 0), (1, 0), (1, 0), (1, 0), (1, 0), (0, 0), (0, 0), (1, 0), (1, 0), (1, 0), (1, 0), (1, 0), (0, 0), (1, 0), (1, 0), (1, 0), (1, 0), (1, 0), (1, 0), (1, 0), (0, 0), (1, 0), (0, 0), (0, 0)]]
noncomputable def mv_dv (ci : Nat) : List mv_V := (mv_gt mv_dvs ci).getD []
theorem mv_uw0 : ∀ w ∈ u_ws RX0 TX0 9, w ∈ mv_big := by decide +kernel
theorem mv_uw1 : ∀ w ∈ u_ws RX1 TX1 6, w ∈ mv_big := by decide +kernel
theorem mv_uw2 : ∀ w ∈ u_ws RX2 TX2 10, w ∈ mv_big := by decide +kernel
theorem mv_uw3 : ∀ w ∈ u_ws RX3 TX3 10, w ∈ mv_big := by decide +kernel
theorem mv_uw4 : ∀ w ∈ u_ws RX4 TX4 2, w ∈ mv_big := by decide +kernel
theorem mv_uw5 : ∀ w ∈ u_ws RX5 TX5 16, w ∈ mv_big := by decide +kernel
theorem mv_uw6 : ∀ w ∈ u_ws RX6 TX6 8, w ∈ mv_big := by decide +kernel
theorem mv_uw7 : ∀ w ∈ u_ws RX7 TX7 7, w ∈ mv_big := by decide +kernel
theorem mv_uw8 : ∀ w ∈ u_ws RX8 TX8 28, w ∈ mv_big := by decide +kernel
/-- what is known of a class by its number -/
def mv_clf (r : Nat → Int32) (ba : mv_A) (b ci : Nat) (q : vw_C) : Prop := (∀ w ∈ u_ws q.1 q.2.1 q.2.2, w ∈ mv_big) ∧ (∀ a, a < q.2.2 → ∀ b, b < q.2.2 → a ≠ b → (q.2.1 a).2.1 ≠ (q.2.1 b).2.1) ∧
  ∃ ty : Nat → FieldType, (∀ k, k < q.2.2 → parseFieldDescriptor (q.2.1 k).2.2.1 = some (ty k)) ∧ (∀ j, j < q.2.2 → defaultValue (ty j) = vp_V ((mv_dv ci).map (mv_val r ba b)) j) ∧ (mv_dv ci).length = q.2.2
theorem mv_lt_cases {P : Nat → Prop} : ∀ (n : Nat), (∀ j, j < n → P j) ↔ (n = 0 ∨ ((∀ j, j < n - 1 → P j) ∧ P (n - 1)))
  | 0 => by simp
  | n + 1 => by
    constructor
    · intro h
      exact Or.inr ⟨fun j hj => h j (by omega), h n (by omega)⟩
    · rintro (h | ⟨h1, h2⟩) j hj
      · omega
      · rcases Nat.lt_or_ge j n with q | q
        · exact h1 j q
        · have : j = n := by omega
          subst this
          exact h2
theorem mv_cls (r : Nat → Int32) (ba : mv_A) (b ci : Nat) (q : vw_C) (h : vwCl[ci]? = some q) : mv_clf r ba b ci q := by
  match ci, h with
  | 0, h =>
    cases h
    refine ⟨mv_uw0, nmX0, tyX0, tyX0_ok, fun j hj => ?_, rfl⟩
    match j, hj with
    | 0, _ => rfl
    | 1, _ => rfl
    | 2, _ => rfl
    | 3, _ => rfl
    | 4, _ => rfl
    | 5, _ => rfl
    | 6, _ => rfl
    | 7, _ => rfl
    | 8, _ => rfl
    | j + 9, hj => exact absurd hj (by show ¬ j + 9 < 9; omega)
  | 1, h =>
    cases h
    refine ⟨mv_uw1, nmX1, tyX1, tyX1_ok, fun j hj => ?_, rfl⟩
    match j, hj with
    | 0, _ => rfl
    | 1, _ => rfl
    | 2, _ => rfl
    | 3, _ => rfl
    | 4, _ => rfl
    | 5, _ => rfl
    | j + 6, hj => exact absurd hj (by show ¬ j + 6 < 6; omega)
  | 2, h =>
    cases h
    refine ⟨mv_uw2, nmX2, tyX2, tyX2_ok, fun j hj => ?_, rfl⟩
    match j, hj with
    | 0, _ => rfl
    | 1, _ => rfl
    | 2, _ => rfl
    | 3, _ => rfl
    | 4, _ => rfl
    | 5, _ => rfl
    | 6, _ => rfl
    | 7, _ => rfl
    | 8, _ => rfl
    | 9, _ => rfl
    | j + 10, hj => exact absurd hj (by show ¬ j + 10 < 10; omega)
  | 3, h =>
    cases h
    refine ⟨mv_uw3, nmX3, tyX3, tyX3_ok, fun j hj => ?_, rfl⟩
    match j, hj with
    | 0, _ => rfl
    | 1, _ => rfl
    | 2, _ => rfl
    | 3, _ => rfl
    | 4, _ => rfl
    | 5, _ => rfl
    | 6, _ => rfl
    | 7, _ => rfl
    | 8, _ => rfl
    | 9, _ => rfl
    | j + 10, hj => exact absurd hj (by show ¬ j + 10 < 10; omega)
  | 4, h =>
    cases h
    refine ⟨mv_uw4, nmX4, tyX4, tyX4_ok, fun j hj => ?_, rfl⟩
    match j, hj with
    | 0, _ => rfl
    | 1, _ => rfl
    | j + 2, hj => exact absurd hj (by show ¬ j + 2 < 2; omega)
  | 5, h =>
    cases h
    refine ⟨mv_uw5, nmX5, tyX5, tyX5_ok, fun j hj => ?_, rfl⟩
    match j, hj with
    | 0, _ => rfl
    | 1, _ => rfl
    | 2, _ => rfl
    | 3, _ => rfl
    | 4, _ => rfl
    | 5, _ => rfl
    | 6, _ => rfl
    | 7, _ => rfl
    | 8, _ => rfl
    | 9, _ => rfl
    | 10, _ => rfl
    | 11, _ => rfl
    | 12, _ => rfl
    | 13, _ => rfl
    | 14, _ => rfl
    | 15, _ => rfl
    | j + 16, hj => exact absurd hj (by show ¬ j + 16 < 16; omega)
  | 6, h =>
    cases h
    refine ⟨mv_uw6, nmX6, tyX6, tyX6_ok, fun j hj => ?_, rfl⟩
    match j, hj with
    | 0, _ => rfl
    | 1, _ => rfl
    | 2, _ => rfl
    | 3, _ => rfl
    | 4, _ => rfl
    | 5, _ => rfl
    | 6, _ => rfl
    | 7, _ => rfl
    | j + 8, hj => exact absurd hj (by show ¬ j + 8 < 8; omega)
  | 7, h =>
    cases h
    refine ⟨mv_uw7, nmX7, tyX7, tyX7_ok, fun j hj => ?_, rfl⟩
    match j, hj with
    | 0, _ => rfl
    | 1, _ => rfl
    | 2, _ => rfl
    | 3, _ => rfl
    | 4, _ => rfl
    | 5, _ => rfl
    | 6, _ => rfl
    | j + 7, hj => exact absurd hj (by show ¬ j + 7 < 7; omega)
  | 8, h =>
    cases h
    refine ⟨mv_uw8, nmX8, tyX8, tyX8_ok, fun j hj => ?_, rfl⟩
    match j, hj with
    | 0, _ => rfl
    | 1, _ => rfl
    | 2, _ => rfl
    | 3, _ => rfl
    | 4, _ => rfl
    | 5, _ => rfl
    | 6, _ => rfl
    | 7, _ => rfl
    | 8, _ => rfl
    | 9, _ => rfl
    | 10, _ => rfl
    | 11, _ => rfl
    | 12, _ => rfl
    | 13, _ => rfl
    | 14, _ => rfl
    | 15, _ => rfl
    | 16, _ => rfl
    | 17, _ => rfl
    | 18, _ => rfl
    | 19, _ => rfl
    | 20, _ => rfl
    | 21, _ => rfl
    | 22, _ => rfl
    | 23, _ => rfl
    | 24, _ => rfl
    | 25, _ => rfl
    | 26, _ => rfl
    | 27, _ => rfl
    | j + 28, hj => exact absurd hj (by show ¬ j + 28 < 28; omega)
  | ci + 9, h => exact absurd h (by simp [vwCl])
