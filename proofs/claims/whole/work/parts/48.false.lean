/-! ===== a start with that script, on a machine with more room than the launch's least; the claim is false of it ===== -/
def mv_sl : Array Value := ⟨(List.range 4096).map (fun j => Value.int (mv_xs j))⟩
def mv_s0 : State := start1.aboutOf mv_sl
def mv_e0 : Env := launch0.env 0 2000000 20000000
set_option maxRecDepth 1000000 in
theorem mv_w0_all : tables_1.all (fun c => c.onTables || c.before start1.args0 mv_s0) = true := by decide +kernel
theorem mv_w0 : ∀ c ∈ (Jvm.Cond.code x code maxLocals ret :: tables_1), c.before start1.args0 mv_s0 = true := by
  intro c hc
  have hvm : start1.about.vm = mv_s0.vm := rfl
  rcases List.mem_cons.mp hc with h | h
  · rw [h]
    exact va_tabs rfl hvm (start1.words _ List.mem_cons_self)
  · cases ho : c.onTables
    · have h1 := List.all_eq_true.mp mv_w0_all c h
      rw [ho, Bool.false_or] at h1
      exact h1
    · exact va_tabs ho hvm (start1.words c hc)
set_option maxRecDepth 1000000 in
theorem mv_g0 : (Jvm.Cond.and given_1 narrow_1).before start1.args0 mv_s0 = true := by decide +kernel
set_option maxRecDepth 1000000 in
theorem mv_r00 : rest_1_c.before start1.args0 mv_s0 = true := by decide +kernel
set_option maxRecDepth 1000000 in
theorem mv_f0 : argsFit mv_s0.vm ⟨0, 0⟩ start1.args0 = true ∧ heapFits mv_s0 = true := by decide +kernel
set_option maxRecDepth 1000000 in
theorem mv_a0 : mv_s0.methodNamed? x = some ⟨0, 0⟩ ∧ mv_s0.hears ⟨0, 0⟩ Lib.HandBits.below0 = true ∧ mv_s0.ripe ⟨0, 0⟩ start1.args0 Lib.HandBits.below0 = true := by decide +kernel
set_option maxRecDepth 1000000 in
theorem mv_z0 : mv_s0.heap.size ≤ 1000 ∧ mv_s0.slotsUsed ≤ 100000 ∧ mv_s0.slotsTrue = true ∧ mv_s0.frames.length ≤ 2048 ∧ mv_s0.localsInUse + 84000 ≤ launch0.maxStackSlots - stackMargin ∧ mv_s0.localsInUse + 84000 + stackMargin ≤ realStackBytes / 8 := by decide +kernel
theorem mv_room0 (r : Room) (h1 : r.frames = 2048) (h2 : r.cells ≤ 900000) (h3 : r.slots ≤ 7500000) (h4 : r.locals = 84000) : mv_s0.hasRoom mv_e0.platform r = true := by
  obtain ⟨z1, z2, z3, z4, z5, z6⟩ := mv_z0
  have e1 : (4096 : Nat) ≤ mv_e0.platform.maxFrames := Nat.le_max_left _ _
  have e2 : (2000000 : Nat) ≤ mv_e0.platform.maxCells := Nat.le_max_right _ _
  have e3 : (20000000 : Nat) ≤ mv_e0.platform.maxSlots := Nat.le_max_right _ _
  have e4 : launch0.maxStackSlots - stackMargin ≤ mv_e0.platform.maxStackSlots := Nat.le_max_left _ _
  exact State.hasRoom_of rfl (by omega) (by rw [h4]; omega) (by omega) (by omega) z3 (by rw [h4]; exact z6)
theorem mv_app0 (r : Room) (h1 : r.frames = 2048) (h2 : r.cells ≤ 900000) (h3 : r.slots ≤ 7500000) (h4 : r.locals = 84000) : (headSpec (Jvm.Cond.code x code maxLocals ret :: tables_1) r).applies x mv_e0.platform mv_s0 = true :=
  (Spec.applies_iff (m := ⟨0, 0⟩) (args := start1.args0) (below := Lib.HandBits.below0) rfl).mpr ⟨rfl, rfl, rfl, mv_a0.1, mv_a0.2.1, mv_a0.2.2, mv_room0 r h1 h2 h3 h4, atoms_intro mv_w0⟩
theorem mv_X0 : va_X 0 4096 mv_xs mv_s0 mv_s0.heap := by
  refine ⟨{ cls := 24, slots := mv_sl, vm := .none }, rfl, ?_, fun h => (by cases h), ?_, fun j hj => ?_⟩
  · exact ⟨fun k h => (by cases h), _, rfl, _, rfl⟩
  · show ((List.range 4096).map (fun j => Value.int (mv_xs j))).length = 4096
    rw [List.length_map, List.length_range]
  · show (⟨(List.range 4096).map (fun j => Value.int (mv_xs j))⟩ : Array Value)[j]? = _
    rw [← Array.getElem?_toList]
    show ((List.range 4096).map (fun j => Value.int (mv_xs j)))[j]? = _
    rw [List.getElem?_map, List.getElem?_range hj]
    rfl
/-- the claim as it is printed is false: behind this script's run stand more cells than it allows -/
theorem mv_false : ¬ Claimed_1_1 := by
  intro h
  obtain ⟨n, o, h1, h2, h3, h4⟩ := h launch0 rfl lists_1 trivial start1.p0 mv_e0 (launch0.admits_env _ _ _) fairChoices_fair.cas fairChoices_fair.clock mv_s0 ⟨0, 0⟩ start1.args0 Lib.HandBits.below0 rfl mv_f0.1 mv_f0.2 (mv_app0 room_1 rfl (by decide) (by decide) rfl) ⟨trivial, mv_r00, mv_g0⟩
  obtain ⟨n2, o2, g1, g2, g3, g4⟩ := mv_walkR launch0 rfl 0 start1.p0 mv_e0 (launch0.admits_env _ _ _) fairChoices_fair.cas fairChoices_fair.clock mv_s0 ⟨0, 0⟩ start1.args0 Lib.HandBits.below0 rfl ((Spec.applies_iff_loose (m := ⟨0, 0⟩) (args := start1.args0) (below := Lib.HandBits.below0) rfl).mp (mv_app0 mv_rb rfl (by decide) (by decide) rfl)).1 ⟨rfl, mv_X0, (show 0 < mv_s0.heap.size by decide +kernel), mv_g0⟩ trivial
  obtain ⟨rfl, rfl⟩ := the_end_unique (f := fun k => stepsAlone start1.p0.tables mv_e0 k mv_s0) h1 h3 g1 g3
  obtain ⟨-, ⟨⟨-, -, hS⟩, -⟩⟩ := h4
  have hle := hS.2.2.1
  have hle : (stepsAlone start1.p0.tables mv_e0 n mv_s0).heap.size ≤ mv_s0.heap.size + 608854 := hle
  omega
theorem mv_false2 : ¬ (Claimed_1_1 ∧ Claimed_1_2) := fun h => mv_false h.1
