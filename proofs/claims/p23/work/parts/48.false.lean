/-! ===== a start with that script, on a machine with more room than the launch's least; the claim is false of it ===== -/
section
variable (sl : Array Value)
def mv_c0 : Cell := { cls := 24, slots := sl, vm := .none }
theorem mv_vm0 (a b : Array Value) : (start1.aboutOf a).vm = (start1.aboutOf b).vm := rfl
theorem mv_hp0 : (start1.aboutOf sl).heap[0]? = some (mv_c0 sl) := rfl
theorem mv_ia0 : (start1.aboutOf sl).isArrayOf (mv_c0 sl) .int := ⟨fun k h => (by cases h), _, rfl, _, rfl⟩
theorem mv_tl0 : (start1.aboutOf sl).heap.toList = mv_c0 sl :: (start1.aboutOf sl).heap.toList.drop 1 := rfl
theorem mv_ar0 : (start1.aboutOf sl).arrayAt? 0 = some (mv_c0 sl) := rfl
theorem mv_X0 {xs : Nat → Int32} (hs : sl.size = 4096) (hv : ∀ j, j < 4096 → sl[j]? = some (.int (xs j))) : va_X 0 4096 xs (start1.aboutOf sl) (start1.aboutOf sl).heap := ⟨mv_c0 sl, mv_hp0 sl, mv_ia0 sl, fun h => (by cases h), hs, hv⟩
theorem mv_cf0 {xs : Nat → Int32} (hs : sl.size = 4096) (hv : ∀ j, j < 4096 → sl[j]? = some (.int (xs j))) : cellFits (start1.aboutOf sl) (mv_c0 sl) = true := by
  unfold cellFits
  refine List.all_eq_true.mpr fun i hi => ?_
  have hi : i < sl.size := List.mem_range.mp hi
  show (match sl[i]? with
    | some v => (start1.aboutOf sl).fitsSlot 24 .none i v
    | none => true) = true
  rw [hv i (by omega)]
  rfl
theorem mv_hf0 {xs : Nat → Int32} (hs : sl.size = 4096) (hv : ∀ j, j < 4096 → sl[j]? = some (.int (xs j))) (h : ((start1.aboutOf sl).heap.toList.drop 1).all (cellFits (start1.aboutOf sl)) = true) : heapFits (start1.aboutOf sl) = true := by
  unfold heapFits
  rw [← Array.all_toList, mv_tl0, List.all_cons, mv_cf0 sl hs hv, h]
  rfl
theorem mv_all0 {xs : Nat → Int32} (hs : sl.size = 4096) (hv : ∀ j, j < 4096 → sl[j]? = some (.int (xs j))) : (Jvm.Cond.all (.arg 0) (.isInt (.elem (.arg 0) (.index 0)))).before start1.args0 (start1.aboutOf sl) = true := by
  have hall : (Jvm.Cond.all (.arg 0) (.isInt (.elem (.arg 0) (.index 0)))).value start1.args0 (start1.aboutOf sl) none (start1.aboutOf sl) [] = some true := by
    refine Cond.all_intro (a := 0) (cell := mv_c0 sl) rfl (mv_ar0 sl) fun i hi => ?_
    have hi : i < sl.size := hi
    have hi31 : i < 2 ^ 31 := by omega
    have hneg : ¬ (Int32.ofNat i < 0) := Int32.ofNat_not_neg hi31
    have ht : (Term.arg 0).eval start1.args0 (start1.aboutOf sl) none [i] (start1.aboutOf sl) = some (.ref 0) := rfl
    have hidx : (Term.index 0).eval start1.args0 (start1.aboutOf sl) none [i] (start1.aboutOf sl) = some (.int (Int32.ofNat i)) := rfl
    have h9 : sl[i]? = some (.int (xs i)) := hv i (by omega)
    have e1 : (Term.elem (.arg 0) (.index 0)).eval start1.args0 (start1.aboutOf sl) none [i] (start1.aboutOf sl) = some (.int (xs i)) := by
      rw [Term.eval, ht, hidx]
      simp [mv_ar0 sl, hneg, Example.SumArray.toNatClampNeg_ofNat hi31]
      exact h9
    simp [Cond.value, e1]
  simp only [Cond.before, Cond.holds, hall]
  rfl
end
def mv_sl : Array Value := ⟨(List.range 4096).map (fun j => Value.int (mv_xs j))⟩
theorem mv_tab_s (n : Nat) (f : Nat → Value) : (⟨(List.range n).map f⟩ : Array Value).size = n := by
  show ((List.range n).map f).length = n
  rw [List.length_map, List.length_range]
theorem mv_tab_v (n : Nat) (f : Nat → Value) (j : Nat) (hj : j < n) : (⟨(List.range n).map f⟩ : Array Value)[j]? = some (f j) := by
  rw [← Array.getElem?_toList]
  show ((List.range n).map f)[j]? = _
  rw [List.getElem?_map, List.getElem?_range hj]
  rfl
theorem mv_sl_s : mv_sl.size = 4096 := mv_tab_s 4096 _
theorem mv_sl_v : ∀ j, j < 4096 → mv_sl[j]? = some (.int (mv_xs j)) := fun j hj => mv_tab_v 4096 (fun j => Value.int (mv_xs j)) j hj
def mv_s0 : State := start1.aboutOf mv_sl
def mv_e0 : Env := launch0.env 0 2000000 20000000
set_option maxRecDepth 1000000 in
theorem mv_w0_all : tables_1.all (fun c => c.onTables || c.before start1.args0 mv_s0) = true := by decide +kernel
theorem mv_w0 : ∀ c ∈ (Jvm.Cond.code x code maxLocals ret :: tables_1), c.before start1.args0 mv_s0 = true := by
  intro c hc
  rcases List.mem_cons.mp hc with h | h
  · rw [h]
    exact va_tabs (u := start1.aboutOf start1.cells0) (U := start1.aboutOf mv_sl) rfl (mv_vm0 _ _) (start1.words _ List.mem_cons_self)
  · cases ho : c.onTables
    · have h1 := List.all_eq_true.mp mv_w0_all c h
      rw [ho, Bool.false_or] at h1
      exact h1
    · exact va_tabs (u := start1.aboutOf start1.cells0) (U := start1.aboutOf mv_sl) ho (mv_vm0 _ _) (start1.words c hc)
set_option maxRecDepth 1000000 in
theorem mv_g0 : (Jvm.Cond.and given_1 narrow_1).before start1.args0 mv_s0 = true := by decide +kernel
set_option maxRecDepth 1000000 in
theorem mv_len0 : (Jvm.Cond.isInt (.length (.arg 0))).before start1.args0 mv_s0 = true := by decide +kernel
theorem mv_r00 : rest_1_c.before start1.args0 mv_s0 = true := by
  unfold rest_1_c
  rw [Cond.before_and, mv_len0, Bool.true_and]
  exact mv_all0 mv_sl mv_sl_s mv_sl_v
set_option maxRecDepth 1000000 in
theorem mv_hfr : ((start1.aboutOf mv_sl).heap.toList.drop 1).all (cellFits (start1.aboutOf mv_sl)) = true := by decide +kernel
set_option maxRecDepth 1000000 in
theorem mv_fit0 : argsFit mv_s0.vm ⟨0, 0⟩ start1.args0 = true := by decide +kernel
set_option maxRecDepth 1000000 in
theorem mv_a0 : mv_s0.methodNamed? x = some ⟨0, 0⟩ ∧ mv_s0.hears ⟨0, 0⟩ Lib.HandBits.below0 = true ∧ mv_s0.ripe ⟨0, 0⟩ start1.args0 Lib.HandBits.below0 = true := by decide +kernel
set_option maxRecDepth 1000000 in
theorem mv_z0 : mv_s0.heap.size ≤ 1000 ∧ mv_s0.slotsUsed ≤ 100000 ∧ mv_s0.slotsTrue = true ∧ mv_s0.frames.length ≤ 2048 ∧ mv_s0.localsInUse + 84000 ≤ launch0.maxStackSlots - stackMargin ∧ mv_s0.localsInUse + 84000 + stackMargin ≤ realStackBytes / 8 ∧ mv_s0.me.stackBytes = 0 := by decide +kernel
theorem mv_e0_p : 4096 ≤ mv_e0.platform.maxFrames ∧ 2000000 ≤ mv_e0.platform.maxCells ∧ 20000000 ≤ mv_e0.platform.maxSlots ∧ launch0.maxStackSlots - stackMargin ≤ mv_e0.platform.maxStackSlots :=
  ⟨Nat.le_max_left _ _, Nat.le_max_right _ _, Nat.le_max_right _ _, Nat.le_max_left _ _⟩
theorem mv_roomG {s : State} {pl : Platform} {S : Nat} (z : s.heap.size ≤ 1000 ∧ s.slotsUsed ≤ 100000 ∧ s.slotsTrue = true ∧ s.frames.length ≤ 2048 ∧ s.localsInUse + 84000 ≤ S ∧ s.localsInUse + 84000 + stackMargin ≤ realStackBytes / 8 ∧ s.me.stackBytes = 0)
    (e : 4096 ≤ pl.maxFrames ∧ 2000000 ≤ pl.maxCells ∧ 20000000 ≤ pl.maxSlots ∧ S ≤ pl.maxStackSlots) {cells slots : Nat} (h2 : cells ≤ 900000) (h3 : slots ≤ 7500000) : s.hasRoom pl { frames := 2048, cells := cells, slots := slots, locals := 84000 } = true := by
  obtain ⟨z1, z2, z3, z4, z5, z6, z7⟩ := z
  obtain ⟨e1, e2, e3, e4⟩ := e
  exact State.hasRoom_of z7 (show s.frames.length + 2048 ≤ _ by omega) (show s.localsInUse + 84000 ≤ _ by omega) (show s.heap.size + cells ≤ _ by omega) (show s.slotsUsed + slots ≤ _ by omega) z3 z6
theorem mv_fr0 : mv_s0.frames = .invoking ⟨0, 0⟩ start1.args0 :: Lib.HandBits.below0 ∧ mv_s0.status = .running ∧ mv_s0.curStatus? = some .runnable ∧ mv_s0.alone = true := ⟨rfl, rfl, rfl, rfl⟩
theorem mv_app0 {cells slots : Nat} (h2 : cells ≤ 900000) (h3 : slots ≤ 7500000) : (headSpec (Jvm.Cond.code x code maxLocals ret :: tables_1) { frames := 2048, cells := cells, slots := slots, locals := 84000 }).applies x mv_e0.platform mv_s0 = true :=
  (Spec.applies_iff mv_fr0.1).mpr ⟨mv_fr0.2.1, mv_fr0.2.2.1, mv_fr0.2.2.2, mv_a0.1, mv_a0.2.1, mv_a0.2.2, mv_roomG mv_z0 mv_e0_p h2 h3, atoms_intro mv_w0⟩
theorem mv_pos0 : 0 < mv_s0.heap.size := by decide +kernel
/-- the claim as it is printed is false: behind this script's run stand more cells than it allows -/
theorem mv_false : ¬ Claimed_1_1 := by
  intro h
  obtain ⟨n, o, h1, h2, h3, h4⟩ := h launch0 rfl lists_1 trivial start1.p0 mv_e0 (launch0.admits_env _ _ _) fairChoices_fair.cas fairChoices_fair.clock mv_s0 ⟨0, 0⟩ start1.args0 Lib.HandBits.below0 mv_fr0.1 mv_fit0 (mv_hf0 mv_sl mv_sl_s mv_sl_v mv_hfr) (mv_app0 (Nat.le_of_ble_eq_true rfl) (Nat.le_of_ble_eq_true rfl)) ⟨trivial, mv_r00, mv_g0⟩
  obtain ⟨n2, o2, g1, g2, g3, g4⟩ := mv_walkR launch0 rfl 0 start1.p0 mv_e0 (launch0.admits_env _ _ _) fairChoices_fair.cas fairChoices_fair.clock mv_s0 ⟨0, 0⟩ start1.args0 Lib.HandBits.below0 mv_fr0.1 ((Spec.applies_iff_loose mv_fr0.1).mp (mv_app0 (Nat.le_of_ble_eq_true rfl) (Nat.le_of_ble_eq_true rfl))).1 ⟨rfl, mv_X0 mv_sl mv_sl_s mv_sl_v, mv_pos0, mv_g0⟩ trivial
  obtain ⟨e1, e2⟩ := the_end_unique (f := fun k => stepsAlone start1.p0.tables mv_e0 k mv_s0) h1 h3 g1 g3
  subst e1
  obtain ⟨-, ⟨⟨-, -, hS⟩, -⟩⟩ := h4
  have hle := hS.2.2.1
  have hle : (stepsAlone start1.p0.tables mv_e0 n mv_s0).heap.size ≤ mv_s0.heap.size + 608854 := hle
  revert hle g4
  generalize (stepsAlone start1.p0.tables mv_e0 n mv_s0).heap.size = a
  generalize mv_s0.heap.size = b
  intro g4 hle
  omega
theorem mv_false2 : ¬ (Claimed_1_1 ∧ Claimed_1_2) := fun h => mv_false h.1
