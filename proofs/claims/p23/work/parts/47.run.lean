/-! ===== the script's start; the claim is false ===== -/
def R_law : String := "BoundWrightLaw"
theorem mv_arr {ty : FieldType} {args : Array Value} {s : State} (h : (Cond.arrayClass ty).before args s = true) (hn : ∀ C, ty ≠ .object C) : ∃ cA : ClassId, ArrOfT s cA ty ∧ va_RA s cA ty := by
  obtain ⟨cA, kA, comp, h1, h2, h3⟩ := Cond.arrayClass_spec h
  refine ⟨cA, fun N z => ⟨(fun k h => by cases h), kA, h2, comp, h3⟩, ?_⟩
  cases ty with
  | object C => exact absurd rfl (hn C)
  | _ => exact h1
theorem mv_strR {own tx : String} {k : Nat} {args : Array Value} {s : State} (h : (Cond.stringRef own k tx).before args s = true) : ∃ a : Nat, vk_R own k tx a s := by
  have h0 : (Cond.stringRef own k tx).before #[] s = true := h
  have hcur : ∃ cur, s.vm.findClass own = some cur := by
    have h1 := h0
    simp only [Cond.before, Cond.holds, Cond.value] at h1
    cases hc : s.vm.findClass own with
    | none => simp [hc] at h1
    | some cur => exact ⟨cur, rfl⟩
  obtain ⟨cur, hcur⟩ := hcur
  obtain ⟨k9, cf, i, a, -, -, -, -, -, he⟩ := Cond.stringRef_spec hcur h0
  exact ⟨a, vk_R.of h0 he⟩
theorem mv_lay_in : Cond.laysStatic Bundle.tN "UNASSIGNED_STACK" Bundle.steD ∈ lw_tbl ∧ Cond.laysStatic Bundle.tN "SUPPRESSED_SENTINEL" Bundle.listD ∈ lw_tbl ∧ Cond.initialized Bundle.tN ∈ lw_tbl := by decide +kernel
theorem mv_ref_in : Cond.isRef (.static Bundle.tN "UNASSIGNED_STACK" Bundle.steD) ∈ flatC (Jvm.Cond.and given_1 narrow_1) ∧ Cond.isRef (.static Bundle.tN "SUPPRESSED_SENTINEL" Bundle.listD) ∈ flatC (Jvm.Cond.and given_1 narrow_1) := by decide +kernel
theorem mv_nc_in : ∀ q ∈ mv_ncs, Cond.not (.castable q.1 q.2) ∈ flatC (Jvm.Cond.and given_1 narrow_1) := by decide +kernel
theorem mv_nst_in : ∀ w ∈ mv_nst, w ∈ lw_tbl := by decide +kernel
theorem mv_str_in : ∀ q ∈ mv_str, Cond.stringRef q.1 q.2.1 q.2.2 ∈ lw_tbl := by decide +kernel
theorem mv_cls_in : (∀ w ∈ [Cond.arrayClass .int, .arrayClass .long, .arrayClass .boolean], w ∈ mv_big) ∧ ∀ q ∈ vwCl, Cond.instantiable q.1 q.2.2 ∈ mv_big := by decide +kernel
theorem mv_kn {args : Array Value} {s : State} (hts : ∀ w ∈ mv_big, w.before args s = true) : ∃ D : va_G, ∀ (c : Nat) (q : vw_C), vwCl[c]? = some q → u_Kn s q.1 q.2.1 q.2.2 (D.1 c) (D.2 c) := by
  have h : ∀ c : Nat, ∃ d : ClassId × (Nat → Nat), ∀ q : vw_C, vwCl[c]? = some q → u_Kn s q.1 q.2.1 q.2.2 d.1 d.2 := by
    intro c
    cases hq : vwCl[c]? with
    | none => exact ⟨(0, fun _ => 0), fun q h => by cases h⟩
    | some q =>
      obtain ⟨h1, -⟩ := mv_cls (fun _ => 0) (0, 0, 0) 0 c q hq
      obtain ⟨cC, iS, h2⟩ := u_known hts h1 (hts _ (mv_cls_in.2 q (List.mem_of_getElem? hq)))
      exact ⟨(cC, iS), fun q2 h => by cases h; exact h2⟩
  exact ⟨(fun c => (Classical.choose (h c)).1, fun c => (Classical.choose (h c)).2), fun c q hq => Classical.choose_spec (h c) q hq⟩
theorem mv_en0 {s : State} {r xs : Nat → Int32} {b L : Nat} (hts : ∀ w ∈ lw_tbl, w.before #[Value.ref b] s = true) (hX : va_X b L xs s s.heap) (hbl : b < s.heap.size) (hL : L < 65536) (hr1 : ∀ j, j < 8 → j < L → r j = xs j) (hr2 : r 10 = nI L) (hr3 : ∀ j, 8 ≤ j → j < L → r (j + 16) = xs j) (hgv : (Jvm.Cond.and given_1 narrow_1).before #[Value.ref b] s = true) :
    ∃ (D : va_G) (cs : ClassId × ClassId × ClassId), mv_en D cs r (s.heap.size, 0, 0) b s := by
  have htb := mv_big_tbl hts
  obtain ⟨D, hD⟩ := mv_kn htb
  obtain ⟨c0, a1, a2⟩ := mv_arr (htb _ (mv_cls_in.1 (.arrayClass .int) (by simp))) (fun C z => by cases z)
  obtain ⟨c1, b1, b2⟩ := mv_arr (htb _ (mv_cls_in.1 (.arrayClass .long) (by simp))) (fun C z => by cases z)
  obtain ⟨c2, d1, d2⟩ := mv_arr (htb _ (mv_cls_in.1 (.arrayClass .boolean) (by simp))) (fun C z => by cases z)
  have hf := flat_of_before _ hgv
  refine ⟨D, (c0, c1, c2), ⟨hD, fun k q hk => ?_⟩, ⟨L, xs, hX, hbl, hbl, hr1, hr2, hL, hr3⟩, ?_, ?_, fun w hw => va_tabs (mv_nw_t (mv_nw_k w hw)) rfl (hts w (mv_nst_in w hw)), fun q hq => mv_strR (hts _ (mv_str_in q hq)), fun q hq => va_Nc.of (hf _ (mv_nc_in q hq)), Nat.le_refl _⟩
  · match k, hk with
    | 0, hk => cases hk; exact ⟨a1, a2⟩
    | 1, hk => cases hk; exact ⟨b1, b2⟩
    | 2, hk => cases hk; exact ⟨d1, d2⟩
    | k + 3, hk => simp [mv_tys] at hk
  · exact vx_Zqof (hts _ mv_lay_in.1) (hts _ mv_lay_in.2.2) (hf _ mv_ref_in.1) (fun a h => Nat.not_le.mpr h)
  · exact vx_Zqof (hts _ mv_lay_in.2.1) (hts _ mv_lay_in.2.2) (hf _ mv_ref_in.2) (fun a h => Nat.not_le.mpr h)
/-! ===== the script ===== -/
def mv_rS (i : Nat) : Int32 := nI (((mv_bd mv_gS i).1 + 2147483648) % 4294967296)
def mv_xs (j : Nat) : Int32 := mv_rS (if j < 8 then j else j + 16)
set_option maxRecDepth 1000000 in
theorem mv_gS_ok : mv_gS.all (fun q => Nat.ble q.1 q.2 && Nat.blt q.1 4294967296) = true := by decide +kernel
theorem mv_gS_in : mv_in mv_gS mv_rS := fun i => by
  have h : (mv_bd mv_gS i).1 ≤ (mv_bd mv_gS i).2 ∧ (mv_bd mv_gS i).1 < 4294967296 := by
    unfold mv_bd
    cases hq : mv_gS[i]? with
    | none => exact ⟨Nat.zero_le _, by show (0 : Nat) < 4294967296; omega⟩
    | some q =>
      have h1 := List.all_eq_true.mp mv_gS_ok q (List.mem_of_getElem? hq)
      obtain ⟨h2, h3⟩ := mv_a2 h1
      exact ⟨mv_ble h2, mv_blt h3⟩
  have e : mv_cd (mv_rS i) = (mv_bd mv_gS i).1 := by
    unfold mv_rS
    rw [mv_cd_nI]
    omega
  rw [e]
  exact ⟨Nat.le_refl _, h.1⟩
set_option maxRecDepth 1000000 in
theorem mv_rS8 : mv_rS 8 = mv_rS 0 &&& nI 31 ∧ mv_rS 10 = nI 4096 := by decide +kernel
/-! ===== the run from any start with that script ===== -/
def mv_rb : Room := { frames := 2048, cells := 900000, slots := 7500000, locals := 84000 }
def mv_zb (below : List Frame) (s : State) : State → Prop := fun t => ∃ o, t.status = .running ∧ Ended t below o ∧ t.heap.size = s.heap.size + 667472
theorem mv_startR {p : Program} {e : Env} {s : State} {m : MethodId} {below : List Frame} {meth : Method} {c : Code} (l : Launch) (hst : l.stackTraces = false) {b : Nat} (hx : p.tables.exec = Jvm.exec) (hb : c.code = code) (hr : meth.sig.returnType = ret) (hml : c.maxLocals = 9) (hown : s.vm.findClass R_law = some m.cls) (hts : ∀ w ∈ lw_tbl, w.before #[Value.ref b] s = true) (hX : va_X b 4096 mv_xs s s.heap) (hbl : b < s.heap.size) (hlocks : meth.locks = false) (hgv : (Jvm.Cond.and given_1 narrow_1).before #[Value.ref b] s = true) (hnm : meth.name = x.name) (htab : c.exceptionTable.toList = []) :
    W p l e mv_rb s m #[Value.ref b] below meth c s.heap [] 0 0 (mv_zb below s) (entryFrame m ([Value.ref b] : List Value).toArray 9) := by
  obtain ⟨D, cs, he⟩ := mv_en0 (r := mv_rS) hts hX hbl (by omega) (fun j h8 _ => by unfold mv_xs; rw [if_pos h8]) mv_rS8.2 (fun j h8 _ => by unfold mv_xs; rw [if_neg (by omega)]) hgv
  obtain ⟨h2, q1, q2, q3, q4⟩ := ok_law (D := D) (cs := cs) (b0 := s.heap.size) (b := b) hst mv_rS8.1 mv_gS_in
  have hf : mv_fr (mv_mi 0) p s m #[Value.ref b] meth c := ⟨hx, hb, hml, hown, mv_big_tbl hts, hr, hlocks, hnm, htab⟩
  have hl := lv_entry ([.ref b]) (n := 9) (Nat.le_of_ble_eq_true rfl)
  rw [lg_entry_eq]
  have hW := q4 p e mv_rb s m #[Value.ref b] below meth c hf he (Nat.le_of_ble_eq_true rfl) (Nat.le_of_ble_eq_true rfl) (Nat.le_of_ble_eq_true rfl) (Nat.le_of_ble_eq_true rfl) s.heap [] _ ⟨⟨rfl, Nat.le_refl _⟩, fun k c9 hk => by simp at hk⟩ va_S.rf hl rfl
  intro T hT X
  obtain ⟨t, a1, o, b1, b2, b3⟩ := hW T hT X
  refine ⟨t, a1, o, b1, b2, ?_⟩
  rcases b3 with ⟨⟨z1, z2, z3, z4⟩, -⟩ | ⟨q, -, E, ce, L9, ⟨x1, -⟩, -⟩
  · rw [z3.1.1]
    show (if h2.length < 0 then s.heap.size + h2.length else s.heap.size + 0 + h2.length) = _
    rw [if_neg (Nat.not_lt_zero _)]
    have q3 : 0 + 667472 = h2.length + 0 := q3
    omega
  · have x1 : (2 : Nat) ≤ 1 := x1
    omega
def mv_PR (b : Addr) (args : Array Value) (s : State) : Prop := args = #[.ref b] ∧ va_X b 4096 mv_xs s s.heap ∧ b < s.heap.size ∧ (Jvm.Cond.and given_1 narrow_1).before args s = true
set_option maxHeartbeats 4000000 in
theorem mv_walkR (l : Launch) (hflags : l.flags = flags0) (b : Addr) : MetFree l x (headSpec (Jvm.Cond.code x code maxLocals ret :: tables_1) mv_rb) (mv_PR b) (fun _ _ _ _ _ => True) (fun _ s _ t => t.heap.size = s.heap.size + 667472) := by
  refine MetFree.of_bodyS (code := code) (maxLocals := maxLocals) (ret := ret) (by decide) ?_ ?_
  · intro args s m h hn
    obtain ⟨meth, c, h1, h2, h3, h4, h5, h6, -, -⟩ := Cond.code_spec hn (atoms_spec (ws := Jvm.Cond.code x code maxLocals ret :: tables_1) h _ List.mem_cons_self)
    exact ⟨meth, c, h1, h2, h3, h4, h5, h6⟩
  · intro p e s m args below meth c s₁ B hml0 hP _
    obtain ⟨rfl, hX, hbl, hgv⟩ := hP
    have hown : s.vm.findClass R_law = some m.cls := findClass_of_methodNamed B.named
    have hts0 : ∀ c ∈ (Jvm.Cond.code x code maxLocals ret :: tables_1), c.before #[Value.ref b] s = true := atoms_spec (ws := Jvm.Cond.code x code maxLocals ret :: tables_1) B.pre
    have hts : ∀ w ∈ lw_tbl, w.before #[Value.ref b] s = true := k2_hts_sels lw_privs (fun w hw => hts0 w (List.mem_cons_of_mem _ hw)) lw_privs_ok
    have htab : c.exceptionTable.toList = [] := by
      obtain ⟨meth9, c9, h1, h2, -, -, -, -, h7, -⟩ := Cond.code_spec B.named (hts0 _ List.mem_cons_self)
      cases Option.some.inj (h1.symm.trans B.method)
      cases Option.some.inj (h2.symm.trans (Stand.of_body B).code)
      rw [Array.isEmpty_iff.mp h7]
    have hml : c.maxLocals = 9 := B.maxLocals_eq (hts0 _ List.mem_cons_self)
    have X₀ : Stand p l e mv_rb s m #[Value.ref b] below meth c s₁ [] 0 0 := Stand.of_body B
    have hh0 : s₁.heap = s.heap := by rw [B.state]; rfl
    have hst : l.stackTraces = false := by
      unfold Launch.stackTraces
      rw [hflags]
      decide
    have K : W p l e mv_rb s m #[Value.ref b] below meth c s₁.heap [] 0 0 (mv_zb below s) (entryFrame m ([Value.ref b] : List Value).toArray 9) := by
      rw [hh0]
      exact mv_startR l hst B.exec B.bytes B.returns hml hown hts hX hbl B.notSynchronized hgv (name_of_methodNamed B.named B.method).1 htab
    obtain ⟨t, a1, o, b1, b2, b3⟩ := K s₁ rfl X₀
    exact ⟨t, o, a1, b1, b2, b3⟩
