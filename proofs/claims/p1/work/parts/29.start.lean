/-! ===== the law's entry: what the interpreter's start stands for. Up to lw_ret: the given skeleton's rows; lw_At has two facts more ===== -/
def R_law : String := "BoundWrightLaw"
def lw_P (b : Addr) (xs : List Int32) (args : Array Value) (s : State) : Prop := args = #[.ref b] ∧ s.IntsAt b xs ∧ xs.length ≤ 8 ∧ (Jvm.Cond.and given_1 narrow_1).before args s = true
/-- what a walk over the start with the record d0 says of its end, said of the start itself -/
theorem lw_closed {s t : State} {o : Outcome} {d0 : Drawn} {L : List Loc} {k n : Nat} (hd0 : s.drawn.sameBut d0 lw_cs) (hv : ∃ v, o = .returned v) (hW : (s.setDrawn d0).WarmedH t.vm) (hs : (s.setDrawn d0).sameButNew ({ t with vm := s.vm } : State) L k n) : State.butDraws s t lw_cs (fun t1 => Framed s o t1 L k n) := by
  have h2 : t.drawn = d0 := congrArg State.drawn hs.1
  refine ⟨⟨hv, hW, State.sameButNew.setDrawn hs s.drawn⟩, ?_, by decide⟩
  rw [h2]
  exact hd0
def lw_Q (_ : Array Value) (s : State) (o : Outcome) (t : State) : Prop := o = .returned (some (.int 1)) ∧ State.butDraws s t lw_cs (fun t1 => Framed s o t1 [] 600002 7302232)
def lw_Z (below : List Frame) (a : Array Value) (s : State) : State → Prop := fun t => ∃ o, t.status = .running ∧ Ended t below o ∧ lw_Q a s o t
/-- what holds at the law's entry: the machine, the code, the tables' words (any of lw_tbl by 'hts w (by decide +kernel)'), the script of L ints xs at the cell b, what the Statement gives of the start (any of its parts by flat_of_before) -/
def lw_At (p : Program) (s : State) (m : MethodId) (meth : Method) (c : Code) (b L : Nat) (xs : Nat → Int32) : Prop :=
  p.tables.exec = Jvm.exec ∧ c.code = code ∧ meth.sig.returnType = ret ∧ c.maxLocals = 9 ∧ s.vm.findClass R_law = some m.cls ∧ (∀ w ∈ lw_tbl, w.before #[Value.ref b] s = true) ∧ va_X b L xs s s.heap ∧ b < s.heap.size ∧ meth.locks = false ∧ (Jvm.Cond.and given_1 narrow_1).before #[Value.ref b] s = true ∧ meth.name = x.name ∧ c.exceptionTable.toList = []
theorem mv_arr {ty : FieldType} {args : Array Value} {s : State} (h : (Cond.arrayClass ty).before args s = true) (hn : ∀ C, ty ≠ .object C) : ∃ cA : ClassId, ArrOfT s cA ty ∧ va_RA s cA ty := by
  obtain ⟨cA, kA, comp, h1, h2, h3⟩ := Cond.arrayClass_spec h
  refine ⟨cA, fun N z => ⟨(fun k h => by cases h), kA, h2, comp, h3⟩, ?_⟩
  cases ty with
  | object C => exact absurd rfl (hn C)
  | _ => exact h1
theorem mv_strR {own tx : String} {k : Nat} {args : Array Value} {s : State} (h : (Cond.stringRef own k tx).before args s = true) : ∃ a : Nat, vk_R own k tx a s := by
  have h0 : (Cond.stringRef own k tx).before #[] s = true := h
  have hcur : ∃ cur, s.vm.findClass own = some cur := by
    have h1 := h0
    simp only [Cond.before, Cond.holds, Cond.value] at h1
    cases hc : s.vm.findClass own with
    | none => simp [hc] at h1
    | some cur => exact ⟨cur, rfl⟩
  obtain ⟨cur, hcur⟩ := hcur
  obtain ⟨k9, cf, i, a, -, -, -, -, -, he⟩ := Cond.stringRef_spec hcur h0
  exact ⟨a, vk_R.of h0 he⟩
theorem mv_lay_in : Cond.laysStatic Bundle.tN "UNASSIGNED_STACK" Bundle.steD ∈ lw_tbl ∧ Cond.laysStatic Bundle.tN "SUPPRESSED_SENTINEL" Bundle.listD ∈ lw_tbl ∧ Cond.initialized Bundle.tN ∈ lw_tbl := by decide +kernel
theorem mv_ref_in : Cond.isRef (.static Bundle.tN "UNASSIGNED_STACK" Bundle.steD) ∈ flatC (Jvm.Cond.and given_1 narrow_1) ∧ Cond.isRef (.static Bundle.tN "SUPPRESSED_SENTINEL" Bundle.listD) ∈ flatC (Jvm.Cond.and given_1 narrow_1) := by decide +kernel
theorem mv_nc_in : ∀ q ∈ mv_ncs, Cond.not (.castable q.1 q.2) ∈ flatC (Jvm.Cond.and given_1 narrow_1) := by decide +kernel
theorem mv_nst_in : ∀ w ∈ mv_nst, w ∈ lw_tbl := by decide +kernel
theorem mv_str_in : ∀ q ∈ mv_str, Cond.stringRef q.1 q.2.1 q.2.2 ∈ lw_tbl := by decide +kernel
theorem mv_cls_in : (∀ w ∈ [Cond.arrayClass .int, .arrayClass .long, .arrayClass .boolean], w ∈ mv_big) ∧ ∀ q ∈ vwCl, Cond.instantiable q.1 q.2.2 ∈ mv_big := by decide +kernel
theorem mv_kn {args : Array Value} {s : State} (hts : ∀ w ∈ mv_big, w.before args s = true) : ∃ D : va_G, ∀ (c : Nat) (q : vw_C), vwCl[c]? = some q → u_Kn s q.1 q.2.1 q.2.2 (D.1 c) (D.2 c) := by
  have h : ∀ c : Nat, ∃ d : ClassId × (Nat → Nat), ∀ q : vw_C, vwCl[c]? = some q → u_Kn s q.1 q.2.1 q.2.2 d.1 d.2 := by
    intro c
    cases hq : vwCl[c]? with
    | none => exact ⟨(0, fun _ => 0), fun q h => by cases h⟩
    | some q =>
      obtain ⟨h1, -⟩ := mv_cls (fun _ => 0) 0 0 c q hq
      obtain ⟨cC, iS, h2⟩ := u_known hts h1 (hts _ (mv_cls_in.2 q (List.mem_of_getElem? hq)))
      exact ⟨(cC, iS), fun q2 h => by cases h; exact h2⟩
  exact ⟨(fun c => (Classical.choose (h c)).1, fun c => (Classical.choose (h c)).2), fun c q hq => Classical.choose_spec (h c) q hq⟩
def mv_r0 (L : Nat) (xs : Nat → Int32) : Nat → Int32 := fun j => if j = 8 then (if 0 < L then xs 0 else 0) &&& nI 31 else if j = 10 then nI L else if j < 8 then (if j < L then xs j else 0) else 0
theorem mv_en0 {s : State} {b L : Nat} {xs : Nat → Int32} (hts : ∀ w ∈ lw_tbl, w.before #[Value.ref b] s = true) (hX : va_X b L xs s s.heap) (hbl : b < s.heap.size) (hL : L < 65536) (hgv : (Jvm.Cond.and given_1 narrow_1).before #[Value.ref b] s = true) :
    ∃ (D : va_G) (cs : ClassId × ClassId × ClassId), mv_en D cs (mv_r0 L xs) s.heap.size b s := by
  have htb := mv_big_tbl hts
  obtain ⟨D, hD⟩ := mv_kn htb
  obtain ⟨c0, a1, a2⟩ := mv_arr (htb _ (mv_cls_in.1 (.arrayClass .int) (by simp))) (fun C z => by cases z)
  obtain ⟨c1, b1, b2⟩ := mv_arr (htb _ (mv_cls_in.1 (.arrayClass .long) (by simp))) (fun C z => by cases z)
  obtain ⟨c2, d1, d2⟩ := mv_arr (htb _ (mv_cls_in.1 (.arrayClass .boolean) (by simp))) (fun C z => by cases z)
  have hf := flat_of_before _ hgv
  refine ⟨D, (c0, c1, c2), ⟨hD, fun k q hk => ?_⟩, ⟨L, xs, hX, hbl, hbl, fun j h8 hj => ?_, rfl, hL⟩, ?_, ?_, fun w hw => va_tabs (mv_nw_t (mv_nw_k w hw)) rfl (hts w (mv_nst_in w hw)), fun q hq => mv_strR (hts _ (mv_str_in q hq)), fun q hq => va_Nc.of (hf _ (mv_nc_in q hq)), Nat.le_refl _⟩
  · match k, hk with
    | 0, hk => cases hk; exact ⟨a1, a2⟩
    | 1, hk => cases hk; exact ⟨b1, b2⟩
    | 2, hk => cases hk; exact ⟨d1, d2⟩
    | k + 3, hk => simp [mv_tys] at hk
  · unfold mv_r0
    rw [if_neg (by omega), if_neg (by omega), if_pos h8, if_pos hj]
  · exact vx_Zqof (hts _ mv_lay_in.1) (hts _ mv_lay_in.2.2) (hf _ mv_ref_in.1) (fun a h => Nat.not_le.mpr h)
  · exact vx_Zqof (hts _ mv_lay_in.2.1) (hts _ mv_lay_in.2.2) (hf _ mv_ref_in.2) (fun a h => Nat.not_le.mpr h)
def mv_KF : mv_K := fun _ res _ c2 n2 => Nat.beq res.1 1 && (Nat.beq res.2.1 0 && (Nat.beq res.2.2 1 && (Nat.ble c2 1000 && Nat.ble n2 20000)))
def mv_Ev (g : mv_B) : Prop := ∃ n : Nat, mv_ew mv_bk mv_bkp mv_mi mv_dv mv_xn 5000 n 40 0 0 [] [(0, (7, 0))] [] [] 0 0 g mv_KF = true
def mv_Fv (g : mv_B) : Prop := ∀ r : Nat → Int32, mv_in g r → ∃ g2 : mv_B, mv_in g2 r ∧ mv_Ev g2
theorem mv_EF {g : mv_B} (h : mv_Ev g) : mv_Fv g := fun r hr => ⟨g, hr, h⟩
theorem mv_set_in {g : mv_B} {r : Nat → Int32} {i a b : Nat} (hg : mv_in g r) (hi : Nat.blt i g.length = true) (ha : a ≤ mv_cd (r i)) (hb : mv_cd (r i) ≤ b) : mv_in (g.set i (a, b)) r := fun j => by
  rw [mv_bds (mv_blt hi)]
  by_cases hj : j = i
  · rw [if_pos hj, hj]; exact ⟨ha, hb⟩
  · rw [if_neg hj]; exact hg j
theorem mv_cut2 {g g1 g2 : mv_B} (i q : Nat) (hi : Nat.blt i g.length = true) (e1 : g.set i ((mv_bd g i).1, q - 1) = g1) (e2 : g.set i (q, (mv_bd g i).2) = g2) (h1 : mv_Fv g1) (h2 : mv_Fv g2) : mv_Fv g := fun r hr => by
  have hb := hr i
  by_cases z : mv_cd (r i) < q
  · exact h1 r (by rw [← e1]; exact mv_set_in hr hi hb.1 (by omega))
  · exact h2 r (by rw [← e2]; exact mv_set_in hr hi (by omega) hb.2)
theorem mv_cut3 {g g1 g2 g3 : mv_B} (i q : Nat) (hi : Nat.blt i g.length = true) (e1 : g.set i ((mv_bd g i).1, q - 1) = g1) (e2 : g.set i (q, q) = g2) (e3 : g.set i (q + 1, (mv_bd g i).2) = g3) (h1 : mv_Fv g1) (h2 : mv_Fv g2) (h3 : mv_Fv g3) : mv_Fv g := fun r hr => by
  have hb := hr i
  rcases Nat.lt_trichotomy (mv_cd (r i)) q with z | z | z
  · exact h1 r (by rw [← e1]; exact mv_set_in hr hi hb.1 (by omega))
  · exact h2 r (by rw [← e2]; exact mv_set_in hr hi (by omega) (by omega))
  · exact h3 r (by rw [← e3]; exact mv_set_in hr hi (by omega) hb.2)
theorem mv_vac {g : mv_B} (i : Nat) (h : Nat.blt (mv_bd g i).2 (mv_bd g i).1 = true) : mv_Fv g := fun r hr => by
  have hb := hr i
  have := mv_blt h
  omega
theorem mv_sd (s : State) : s.setDrawn s.drawn = s := rfl
/-- a script whose bounds g tells of: the law comes to its end -/
theorem mv_begin {p : Program} {e : Env} {s : State} {m : MethodId} {below : List Frame} {meth : Method} {c : Code} (l : Launch) (hst : l.stackTraces = false) {b L : Nat} {xs : Nat → Int32} (hL : L < 65536) (C0 : lw_At p s m meth c b L xs) {g : mv_B} (hF : mv_Fv g) (hg : mv_in g (mv_r0 L xs)) : W p l e room_1 s m #[Value.ref b] below meth c s.heap [] 0 0 (lw_Z below #[Value.ref b] s) (entryFrame m ([Value.ref b] : List Value).toArray 9) := by
  obtain ⟨hx, hb, hr, hml, hown, hts, hX, hbl, hlocks, hgv, hnm, htab⟩ := C0
  obtain ⟨D, cs, he⟩ := mv_en0 hts hX hbl hL hgv
  have h8 : mv_r0 L xs 8 = mv_r0 L xs 0 &&& nI 31 := rfl
  obtain ⟨g, hg, n, hev⟩ := hF _ hg
  obtain ⟨g2, res, h2, c2, n2, q1, q2, q3, q4⟩ := mv_ew_ok hst h8 mv_tbl_ok (mv_bkp_t mv_tbl_ok) mv_bkp_p n 40 0 0 [] [(0, (7, 0))] [] [] 0 0 g mv_KF hev rfl hg
  unfold mv_KF at q3
  simp only [Bool.and_eq_true] at q3
  obtain ⟨k1, k2, k3, k4, k5⟩ := q3
  have k1 := mv_beq k1
  have k2 := mv_beq k2
  have k3 := mv_beq k3
  have k4 := mv_ble k4
  have k5 := mv_ble k5
  have hf : mv_fr (mv_mi 0) p s m #[Value.ref b] meth c := ⟨hx, hb, hml, hown, mv_big_tbl hts, hr, hlocks, hnm, htab⟩
  have hl := lv_entry ([.ref b]) (n := 9) (Nat.le_of_ble_eq_true rfl)
  rw [lg_entry_eq]
  have hW := q4.2.2.2 p e room_1 s m #[Value.ref b] below meth c hf he (Nat.le_of_ble_eq_true rfl) (Nat.le_of_ble_eq_true rfl) (Nat.le_trans k4 (Nat.le_of_ble_eq_true rfl)) (Nat.le_trans k5 (Nat.le_of_ble_eq_true rfl)) s.heap [] _ ⟨rfl, fun k c9 hk => by simp at hk⟩ va_S.rf hl rfl
  intro T hT X
  obtain ⟨t, a1, o, b1, b2, b3⟩ := hW T hT X
  refine ⟨t, a1, o, b1, b2, ?_⟩
  rcases b3 with ⟨⟨z1, z2, z3, z4⟩, L9, ⟨hv, hWm, hs⟩, hLf⟩ | ⟨q, -, E, ce, L9, ⟨x1, -⟩, -⟩
  · have ho : o = .returned (some (.int 1)) := by
      rw [z2]
      obtain ⟨ra, rb, rc⟩ := res
      cases k1
      cases k2
      cases k3
      rfl
    refine ⟨ho, lw_closed (d0 := s.drawn) (Drawn.sameBut.refl s.drawn lw_cs) hv ?_ ?_⟩
    · rw [mv_sd]; exact hWm
    · rw [mv_sd]
      exact hs.weaken (fun y hy hlt => absurd hlt (Nat.not_lt.mpr (hLf y hy))) (Nat.le_trans k4 (Nat.le_of_ble_eq_true rfl)) (Nat.le_trans k5 (Nat.le_of_ble_eq_true rfl))
  · rw [k1] at x1
    exact absurd x1 (by omega)
theorem mv_and31 (x : Int32) : 2147483648 ≤ mv_cd (x &&& nI 31) ∧ mv_cd (x &&& nI 31) ≤ 2147483679 := by
  have h : (x &&& nI 31).toBitVec.toNat ≤ 31 := by
    rw [Int32.toBitVec_and, BitVec.toNat_and]
    exact Nat.and_le_right
  have h2 : (x &&& nI 31).toInt = ((x &&& nI 31).toBitVec.toNat : Int) := by
    rw [← Int32.toInt_toBitVec, BitVec.toInt_eq_toNat_cond]
    split
    · rfl
    · omega
  unfold mv_cd
  rw [h2]
  omega
/-- all that a start can be -/
def mv_gA : mv_B := [(0, 4294967295), (0, 4294967295), (0, 4294967295), (0, 4294967295), (0, 4294967295), (0, 4294967295), (0, 4294967295), (0, 4294967295), (2147483648, 2147483679), (0, 4294967295), (2147483648, 2147483656)]
theorem mv_gA_in {L : Nat} {xs : Nat → Int32} (hL : L ≤ 8) : mv_in mv_gA (mv_r0 L xs) := by
  intro i
  have hf : ∀ x : Int32, 0 ≤ mv_cd x ∧ mv_cd x ≤ 4294967295 := fun x => ⟨Nat.zero_le _, by have := mv_cd_lt32 x; omega⟩
  match i with
  | 0 => exact hf _
  | 1 => exact hf _
  | 2 => exact hf _
  | 3 => exact hf _
  | 4 => exact hf _
  | 5 => exact hf _
  | 6 => exact hf _
  | 7 => exact hf _
  | 8 => exact mv_and31 _
  | 9 => exact hf _
  | 10 =>
    show 2147483648 ≤ mv_cd (nI L) ∧ mv_cd (nI L) ≤ 2147483656
    rw [mv_cd_nI]
    omega
  | i + 11 => exact hf _
