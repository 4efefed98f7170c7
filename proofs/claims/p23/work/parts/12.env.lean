/-! ===== what every method's start brings along; a throw; a method called ===== -/
def mv_nst : List Cond := [.methodLinkNest "BoundWright" 36 ⟨"BoundWright$Routines", "<init>", "()V"⟩ "BoundWright",
  .methodLinkNest "BoundWright" 368 ⟨"BoundWright$Order", "isKeeping", "(II)Z"⟩ "BoundWright",
  .methodLinkNest "BoundWright$Order" 108 ⟨"BoundWright$Forms", "put", "(IIIII)I"⟩ "BoundWright",
  .methodLinkNest "BoundWright" 207 ⟨"BoundWright$Order", "joined", "(IIZI)I"⟩ "BoundWright",
  .methodLinkNest "BoundWright$Review" 141 ⟨"BoundWright$Forms", "put", "(IIIII)I"⟩ "BoundWright",
  .methodLinkNest "BoundWright$Review" 148 ⟨"BoundWright$Order", "isKeeping", "(II)Z"⟩ "BoundWright",
  .methodLinkNest "BoundWright$Review" 195 ⟨"BoundWright$Order", "isUnder", "(III)Z"⟩ "BoundWright",
  .methodLinkNest "BoundWright" 203 ⟨"BoundWright$Order", "isUnder", "(III)Z"⟩ "BoundWright",
  .methodLinkNest "BoundWright$Caller" 68 ⟨"BoundWright$Forms", "put", "(IIIII)I"⟩ "BoundWright",
  .methodLinkNest "BoundWright$Caller" 126 ⟨"BoundWright$Order", "joined", "(IIZI)I"⟩ "BoundWright",
  .methodLinkNest "BoundWright$Caller" 118 ⟨"BoundWright$Order", "isUnder", "(III)Z"⟩ "BoundWright",
  .declares ⟨"java/lang/RuntimeException", "<init>", "()V"⟩,
  .declares ⟨"java/lang/RuntimeException", "<init>", "(Ljava/lang/String;)V"⟩,
  .declares ⟨"java/lang/Exception", "<init>", "()V"⟩,
  .declares ⟨"java/lang/Exception", "<init>", "(Ljava/lang/String;)V"⟩,
  .declares ⟨"java/lang/Throwable", "<init>", "()V"⟩,
  .declares ⟨"java/lang/Throwable", "<init>", "(Ljava/lang/String;)V"⟩,
  .castable "java/lang/IllegalArgumentException" "java/lang/IllegalArgumentException",
  .castable "java/lang/IndexOutOfBoundsException" "java/lang/IndexOutOfBoundsException",
  .castable "java/lang/IllegalStateException" "java/lang/IllegalStateException"]
def mv_str : List (String × Nat × String) := [("BoundWright", 349, "not asked so"), ("BoundWright", 220, "no such class"), ("BoundWright", 347, "no such type"), ("BoundWright", 237, "no such method"), ("BoundWright", 74, "no such variance"), ("BoundWright", 85, "too many classes"), ("BoundWright", 345, "no such parameter"), ("BoundWright", 114, "no bound for this class"), ("BoundWright", 125, "nothing to extend for this class"), ("BoundWright", 133, "extends too many, or one of that class"), ("BoundWright", 179, "no such argument, or too deep"), ("BoundWright", 366, "too many types"), ("BoundWright", 185, "no array of that"), ("BoundWright", 239, "many of no array"), ("BoundWright", 242, "too many methods"), ("BoundWright", 253, "no bound of a variable"), ("BoundWright", 273, "no such call"), ("BoundWright", 288, "no such name"), ("BoundWright", 293, "no such fault")]
def mv_ex : Nat → String
  | 0 => "java/lang/IllegalArgumentException"
  | 1 => "java/lang/IndexOutOfBoundsException"
  | _ => "java/lang/IllegalStateException"
def mv_ncs : List (String × String) := [(mv_ex 0, mv_ex 1), (mv_ex 0, mv_ex 2), (mv_ex 1, mv_ex 0), (mv_ex 1, mv_ex 2), (mv_ex 2, mv_ex 0), (mv_ex 2, mv_ex 1)]
def mv_tk2 : Nat → Nat
  | 0 => 72
  | 1 => 291
  | _ => 83
def mv_tc2 : Nat → Nat
  | 0 => 76
  | 1 => 295
  | _ => 87
def mv_xnm : List String := ["java/lang/RuntimeException", "java/lang/Exception"]
theorem mv_tw0 : (∀ w ∈ Cond.classLink RX7 (mv_tk2 0) (mv_ex 0) :: Cond.initialized (mv_ex 0) :: vx_atS RX7 (mv_tc2 0) (mv_ex 0) mv_xnm, (w ∈ mv_big ∨ (w ∈ mv_nst ∧ w.onTables = true)) ∧ vx_ot w = true) ∧ Bundle.fit (mv_ex 0) = true := by decide +kernel
theorem mv_tw1 : (∀ w ∈ Cond.classLink RX7 (mv_tk2 1) (mv_ex 1) :: Cond.initialized (mv_ex 1) :: vx_atS RX7 (mv_tc2 1) (mv_ex 1) mv_xnm, (w ∈ mv_big ∨ (w ∈ mv_nst ∧ w.onTables = true)) ∧ vx_ot w = true) ∧ Bundle.fit (mv_ex 1) = true := by decide +kernel
theorem mv_tw2 : (∀ w ∈ Cond.classLink RX7 (mv_tk2 2) (mv_ex 2) :: Cond.initialized (mv_ex 2) :: vx_atS RX7 (mv_tc2 2) (mv_ex 2) mv_xnm, (w ∈ mv_big ∨ (w ∈ mv_nst ∧ w.onTables = true)) ∧ vx_ot w = true) ∧ Bundle.fit (mv_ex 2) = true := by decide +kernel
theorem mv_xfit : ∀ n ∈ mv_xnm, Bundle.fit n = true := by decide +kernel
def mv_nwk : Cond → Bool
  | .methodLinkNest _ _ _ _ => true
  | .declares _ => true
  | .castable _ _ => true
  | _ => false
theorem mv_nw_k : ∀ w ∈ mv_nst, mv_nwk w = true := by decide +kernel
theorem mv_nw_t {w : Cond} (h : mv_nwk w = true) : w.onTables = true := by cases w <;> first | rfl | cases h
theorem mv_nw_w {w : Cond} {s U : State} (h : mv_nwk w = true) (hW : s.WarmedH U.vm) (hZ : va_Nw w s) : va_Nw w U := by
  cases w with
  | methodLinkNest a i x y => exact va_Nw.warmM hW hZ
  | declares x => exact va_Nw.warmD hW hZ
  | castable x y => exact va_Nw.warmC hW hZ
  | _ => cases h
abbrev mv_ZU (ba : mv_A) (U : State) (H : Heap) : Prop := vx_Zq Bundle.tN "UNASSIGNED_STACK" Bundle.steD (fun q => ba.1 ≤ q) U H
abbrev mv_ZN (ba : mv_A) (U : State) (H : Heap) : Prop := vx_Zq Bundle.tN "SUPPRESSED_SENTINEL" Bundle.listD (fun q => ba.1 ≤ q) U H
/-- what holds at every method's start, beside its own code -/
def mv_en (D : va_G) (cs : ClassId × ClassId × ClassId) (r : Nat → Int32) (ba : mv_A) (b : Nat) (U : State) : Prop :=
  va_K D vwCl (mv_tys cs) U ∧ mv_sc r ba b U ∧ mv_ZU ba U U.heap ∧ mv_ZN ba U U.heap ∧ (∀ w ∈ mv_nst, va_Nw w U) ∧ (∀ q ∈ mv_str, ∃ a : Nat, vk_R q.1 q.2.1 q.2.2 a U) ∧ (∀ q ∈ mv_ncs, va_Nc q.1 q.2 U) ∧ ba.1 ≤ U.heap.size
theorem mv_en.go {D : va_G} {cs : ClassId × ClassId × ClassId} {r : Nat → Int32} {ba : mv_A} {b : Nat} {s U : State} {H : Heap} {locs : List Loc} (h : mv_en D cs r ba b s) (hW : s.WarmedH U.vm) (hU : U.heap = H) (hS : va_S (fun q => ba.1 ≤ q) s.heap H locs) : mv_en D cs r ba b U := by
  obtain ⟨h1, ⟨L, xs, hX, hbl, hbA, hr, hrL, hL, hr2⟩, h3, h4, h5, h6, h7, h8⟩ := h
  subst hU
  refine ⟨va_K.moved hW.alike h1, ⟨L, xs, (hX.moved hW.alike).kept (hS.2.1 b hbl (Nat.not_le.mpr hbA)), Nat.lt_of_lt_of_le hbl hS.1, hbA, hr, hrL, hL, hr2⟩, (vx_Zq.moved hW.alike h3).kept hS.2.1, (vx_Zq.moved hW.alike h4).kept hS.2.1, fun w hw => mv_nw_w (mv_nw_k w hw) hW (h5 w hw), fun q hq => ?_, fun q hq => va_Nc.moved hW.alike (h7 q hq), Nat.le_trans h8 hS.1⟩
  obtain ⟨a, ha⟩ := h6 q hq
  exact ⟨a, vk_R.warm hW ha⟩
def mv_Pc (D : va_G) (cs : ClassId × ClassId × ClassId) (r : Nat → Int32) (ba : mv_A) (b : Nat) (as : List mv_V) (h : List mv_C) : Array Value → State → Prop := fun v U => v = (as.map (mv_val r ba b)).toArray ∧ mv_en D cs r ba b U ∧ mv_hok D cs r ba b h U.heap
theorem mv_blind (D : va_G) (cs : ClassId × ClassId × ClassId) (r : Nat → Int32) (ba : mv_A) (b : Nat) (as : List mv_V) (h : List mv_C) : FrameBlind (mv_Pc D cs r ba b as h) := by
  intro a U g mk hP
  obtain ⟨h1, h2, h3⟩ := hP
  exact ⟨h1, h2.go (U := U.calling g mk a) (H := U.heap) (locs := []) (State.WarmedH.refl U) rfl va_S.rf, h3⟩
def mv_rv (r : Nat → Int32) (ba : mv_A) (b : Nat) (res : Nat × mv_V) : Option Value := bif Nat.beq res.1 0 then none else some (mv_val r ba b res.2)
def mv_Qc (D : va_G) (cs : ClassId × ClassId × ClassId) (r : Nat → Int32) (ba : mv_A) (b : Nat) (res : Nat × mv_V) (h2 : List mv_C) : Array Value → State → Outcome → State → Prop := fun _ st o t =>
  res.1 < 2 ∧ o = .returned (mv_rv r ba b res) ∧ mv_hok D cs r ba b h2 t.heap ∧ va_F (fun q => ba.1 ≤ q) st t
def mv_XC (D : va_G) (cs : ClassId × ClassId × ClassId) (r : Nat → Int32) (ba : mv_A) (b : Nat) (res : Nat × mv_V) (h2 : List mv_C) : String → State → State → Prop := fun E st t =>
  2 ≤ res.1 ∧ E = mv_ex (res.1 - 2) ∧ mv_ad ba h2.length ≤ t.heap.size ∧ (∀ (k : Nat) (c : mv_C), h2[k]? = some c → mv_cok D cs r ba b (mv_ad ba k) c t.heap) ∧ va_F (fun q => ba.1 ≤ q) st t
def mv_rm (dep mc ms : Nat) : Room := { frames := dep, cells := mc, slots := ms, locals := 100 * dep }
/-- a method's own facts -/
def mv_fr (x : mv_I) (p : Program) (s : State) (m : MethodId) (args : Array Value) (meth : Method) (c : Code) : Prop :=
  p.tables.exec = Jvm.exec ∧ c.code = x.2.1 ∧ c.maxLocals = x.2.2.1 ∧ s.vm.findClass x.1.cls = some m.cls ∧ (∀ w ∈ mv_big, w.before args s = true) ∧ meth.sig.returnType = x.2.2.2.1 ∧ meth.locks = false ∧ meth.name = x.1.name ∧ c.exceptionTable.toList = tableOf x.2.2.2.2.2.2.2
/-- from this place of the method its end is this -/
def mv_run (l : Launch) (D : va_G) (cs : ClassId × ClassId × ClassId) (r : Nat → Int32) (ba : mv_A) (b : Nat) (x : mv_I) (dep : Nat) (loc : mv_L) (st : List mv_V) (h : List mv_C) (nc ns pc : Nat) (res : Nat × mv_V) (h2 : List mv_C) (c2 n2 : Nat) : Prop :=
  nc ≤ c2 ∧ ns ≤ n2 ∧ h.length + c2 = h2.length + nc ∧ ∀ (p : Program) (e : Env) (R : Room) (s : State) (m : MethodId) (args : Array Value) (below : List Frame) (meth : Method) (c : Code), mv_fr x p s m args meth c → mv_en D cs r ba b s → dep ≤ R.frames → 100 * dep ≤ R.locals → c2 ≤ R.cells → n2 ≤ R.slots →
    mv_W p l e R s m args below meth c (vx_MQ below (mv_Qc D cs r ba b res h2) (mv_XC D cs r ba b res h2) args s c2 n2 (fun q => ba.1 ≤ q)) D cs r ba b x.2.2.1 loc st h nc ns pc
theorem mv_args (r : Nat → Int32) (ba : mv_A) (b : Nat) : ∀ (i : Nat) (as : List mv_V), lv_args i (as.map (mv_val r ba b)) = (mv_ag i as).map (mv_lv r ba b)
  | _, [] => rfl
  | i, v :: t => by
    show (i, mv_val r ba b v) :: lv_args (if (mv_val r ba b v).category = 2 then i + 2 else i + 1) (t.map (mv_val r ba b)) = (i, mv_val r ba b v) :: (mv_ag (bif mv_w2 v then i + 2 else i + 1) t).map (mv_lv r ba b)
    rw [← mv_args r ba b _ t, (mv_cat r ba b v).2]
    cases mv_w2 v <;> rfl
theorem mv_lgs (r : Nat → Int32) (ba : mv_A) (b : Nat) : ∀ (as : List mv_V), (lg_sl (as.map (mv_val r ba b))).length = mv_cs as
  | [] => rfl
  | v :: t => by
    have ih := mv_lgs r ba b t
    unfold lg_sl at ih ⊢
    rw [List.map_cons, List.flatMap_cons, List.length_append, ih]
    show _ = (bif mv_w2 v then 2 else 1) + mv_cs t
    rw [(mv_cat r ba b v).2]
    cases mv_w2 v <;> rfl
theorem mv_csum (r : Nat → Int32) (ba : mv_A) (b : Nat) : ∀ (as : List mv_V), ((as.map (mv_val r ba b)).map fun v => v.category).sum = mv_cs as
  | [] => rfl
  | v :: t => by
    have ih := mv_csum r ba b t
    rw [List.map_cons, List.map_cons, List.sum_cons, ih, (mv_cat r ba b v).2]
    rfl
section MVTH
variable {p : Program} {l : Launch} {e : Env} {R : Room} {s : State} {m : MethodId} {args : Array Value} {below : List Frame} {meth : Method} {c : Code} {H : Heap} {locs : List Loc} {cells slots : Nat} {Q : State → Prop}
variable {mc ms : Nat} {free : Addr → Prop} {A0 A1 : Nat → Prop} {H0 : Heap} {a : Array Value} {ls : Array Slot} {st0 rest : List Value}
variable {Qc : Array Value → State → Outcome → State → Prop} {XC : String → State → State → Prop}
/-! as vx_throwS and vx_throwSW of the pasted laws, with one more fact: the heap has grown -/
theorem mv_throwS {cc : ByteArray} {pc : Nat} (hexec : p.tables.exec = Jvm.exec) (hb : c.code = cc) (hl : l.stackTraces = false) {own cls text : String} {names : List String} {ik is ic mc ms sa : Nat} {A : Nat → Prop}
    (hown : s.vm.findClass own = some m.cls) (hcls : Bundle.fit cls = true) (hnames : ∀ n ∈ names, Bundle.fit n = true)
    (hk : (Cond.classLink own ik cls).before args s = true) (hini : (Cond.initialized cls).before args s = true) (hstr : vk_R own is text sa s) (hat : ∀ w ∈ vx_atS own ic cls names, w.before args s = true)
    (hgood : ∀ w ∈ Cond.classLink own ik cls :: Cond.initialized cls :: vx_atS own ic cls names, vx_ot w = true)
    (hU : vx_Zq Bundle.tN "UNASSIGNED_STACK" Bundle.steD A s s.heap) (hN : vx_Zq Bundle.tN "SUPPRESSED_SENTINEL" Bundle.listD A s s.heap) (hS : va_S A s.heap H locs) (hsize : ls.size = c.maxLocals)
    (d0 : decode cc pc = .ok (.new ik, 3)) (d3 : decode cc (pc + 3) = .ok (.dup, 1)) (d4 : decode cc (pc + 4) = .ok (.ldc is, 2)) (d6 : decode cc (pc + 6) = .ok (.invokespecial ic, 3)) (d9 : decode cc (pc + 9) = .ok (.athrow, 1))
    (hout : ∀ x ∈ c.exceptionTable.toList, covers x (pc + 9) = false)
    (hRframes : names.length + 3 < R.frames) (hRlocals : (rest.map fun v => v.category).sum + (13 * (names.length + 1) + 43) ≤ R.locals) (hRcells : cells + 1 ≤ R.cells) (hRslots : slots + 6 ≤ R.slots) (hlocks : meth.locks = false)
    (hx : ∀ t : State, s.vm.Alike t.vm → H.size < t.heap.size → (∀ q : Nat, q < H.size → t.heap[q]? = H[q]?) → XC cls s t)
    (hf : ∀ z ∈ locs, free z.base) (hc : cells + 1 ≤ mc) (hs : slots + 6 ≤ ms) :
    W p l e R s m args below meth c H locs cells slots (vx_MQ below Qc XC args s mc ms free) (F0 m pc ls rest) := by
  intro T hT X
  have htr : e.platform.stackTraces = false := (show e.platform.stackTraces = l.stackTraces by rw [X.admits.platform]).trans hl
  have Y := vx_rebase X (R' := { frames := R.frames, locals := R.locals, cells := 1, slots := 6 }) (Nat.le_refl _) (Nat.le_refl _) hRcells hRslots
  obtain ⟨s', hA⟩ : ∃ z, z = (T.setVm s.vm).setFrames (.invoking m args :: below) := ⟨_, rfl⟩
  rw [← hA] at Y
  have hvm : s'.vm = s.vm := by rw [hA]; rfl
  have hhp : s'.heap = H := by rw [hA]; exact hT
  have hW0 : s.WarmedH s'.vm := by rw [hvm]; exact State.WarmedH.refl s
  have hat' : ∀ w ∈ vx_atS own ic cls names, w.before args s' = true := fun w hw => vx_ot_at hW0 hvm.symm (hgood w (List.mem_cons_of_mem _ (List.mem_cons_of_mem _ hw))) (hat w hw)
  have hk' : (Cond.classLink own ik cls).before args s' = true := vx_ot_at hW0 hvm.symm (hgood _ List.mem_cons_self) hk
  have hini' : (Cond.initialized cls).before args s' = true := vx_ot_at hW0 hvm.symm (hgood _ (List.mem_cons_of_mem _ List.mem_cons_self)) hini
  have hU' : vx_Zq Bundle.tN "UNASSIGNED_STACK" Bundle.steD A s' s'.heap := by rw [hhp]; exact vx_Zq.moved hW0.alike (hU.kept hS.2.1)
  have hN' : vx_Zq Bundle.tN "SUPPRESSED_SENTINEL" Bundle.listD A s' s'.heap := by rw [hhp]; exact vx_Zq.moved hW0.alike (hN.kept hS.2.1)
  have h : ∀ w ∈ Bundle.ownAtoms own ic cls names, w.before args s' = true := vx_own hat' (vx_isRefq hU'.1) (vx_isRefq hN'.1) hU'.2.word hN'.2.word
  have hown' : s'.vm.findClass own = some m.cls := by rw [hvm]; exact hown
  have hins : (Cond.instantiable cls 6).before args s' = true := h _ (by simp [Bundle.ownAtoms])
  obtain ⟨vm₁, cX, kX, hfX, hkX, -, -, X₁, st1⟩ := Y.newCold hexec (own := own) (C := cls) (index := ik) (n := 6) hown' hk' hins hini'
    (g := F0 m pc ls rest) rfl (by rw [hb]; exact d0) (Nat.le_refl _) (Nat.le_refl _)
  generalize hT1 : (T.setVm vm₁).pushCell { cls := cX, slots := kX.instanceTypes.map defaultValue, vm := .none } = T1 at X₁ st1
  have hcat : (Value.ref T.heap.size).category = 1 := rfl
  have hcellA : T1.heap[T.heap.size]? = some (freshCell cX kX) := by rw [← hT1]; exact State.heap_pushCell_size _ _
  have d3' : decode c.code (pc + 3) = .ok (.dup, 1) := by rw [hb]; exact d3
  have d4' : decode c.code (pc + 4) = .ok (.ldc is, 2) := by rw [hb]; exact d4
  have hstr' : vk_R own is text sa s' := vk_R.warm hW0 hstr
  obtain ⟨U, hsteps, hrun, hend, hW, hsame, ce, hce, hO⟩ := X₁.ctorThrowS hexec htr (own := own) (cls := cls) (names := names) (ic := ic) hown' hcls hnames h (fun x hx => nomatch hx) hfX hkX hcellA (by rw [hhp, hT]; exact Nat.le_refl _) (msg := .ref sa) rfl
    (g := { method := m, pc := pc + 6, locals := ls, stack := .ref sa :: .ref T.heap.size :: .ref T.heap.size :: rest, locked := none }) rfl hsize rfl rfl (rest := rest) rfl
    (by rw [hb]; exact d6) (by rw [hb]; exact d9) hout hRframes (by simp only [List.map_cons, List.sum_cons, hcat]; omega) hlocks
  obtain ⟨f1, f2⟩ := vx_frame hsame
  rw [hhp] at f1 f2
  have hWs : s.WarmedH U.vm := State.WarmedH.trans hW0 hW
  have hcl : s.vm.findClass cls = some ce.cls := by
    have h9 := hO.cls
    rw [hvm] at h9
    exact h9
  have hall : s.sameButNew ({ U with vm := s.vm } : State) locs mc ms := by
    subst hA
    obtain ⟨e1, e2⟩ := hsame
    rw [State.setFrames_setFrames] at e1
    have h2 : (T.setVm s.vm).sameButNew ({ U with vm := s.vm } : State) [] (0 + 1) (0 + 6) := ⟨e1, e2⟩
    have h3 := X.same.trans h2
    rw [List.append_nil] at h3
    exact h3.mono hc hs
  refine ⟨U, ?_, .threw T.heap.size, hrun, hend, Or.inr ⟨T.heap.size, rfl, cls, ce, locs, hx U hWs.alike (by have h7 := (Array.getElem?_eq_some_iff.mp hce).1; rw [hT] at h7; exact h7) (fun q hq => f2 q hq (fun z hz => nomatch hz)), hce, hO.vm, hcl, hWs, hall, hf⟩⟩
  refine st1 _ ?_
  show Steps p.tables e below (T1.setTop { method := m, pc := pc + 3, locals := ls, stack := .ref T.heap.size :: rest, locked := none }) _
  jvm_step X₁.here [X₁.here.top, hexec, d3', Value.category]
  exact X₁.ldcString hexec (own := own) (text := text) (index := is) (a := sa) hown' hstr'.1 hstr'.2
    (g := { method := m, pc := pc + 4, locals := ls, stack := .ref T.heap.size :: .ref T.heap.size :: rest, locked := none }) rfl d4' _ hsteps
theorem mv_throwSW {cc : ByteArray} {pc : Nat} (hexec : p.tables.exec = Jvm.exec) (hb : c.code = cc) (hl : l.stackTraces = false) {own cls text : String} {names : List String} {ik is ic mc ms sa : Nat} {A : Nat → Prop}
    (hown : s.vm.findClass own = some m.cls) (hcls : Bundle.fit cls = true) (hnames : ∀ n ∈ names, Bundle.fit n = true)
    (hk : (Cond.classLink own ik cls).before args s = true) (hini : (Cond.initialized cls).before args s = true) (hstr : vk_R own is text sa s) (hat : ∀ w ∈ vx_atS own ic cls names, w.before args s = true)
    (hgood : ∀ w ∈ Cond.classLink own ik cls :: Cond.initialized cls :: vx_atS own ic cls names, vx_ot w = true)
    (hU : vx_Zq Bundle.tN "UNASSIGNED_STACK" Bundle.steD A s s.heap) (hN : vx_Zq Bundle.tN "SUPPRESSED_SENTINEL" Bundle.listD A s s.heap) (hS : va_S A s.heap H locs) (hsize : ls.size = c.maxLocals)
    (d0 : decode cc pc = .ok (.new ik, 3)) (d3 : decode cc (pc + 3) = .ok (.dup, 1)) (d4 : decode cc (pc + 4) = .ok (.ldc_w is, 3)) (d7 : decode cc (pc + 7) = .ok (.invokespecial ic, 3)) (d10 : decode cc (pc + 10) = .ok (.athrow, 1))
    (hout : ∀ x ∈ c.exceptionTable.toList, covers x (pc + 10) = false)
    (hRframes : names.length + 3 < R.frames) (hRlocals : (rest.map fun v => v.category).sum + (13 * (names.length + 1) + 43) ≤ R.locals) (hRcells : cells + 1 ≤ R.cells) (hRslots : slots + 6 ≤ R.slots) (hlocks : meth.locks = false)
    (hx : ∀ t : State, s.vm.Alike t.vm → H.size < t.heap.size → (∀ q : Nat, q < H.size → t.heap[q]? = H[q]?) → XC cls s t)
    (hf : ∀ z ∈ locs, free z.base) (hc : cells + 1 ≤ mc) (hs : slots + 6 ≤ ms) :
    W p l e R s m args below meth c H locs cells slots (vx_MQ below Qc XC args s mc ms free) (F0 m pc ls rest) := by
  intro T hT X
  have htr : e.platform.stackTraces = false := (show e.platform.stackTraces = l.stackTraces by rw [X.admits.platform]).trans hl
  have Y := vx_rebase X (R' := { frames := R.frames, locals := R.locals, cells := 1, slots := 6 }) (Nat.le_refl _) (Nat.le_refl _) hRcells hRslots
  obtain ⟨s', hA⟩ : ∃ z, z = (T.setVm s.vm).setFrames (.invoking m args :: below) := ⟨_, rfl⟩
  rw [← hA] at Y
  have hvm : s'.vm = s.vm := by rw [hA]; rfl
  have hhp : s'.heap = H := by rw [hA]; exact hT
  have hW0 : s.WarmedH s'.vm := by rw [hvm]; exact State.WarmedH.refl s
  have hat' : ∀ w ∈ vx_atS own ic cls names, w.before args s' = true := fun w hw => vx_ot_at hW0 hvm.symm (hgood w (List.mem_cons_of_mem _ (List.mem_cons_of_mem _ hw))) (hat w hw)
  have hk' : (Cond.classLink own ik cls).before args s' = true := vx_ot_at hW0 hvm.symm (hgood _ List.mem_cons_self) hk
  have hini' : (Cond.initialized cls).before args s' = true := vx_ot_at hW0 hvm.symm (hgood _ (List.mem_cons_of_mem _ List.mem_cons_self)) hini
  have hU' : vx_Zq Bundle.tN "UNASSIGNED_STACK" Bundle.steD A s' s'.heap := by rw [hhp]; exact vx_Zq.moved hW0.alike (hU.kept hS.2.1)
  have hN' : vx_Zq Bundle.tN "SUPPRESSED_SENTINEL" Bundle.listD A s' s'.heap := by rw [hhp]; exact vx_Zq.moved hW0.alike (hN.kept hS.2.1)
  have h : ∀ w ∈ Bundle.ownAtoms own ic cls names, w.before args s' = true := vx_own hat' (vx_isRefq hU'.1) (vx_isRefq hN'.1) hU'.2.word hN'.2.word
  have hown' : s'.vm.findClass own = some m.cls := by rw [hvm]; exact hown
  have hins : (Cond.instantiable cls 6).before args s' = true := h _ (by simp [Bundle.ownAtoms])
  obtain ⟨vm₁, cX, kX, hfX, hkX, -, -, X₁, st1⟩ := Y.newCold hexec (own := own) (C := cls) (index := ik) (n := 6) hown' hk' hins hini'
    (g := F0 m pc ls rest) rfl (by rw [hb]; exact d0) (Nat.le_refl _) (Nat.le_refl _)
  generalize hT1 : (T.setVm vm₁).pushCell { cls := cX, slots := kX.instanceTypes.map defaultValue, vm := .none } = T1 at X₁ st1
  have hcat : (Value.ref T.heap.size).category = 1 := rfl
  have hcellA : T1.heap[T.heap.size]? = some (freshCell cX kX) := by rw [← hT1]; exact State.heap_pushCell_size _ _
  have d3' : decode c.code (pc + 3) = .ok (.dup, 1) := by rw [hb]; exact d3
  have d4' : decode c.code (pc + 4) = .ok (.ldc_w is, 3) := by rw [hb]; exact d4
  have hstr' : vk_R own is text sa s' := vk_R.warm hW0 hstr
  obtain ⟨U, hsteps, hrun, hend, hW, hsame, ce, hce, hO⟩ := X₁.ctorThrowS hexec htr (own := own) (cls := cls) (names := names) (ic := ic) hown' hcls hnames h (fun x hx => nomatch hx) hfX hkX hcellA (by rw [hhp, hT]; exact Nat.le_refl _) (msg := .ref sa) rfl
    (g := { method := m, pc := pc + 7, locals := ls, stack := .ref sa :: .ref T.heap.size :: .ref T.heap.size :: rest, locked := none }) rfl hsize rfl rfl (rest := rest) rfl
    (by rw [hb]; exact d7) (by rw [hb]; exact d10) hout hRframes (by simp only [List.map_cons, List.sum_cons, hcat]; omega) hlocks
  obtain ⟨f1, f2⟩ := vx_frame hsame
  rw [hhp] at f1 f2
  have hWs : s.WarmedH U.vm := State.WarmedH.trans hW0 hW
  have hcl : s.vm.findClass cls = some ce.cls := by
    have h9 := hO.cls
    rw [hvm] at h9
    exact h9
  have hall : s.sameButNew ({ U with vm := s.vm } : State) locs mc ms := by
    subst hA
    obtain ⟨e1, e2⟩ := hsame
    rw [State.setFrames_setFrames] at e1
    have h2 : (T.setVm s.vm).sameButNew ({ U with vm := s.vm } : State) [] (0 + 1) (0 + 6) := ⟨e1, e2⟩
    have h3 := X.same.trans h2
    rw [List.append_nil] at h3
    exact h3.mono hc hs
  refine ⟨U, ?_, .threw T.heap.size, hrun, hend, Or.inr ⟨T.heap.size, rfl, cls, ce, locs, hx U hWs.alike (by have h7 := (Array.getElem?_eq_some_iff.mp hce).1; rw [hT] at h7; exact h7) (fun q hq => f2 q hq (fun z hz => nomatch hz)), hce, hO.vm, hcl, hWs, hall, hf⟩⟩
  refine st1 _ ?_
  show Steps p.tables e below (T1.setTop { method := m, pc := pc + 3, locals := ls, stack := .ref T.heap.size :: rest, locked := none }) _
  jvm_step X₁.here [X₁.here.top, hexec, d3', Value.category]
  exact X₁.ldcStringW hexec (own := own) (text := text) (index := is) (a := sa) hown' hstr'.1 hstr'.2
    (g := { method := m, pc := pc + 4, locals := ls, stack := .ref T.heap.size :: .ref T.heap.size :: rest, locked := none }) rfl d4' _ hsteps
end MVTH
