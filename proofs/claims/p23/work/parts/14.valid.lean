/-! ===== what is asked of a table's entry, of a method; ends ===== -/
def mv_rets (i : Instr) (a : Nat) (ret : Option FieldType) : Bool := match i with
  | .return_ => Nat.beq a 0 && decide (ret = none)
  | .ireturn => (Nat.beq a 1 && decide (ret = some .int)) || (Nat.beq a 2 && decide (ret = some .boolean))
  | .lreturn => Nat.beq a 3 && decide (ret = some .long)
  | .dreturn => Nat.beq a 4 && decide (ret = some .double)
  | .areturn => Nat.beq a 5 && (match ret with
    | some (.object _) => true
    | some (.array _) => true
    | _ => false)
  | _ => false
def mv_thr (cc : ByteArray) (pc : Nat) (i : Instr) (own : String) (a k is ic : Nat) (hd : List (Nat × Nat × Nat × Nat)) : Bool :=
  (decide (i = .new k) && decide (own = RX7)) && ((Nat.blt a 3 && (Nat.beq k (mv_tk2 a) && Nat.beq ic (mv_tc2 a))) && ((mv_str.any (fun q => decide (q.1 = own) && Nat.beq q.2.1 is) && hd.isEmpty) &&
  (decide (decode cc (pc + 3) = .ok (.dup, 1)) &&
  ((decide (decode cc (pc + 4) = .ok (.ldc is, 2)) && (decide (decode cc (pc + 6) = .ok (.invokespecial ic, 3)) && decide (decode cc (pc + 9) = .ok (.athrow, 1)))) ||
  (decide (decode cc (pc + 4) = .ok (.ldc_w is, 3)) && (decide (decode cc (pc + 7) = .ok (.invokespecial ic, 3)) && decide (decode cc (pc + 10) = .ok (.athrow, 1))))))))
def mv_nk (i : Instr) : Nat := match i with
  | .new k => k
  | _ => 0
def mv_c3 (cand : List Cond) (own : String) (i : Instr) : Bool := match i with
  | .invokespecial k => decide (Cond.methodLink own k Lib.objectInit ∈ cand) && (decide (Cond.instanceMethod Lib.objectInit ∈ cand) && decide (Cond.code Lib.objectInit ⟨#[0xb1]⟩ 1 none ∈ cand))
  | _ => false
def mv_c4 (cand : List Cond) (own : String) (y : MethodName) (i : Instr) : Bool := match i with
  | .invokevirtual k => decide (Cond.methodLink own k y ∈ cand)
  | _ => false
def mv_c5 (own : String) (y : MethodName) (i : Instr) : Bool := match i with
  | .invokevirtual k => decide (Cond.methodLinkNest own k y "BoundWright" ∈ mv_nst)
  | _ => false
def mv_c6 (cand : List Cond) (own : String) (y : MethodName) (i : Instr) : Bool := match i with
  | .invokestatic k => decide (Cond.methodLink own k y ∈ cand)
  | _ => false
def mv_c7 (cand : List Cond) (own : String) (y : MethodName) (i : Instr) : Bool := match i with
  | .invokespecial k => decide (Cond.methodLink own k y ∈ cand)
  | _ => false
def mv_c8 (own : String) (y : MethodName) (i : Instr) : Bool := match i with
  | .invokespecial k => decide (Cond.methodLinkNest own k y "BoundWright" ∈ mv_nst)
  | _ => false
def mv_c11 (cand : List Cond) (own : String) (i : Instr) : Bool := match i with
  | .invokestatic k => decide (Cond.methodLink own k arraycopyName ∈ cand) && (decide (Cond.native arraycopyName ∈ cand) && (decide (Cond.static arraycopyName ∈ cand) && decide (Cond.initialized "java/lang/System" ∈ cand)))
  | _ => false
def mv_c15 (cand : List Cond) (own : String) (i : Instr) : Bool := match i with
  | .invokestatic k => decide (Cond.methodLink own k Lib.Math.max.name ∈ cand) && (decide (Cond.static Lib.Math.max.name ∈ cand) && (decide (Cond.initialized "java/lang/Math" ∈ cand) && decide (Cond.code Lib.Math.max.name Lib.Math.max.code 2 (some .int) ∈ cand)))
  | _ => false
def mv_c20 (nL len a : Nat) (i : Instr) : Bool := match i with
  | .astore k => Nat.beq len 2 && (Nat.beq k a && Nat.blt a nL)
  | .astore_n k => Nat.beq len 1 && (Nat.beq k a && Nat.blt a nL)
  | _ => false
def mv_vk (cand : List Cond) (mi : Nat → mv_I) (x : mv_I) (i : Instr) (pc len k a b : Nat) : Bool := match k with
  | 0 => true
  | 1 => Nat.beq len 1 && mv_rets i a x.2.2.2.1
  | 2 => Nat.beq len 3 && mv_thr x.2.1 pc i x.1.cls a (mv_nk i) (b % 65536) (b / 65536) x.2.2.2.2.2.2.2
  | 3 => Nat.beq len 3 && mv_c3 cand x.1.cls i
  | 4 => Nat.beq len 3 && (Nat.beq (mi a).2.2.2.2.2.1 0 && mv_c4 cand x.1.cls (mi a).1 i)
  | 5 => Nat.beq len 3 && (Nat.beq (mi a).2.2.2.2.2.1 0 && mv_c5 x.1.cls (mi a).1 i)
  | 6 => Nat.beq len 3 && (Nat.beq (mi a).2.2.2.2.2.1 1 && mv_c6 cand x.1.cls (mi a).1 i)
  | 7 => Nat.beq len 3 && (Nat.beq (mi a).2.2.2.2.2.1 2 && mv_c7 cand x.1.cls (mi a).1 i)
  | 8 => Nat.beq len 3 && (Nat.beq (mi a).2.2.2.2.2.1 2 && mv_c8 x.1.cls (mi a).1 i)
  | 9 => Nat.beq len 3 && (Nat.beq (mi a).2.2.2.2.2.1 3 && mv_c6 cand x.1.cls (mi a).1 i)
  | 11 => Nat.beq len 3 && mv_c11 cand x.1.cls i
  | 12 => Nat.beq len 3 && (Nat.beq (mi a).2.2.2.2.2.1 0 && mv_c4 cand x.1.cls (mi a).1 i)
  | 13 => Nat.beq len 3 && (Nat.beq (mi a).2.2.2.2.2.1 0 && mv_c5 x.1.cls (mi a).1 i)
  | 14 => Nat.beq len 3 && (Nat.beq (mi a).2.2.2.2.2.1 1 && mv_c6 cand x.1.cls (mi a).1 i)
  | 15 => Nat.beq len 3 && mv_c15 cand x.1.cls i
  | 20 => mv_c20 x.2.2.1 len a i
  | _ => true
def mv_vo (cand : List Cond) (mi : Nat → mv_I) (x : mv_I) (i : Instr) (pc len k a b : Nat) : Bool :=
  decide (decode x.2.1 pc = .ok (i, len)) && (bif Nat.ble 40 k then Nat.beq k (mv_oc i) && mv_okB cand x.1.cls x.1.name pc i len a b else mv_vk cand mi x i pc len k a b)
def mv_vL (cand : List Cond) (mi : Nat → mv_I) (x : mv_I) : Nat → List mv_E → Bool
  | _, [] => true
  | pc, e :: t => Nat.beq e.2.1 pc && (mv_vo cand mi x e.1 e.2.1 e.2.2.1 e.2.2.2.1 e.2.2.2.2.1 e.2.2.2.2.2 && mv_vL cand mi x (e.2.1 + e.2.2.1) t)
def mv_vq (cand : List Cond) (x : mv_I) : Bool := match x.2.2.2.2.2.1 with
  | 0 => x.2.2.2.2.2.2.2.isEmpty && (decide (Cond.instanceMethod x.1 ∈ cand) && (decide (Cond.selects x.1.cls x.1 x.1 ∈ cand) && (match vwCl[x.2.2.2.2.2.2.1]? with
    | some q => decide (q.1 = x.1.cls)
    | none => false)))
  | 1 => x.2.2.2.2.2.2.2.isEmpty && decide (Cond.static x.1 ∈ cand)
  | 2 => x.2.2.2.2.2.2.2.isEmpty && (decide (Cond.instanceMethod x.1 ∈ cand) && (decide (x.1.name = "<init>") && decide (x.2.2.2.1 = none)))
  | 3 => decide (Cond.static x.1 ∈ cand)
  | _ => false
/-- the word of a method's code -/
def mv_hw (x : mv_I) : Cond := bif Nat.beq x.2.2.2.2.2.1 3 then Cond.codeWith x.1 x.2.1 x.2.2.1 x.2.2.2.1 x.2.2.2.2.2.2.2 else Cond.code x.1 x.2.1 x.2.2.1 x.2.2.2.1
def mv_vp (cand : List Cond) (x : mv_I) : Bool :=
  ((plainName x.1.cls && decide (x.1.cls ≠ "java/lang/invoke/MethodHandle")) && (decide (x.1.cls ≠ "java/lang/invoke/VarHandle") && Nat.ble x.2.2.1 80)) &&
  (decide ((parseMethodDescriptor x.1.desc).map (fun d => d.parameters.length) = some x.2.2.2.2.1) && decide (Cond.initialized x.1.cls ∈ cand))
def mv_vh (cand : List Cond) (xn : Nat → Nat) (x : mv_I) : Bool :=
  x.2.2.2.2.2.2.2.all fun q => !(Nat.beq q.2.2.2 0) && (Nat.blt (xn q.2.2.2) 3 && decide (Cond.classLink x.1.cls q.2.2.2 (mv_ex (xn q.2.2.2)) ∈ cand))
def mv_vm (cand : List Cond) (xn : Nat → Nat) (x : mv_I) : Bool := mv_vh cand xn x && (bif Nat.beq x.2.2.2.2.2.1 9 then true else mv_vp cand x && mv_vq cand x)
/-- the tables are true -/
def mv_tb (bk : Nat → Nat → Option (List mv_E)) (mi : Nat → mv_I) (xn : Nat → Nat) (cand : Nat → List Cond) : Prop :=
  ∀ mid : Nat, (∀ w ∈ cand mid, w ∈ mv_big) ∧ mv_vm (cand mid) xn (mi mid) = true ∧ (∀ (pc : Nat) (L : List mv_E), bk mid pc = some L → mv_vL (cand mid) mi (mi mid) pc L = true) ∧ ((mi mid).2.2.2.2.2.1 ≠ 9 → mv_hw (mi mid) ∈ mv_big)
/-- some end that K takes is the machine's -/
def mv_ends (l : Launch) (D : va_G) (cs : ClassId × ClassId × ClassId) (r : Nat → Int32) (ba : mv_A) (b : Nat) (x : mv_I) (dep : Nat) (loc : mv_L) (st : List mv_V) (h : List mv_C) (nc ns pc : Nat) (K : mv_K) : Prop :=
  ∃ (g2 : mv_B) (res : Nat × mv_V) (h2 : List mv_C) (c2 n2 : Nat), mv_in g2 r ∧ res.1 < 5 ∧ K g2 res h2 c2 n2 = true ∧ mv_run l D cs r ba b x dep loc st h nc ns pc res h2 c2 n2
def mv_good (l : Launch) (D : va_G) (cs : ClassId × ClassId × ClassId) (r : Nat → Int32) (ba : mv_A) (b : Nat) (mi : Nat → mv_I) (cand : Nat → List Cond) (J : mv_J) : Prop :=
  ∀ (dep mid pc : Nat) (L : List mv_E) (loc : mv_L) (st : List mv_V) (h : List mv_C) (nc ns : Nat) (g : mv_B) (K : mv_K), J dep mid pc L loc st h nc ns g K = true → mv_vL (cand mid) mi (mi mid) pc L = true → mv_in g r → mv_ends l D cs r ba b (mi mid) dep loc st h nc ns pc K
theorem mv_tk_ok : ∀ (n : Nat) (st acc as rest : List mv_V), mv_tk n st acc = some (as, rest) → ∃ u : List mv_V, u.length = n ∧ st = u ++ rest ∧ as = u.reverse ++ acc
  | 0, st, acc, as, rest, h => by
    have h : some (acc, st) = some (as, rest) := h
    cases h
    exact ⟨[], rfl, rfl, rfl⟩
  | n + 1, [], acc, as, rest, h => by cases h
  | n + 1, v :: s, acc, as, rest, h => by
    obtain ⟨u, h1, h2, h3⟩ := mv_tk_ok n s (v :: acc) as rest h
    exact ⟨v :: u, by rw [List.length_cons, h1], by rw [h2]; rfl, by rw [h3, List.reverse_cons, List.append_assoc]; rfl⟩
theorem mv_hd_none {xn : Nat → Nat} {pc x : Nat} : ∀ {hh : List (Nat × Nat × Nat × Nat)}, mv_hd xn hh pc x = none → ∀ q ∈ hh, (Nat.ble q.1 pc && Nat.blt pc q.2.1) = false ∨ xn q.2.2.2 ≠ x
  | [], _, q, hq => by cases hq
  | y :: t, h, q, hq => by
    have h : (bif Nat.ble y.1 pc && Nat.blt pc y.2.1 && Nat.beq (xn y.2.2.2) x then some y.2.2.1 else mv_hd xn t pc x) = none := h
    rcases mv_cnd h with ⟨-, h1⟩ | ⟨h0, h1⟩
    · cases h1
    · rcases List.mem_cons.mp hq with rfl | hq
      · cases h2 : Nat.ble q.1 pc && Nat.blt pc q.2.1
        · exact Or.inl rfl
        · rw [h2, Bool.true_and] at h0
          exact Or.inr (mv_nbeq h0)
      · exact mv_hd_none h1 q hq
theorem mv_hd_some {xn : Nat → Nat} {pc x hp : Nat} : ∀ {hh : List (Nat × Nat × Nat × Nat)}, mv_hd xn hh pc x = some hp → ∃ (pre : List (Nat × Nat × Nat × Nat)) (q : Nat × Nat × Nat × Nat) (suf : List (Nat × Nat × Nat × Nat)), hh = pre ++ q :: suf ∧ (∀ z ∈ pre, (Nat.ble z.1 pc && Nat.blt pc z.2.1) = false ∨ xn z.2.2.2 ≠ x) ∧ (Nat.ble q.1 pc && Nat.blt pc q.2.1) = true ∧ xn q.2.2.2 = x ∧ q.2.2.1 = hp
  | [], h => by cases h
  | y :: t, h => by
    have h : (bif Nat.ble y.1 pc && Nat.blt pc y.2.1 && Nat.beq (xn y.2.2.2) x then some y.2.2.1 else mv_hd xn t pc x) = some hp := h
    rcases mv_cnd h with ⟨h0, h1⟩ | ⟨h0, h1⟩
    · rw [Bool.and_eq_true] at h0
      exact ⟨[], y, t, rfl, (fun z hz => by cases hz), h0.1, mv_beq h0.2, Option.some.inj h1⟩
    · obtain ⟨pre, q, suf, e1, e2, e3⟩ := mv_hd_some h1
      refine ⟨y :: pre, q, suf, by rw [e1]; rfl, fun z hz => ?_, e3⟩
      rcases List.mem_cons.mp hz with rfl | hz
      · cases h2 : Nat.ble z.1 pc && Nat.blt pc z.2.1
        · exact Or.inl rfl
        · rw [h2, Bool.true_and] at h0
          exact Or.inr (mv_nbeq h0)
      · exact e2 z hz
theorem mv_cov {q : Nat × Nat × Nat × Nat} {pc : Nat} {v : Bool} (h : (Nat.ble q.1 pc && Nat.blt pc q.2.1) = v) : covers ⟨q.1, q.2.1, q.2.2.1, q.2.2.2⟩ pc = v := by
  have e1 : Nat.ble q.1 pc = decide (q.1 ≤ pc) := by
    cases hq : Nat.ble q.1 pc
    · exact (decide_eq_false (Nat.not_le.mpr (mv_nble hq))).symm
    · exact (decide_eq_true (mv_ble hq)).symm
  have e2 : Nat.blt pc q.2.1 = decide (pc < q.2.1) := by
    cases hq : Nat.blt pc q.2.1
    · exact (decide_eq_false (Nat.not_lt.mpr (mv_nblt hq))).symm
    · exact (decide_eq_true (mv_blt hq)).symm
  rw [e1, e2] at h
  exact h
theorem mv_ncs_ok {x y : Nat} (hx : x < 3) (hy : y < 3) (h : y ≠ x) : (mv_ex x, mv_ex y) ∈ mv_ncs := by
  have h1 : x = 0 ∨ x = 1 ∨ x = 2 := by omega
  have h2 : y = 0 ∨ y = 1 ∨ y = 2 := by omega
  unfold mv_ncs
  rcases h1 with rfl | rfl | rfl <;> rcases h2 with rfl | rfl | rfl <;> first | exact absurd rfl h | simp
theorem mv_cst_ok {x : Nat} (hx : x < 3) : Cond.castable (mv_ex x) (mv_ex x) ∈ mv_nst := by
  have h1 : x = 0 ∨ x = 1 ∨ x = 2 := by omega
  unfold mv_nst
  rcases h1 with rfl | rfl | rfl <;> simp [mv_ex]
theorem mv_tw {a : Nat} (ha : a < 3) : (∀ w ∈ Cond.classLink RX7 (mv_tk2 a) (mv_ex a) :: Cond.initialized (mv_ex a) :: vx_atS RX7 (mv_tc2 a) (mv_ex a) mv_xnm, (w ∈ mv_big ∨ (w ∈ mv_nst ∧ w.onTables = true)) ∧ vx_ot w = true) ∧ Bundle.fit (mv_ex a) = true := by
  have h1 : a = 0 ∨ a = 1 ∨ a = 2 := by omega
  rcases h1 with rfl | rfl | rfl
  · exact mv_tw0
  · exact mv_tw1
  · exact mv_tw2
