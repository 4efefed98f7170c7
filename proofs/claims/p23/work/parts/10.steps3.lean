/-! ===== the stack's own steps, the script, switches; then every step ===== -/
def mv_sc (r : Nat → Int32) (ba : mv_A) (b : Nat) (s : State) : Prop := ∃ (L : Nat) (xs : Nat → Int32), va_X b L xs s s.heap ∧ b < s.heap.size ∧ b < ba.1 ∧ (∀ j, j < 8 → j < L → r j = xs j) ∧ r 10 = nI L ∧ L < 65536 ∧ (∀ j, 8 ≤ j → j < L → r (j + 16) = xs j)
section MVX
variable {p : Program} {l : Launch} {e : Env} {R : Room} {s : State} {m : MethodId} {args : Array Value} {below : List Frame} {meth : Method} {c : Code} {Q : State → Prop}
variable {D : va_G} {cs : ClassId × ClassId × ClassId} {r : Nat → Int32} {ba : mv_A} {b nL : Nat} {g : mv_B} {loc : mv_L} {st : List mv_V} {h : List mv_C} {nc ns : Nat} {x : Option Nat × mv_L × List mv_V × List mv_C × Nat × Nat} {cc : ByteArray} {pc pc2 : Nat}
theorem mv_c1 {v : mv_V} (h : mv_w2 v = false) : (mv_val r ba b v).category = 1 := by rw [(mv_cat r ba b v).2, h]; rfl
theorem mv_c2 {v : mv_V} (h : mv_w2 v = true) : (mv_val r ba b v).category = 2 := by rw [(mv_cat r ba b v).2, h]; rfl
theorem mv_cnn {α : Type} {q : Bool} {y : Option α} {z : α} (h : (bif q then none else y) = some z) : q = false ∧ y = some z := by
  cases q
  · exact ⟨rfl, h⟩
  · cases h
theorem mv_dup_ok (hexec : p.tables.exec = Jvm.exec) (hb : c.code = cc) (hd : decode cc pc = .ok (.dup, 1)) (h1 : mv_dup loc st h nc ns = some (.inr x))
    (kk : mv_Wx p l e R s m args below meth c Q D cs r ba b nL x (pc + 1)) : mv_W p l e R s m args below meth c Q D cs r ba b nL loc st h nc ns pc := by
  unfold mv_dup at h1
  split at h1
  · obtain ⟨h2, h3⟩ := mv_cnn h1
    have k2 := mv_go_ok h3 kk
    intro H locs ls hH hS hl hn
    exact lv_dup hexec hb hd (mv_c1 h2) (k2 H locs ls hH hS hl hn)
  · cases h1
theorem mv_pop_ok (hexec : p.tables.exec = Jvm.exec) (hb : c.code = cc) (hd : decode cc pc = .ok (.pop, 1)) (h1 : mv_pop loc st h nc ns = some (.inr x))
    (kk : mv_Wx p l e R s m args below meth c Q D cs r ba b nL x (pc + 1)) : mv_W p l e R s m args below meth c Q D cs r ba b nL loc st h nc ns pc := by
  unfold mv_pop at h1
  split at h1
  · obtain ⟨h2, h3⟩ := mv_cnn h1
    have k2 := mv_go_ok h3 kk
    intro H locs ls hH hS hl hn
    exact lv_pop hexec hb hd (mv_c1 h2) (k2 H locs ls hH hS hl hn)
  · cases h1
theorem mv_pop2_ok (hexec : p.tables.exec = Jvm.exec) (hb : c.code = cc) (hd : decode cc pc = .ok (.pop2, 1)) (h1 : mv_pop2 loc st h nc ns = some (.inr x))
    (kk : mv_Wx p l e R s m args below meth c Q D cs r ba b nL x (pc + 1)) : mv_W p l e R s m args below meth c Q D cs r ba b nL loc st h nc ns pc := by
  unfold mv_pop2 at h1
  split at h1
  · obtain ⟨h2, h3⟩ := mv_cndn h1
    have k2 := mv_go_ok h3 kk
    intro H locs ls hH hS hl hn
    exact lv_pop2_2 hexec hb hd (mv_c2 h2) (k2 H locs ls hH hS hl hn)
  · cases h1
theorem mv_dupx_ok (hexec : p.tables.exec = Jvm.exec) (hb : c.code = cc) (hd : decode cc pc = .ok (.dup_x1, 1)) (h1 : mv_dupx loc st h nc ns = some (.inr x))
    (kk : mv_Wx p l e R s m args below meth c Q D cs r ba b nL x (pc + 1)) : mv_W p l e R s m args below meth c Q D cs r ba b nL loc st h nc ns pc := by
  unfold mv_dupx at h1
  split at h1
  · obtain ⟨h2, h3⟩ := mv_cnn h1
    simp only [Bool.or_eq_false_iff] at h2
    have k2 := mv_go_ok h3 kk
    intro H locs ls hH hS hl hn
    exact lv_dup_x1 hexec hb hd (mv_c1 h2.1) (mv_c1 h2.2) (k2 H locs ls hH hS hl hn)
  · cases h1
theorem mv_dup2_ok (hexec : p.tables.exec = Jvm.exec) (hb : c.code = cc) (hd : decode cc pc = .ok (.dup2, 1)) (h1 : mv_dup2 loc st h nc ns = some (.inr x))
    (kk : mv_Wx p l e R s m args below meth c Q D cs r ba b nL x (pc + 1)) : mv_W p l e R s m args below meth c Q D cs r ba b nL loc st h nc ns pc := by
  unfold mv_dup2 at h1
  split at h1
  · rcases mv_cnd h1 with ⟨h2, h3⟩ | ⟨h2, h3⟩
    · have k2 := mv_go_ok h3 kk
      intro H locs ls hH hS hl hn
      exact lv_dup2_2 hexec hb hd (mv_c2 h2) (k2 H locs ls hH hS hl hn)
    · split at h3
      · obtain ⟨h4, h5⟩ := mv_cnn h3
        have k2 := mv_go_ok h5 kk
        intro H locs ls hH hS hl hn
        exact lv_dup2_11 hexec hb hd (mv_c1 h2) (mv_c1 h4) (k2 H locs ls hH hS hl hn)
      · cases h3
  · cases h1
theorem mv_and_ok (hexec : p.tables.exec = Jvm.exec) (hb : c.code = cc) (hg : mv_in g r) (h8 : r 8 = r 0 &&& nI 31) (hd : decode cc pc = .ok (.iand, 1)) (h1 : mv_and g loc st h nc ns = some (.inr x))
    (kk : mv_Wx p l e R s m args below meth c Q D cs r ba b nL x (pc + 1)) : mv_W p l e R s m args below meth c Q D cs r ba b nL loc st h nc ns pc := by
  unfold mv_and at h1
  split at h1
  · rename_i y z s2
    rcases mv_cnd h1 with ⟨h2, h3⟩ | ⟨-, h3⟩
    · simp only [Bool.and_eq_true] at h2
      obtain ⟨z1, z2⟩ := z
      obtain ⟨y1, y2⟩ := y
      obtain ⟨e1, e2, e3, e4⟩ := h2
      have f1 : z1 = 5 := mv_beq e1
      have f2 : z2 = 0 := mv_beq e2
      have f3 : y1 = 0 := mv_beq e3
      have f4 : y2 = 31 := mv_beq e4
      subst f1; subst f2; subst f3; subst f4
      have k2 := mv_go_ok h3 kk
      intro H locs ls hH hS hl hn
      refine lv_iand hexec hb hd ?_
      have k3 := k2 H locs ls hH hS hl hn
      have k4 : W p l e R s m args below meth c H locs nc ns Q (F0 m (pc + 1) ls (.int (r 8) :: s2.map (mv_val r ba b))) := k3
      rw [h8] at k4
      exact k4
    · refine mv_bi_ok hg h3 (fun a d n s2 hf k H locs ls hH hS hl hn => ?_) kk
      refine lv_iand hexec hb hd ?_
      have e1 : nI n = nI a &&& nI d := by
        rw [← Option.some.inj hf, mv_nI_m]
        apply Int32.toBitVec_inj.mp
        show (Int32.ofNat (a &&& d)).toBitVec = (Int32.ofNat a).toBitVec &&& (Int32.ofNat d).toBitVec
        rw [Int32.toBitVec_ofNat', Int32.toBitVec_ofNat', Int32.toBitVec_ofNat', BitVec.ofNat_and]
      rw [← e1]
      exact k H locs ls hH hS hl hn
  · cases h1
theorem mv_ushi (hexec : p.tables.exec = Jvm.exec) (hb : c.code = cc) (hg : mv_in g r) (hd : decode cc pc = .ok (.iushr, 1)) (h1 : mv_bi g loc st h nc ns (fun a c => some (mv_co (((nI a).toUInt32 >>> ((nI c).toUInt32 &&& Int32.toUInt32 31)).toInt32))) = some (.inr x))
    (kk : mv_Wx p l e R s m args below meth c Q D cs r ba b nL x (pc + 1)) : mv_W p l e R s m args below meth c Q D cs r ba b nL loc st h nc ns pc := by
  refine mv_bi_ok hg h1 (fun a d n s2 hf k H locs ls hH hS hl hn => ?_) kk
  refine lv_iushr (v := nI n) hexec hb hd (by rw [← Option.some.inj hf, mv_nI_co]) ?_
  exact k H locs ls hH hS hl hn
theorem mv_ush_ok (hexec : p.tables.exec = Jvm.exec) (hb : c.code = cc) (hg : mv_in g r) (hd : decode cc pc = .ok (.iushr, 1)) (h1 : mv_ush g loc st h nc ns = some (.inr x))
    (kk : mv_Wx p l e R s m args below meth c Q D cs r ba b nL x (pc + 1)) : mv_W p l e R s m args below meth c Q D cs r ba b nL loc st h nc ns pc := by
  unfold mv_ush at h1
  split at h1
  · rename_i y z s2
    rcases mv_cnd h1 with ⟨h2, h3⟩ | ⟨-, h3⟩
    · simp only [Bool.and_eq_true] at h2
      rcases mv_cnd h3 with ⟨-, h4⟩ | ⟨-, h4⟩
      · rcases mv_cnd h4 with ⟨-, h5⟩ | ⟨-, h5⟩
        · obtain ⟨z1, z2⟩ := z
          obtain ⟨y1, y2⟩ := y
          obtain ⟨e1, e2, e3, e4⟩ := h2
          have f1 : y1 = 0 := mv_beq e1
          have f2 : z1 = 5 := mv_beq e2
          have f4 : z2 < 16 := mv_blt e4
          subst f1; subst f2
          have k2 := mv_go_ok h5 kk
          intro H locs ls hH hS hl hn
          refine lv_iushr (v := mv_ii r (6, z2 + 16 * y2)) hexec hb hd ?_ (k2 H locs ls hH hS hl hn)
          show _ = ((r ((z2 + 16 * y2) % 16)).toUInt32 >>> ((nI ((z2 + 16 * y2) / 16)).toUInt32 &&& Int32.toUInt32 31)).toInt32
          rw [show (z2 + 16 * y2) % 16 = z2 by omega, show (z2 + 16 * y2) / 16 = y2 by omega]
          rfl
        · rcases mv_cnd h5 with ⟨-, h6⟩ | ⟨-, h6⟩
          · exact mv_ushi hexec hb hg hd h6 kk
          · cases h6
      · cases h4
    · exact mv_ushi hexec hb hg hd h3 kk
  · cases h1
theorem mv_iald_ok (hexec : p.tables.exec = Jvm.exec) (hb : c.code = cc) (hg : mv_in g r) (hK : va_K D vwCl (mv_tys cs) s) (hsc : mv_sc r ba b s) (hd : decode cc pc = .ok (.iaload, 1)) (h1 : mv_iald g loc st h nc ns = some (.inr x))
    (kk : mv_Wx p l e R s m args below meth c Q D cs r ba b nL x (pc + 1)) : mv_W p l e R s m args below meth c Q D cs r ba b nL loc st h nc ns pc := by
  unfold mv_iald at h1
  split at h1
  · rename_i y z s2
    rcases mv_cnd h1 with ⟨h2, h3⟩ | ⟨-, h3⟩
    · unfold mv_sld at h3
      split at h3
      · rename_i a ha
        obtain ⟨h4, h5⟩ := mv_cndn h3
        rw [Bool.and_eq_true] at h4
        obtain ⟨e2, e3⟩ := h4
        have e2 := mv_ble e2
        have e3 := mv_blt e3
        obtain ⟨i1, i2⟩ := mv_cI_ok hg ha
        obtain ⟨L, xs, hX, hbl, hbA, hr, hrL, hL, hr2⟩ := hsc
        have h10 := hg 10
        rw [hrL, mv_cd_nI] at h10
        have e4 : a < L := by omega
        have e8 : r (bif Nat.blt a 8 then a else a + 16) = xs a := by
          cases hq : Nat.blt a 8
          · exact hr2 a (mv_nblt hq) e4
          · exact hr a (mv_blt hq) e4
        intro H locs ls hH hS hl hn
        show W p l e R s m args below meth c H locs nc ns Q (F0 m pc ls (mv_val r ba b y :: mv_val r ba b z :: s2.map (mv_val r ba b)))
        rw [mv_val_I i1, i2, mv_val_S h2]
        refine va_sld hexec hb hX hbl (Nat.not_le.mpr hbA) hS (vp_in_nI e4 (by omega)) hd ?_
        rw [nI_clamp (by omega), ← e8]
        rw [mv_fo_eq] at h5
        split at h5
        · rename_i n hn9
          have k2 := mv_go_ok h5 kk
          have e9 : r (bif Nat.blt a 8 then a else a + 16) = nI n := (mv_cI_ok hg hn9).2
          rw [e9]
          exact k2 H locs ls hH hS hl hn
        · have k2 := mv_go_ok h5 kk
          exact k2 H locs ls hH hS hl hn
      · cases h3
      · cases h3
    · exact mv_aldi_ok hexec hb hg hK hd h3 kk
  · cases h1
theorem mv_alen_ok (hexec : p.tables.exec = Jvm.exec) (hb : c.code = cc) (hK : va_K D vwCl (mv_tys cs) s) (hsc : mv_sc r ba b s) (hd : decode cc pc = .ok (.arraylength, 1)) (h1 : mv_alen loc st h nc ns = some (.inr x))
    (kk : mv_Wx p l e R s m args below meth c Q D cs r ba b nL x (pc + 1)) : mv_W p l e R s m args below meth c Q D cs r ba b nL loc st h nc ns pc := by
  unfold mv_alen at h1
  split at h1
  · rename_i z s2
    rcases mv_cnd h1 with ⟨h2, h3⟩ | ⟨-, h3⟩
    · have k2 := mv_go_ok h3 kk
      obtain ⟨L, xs, hX, hbl, hbA, hr, hrL, hL, -⟩ := hsc
      intro H locs ls hH hS hl hn
      show W p l e R s m args below meth c H locs nc ns Q (F0 m pc ls (mv_val r ba b z :: s2.map (mv_val r ba b)))
      rw [mv_val_S h2]
      refine va_slen hexec hb hX hbl (Nat.not_le.mpr hbA) hS hd ?_
      have k3 : W p l e R s m args below meth c H locs nc ns Q (F0 m (pc + 1) ls (.int (r 10) :: s2.map (mv_val r ba b))) := k2 H locs ls hH hS hl hn
      rw [hrL] at k3
      exact k3
    · exact mv_len_ok hexec hb hK hd h3 kk
  · cases h1
theorem mv_tgt {o : Int} (h : decide (0 ≤ (pc : Int) + o) = true) : (pc : Int) + o = ((((pc : Int) + o).toNat : Nat) : Int) := (Int.toNat_of_nonneg (of_decide_eq_true h)).symm
theorem mv_tsw_ok (hexec : p.tables.exec = Jvm.exec) (hb : c.code = cc) (hg : mv_in g r) {d lo hi : Int} {offs : Array Int} {len : Nat} (hd : decode cc pc = .ok (.tableswitch d lo hi offs, len)) (h1 : mv_tsw g loc st h nc ns pc d lo hi offs = some (.inr x))
    (kk : mv_Wx p l e R s m args below meth c Q D cs r ba b nL x pc2) : mv_W p l e R s m args below meth c Q D cs r ba b nL loc st h nc ns pc := by
  unfold mv_tsw at h1
  split at h1
  · rename_i z s2
    split at h1
    · rename_i a ha
      obtain ⟨i1, i2⟩ := mv_cI_ok hg ha
      rcases mv_cnd h1 with ⟨h2, h3⟩ | ⟨h2, h3⟩
      · obtain ⟨h4, h5⟩ := mv_cndn h3
        rw [mv_fo_eq] at h5
        rw [← mv_inr h5] at kk
        intro H locs ls hH hS hl hn
        show W p l e R s m args below meth c H locs nc ns Q (F0 m pc ls (mv_val r ba b z :: s2.map (mv_val r ba b)))
        rw [mv_val_I i1, i2]
        simp only [Bool.or_eq_true, decide_eq_true_eq] at h2
        exact lv_tableOut hexec hb hd h2 (mv_tgt h4) (kk H locs ls hH hS hl hn)
      · split at h3
        · rename_i o ho
          obtain ⟨h4, h5⟩ := mv_cndn h3
          rw [mv_fo_eq] at h5
          rw [← mv_inr h5] at kk
          intro H locs ls hH hS hl hn
          show W p l e R s m args below meth c H locs nc ns Q (F0 m pc ls (mv_val r ba b z :: s2.map (mv_val r ba b)))
          rw [mv_val_I i1, i2]
          simp only [Bool.or_eq_false_iff, decide_eq_false_iff_not] at h2
          exact lv_tableIn hexec hb hd h2.1 h2.2 ho (mv_tgt h4) (kk H locs ls hH hS hl hn)
        · cases h3
    · cases h1
    · cases h1
  · cases h1
theorem mv_lsw_ok (hexec : p.tables.exec = Jvm.exec) (hb : c.code = cc) (hg : mv_in g r) {d : Int} {ps : Array (Int × Int)} {len : Nat} (hd : decode cc pc = .ok (.lookupswitch d ps, len)) (h1 : mv_lsw g loc st h nc ns pc d ps = some (.inr x))
    (kk : mv_Wx p l e R s m args below meth c Q D cs r ba b nL x pc2) : mv_W p l e R s m args below meth c Q D cs r ba b nL loc st h nc ns pc := by
  unfold mv_lsw at h1
  split at h1
  · rename_i z s2
    split at h1
    · rename_i a ha
      obtain ⟨i1, i2⟩ := mv_cI_ok hg ha
      obtain ⟨h4, h5⟩ := mv_cndn h1
      simp only [Bool.and_eq_true] at h4
      rw [mv_fo_eq] at h5
      rw [← mv_inr h5] at kk
      intro H locs ls hH hS hl hn
      show W p l e R s m args below meth c H locs nc ns Q (F0 m pc ls (mv_val r ba b z :: s2.map (mv_val r ba b)))
      rw [mv_val_I i1, i2]
      exact lv_lookup hexec hb hd h4.1 rfl (mv_tgt h4.2) (kk H locs ls hH hS hl hn)
    · cases h1
    · cases h1
  · cases h1
/-- what a table's row owes, but its place in the code -/
def mv_okB (cand : List Cond) (own name : String) (pc : Nat) (i : Instr) (len a b : Nat) : Bool := match i with
  | .iconst n => Nat.beq len 1 && decide (Int32.ofInt n = nI a)
  | .bipush n => Nat.beq len 2 && decide ((Int8.ofInt n).toInt32 = nI a)
  | .sipush n => Nat.beq len 3 && decide ((Int16.ofInt n).toInt32 = nI a)
  | .ldc k => Nat.beq len 2 && decide (Cond.constant own k (nI a) ∈ cand)
  | .ldc_w k => Nat.beq len 3 && decide (Cond.constant own k (nI a) ∈ cand)
  | .lconst n => Nat.beq len 1 && decide (Int64.ofNat (n : Nat) = lN a)
  | .ldc2_w k => Nat.beq len 3 && decide (Cond.constantLong own k (lN a) ∈ cand)
  | .dconst n => Nat.beq len 1 && (decide (n = 0) && decide (FP.dconst0 = UInt64.ofNat a))
  | .iload_n k => Nat.beq len 1 && Nat.beq k a
  | .iload k => Nat.beq len 2 && Nat.beq k a
  | .lload_n k => Nat.beq len 1 && Nat.beq k a
  | .lload k => Nat.beq len 2 && Nat.beq k a
  | .dload_n k => Nat.beq len 1 && Nat.beq k a
  | .dload k => Nat.beq len 2 && Nat.beq k a
  | .aload_n k => Nat.beq len 1 && Nat.beq k a
  | .aload k => Nat.beq len 2 && Nat.beq k a
  | .istore_n k => Nat.beq len 1 && Nat.beq k a
  | .istore k => Nat.beq len 2 && Nat.beq k a
  | .astore_n k => Nat.beq len 1 && Nat.beq k a
  | .astore k => Nat.beq len 2 && Nat.beq k a
  | .lstore_n k => Nat.beq len 1 && Nat.beq k a
  | .lstore k => Nat.beq len 2 && Nat.beq k a
  | .dstore_n k => Nat.beq len 1 && Nat.beq k a
  | .dstore k => Nat.beq len 2 && Nat.beq k a
  | .iinc k n => Nat.beq len 3 && (Nat.beq k a && decide (Int32.ofInt n = nI b))
  | .ifCond _ off => Nat.beq len 3 && decide ((pc : Int) + off = (a : Int))
  | .if_icmp _ off => Nat.beq len 3 && decide ((pc : Int) + off = (a : Int))
  | .goto off => Nat.beq len 3 && decide ((pc : Int) + off = (a : Int))
  | .tableswitch _ _ _ _ => true
  | .lookupswitch _ _ => true
  | .getfield k => Nat.beq len 3 && match vwCl[a]? with
    | some q => Nat.blt b q.2.2 && decide (Cond.fieldLink own k (q.2.1 b).1 (q.2.1 b).2.1 (q.2.1 b).2.2.1 ∈ cand)
    | none => false
  | .putfield k => Nat.beq len 3 && match vwCl[a]? with
    | some q => Nat.blt (b / 4) q.2.2 && (decide (Cond.fieldLink own k (q.2.1 (b / 4)).1 (q.2.1 (b / 4)).2.1 (q.2.1 (b / 4)).2.2.1 ∈ cand) && (match parseFieldDescriptor (q.2.1 (b / 4)).2.2.1 with
      | some ty => mv_ft (b % 4) ty
      | none => false) && (!(q.2.1 (b / 4)).2.2.2 || (decide (name = "<init>") && decide ((q.2.1 (b / 4)).1 = own))))
    | none => false
  | .newarray t => Nat.beq len 2 && (match t with
    | .int => Nat.beq a 0
    | .long => Nat.beq a 1
    | .boolean => Nat.beq a 2
    | _ => false) && decide (Cond.arrayClass (newarray.typeOf t) ∈ cand)
  | .new k => Nat.beq len 3 && match vwCl[a]? with
    | some q => decide (Cond.classLink own k q.1 ∈ cand) && (decide (Cond.instantiable q.1 q.2.2 ∈ cand) && decide (Cond.initialized q.1 ∈ cand))
    | none => false
  | _ => Nat.beq len 1
theorem mv_dd_ok (hexec : p.tables.exec = Jvm.exec) (hb : c.code = cc) (hd : decode cc pc = .ok (.ddiv, 1)) (h1 : mv_dd loc st h nc ns = some (.inr x))
    (kk : mv_Wx p l e R s m args below meth c Q D cs r ba b nL x (pc + 1)) : mv_W p l e R s m args below meth c Q D cs r ba b nL loc st h nc ns pc := by
  unfold mv_dd at h1
  split at h1
  · rename_i y z s2
    obtain ⟨h2, h3⟩ := mv_cndn h1
    simp only [Bool.and_eq_true] at h2
    rw [mv_fo_eq] at h3
    have k2 := mv_go_ok h3 kk
    intro H locs ls hH hS hl hn
    show W p l e R s m args below meth c H locs nc ns Q (F0 m pc ls (mv_val r ba b y :: mv_val r ba b z :: s2.map (mv_val r ba b)))
    rw [mv_val_D h2.1, mv_val_D h2.2.1]
    refine lv_ddiv hexec hb hd (show _ ≤ _ from of_decide_eq_true h2.2.2) ?_
    have k3 : W p l e R s m args below meth c H locs nc ns Q (F0 m (pc + 1) ls (.double (UInt64.ofNat (FP.ddiv (UInt64.ofNat z.2) (UInt64.ofNat y.2)).toNat) :: s2.map (mv_val r ba b))) := k2 H locs ls hH hS hl hn
    rw [mv_u64] at k3
    exact k3
  · cases h1
theorem mv_a2 {q w : Bool} (h : (q && w) = true) : q = true ∧ w = true := by simpa using h
set_option maxHeartbeats 4000000 in
/-- every step -/
theorem mv_s1_ok {cand : List Cond} {own : String} {i : Instr} {len a k : Nat} (hexec : p.tables.exec = Jvm.exec) (hb : c.code = cc) (hts : ∀ w ∈ mv_big, w.before args s = true) (hown : s.vm.findClass own = some m.cls) (hK : va_K D vwCl (mv_tys cs) s) (hsc : mv_sc r ba b s) (h8 : r 8 = r 0 &&& nI 31) (hg : mv_in g r) (hcand : ∀ w ∈ cand, w ∈ mv_big)
    (hd : decode cc pc = .ok (i, len)) (hk : mv_okB cand own meth.name pc i len a k = true) (h1 : mv_s1 g loc st h nc ns mv_dv nL i pc a k = some (.inr x)) (hR1 : x.2.2.2.2.1 ≤ R.cells) (hR2 : x.2.2.2.2.2 ≤ R.slots)
    (kk : mv_Wx p l e R s m args below meth c Q D cs r ba b nL x (pc + len)) : mv_W p l e R s m args below meth c Q D cs r ba b nL loc st h nc ns pc := by
  cases i with
  | iconst n =>
    obtain ⟨e1, e2⟩ := mv_a2 hk
    cases mv_beq e1
    have k2 := mv_go_ok h1 kk
    intro H locs ls hH hS hl hn
    exact lv_iconst hexec hb hd (of_decide_eq_true e2) (k2 H locs ls hH hS hl hn)
  | bipush n =>
    obtain ⟨e1, e2⟩ := mv_a2 hk
    cases mv_beq e1
    have k2 := mv_go_ok h1 kk
    intro H locs ls hH hS hl hn
    exact lv_bipush hexec hb hd (of_decide_eq_true e2) (k2 H locs ls hH hS hl hn)
  | sipush n =>
    obtain ⟨e1, e2⟩ := mv_a2 hk
    cases mv_beq e1
    have k2 := mv_go_ok h1 kk
    intro H locs ls hH hS hl hn
    exact lv_sipush hexec hb hd (of_decide_eq_true e2) (k2 H locs ls hH hS hl hn)
  | ldc n =>
    obtain ⟨e1, e2⟩ := mv_a2 hk
    cases mv_beq e1
    have k2 := mv_go_ok h1 kk
    intro H locs ls hH hS hl hn
    exact lv_ldc hexec hb hown (hts _ (hcand _ (of_decide_eq_true e2))) hd (k2 H locs ls hH hS hl hn)
  | ldc_w n =>
    obtain ⟨e1, e2⟩ := mv_a2 hk
    cases mv_beq e1
    have k2 := mv_go_ok h1 kk
    intro H locs ls hH hS hl hn
    exact lv_ldcw hexec hb hown (hts _ (hcand _ (of_decide_eq_true e2))) hd (k2 H locs ls hH hS hl hn)
  | lconst n =>
    obtain ⟨e1, e2⟩ := mv_a2 hk
    cases mv_beq e1
    have k2 := mv_go_ok h1 kk
    intro H locs ls hH hS hl hn
    exact lv_lconst hexec hb hd (of_decide_eq_true e2) (k2 H locs ls hH hS hl hn)
  | ldc2_w n =>
    obtain ⟨e1, e2⟩ := mv_a2 hk
    cases mv_beq e1
    have k2 := mv_go_ok h1 kk
    intro H locs ls hH hS hl hn
    exact lv_ldc2 hexec hb hown (hts _ (hcand _ (of_decide_eq_true e2))) hd (k2 H locs ls hH hS hl hn)
  | dconst n =>
    obtain ⟨e1, e2⟩ := mv_a2 hk
    obtain ⟨e2, e3⟩ := mv_a2 e2
    cases mv_beq e1
    have e2 : n = 0 := of_decide_eq_true e2
    subst e2
    have k2 := mv_go_ok h1 kk
    intro H locs ls hH hS hl hn
    refine lv_dconst0 hexec hb hd ?_
    have k3 : W p l e R s m args below meth c H locs nc ns Q (F0 m (pc + 1) ls (.double (UInt64.ofNat a) :: st.map (mv_val r ba b))) := k2 H locs ls hH hS hl hn
    rw [← (of_decide_eq_true e3 : FP.dconst0 = UInt64.ofNat a)] at k3
    exact k3
  | iload_n n =>
    obtain ⟨e1, e2⟩ := mv_a2 hk
    cases mv_beq e1
    exact mv_ld_ok h1 (fun v H locs ls hf hl k => by rw [mv_val_I hf] at hl k; exact lv_iload_n hexec hb hd (mv_beq e2) hl k) kk
  | iload n =>
    obtain ⟨e1, e2⟩ := mv_a2 hk
    cases mv_beq e1
    cases mv_beq e2
    exact mv_ld_ok h1 (fun v H locs ls hf hl k => by rw [mv_val_I hf] at hl k; exact lv_iload hexec hb hd hl k) kk
  | lload_n n =>
    obtain ⟨e1, e2⟩ := mv_a2 hk
    cases mv_beq e1
    exact mv_ld_ok h1 (fun v H locs ls hf hl k => by rw [mv_val_J hf] at hl k; exact lv_lload_n hexec hb hd (mv_beq e2) hl k) kk
  | lload n =>
    obtain ⟨e1, e2⟩ := mv_a2 hk
    cases mv_beq e1
    cases mv_beq e2
    exact mv_ld_ok h1 (fun v H locs ls hf hl k => by rw [mv_val_J hf] at hl k; exact lv_lload hexec hb hd hl k) kk
  | dload_n n =>
    obtain ⟨e1, e2⟩ := mv_a2 hk
    cases mv_beq e1
    exact mv_ld_ok h1 (fun v H locs ls hf hl k => by rw [mv_val_D hf] at hl k; exact lv_dload_n hexec hb hd (mv_beq e2) hl k) kk
  | dload n =>
    obtain ⟨e1, e2⟩ := mv_a2 hk
    cases mv_beq e1
    cases mv_beq e2
    exact mv_ld_ok h1 (fun v H locs ls hf hl k => by rw [mv_val_D hf] at hl k; exact lv_dload hexec hb hd hl k) kk
  | aload_n n =>
    obtain ⟨e1, e2⟩ := mv_a2 hk
    cases mv_beq e1
    exact mv_ld_ok h1 (fun v H locs ls hf hl k => by obtain ⟨y, hy⟩ := mv_val_A (r := r) (ba := ba) (b := b) hf; rw [hy] at hl k; exact lv_aload_n hexec hb hd (mv_beq e2) hl k) kk
  | aload n =>
    obtain ⟨e1, e2⟩ := mv_a2 hk
    cases mv_beq e1
    cases mv_beq e2
    exact mv_ld_ok h1 (fun v H locs ls hf hl k => by obtain ⟨y, hy⟩ := mv_val_A (r := r) (ba := ba) (b := b) hf; rw [hy] at hl k; exact lv_aload hexec hb hd hl k) kk
  | istore_n n =>
    obtain ⟨e1, e2⟩ := mv_a2 hk
    cases mv_beq e1
    exact mv_sto_ok h1 (fun v s2 H locs ls hf hi hl k => by rw [mv_val_I hf]; exact lv_istore_n hexec hb hd (mv_beq e2) hl hi (by rw [mv_flt1, ← mv_val_I hf]; rfl) k) kk
  | istore n =>
    obtain ⟨e1, e2⟩ := mv_a2 hk
    cases mv_beq e1
    cases mv_beq e2
    exact mv_sto_ok h1 (fun v s2 H locs ls hf hi hl k => by rw [mv_val_I hf]; exact lv_istore hexec hb hd hl hi (by rw [mv_flt1, ← mv_val_I hf]; rfl) k) kk
  | astore_n n =>
    obtain ⟨e1, e2⟩ := mv_a2 hk
    cases mv_beq e1
    exact mv_sto_ok h1 (fun v s2 H locs ls hf hi hl k => by obtain ⟨y, hy⟩ := mv_val_A (r := r) (ba := ba) (b := b) hf; rw [hy]; exact lv_astore_n hexec hb hd (mv_beq e2) hl hi (by rw [mv_flt1, ← hy]; rfl) k) kk
  | astore n =>
    obtain ⟨e1, e2⟩ := mv_a2 hk
    cases mv_beq e1
    cases mv_beq e2
    exact mv_sto_ok h1 (fun v s2 H locs ls hf hi hl k => by obtain ⟨y, hy⟩ := mv_val_A (r := r) (ba := ba) (b := b) hf; rw [hy]; exact lv_astore hexec hb hd hl hi (by rw [mv_flt1, ← hy]; rfl) k) kk
  | lstore_n n =>
    obtain ⟨e1, e2⟩ := mv_a2 hk
    cases mv_beq e1
    exact mv_sto2_ok h1 (fun v s2 H locs ls hf hi hl k => by rw [mv_val_J hf]; exact lv_lstore_n hexec hb hd (mv_beq e2) hl hi (by rw [mv_flt2, ← mv_val_J hf]; rfl) k) kk
  | lstore n =>
    obtain ⟨e1, e2⟩ := mv_a2 hk
    cases mv_beq e1
    cases mv_beq e2
    exact mv_sto2_ok h1 (fun v s2 H locs ls hf hi hl k => by rw [mv_val_J hf]; exact lv_lstore hexec hb hd hl hi (by rw [mv_flt2, ← mv_val_J hf]; rfl) k) kk
  | dstore_n n =>
    obtain ⟨e1, e2⟩ := mv_a2 hk
    cases mv_beq e1
    exact mv_sto2_ok h1 (fun v s2 H locs ls hf hi hl k => by rw [mv_val_D hf]; exact lv_dstore_n hexec hb hd (mv_beq e2) hl hi (by rw [mv_flt2, ← mv_val_D hf]; rfl) k) kk
  | dstore n =>
    obtain ⟨e1, e2⟩ := mv_a2 hk
    cases mv_beq e1
    cases mv_beq e2
    exact mv_sto2_ok h1 (fun v s2 H locs ls hf hi hl k => by rw [mv_val_D hf]; exact lv_dstore hexec hb hd hl hi (by rw [mv_flt2, ← mv_val_D hf]; rfl) k) kk
  | iinc n z =>
    obtain ⟨e1, e2⟩ := mv_a2 hk
    obtain ⟨e2, e3⟩ := mv_a2 e2
    cases mv_beq e1
    cases mv_beq e2
    exact mv_inc_ok hexec hb hg hd (of_decide_eq_true e3) h1 kk
  | ifCond o off =>
    obtain ⟨e1, e2⟩ := mv_a2 hk
    cases mv_beq e1
    exact mv_if_ok hexec hb hg hd (of_decide_eq_true e2) h1 kk
  | if_icmp o off =>
    obtain ⟨e1, e2⟩ := mv_a2 hk
    cases mv_beq e1
    exact mv_ic_ok hexec hb hg hd (of_decide_eq_true e2) h1 kk
  | goto off =>
    obtain ⟨e1, e2⟩ := mv_a2 hk
    cases mv_beq e1
    rw [← mv_inr h1] at kk
    intro H locs ls hH hS hl hn
    exact lv_goto hexec hb hd (of_decide_eq_true e2) (kk H locs ls hH hS hl hn)
  | tableswitch d lo hi offs => exact mv_tsw_ok hexec hb hg hd h1 kk
  | lookupswitch d ps => exact mv_lsw_ok hexec hb hg hd h1 kk
  | getfield n =>
    obtain ⟨e1, e2⟩ := mv_a2 hk
    cases mv_beq e1
    split at e2
    · rename_i q hq
      obtain ⟨e2, e3⟩ := mv_a2 e2
      obtain ⟨C, T, N⟩ := q
      exact mv_gf_ok hexec hb hts hown hK hq (mv_blt e2) (hcand _ (of_decide_eq_true e3)) hd h1 kk
    · cases e2
  | putfield n =>
    obtain ⟨e1, e2⟩ := mv_a2 hk
    cases mv_beq e1
    split at e2
    · rename_i q hq
      obtain ⟨e2, e3⟩ := mv_a2 e2
      obtain ⟨e3, e5⟩ := mv_a2 e3
      obtain ⟨e3, e4⟩ := mv_a2 e3
      obtain ⟨C, T, N⟩ := q
      split at e4
      · rename_i ty hty
        refine mv_pf_ok hexec hb hts hown hK hq (mv_blt e2) (hcand _ (of_decide_eq_true e3)) hd ?_ hty e4 h1 kk
        simp only [Bool.or_eq_true, Bool.and_eq_true, Bool.not_eq_true', decide_eq_true_eq] at e5
        rcases e5 with e5 | ⟨e5, e6⟩
        · exact Or.inl e5
        · cases e7 : (T (k / 4)).2.2.2
          · exact Or.inl rfl
          · exact Or.inr ⟨rfl, e5, e6⟩
      · cases e4
    · cases e2
  | newarray t =>
    obtain ⟨e1, e2⟩ := mv_a2 hk
    obtain ⟨e1, e3⟩ := mv_a2 e1
    cases mv_beq e1
    refine mv_na_ok hexec hb hg hts hK (hcand _ (of_decide_eq_true e2)) ?_ hd h1 hR1 hR2 kk
    cases t with
    | int => exact Or.inl ⟨rfl, mv_beq e3⟩
    | long => exact Or.inr (Or.inl ⟨rfl, mv_beq e3⟩)
    | boolean => exact Or.inr (Or.inr ⟨rfl, mv_beq e3⟩)
    | _ => cases e3
  | new n =>
    obtain ⟨e1, e2⟩ := mv_a2 hk
    cases mv_beq e1
    split at e2
    · rename_i q hq
      obtain ⟨e2, e3⟩ := mv_a2 e2
      obtain ⟨e3, e4⟩ := mv_a2 e3
      obtain ⟨C, T, N⟩ := q
      exact mv_nw_ok hexec hb hts hown hK hq (hcand _ (of_decide_eq_true e2)) (hcand _ (of_decide_eq_true e3)) (hcand _ (of_decide_eq_true e4)) hd h1 hR1 hR2 kk
    · cases e2
  | iadd =>
    cases mv_beq hk
    refine mv_bi_ok (f := fun x y => some ((x + y) % 4294967296)) hg h1 (fun a d n s2 hf k H locs ls hH hS hl hn => ?_) kk
    refine lv_iadd hexec hb hd ?_
    have e1 : nI n = nI a + nI d := by rw [← Option.some.inj hf, mv_nI_m, nI_add]
    rw [← e1]
    exact k H locs ls hH hS hl hn
  | isub =>
    cases mv_beq hk
    refine mv_bi_ok (f := fun x y => some ((x + (4294967296 - y % 4294967296)) % 4294967296)) hg h1 (fun a d n s2 hf k H locs ls hH hS hl hn => ?_) kk
    refine lv_isub hexec hb hd ?_
    have e1 : nI n = nI a - nI d := by
      rw [← Option.some.inj hf, mv_nI_m]
      have e2 : nI d + nI (a + (4294967296 - d % 4294967296)) = nI a := by
        rw [nI_add]
        exact mv_nI_mod (by omega)
      rw [← e2, Int32.add_comm, Int32.add_sub_cancel]
    rw [← e1]
    exact k H locs ls hH hS hl hn
  | imul =>
    cases mv_beq hk
    refine mv_bi_ok (f := fun x y => some (x * y % 4294967296)) hg h1 (fun a d n s2 hf k H locs ls hH hS hl hn => ?_) kk
    refine lv_imul hexec hb hd ?_
    have e1 : nI n = nI a * nI d := by
      rw [← Option.some.inj hf, mv_nI_m]
      exact Int32.ofNat_mul a d
    rw [← e1]
    exact k H locs ls hH hS hl hn
  | iand =>
    cases mv_beq hk
    exact mv_and_ok hexec hb hg h8 hd h1 kk
  | ior =>
    cases mv_beq hk
    refine mv_bi_ok (f := fun x y => some (Nat.lor x y % 4294967296)) hg h1 (fun a d n s2 hf k H locs ls hH hS hl hn => ?_) kk
    refine lv_ior hexec hb hd ?_
    have e1 : nI n = nI a ||| nI d := by
      rw [← Option.some.inj hf, mv_nI_m]
      apply Int32.toBitVec_inj.mp
      show (Int32.ofNat (a ||| d)).toBitVec = (Int32.ofNat a).toBitVec ||| (Int32.ofNat d).toBitVec
      rw [Int32.toBitVec_ofNat', Int32.toBitVec_ofNat', Int32.toBitVec_ofNat', BitVec.ofNat_or]
    rw [← e1]
    exact k H locs ls hH hS hl hn
  | ixor =>
    cases mv_beq hk
    refine mv_bi_ok (f := fun x y => some (Nat.xor x y % 4294967296)) hg h1 (fun a d n s2 hf k H locs ls hH hS hl hn => ?_) kk
    refine lv_ixor hexec hb hd ?_
    have e1 : nI n = nI a ^^^ nI d := by
      rw [← Option.some.inj hf, mv_nI_m]
      apply Int32.toBitVec_inj.mp
      show (Int32.ofNat (a ^^^ d)).toBitVec = (Int32.ofNat a).toBitVec ^^^ (Int32.ofNat d).toBitVec
      rw [Int32.toBitVec_ofNat', Int32.toBitVec_ofNat', Int32.toBitVec_ofNat', BitVec.ofNat_xor]
    rw [← e1]
    exact k H locs ls hH hS hl hn
  | idiv =>
    cases mv_beq hk
    refine mv_bi_ok (f := fun x y => bif decide (nI y = 0) then none else some (mv_co (nI x / nI y))) hg h1 (fun a d n s2 hf k H locs ls hH hS hl hn => ?_) kk
    obtain ⟨hz, hf⟩ := mv_cnn hf
    refine lv_idiv hexec hb hd (of_decide_eq_false hz) ?_
    have e1 : nI n = nI a / nI d := by rw [← Option.some.inj hf, mv_nI_co]
    rw [← e1]
    exact k H locs ls hH hS hl hn
  | irem =>
    cases mv_beq hk
    refine mv_bi_ok (f := fun x y => bif decide (nI y = 0) then none else some (mv_co (nI x - (nI x / nI y) * nI y))) hg h1 (fun a d n s2 hf k H locs ls hH hS hl hn => ?_) kk
    obtain ⟨hz, hf⟩ := mv_cnn hf
    refine lv_irem hexec hb hd (of_decide_eq_false hz) ?_
    have e1 : nI n = nI a - nI a / nI d * nI d := by rw [← Option.some.inj hf, mv_nI_co]
    rw [← e1]
    exact k H locs ls hH hS hl hn
  | ishl =>
    cases mv_beq hk
    refine mv_bi_ok (f := fun x y => some (mv_co (nI x <<< (nI y &&& 31)))) hg h1 (fun a d n s2 hf k H locs ls hH hS hl hn => ?_) kk
    refine lv_ishl hexec hb hd ?_
    have e1 : nI n = nI a <<< (nI d &&& 31) := by rw [← Option.some.inj hf, mv_nI_co]
    rw [← e1]
    exact k H locs ls hH hS hl hn
  | ishr =>
    cases mv_beq hk
    refine mv_bi_ok (f := fun x y => some (mv_co (nI x >>> (nI y &&& 31)))) hg h1 (fun a d n s2 hf k H locs ls hH hS hl hn => ?_) kk
    refine lv_ishr hexec hb hd ?_
    have e1 : nI n = nI a >>> (nI d &&& 31) := by rw [← Option.some.inj hf, mv_nI_co]
    rw [← e1]
    exact k H locs ls hH hS hl hn
  | iushr =>
    cases mv_beq hk
    exact mv_ush_ok hexec hb hg hd h1 kk
  | i2l =>
    cases mv_beq hk
    refine mv_un_ok (f := fun x => (3, mv_cl (nI x).toInt64)) hg h1 (fun a s2 H locs ls k => ?_) kk
    exact lv_i2l (v := lN (mv_cl (nI a).toInt64)) hexec hb hd (mv_lN_cl _).symm k
  | i2d =>
    cases mv_beq hk
    refine mv_un_ok (f := fun x => (4, (FP.i2d (nI x)).toNat)) hg h1 (fun a s2 H locs ls k => ?_) kk
    refine lv_i2d hexec hb hd ?_
    have k3 : W p l e R s m args below meth c H locs nc ns Q (F0 m (pc + 1) ls (.double (UInt64.ofNat (FP.i2d (nI a)).toNat) :: s2.map (mv_val r ba b))) := k
    rw [mv_u64] at k3
    exact k3
  | ladd =>
    cases mv_beq hk
    refine mv_bl_ok (f := fun x y => (3, mv_cl (lN x + lN y))) h1 (fun a d s2 H locs ls k => ?_) kk
    refine lv_ladd hexec hb hd ?_
    have k3 : W p l e R s m args below meth c H locs nc ns Q (F0 m (pc + 1) ls (.long (lN (mv_cl (lN a + lN d))) :: s2.map (mv_val r ba b))) := k
    rw [mv_lN_cl] at k3
    exact k3
  | lmul =>
    cases mv_beq hk
    refine mv_bl_ok (f := fun x y => (3, mv_cl (lN x * lN y))) h1 (fun a d s2 H locs ls k => ?_) kk
    refine lv_lmul hexec hb hd ?_
    have k3 : W p l e R s m args below meth c H locs nc ns Q (F0 m (pc + 1) ls (.long (lN (mv_cl (lN a * lN d))) :: s2.map (mv_val r ba b))) := k
    rw [mv_lN_cl] at k3
    exact k3
  | lcmp =>
    cases mv_beq hk
    refine mv_bl_ok (f := fun x y => (0, mv_co (lg_cmp (lN x) (lN y)))) h1 (fun a d s2 H locs ls k => ?_) kk
    refine W.lcmp hexec hb hd ?_
    have k3 : W p l e R s m args below meth c H locs nc ns Q (F0 m (pc + 1) ls (.int (nI (mv_co (lg_cmp (lN a) (lN d)))) :: s2.map (mv_val r ba b))) := k
    rw [mv_nI_co] at k3
    exact k3
  | ddiv =>
    cases mv_beq hk
    exact mv_dd_ok hexec hb hd h1 kk
  | dcmp o =>
    cases mv_beq hk
    refine mv_b4_ok (f := fun x y => (0, mv_co (Op.cmpValue (FP.dcmp (UInt64.ofNat x) (UInt64.ofNat y)) o))) h1 (fun a d s2 H locs ls k => ?_) kk
    refine lv_dcmp hexec hb hd ?_
    have k3 : W p l e R s m args below meth c H locs nc ns Q (F0 m (pc + 1) ls (.int (nI (mv_co (Op.cmpValue (FP.dcmp (UInt64.ofNat a) (UInt64.ofNat d)) o))) :: s2.map (mv_val r ba b))) := k
    rw [mv_nI_co] at k3
    exact k3
  | dup => cases mv_beq hk; exact mv_dup_ok hexec hb hd h1 kk
  | pop => cases mv_beq hk; exact mv_pop_ok hexec hb hd h1 kk
  | pop2 => cases mv_beq hk; exact mv_pop2_ok hexec hb hd h1 kk
  | dup_x1 => cases mv_beq hk; exact mv_dupx_ok hexec hb hd h1 kk
  | dup2 => cases mv_beq hk; exact mv_dup2_ok hexec hb hd h1 kk
  | iaload => cases mv_beq hk; exact mv_iald_ok hexec hb hg hK hsc hd h1 kk
  | laload => cases mv_beq hk; exact mv_aldl_ok hexec hb hg hK hd h1 kk
  | baload => cases mv_beq hk; exact mv_aldz_ok hexec hb hg hK hd h1 kk
  | iastore => cases mv_beq hk; exact mv_asti_ok hexec hb hg hK hd h1 kk
  | lastore => cases mv_beq hk; exact mv_astl_ok hexec hb hg hK hd h1 kk
  | bastore => cases mv_beq hk; exact mv_zst_ok hexec hb hg hK hd h1 kk
  | arraylength => cases mv_beq hk; exact mv_alen_ok hexec hb hK hsc hd h1 kk
  | _ => cases h1
end MVX
