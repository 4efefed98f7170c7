/-! ===== a row of ints copied to another's begin; the interpreter with that kind too ===== -/
noncomputable def mv_cp (g : mv_B) (loc : mv_L) (st : List mv_V) (h : List mv_C) (nc ns : Nat) : mv_S := match st with
  | z :: y :: x :: w :: v :: s2 => bif (Nat.beq v.1 2 && Nat.beq x.1 2) && ((Nat.beq w.1 0 && Nat.beq w.2 0) && ((Nat.beq y.1 0 && Nat.beq y.2 0) && Nat.ble (mv_cs s2) 8)) then
      match mv_cI g z with
      | some (.inr n) => match mv_gt h v.2 with
        | some c0 => match mv_gt h x.2 with
          | some c1 => bif (Nat.beq c0.1 0 && Nat.beq c1.1 0) && (Nat.ble n c0.2.length && (Nat.ble n c1.2.length && Nat.blt c1.2.length 65536)) then
              mv_fl (c0.2.take n ++ c1.2.drop n) (fun l2 => mv_ls h x.2 (0, l2) (fun h2 => mv_go loc h2 nc ns s2)) else none
          | none => none
        | none => none
      | some (.inl q) => some (.inl q)
      | none => none
    else none
  | _ => none
/-- the greater one of two ints -/
def mv_mx (g : mv_B) (loc : mv_L) (st : List mv_V) (h : List mv_C) (nc ns : Nat) : mv_S := match st with
  | y :: x :: s2 => bif Nat.ble (mv_cs s2) 8 then match mv_lt g x y with
      | some (.inr true) => mv_go loc h nc ns (y :: s2)
      | some (.inr false) => mv_go loc h nc ns (x :: s2)
      | some (.inl q) => some (.inl q)
      | none => none
    else none
  | _ => none
noncomputable def mv_x9 (bk : Nat → Nat → Option (List mv_E)) (mi : Nat → mv_I) (xn : Nat → Nat) (ih : mv_J) (dep mid pc : Nat) (e : mv_E) (t : List mv_E) (loc : mv_L) (st : List mv_V) (h : List mv_C) (nc ns : Nat) (g : mv_B) (K : mv_K) : Bool :=
  bif Nat.beq e.2.2.2.1 11 then (bif Nat.blt 0 dep then mv_x0 ih (mv_cp g loc st h nc ns) dep mid pc e t loc st h nc ns g K else false)
  else bif Nat.beq e.2.2.2.1 15 then (bif Nat.blt 0 dep then mv_x0 ih (mv_mx g loc st h nc ns) dep mid pc e t loc st h nc ns g K else false) else mv_x8 bk mi xn ih dep mid pc e t loc st h nc ns g K
/-- a run to the method's end: every end is one that K takes -/
noncomputable def mv_eu (bk : Nat → Nat → Option (List mv_E)) (mi : Nat → mv_I) (dv : Nat → List mv_V) (xn : Nat → Nat) (n : Nat) : mv_J :=
  Nat.rec (motive := fun _ => mv_J)
    (fun _ _ _ _ _ _ _ _ _ _ _ => false)
    (fun _ ih dep mid pc L loc st h nc ns g K => match L with
      | [] => match bk mid pc with
        | some (e :: t) => ih dep mid pc (e :: t) loc st h nc ns g K
        | _ => false
      | e :: t => bif Nat.ble 40 e.2.2.2.1 then mv_x0 ih (mv_sf g loc st h nc ns dv (mi mid).2.2.1 e.1 e.2.1 e.2.2.2.2.1 e.2.2.2.2.2 e.2.2.2.1) dep mid pc e t loc st h nc ns g K
        else mv_x9 bk mi xn ih dep mid pc e t loc st h nc ns g K) n
theorem mv_cpD {α : Type} {c0 c1 : List α} {n j : Nat} {d : α} (h0 : n ≤ c0.length) : (c0.take n ++ c1.drop n).getD j d = if j < n then c0.getD j d else c1.getD j d := by
  rw [List.getD_eq_getElem?_getD, List.getD_eq_getElem?_getD, List.getD_eq_getElem?_getD, List.getElem?_append, List.length_take]
  have e : min n c0.length = n := by omega
  rw [e]
  by_cases hj : j < n
  · rw [if_pos hj, if_pos hj, List.getElem?_take, if_pos hj]
  · rw [if_neg hj, if_neg hj, List.getElem?_drop]
    have e2 : n + (j - n) = j := by omega
    rw [e2]
section MVZ
variable {p : Program} {l : Launch} {e : Env} {R : Room} {s : State} {m : MethodId} {args : Array Value} {below : List Frame} {meth : Method} {c : Code} {Q : State → Prop}
variable {D : va_G} {cs : ClassId × ClassId × ClassId} {r : Nat → Int32} {ba : mv_A} {b nL : Nat} {g : mv_B} {loc : mv_L} {st : List mv_V} {h : List mv_C} {nc ns : Nat} {x : Option Nat × mv_L × List mv_V × List mv_C × Nat × Nat} {cc : ByteArray} {pc : Nat}
theorem mv_mn_cp (h1 : mv_cp g loc st h nc ns = some (.inr x)) : mv_mn h nc ns x := by
  unfold mv_cp at h1
  split at h1
  · obtain ⟨-, h1⟩ := mv_cndn h1
    split at h1
    · split at h1
      · split at h1
        · obtain ⟨-, h1⟩ := mv_cndn h1
          rw [mv_fl_eq, mv_ls_eq] at h1
          exact mv_mn_set h1
        · cases h1
      · cases h1
    · cases h1
    · cases h1
  · cases h1
theorem mv_cp_ok {own : String} {index : Nat} (hexec : p.tables.exec = Jvm.exec) (hb : c.code = cc) (hml : c.maxLocals = nL) (hg : mv_in g r) (hown : s.vm.findClass own = some m.cls) (hlink : (Cond.methodLink own index arraycopyName).before args s = true) (hnat : (Cond.native arraycopyName).before args s = true) (hstat : (Cond.static arraycopyName).before args s = true) (hini : (Cond.initialized "java/lang/System").before args s = true)
    (hK : va_K D vwCl (mv_tys cs) s) (hRf : 1 ≤ R.frames) (hRl : 100 ≤ R.locals) (hd : decode cc pc = .ok (.invokestatic index, 3)) (h1 : mv_cp g loc st h nc ns = some (.inr x))
    (kk : mv_Wx p l e R s m args below meth c Q D cs r ba b nL x (pc + 3)) : mv_W p l e R s m args below meth c Q D cs r ba b nL loc st h nc ns pc := by
  unfold mv_cp at h1
  split at h1
  · rename_i z y u w v s2
    obtain ⟨h0, h1⟩ := mv_cndn h1
    simp only [Bool.and_eq_true] at h0
    obtain ⟨⟨v1, u1⟩, ⟨w1, w2⟩, ⟨y1, y2⟩, hr⟩ := h0
    split at h1
    · rename_i n hn9
      split at h1
      · rename_i c0 hc0
        split at h1
        · rename_i c1 hc1
          obtain ⟨h2, h1⟩ := mv_cndn h1
          simp only [Bool.and_eq_true] at h2
          obtain ⟨⟨t0, t1⟩, n0, n1, n2⟩ := h2
          have n0 := mv_ble n0
          have n1 := mv_ble n1
          have n2 := mv_blt n2
          rw [mv_fl_eq, mv_ls_eq] at h1
          have k2 := mv_go_ok h1 kk
          rw [mv_gt_eq] at hc0 hc1
          obtain ⟨i1, i2⟩ := mv_cI_ok hg hn9
          intro H locs ls hH hS hl hn
          show W p l e R s m args below meth c H locs nc ns Q (F0 m pc ls (mv_val r ba b z :: mv_val r ba b y :: mv_val r ba b u :: mv_val r ba b w :: mv_val r ba b v :: s2.map (mv_val r ba b)))
          have ew : mv_val r ba b w = .int (nI 0) := by
            have e1 := mv_beq w1
            have e2 := mv_beq w2
            obtain ⟨w3, w4⟩ := w
            cases e1
            cases e2
            rfl
          have ey : mv_val r ba b y = .int (nI 0) := by
            have e1 := mv_beq y1
            have e2 := mv_beq y2
            obtain ⟨w3, w4⟩ := y
            cases e1
            cases e2
            rfl
          rw [mv_val_I i1, i2, mv_val_R u1, mv_val_R v1, ew, ey]
          obtain ⟨a0, l0⟩ := c0
          obtain ⟨a1, l1⟩ := c1
          cases mv_beq t0
          cases mv_beq t1
          have n0 : n ≤ l0.length := n0
          have n1 : n ≤ l1.length := n1
          have n2 : l1.length < 65536 := n2
          have q0 : H[mv_ad ba v.2]? = some (arrV cs.1 l0.length (fun j => .int (mv_ii r (l0.getD j (0, 0))))) := mv_look hH hc0
          have q1 : H[mv_ad ba u.2]? = some (arrV cs.1 l1.length (fun j => .int (mv_ii r (l1.getD j (0, 0))))) := mv_look hH hc1
          obtain ⟨-, k1, hk1, cm1, hkk1⟩ := (hK.2 0 _ (show (mv_tys cs)[0]? = some (cs.1, .int) from rfl)).1 l1.length (fun j => .int (mv_ii r (l1.getD j (0, 0))))
          obtain ⟨-, k0, hk0, cm0, hkk0⟩ := (hK.2 0 _ (show (mv_tys cs)[0]? = some (cs.1, .int) from rfl)).1 l0.length (fun j => .int (mv_ii r (l0.getD j (0, 0))))
          have e0 : (nI 0).toInt = 0 := rfl
          have en : (nI n).toInt = (n : Int) := nI_toInt (by omega)
          have ec : (nI n).toNatClampNeg = n := nI_clamp (by omega)
          have ez : (nI 0).toNatClampNeg = 0 := rfl
          intro T hT X
          obtain ⟨vm', X', step⟩ := X.arraycopy hexec hown hlink hnat hstat hini (src := mv_ad ba v.2) (dst := mv_ad ba u.2) (cs := arrV cs.1 l0.length (fun j => .int (mv_ii r (l0.getD j (0, 0))))) (cd := arrV cs.1 l1.length (fun j => .int (mv_ii r (l1.getD j (0, 0))))) (srcPos := nI 0) (destPos := nI 0) (n := nI n) (by rw [hT]; exact q0) (by rw [hT]; exact q1)
            (fun _ h => by cases h) (fun _ h => by cases h) (fun h => by cases h) (fun h => by cases h) hk0 hk1 hkk0 hkk1 (show ((refKind FieldType.int != refKind FieldType.int) || (!refKind FieldType.int && FieldType.int != FieldType.int)) = false by decide) (by decide) (by decide) (fun q => nI_in (Nat.lt_succ_self n) (by omega) (Or.inl q))
            (by rw [e0, en, arrV_size]; omega)
            (by rw [e0, en, arrV_size]; omega)
            (fun vm₁ _ i hi => by
              rw [ec] at hi
              have e : (arrV cs.1 l0.length (fun j => .int (mv_ii r (l0.getD j (0, 0))))).slots.getD ((nI 0).toNatClampNeg + i) .null = .int (mv_ii r (l0.getD i (0, 0))) := by
                rw [ez, Nat.zero_add, Array.getD_eq_getD_getElem?, arrV_read _ _ (by omega)]
                rfl
              rw [e]
              exact ⟨rfl, trivial⟩)
            (g := F0 m pc ls (.int (nI n) :: .int (nI 0) :: .ref (mv_ad ba u.2) :: .int (nI 0) :: .ref (mv_ad ba v.2) :: s2.map (mv_val r ba b))) rfl (by rw [hml]; exact hl.1) (rest := s2.map (mv_val r ba b)) rfl (by rw [hb]; exact hd) hRf (by
              have e9 : ((s2.map (mv_val r ba b)).map fun v => v.category).sum ≤ 8 := by
                rw [show ((s2.map (mv_val r ba b)).map fun v => v.category).sum = mv_cs s2 from mv_csum r ba b s2]
                exact mv_ble hr
              have e8 : nativeFrameWords "java/lang/System" "arraycopy" 5 = 7 := by decide
              rw [e8]
              show 2 * 0 + _ + _ ≤ _
              omega)
          have e1 : copied (arrV cs.1 l0.length (fun j => .int (mv_ii r (l0.getD j (0, 0))))) (arrV cs.1 l1.length (fun j => .int (mv_ii r (l1.getD j (0, 0))))) (nI 0) (nI 0) (nI n) = arrV cs.1 (l0.take n ++ l1.drop n).length (fun j => .int (mv_ii r ((l0.take n ++ l1.drop n).getD j (0, 0)))) := by
            have e2 : copied (arrV cs.1 l0.length (fun j => .int (mv_ii r (l0.getD j (0, 0))))) (arrV cs.1 l1.length (fun j => .int (mv_ii r (l1.getD j (0, 0))))) (nI 0) (nI 0) (nI n) = arrV cs.1 l1.length (fun j => .int (va_cpy (fun j => mv_ii r (l0.getD j (0, 0))) (fun j => mv_ii r (l1.getD j (0, 0))) (nI 0).toNatClampNeg (nI 0).toNatClampNeg (nI n).toNatClampNeg j)) := va_copied (fun z => .int z) cs.1 cs.1 _ _ (by rw [ec, ez]; omega)
            rw [e2, ec, ez, List.length_append, List.length_take, List.length_drop]
            have e3 : min n l0.length + (l1.length - n) = l1.length := by omega
            rw [e3]
            congr 1
            funext j
            rw [mv_cpD n0]
            unfold va_cpy
            by_cases hj : j < n
            · rw [if_pos ⟨by omega, by omega⟩, if_pos hj, Nat.sub_zero, Nat.zero_add]
            · rw [if_neg (by omega), if_neg hj]
          rw [e1] at X' step
          have hlt : mv_ad ba u.2 < H.size := (Array.getElem?_eq_some_iff.mp q1).1
          have hheap : ((T.setVm vm').setCell (mv_ad ba u.2) (arrV cs.1 (l0.take n ++ l1.drop n).length (fun j => .int (mv_ii r ((l0.take n ++ l1.drop n).getD j (0, 0)))))).heap = H.setIfInBounds (mv_ad ba u.2) (arrV cs.1 (l0.take n ++ l1.drop n).length (fun j => .int (mv_ii r ((l0.take n ++ l1.drop n).getD j (0, 0))))) := by rw [← hT]; rfl
          have oq : ∀ q : Nat, q ≠ mv_ad ba u.2 → (H.setIfInBounds (mv_ad ba u.2) (arrV cs.1 (l0.take n ++ l1.drop n).length (fun j => .int (mv_ii r ((l0.take n ++ l1.drop n).getD j (0, 0))))))[q]? = H[q]? := fun q hq => by simp [Array.getElem?_setIfInBounds, Ne.symm hq]
          have hz : (H.setIfInBounds (mv_ad ba u.2) (arrV cs.1 (l0.take n ++ l1.drop n).length (fun j => .int (mv_ii r ((l0.take n ++ l1.drop n).getD j (0, 0)))))).size = H.size := by simp
          have hm : (H.setIfInBounds (mv_ad ba u.2) (arrV cs.1 (l0.take n ++ l1.drop n).length (fun j => .int (mv_ii r ((l0.take n ++ l1.drop n).getD j (0, 0))))))[mv_ad ba u.2]? = some (arrV cs.1 (l0.take n ++ l1.drop n).length (fun j => .int (mv_ii r ((l0.take n ++ l1.drop n).getD j (0, 0))))) := by simp [Array.getElem?_setIfInBounds, hlt]
          obtain ⟨t, b1, b2⟩ := k2 _ _ ls (hH.set (c := (0, l0.take n ++ l1.drop n)) hz oq hm) (⟨by rw [hz]; exact hS.1, fun q g1 g2 => by
              rw [oq q (fun e => g2 (by rw [e]; exact mv_ad_le _ _))]
              exact hS.2.1 q g1 g2, fun q hq => by
              rcases List.mem_append.mp hq with h | h
              · exact hS.2.2 q h
              · obtain ⟨z, -, hz⟩ := List.mem_map.mp h
                rw [← hz]
                exact mv_ad_le _ _⟩) hl (by rw [hz]; exact hn) _ hheap X'
          exact ⟨t, step t b1, b2⟩
        · cases h1
      · cases h1
    · cases h1
    · cases h1
  · cases h1
theorem mv_mn_mx (h1 : mv_mx g loc st h nc ns = some (.inr x)) : mv_mn h nc ns x := by
  unfold mv_mx at h1
  split at h1
  · obtain ⟨-, h1⟩ := mv_cndn h1
    split at h1
    · exact mv_mn_eq h1
    · exact mv_mn_eq h1
    · cases h1
    · cases h1
  · cases h1
theorem mv_mx_ok {own : String} {index : Nat} (hexec : p.tables.exec = Jvm.exec) (hb : c.code = cc) (hml : c.maxLocals = nL) (hg : mv_in g r) (hown : s.vm.findClass own = some m.cls) (hlink : (Cond.methodLink own index Lib.Math.max.name).before args s = true) (hstat : (Cond.static Lib.Math.max.name).before args s = true) (hini : (Cond.initialized "java/lang/Math").before args s = true) (hcode : (Cond.code Lib.Math.max.name Lib.Math.max.code 2 (some .int)).before args s = true)
    (hRf : 1 ≤ R.frames) (hRl : 100 ≤ R.locals) (hc : x.2.2.2.2.1 ≤ R.cells) (hs : x.2.2.2.2.2 ≤ R.slots) (hd : decode cc pc = .ok (.invokestatic index, 3)) (h1 : mv_mx g loc st h nc ns = some (.inr x))
    (kk : mv_Wx p l e R s m args below meth c Q D cs r ba b nL x (pc + 3)) : mv_W p l e R s m args below meth c Q D cs r ba b nL loc st h nc ns pc := by
  unfold mv_mx at h1
  split at h1
  · rename_i y z s2
    obtain ⟨h0, h1⟩ := mv_cndn h1
    have h0 := mv_ble h0
    have e9 : ((s2.map (mv_val r ba b)).map fun v => v.category).sum ≤ 8 := by
      rw [show ((s2.map (mv_val r ba b)).map fun v => v.category).sum = mv_cs s2 from mv_csum r ba b s2]
      exact h0
    split at h1
    · rename_i hq
      obtain ⟨i1, i2, i3⟩ := mv_lt_ok hg hq
      have e1 := mv_inr h1
      rw [← e1] at hc hs
      have k2 := mv_go_ok h1 kk
      intro H locs ls hH hS hl hn
      show W p l e R s m args below meth c H locs nc ns Q (F0 m pc ls (mv_val r ba b y :: mv_val r ba b z :: s2.map (mv_val r ba b)))
      have k3 : W p l e R s m args below meth c H locs nc ns Q (F0 m (pc + 3) ls (mv_val r ba b y :: s2.map (mv_val r ba b))) := k2 H locs ls hH hS hl hn
      rw [mv_val_I i2] at k3
      rw [mv_val_I i1, mv_val_I i2]
      refine va_mmax hexec hb (hml.trans hl.1.symm) hown hlink hstat hini hcode hRf (by omega) hc hs hd ?_
      rw [if_pos (i3.mp rfl)]
      exact k3
    · rename_i hq
      obtain ⟨i1, i2, i3⟩ := mv_lt_ok hg hq
      have e1 := mv_inr h1
      rw [← e1] at hc hs
      have k2 := mv_go_ok h1 kk
      intro H locs ls hH hS hl hn
      show W p l e R s m args below meth c H locs nc ns Q (F0 m pc ls (mv_val r ba b y :: mv_val r ba b z :: s2.map (mv_val r ba b)))
      have k3 : W p l e R s m args below meth c H locs nc ns Q (F0 m (pc + 3) ls (mv_val r ba b z :: s2.map (mv_val r ba b))) := k2 H locs ls hH hS hl hn
      rw [mv_val_I i1] at k3
      rw [mv_val_I i1, mv_val_I i2]
      refine va_mmax hexec hb (hml.trans hl.1.symm) hown hlink hstat hini hcode hRf (by omega) hc hs hd ?_
      rw [if_neg (fun q => by cases i3.mpr q)]
      exact k3
    · cases h1
    · cases h1
  · cases h1
end MVZ
