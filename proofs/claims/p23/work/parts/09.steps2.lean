/-! ===== fields, arrays made, objects made, and what is left of the steps ===== -/
section MVU
variable {p : Program} {l : Launch} {e : Env} {R : Room} {s : State} {m : MethodId} {args : Array Value} {below : List Frame} {meth : Method} {c : Code} {Q : State → Prop}
variable {D : va_G} {cs : ClassId × ClassId × ClassId} {r : Nat → Int32} {ba : mv_A} {b nL : Nat} {g : mv_B} {loc : mv_L} {st : List mv_V} {h : List mv_C} {nc ns : Nat} {x : Option Nat × mv_L × List mv_V × List mv_C × Nat × Nat} {cc : ByteArray} {pc pc2 : Nat}
theorem mv_len_ok (hexec : p.tables.exec = Jvm.exec) (hb : c.code = cc) (hK : va_K D vwCl (mv_tys cs) s) (hd : decode cc pc = .ok (.arraylength, 1)) (h1 : mv_len loc st h nc ns = some (.inr x))
    (kk : mv_Wx p l e R s m args below meth c Q D cs r ba b nL x (pc + 1)) : mv_W p l e R s m args below meth c Q D cs r ba b nL loc st h nc ns pc := by
  unfold mv_len at h1
  split at h1
  · rename_i z s2
    obtain ⟨z1, z2⟩ := z
    obtain ⟨h2, h1⟩ := mv_cndn h1
    cases mv_beq h2
    split at h1
    · rename_i d hd2
      obtain ⟨h3, h4⟩ := mv_cndn h1
      rw [mv_fo_eq] at h4
      have k2 := mv_go_ok h4 kk
      rw [mv_gt_eq] at hd2
      have h3 := mv_blt h3
      intro H locs ls hH hS hl hn
      have hc := hH.2 _ _ hd2
      obtain ⟨d1, d2⟩ := d
      show W p l e R s m args below meth c H locs nc ns Q (F0 m pc ls (.ref (mv_ad ba z2) :: s2.map (mv_val r ba b)))
      match d1, h3, hc with
      | 0, _, hc =>
        exact W.alen (n := nI d2.length) hexec hb (show H[mv_ad ba z2]? = some (arrV cs.1 d2.length (fun j => .int (mv_ii r (d2.getD j (0, 0))))) from hc) ((hK.2 0 _ (show (mv_tys cs)[0]? = some (cs.1, .int) from rfl)).1 _ _) (by rw [arrV_size]; rfl) rfl rfl hd (k2 H locs ls hH hS hl hn)
      | 1, _, hc =>
        exact W.alen (n := nI d2.length) hexec hb (show H[mv_ad ba z2]? = some (arrV cs.2.1 d2.length (fun j => .long (lN (d2.getD j (3, 0)).2))) from hc) ((hK.2 1 _ (show (mv_tys cs)[1]? = some (cs.2.1, .long) from rfl)).1 _ _) (by rw [arrV_size]; rfl) rfl rfl hd (k2 H locs ls hH hS hl hn)
      | 2, _, hc =>
        exact W.alen (n := nI d2.length) hexec hb (show H[mv_ad ba z2]? = some (arrV cs.2.2 d2.length (fun j => .int (mv_ii r (d2.getD j (0, 0))))) from hc) ((hK.2 2 _ (show (mv_tys cs)[2]? = some (cs.2.2, .boolean) from rfl)).1 _ _) (by rw [arrV_size]; rfl) rfl rfl hd (k2 H locs ls hH hS hl hn)
      | n + 3, h3, _ => omega
    · cases h1
  · cases h1
theorem mv_gf_ok (hexec : p.tables.exec = Jvm.exec) (hb : c.code = cc) (hts : ∀ w ∈ mv_big, w.before args s = true) {own C : String} {T : u_T} {N ci k index : Nat} (hown : s.vm.findClass own = some m.cls) (hK : va_K D vwCl (mv_tys cs) s) (hc : vwCl[ci]? = some (C, T, N)) (hk : k < N) (hw : Cond.fieldLink own index (T k).1 (T k).2.1 (T k).2.2.1 ∈ mv_big) (hd : decode cc pc = .ok (.getfield index, 3)) (h1 : mv_gf loc st h nc ns ci k = some (.inr x))
    (kk : mv_Wx p l e R s m args below meth c Q D cs r ba b nL x (pc + 3)) : mv_W p l e R s m args below meth c Q D cs r ba b nL loc st h nc ns pc := by
  unfold mv_gf at h1
  split at h1
  · rename_i z s2
    obtain ⟨z1, z2⟩ := z
    obtain ⟨h2, h1⟩ := mv_cndn h1
    cases mv_beq h2
    split at h1
    · rename_i d hd2
      obtain ⟨h3, h4⟩ := mv_cndn h1
      rw [mv_gt_eq] at hd2
      split at h4
      · rename_i v hv
        have k2 := mv_go_ok h4 kk
        rw [mv_gt_eq] at hv
        intro H locs ls hH hS hl hn
        have hcc := hH.2 _ _ hd2
        obtain ⟨d1, d2⟩ := d
        have e3 : d1 = ci + 4 := mv_beq h3
        subst e3
        obtain ⟨q, q1, q2⟩ : ∃ q : vw_C, vwCl[ci]? = some q ∧ t_OB (mv_ad ba z2) (D.1 ci) q.2.2 (D.2 ci) H (vp_V (d2.map (mv_val r ba b))) := hcc
        show W p l e R s m args below meth c H locs nc ns Q (F0 m pc ls (.ref (mv_ad ba z2) :: s2.map (mv_val r ba b)))
        refine va_get (ws := [(mv_ad ba z2, .inr (ci, d2.map (mv_val r ba b)))]) hexec hb hts (mv_cls r ba b ci _ hc).1 hown hK (fun j y hy => ?_) 0 rfl hc k hk (hts _ hw) (fun _ z => z) (v := mv_val r ba b v) (by rw [List.getElem?_map, hv]; rfl) hd (k2 H locs ls hH hS hl hn)
        have hz : j < 1 := (List.getElem?_eq_some_iff.mp hy).1
        rw [show j = 0 by omega] at hy
        cases hy
        exact ⟨q, q1, q2⟩
      · cases h4
    · cases h1
  · cases h1
/-- a field written: what it holds then, all else as it was -/
theorem mv_put0 (hexec : p.tables.exec = Jvm.exec) (hb : c.code = cc) (hts : ∀ w ∈ mv_big, w.before args s = true) {own C : String} {T : u_T} {N ci k index a : Nat} {fs : List Value} {v : Value} {ty : FieldType} {H : Heap} {locs : List Loc} {ls : Array Slot} {rest : List Value} (hown : s.vm.findClass own = some m.cls) (hK : va_K D vwCl (mv_tys cs) s) (hc : vwCl[ci]? = some (C, T, N)) (hk : k < N)
    (hw : Cond.fieldLink own index (T k).1 (T k).2.1 (T k).2.2.1 ∈ mv_big) (hd : decode cc pc = .ok (.putfield index, 3)) (hfin : (T k).2.2.2 = false ∨ ((T k).2.2.2 = true ∧ meth.name = "<init>" ∧ (T k).1 = own)) (hty : parseFieldDescriptor (T k).2.2.1 = some ty) (hn : narrow ty v = v) (hfit : fits ty v = true) (hl : k < fs.length) (hob : t_OB a (D.1 ci) N (D.2 ci) H (vp_V fs))
    (kk : ∀ (H1 : Heap) (locs1 : List Loc), t_OB a (D.1 ci) N (D.2 ci) H1 (vp_V (fs.set k v)) → H1.size = H.size → (∀ q : Nat, q ≠ a → H1[q]? = H[q]?) → (∀ z ∈ locs1, z ∈ locs ∨ z.base = a) → W p l e R s m args below meth c H1 locs1 nc ns Q (F0 m (pc + 3) ls rest)) : W p l e R s m args below meth c H locs nc ns Q (F0 m pc ls (v :: .ref a :: rest)) := by
  obtain ⟨hin, hnm, ty0, hty0, -, -⟩ := mv_cls (fun _ => 0) (0, 0, 0) 0 ci _ hc
  have hap := va_apart (own := own) hts hin ty0 hty0 hnm hK hc
  obtain ⟨cell, q1, q2, q3, q4⟩ := hob
  obtain ⟨hS, hfc, kC, hkC, hkind⟩ := hK.1 ci _ hc
  obtain ⟨cf, kf, fi, f, hi, hsl⟩ := hS k hk
  have hlay := hts _ (hin _ (u_in_lay hk))
  have hst := (u_facts hfc hkC (u_lays hts hin hk) hi).1
  have hend : ∀ (H1 : Heap), H1[a]? = some (cell.setSlot ((D.2 ci) k) v) → t_OB a (D.1 ci) N (D.2 ci) H1 (vp_V (fs.set k v)) := fun H1 e1 =>
    t_OB.to (V := updV (vp_V fs) k v) ⟨_, e1, q2, q3, t_set q4 hap hk v⟩ (fun j _ => vp_updV_set hl v j)
  have hlo : ∀ z ∈ locs ++ [(⟨a, (D.2 ci) k⟩ : Loc)], z ∈ locs ∨ z.base = a := fun z hz => by
    rcases List.mem_append.mp hz with h1 | h1
    · exact Or.inl h1
    · rw [List.mem_singleton.mp h1]; exact Or.inr rfl
  rcases hfin with hfin | ⟨hfin, hname, hdecl⟩
  · unfold u_lay at hlay
    rw [if_neg (by show ¬ (T k).2.2.2 = true; rw [hfin]; decide)] at hlay
    have h6 := u_store hfc hkC hkind hlay hi hty hn hfit
    refine W.putK hexec hb (f := f) ⟨hown, hts _ hw, ⟨_, _, _, hi⟩, hst⟩ (by rw [q2]; exact h6) q1 q3 (by rw [hsl]; exact k2_hasslot (q4 k hk)) rfl rfl hd fun H' e1 e2 e3 => ?_
    rw [hsl] at e1 ⊢
    exact kk H' _ (hend H' e1) e2 e3 hlo
  · unfold u_lay at hlay
    rw [if_pos hfin] at hlay
    have hcf : m.cls = cf := by
      obtain ⟨_, _, c', _, _, _, -, -, hf', -, -, -, hown2, -⟩ := Cond.laysFinal_spec hlay
      have e1 : c' = cf := by have := hi.symm.trans hf'; simp at this; exact this.1.symm
      rw [hdecl] at hown2
      rw [← e1]; exact Option.some.inj (hown.symm.trans hown2)
    have h6 := u_fits hfc hkC hkind (Or.inr hlay) hi hty hn hfit
    refine W.putFinK hexec hb hown (hts _ hw) hi hst hcf hname (by rw [q2]; exact h6) q1 q3 (by rw [hsl]; exact k2_hasslot (q4 k hk)) rfl rfl hd fun H' e1 e2 e3 => ?_
    rw [hsl] at e1 ⊢
    exact kk H' _ (hend H' e1) e2 e3 hlo
/-- which kind of field a descriptor tells -/
def mv_ft (t : Nat) (ty : FieldType) : Bool := match ty with
  | .int => Nat.beq t 0
  | .boolean => Nat.beq t 1
  | .object _ => Nat.beq t 2
  | .array _ => Nat.beq t 2
  | _ => false
theorem mv_fits_ok {t : Nat} {ty : FieldType} {v : mv_V} (h1 : mv_ft t ty = true) (h2 : mv_fits t v = true) : narrow ty (mv_val r ba b v) = mv_val r ba b v ∧ fits ty (mv_val r ba b v) = true := by
  have ref : mv_fits 2 v = true → ∀ ty2 : FieldType, (∃ n, ty2 = .object n) ∨ (∃ q, ty2 = .array q) → narrow ty2 (mv_val r ba b v) = mv_val r ba b v ∧ fits ty2 (mv_val r ba b v) = true := by
    intro h2 ty2 hty2
    obtain ⟨v1, v2⟩ := v
    have h2 : (bif Nat.beq v1 1 then true else Nat.beq v1 2) = true := h2
    rcases mv_cnd h2 with ⟨h3, -⟩ | ⟨-, h3⟩
    · cases mv_beq h3
      rcases hty2 with ⟨n, rfl⟩ | ⟨q, rfl⟩ <;> exact ⟨rfl, rfl⟩
    · cases mv_beq h3
      rcases hty2 with ⟨n, rfl⟩ | ⟨q, rfl⟩ <;> exact ⟨rfl, rfl⟩
  cases ty with
  | int =>
    have e : t = 0 := mv_beq h1
    subst e
    have h2 : mv_isI v = true := h2
    rw [mv_val_I h2]
    exact ⟨rfl, rfl⟩
  | boolean =>
    have e : t = 1 := mv_beq h1
    subst e
    obtain ⟨v1, v2⟩ := v
    have h2 : (Nat.beq v1 0 && Nat.blt v2 2) = true := h2
    simp only [Bool.and_eq_true] at h2
    cases mv_beq h2.1
    have h3 := mv_blt h2.2
    show narrow .boolean (.int (nI v2)) = .int (nI v2) ∧ fits .boolean (.int (nI v2)) = true
    rcases (show v2 = 0 ∨ v2 = 1 by omega) with rfl | rfl <;> decide +kernel
  | object n =>
    have e : t = 2 := mv_beq h1
    subst e
    exact ref h2 _ (Or.inl ⟨_, rfl⟩)
  | array q =>
    have e : t = 2 := mv_beq h1
    subst e
    exact ref h2 _ (Or.inr ⟨_, rfl⟩)
  | _ => cases h1
theorem mv_pf_ok (hexec : p.tables.exec = Jvm.exec) (hb : c.code = cc) (hts : ∀ w ∈ mv_big, w.before args s = true) {own C : String} {T : u_T} {N ci k t index : Nat} {ty : FieldType} (hown : s.vm.findClass own = some m.cls) (hK : va_K D vwCl (mv_tys cs) s) (hc : vwCl[ci]? = some (C, T, N)) (hk : k < N) (hw : Cond.fieldLink own index (T k).1 (T k).2.1 (T k).2.2.1 ∈ mv_big) (hd : decode cc pc = .ok (.putfield index, 3))
    (hfin : (T k).2.2.2 = false ∨ ((T k).2.2.2 = true ∧ meth.name = "<init>" ∧ (T k).1 = own)) (hty : parseFieldDescriptor (T k).2.2.1 = some ty) (hft : mv_ft t ty = true) (h1 : mv_pf loc st h nc ns ci k t = some (.inr x))
    (kk : mv_Wx p l e R s m args below meth c Q D cs r ba b nL x (pc + 3)) : mv_W p l e R s m args below meth c Q D cs r ba b nL loc st h nc ns pc := by
  unfold mv_pf at h1
  split at h1
  · rename_i v z s2
    obtain ⟨z1, z2⟩ := z
    obtain ⟨h2, h1⟩ := mv_cndn h1
    simp only [Bool.and_eq_true] at h2
    cases mv_beq h2.1
    split at h1
    · rename_i d hd2
      obtain ⟨h3, h4⟩ := mv_cndn h1
      simp only [Bool.and_eq_true] at h3
      rw [mv_gt_eq] at hd2
      rw [mv_ls_eq, mv_ls_eq] at h4
      have k2 := mv_go_ok h4 kk
      obtain ⟨f1, f2⟩ := mv_fits_ok (r := r) (ba := ba) (b := b) hft h2.2
      intro H locs ls hH hS hl hn
      have hcc := hH.2 _ _ hd2
      obtain ⟨d1, d2⟩ := d
      have e3 : d1 = ci + 4 := mv_beq h3.1
      have h5 : k < d2.length := mv_blt h3.2
      subst e3
      obtain ⟨q, q1, q2⟩ : ∃ q : vw_C, vwCl[ci]? = some q ∧ t_OB (mv_ad ba z2) (D.1 ci) q.2.2 (D.2 ci) H (vp_V (d2.map (mv_val r ba b))) := hcc
      have eq : q = (C, T, N) := Option.some.inj (q1.symm.trans hc)
      subst eq
      show W p l e R s m args below meth c H locs nc ns Q (F0 m pc ls (mv_val r ba b v :: .ref (mv_ad ba z2) :: s2.map (mv_val r ba b)))
      refine mv_put0 hexec hb hts hown hK hc hk hw hd hfin hty f1 f2 (by rw [List.length_map]; exact h5) q2 (fun H1 locs1 e1 e2 e4 e5 => ?_)
      refine k2 H1 locs1 ls (hH.set e2 e4 ⟨_, hc, by rw [List.map_set]; exact e1⟩) ⟨by rw [e2]; exact hS.1, fun q hq hA => ?_, fun z hz => ?_⟩ hl (by rw [e2]; exact hn)
      · rw [e4 q (by rintro rfl; exact hA (mv_ad_le _ _))]
        exact hS.2.1 q hq hA
      · rcases e5 z hz with h6 | h6
        · exact hS.2.2 z h6
        · rw [h6]; exact mv_ad_le _ _
    · cases h1
  · cases h1
theorem mv_nw_ok (hexec : p.tables.exec = Jvm.exec) (hb : c.code = cc) (hts : ∀ w ∈ mv_big, w.before args s = true) {own C : String} {T : u_T} {N ci index : Nat} (hown : s.vm.findClass own = some m.cls) (hK : va_K D vwCl (mv_tys cs) s) (hc : vwCl[ci]? = some (C, T, N)) (hw1 : Cond.classLink own index C ∈ mv_big) (hw2 : Cond.instantiable C N ∈ mv_big) (hw3 : Cond.initialized C ∈ mv_big) (hd : decode cc pc = .ok (.new index, 3)) (h1 : mv_nw loc st h nc ns ci (mv_dv ci) = some (.inr x)) (hR1 : x.2.2.2.2.1 ≤ R.cells) (hR2 : x.2.2.2.2.2 ≤ R.slots)
    (kk : mv_Wx p l e R s m args below meth c Q D cs r ba b nL x (pc + 3)) : mv_W p l e R s m args below meth c Q D cs r ba b nL loc st h nc ns pc := by
  unfold mv_nw at h1
  rw [mv_fo_eq, mv_sn_eq] at h1
  have e1 := mv_inr h1
  obtain ⟨hin, hnm, ty, hty, hdf, hln⟩ := mv_cls r ba b ci _ hc
  rw [← e1] at kk hR1 hR2
  have hln : (mv_dv ci).length = N := hln
  simp only [hln] at hR1 hR2 kk
  intro H locs ls hH hS hl hn
  have hKn := hK.1 ci _ hc
  refine W.newcK hexec hb hown (hts _ hw1) (hts _ hw2) (hts _ hw3) rfl hd hR1 hR2 hKn.2.1 rfl fun H1 kC hkC e1 z1 o1 => ?_
  have k3 := kk H1 locs ls (hH.push z1 o1 ⟨_, hc, ?_⟩) ⟨Nat.le_trans hS.1 (by omega), fun q hq hA => (o1 q (Nat.lt_of_lt_of_le hq hS.1)).trans (hS.2.1 q hq hA), hS.2.2⟩ hl (show s.heap.size + (nc + 1) = H1.size by omega)
  · rw [hH.1.1]
    exact k3
  · rw [← hH.1.1]
    exact (u_born ty hts hin hKn hkC e1 hty).to hdf
theorem mv_cAe {ty : FieldType} {cA cB : ClassId} (h1 : s.vm.findClass ("[" ++ ty.toString) = some cA) (h2 : va_RA s cB ty) (h3 : ∀ C, ty ≠ .object C) : cA = cB := by
  have h4 : s.vm.findClass ("[" ++ ty.toString) = some cB := by
    cases ty with
    | object C => exact absurd rfl (h3 C)
    | _ => exact h2
  exact Option.some.inj (h1.symm.trans h4)
theorem mv_rep {α : Type} {n j : Nat} {v : α} : (List.replicate n v).getD j v = v := by
  rw [List.getD_eq_getElem?_getD, List.getElem?_replicate]
  split <;> rfl
theorem mv_na_ok (hexec : p.tables.exec = Jvm.exec) (hb : c.code = cc) (hg : mv_in g r) (hts : ∀ w ∈ mv_big, w.before args s = true) {t : Nat} {at0 : ArrayType} (hK : va_K D vwCl (mv_tys cs) s) (hw : Cond.arrayClass (newarray.typeOf at0) ∈ mv_big) (ht : (at0 = .int ∧ t = 0) ∨ (at0 = .long ∧ t = 1) ∨ (at0 = .boolean ∧ t = 2)) (hd : decode cc pc = .ok (.newarray at0, 2)) (h1 : mv_na g loc st h nc ns t = some (.inr x)) (hR1 : x.2.2.2.2.1 ≤ R.cells) (hR2 : x.2.2.2.2.2 ≤ R.slots)
    (kk : mv_Wx p l e R s m args below meth c Q D cs r ba b nL x (pc + 2)) : mv_W p l e R s m args below meth c Q D cs r ba b nL loc st h nc ns pc := by
  unfold mv_na at h1
  split at h1
  · rename_i y s2
    split at h1
    · rename_i n hn0
      obtain ⟨hn1, h1⟩ := mv_cndn h1
      have hn1 := mv_blt hn1
      rw [mv_fo_eq, mv_sn_eq] at h1
      rw [← mv_inr h1] at kk hR1 hR2
      obtain ⟨i1, i2⟩ := mv_cI_ok hg hn0
      intro H locs ls hH hS hl hn
      show W p l e R s m args below meth c H locs nc ns Q (F0 m pc ls (mv_val r ba b y :: s2.map (mv_val r ba b)))
      rw [mv_val_I i1, i2]
      have hcb : n * componentBytes (newarray.typeOf at0) ≤ 536870912 := by
        have : componentBytes (newarray.typeOf at0) ≤ 8 := by rcases ht with ⟨rfl, -⟩ | ⟨rfl, -⟩ | ⟨rfl, -⟩ <;> decide
        calc n * componentBytes (newarray.typeOf at0) ≤ 65536 * 8 := Nat.mul_le_mul (by omega) this
          _ ≤ 536870912 := by decide
      refine va_newaK (N := n) hexec hb (hts _ hw) rfl hd rfl (nI_pos (by omega)) (nI_clamp (by omega)) hcb hR1 hR2 rfl (fun H1 cA e1 z1 o1 hAr hNm => ?_)
      have k3 := kk H1 locs ls (hH.push z1 o1 ?_) ⟨Nat.le_trans hS.1 (by omega), fun q hq hA => (o1 q (Nat.lt_of_lt_of_le hq hS.1)).trans (hS.2.1 q hq hA), hS.2.2⟩ hl (show s.heap.size + (nc + 1) = H1.size by omega)
      · rw [hH.1.1]
        exact k3
      · rw [← hH.1.1]
        rcases ht with ⟨rfl, rfl⟩ | ⟨rfl, rfl⟩ | ⟨rfl, rfl⟩
        · have e2 : cA = cs.1 := mv_cAe hNm (hK.2 0 _ (show (mv_tys cs)[0]? = some (cs.1, .int) from rfl)).2 (fun C z => by cases z)
          subst e2
          show H1[H.size]? = some (arrV cs.1 (List.replicate n ((0, 0) : mv_V)).length (fun j => .int (mv_ii r ((List.replicate n ((0, 0) : mv_V)).getD j (0, 0)))))
          rw [e1, List.length_replicate]
          congr 2
          funext j
          rw [mv_rep]
          rfl
        · have e2 : cA = cs.2.1 := mv_cAe hNm (hK.2 1 _ (show (mv_tys cs)[1]? = some (cs.2.1, .long) from rfl)).2 (fun C z => by cases z)
          subst e2
          show H1[H.size]? = some (arrV cs.2.1 (List.replicate n ((3, 0) : mv_V)).length (fun j => .long (lN ((List.replicate n ((3, 0) : mv_V)).getD j (3, 0)).2)))
          rw [e1, List.length_replicate]
          congr 2
          funext j
          rw [mv_rep]
          rfl
        · have e2 : cA = cs.2.2 := mv_cAe hNm (hK.2 2 _ (show (mv_tys cs)[2]? = some (cs.2.2, .boolean) from rfl)).2 (fun C z => by cases z)
          subst e2
          show H1[H.size]? = some (arrV cs.2.2 (List.replicate n ((0, 0) : mv_V)).length (fun j => .int (mv_ii r ((List.replicate n ((0, 0) : mv_V)).getD j (0, 0)))))
          rw [e1, List.length_replicate]
          congr 2
          funext j
          rw [mv_rep]
          rfl
    · cases h1
    · cases h1
  · cases h1
end MVU
