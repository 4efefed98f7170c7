/-! ===== a step of the interpreter is a step of the machine: one lemma a handler ===== -/
section MVT
variable {p : Program} {l : Launch} {e : Env} {R : Room} {s : State} {m : MethodId} {args : Array Value} {below : List Frame} {meth : Method} {c : Code} {Q : State → Prop}
variable {D : va_G} {cs : ClassId × ClassId × ClassId} {r : Nat → Int32} {ba : mv_A} {b nL : Nat} {g : mv_B} {loc : mv_L} {st : List mv_V} {h : List mv_C} {nc ns : Nat} {x : Option Nat × mv_L × List mv_V × List mv_C × Nat × Nat} {cc : ByteArray} {pc pc2 : Nat}
theorem mv_bi_nt {f : Nat → Nat → Option Nat} (h1 : mv_bi g loc st h nc ns f = some (.inr x)) : x.1 = none := by
  unfold mv_bi at h1
  split at h1
  · split at h1
    · split at h1
      · split at h1
        · rw [mv_fo_eq] at h1
          rw [← mv_inr h1]
        · cases h1
      · cases h1
      · cases h1
    · cases h1
    · cases h1
  · cases h1
theorem mv_ld_ok {f : mv_V → Bool} {i : Nat} (h1 : mv_ld loc st h nc ns f i = some (.inr x))
    (row : ∀ (v : mv_V) (H : Heap) (locs : List Loc) (ls : Array Slot), f v = true → ls[i]? = some (.val (mv_val r ba b v)) → W p l e R s m args below meth c H locs nc ns Q (F0 m pc2 ls (mv_val r ba b v :: st.map (mv_val r ba b))) → W p l e R s m args below meth c H locs nc ns Q (F0 m pc ls (st.map (mv_val r ba b))))
    (kk : mv_Wx p l e R s m args below meth c Q D cs r ba b nL x pc2) : mv_W p l e R s m args below meth c Q D cs r ba b nL loc st h nc ns pc := by
  unfold mv_ld at h1
  split at h1
  · rename_i v hv
    obtain ⟨h2, h1⟩ := mv_cndn h1
    have k2 := mv_go_ok h1 kk
    intro H locs ls hH hS hl hn
    obtain ⟨k, hk⟩ := mv_lk_at (r := r) (ba := ba) (b := b) hv hl
    exact row v H locs ls h2 (lv_at hl k hk) (k2 H locs ls hH hS hl hn)
  · cases h1
theorem mv_sto_ok {f : mv_V → Bool} {i : Nat} (h1 : mv_sto loc st h nc ns f nL i = some (.inr x))
    (row : ∀ (v : mv_V) (s2 : List mv_V) (H : Heap) (locs : List Loc) (ls : Array Slot), f v = true → i < nL → lv_has ls nL (loc.map (mv_lv r ba b)) → (∀ ls2 : Array Slot, lv_has ls2 nL (((i, v) :: loc.filter (mv_d1 i)).map (mv_lv r ba b)) → W p l e R s m args below meth c H locs nc ns Q (F0 m pc2 ls2 (s2.map (mv_val r ba b)))) → W p l e R s m args below meth c H locs nc ns Q (F0 m pc ls (mv_val r ba b v :: s2.map (mv_val r ba b))))
    (kk : mv_Wx p l e R s m args below meth c Q D cs r ba b nL x pc2) : mv_W p l e R s m args below meth c Q D cs r ba b nL loc st h nc ns pc := by
  unfold mv_sto at h1
  split at h1
  · rename_i v s2
    obtain ⟨h2, h1⟩ := mv_cndn h1
    simp only [Bool.and_eq_true] at h2
    rw [mv_fi_eq] at h1
    rw [← mv_inr h1] at kk
    intro H locs ls hH hS hl hn
    exact row v s2 H locs ls h2.1 (mv_blt h2.2) hl (fun ls2 hl2 => kk H locs ls2 hH hS hl2 hn)
  · cases h1
theorem mv_sto2_ok {f : mv_V → Bool} {i : Nat} (h1 : mv_sto2 loc st h nc ns f nL i = some (.inr x))
    (row : ∀ (v : mv_V) (s2 : List mv_V) (H : Heap) (locs : List Loc) (ls : Array Slot), f v = true → i + 1 < nL → lv_has ls nL (loc.map (mv_lv r ba b)) → (∀ ls2 : Array Slot, lv_has ls2 nL (((i, v) :: loc.filter (mv_d2 i)).map (mv_lv r ba b)) → W p l e R s m args below meth c H locs nc ns Q (F0 m pc2 ls2 (s2.map (mv_val r ba b)))) → W p l e R s m args below meth c H locs nc ns Q (F0 m pc ls (mv_val r ba b v :: s2.map (mv_val r ba b))))
    (kk : mv_Wx p l e R s m args below meth c Q D cs r ba b nL x pc2) : mv_W p l e R s m args below meth c Q D cs r ba b nL loc st h nc ns pc := by
  unfold mv_sto2 at h1
  split at h1
  · rename_i v s2
    obtain ⟨h2, h1⟩ := mv_cndn h1
    simp only [Bool.and_eq_true] at h2
    rw [mv_fi_eq] at h1
    rw [← mv_inr h1] at kk
    intro H locs ls hH hS hl hn
    exact row v s2 H locs ls h2.1 (mv_blt h2.2) hl (fun ls2 hl2 => kk H locs ls2 hH hS hl2 hn)
  · cases h1
theorem mv_un_ok {f : Nat → mv_V} (hg : mv_in g r) (h1 : mv_un g loc st h nc ns f = some (.inr x))
    (row : ∀ (a : Nat) (s2 : List mv_V) (H : Heap) (locs : List Loc) (ls : Array Slot), W p l e R s m args below meth c H locs nc ns Q (F0 m pc2 ls (mv_val r ba b (f a) :: s2.map (mv_val r ba b))) → W p l e R s m args below meth c H locs nc ns Q (F0 m pc ls (.int (nI a) :: s2.map (mv_val r ba b))))
    (kk : mv_Wx p l e R s m args below meth c Q D cs r ba b nL x pc2) : mv_W p l e R s m args below meth c Q D cs r ba b nL loc st h nc ns pc := by
  unfold mv_un at h1
  split at h1
  · rename_i y s2
    split at h1
    · rename_i a ha
      rw [mv_fo_eq] at h1
      have k2 := mv_go_ok h1 kk
      obtain ⟨i1, i2⟩ := mv_cI_ok hg ha
      intro H locs ls hH hS hl hn
      show W p l e R s m args below meth c H locs nc ns Q (F0 m pc ls (mv_val r ba b y :: s2.map (mv_val r ba b)))
      rw [mv_val_I i1, i2]
      exact row a s2 H locs ls (k2 H locs ls hH hS hl hn)
    · cases h1
    · cases h1
  · cases h1
theorem mv_bl_ok {f : Nat → Nat → mv_V} (h1 : mv_bl loc st h nc ns f = some (.inr x))
    (row : ∀ (a d : Nat) (s2 : List mv_V) (H : Heap) (locs : List Loc) (ls : Array Slot), W p l e R s m args below meth c H locs nc ns Q (F0 m pc2 ls (mv_val r ba b (f a d) :: s2.map (mv_val r ba b))) → W p l e R s m args below meth c H locs nc ns Q (F0 m pc ls (.long (lN d) :: .long (lN a) :: s2.map (mv_val r ba b))))
    (kk : mv_Wx p l e R s m args below meth c Q D cs r ba b nL x pc2) : mv_W p l e R s m args below meth c Q D cs r ba b nL loc st h nc ns pc := by
  unfold mv_bl at h1
  split at h1
  · rename_i y z s2
    obtain ⟨h2, h1⟩ := mv_cndn h1
    simp only [Bool.and_eq_true] at h2
    rw [mv_fo_eq] at h1
    have k2 := mv_go_ok h1 kk
    intro H locs ls hH hS hl hn
    show W p l e R s m args below meth c H locs nc ns Q (F0 m pc ls (mv_val r ba b y :: mv_val r ba b z :: s2.map (mv_val r ba b)))
    rw [mv_val_J h2.1, mv_val_J h2.2]
    exact row z.2 y.2 s2 H locs ls (k2 H locs ls hH hS hl hn)
  · cases h1
theorem mv_b4_ok {f : Nat → Nat → mv_V} (h1 : mv_b4 loc st h nc ns f = some (.inr x))
    (row : ∀ (a d : Nat) (s2 : List mv_V) (H : Heap) (locs : List Loc) (ls : Array Slot), W p l e R s m args below meth c H locs nc ns Q (F0 m pc2 ls (mv_val r ba b (f a d) :: s2.map (mv_val r ba b))) → W p l e R s m args below meth c H locs nc ns Q (F0 m pc ls (.double (UInt64.ofNat d) :: .double (UInt64.ofNat a) :: s2.map (mv_val r ba b))))
    (kk : mv_Wx p l e R s m args below meth c Q D cs r ba b nL x pc2) : mv_W p l e R s m args below meth c Q D cs r ba b nL loc st h nc ns pc := by
  unfold mv_b4 at h1
  split at h1
  · rename_i y z s2
    obtain ⟨h2, h1⟩ := mv_cndn h1
    simp only [Bool.and_eq_true] at h2
    rw [mv_fo_eq] at h1
    have k2 := mv_go_ok h1 kk
    intro H locs ls hH hS hl hn
    show W p l e R s m args below meth c H locs nc ns Q (F0 m pc ls (mv_val r ba b y :: mv_val r ba b z :: s2.map (mv_val r ba b)))
    rw [mv_val_D h2.1, mv_val_D h2.2]
    exact row z.2 y.2 s2 H locs ls (k2 H locs ls hH hS hl hn)
  · cases h1
theorem mv_br_ok {o : ClassFile.Cond} {v w : mv_V} {s2 : List mv_V} {t : Nat} (hg : mv_in g r) (h1 : mv_br g loc h nc ns o v w s2 t = some (.inr x))
    (row : mv_isI v = true → mv_isI w = true → ∀ (H : Heap) (locs : List Loc) (ls : Array Slot), (mv_hc o (mv_ii r v) (mv_ii r w) → W p l e R s m args below meth c H locs nc ns Q (F0 m t ls (s2.map (mv_val r ba b)))) → (¬ mv_hc o (mv_ii r v) (mv_ii r w) → W p l e R s m args below meth c H locs nc ns Q (F0 m pc2 ls (s2.map (mv_val r ba b)))) → W p l e R s m args below meth c H locs nc ns Q (F0 m pc ls (st.map (mv_val r ba b))))
    (kk : mv_Wx p l e R s m args below meth c Q D cs r ba b nL x pc2) : mv_W p l e R s m args below meth c Q D cs r ba b nL loc st h nc ns pc := by
  unfold mv_br at h1
  split at h1
  · rename_i hc
    obtain ⟨i1, i2, i3⟩ := mv_cm_ok hg hc
    rw [← mv_inr h1] at kk
    intro H locs ls hH hS hl hn
    exact row i1 i2 H locs ls (fun _ => kk H locs ls hH hS hl hn) (fun z => absurd (i3.mp rfl) z)
  · rename_i hc
    obtain ⟨i1, i2, i3⟩ := mv_cm_ok hg hc
    have k2 := mv_go_ok h1 kk
    intro H locs ls hH hS hl hn
    exact row i1 i2 H locs ls (fun z => by have z2 := i3.mpr z; cases z2) (fun _ => k2 H locs ls hH hS hl hn)
  · cases h1
  · cases h1
theorem mv_icr (hexec : p.tables.exec = Jvm.exec) (hb : c.code = cc) {o : ClassFile.Cond} {off : Int} {t : Nat} (hd : decode cc pc = .ok (.if_icmp o off, 3)) (ht : (pc : Int) + off = (t : Int)) {X Y : Int32} {H : Heap} {locs : List Loc} {ls : Array Slot} {rest : List Value}
    (k1 : mv_hc o X Y → W p l e R s m args below meth c H locs nc ns Q (F0 m t ls rest)) (k2 : ¬ mv_hc o X Y → W p l e R s m args below meth c H locs nc ns Q (F0 m (pc + 3) ls rest)) : W p l e R s m args below meth c H locs nc ns Q (F0 m pc ls (.int Y :: .int X :: rest)) := by
  cases o with
  | eq => exact lv_icmp_eq hexec hb hd ht k1 k2
  | ne => exact lv_icmp_ne hexec hb hd ht k1 (fun z => k2 (fun z2 => z2 z))
  | lt => exact lv_icmp_lt hexec hb hd ht k1 k2
  | ge => exact lv_icmp_ge hexec hb hd ht (fun z => k1 (Int32.not_lt.mpr z)) (fun z => k2 (fun z2 => z (Int32.not_lt.mp z2)))
  | gt => exact lv_icmp_gt hexec hb hd ht k1 k2
  | le => exact lv_icmp_le hexec hb hd ht (fun z => k1 (Int32.not_lt.mpr z)) (fun z => k2 (fun z2 => z (Int32.not_lt.mp z2)))
theorem mv_ifr (hexec : p.tables.exec = Jvm.exec) (hb : c.code = cc) {o : ClassFile.Cond} {off : Int} {t : Nat} (hd : decode cc pc = .ok (.ifCond o off, 3)) (ht : (pc : Int) + off = (t : Int)) {X : Int32} {H : Heap} {locs : List Loc} {ls : Array Slot} {rest : List Value}
    (k1 : mv_hc o X 0 → W p l e R s m args below meth c H locs nc ns Q (F0 m t ls rest)) (k2 : ¬ mv_hc o X 0 → W p l e R s m args below meth c H locs nc ns Q (F0 m (pc + 3) ls rest)) : W p l e R s m args below meth c H locs nc ns Q (F0 m pc ls (.int X :: rest)) := by
  cases o with
  | eq => exact lv_if_eq hexec hb hd ht k1 k2
  | ne => exact lv_if_ne hexec hb hd ht k1 (fun z => k2 (fun z2 => z2 z))
  | lt => exact lv_if_lt hexec hb hd ht k1 k2
  | ge => exact lv_if_ge hexec hb hd ht (fun z => k1 (Int32.not_lt.mpr z)) (fun z => k2 (fun z2 => z (Int32.not_lt.mp z2)))
  | gt => exact lv_if_gt hexec hb hd ht k1 k2
  | le => exact lv_if_le hexec hb hd ht (fun z => k1 (Int32.not_lt.mpr z)) (fun z => k2 (fun z2 => z (Int32.not_lt.mp z2)))
theorem mv_ic_ok (hexec : p.tables.exec = Jvm.exec) (hb : c.code = cc) (hg : mv_in g r) {o : ClassFile.Cond} {off : Int} {t : Nat} (hd : decode cc pc = .ok (.if_icmp o off, 3)) (ht : (pc : Int) + off = (t : Int)) (h1 : mv_ic g loc st h nc ns o t = some (.inr x))
    (kk : mv_Wx p l e R s m args below meth c Q D cs r ba b nL x (pc + 3)) : mv_W p l e R s m args below meth c Q D cs r ba b nL loc st h nc ns pc := by
  unfold mv_ic at h1
  split at h1
  · rename_i y z s2
    refine mv_br_ok (pc2 := pc + 3) hg h1 (fun i1 i2 H locs ls k1 k2 => ?_) kk
    show W p l e R s m args below meth c H locs nc ns Q (F0 m pc ls (mv_val r ba b y :: mv_val r ba b z :: s2.map (mv_val r ba b)))
    rw [mv_val_I i1, mv_val_I i2]
    exact mv_icr hexec hb hd ht k1 k2
  · cases h1
theorem mv_if_ok (hexec : p.tables.exec = Jvm.exec) (hb : c.code = cc) (hg : mv_in g r) {o : ClassFile.Cond} {off : Int} {t : Nat} (hd : decode cc pc = .ok (.ifCond o off, 3)) (ht : (pc : Int) + off = (t : Int)) (h1 : mv_if g loc st h nc ns o t = some (.inr x))
    (kk : mv_Wx p l e R s m args below meth c Q D cs r ba b nL x (pc + 3)) : mv_W p l e R s m args below meth c Q D cs r ba b nL loc st h nc ns pc := by
  unfold mv_if at h1
  split at h1
  · rename_i z s2
    refine mv_br_ok (pc2 := pc + 3) hg h1 (fun i1 i2 H locs ls k1 k2 => ?_) kk
    show W p l e R s m args below meth c H locs nc ns Q (F0 m pc ls (mv_val r ba b z :: s2.map (mv_val r ba b)))
    rw [mv_val_I i1]
    exact mv_ifr hexec hb hd ht (fun z => k1 z) (fun z => k2 z)
  · cases h1
theorem mv_inc_ok (hexec : p.tables.exec = Jvm.exec) (hb : c.code = cc) (hg : mv_in g r) {i q : Nat} {n : Int} (hd : decode cc pc = .ok (.iinc i n, 3)) (hq : Int32.ofInt n = nI q) (h1 : mv_inc g loc st h nc ns nL i q = some (.inr x))
    (kk : mv_Wx p l e R s m args below meth c Q D cs r ba b nL x (pc + 3)) : mv_W p l e R s m args below meth c Q D cs r ba b nL loc st h nc ns pc := by
  unfold mv_inc at h1
  split at h1
  · rename_i v hv
    split at h1
    · rename_i a ha
      obtain ⟨h2, h1⟩ := mv_cndn h1
      rw [mv_fo_eq, mv_fi_eq] at h1
      rw [← mv_inr h1] at kk
      obtain ⟨i1, i2⟩ := mv_cI_ok hg ha
      intro H locs ls hH hS hl hn
      obtain ⟨k, hk⟩ := mv_lk_at (r := r) (ba := ba) (b := b) hv hl
      rw [mv_val_I i1, i2] at hk
      refine lv_iinc (v := nI ((a + q) % 4294967296)) (lv' := ((i, ((0, (a + q) % 4294967296) : mv_V)) :: loc.filter (mv_d1 i)).map (mv_lv r ba b)) hexec hb hd hl hk (by rw [hq, nI_add, mv_nI_m]) (mv_blt h2) ?_ (fun ls2 hl2 => kk H locs ls2 hH hS hl2 hn)
      rw [mv_flt1]
      rfl
    · cases h1
    · cases h1
  · cases h1
/-- an array's row -/
theorem mv_ar_ok {t : Nat} {y z : mv_V} {k : Nat → List mv_V → Nat → mv_S} (hg : mv_in g r) (h1 : mv_ar g h t y z k = some (.inr x)) : ∃ (q a : Nat) (cl : List mv_V), z = (2, q) ∧ mv_isI y = true ∧ mv_ii r y = nI a ∧ h[q]? = some (t, cl) ∧ a < cl.length ∧ cl.length < 65536 ∧ k q cl a = some (.inr x) := by
  unfold mv_ar at h1
  obtain ⟨h2, h1⟩ := mv_cndn h1
  split at h1
  · rename_i a ha
    split at h1
    · rename_i d hd
      obtain ⟨h3, h4⟩ := mv_cndn h1
      simp only [Bool.and_eq_true] at h3
      obtain ⟨i1, i2⟩ := mv_cI_ok hg ha
      rw [mv_gt_eq] at hd
      obtain ⟨z1, z2⟩ := z
      obtain ⟨d1, d2⟩ := d
      cases mv_beq h2
      have e3 : d1 = t := mv_beq h3.1
      subst e3
      exact ⟨z2, a, d2, rfl, i1, i2, hd, mv_blt h3.2.1, mv_blt h3.2.2, h4⟩
    · cases h1
  · cases h1
  · cases h1
theorem mv_look {D : va_G} {cs : ClassId × ClassId × ClassId} {h : List mv_C} {H : Heap} {k t : Nat} {cl : List mv_V} (hH : mv_hok D cs r ba b h H) (hk : h[k]? = some (t, cl)) : mv_cok D cs r ba b (mv_ad ba k) (t, cl) H := hH.2 k (t, cl) hk
theorem mv_getD {α : Type} {l : List α} {a : Nat} {v d : α} (h : l[a]? = some v) : l.getD a d = v := by
  rw [List.getD_eq_getElem?_getD, h]; rfl
theorem mv_setD {α : Type} {l : List α} {a : Nat} {v d : α} (ha : a < l.length) (j : Nat) : (l.set a v).getD j d = if j = a then v else l.getD j d := by
  rw [List.getD_eq_getElem?_getD, List.getD_eq_getElem?_getD, List.getElem?_set]
  by_cases hj : a = j
  · subst hj; simp [ha]
  · rw [if_neg hj, if_neg (fun z => hj z.symm)]
theorem mv_aldi_ok (hexec : p.tables.exec = Jvm.exec) (hb : c.code = cc) (hg : mv_in g r) (hK : va_K D vwCl (mv_tys cs) s) (hd : decode cc pc = .ok (.iaload, 1)) (h1 : mv_ald g loc st h nc ns 0 mv_isI = some (.inr x))
    (kk : mv_Wx p l e R s m args below meth c Q D cs r ba b nL x (pc + 1)) : mv_W p l e R s m args below meth c Q D cs r ba b nL loc st h nc ns pc := by
  unfold mv_ald at h1
  split at h1
  · rename_i y z s2
    obtain ⟨q, a, cl, rfl, i1, i2, hq, ha, hlen, h2⟩ := mv_ar_ok hg h1
    split at h2
    · rename_i v hv
      obtain ⟨h3, h4⟩ := mv_cndn h2
      have k2 := mv_go_ok h4 kk
      rw [mv_gt_eq] at hv
      intro H locs ls hH hS hl hn
      have hc : H[mv_ad ba q]? = some (arrV cs.1 cl.length (fun j => .int (mv_ii r (cl.getD j (0, 0))))) := mv_look hH hq
      have hK0 := hK.2 0 _ (show (mv_tys cs)[0]? = some (cs.1, .int) from rfl)
      show W p l e R s m args below meth c H locs nc ns Q (F0 m pc ls (mv_val r ba b y :: .ref (mv_ad ba q) :: s2.map (mv_val r ba b)))
      rw [mv_val_I i1, i2]
      have hcl : (nI a).toNatClampNeg = a := nI_clamp (by omega)
      refine W.iald (v := mv_val r ba b v) hexec hb hc (hK0.1 _ _) (fun q => by cases q) (by rw [arrV_size]; exact nI_in ha (by omega)) ?_ rfl rfl hd (k2 H locs ls hH hS hl hn)
      rw [hcl, arrV_read _ _ ha, mv_getD hv, mv_val_I h3]
    · cases h2
  · cases h1
theorem mv_aldl_ok (hexec : p.tables.exec = Jvm.exec) (hb : c.code = cc) (hg : mv_in g r) (hK : va_K D vwCl (mv_tys cs) s) (hd : decode cc pc = .ok (.laload, 1)) (h1 : mv_ald g loc st h nc ns 1 mv_isJ = some (.inr x))
    (kk : mv_Wx p l e R s m args below meth c Q D cs r ba b nL x (pc + 1)) : mv_W p l e R s m args below meth c Q D cs r ba b nL loc st h nc ns pc := by
  unfold mv_ald at h1
  split at h1
  · rename_i y z s2
    obtain ⟨q, a, cl, rfl, i1, i2, hq, ha, hlen, h2⟩ := mv_ar_ok hg h1
    split at h2
    · rename_i v hv
      obtain ⟨h3, h4⟩ := mv_cndn h2
      have k2 := mv_go_ok h4 kk
      rw [mv_gt_eq] at hv
      intro H locs ls hH hS hl hn
      have hc : H[mv_ad ba q]? = some (arrV cs.2.1 cl.length (fun j => .long (lN (cl.getD j (3, 0)).2))) := mv_look hH hq
      have hK0 := hK.2 1 _ (show (mv_tys cs)[1]? = some (cs.2.1, .long) from rfl)
      show W p l e R s m args below meth c H locs nc ns Q (F0 m pc ls (mv_val r ba b y :: .ref (mv_ad ba q) :: s2.map (mv_val r ba b)))
      rw [mv_val_I i1, i2]
      have hcl : (nI a).toNatClampNeg = a := nI_clamp (by omega)
      refine W.lald (v := mv_val r ba b v) hexec hb hc (hK0.1 _ _) (fun q => by cases q) (by rw [arrV_size]; exact nI_in ha (by omega)) ?_ rfl rfl hd (k2 H locs ls hH hS hl hn)
      rw [hcl, arrV_read _ _ ha, mv_getD hv, mv_val_J h3]
    · cases h2
  · cases h1
theorem mv_aldz_ok (hexec : p.tables.exec = Jvm.exec) (hb : c.code = cc) (hg : mv_in g r) (hK : va_K D vwCl (mv_tys cs) s) (hd : decode cc pc = .ok (.baload, 1)) (h1 : mv_ald g loc st h nc ns 2 mv_isI = some (.inr x))
    (kk : mv_Wx p l e R s m args below meth c Q D cs r ba b nL x (pc + 1)) : mv_W p l e R s m args below meth c Q D cs r ba b nL loc st h nc ns pc := by
  unfold mv_ald at h1
  split at h1
  · rename_i y z s2
    obtain ⟨q, a, cl, rfl, i1, i2, hq, ha, hlen, h2⟩ := mv_ar_ok hg h1
    split at h2
    · rename_i v hv
      obtain ⟨h3, h4⟩ := mv_cndn h2
      have k2 := mv_go_ok h4 kk
      rw [mv_gt_eq] at hv
      intro H locs ls hH hS hl hn
      have hc : H[mv_ad ba q]? = some (arrV cs.2.2 cl.length (fun j => .int (mv_ii r (cl.getD j (0, 0))))) := mv_look hH hq
      have hK0 := hK.2 2 _ (show (mv_tys cs)[2]? = some (cs.2.2, .boolean) from rfl)
      show W p l e R s m args below meth c H locs nc ns Q (F0 m pc ls (mv_val r ba b y :: .ref (mv_ad ba q) :: s2.map (mv_val r ba b)))
      rw [mv_val_I i1, i2]
      have hcl : (nI a).toNatClampNeg = a := nI_clamp (by omega)
      refine W.zald (v := mv_val r ba b v) hexec hb hc (hK0.1 _ _) (fun q => by cases q) (by rw [arrV_size]; exact nI_in ha (by omega)) ?_ rfl rfl hd (k2 H locs ls hH hS hl hn)
      rw [hcl, arrV_read _ _ ha, mv_getD hv, mv_val_I h3]
    · cases h2
  · cases h1
theorem mv_asti_ok (hexec : p.tables.exec = Jvm.exec) (hb : c.code = cc) (hg : mv_in g r) (hK : va_K D vwCl (mv_tys cs) s) (hd : decode cc pc = .ok (.iastore, 1)) (h1 : mv_ast g loc st h nc ns 0 mv_isI = some (.inr x))
    (kk : mv_Wx p l e R s m args below meth c Q D cs r ba b nL x (pc + 1)) : mv_W p l e R s m args below meth c Q D cs r ba b nL loc st h nc ns pc := by
  unfold mv_ast at h1
  split at h1
  · rename_i v y z s2
    obtain ⟨hv, h1⟩ := mv_cndn h1
    obtain ⟨q, a, cl, rfl, i1, i2, hq, ha, hlen, h2⟩ := mv_ar_ok hg h1
    rw [mv_ls_eq, mv_ls_eq] at h2
    have k2 := mv_go_ok h2 kk
    intro H locs ls hH hS hl hn
    have hc : H[mv_ad ba q]? = some (arrV cs.1 cl.length (fun j => .int (mv_ii r (cl.getD j (0, 0))))) := mv_look hH hq
    have hK0 := hK.2 0 _ (show (mv_tys cs)[0]? = some (cs.1, .int) from rfl)
    show W p l e R s m args below meth c H locs nc ns Q (F0 m pc ls (mv_val r ba b v :: mv_val r ba b y :: .ref (mv_ad ba q) :: s2.map (mv_val r ba b)))
    rw [mv_val_I i1, i2, mv_val_I hv]
    have hcl : (nI a).toNatClampNeg = a := nI_clamp (by omega)
    refine W.iast hexec hb hc (hK0.1 _ _) (fun q => by cases q) (by rw [arrV_size]; exact nI_in ha (by omega)) rfl rfl hd (fun H1 e1 e2 e3 => ?_)
    refine k2 H1 _ ls (hH.set e2 e3 ?_) (hS.put e2 e3 (mv_ad_le _ _)) hl (by rw [e2]; exact hn)
    show H1[mv_ad ba q]? = some (arrV cs.1 (cl.set a v).length (fun j => .int (mv_ii r ((cl.set a v).getD j (0, 0)))))
    rw [e1, hcl, arrV_store, List.length_set]
    congr 2
    funext j
    rw [mv_setD ha]
    unfold updV
    by_cases hj : j = a
    · rw [if_pos hj, if_pos hj]
    · rw [if_neg hj, if_neg hj]
  · cases h1
theorem mv_astl_ok (hexec : p.tables.exec = Jvm.exec) (hb : c.code = cc) (hg : mv_in g r) (hK : va_K D vwCl (mv_tys cs) s) (hd : decode cc pc = .ok (.lastore, 1)) (h1 : mv_ast g loc st h nc ns 1 mv_isJ = some (.inr x))
    (kk : mv_Wx p l e R s m args below meth c Q D cs r ba b nL x (pc + 1)) : mv_W p l e R s m args below meth c Q D cs r ba b nL loc st h nc ns pc := by
  unfold mv_ast at h1
  split at h1
  · rename_i v y z s2
    obtain ⟨hv, h1⟩ := mv_cndn h1
    obtain ⟨q, a, cl, rfl, i1, i2, hq, ha, hlen, h2⟩ := mv_ar_ok hg h1
    rw [mv_ls_eq, mv_ls_eq] at h2
    have k2 := mv_go_ok h2 kk
    intro H locs ls hH hS hl hn
    have hc : H[mv_ad ba q]? = some (arrV cs.2.1 cl.length (fun j => .long (lN (cl.getD j (3, 0)).2))) := mv_look hH hq
    have hK0 := hK.2 1 _ (show (mv_tys cs)[1]? = some (cs.2.1, .long) from rfl)
    show W p l e R s m args below meth c H locs nc ns Q (F0 m pc ls (mv_val r ba b v :: mv_val r ba b y :: .ref (mv_ad ba q) :: s2.map (mv_val r ba b)))
    rw [mv_val_I i1, i2, mv_val_J hv]
    have hcl : (nI a).toNatClampNeg = a := nI_clamp (by omega)
    refine W.last hexec hb hc (hK0.1 _ _) (fun q => by cases q) (by rw [arrV_size]; exact nI_in ha (by omega)) rfl rfl hd (fun H1 e1 e2 e3 => ?_)
    refine k2 H1 _ ls (hH.set e2 e3 ?_) (hS.put e2 e3 (mv_ad_le _ _)) hl (by rw [e2]; exact hn)
    show H1[mv_ad ba q]? = some (arrV cs.2.1 (cl.set a v).length (fun j => .long (lN ((cl.set a v).getD j (3, 0)).2)))
    rw [e1, hcl, arrV_store, List.length_set]
    congr 2
    funext j
    rw [mv_setD ha]
    unfold updV
    by_cases hj : j = a
    · rw [if_pos hj, if_pos hj]
    · rw [if_neg hj, if_neg hj]
  · cases h1
theorem mv_zst_ok (hexec : p.tables.exec = Jvm.exec) (hb : c.code = cc) (hg : mv_in g r) (hK : va_K D vwCl (mv_tys cs) s) (hd : decode cc pc = .ok (.bastore, 1)) (h1 : mv_zst g loc st h nc ns = some (.inr x))
    (kk : mv_Wx p l e R s m args below meth c Q D cs r ba b nL x (pc + 1)) : mv_W p l e R s m args below meth c Q D cs r ba b nL loc st h nc ns pc := by
  unfold mv_zst at h1
  split at h1
  · rename_i v y z s2
    split at h1
    · rename_i w hw
      obtain ⟨hw2, h1⟩ := mv_cndn h1
      have hw2 := mv_blt hw2
      obtain ⟨j1, j2⟩ := mv_cI_ok hg hw
      obtain ⟨q, a, cl, rfl, i1, i2, hq, ha, hlen, h2⟩ := mv_ar_ok hg h1
      rw [mv_ls_eq, mv_ls_eq] at h2
      have k2 := mv_go_ok h2 kk
      intro H locs ls hH hS hl hn
      have hc : H[mv_ad ba q]? = some (arrV cs.2.2 cl.length (fun j => .int (mv_ii r (cl.getD j (0, 0))))) := mv_look hH hq
      have hK0 := hK.2 2 _ (show (mv_tys cs)[2]? = some (cs.2.2, .boolean) from rfl)
      show W p l e R s m args below meth c H locs nc ns Q (F0 m pc ls (mv_val r ba b v :: mv_val r ba b y :: .ref (mv_ad ba q) :: s2.map (mv_val r ba b)))
      rw [mv_val_I i1, i2, mv_val_I j1, j2]
      have hcl : (nI a).toNatClampNeg = a := nI_clamp (by omega)
      refine W.zast hexec hb hc (hK0.1 _ _) (fun q => by cases q) (by rw [arrV_size]; exact nI_in ha (by omega)) rfl rfl hd (fun H1 e1 e2 e3 => ?_)
      refine k2 H1 _ ls (hH.set e2 e3 ?_) (hS.put e2 e3 (mv_ad_le _ _)) hl (by rw [e2]; exact hn)
      show H1[mv_ad ba q]? = some (arrV cs.2.2 (cl.set a (0, w)).length (fun j => .int (mv_ii r ((cl.set a (0, w)).getD j (0, 0)))))
      have hnar : narrow .boolean (.int (nI w)) = .int (nI w) := by
        rcases (show w = 0 ∨ w = 1 by omega) with rfl | rfl <;> decide +kernel
      rw [e1, hcl, hnar, arrV_store, List.length_set]
      congr 2
      funext j
      rw [mv_setD ha]
      unfold updV
      by_cases hj : j = a
      · rw [if_pos hj, if_pos hj]; rfl
      · rw [if_neg hj, if_neg hj]
    · cases h1
    · cases h1
  · cases h1
end MVT
