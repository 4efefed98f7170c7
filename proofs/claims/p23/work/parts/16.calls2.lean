/-! ===== a throw; a method as a contract; behind a call; a handler ===== -/
theorem mv_hat {D : va_G} {cs : ClassId × ClassId × ClassId} {r : Nat → Int32} {ba : mv_A} {b : Nat} {s : State} {args : Array Value} {L : List Cond} (hts : ∀ w ∈ mv_big, w.before args s = true) (he : ∀ w ∈ mv_nst, va_Nw w s) (h : ∀ w ∈ L, (w ∈ mv_big ∨ (w ∈ mv_nst ∧ w.onTables = true)) ∧ vx_ot w = true) : ∀ w ∈ L, w.before args s = true := by
  intro w hw
  rcases (h w hw).1 with h1 | ⟨h1, h2⟩
  · exact hts w h1
  · exact va_Nw.use h2 (he w h1)
theorem mv_any {own : String} {is : Nat} (h : mv_str.any (fun q => decide (q.1 = own) && Nat.beq q.2.1 is) = true) : ∃ tx : String, (own, is, tx) ∈ mv_str := by
  obtain ⟨q, hq, h1⟩ := List.any_eq_true.mp h
  obtain ⟨h1, h2⟩ := mv_a2 h1
  have e1 : q.1 = own := of_decide_eq_true h1
  have e2 : q.2.1 = is := mv_beq h2
  refine ⟨q.2.2, ?_⟩
  rw [← e1, ← e2]
  exact hq
theorem mv_x2_ok {l : Launch} (hst : l.stackTraces = false) {D : va_G} {cs : ClassId × ClassId × ClassId} {r : Nat → Int32} {ba : mv_A} {b : Nat} {X : mv_I} {dep pc len a k : Nat} {i : Instr} {loc : mv_L} {st : List mv_V} {h : List mv_C} {nc ns : Nat} {g : mv_B} {K : mv_K} (h1 : mv_x2 dep (i, pc, len, 2, a, k) st h nc ns g K = true)
    (hd : decode X.2.1 pc = .ok (i, len)) (hk0 : (Nat.beq len 3 && mv_thr X.2.1 pc i X.1.cls a (mv_nk i) (k % 65536) (k / 65536) X.2.2.2.2.2.2.2) = true) (hg : mv_in g r) :
    mv_ends l D cs r ba b X dep loc st h nc ns pc K := by
  obtain ⟨hlen, hk⟩ := mv_a2 hk0
  clear hk0
  cases mv_beq hlen
  unfold mv_x2 at h1
  rcases mv_cnd h1 with ⟨h2, h1⟩ | ⟨-, h1⟩
  · obtain ⟨h2, h3⟩ := mv_a2 h2
    have h2 := mv_blt h2
    have h3 := mv_ble h3
    rw [mv_fo_eq, mv_fo_eq, mv_sn_eq] at h1
    have h1 : K g (a + 2, (0, 0)) (h ++ [(3, [])]) (nc + 1) (ns + 6) = true := h1
    unfold mv_thr at hk
    generalize hik : mv_nk i = ik at hk
    simp only [Bool.and_eq_true, Bool.or_eq_true, decide_eq_true_eq] at hk
    obtain ⟨⟨hi, hown⟩, ⟨ha, ⟨hk1, hk2⟩⟩, ⟨hs, hem⟩, d3, hdd⟩ := hk
    have ha := mv_blt ha
    have hk1 := mv_beq hk1
    have hk2 := mv_beq hk2
    subst hi
    rw [hk1] at hd
    rw [hk2] at hdd
    obtain ⟨tx, htx⟩ := mv_any hs
    have hh : X.2.2.2.2.2.2.2 = [] := List.isEmpty_iff.mp hem
    refine ⟨g, (a + 2, (0, 0)), h ++ [(3, [])], nc + 1, ns + 6, hg, (by show a + 2 < 5; omega), h1, Nat.le_succ _, Nat.le_add_right _ _, by rw [List.length_append]; show h.length + (nc + 1) = h.length + 1 + nc; omega, fun p e R s m args below meth c hf he hr1 hr2 hr3 hr4 H locs ls hH hS hl hn => ?_⟩
    obtain ⟨f1, f2, f3, f4, f5, f6, f7, f8, f9⟩ := hf
    obtain ⟨e1, e2, e3, e4, e5, e6, e7, e8⟩ := he
    obtain ⟨sa, hsa⟩ := e6 _ htx
    obtain ⟨t1, t2⟩ := mv_tw ha
    rw [hown] at f4 hsa
    have ht := mv_hat (D := D) (cs := cs) (r := r) (ba := ba) (b := b) f5 e5 t1
    have hcs : ((st.map (mv_val r ba b)).map fun v => v.category).sum ≤ 8 := by
      rw [mv_csum r ba b st]; exact h3
    have hx : ∀ t : State, s.vm.Alike t.vm → H.size < t.heap.size → (∀ q : Nat, q < H.size → t.heap[q]? = H[q]?) → mv_XC D cs r ba b (a + 2, (0, 0)) (h ++ [(3, [])]) (mv_ex a) s t := by
      intro t _ z1 z2
      refine ⟨Nat.le_add_left _ _, rfl, ?_, ?_, ?_, ?_⟩
      · rw [List.length_append]
        have h9 := hH.1.1
        have h8 := mv_ad_s (ba := ba) 1 hH.1.2
        show mv_ad ba (h.length + 1) ≤ _
        omega
      · intro k c hc
        by_cases hlt : k < h.length
        · rw [List.getElem?_append_left hlt] at hc
          exact (hH.2 k c hc).kept (z2 _ (by rw [hH.1.1]; exact mv_ad_lt hlt))
        · rw [List.getElem?_append_right (by omega)] at hc
          have hz : k - h.length < 1 := (List.getElem?_eq_some_iff.mp hc).1
          have hz0 : k - h.length = 0 := by omega
          rw [hz0] at hc
          cases hc
          exact trivial
      · exact Nat.le_trans hS.1 (Nat.le_of_lt z1)
      · intro q q1 q2
        rw [z2 q (Nat.lt_of_lt_of_le q1 hS.1)]
        exact hS.2.1 q q1 q2
    have hno : ∀ y ∈ c.exceptionTable.toList, False := by
      intro y hy
      rw [f9, hh] at hy
      cases hy
    rcases hdd with ⟨d4, d6, d9⟩ | ⟨d4, d6, d9⟩
    · exact mv_throwS (names := mv_xnm) f1 f2 hst f4 t2 mv_xfit (ht _ List.mem_cons_self) (ht _ (List.mem_cons_of_mem _ List.mem_cons_self)) hsa (fun w hw => ht _ (List.mem_cons_of_mem _ (List.mem_cons_of_mem _ hw))) (fun w hw => (t1 w hw).2) e3 e4 hS (hl.1.trans f3.symm) hd d3 d4 d6 d9 (fun y hy => absurd (hno y hy) id) (by show 2 + 3 < R.frames; omega) (by show _ + (13 * (2 + 1) + 43) ≤ R.locals; omega) hr3 hr4 f7 hx hS.2.2 (Nat.le_refl _) (Nat.le_refl _)
    · exact mv_throwSW (names := mv_xnm) f1 f2 hst f4 t2 mv_xfit (ht _ List.mem_cons_self) (ht _ (List.mem_cons_of_mem _ List.mem_cons_self)) hsa (fun w hw => ht _ (List.mem_cons_of_mem _ (List.mem_cons_of_mem _ hw))) (fun w hw => (t1 w hw).2) e3 e4 hS (hl.1.trans f3.symm) hd d3 d4 d6 d9 (fun y hy => absurd (hno y hy) id) (by show 2 + 3 < R.frames; omega) (by show _ + (13 * (2 + 1) + 43) ≤ R.locals; omega) hr3 hr4 f7 hx hS.2.2 (Nat.le_refl _) (Nat.le_refl _)
  · cases h1
theorem mv_x3_ok {l : Launch} {D : va_G} {cs : ClassId × ClassId × ClassId} {r : Nat → Int32} {ba : mv_A} {b : Nat} {mi : Nat → mv_I} {cand : Nat → List Cond} {J : mv_J} (hJ : mv_good l D cs r ba b mi cand J) {mid : Nat} (hc : ∀ w ∈ cand mid, w ∈ mv_big) {dep pc len a k : Nat} {i : Instr} {t : List mv_E} {loc : mv_L} {st : List mv_V} {h : List mv_C} {nc ns : Nat} {g : mv_B} {K : mv_K} (h1 : mv_x3 J dep mid (i, pc, len, 3, a, k) t loc st h nc ns g K = true)
    (hv : mv_vL (cand mid) mi (mi mid) (pc + len) t = true) (hd : decode (mi mid).2.1 pc = .ok (i, len)) (hk0 : (Nat.beq len 3 && mv_c3 (cand mid) (mi mid).1.cls i) = true) (hg : mv_in g r) :
    mv_ends l D cs r ba b (mi mid) dep loc st h nc ns pc K := by
  obtain ⟨hlen, hk⟩ := mv_a2 hk0
  clear hk0
  cases mv_beq hlen
  unfold mv_c3 at hk
  split at hk
  · rename_i idx
    simp only [Bool.and_eq_true, decide_eq_true_eq] at hk
    obtain ⟨k1, k2, k3⟩ := hk
    unfold mv_x3 at h1
    split at h1
    · rename_i v s2
      rcases mv_cnd h1 with ⟨h2, h1⟩ | ⟨-, h1⟩
      · simp only [Bool.and_eq_true] at h2
        obtain ⟨h2, h3, h4⟩ := h2
        obtain ⟨g2, res, h2', c2, n2, q1, q2, q3, q4⟩ := hJ _ _ _ _ _ _ _ _ _ _ _ h1 hv hg
        refine ⟨g2, res, h2', c2, n2, q1, q2, q3, mv_run_of (x := (none, loc, s2, h, nc, ns)) ⟨Nat.le_refl _, Nat.le_refl _, rfl⟩ q4 fun p e R s m args below meth c Q hf he r1 r2 _ _ kk H locs ls hH hS hl hn => ?_⟩
        show W p l e R s m args below meth c H locs nc ns Q (F0 m pc ls (mv_val r ba b v :: s2.map (mv_val r ba b)))
        rw [mv_val_R h2]
        have hcs : ((s2.map (mv_val r ba b)).map fun v => v.category).sum ≤ 8 := by
          rw [mv_csum r ba b s2]; exact mv_ble h3
        have h4 := mv_blt h4
        exact W.objInit hf.1 hf.2.1 hf.2.2.2.1 (hf.2.2.2.2.1 _ (hc _ k1)) (hf.2.2.2.2.1 _ (hc _ k2)) (hf.2.2.2.2.1 _ (hc _ k3)) rfl (hl.1.trans hf.2.2.1.symm) rfl hd (by omega) (by show 2 * 0 + _ + 12 ≤ _; omega) (kk H locs ls hH hS hl hn)
      · cases h1
    · cases h1
  · cases hk
/-- from the entry on -/
theorem mv_ent {l : Launch} {D : va_G} {cs : ClassId × ClassId × ClassId} {r : Nat → Int32} {ba : mv_A} {b d : Nat} {x : mv_I} {as : List mv_V} {h : List mv_C} {res : Nat × mv_V} {h2 : List mv_C} {c2 n2 : Nat} (hR : mv_run l D cs r ba b x d (mv_ag 0 as) [] h 0 0 0 res h2 c2 n2) (hcs : mv_cs as ≤ x.2.2.1)
    {p : Program} {e : Env} {s : State} {m : MethodId} {args : Array Value} {below : List Frame} {meth : Method} {c : Code} (hf : mv_fr x p s m args meth c) (hP : mv_Pc D cs r ba b as h args s) :
    W p l e (mv_rm d c2 n2) s m args below meth c s.heap [] 0 0 (vx_MQ below (mv_Qc D cs r ba b res h2) (mv_XC D cs r ba b res h2) args s c2 n2 (fun q => ba.1 ≤ q)) (entryFrame m args x.2.2.1) := by
  obtain ⟨ha, hen, hok⟩ := hP
  subst ha
  rw [lg_entry_eq]
  have hl := lv_entry (as.map (mv_val r ba b)) (n := x.2.2.1) (by rw [mv_lgs r ba b as]; exact hcs)
  rw [mv_args r ba b 0 as] at hl
  exact hR.2.2.2 p e (mv_rm d c2 n2) s m _ below meth c hf hen (Nat.le_refl _) (Nat.le_refl _) (Nat.le_refl _) (Nat.le_refl _) s.heap [] _ hok va_S.rf hl rfl
theorem mv_metC {l : Launch} {D : va_G} {cs : ClassId × ClassId × ClassId} {r : Nat → Int32} {ba : mv_A} {b d : Nat} {x : mv_I} {as : List mv_V} {h : List mv_C} {res : Nat × mv_V} {h2 : List mv_C} {c2 n2 : Nat} (hR : mv_run l D cs r ba b x d (mv_ag 0 as) [] h 0 0 0 res h2 c2 n2) (hcs : mv_cs as ≤ x.2.2.1)
    (hy : plainName x.1.cls = true) (hh : x.2.2.2.2.2.2.2 = []) : vx_Met l x.1 (Cond.code x.1 x.2.1 x.2.2.1 x.2.2.2.1 :: mv_big) (mv_rm d c2 n2) (mv_Pc D cs r ba b as h) (mv_Qc D cs r ba b res h2) (mv_XC D cs r ba b res h2) c2 n2 (fun q => ba.1 ≤ q) := by
  refine vx_ofW hy rfl fun p e s m args below meth c s₁ B hml ht hP => ?_
  have hts : ∀ w ∈ Cond.code x.1 x.2.1 x.2.2.1 x.2.2.2.1 :: mv_big, w.before args s = true := atoms_spec (ws := Cond.code x.1 x.2.1 x.2.2.1 x.2.2.2.1 :: mv_big) B.pre
  refine mv_ent hR hcs ⟨B.exec, B.bytes, hml, findClass_of_methodNamed B.named, fun w hw => hts w (List.mem_cons_of_mem _ hw), B.returns, B.notSynchronized, (name_of_methodNamed B.named B.method).1, ?_⟩ hP
  rw [hh]
  cases hq : c.exceptionTable.toList with
  | nil => rfl
  | cons y t => exact absurd (ht y (by rw [hq]; exact List.mem_cons_self)) id
theorem mv_metW {l : Launch} {D : va_G} {cs : ClassId × ClassId × ClassId} {r : Nat → Int32} {ba : mv_A} {b d : Nat} {x : mv_I} {as : List mv_V} {h : List mv_C} {res : Nat × mv_V} {h2 : List mv_C} {c2 n2 : Nat} (hR : mv_run l D cs r ba b x d (mv_ag 0 as) [] h 0 0 0 res h2 c2 n2) (hcs : mv_cs as ≤ x.2.2.1)
    (hy : plainName x.1.cls = true) : vx_Met l x.1 (Cond.codeWith x.1 x.2.1 x.2.2.1 x.2.2.2.1 x.2.2.2.2.2.2.2 :: mv_big) (mv_rm d c2 n2) (mv_Pc D cs r ba b as h) (mv_Qc D cs r ba b res h2) (mv_XC D cs r ba b res h2) c2 n2 (fun q => ba.1 ≤ q) := by
  refine vx_ofWH hy rfl fun p e s m args below meth c s₁ B hml hP => ?_
  have hts : ∀ w ∈ Cond.codeWith x.1 x.2.1 x.2.2.1 x.2.2.2.1 x.2.2.2.2.2.2.2 :: mv_big, w.before args s = true := atoms_spec (ws := Cond.codeWith x.1 x.2.1 x.2.2.1 x.2.2.2.1 x.2.2.2.2.2.2.2 :: mv_big) B.pre
  exact mv_ent hR hcs ⟨B.exec, B.bytes, hml, findClass_of_methodNamed B.named, fun w hw => hts w (List.mem_cons_of_mem _ hw), B.returns, B.notSynchronized, (name_of_methodNamed B.named B.method).1, vx_table (x := x.1) B (hts _ List.mem_cons_self)⟩ hP
