/-! ===== ends: a step more; a return; a throw; a method as a contract; behind a call ===== -/
theorem mv_run_of {l : Launch} {D : va_G} {cs : ClassId × ClassId × ClassId} {r : Nat → Int32} {ba : mv_A} {b dep : Nat} {X : mv_I} {loc : mv_L} {st : List mv_V} {h : List mv_C} {nc ns pc pc2 : Nat} {res : Nat × mv_V} {h2 : List mv_C} {c2 n2 : Nat} {x : Option Nat × mv_L × List mv_V × List mv_C × Nat × Nat}
    (hm : mv_mn h nc ns x) (hr : mv_run l D cs r ba b X dep x.2.1 x.2.2.1 x.2.2.2.1 x.2.2.2.2.1 x.2.2.2.2.2 pc2 res h2 c2 n2)
    (hW : ∀ (p : Program) (e : Env) (R : Room) (s : State) (m : MethodId) (args : Array Value) (below : List Frame) (meth : Method) (c : Code) (Q : State → Prop), mv_fr X p s m args meth c → mv_en D cs r ba b s → dep ≤ R.frames → 100 * dep ≤ R.locals → x.2.2.2.2.1 ≤ R.cells → x.2.2.2.2.2 ≤ R.slots →
      mv_W p l e R s m args below meth c Q D cs r ba b X.2.2.1 x.2.1 x.2.2.1 x.2.2.2.1 x.2.2.2.2.1 x.2.2.2.2.2 pc2 → mv_W p l e R s m args below meth c Q D cs r ba b X.2.2.1 loc st h nc ns pc) :
    mv_run l D cs r ba b X dep loc st h nc ns pc res h2 c2 n2 := by
  obtain ⟨m1, m2, m3⟩ := hm
  obtain ⟨r1, r2, r3, r4⟩ := hr
  refine ⟨Nat.le_trans m1 r1, Nat.le_trans m2 r2, by omega, fun p e R s m args below meth c hf he h1 h2 h3 h4 => ?_⟩
  exact hW p e R s m args below meth c _ hf he h1 h2 (Nat.le_trans r1 h3) (Nat.le_trans r2 h4) (r4 p e R s m args below meth c hf he h1 h2 h3 h4)
theorem mv_x0_ok {l : Launch} {D : va_G} {cs : ClassId × ClassId × ClassId} {r : Nat → Int32} {ba : mv_A} {b : Nat} {mi : Nat → mv_I} {cand : Nat → List Cond} {J : mv_J} (hJ : mv_good l D cs r ba b mi cand J) {S : mv_S} {dep mid pc : Nat} {e : mv_E} {t : List mv_E} {loc : mv_L} {st : List mv_V} {h : List mv_C} {nc ns : Nat} {g : mv_B} {K : mv_K} (h1 : mv_x0 J S dep mid pc e t loc st h nc ns g K = true)
    (hv : mv_vL (cand mid) mi (mi mid) pc (e :: t) = true) (hv2 : mv_vL (cand mid) mi (mi mid) (e.2.1 + e.2.2.1) t = true) (hg : mv_in g r)
    (hS : ∀ x, S = some (.inr x) → mv_mn h nc ns x ∧ ∀ (p : Program) (en : Env) (R : Room) (s : State) (m : MethodId) (args : Array Value) (below : List Frame) (meth : Method) (c : Code) (Q : State → Prop), mv_fr (mi mid) p s m args meth c → mv_en D cs r ba b s → dep ≤ R.frames → 100 * dep ≤ R.locals → x.2.2.2.2.1 ≤ R.cells → x.2.2.2.2.2 ≤ R.slots →
      mv_Wx p l en R s m args below meth c Q D cs r ba b (mi mid).2.2.1 x (e.2.1 + e.2.2.1) → mv_W p l en R s m args below meth c Q D cs r ba b (mi mid).2.2.1 loc st h nc ns pc) :
    mv_ends l D cs r ba b (mi mid) dep loc st h nc ns pc K := by
  unfold mv_x0 at h1
  split at h1
  · obtain ⟨g2, res, h2, c2, n2, q1, q2, q3, q4⟩ := hJ _ _ _ _ _ _ _ _ _ _ _ h1 hv2 hg
    obtain ⟨s1, s2⟩ := hS _ rfl
    exact ⟨g2, res, h2, c2, n2, q1, q2, q3, mv_run_of s1 q4 s2⟩
  · obtain ⟨g2, res, h2, c2, n2, q1, q2, q3, q4⟩ := hJ _ _ _ _ _ _ _ _ _ _ _ h1 rfl hg
    obtain ⟨s1, s2⟩ := hS _ rfl
    exact ⟨g2, res, h2, c2, n2, q1, q2, q3, mv_run_of s1 q4 s2⟩
  · obtain ⟨g2, q1, q2⟩ := mv_pt_ok hg h1
    exact hJ _ _ _ _ _ _ _ _ _ _ _ q2 hv q1
  · cases h1
theorem mv_Sf {l : List Loc} {ba : mv_A} {H0 H : Heap} (hS : va_S (fun q => ba.1 ≤ q) H0 H l) : ∀ q ∈ l, ba.1 ≤ q.base := hS.2.2
/-- an end by a return -/
theorem mv_ret0 {l : Launch} {D : va_G} {cs : ClassId × ClassId × ClassId} {r : Nat → Int32} {ba : mv_A} {b dep : Nat} {X : mv_I} {loc : mv_L} {st : List mv_V} {h : List mv_C} {nc ns pc : Nat} {res : Nat × mv_V} (h2 : res.1 < 2)
    (hW : ∀ (p : Program) (e : Env) (R : Room) (s : State) (m : MethodId) (args : Array Value) (below : List Frame) (meth : Method) (c : Code) (H : Heap) (locs : List Loc) (ls : Array Slot), mv_fr X p s m args meth c → (∀ t : State, t.heap = H → s.WarmedH t.vm → mv_Qc D cs r ba b res h args s (.returned (mv_rv r ba b res)) t) → (∀ q ∈ locs, ba.1 ≤ q.base) →
      W p l e R s m args below meth c H locs nc ns (MQ below (mv_Qc D cs r ba b res h) args s nc ns (fun q => ba.1 ≤ q)) (F0 m pc ls (st.map (mv_val r ba b)))) :
    mv_run l D cs r ba b X dep loc st h nc ns pc res h nc ns := by
  refine ⟨Nat.le_refl _, Nat.le_refl _, rfl, fun p e R s m args below meth c hf he _ _ _ _ H locs ls hH hS hl hn => vx_ret (hW p e R s m args below meth c H locs ls hf (fun t ht _ => ?_) hS.2.2)⟩
  exact ⟨h2, rfl, by rw [ht]; exact hH, by rw [ht]; exact hS.1, fun q q1 q2 => by rw [ht]; exact hS.2.1 q q1 q2⟩
theorem mv_rets1 {i : Instr} {ret : Option FieldType} (h : mv_rets i 1 ret = true) : i = .ireturn ∧ ret = some .int := by
  unfold mv_rets at h
  split at h <;> simp_all
theorem mv_rets2 {i : Instr} {ret : Option FieldType} (h : mv_rets i 2 ret = true) : i = .ireturn ∧ ret = some .boolean := by
  unfold mv_rets at h
  split at h <;> simp_all
theorem mv_rets3 {i : Instr} {ret : Option FieldType} (h : mv_rets i 3 ret = true) : i = .lreturn ∧ ret = some .long := by
  unfold mv_rets at h
  split at h <;> simp_all
theorem mv_rets4 {i : Instr} {ret : Option FieldType} (h : mv_rets i 4 ret = true) : i = .dreturn ∧ ret = some .double := by
  unfold mv_rets at h
  split at h <;> simp_all
theorem mv_rets0 {i : Instr} {ret : Option FieldType} (h : mv_rets i 0 ret = true) : i = .return_ ∧ ret = none := by
  unfold mv_rets at h
  split at h <;> simp_all
theorem mv_rets5 {i : Instr} {ret : Option FieldType} (h : mv_rets i 5 ret = true) : i = .areturn ∧ ∃ rt, ret = some rt ∧ ((∃ n, rt = .object n) ∨ ∃ t, rt = .array t) := by
  unfold mv_rets at h
  split at h
  · simp at h
  · simp at h
  · simp at h
  · simp at h
  · refine ⟨rfl, ?_⟩
    split at h
    · exact ⟨_, rfl, Or.inl ⟨_, rfl⟩⟩
    · exact ⟨_, rfl, Or.inr ⟨_, rfl⟩⟩
    · simp at h
  · cases h
theorem mv_nar {z : Nat} (h : z < 2) : narrow .boolean (.int (nI z)) = .int (nI z) := by
  have h1 : z = 0 ∨ z = 1 := by omega
  rcases h1 with rfl | rfl <;> rfl
theorem mv_x1_ok {l : Launch} {D : va_G} {cs : ClassId × ClassId × ClassId} {r : Nat → Int32} {ba : mv_A} {b : Nat} {mi : Nat → mv_I} {cand : Nat → List Cond} {J : mv_J} (hJ : mv_good l D cs r ba b mi cand J) {dep mid pc len a k : Nat} {i : Instr} {t : List mv_E} {loc : mv_L} {st : List mv_V} {h : List mv_C} {nc ns : Nat} {g : mv_B} {K : mv_K} (h1 : mv_x1 J dep mid pc (i, pc, len, 1, a, k) t loc st h nc ns g K = true)
    (hv : mv_vL (cand mid) mi (mi mid) pc ((i, pc, len, 1, a, k) :: t) = true) (hd : decode (mi mid).2.1 pc = .ok (i, len)) (hk : (Nat.beq len 1 && mv_rets i a (mi mid).2.2.2.1) = true) (hg : mv_in g r) :
    mv_ends l D cs r ba b (mi mid) dep loc st h nc ns pc K := by
  obtain ⟨hlen, hk⟩ := mv_a2 hk
  cases mv_beq hlen
  unfold mv_x1 at h1
  split at h1
  · obtain ⟨h2, h3⟩ := (mv_cndn (α := Unit) (x := some ()) (z := ()) (c := Nat.beq a 0 && K g (0, (0, 0)) h nc ns) (by
      have h1 : (bif Nat.beq a 0 then K g (0, (0, 0)) h nc ns else false) = true := h1
      cases hq : Nat.beq a 0
      · rw [hq] at h1; cases h1
      · rw [hq] at h1
        have h1 : K g (0, (0, 0)) h nc ns = true := h1
        rw [h1]; rfl))
    obtain ⟨h2, h4⟩ := mv_a2 h2
    cases mv_beq h2
    obtain ⟨rfl, hr⟩ := mv_rets0 hk
    refine ⟨g, (0, (0, 0)), h, nc, ns, hg, (by show (0 : Nat) < 5; omega), h4, mv_ret0 (by show (0 : Nat) < 2; omega) fun p e R s m args below meth c H locs ls hf hq hl => ?_⟩
    exact W.vret hf.1 hf.2.1 (hf.2.2.2.2.2.1.trans hr) hq hl hd hf.2.2.2.2.2.2.1
  · rename_i v
    unfold mv_x1v at h1
    split at h1
    · rename_i ea
      cases (show a = 1 from ea)
      obtain ⟨rfl, hr⟩ := mv_rets1 hk
      rcases mv_cnd h1 with ⟨hi, h1⟩ | ⟨-, h1⟩
      · refine ⟨g, (1, v), h, nc, ns, hg, (by show (1 : Nat) < 5; omega), h1, mv_ret0 (by show (1 : Nat) < 2; omega) fun p e R s m args below meth c H locs ls hf hq hl => ?_⟩
        have hq : ∀ t : State, t.heap = H → s.WarmedH t.vm → mv_Qc D cs r ba b (1, v) h args s (.returned (some (mv_val r ba b v))) t := hq
        show W p l e R s m args below meth c H locs nc ns _ (F0 m pc ls [mv_val r ba b v])
        rw [mv_val_I hi] at hq ⊢
        exact W.iret hf.1 hf.2.1 (hf.2.2.2.2.2.1.trans hr) hq hl hd hf.2.2.2.2.2.2.1
      · cases h1
    · rename_i ea
      cases (show a = 2 from ea)
      obtain ⟨rfl, hr⟩ := mv_rets2 hk
      split at h1
      · rename_i z hz
        rcases mv_cnd h1 with ⟨h2, h1⟩ | ⟨-, h1⟩
        · rw [mv_fo_eq] at h1
          obtain ⟨i1, i2⟩ := mv_cI_ok hg hz
          refine ⟨g, (1, (0, z)), h, nc, ns, hg, (by show (1 : Nat) < 5; omega), h1, mv_ret0 (by show (1 : Nat) < 2; omega) fun p e R s m args below meth c H locs ls hf hq hl => ?_⟩
          have hq : ∀ t : State, t.heap = H → s.WarmedH t.vm → mv_Qc D cs r ba b (1, (0, z)) h args s (.returned (some (.int (nI z)))) t := hq
          show W p l e R s m args below meth c H locs nc ns _ (F0 m pc ls [mv_val r ba b v])
          rw [mv_val_I i1, i2]
          exact W.zret hf.1 hf.2.1 (hf.2.2.2.2.2.1.trans hr) (mv_nar (mv_blt h2)) hq hl hd hf.2.2.2.2.2.2.1
        · cases h1
      · obtain ⟨g2, q1, q2⟩ := mv_pt_ok hg h1
        exact hJ _ _ _ _ _ _ _ _ _ _ _ q2 hv q1
      · cases h1
    · rename_i ea
      cases (show a = 3 from ea)
      obtain ⟨rfl, hr⟩ := mv_rets3 hk
      rcases mv_cnd h1 with ⟨hi, h1⟩ | ⟨-, h1⟩
      · refine ⟨g, (1, v), h, nc, ns, hg, (by show (1 : Nat) < 5; omega), h1, mv_ret0 (by show (1 : Nat) < 2; omega) fun p e R s m args below meth c H locs ls hf hq hl => ?_⟩
        have hq : ∀ t : State, t.heap = H → s.WarmedH t.vm → mv_Qc D cs r ba b (1, v) h args s (.returned (some (mv_val r ba b v))) t := hq
        show W p l e R s m args below meth c H locs nc ns _ (F0 m pc ls [mv_val r ba b v])
        rw [mv_val_J hi] at hq ⊢
        exact W.lret hf.1 hf.2.1 (hf.2.2.2.2.2.1.trans hr) hq hl hd hf.2.2.2.2.2.2.1
      · cases h1
    · rename_i ea
      cases (show a = 4 from ea)
      obtain ⟨rfl, hr⟩ := mv_rets4 hk
      rcases mv_cnd h1 with ⟨hi, h1⟩ | ⟨-, h1⟩
      · refine ⟨g, (1, v), h, nc, ns, hg, (by show (1 : Nat) < 5; omega), h1, mv_ret0 (by show (1 : Nat) < 2; omega) fun p e R s m args below meth c H locs ls hf hq hl => ?_⟩
        have hq : ∀ t : State, t.heap = H → s.WarmedH t.vm → mv_Qc D cs r ba b (1, v) h args s (.returned (some (mv_val r ba b v))) t := hq
        show W p l e R s m args below meth c H locs nc ns _ (F0 m pc ls [mv_val r ba b v])
        rw [mv_val_D hi] at hq ⊢
        exact W.dret hf.1 hf.2.1 (hf.2.2.2.2.2.1.trans hr) hq hl hd hf.2.2.2.2.2.2.1
      · cases h1
    · rename_i ea
      cases (show a = 5 from ea)
      obtain ⟨rfl, rt, hr, hrt⟩ := mv_rets5 hk
      rcases mv_cnd h1 with ⟨hi, h1⟩ | ⟨-, h1⟩
      · refine ⟨g, (1, v), h, nc, ns, hg, (by show (1 : Nat) < 5; omega), h1, mv_ret0 (by show (1 : Nat) < 2; omega) fun p e R s m args below meth c H locs ls hf hq hl => ?_⟩
        have hq : ∀ t : State, t.heap = H → s.WarmedH t.vm → mv_Qc D cs r ba b (1, v) h args s (.returned (some (mv_val r ba b v))) t := hq
        show W p l e R s m args below meth c H locs nc ns _ (F0 m pc ls [mv_val r ba b v])
        rw [mv_val_R hi] at hq ⊢
        exact W.aret hf.1 hf.2.1 (hf.2.2.2.2.2.1.trans hr) hrt (Or.inr ⟨_, rfl⟩) hq hl hd hf.2.2.2.2.2.2.1
      · cases h1
    · cases h1
  · cases h1
