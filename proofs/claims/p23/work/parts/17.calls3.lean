/-! ===== behind a call; a handler ===== -/
section MVAF
variable {p : Program} {l : Launch} {e : Env} {R : Room} {s : State} {m : MethodId} {args : Array Value} {below : List Frame} {meth : Method} {c : Code} {H : Heap} {locs : List Loc} {nc ns : Nat} {Q : State → Prop}
variable {D : va_G} {cs : ClassId × ClassId × ClassId} {r : Nat → Int32} {ba : mv_A} {b : Nat}
theorem mv_after {res : Nat × mv_V} {h h2 : List mv_C} {c2 n2 pc : Nat} {ls : Array Slot} {av : Array Value} {stv restv : List Value} (hr : vx_Run p l e R s m args below meth c H locs nc ns c2 n2 (F0 m pc ls stv) restv (mv_Qc D cs r ba b res h2 av) (mv_XC D cs r ba b res h2) (fun q => ba.1 ≤ q))
    (hH : mv_hok D cs r ba b h H) (hS : va_S (fun q => ba.1 ≤ q) s.heap H locs) (hn : s.heap.size + nc = H.size) (hc : h.length + c2 = h2.length)
    (kk : res.1 < 2 → ∀ (H1 : Heap) (locs1 : List Loc), mv_hok D cs r ba b h2 H1 → va_S (fun q => ba.1 ≤ q) s.heap H1 locs1 → s.heap.size + (nc + c2) = H1.size → W p l e R s m args below meth c H1 locs1 (nc + c2) (ns + n2) Q (F0 m (pc + 3) ls ((mv_rv r ba b res).toList ++ restv)))
    (kx : 2 ≤ res.1 → ∀ (H1 : Heap) (locs1 : List Loc) (q9 : Addr) (ce : Cell), mv_hok D cs r ba b h2 H1 → va_S (fun q => ba.1 ≤ q) s.heap H1 locs1 → s.heap.size + (nc + c2) = H1.size → H1[q9]? = some ce → ce.vm = .none → s.vm.findClass (mv_ex (res.1 - 2)) = some ce.cls → vx_W p l e R s m args below meth c H1 locs1 (nc + c2) (ns + n2) Q (F0 m pc ls restv) q9) :
    W p l e R s m args below meth c H locs nc ns Q (F0 m pc ls stv) := by
  intro T hT X
  rcases hr T hT X with ⟨v, st₀, t, T', L, h0, X', hL, e1, e2, ⟨q1, q2, q3, q4⟩, st⟩ | ⟨q, st₀, t, T', L, E, ce, h0, X', hL, e1, e2, ⟨x1, x2, x3, x4, x5⟩, hce, hcv, hcl, st⟩
  · obtain ⟨k1, k2, k3⟩ := vx_keep h0 e1 hS (fun _ _ z => z) (fun _ z => z) hL q4
    have hv : v = mv_rv r ba b res := Outcome.returned.inj q2
    have hk : mv_hok D cs r ba b h2 T'.heap := by rw [e1]; exact q3
    obtain ⟨t2, a1, b1⟩ := kk q1 T'.heap (locs ++ L) hk k3 (by rw [hk.1.1, ← hc, mv_ad_s c2 hH.1.2]; have := hH.1.1; omega) T' rfl X'
    rw [← hv] at a1
    exact ⟨t2, st t2 a1, b1⟩
  · obtain ⟨k1, k2, k3⟩ := vx_keep h0 e1 hS (fun _ _ z => z) (fun _ z => z) hL x5
    have hz9 : mv_ad ba h2.length = mv_ad ba h.length + c2 := by rw [← hc]; exact mv_ad_s c2 hH.1.2
    have hz : T'.heap.size = mv_ad ba h2.length := by
      have y1 : T'.heap.size ≤ s.heap.size + (nc + c2) := X'.heapSize
      rw [← e1] at x3
      have := hH.1.1
      omega
    have hk : mv_hok D cs r ba b h2 T'.heap := ⟨⟨hz, by rw [← hc]; exact Nat.le_trans hH.1.2 (Nat.le_add_right _ _)⟩, fun k c9 hk9 => by rw [e1]; exact x4 k c9 hk9⟩
    obtain ⟨t2, a1, b1⟩ := kx x1 T'.heap (locs ++ L) q ce hk k3 (by rw [hz, hz9]; have := hH.1.1; omega) (by rw [e1]; exact hce) hcv (by rw [← x2]; exact hcl) T' rfl X'
    exact ⟨t2, st.trans a1, b1⟩
end MVAF
theorem mv_vL_cons {cand : List Cond} {mi : Nat → mv_I} {x : mv_I} {pc : Nat} {e : mv_E} {t : List mv_E} (h : mv_vL cand mi x pc (e :: t) = true) : e.2.1 = pc ∧ mv_vo cand mi x e.1 e.2.1 e.2.2.1 e.2.2.2.1 e.2.2.2.2.1 e.2.2.2.2.2 = true ∧ mv_vL cand mi x (e.2.1 + e.2.2.1) t = true := by
  obtain ⟨h1, h2⟩ := mv_a2 (show (Nat.beq e.2.1 pc && (mv_vo cand mi x e.1 e.2.1 e.2.2.1 e.2.2.2.1 e.2.2.2.2.1 e.2.2.2.2.2 && mv_vL cand mi x (e.2.1 + e.2.2.1) t)) = true from h)
  obtain ⟨h2, h3⟩ := mv_a2 h2
  exact ⟨mv_beq h1, h2, h3⟩
theorem mv_vh_ok {cand : List Cond} {xn : Nat → Nat} {x : mv_I} (h : mv_vm cand xn x = true) : ∀ q ∈ x.2.2.2.2.2.2.2, q.2.2.2 ≠ 0 ∧ xn q.2.2.2 < 3 ∧ Cond.classLink x.1.cls q.2.2.2 (mv_ex (xn q.2.2.2)) ∈ cand := by
  intro q hq
  have h1 := List.all_eq_true.mp (mv_a2 h).1 q hq
  simp only [Bool.and_eq_true, decide_eq_true_eq] at h1
  refine ⟨?_, mv_blt h1.2.1, h1.2.2⟩
  have h2 := h1.1
  cases hb : Nat.beq q.2.2.2 0
  · exact mv_nbeq hb
  · rw [hb] at h2; cases h2
/-- what an exception's way on is -/
def mv_onx (l : Launch) (D : va_G) (cs : ClassId × ClassId × ClassId) (r : Nat → Int32) (ba : mv_A) (b : Nat) (X : mv_I) (dep pc x : Nat) (loc : mv_L) (h2 : List mv_C) (nc2 ns2 : Nat) (res3 : Nat × mv_V) (h3 : List mv_C) (c3 n3 : Nat) : Prop :=
  ∀ (p : Program) (e : Env) (R : Room) (s : State) (m : MethodId) (args : Array Value) (below : List Frame) (meth : Method) (c : Code), mv_fr X p s m args meth c → mv_en D cs r ba b s → dep ≤ R.frames → 100 * dep ≤ R.locals → c3 ≤ R.cells → n3 ≤ R.slots →
    ∀ (H1 : Heap) (locs1 : List Loc) (ls : Array Slot) (q9 : Addr) (ce : Cell) (restv : List Value), mv_hok D cs r ba b h2 H1 → va_S (fun q => ba.1 ≤ q) s.heap H1 locs1 → lv_has ls X.2.2.1 (loc.map (mv_lv r ba b)) → s.heap.size + nc2 = H1.size → H1[q9]? = some ce → ce.vm = .none → s.vm.findClass (mv_ex x) = some ce.cls →
      vx_W p l e R s m args below meth c H1 locs1 nc2 ns2 (vx_MQ below (mv_Qc D cs r ba b res3 h3) (mv_XC D cs r ba b res3 h3) args s c3 n3 (fun q => ba.1 ≤ q)) (F0 m pc ls restv) q9
theorem mv_tab (hh : List (Nat × Nat × Nat × Nat)) {y : ExceptionTableEntry} (h : y ∈ tableOf hh) : ∃ q ∈ hh, y = ⟨q.1, q.2.1, q.2.2.1, q.2.2.2⟩ := by
  obtain ⟨q, h1, h2⟩ := List.mem_map.mp h
  exact ⟨q, h1, h2.symm⟩
theorem mv_pas {D : va_G} {cs : ClassId × ClassId × ClassId} {r : Nat → Int32} {ba : mv_A} {b : Nat} {cand : List Cond} {xn : Nat → Nat} {X : mv_I} {pc x : Nat} {p : Program} {s : State} {m : MethodId} {args : Array Value} {meth : Method} {c : Code} (hc : ∀ w ∈ cand, w ∈ mv_big) (hx : x < 3) (hvm : mv_vm cand xn X = true) (hf : mv_fr X p s m args meth c) (he : mv_en D cs r ba b s) {q : Nat × Nat × Nat × Nat} (hq : q ∈ X.2.2.2.2.2.2.2) (h : (Nat.ble q.1 pc && Nat.blt pc q.2.1) = false ∨ xn q.2.2.2 ≠ x) :
    covers ⟨q.1, q.2.1, q.2.2.1, q.2.2.2⟩ pc = false ∨ ((⟨q.1, q.2.1, q.2.2.1, q.2.2.2⟩ : ExceptionTableEntry).catchType ≠ 0 ∧ ∃ nm : String, (Cond.classLink X.1.cls (⟨q.1, q.2.1, q.2.2.1, q.2.2.2⟩ : ExceptionTableEntry).catchType nm).before args s = true ∧ va_Nc (mv_ex x) nm s) := by
  rcases h with h | h
  · exact Or.inl (mv_cov h)
  · obtain ⟨h1, h2, h3⟩ := mv_vh_ok hvm q hq
    exact Or.inr ⟨h1, _, hf.2.2.2.2.1 _ (hc _ h3), he.2.2.2.2.2.2.1 _ (mv_ncs_ok hx h2 h)⟩
theorem mv_x6_ok {l : Launch} {D : va_G} {cs : ClassId × ClassId × ClassId} {r : Nat → Int32} {ba : mv_A} {b : Nat} {bk : Nat → Nat → Option (List mv_E)} {mi : Nat → mv_I} {xn : Nat → Nat} {cand : Nat → List Cond} {J : mv_J} (hJ : mv_good l D cs r ba b mi cand J) (htb : mv_tb bk mi xn cand) {x dep mid : Nat} {e : mv_E} {loc : mv_L} {K : mv_K} {g2 : mv_B} {h2 : List mv_C} {nc2 ns2 : Nat} (hx : x < 3) (hg : mv_in g2 r)
    (h1 : mv_x6 bk mi xn J x dep mid e loc K g2 h2 nc2 ns2 = true) :
    ∃ (g3 : mv_B) (res3 : Nat × mv_V) (h3 : List mv_C) (c3 n3 : Nat), mv_in g3 r ∧ res3.1 < 5 ∧ K g3 res3 h3 c3 n3 = true ∧ nc2 ≤ c3 ∧ ns2 ≤ n3 ∧ h2.length + c3 = h3.length + nc2 ∧ mv_onx l D cs r ba b (mi mid) dep e.2.1 x loc h2 nc2 ns2 res3 h3 c3 n3 := by
  obtain ⟨t1, t2, t3, -⟩ := htb mid
  unfold mv_x6 at h1
  split at h1
  · rename_i hno
    refine ⟨g2, (x + 2, (0, 0)), h2, nc2, ns2, hg, (by show x + 2 < 5; omega), h1, Nat.le_refl _, Nat.le_refl _, rfl, fun p en R s m args below meth c hf he _ _ _ _ H1 locs1 ls q9 ce restv hH hS hl hn q1 q2 q3 => ?_⟩
    refine vx_outP hf.2.2.2.1 hf.2.2.2.2.2.2.1 (fun z hz => ?_) q1 q2 q3 (fun t ht _ => ?_) hS.2.2 (Nat.le_refl _) (Nat.le_refl _)
    · rw [hf.2.2.2.2.2.2.2.2] at hz
      obtain ⟨q, hq, rfl⟩ := mv_tab _ hz
      exact mv_pas t1 hx t2 hf he hq (mv_hd_none hno q hq)
    · exact ⟨Nat.le_add_left _ _, rfl, by rw [ht, hH.1.1]; exact Nat.le_refl _, fun k c9 hk => by rw [ht]; exact hH.2 k c9 hk, by rw [ht]; exact hS.1, fun q z1 z2 => by rw [ht]; exact hS.2.1 q z1 z2⟩
  · rename_i hp hso
    split at h1
    · rename_i e2 t9 hbk
      rcases mv_cnd h1 with ⟨h20, h1⟩ | ⟨-, h1⟩
      · rw [mv_fi_eq] at h1
        obtain ⟨v1, v2, v3⟩ := mv_vL_cons (t3 _ _ hbk)
        have h20 := mv_beq h20
        obtain ⟨i, pc2, len2, k2, a2, b2⟩ := e2
        have v1 : pc2 = hp := v1
        have h20 : k2 = 20 := h20
        subst v1
        subst h20
        obtain ⟨w1, w2⟩ := mv_a2 v2
        have hd : decode (mi mid).2.1 pc2 = .ok (i, len2) := of_decide_eq_true w1
        have w2 : mv_c20 (mi mid).2.2.1 len2 a2 i = true := w2
        obtain ⟨g3, res3, h3, c3, n3, y1, y2, y3, y4, y5, y6, y7⟩ := hJ _ _ _ _ _ _ _ _ _ _ _ h1 v3 hg
        refine ⟨g3, res3, h3, c3, n3, y1, y2, y3, y4, y5, y6, fun p en R s m args below meth c hf he hr1 hr2 hr3 hr4 H1 locs1 ls q9 ce restv hH hS hl hn q1 q2 q3 => ?_⟩
        obtain ⟨pre, q, suf, e1, e3, e4, e5, e6⟩ := mv_hd_some hso
        have hmem : ∀ z ∈ pre, z ∈ (mi mid).2.2.2.2.2.2.2 := fun z hz => by rw [e1]; exact List.mem_append_left _ hz
        obtain ⟨u1, u2, u3⟩ := mv_vh_ok t2 q (by rw [e1]; exact List.mem_append_right _ List.mem_cons_self)
        rw [e5] at u3
        refine vx_catch (E := mv_ex x) (name := mv_ex x) hf.2.2.2.1 (tableOf pre) ⟨q.1, q.2.1, q.2.2.1, q.2.2.2⟩ (tableOf suf) (by rw [hf.2.2.2.2.2.2.2.2, e1]; unfold tableOf; rw [List.map_append, List.map_cons]) (fun z hz => ?_) (mv_cov e4) u1 (hf.2.2.2.2.1 _ (t1 _ u3)) (va_Nw.use rfl (he.2.2.2.2.1 _ (mv_cst_ok hx))) q1 q2 q3 ?_
        · obtain ⟨z2, hz2, rfl⟩ := mv_tab _ hz
          exact mv_pas t1 hx t2 hf he (hmem _ hz2) (e3 _ hz2)
        · show W p l en R s m args below meth c H1 locs1 nc2 ns2 _ (F0 m q.2.2.1 ls [.ref q9])
          rw [e6]
          have kk : ∀ ls' : Array Slot, lv_has ls' (mi mid).2.2.1 ((a2, Value.ref q9) :: (loc.map (mv_lv r ba b)).filter (fun q => !(q.1 == a2) && !(q.1 + 1 == a2 && q.2.category == 2))) → W p l en R s m args below meth c H1 locs1 nc2 ns2 (vx_MQ below (mv_Qc D cs r ba b res3 h3) (mv_XC D cs r ba b res3 h3) args s c3 n3 (fun q => ba.1 ≤ q)) (F0 m (pc2 + len2) ls' []) := by
            intro ls' hl'
            refine y7 p en R s m args below meth c hf he hr1 hr2 hr3 hr4 H1 locs1 ls' hH hS ?_ hn
            rw [mv_flt1] at hl'
            exact ⟨hl'.1, hl'.2.1, fun z hz => hl'.2.2 z (List.mem_cons_of_mem _ hz)⟩
          unfold mv_c20 at w2
          split at w2
          · rename_i kq
            simp only [Bool.and_eq_true] at w2
            obtain ⟨z1, z2, z3⟩ := w2
            cases mv_beq z1
            cases mv_beq z2
            exact lv_astore hf.1 hf.2.1 hd hl (mv_blt z3) rfl kk
          · rename_i kq
            simp only [Bool.and_eq_true] at w2
            obtain ⟨z1, z2, z3⟩ := w2
            cases mv_beq z1
            exact lv_astore_n hf.1 hf.2.1 hd (mv_beq z2) hl (mv_blt z3) rfl kk
          · cases w2
      · cases h1
    · cases h1
/-- behind a call: the rest of the way -/
theorem mv_x5_ok {l : Launch} {D : va_G} {cs : ClassId × ClassId × ClassId} {r : Nat → Int32} {ba : mv_A} {b : Nat} {bk : Nat → Nat → Option (List mv_E)} {mi : Nat → mv_I} {xn : Nat → Nat} {cand : Nat → List Cond} {J : mv_J} (hJ : mv_good l D cs r ba b mi cand J) (htb : mv_tb bk mi xn cand) {dep mid : Nat} {e : mv_E} {t : List mv_E} {loc : mv_L} {rest : List mv_V} {nc ns : Nat} {K : mv_K} {g2 : mv_B} {res : Nat × mv_V} {h h2 : List mv_C} {c2 n2 : Nat} (hres : res.1 < 5) (hg : mv_in g2 r) (hlen : e.2.2.1 = 3) (hv : mv_vL (cand mid) mi (mi mid) (e.2.1 + e.2.2.1) t = true) (hc : h.length + c2 = h2.length)
    (h1 : mv_x5 bk mi xn J dep mid e t loc rest nc ns K g2 res h2 c2 n2 = true) :
    ∃ (g3 : mv_B) (res3 : Nat × mv_V) (h3 : List mv_C) (c3 n3 : Nat), mv_in g3 r ∧ res3.1 < 5 ∧ K g3 res3 h3 c3 n3 = true ∧ nc + c2 ≤ c3 ∧ ns + n2 ≤ n3 ∧ h2.length + c3 = h3.length + (nc + c2) ∧
      ∀ (p : Program) (en : Env) (R : Room) (s : State) (m : MethodId) (args : Array Value) (below : List Frame) (meth : Method) (c : Code), mv_fr (mi mid) p s m args meth c → mv_en D cs r ba b s → dep ≤ R.frames → 100 * dep ≤ R.locals → c3 ≤ R.cells → n3 ≤ R.slots →
        ∀ (H : Heap) (locs : List Loc) (ls : Array Slot) (av : Array Value) (stv : List Value), mv_hok D cs r ba b h H → va_S (fun q => ba.1 ≤ q) s.heap H locs → lv_has ls (mi mid).2.2.1 (loc.map (mv_lv r ba b)) → s.heap.size + nc = H.size →
          vx_Run p l en R s m args below meth c H locs nc ns c2 n2 (F0 m e.2.1 ls stv) (rest.map (mv_val r ba b)) (mv_Qc D cs r ba b res h2 av) (mv_XC D cs r ba b res h2) (fun q => ba.1 ≤ q) →
          W p l en R s m args below meth c H locs nc ns (vx_MQ below (mv_Qc D cs r ba b res3 h3) (mv_XC D cs r ba b res3 h3) args s c3 n3 (fun q => ba.1 ≤ q)) (F0 m e.2.1 ls stv) := by
  unfold mv_x5 at h1
  rw [mv_fo_eq, mv_fo_eq] at h1
  obtain ⟨rk, rv⟩ := res
  split at h1
  · rename_i hrk
    have hrk : rk = 0 := hrk
    subst hrk
    obtain ⟨g3, res3, h3, c3, n3, y1, y2, y3, y4, y5, y6, y7⟩ := hJ _ _ _ _ _ _ _ _ _ _ _ h1 hv hg
    refine ⟨g3, res3, h3, c3, n3, y1, y2, y3, y4, y5, y6, fun p en R s m args below meth c hf he hr1 hr2 hr3 hr4 H locs ls av stv hH hS hl hn hr => ?_⟩
    refine mv_after hr hH hS hn hc (fun _ H1 locs1 z1 z2 z3 => ?_) (fun z => absurd z (by show ¬ 2 ≤ 0; omega))
    rw [hlen] at y7
    exact y7 p en R s m args below meth c hf he hr1 hr2 hr3 hr4 H1 locs1 ls z1 z2 hl z3
  · rename_i hrk
    have hrk : rk = 1 := hrk
    subst hrk
    obtain ⟨g3, res3, h3, c3, n3, y1, y2, y3, y4, y5, y6, y7⟩ := hJ _ _ _ _ _ _ _ _ _ _ _ h1 hv hg
    refine ⟨g3, res3, h3, c3, n3, y1, y2, y3, y4, y5, y6, fun p en R s m args below meth c hf he hr1 hr2 hr3 hr4 H locs ls av stv hH hS hl hn hr => ?_⟩
    refine mv_after hr hH hS hn hc (fun _ H1 locs1 z1 z2 z3 => ?_) (fun z => absurd z (by show ¬ 2 ≤ 1; omega))
    rw [hlen] at y7
    exact y7 p en R s m args below meth c hf he hr1 hr2 hr3 hr4 H1 locs1 ls z1 z2 hl z3
  · rename_i x hrk
    have hrk : rk = x + 2 := hrk
    subst hrk
    have hres : x + 2 < 5 := hres
    obtain ⟨g3, res3, h3, c3, n3, y1, y2, y3, y4, y5, y6, y7⟩ := mv_x6_ok hJ htb (by omega) hg h1
    refine ⟨g3, res3, h3, c3, n3, y1, y2, y3, y4, y5, y6, fun p en R s m args below meth c hf he hr1 hr2 hr3 hr4 H locs ls av stv hH hS hl hn hr => ?_⟩
    refine mv_after hr hH hS hn hc (fun z => absurd z (by show ¬ x + 2 < 2; omega)) (fun _ H1 locs1 q9 ce z1 z2 z3 z4 z5 z6 => ?_)
    exact y7 p en R s m args below meth c hf he hr1 hr2 hr3 hr4 H1 locs1 ls q9 ce _ z1 z2 hl z3 z4 z5 z6
