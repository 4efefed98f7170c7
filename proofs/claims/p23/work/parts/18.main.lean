/-! ===== calls of each kind; the interpreter's word ===== -/
theorem mv_rc_ok {h : List mv_C} {ci : Nat} {as : List mv_V} (h1 : mv_rc h ci as = true) : ∃ (k : Nat) (as2 : List mv_V) (cl : List mv_V), as = (2, k) :: as2 ∧ h[k]? = some (ci + 4, cl) := by
  unfold mv_rc at h1
  split at h1
  · rename_i v as2
    obtain ⟨h2, h3⟩ := mv_a2 h1
    split at h3
    · rename_i c hc
      obtain ⟨v1, v2⟩ := v
      obtain ⟨c1, cl⟩ := c
      cases mv_beq h2
      rw [mv_gt_eq] at hc
      have e1 : c1 = ci + 4 := mv_beq h3
      subst e1
      exact ⟨v2, as2, cl, rfl, hc⟩
    · cases h3
  · cases h1
theorem mv_vp_ok {cand : List Cond} {xn : Nat → Nat} {x : mv_I} (h : mv_vm cand xn x = true) (hk : x.2.2.2.2.2.1 ≠ 9) : plainName x.1.cls = true ∧ (x.1.cls ≠ "java/lang/invoke/MethodHandle" ∧ x.1.cls ≠ "java/lang/invoke/VarHandle") ∧ x.2.2.1 ≤ 80 ∧ (∀ sig, parseMethodDescriptor x.1.desc = some sig → x.2.2.2.2.1 = sig.parameters.length) ∧ Cond.initialized x.1.cls ∈ cand ∧ mv_vq cand x = true := by
  have h1 := (mv_a2 h).2
  rcases mv_cnd h1 with ⟨h2, -⟩ | ⟨-, h2⟩
  · exact absurd (mv_beq h2) hk
  · obtain ⟨h3, h4⟩ := mv_a2 h2
    unfold mv_vp at h3
    simp only [Bool.and_eq_true, decide_eq_true_eq] at h3
    obtain ⟨⟨⟨a1, a2⟩, a3, a4⟩, a5, a6⟩ := h3
    refine ⟨a1, ⟨a2, a3⟩, mv_ble a4, fun sig hs => ?_, a6, h4⟩
    rw [hs] at a5
    exact (Option.some.inj a5).symm
theorem mv_vq0 {cand : List Cond} {x : mv_I} (h : mv_vq cand x = true) (hk : x.2.2.2.2.2.1 = 0) : x.2.2.2.2.2.2.2 = [] ∧ Cond.instanceMethod x.1 ∈ cand ∧ Cond.selects x.1.cls x.1 x.1 ∈ cand ∧ ∃ q : vw_C, vwCl[x.2.2.2.2.2.2.1]? = some q ∧ q.1 = x.1.cls := by
  unfold mv_vq at h
  rw [hk] at h
  simp only [Bool.and_eq_true, decide_eq_true_eq] at h
  obtain ⟨a1, a3, a4, a5⟩ := h
  refine ⟨List.isEmpty_iff.mp a1, a3, a4, ?_⟩
  split at a5
  · rename_i q hq
    exact ⟨q, hq, of_decide_eq_true a5⟩
  · cases a5
theorem mv_vq1 {cand : List Cond} {x : mv_I} (h : mv_vq cand x = true) (hk : x.2.2.2.2.2.1 = 1) : x.2.2.2.2.2.2.2 = [] ∧ Cond.static x.1 ∈ cand := by
  unfold mv_vq at h
  rw [hk] at h
  simp only [Bool.and_eq_true, decide_eq_true_eq] at h
  obtain ⟨a1, a3⟩ := h
  exact ⟨List.isEmpty_iff.mp a1, a3⟩
theorem mv_vq2 {cand : List Cond} {x : mv_I} (h : mv_vq cand x = true) (hk : x.2.2.2.2.2.1 = 2) : x.2.2.2.2.2.2.2 = [] ∧ Cond.instanceMethod x.1 ∈ cand ∧ x.1.name = "<init>" ∧ x.2.2.2.1 = none := by
  unfold mv_vq at h
  rw [hk] at h
  simp only [Bool.and_eq_true, decide_eq_true_eq] at h
  obtain ⟨a1, a3, a4, a5⟩ := h
  exact ⟨List.isEmpty_iff.mp a1, a3, a4, a5⟩
theorem mv_vq3 {cand : List Cond} {x : mv_I} (h : mv_vq cand x = true) (hk : x.2.2.2.2.2.1 = 3) : Cond.static x.1 ∈ cand := by
  unfold mv_vq at h
  rw [hk] at h
  simp only [Bool.and_eq_true, decide_eq_true_eq] at h
  exact h
theorem mv_gc {w : Cond} (h : w ∈ mv_big) : GoodIn mv_big (w :: mv_big) := fun v hv => (List.mem_cons.mp hv).elim (fun e => by rw [e]; exact mv_big_good w h) (mv_big_good v)
theorem mv_hwc {x : mv_I} (h : mv_hw x ∈ mv_big) (hk : x.2.2.2.2.2.1 ≠ 3) : Cond.code x.1 x.2.1 x.2.2.1 x.2.2.2.1 ∈ mv_big := by
  unfold mv_hw at h
  rw [mv_nb hk] at h
  exact h
theorem mv_hww {x : mv_I} (h : mv_hw x ∈ mv_big) (hk : x.2.2.2.2.2.1 = 3) : Cond.codeWith x.1 x.2.1 x.2.2.1 x.2.2.2.1 x.2.2.2.2.2.2.2 ∈ mv_big := by
  unfold mv_hw at h
  rw [hk] at h
  exact h
/-- what a call has at its place -/
def mv_at (l : Launch) (D : va_G) (cs : ClassId × ClassId × ClassId) (r : Nat → Int32) (ba : mv_A) (b : Nat) (X y : mv_I) (pc : Nat) (loc : mv_L) (st : List mv_V) (h : List mv_C) (nc ns d : Nat) (as rest : List mv_V) : Prop :=
  ∀ (res : Nat × mv_V) (h2 : List mv_C) (c2 n2 : Nat), mv_run l D cs r ba b y d (mv_ag 0 as) [] h 0 0 0 res h2 c2 n2 →
    ∀ (p : Program) (en : Env) (R : Room) (s : State) (m : MethodId) (args : Array Value) (below : List Frame) (meth : Method) (c : Code), mv_fr X p s m args meth c → mv_en D cs r ba b s → d + 1 ≤ R.frames → 100 * (d + 1) ≤ R.locals → nc + c2 ≤ R.cells → ns + n2 ≤ R.slots →
      ∀ (H : Heap) (locs : List Loc) (ls : Array Slot), mv_hok D cs r ba b h H → va_S (fun q => ba.1 ≤ q) s.heap H locs → lv_has ls X.2.2.1 (loc.map (mv_lv r ba b)) →
        vx_Run p l en R s m args below meth c H locs nc ns c2 n2 (F0 m pc ls (st.map (mv_val r ba b))) (rest.map (mv_val r ba b)) (mv_Qc D cs r ba b res h2 (as.map (mv_val r ba b)).toArray) (mv_XC D cs r ba b res h2) (fun q => ba.1 ≤ q)
theorem mv_x4_ok {l : Launch} {D : va_G} {cs : ClassId × ClassId × ClassId} {r : Nat → Int32} {ba : mv_A} {b : Nat} {bk : Nat → Nat → Option (List mv_E)} {mi : Nat → mv_I} {xn : Nat → Nat} {cand : Nat → List Cond} {J : mv_J} (hJ : mv_good l D cs r ba b mi cand J) (htb : mv_tb bk mi xn cand) {k dep mid pc len a a2 k2 : Nat} {i : Instr} {t : List mv_E} {loc : mv_L} {st : List mv_V} {h : List mv_C} {nc ns : Nat} {g : mv_B} {K : mv_K}
    (h1 : mv_x4 bk mi xn J k dep mid (i, pc, len, k2, a, a2) t loc st h nc ns g K = true) (hlen : len = 3) (hv : mv_vL (cand mid) mi (mi mid) (pc + len) t = true) (hg : mv_in g r)
    (hat : ∀ (d : Nat) (as rest : List mv_V), as.length = (mi a).2.2.2.2.1 + (bif Nat.beq k 6 || Nat.beq k 9 then 0 else 1) → st = as.reverse ++ rest → mv_cs rest ≤ 8 → mv_cs as ≤ (mi a).2.2.1 → (Nat.beq k 6 || (Nat.beq k 9 || mv_rc h (mi a).2.2.2.2.2.2.1 as)) = true → mv_at l D cs r ba b (mi mid) (mi a) pc loc st h nc ns d as rest) :
    mv_ends l D cs r ba b (mi mid) dep loc st h nc ns pc K := by
  unfold mv_x4 at h1
  split at h1
  · cases h1
  · rename_i d
    split at h1
    · rename_i as rest htk
      rcases mv_cnd h1 with ⟨h2, h1⟩ | ⟨-, h1⟩
      · simp only [Bool.and_eq_true] at h2
        obtain ⟨⟨h2, h3⟩, h4⟩ := h2
        obtain ⟨u, u1, u2, u3⟩ := mv_tk_ok _ _ _ _ _ htk
        rw [List.append_nil] at u3
        have hA := hat d as rest (by rw [u3, List.length_reverse]; exact u1) (by rw [u3, List.reverse_reverse]; exact u2) (mv_ble h2) (mv_ble h3) h4
        obtain ⟨g2, res, hh2, c2, n2, q1, q2, q3, q4⟩ := hJ _ _ _ _ _ _ _ _ _ _ _ h1 rfl hg
        obtain ⟨m1, m2, m3, m4⟩ := q4
        have hc : h.length + c2 = hh2.length := m3
        obtain ⟨g3, res3, h3', c3, n3, y1, y2, y3, y4, y5, y6, y7⟩ := mv_x5_ok hJ htb q2 q1 hlen hv hc q3
        refine ⟨g3, res3, h3', c3, n3, y1, y2, y3, Nat.le_trans (Nat.le_add_right _ _) y4, Nat.le_trans (Nat.le_add_right _ _) y5, by omega, fun p en R s m args below meth c hf he r1 r2 r3 r4 H locs ls hH hS hl hn => ?_⟩
        exact y7 p en R s m args below meth c hf he r1 r2 r3 r4 H locs ls _ _ hH hS hl hn (hA res hh2 c2 n2 ⟨m1, m2, m3, m4⟩ p en R s m args below meth c hf he r1 r2 (Nat.le_trans y4 r3) (Nat.le_trans y5 r4) H locs ls hH hS hl)
      · cases h1
    · cases h1
section MVKI
variable {l : Launch} {D : va_G} {cs : ClassId × ClassId × ClassId} {r : Nat → Int32} {ba : mv_A} {b : Nat} {mi : Nat → mv_I} {xn : Nat → Nat} {X y : mv_I} {cX cy : List Cond} {pc idx d nc ns : Nat} {loc : mv_L} {st : List mv_V} {h : List mv_C} {as rest : List mv_V}
theorem mv_cB {R : Room} {s : State} {args : Array Value} {c2 n2 : Nat} (hts : ∀ w ∈ mv_big, w.before args s = true) (hcy : ∀ w ∈ cy, w ∈ mv_big) (hvm : mv_vm cy xn y = true) (hk : y.2.2.2.2.2.1 ≠ 9) (hcode : Cond.code y.1 y.2.1 y.2.2.1 y.2.2.2.1 ∈ mv_big) (hlink : (Cond.methodLink X.1.cls idx y.1).before args s = true) (r1 : d + 1 ≤ R.frames) (r2 : 100 * (d + 1) ≤ R.locals) :
    CallB R s args X.1.cls idx y.1 y.2.1 y.2.2.1 y.2.2.2.1 (Cond.code y.1 y.2.1 y.2.2.1 y.2.2.2.1 :: mv_big) (mv_rm d c2 n2) c2 n2 y.2.2.2.2.1 := by
  obtain ⟨a1, a2, a3, a4, a5, -⟩ := mv_vp_ok hvm hk
  refine ⟨rfl, rfl, r1, ?_, pay_in hts (mv_gc hcode), List.mem_cons_self, hts _ hcode, hts _ (hcy _ a5), a2, a4, hlink⟩
  show 8 + (y.2.2.1 + 11) + 100 * d ≤ R.locals
  omega
theorem mv_cN {R : Room} {s : State} {args : Array Value} {c2 n2 : Nat} {host : String} (hts : ∀ w ∈ mv_big, w.before args s = true) (hcy : ∀ w ∈ cy, w ∈ mv_big) (hvm : mv_vm cy xn y = true) (hk : y.2.2.2.2.2.1 ≠ 9) (hcode : Cond.code y.1 y.2.1 y.2.2.1 y.2.2.2.1 ∈ mv_big) (hlink : (Cond.methodLinkNest X.1.cls idx y.1 host).before args s = true) (r1 : d + 1 ≤ R.frames) (r2 : 100 * (d + 1) ≤ R.locals) :
    va_CN R s args X.1.cls idx y.1 host y.2.1 y.2.2.1 y.2.2.2.1 (Cond.code y.1 y.2.1 y.2.2.1 y.2.2.2.1 :: mv_big) (mv_rm d c2 n2) c2 n2 y.2.2.2.2.1 := by
  obtain ⟨a1, a2, a3, a4, a5, -⟩ := mv_vp_ok hvm hk
  refine ⟨⟨rfl, rfl, r1, ?_, pay_in hts (mv_gc hcode), List.mem_cons_self⟩, hts _ hcode, hts _ (hcy _ a5), a2, a4, hlink⟩
  show 8 + (y.2.2.1 + 11) + 100 * d ≤ R.locals
  omega
theorem mv_pS {s : State} {H : Heap} {locs : List Loc} (he : mv_en D cs r ba b s) (hH : mv_hok D cs r ba b h H) (hS : va_S (fun q => ba.1 ≤ q) s.heap H locs) : PreS s H (mv_Pc D cs r ba b as h) (as.map (mv_val r ba b)) :=
  ⟨mv_blind D cs r ba b as h, fun U hU hW => ⟨rfl, he.go hW hU hS, by rw [hU]; exact hH⟩⟩
theorem mv_pV {s : State} {H : Heap} {locs : List Loc} {k ci : Nat} {as2 cl : List mv_V} {q : vw_C} (he : mv_en D cs r ba b s) (hH : mv_hok D cs r ba b h H) (hS : va_S (fun q => ba.1 ≤ q) s.heap H locs) (has : as = (2, k) :: as2) (hk : h[k]? = some (ci + 4, cl)) (hq : vwCl[ci]? = some q) :
    PreV s H q.1 (mv_ad ba k) (mv_Pc D cs r ba b as h) (as2.map (mv_val r ba b)) := by
  refine ⟨mv_blind D cs r ba b as h, ?_, fun U hU hW => ⟨by rw [has]; rfl, he.go hW hU hS, by rw [hU]; exact hH⟩⟩
  obtain ⟨q2, e1, cell, e2, e3, e4, -⟩ := hH.2 k _ hk
  have hC := (he.1.1 ci q hq).2.1
  exact ⟨cell, e2, by rw [e4]; rfl, by rw [e3]; exact hC⟩
theorem mv_rs {as2 : List mv_V} {k : Nat} (has : as = (2, k) :: as2) (hst : st = as.reverse ++ rest) : st.map (mv_val r ba b) = (as2.map (mv_val r ba b)).reverse ++ .ref (mv_ad ba k) :: rest.map (mv_val r ba b) := by
  rw [hst, has, List.reverse_cons, List.append_assoc, List.map_append, ← List.map_reverse]
  rfl
theorem mv_k4 (hcX : ∀ w ∈ cX, w ∈ mv_big) (hcy : ∀ w ∈ cy, w ∈ mv_big) (hvm : mv_vm cy xn y = true) (hhw : y.2.2.2.2.2.1 ≠ 9 → mv_hw y ∈ mv_big) (hk : y.2.2.2.2.2.1 = 0) (hl : Cond.methodLink X.1.cls idx y.1 ∈ cX) (hd : decode X.2.1 pc = .ok (.invokevirtual idx, 3)) (hlen : as.length = y.2.2.2.2.1 + 1) (hst : st = as.reverse ++ rest) (hr : mv_cs rest ≤ 8) (hm : mv_cs as ≤ y.2.2.1) (hrc : mv_rc h y.2.2.2.2.2.2.1 as = true) :
    mv_at l D cs r ba b X y pc loc st h nc ns d as rest := by
  intro res h2 c2 n2 hR p en R s m args below meth c hf he r1 r2 r3 r4 H locs ls hH hS hl2
  have hk9 : y.2.2.2.2.2.1 ≠ 9 := by rw [hk]; omega
  obtain ⟨a1, a2, a3, a4, a5, a6⟩ := mv_vp_ok hvm hk9
  obtain ⟨b1, b3, b4, q, b5, b6⟩ := mv_vq0 a6 hk
  have b2 := mv_hwc (hhw hk9) (by rw [hk]; omega)
  obtain ⟨k, as2, cl, has, hcl⟩ := mv_rc_ok hrc
  have hts := hf.2.2.2.2.1
  have hp := mv_pV he hH hS has hcl b5
  rw [b6] at hp
  have h9 := vx_runV (l := l) (e := en) (R := R) (below := below) (meth := meth) (locs := locs) (cells := nc) (slots := ns) (g := F0 m pc ls (st.map (mv_val r ba b))) (rest := rest.map (mv_val r ba b)) (Ts := mv_big) ⟨hf.1, hf.2.1, hf.2.2.1, hf.2.2.2.1, hts⟩ (mv_metC hR hm a1 b1) ⟨mv_cB hts hcy hvm hk9 b2 (hts _ (hcX _ hl)) r1 r2, hts _ (hcy _ b3), hts _ (hcy _ b4)⟩ hp rfl (by rw [List.length_map]; rw [has] at hlen; exact Nat.succ.inj hlen) hl2.1 (mv_rs has hst) (by
    rw [mv_csum r ba b rest]
    show 2 * 0 + _ ≤ 8
    omega) hd ⟨r3, r4⟩
  rw [has]
  exact h9
theorem mv_k5 {host : String} (hcX : ∀ w ∈ cX, w ∈ mv_big) (hcy : ∀ w ∈ cy, w ∈ mv_big) (hvm : mv_vm cy xn y = true) (hhw : y.2.2.2.2.2.1 ≠ 9 → mv_hw y ∈ mv_big) (hk : y.2.2.2.2.2.1 = 0) (hl : Cond.methodLinkNest X.1.cls idx y.1 host ∈ mv_nst) (hd : decode X.2.1 pc = .ok (.invokevirtual idx, 3)) (hlen : as.length = y.2.2.2.2.1 + 1) (hst : st = as.reverse ++ rest) (hr : mv_cs rest ≤ 8) (hm : mv_cs as ≤ y.2.2.1) (hrc : mv_rc h y.2.2.2.2.2.2.1 as = true) :
    mv_at l D cs r ba b X y pc loc st h nc ns d as rest := by
  intro res h2 c2 n2 hR p en R s m args below meth c hf he r1 r2 r3 r4 H locs ls hH hS hl2
  have hk9 : y.2.2.2.2.2.1 ≠ 9 := by rw [hk]; omega
  obtain ⟨a1, a2, a3, a4, a5, a6⟩ := mv_vp_ok hvm hk9
  obtain ⟨b1, b3, b4, q, b5, b6⟩ := mv_vq0 a6 hk
  have b2 := mv_hwc (hhw hk9) (by rw [hk]; omega)
  obtain ⟨k, as2, cl, has, hcl⟩ := mv_rc_ok hrc
  have hts := hf.2.2.2.2.1
  have hp := mv_pV he hH hS has hcl b5
  rw [b6] at hp
  have h9 := vx_runVN (l := l) (e := en) (R := R) (below := below) (meth := meth) (locs := locs) (cells := nc) (slots := ns) (g := F0 m pc ls (st.map (mv_val r ba b))) (rest := rest.map (mv_val r ba b)) (Ts := mv_big) ⟨hf.1, hf.2.1, hf.2.2.1, hf.2.2.2.1, hts⟩ (mv_metC hR hm a1 b1) ⟨mv_cN hts hcy hvm hk9 b2 (va_Nw.use (mv_nw_t (mv_nw_k _ hl)) (he.2.2.2.2.1 _ hl)) r1 r2, hts _ (hcy _ b3), hts _ (hcy _ b4)⟩ hp rfl (by rw [List.length_map]; rw [has] at hlen; exact Nat.succ.inj hlen) hl2.1 (mv_rs has hst) (by
    rw [mv_csum r ba b rest]
    show 2 * 0 + _ ≤ 8
    omega) hd ⟨r3, r4⟩
  rw [has]
  exact h9
theorem mv_k6 (hcX : ∀ w ∈ cX, w ∈ mv_big) (hcy : ∀ w ∈ cy, w ∈ mv_big) (hvm : mv_vm cy xn y = true) (hhw : y.2.2.2.2.2.1 ≠ 9 → mv_hw y ∈ mv_big) (hk : y.2.2.2.2.2.1 = 1) (hl : Cond.methodLink X.1.cls idx y.1 ∈ cX) (hd : decode X.2.1 pc = .ok (.invokestatic idx, 3)) (hlen : as.length = y.2.2.2.2.1) (hst : st = as.reverse ++ rest) (hr : mv_cs rest ≤ 8) (hm : mv_cs as ≤ y.2.2.1) :
    mv_at l D cs r ba b X y pc loc st h nc ns d as rest := by
  intro res h2 c2 n2 hR p en R s m args below meth c hf he r1 r2 r3 r4 H locs ls hH hS hl2
  have hk9 : y.2.2.2.2.2.1 ≠ 9 := by rw [hk]; omega
  obtain ⟨a1, a2, a3, a4, a5, a6⟩ := mv_vp_ok hvm hk9
  obtain ⟨b1, b3⟩ := mv_vq1 a6 hk
  have b2 := mv_hwc (hhw hk9) (by rw [hk]; omega)
  have hts := hf.2.2.2.2.1
  exact vx_runS (l := l) (e := en) (R := R) (below := below) (meth := meth) (locs := locs) (cells := nc) (slots := ns) (g := F0 m pc ls (st.map (mv_val r ba b))) (rest := rest.map (mv_val r ba b)) (Ts := mv_big) ⟨hf.1, hf.2.1, hf.2.2.1, hf.2.2.2.1, hts⟩ (mv_metC hR hm a1 b1) ⟨mv_cB hts hcy hvm hk9 b2 (hts _ (hcX _ hl)) r1 r2, hts _ (hcy _ b3)⟩ (mv_pS he hH hS) rfl (by rw [List.length_map]; exact hlen) hl2.1 (by show st.map _ = _; rw [hst, List.map_append, ← List.map_reverse]) (by
    rw [mv_csum r ba b rest]
    show 2 * 0 + _ ≤ 8
    omega) hd ⟨r3, r4⟩
theorem mv_k9 (hcX : ∀ w ∈ cX, w ∈ mv_big) (hcy : ∀ w ∈ cy, w ∈ mv_big) (hvm : mv_vm cy xn y = true) (hhw : y.2.2.2.2.2.1 ≠ 9 → mv_hw y ∈ mv_big) (hk : y.2.2.2.2.2.1 = 3) (hl : Cond.methodLink X.1.cls idx y.1 ∈ cX) (hd : decode X.2.1 pc = .ok (.invokestatic idx, 3)) (hlen : as.length = y.2.2.2.2.1) (hst : st = as.reverse ++ rest) (hr : mv_cs rest ≤ 8) (hm : mv_cs as ≤ y.2.2.1) :
    mv_at l D cs r ba b X y pc loc st h nc ns d as rest := by
  intro res h2 c2 n2 hR p en R s m args below meth c hf he r1 r2 r3 r4 H locs ls hH hS hl2
  have hk9 : y.2.2.2.2.2.1 ≠ 9 := by rw [hk]; omega
  obtain ⟨a1, a2, a3, a4, a5, a6⟩ := mv_vp_ok hvm hk9
  have b3 := mv_vq3 a6 hk
  have b2 := mv_hww (hhw hk9) hk
  have hts := hf.2.2.2.2.1
  exact vx_runSX (l := l) (e := en) (R := R) (below := below) (meth := meth) (locs := locs) (cells := nc) (slots := ns) (g := F0 m pc ls (st.map (mv_val r ba b))) (rest := rest.map (mv_val r ba b)) (Ts := mv_big) (n := y.2.2.2.2.1) ⟨hf.1, hf.2.1, hf.2.2.1, hf.2.2.2.1, hts⟩ (mv_metW hR hm a1) ⟨⟨rfl, rfl, r1, by show 8 + (y.2.2.1 + 11) + 100 * d ≤ R.locals; omega, pay_in hts (mv_gc b2), List.mem_cons_self⟩, hts _ b2, hts _ (hcy _ a5), a2, a4, hts _ (hcX _ hl), hts _ (hcy _ b3)⟩ (mv_pS he hH hS) rfl (by rw [List.length_map]; exact hlen) hl2.1 (by show st.map _ = _; rw [hst, List.map_append, ← List.map_reverse]) (by
    rw [mv_csum r ba b rest]
    show 2 * 0 + _ ≤ 8
    omega) hd ⟨r3, r4⟩
theorem mv_k7 (hcX : ∀ w ∈ cX, w ∈ mv_big) (hcy : ∀ w ∈ cy, w ∈ mv_big) (hvm : mv_vm cy xn y = true) (hhw : y.2.2.2.2.2.1 ≠ 9 → mv_hw y ∈ mv_big) (hk : y.2.2.2.2.2.1 = 2) (hl : Cond.methodLink X.1.cls idx y.1 ∈ cX) (hd : decode X.2.1 pc = .ok (.invokespecial idx, 3)) (hlen : as.length = y.2.2.2.2.1 + 1) (hst : st = as.reverse ++ rest) (hr : mv_cs rest ≤ 8) (hm : mv_cs as ≤ y.2.2.1) (hrc : mv_rc h y.2.2.2.2.2.2.1 as = true) :
    mv_at l D cs r ba b X y pc loc st h nc ns d as rest := by
  intro res h2 c2 n2 hR p en R s m args below meth c hf he r1 r2 r3 r4 H locs ls hH hS hl2
  have hk9 : y.2.2.2.2.2.1 ≠ 9 := by rw [hk]; omega
  obtain ⟨a1, a2, a3, a4, a5, a6⟩ := mv_vp_ok hvm hk9
  obtain ⟨b1, b3, b4, b5⟩ := mv_vq2 a6 hk
  have b2 := mv_hwc (hhw hk9) (by rw [hk]; omega)
  obtain ⟨k, as2, cl, has, hcl⟩ := mv_rc_ok hrc
  have hts := hf.2.2.2.2.1
  have hp := mv_pS (as := as) he hH hS
  have hB := mv_cB (X := X) (idx := idx) (c2 := c2) (n2 := n2) hts hcy hvm hk9 b2 (hts _ (hcX _ hl)) r1 r2
  have hM := mv_metC hR hm a1 b1
  rw [b5] at hB hM
  rw [has] at hp hM
  have h9 := vx_runI (l := l) (e := en) (R := R) (below := below) (meth := meth) (locs := locs) (cells := nc) (slots := ns) (b := mv_ad ba k) (As := as2.map (mv_val r ba b)) (g := F0 m pc ls (st.map (mv_val r ba b))) (rest := rest.map (mv_val r ba b)) (Ts := mv_big) ⟨hf.1, hf.2.1, hf.2.2.1, hf.2.2.2.1, hts⟩ hM ⟨hB, b4, hts _ (hcy _ b3)⟩ hp rfl (by rw [List.length_map]; rw [has] at hlen; exact Nat.succ.inj hlen) hl2.1 (mv_rs has hst) (by
    rw [mv_csum r ba b rest]
    show 2 * 0 + _ ≤ 8
    omega) hd ⟨r3, r4⟩
  rw [has]
  exact h9
theorem mv_k8 {host : String} (hcX : ∀ w ∈ cX, w ∈ mv_big) (hcy : ∀ w ∈ cy, w ∈ mv_big) (hvm : mv_vm cy xn y = true) (hhw : y.2.2.2.2.2.1 ≠ 9 → mv_hw y ∈ mv_big) (hk : y.2.2.2.2.2.1 = 2) (hl : Cond.methodLinkNest X.1.cls idx y.1 host ∈ mv_nst) (hd : decode X.2.1 pc = .ok (.invokespecial idx, 3)) (hlen : as.length = y.2.2.2.2.1 + 1) (hst : st = as.reverse ++ rest) (hr : mv_cs rest ≤ 8) (hm : mv_cs as ≤ y.2.2.1) (hrc : mv_rc h y.2.2.2.2.2.2.1 as = true) :
    mv_at l D cs r ba b X y pc loc st h nc ns d as rest := by
  intro res h2 c2 n2 hR p en R s m args below meth c hf he r1 r2 r3 r4 H locs ls hH hS hl2
  have hk9 : y.2.2.2.2.2.1 ≠ 9 := by rw [hk]; omega
  obtain ⟨a1, a2, a3, a4, a5, a6⟩ := mv_vp_ok hvm hk9
  obtain ⟨b1, b3, b4, b5⟩ := mv_vq2 a6 hk
  have b2 := mv_hwc (hhw hk9) (by rw [hk]; omega)
  obtain ⟨k, as2, cl, has, hcl⟩ := mv_rc_ok hrc
  have hts := hf.2.2.2.2.1
  have hp := mv_pS (as := as) he hH hS
  have hB := mv_cN (X := X) (idx := idx) (c2 := c2) (n2 := n2) (host := host) hts hcy hvm hk9 b2 (va_Nw.use (mv_nw_t (mv_nw_k _ hl)) (he.2.2.2.2.1 _ hl)) r1 r2
  have hM := mv_metC hR hm a1 b1
  rw [b5] at hB hM
  rw [has] at hp hM
  have h9 := vx_runIN (l := l) (e := en) (R := R) (below := below) (meth := meth) (locs := locs) (cells := nc) (slots := ns) (b := mv_ad ba k) (As := as2.map (mv_val r ba b)) (g := F0 m pc ls (st.map (mv_val r ba b))) (rest := rest.map (mv_val r ba b)) (Ts := mv_big) ⟨hf.1, hf.2.1, hf.2.2.1, hf.2.2.2.1, hts⟩ hM ⟨hB, b4, hts _ (hcy _ b3)⟩ hp rfl (by rw [List.length_map]; rw [has] at hlen; exact Nat.succ.inj hlen) hl2.1 (mv_rs has hst) (by
    rw [mv_csum r ba b rest]
    show 2 * 0 + _ ≤ 8
    omega) hd ⟨r3, r4⟩
  rw [has]
  exact h9
end MVKI
