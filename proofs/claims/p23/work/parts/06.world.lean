/-! ===== what the interpreter's things say of a heap; a step of it and a step of the machine ===== -/
theorem mv_ad_le (ba : mv_A) (k : Nat) : ba.1 ≤ mv_ad ba k := by unfold mv_ad; split <;> omega
theorem mv_ad_lt {ba : mv_A} {j k : Nat} (h : j < k) : mv_ad ba j < mv_ad ba k := by unfold mv_ad; split <;> split <;> omega
theorem mv_ad_ne {ba : mv_A} {j k : Nat} (h : ¬ j = k) : mv_ad ba j ≠ mv_ad ba k := by unfold mv_ad; split <;> split <;> omega
theorem mv_ad_s {ba : mv_A} {k : Nat} (n : Nat) (h : ba.2.1 ≤ k) : mv_ad ba (k + n) = mv_ad ba k + n := by unfold mv_ad; rw [if_neg (by omega), if_neg (by omega)]; omega
def mv_cok (D : va_G) (cs : ClassId × ClassId × ClassId) (r : Nat → Int32) (ba : mv_A) (b a : Nat) (c : mv_C) (H : Heap) : Prop := match c.1 with
  | 0 => H[a]? = some (arrV cs.1 c.2.length (fun j => .int (mv_ii r (c.2.getD j (0, 0)))))
  | 1 => H[a]? = some (arrV cs.2.1 c.2.length (fun j => .long (lN (c.2.getD j (3, 0)).2)))
  | 2 => H[a]? = some (arrV cs.2.2 c.2.length (fun j => .int (mv_ii r (c.2.getD j (0, 0)))))
  | 3 => True
  | n + 4 => ∃ q : vw_C, vwCl[n]? = some q ∧ t_OB a (D.1 n) q.2.2 (D.2 n) H (vp_V (c.2.map (mv_val r ba b)))
def mv_hok (D : va_G) (cs : ClassId × ClassId × ClassId) (r : Nat → Int32) (ba : mv_A) (b : Nat) (h : List mv_C) (H : Heap) : Prop :=
  (H.size = mv_ad ba h.length ∧ ba.2.1 ≤ h.length) ∧ ∀ (k : Nat) (c : mv_C), h[k]? = some c → mv_cok D cs r ba b (mv_ad ba k) c H
def mv_lv (r : Nat → Int32) (ba : mv_A) (b : Nat) (q : Nat × mv_V) : Nat × Value := (q.1, mv_val r ba b q.2)
def mv_tys (cs : ClassId × ClassId × ClassId) : List (ClassId × FieldType) := [(cs.1, .int), (cs.2.1, .long), (cs.2.2, .boolean)]
def mv_big : List Cond := lw_tbl.filter goodWord
theorem mv_big_good : GoodIn mv_big mv_big := fun w hw => ⟨hw, good_of_word (List.mem_filter.mp hw).2⟩
theorem mv_big_tbl {args : Array Value} {s : State} (h : ∀ w ∈ lw_tbl, w.before args s = true) : ∀ w ∈ mv_big, w.before args s = true := fun w hw => h w (List.mem_filter.mp hw).1
theorem mv_cok.kept {D : va_G} {cs : ClassId × ClassId × ClassId} {r : Nat → Int32} {ba : mv_A} {b a : Nat} {c : mv_C} {H H1 : Heap} (h : mv_cok D cs r ba b a c H) (e : H1[a]? = H[a]?) : mv_cok D cs r ba b a c H1 := by
  obtain ⟨t, l⟩ := c
  match t, h with
  | 0, h => exact e.trans h
  | 1, h => exact e.trans h
  | 2, h => exact e.trans h
  | 3, _ => trivial
  | n + 4, h =>
    obtain ⟨q, h1, h2⟩ := h
    exact ⟨q, h1, h2.kept e⟩
theorem mv_hok.set {D : va_G} {cs : ClassId × ClassId × ClassId} {r : Nat → Int32} {ba : mv_A} {b k : Nat} {h : List mv_C} {c : mv_C} {H H1 : Heap} (hH : mv_hok D cs r ba b h H) (z : H1.size = H.size) (o : ∀ q : Nat, q ≠ mv_ad ba k → H1[q]? = H[q]?) (hc : mv_cok D cs r ba b (mv_ad ba k) c H1) : mv_hok D cs r ba b (h.set k c) H1 := by
  refine ⟨by rw [z, List.length_set]; exact hH.1, fun j d hd => ?_⟩
  by_cases hj : j = k
  · subst hj
    have hl : j < h.length := by
      have := (List.getElem?_eq_some_iff.mp hd).1
      rwa [List.length_set] at this
    rw [List.getElem?_set_self hl] at hd
    cases hd
    exact hc
  · rw [List.getElem?_set_ne (Ne.symm hj)] at hd
    exact (hH.2 j d hd).kept (o _ (mv_ad_ne hj))
theorem mv_hok.push {D : va_G} {cs : ClassId × ClassId × ClassId} {r : Nat → Int32} {ba : mv_A} {b : Nat} {h : List mv_C} {c : mv_C} {H H1 : Heap} (hH : mv_hok D cs r ba b h H) (z : H1.size = H.size + 1) (o : ∀ q : Nat, q < H.size → H1[q]? = H[q]?) (hc : mv_cok D cs r ba b (mv_ad ba h.length) c H1) : mv_hok D cs r ba b (h ++ [c]) H1 := by
  refine ⟨⟨by rw [z, hH.1.1, List.length_append]; exact (mv_ad_s 1 hH.1.2).symm, by rw [List.length_append]; exact Nat.le_trans hH.1.2 (Nat.le_add_right _ _)⟩, fun j d hd => ?_⟩
  by_cases hl : j < h.length
  · rw [List.getElem?_append_left hl] at hd
    exact (hH.2 j d hd).kept (o _ (by rw [hH.1.1]; exact mv_ad_lt hl))
  · rw [List.getElem?_append_right (by omega)] at hd
    have hz : j - h.length < 1 := (List.getElem?_eq_some_iff.mp hd).1
    have hj : j = h.length := by omega
    subst hj
    rw [Nat.sub_self] at hd
    cases hd
    exact hc
theorem mv_nb {a b : Nat} (h : ¬ a = b) : Nat.beq a b = false := by
  cases hq : Nat.beq a b
  · rfl
  · exact absurd (mv_beq hq) h
theorem mv_bf {a b : Nat} (h : ¬ a = b) : (a == b) = false := by simpa using h
theorem mv_flt1 {r : Nat → Int32} {ba : mv_A} {b i : Nat} (loc : mv_L) : (loc.map (mv_lv r ba b)).filter (fun q => !(q.1 == i) && !(q.1 + 1 == i && q.2.category == 2)) = (loc.filter (mv_d1 i)).map (mv_lv r ba b) := by
  rw [List.filter_map]
  congr 1
  apply List.filter_congr
  intro q hq
  show (!(q.1 == i) && !(q.1 + 1 == i && (mv_val r ba b q.2).category == 2)) = mv_d1 i q
  rw [(mv_cat r ba b q.2).1]
  unfold mv_d1
  by_cases h1 : q.1 = i
  · rw [h1, Nat.beq_refl]; simp
  · have h2 : Nat.beq q.1 i = false := mv_nb h1
    rw [h2]
    by_cases h3 : q.1 + 1 = i
    · rw [h3, Nat.beq_refl]; simp [h1]
    · have h4 : Nat.beq (q.1 + 1) i = false := mv_nb h3
      rw [h4]; simp [h1, h3]
theorem mv_flt2 {r : Nat → Int32} {ba : mv_A} {b i : Nat} (loc : mv_L) : (loc.map (mv_lv r ba b)).filter (fun q => !(q.1 == i) && (!(q.1 == i + 1) && !(q.1 + 1 == i && q.2.category == 2))) = (loc.filter (mv_d2 i)).map (mv_lv r ba b) := by
  rw [List.filter_map]
  congr 1
  apply List.filter_congr
  intro q hq
  show (!(q.1 == i) && (!(q.1 == i + 1) && !(q.1 + 1 == i && (mv_val r ba b q.2).category == 2))) = mv_d2 i q
  rw [(mv_cat r ba b q.2).1]
  unfold mv_d2
  by_cases h1 : q.1 = i
  · rw [h1, Nat.beq_refl]; simp
  · have h2 : Nat.beq q.1 i = false := mv_nb h1
    rw [h2]
    by_cases h5 : q.1 = i + 1
    · rw [h5, Nat.beq_refl]; simp
    · have h6 : Nat.beq q.1 (i + 1) = false := mv_nb h5
      rw [h6]
      by_cases h3 : q.1 + 1 = i
      · rw [h3, Nat.beq_refl, mv_bf h1, mv_bf h5]; simp
      · have h4 : Nat.beq (q.1 + 1) i = false := mv_nb h3
        rw [h4]; simp [h1, h3, h5]
theorem mv_lk_mem {loc : mv_L} {i : Nat} {v : mv_V} (h : mv_lk loc i = some v) : ∃ k : Nat, loc[k]? = some (i, v) := by
  induction loc with
  | nil => cases h
  | cons q t ih =>
    have h : (bif Nat.beq q.1 i then some q.2 else mv_lk t i) = some v := h
    rcases mv_cnd h with ⟨h1, h⟩ | ⟨-, h⟩
    · refine ⟨0, ?_⟩
      cases h
      rw [← mv_beq h1]
      rfl
    · obtain ⟨k, hk⟩ := ih h
      exact ⟨k + 1, hk⟩
theorem mv_lk_at {r : Nat → Int32} {ba : mv_A} {b : Nat} {loc : mv_L} {i nL : Nat} {v : mv_V} {ls : Array Slot} (h : mv_lk loc i = some v) (hl : lv_has ls nL (loc.map (mv_lv r ba b))) : ∃ k : Nat, (loc.map (mv_lv r ba b))[k]? = some (i, mv_val r ba b v) := by
  obtain ⟨k, hk⟩ := mv_lk_mem h
  exact ⟨k, by rw [List.getElem?_map, hk]; rfl⟩
section MVS
variable {p : Program} {l : Launch} {e : Env} {R : Room} {s : State} {m : MethodId} {args : Array Value} {below : List Frame} {meth : Method} {c : Code} {Q : State → Prop}
variable {D : va_G} {cs : ClassId × ClassId × ClassId} {r : Nat → Int32} {ba : mv_A} {b nL : Nat} {g : mv_B} {loc : mv_L} {st : List mv_V} {h : List mv_C} {nc ns : Nat} {x : Option Nat × mv_L × List mv_V × List mv_C × Nat × Nat} {cc : ByteArray} {pc : Nat}
/-- the machine goes on to Q from every state that these things, locals, stack tell of -/
def mv_W (p : Program) (l : Launch) (e : Env) (R : Room) (s : State) (m : MethodId) (args : Array Value) (below : List Frame) (meth : Method) (c : Code) (Q : State → Prop) (D : va_G) (cs : ClassId × ClassId × ClassId) (r : Nat → Int32) (ba : mv_A) (b nL : Nat) (loc : mv_L) (st : List mv_V) (h : List mv_C) (nc ns pc : Nat) : Prop :=
  ∀ (H : Heap) (locs : List Loc) (ls : Array Slot), mv_hok D cs r ba b h H → va_S (fun q => ba.1 ≤ q) s.heap H locs → lv_has ls nL (loc.map (mv_lv r ba b)) → s.heap.size + nc = H.size → W p l e R s m args below meth c H locs nc ns Q (F0 m pc ls (st.map (mv_val r ba b)))
abbrev mv_Wx (p : Program) (l : Launch) (e : Env) (R : Room) (s : State) (m : MethodId) (args : Array Value) (below : List Frame) (meth : Method) (c : Code) (Q : State → Prop) (D : va_G) (cs : ClassId × ClassId × ClassId) (r : Nat → Int32) (ba : mv_A) (b nL : Nat) (x : Option Nat × mv_L × List mv_V × List mv_C × Nat × Nat) (pc : Nat) : Prop :=
  mv_W p l e R s m args below meth c Q D cs r ba b nL x.2.1 x.2.2.1 x.2.2.2.1 x.2.2.2.2.1 x.2.2.2.2.2 (x.1.getD pc)
theorem mv_go_ok {s2 : List mv_V} (h1 : mv_go loc h nc ns s2 = some (.inr x)) {pc2 : Nat} (kk : mv_Wx p l e R s m args below meth c Q D cs r ba b nL x pc2) : mv_W p l e R s m args below meth c Q D cs r ba b nL loc s2 h nc ns pc2 := by
  have e1 := mv_inr h1
  rw [← e1] at kk
  exact kk
theorem mv_bi_ok {f : Nat → Nat → Option Nat} {pc2 : Nat} (hg : mv_in g r) (h1 : mv_bi g loc st h nc ns f = some (.inr x))
    (row : ∀ (a d n : Nat) (s2 : List mv_V), f a d = some n → mv_W p l e R s m args below meth c Q D cs r ba b nL loc ((0, n) :: s2) h nc ns pc2 → ∀ (H : Heap) (locs : List Loc) (ls : Array Slot), mv_hok D cs r ba b h H → va_S (fun q => ba.1 ≤ q) s.heap H locs → lv_has ls nL (loc.map (mv_lv r ba b)) → s.heap.size + nc = H.size → W p l e R s m args below meth c H locs nc ns Q (F0 m pc ls (.int (nI d) :: .int (nI a) :: s2.map (mv_val r ba b))))
    (kk : mv_Wx p l e R s m args below meth c Q D cs r ba b nL x pc2) : mv_W p l e R s m args below meth c Q D cs r ba b nL loc st h nc ns pc := by
  unfold mv_bi at h1
  split at h1
  · rename_i y z s2
    split at h1
    · rename_i a ha
      split at h1
      · rename_i d hd
        split at h1
        · rename_i n hf
          rw [mv_fo_eq] at h1
          have k2 := mv_go_ok h1 kk
          obtain ⟨i1, i2⟩ := mv_cI_ok hg ha
          obtain ⟨j1, j2⟩ := mv_cI_ok hg hd
          intro H locs ls hH hS hl hn
          show W p l e R s m args below meth c H locs nc ns Q (F0 m pc ls (mv_val r ba b y :: mv_val r ba b z :: s2.map (mv_val r ba b)))
          rw [mv_val_I i1, mv_val_I j1, i2, j2]
          exact row a d n s2 hf k2 H locs ls hH hS hl hn
        · cases h1
      · cases h1
      · cases h1
    · cases h1
    · cases h1
  · cases h1
end MVS
