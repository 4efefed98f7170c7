/-! ===== an interpreter that knows some ends beforehand; things at a distance: what is known of the first things holds behind any number of others ===== -/
/-- method, place, locals, stack, things, cells, slots: the depth, the end, the things, the cells, the slots -/
abbrev mv_O : Type := Nat → Nat → mv_L → List mv_V → List mv_C → Nat → Nat → Option (Nat × (Nat × mv_V) × List mv_C × Nat × Nat)
noncomputable def mv_ho (nc : Nat) (o : Nat × (Nat × mv_V) × List mv_C × Nat × Nat) (g : mv_B) (K : mv_K) : Bool :=
  bif Nat.ble o.2.2.2.1 (nc + 4000) then mv_fl o.2.2.1 (fun h2 => K g o.2.1 h2 o.2.2.2.1 o.2.2.2.2) else K g o.2.1 o.2.2.1 o.2.2.2.1 o.2.2.2.2
noncomputable def mv_sz (O : mv_O) (bk : Nat → Nat → Option (List mv_E)) (mi : Nat → mv_I) (dv : Nat → List mv_V) (xn : Nat → Nat) (ih : mv_J) : mv_J := fun dep mid pc L loc st h nc ns g K => match L with
      | [] => match O mid pc loc st h nc ns with
        | some o => bif Nat.ble o.1 dep then mv_ho nc o g K else false
        | none => match bk mid pc with
          | some (e :: t) => ih dep mid pc (e :: t) loc st h nc ns g K
          | _ => false
      | e :: t => bif Nat.ble 40 e.2.2.2.1 then mv_x0 ih (mv_sf g loc st h nc ns dv (mi mid).2.2.1 e.1 e.2.1 e.2.2.2.2.1 e.2.2.2.2.2 e.2.2.2.1) dep mid pc e t loc st h nc ns g K
        else mv_x9 bk mi xn ih dep mid pc e t loc st h nc ns g K
noncomputable def mv_ez (O : mv_O) (bk : Nat → Nat → Option (List mv_E)) (mi : Nat → mv_I) (dv : Nat → List mv_V) (xn : Nat → Nat) (n : Nat) : mv_J :=
  Nat.rec (motive := fun _ => mv_J)
    (fun _ _ _ _ _ _ _ _ _ _ _ => false)
    (fun _ ih dep mid pc L loc st h nc ns g K => match L with
      | [] => match O mid pc loc st h nc ns with
        | some o => bif Nat.ble o.1 dep then mv_ho nc o g K else false
        | none => match bk mid pc with
          | some (e :: t) => ih dep mid pc (e :: t) loc st h nc ns g K
          | _ => false
      | e :: t => bif Nat.ble 40 e.2.2.2.1 then mv_x0 ih (mv_sf g loc st h nc ns dv (mi mid).2.2.1 e.1 e.2.1 e.2.2.2.2.1 e.2.2.2.2.2 e.2.2.2.1) dep mid pc e t loc st h nc ns g K
        else mv_x9 bk mi xn ih dep mid pc e t loc st h nc ns g K) n
theorem mv_ez_s (O : mv_O) (bk : Nat → Nat → Option (List mv_E)) (mi : Nat → mv_I) (dv : Nat → List mv_V) (xn : Nat → Nat) (n : Nat) : mv_ez O bk mi dv xn (n + 1) = mv_sz O bk mi dv xn (mv_ez O bk mi dv xn n) := rfl
theorem mv_ho_eq (nc : Nat) (o : Nat × (Nat × mv_V) × List mv_C × Nat × Nat) (g : mv_B) (K : mv_K) : mv_ho nc o g K = K g o.2.1 o.2.2.1 o.2.2.2.1 o.2.2.2.2 := by
  unfold mv_ho
  rw [mv_fl_eq]
  cases Nat.ble o.2.2.2.1 (nc + 4000) <;> rfl
section MVOR
variable {l : Launch} {D : va_G} {cs : ClassId × ClassId × ClassId} {r : Nat → Int32} {b : Nat} {mi : Nat → mv_I} {xn : Nat → Nat} {cand : Nat → List Cond} {J : mv_J} {bk : Nat → Nat → Option (List mv_E)}
def mv_Ok (l : Launch) (D : va_G) (cs : ClassId × ClassId × ClassId) (r : Nat → Int32) (ba : mv_A) (b : Nat) (mi : Nat → mv_I) (O : mv_O) : Prop :=
  ∀ (mid pc : Nat) (loc : mv_L) (st : List mv_V) (h : List mv_C) (nc ns : Nat) (o : Nat × (Nat × mv_V) × List mv_C × Nat × Nat), O mid pc loc st h nc ns = some o →
    o.2.1.1 < 5 ∧ mv_run l D cs r ba b (mi mid) o.1 loc st h nc ns pc o.2.1 o.2.2.1 o.2.2.2.1 o.2.2.2.2
theorem mv_run_dep {ba : mv_A} {X : mv_I} {d d2 : Nat} {loc : mv_L} {st : List mv_V} {h : List mv_C} {nc ns pc : Nat} {res : Nat × mv_V} {h2 : List mv_C} {c2 n2 : Nat} (hR : mv_run l D cs r ba b X d loc st h nc ns pc res h2 c2 n2) (hd : d ≤ d2) : mv_run l D cs r ba b X d2 loc st h nc ns pc res h2 c2 n2 := by
  obtain ⟨h1, h3, h4, h5⟩ := hR
  exact ⟨h1, h3, h4, fun p e R s m args below meth c hf he r1 r2 => h5 p e R s m args below meth c hf he (Nat.le_trans hd r1) (Nat.le_trans (Nat.mul_le_mul_left 100 hd) r2)⟩
theorem mv_sz_ok {ba : mv_A} {O : mv_O} (hst : l.stackTraces = false) (h8 : r 8 = r 0 &&& nI 31) (hO : mv_Ok l D cs r ba b mi O) (hJ : mv_good l D cs r ba b mi cand J) (htb : mv_tb bk mi xn cand) : mv_good l D cs r ba b mi cand (mv_sz O bk mi mv_dv xn J) := by
  intro dep mid pc L loc st h nc ns g K h1 hv hg
  have hu := mv_sp_ok hst h8 hJ htb dep mid pc L loc st h nc ns g K
  match L, hv, hu, h1 with
  | e :: t, hv, hu, h1 => exact hu h1 hv hg
  | [], hv, hu, h1 =>
    have h1 : (match O mid pc loc st h nc ns with
        | some o => bif Nat.ble o.1 dep then mv_ho nc o g K else false
        | none => match bk mid pc with
          | some (e :: t) => J dep mid pc (e :: t) loc st h nc ns g K
          | _ => false) = true := h1
    cases ho : O mid pc loc st h nc ns with
    | none =>
      rw [ho] at h1
      exact hu h1 hv hg
    | some o =>
      rw [ho] at h1
      obtain ⟨q1, q2⟩ := hO _ _ _ _ _ _ _ _ ho
      have h1 : (bif Nat.ble o.1 dep then mv_ho nc o g K else false) = true := h1
      rcases mv_cnd h1 with ⟨h2, h1⟩ | ⟨-, h1⟩
      · rw [mv_ho_eq] at h1
        exact ⟨g, o.2.1, o.2.2.1, o.2.2.2.1, o.2.2.2.2, hg, q1, h1, mv_run_dep q2 (mv_ble h2)⟩
      · cases h1
theorem mv_ez_ok {ba : mv_A} {O : mv_O} (hst : l.stackTraces = false) (h8 : r 8 = r 0 &&& nI 31) (hO : mv_Ok l D cs r ba b mi O) (htb : mv_tb bk mi xn cand) : ∀ n : Nat, mv_good l D cs r ba b mi cand (mv_ez O bk mi mv_dv xn n)
  | 0 => fun dep mid pc L loc st h nc ns g K h1 _ _ => by cases h1
  | n + 1 => by
    rw [mv_ez_s]
    exact mv_sz_ok hst h8 hO (mv_ez_ok hst h8 hO htb n) htb
end MVOR
/-! ===== values that tell of the first K things alone ===== -/
def mv_cV (K : Nat) (v : mv_V) : Bool := bif Nat.beq v.1 2 then Nat.blt v.2 K else true
def mv_cC (K : Nat) (c : mv_C) : Bool := c.2.all (mv_cV K)
theorem mv_val_cl {r : Nat → Int32} {ba ba2 : mv_A} {b K : Nat} {v : mv_V} (hv : mv_cV K v = true) (ha : ∀ k, k < K → mv_ad ba k = mv_ad ba2 k) : mv_val r ba b v = mv_val r ba2 b v := by
  obtain ⟨t, n⟩ := v
  match t, hv with
  | 0, _ => rfl
  | 1, _ => rfl
  | 2, hv =>
    show Value.ref (mv_ad ba n) = Value.ref (mv_ad ba2 n)
    rw [ha n (mv_blt (show Nat.blt n K = true from hv))]
  | 3, _ => rfl
  | 4, _ => rfl
  | 5, _ => rfl
  | 6, _ => rfl
  | t + 7, _ => rfl
theorem mv_cok_cl {D : va_G} {cs : ClassId × ClassId × ClassId} {r : Nat → Int32} {ba ba2 : mv_A} {b K a : Nat} {c : mv_C} {H : Heap} (hc : mv_cC K c = true) (ha : ∀ k, k < K → mv_ad ba k = mv_ad ba2 k) (h : mv_cok D cs r ba b a c H) : mv_cok D cs r ba2 b a c H := by
  obtain ⟨t, cl⟩ := c
  match t, h with
  | 0, h => exact h
  | 1, h => exact h
  | 2, h => exact h
  | 3, _ => trivial
  | n + 4, h =>
    obtain ⟨q, h1, h2⟩ := h
    refine ⟨q, h1, ?_⟩
    have e : cl.map (mv_val r ba b) = cl.map (mv_val r ba2 b) := List.map_congr_left (fun v hv => mv_val_cl (List.all_eq_true.mp hc v hv) ha)
    show t_OB a (D.1 n) q.2.2 (D.2 n) H (vp_V (cl.map (mv_val r ba2 b)))
    rw [← e]
    exact h2
/-- the same rows -/
noncomputable def mv_eqL (a : List mv_V) : List mv_V → Bool := List.rec (motive := fun _ => List mv_V → Bool) (fun b => match b with
  | [] => true
  | _ => false) (fun x _ ih b => match b with
  | y :: t => bif Nat.beq x.1 y.1 && Nat.beq x.2 y.2 then ih t else false
  | [] => false) a
theorem mv_eqL_ok : ∀ {a b : List mv_V}, mv_eqL a b = true → a = b
  | [], [], _ => rfl
  | [], y :: t, h => by cases h
  | x :: a, [], h => by cases h
  | x :: a, y :: t, h => by
    have h : (bif Nat.beq x.1 y.1 && Nat.beq x.2 y.2 then mv_eqL a t else false) = true := h
    rcases mv_cnd h with ⟨h1, h9⟩ | ⟨-, h9⟩
    · obtain ⟨h2, h3⟩ := mv_a2 h1
      obtain ⟨x1, x2⟩ := x
      obtain ⟨y1, y2⟩ := y
      have e1 : x1 = y1 := mv_beq h2
      have e2 : x2 = y2 := mv_beq h3
      rw [mv_eqL_ok h9, e1, e2]
    · cases h9
/-- the things F stand first (where F has 3, anything) -/
noncomputable def mv_pr (F : List mv_C) : List mv_C → Bool := List.rec (motive := fun _ => List mv_C → Bool) (fun _ => true) (fun c _ ih h => match h with
  | d :: t => bif Nat.beq c.1 3 then ih t else bif Nat.beq c.1 d.1 && mv_eqL c.2 d.2 then ih t else false
  | [] => false) F
theorem mv_pr_ok : ∀ {F h : List mv_C}, mv_pr F h = true → F.length ≤ h.length ∧ ∀ (k : Nat) (c : mv_C), F[k]? = some c → c.1 = 3 ∨ h[k]? = some c
  | [], h, _ => ⟨Nat.zero_le _, fun k c hk => by simp at hk⟩
  | c :: F, [], h1 => by cases h1
  | c :: F, d :: t, h1 => by
    have h1 : (bif Nat.beq c.1 3 then mv_pr F t else bif Nat.beq c.1 d.1 && mv_eqL c.2 d.2 then mv_pr F t else false) = true := h1
    have hh : (c.1 = 3 ∨ c = d) ∧ mv_pr F t = true := by
      rcases mv_cnd h1 with ⟨h2, h1⟩ | ⟨-, h1⟩
      · exact ⟨Or.inl (mv_beq h2), h1⟩
      · rcases mv_cnd h1 with ⟨h2, h1⟩ | ⟨-, h1⟩
        · obtain ⟨h3, h4⟩ := mv_a2 h2
          refine ⟨Or.inr ?_, h1⟩
          obtain ⟨c1, c2⟩ := c
          obtain ⟨d1, d2⟩ := d
          have e1 : c1 = d1 := mv_beq h3
          have e2 : c2 = d2 := mv_eqL_ok h4
          rw [e1, e2]
        · cases h1
    obtain ⟨i1, i2⟩ := mv_pr_ok hh.2
    refine ⟨Nat.succ_le_succ i1, fun k x hk => ?_⟩
    match k, hk with
    | 0, hk =>
      cases hk
      exact hh.1.imp id (fun e => by rw [e]; rfl)
    | k + 1, hk => exact i2 k x hk
theorem mv_nbr (n : Nat) : Nat.beq n n = true := Nat.beq_refl n
theorem mv_eqL_self : ∀ a : List mv_V, mv_eqL a a = true
  | [] => rfl
  | x :: a => by
    show (bif Nat.beq x.1 x.1 && Nat.beq x.2 x.2 then mv_eqL a a else false) = true
    rw [mv_nbr, mv_nbr, mv_eqL_self a]
    rfl
theorem mv_pr_self : ∀ F X : List mv_C, mv_pr F (F ++ X) = true
  | [], X => rfl
  | c :: F, X => by
    show (bif Nat.beq c.1 3 then mv_pr F (F ++ X) else bif Nat.beq c.1 c.1 && mv_eqL c.2 c.2 then mv_pr F (F ++ X) else false) = true
    rw [mv_nbr, mv_eqL_self, mv_pr_self F X]
    cases Nat.beq c.1 3 <;> rfl
/-- things that nobody looks at -/
def mv_no3 (n : Nat) : List mv_C := List.replicate n (3, [])
theorem mv_no3_len (n : Nat) : (mv_no3 n).length = n := List.length_replicate
theorem mv_hok_pr {D : va_G} {cs : ClassId × ClassId × ClassId} {r : Nat → Int32} {ba ba2 : mv_A} {b n2 : Nat} {F h : List mv_C} {H : Heap} (hp : mv_pr F h = true) (hc : F.all (mv_cC F.length) = true) (ha : ∀ k, k < F.length → mv_ad ba k = mv_ad ba2 k) (hn : mv_ad ba h.length = mv_ad ba2 (F.length + n2)) (hl : ba2.2.1 ≤ F.length + n2) (hH : mv_hok D cs r ba b h H) : mv_hok D cs r ba2 b (F ++ mv_no3 n2) H := by
  obtain ⟨i1, i2⟩ := mv_pr_ok hp
  refine ⟨⟨by rw [hH.1.1, hn, List.length_append, mv_no3_len], by rw [List.length_append, mv_no3_len]; exact hl⟩, fun k c hk => ?_⟩
  by_cases hlt : k < F.length
  · rw [List.getElem?_append_left hlt] at hk
    obtain ⟨t, cl⟩ := c
    rcases i2 k _ hk with h3 | h3
    · have h3 : t = 3 := h3
      subst h3
      trivial
    · rw [← ha k hlt]
      exact mv_cok_cl (List.all_eq_true.mp hc _ (List.mem_of_getElem? hk)) ha (hH.2 k _ h3)
  · rw [List.getElem?_append_right (by omega)] at hk
    have hm := List.mem_of_getElem? hk
    obtain ⟨-, rfl⟩ := List.mem_replicate.mp hm
    trivial
/-- a lookup of all that is asked of locals -/
noncomputable def mv_lm (a : mv_L) (loc : mv_L) : Bool := List.rec (motive := fun _ => Bool) true (fun q _ ih => match mv_lk loc q.1 with
  | some v => bif Nat.beq q.2.1 v.1 && Nat.beq q.2.2 v.2 then ih else false
  | none => false) a
theorem mv_lm_ok {loc : mv_L} : ∀ {a : mv_L}, mv_lm a loc = true → ∀ q ∈ a, q ∈ loc
  | [], _, q, hq => by cases hq
  | x :: a, h, q, hq => by
    have h : (match mv_lk loc x.1 with
      | some v => bif Nat.beq x.2.1 v.1 && Nat.beq x.2.2 v.2 then mv_lm a loc else false
      | none => false) = true := h
    cases hv : mv_lk loc x.1 with
    | none => rw [hv] at h; cases h
    | some v =>
      rw [hv] at h
      have h : (bif Nat.beq x.2.1 v.1 && Nat.beq x.2.2 v.2 then mv_lm a loc else false) = true := h
      rcases mv_cnd h with ⟨h1, h⟩ | ⟨-, h⟩
      · rcases List.mem_cons.mp hq with rfl | hq
        · obtain ⟨h2, h3⟩ := mv_a2 h1
          obtain ⟨i, v1, v2⟩ := q
          obtain ⟨w1, w2⟩ := v
          have e1 : v1 = w1 := mv_beq h2
          have e2 : v2 = w2 := mv_beq h3
          obtain ⟨k, hk⟩ := mv_lk_mem hv
          rw [e1, e2]
          exact List.mem_of_getElem? hk
        · exact mv_lm_ok h q hq
      · cases h
/-! ===== what is known: ends from a place, at any distance ===== -/
/-- method, place, locals, cells, slots; depth, end, the things before and behind, cells, slots -/
abbrev mv_OE : Type := (Nat × Nat × mv_L × Nat × Nat) × Nat × (Nat × mv_V) × (List mv_C × List mv_C) × Nat × Nat
def mv_OC (K : Nat) (e : mv_OE) : Prop := e.2.2.1.1 < 2 ∧ mv_cV K e.2.2.1.2 = true ∧ e.2.2.2.1.1.length = K ∧ e.2.2.2.1.2.length = K ∧ e.2.2.2.1.1.all (mv_cC K) = true ∧ e.2.2.2.1.2.all (mv_cC K) = true ∧ e.1.2.2.1.all (fun q => mv_cV K q.2) = true
def mv_OK (l : Launch) (D : va_G) (cs : ClassId × ClassId × ClassId) (r : Nat → Int32) (b0 b : Nat) (mi : Nat → mv_I) (K : Nat) (e : mv_OE) : Prop :=
  mv_OC K e ∧ ∀ g : Nat, mv_run l D cs r (b0, K, g) b (mi e.1.1) e.2.1 e.1.2.2.1 [] e.2.2.2.1.1 e.1.2.2.2.1 e.1.2.2.2.2 e.1.2.1 e.2.2.1 (e.2.2.2.1.2 ++ mv_no3 (e.2.2.2.2.1 - e.1.2.2.2.1)) e.2.2.2.2.1 e.2.2.2.2.2
noncomputable def mv_om (e : mv_OE) (mid pc : Nat) (loc : mv_L) (st : List mv_V) (h : List mv_C) (nc ns : Nat) : Bool :=
  Nat.beq e.1.1 mid && (Nat.beq e.1.2.1 pc && (Nat.beq e.1.2.2.2.1 nc && (Nat.beq e.1.2.2.2.2 ns && (st.isEmpty && (mv_lm e.1.2.2.1 loc && mv_pr e.2.2.2.1.1 h)))))
noncomputable def mv_of (K : Nat) (E : List mv_OE) : mv_O := fun mid pc loc st h nc ns => List.rec (motive := fun _ => Option (Nat × (Nat × mv_V) × List mv_C × Nat × Nat)) none (fun e _ ih =>
  bif mv_om e mid pc loc st h nc ns then some (e.2.1, e.2.2.1, e.2.2.2.1.2 ++ mv_no3 (h.length - K + (e.2.2.2.2.1 - e.1.2.2.2.1)), e.2.2.2.2.1, e.2.2.2.2.2) else ih) E
section MVGA
variable {l : Launch} {D : va_G} {cs : ClassId × ClassId × ClassId} {r : Nat → Int32} {b0 b K : Nat} {mi : Nat → mv_I} {e : mv_OE}
theorem mv_far {ba : mv_A} (h0 : ba.1 = b0) (hba : ba.2.1 = K ∨ (ba.2.2 = 0 ∧ ba.2.1 ≤ K)) (he : mv_OK l D cs r b0 b mi K e) {loc : mv_L} {h : List mv_C} (hl : ∀ q ∈ e.1.2.2.1, q ∈ loc) (hp : mv_pr e.2.2.2.1.1 h = true) :
    mv_run l D cs r ba b (mi e.1.1) e.2.1 loc [] h e.1.2.2.2.1 e.1.2.2.2.2 e.1.2.1 e.2.2.1 (e.2.2.2.1.2 ++ mv_no3 (h.length - K + (e.2.2.2.2.1 - e.1.2.2.2.1))) e.2.2.2.2.1 e.2.2.2.2.2 := by
  obtain ⟨⟨mid, pc, loc0, nc, ns⟩, dep, res, ⟨F, F2⟩, C, N⟩ := e
  obtain ⟨b1, K1, g1⟩ := ba
  obtain ⟨⟨c1, c2, c3, c4, c5, c6, c7⟩, hR⟩ := he
  have h0 : b1 = b0 := h0
  have hba : K1 = K ∨ (g1 = 0 ∧ K1 ≤ K) := hba
  have c3 : F.length = K := c3
  have c4 : F2.length = K := c4
  have hp : mv_pr F h = true := hp
  obtain ⟨j, hj⟩ : ∃ j, h.length = K + j := ⟨h.length - K, by have := (mv_pr_ok hp).1; omega⟩
  obtain ⟨r1, r2, r3, r4⟩ := hR (g1 + j)
  have r1 : nc ≤ C := r1
  subst h0
  have ha : ∀ k, k < K → mv_ad (b1, K1, g1) k = mv_ad (b1, K, g1 + j) k := fun k hk => by
    show (if k < K1 then b1 + k else b1 + g1 + k) = (if k < K then b1 + k else b1 + (g1 + j) + k)
    rw [if_pos hk]
    split
    · rfl
    · omega
  have ha2 : ∀ i, mv_ad (b1, K1, g1) (K + j + i) = mv_ad (b1, K, g1 + j) (K + i) := fun i => by
    show (if K + j + i < K1 then b1 + (K + j + i) else b1 + g1 + (K + j + i)) = (if K + i < K then b1 + (K + i) else b1 + (g1 + j) + (K + i))
    rw [if_neg (show ¬ K + i < K by omega)]
    split
    · omega
    · omega
  have hlv : ∀ q ∈ loc0, mv_lv r (b1, K1, g1) b q = mv_lv r (b1, K, g1 + j) b q := fun q hq => by
    have := mv_val_cl (r := r) (b := b) (List.all_eq_true.mp c7 q hq) ha
    unfold mv_lv
    rw [this]
  have hjj : h.length - K = j := by omega
  show mv_run l D cs r (b1, K1, g1) b (mi mid) dep loc [] h nc ns pc res (F2 ++ mv_no3 (h.length - K + (C - nc))) C N
  rw [hjj]
  refine ⟨r1, r2, by rw [hj, List.length_append, mv_no3_len, c4]; omega, fun p en R s m args below meth c hf he q1 q2 q3 q4 H locs ls hH hS hl2 hn => ?_⟩
  have hH2 : mv_hok D cs r (b1, K, g1 + j) b F H := by
    have h9 := mv_hok_pr (n2 := 0) (ba2 := (b1, K, g1 + j)) hp (by rw [c3]; exact c5) (by rw [c3]; exact ha) (by rw [hj, c3]; exact ha2 0) (by rw [c3]; exact Nat.le_refl _) hH
    have e0 : mv_no3 0 = [] := rfl
    rw [e0, List.append_nil] at h9
    exact h9
  have hl3 : lv_has ls (mi mid).2.2.1 (loc0.map (mv_lv r (b1, K, g1 + j) b)) := by
    refine ⟨hl2.1, hl2.2.1, fun z hz => ?_⟩
    obtain ⟨q, hq, rfl⟩ := List.mem_map.mp hz
    rw [← hlv q hq]
    exact hl2.2.2 _ (List.mem_map.mpr ⟨q, hl q hq, rfl⟩)
  have h5 := r4 p en R s m args below meth c hf he q1 q2 q3 q4 H locs ls hH2 hS hl3 hn
  intro T hT X
  obtain ⟨t, a1, o, a2, a3, a4⟩ := h5 T hT X
  refine ⟨t, a1, o, a2, a3, ?_⟩
  rcases a4 with ⟨⟨z1, z2, z3, z4⟩, hz⟩ | ⟨q, -, E9, ce, L9, ⟨x1, -⟩, -⟩
  · refine Or.inl ⟨⟨z1, ?_, ?_, z4⟩, hz⟩
    · rw [z2]
      unfold mv_rv
      rw [mv_val_cl (r := r) (b := b) c2 ha]
    · have h9 := mv_hok_pr (F := F2) (n2 := j + (C - nc)) (ba2 := (b1, K1, g1)) (h := F2 ++ mv_no3 (C - nc)) ?_ (by rw [c4]; exact c6) (by rw [c4]; exact fun k hk => (ha k hk).symm) (by
        rw [List.length_append, mv_no3_len, c4, ← Nat.add_assoc]
        exact (ha2 (C - nc)).symm) (by rw [c4]; show K1 ≤ _; omega) z3
      · exact h9
      · exact mv_pr_self F2 _
  · have x1 : 2 ≤ res.1 := x1
    have c1 : res.1 < 2 := c1
    omega
theorem mv_of_ok {ba : mv_A} (h0 : ba.1 = b0) (hba : ba.2.1 = K ∨ (ba.2.2 = 0 ∧ ba.2.1 ≤ K)) : ∀ {E : List mv_OE}, (∀ e ∈ E, mv_OK l D cs r b0 b mi K e) → mv_Ok l D cs r ba b mi (mv_of K E)
  | [], _, mid, pc, loc, st, h, nc, ns, o, ho => by cases ho
  | e :: E, hE, mid, pc, loc, st, h, nc, ns, o, ho => by
    have ho : (bif mv_om e mid pc loc st h nc ns then some (e.2.1, e.2.2.1, e.2.2.2.1.2 ++ mv_no3 (h.length - K + (e.2.2.2.2.1 - e.1.2.2.2.1)), e.2.2.2.2.1, e.2.2.2.2.2) else mv_of K E mid pc loc st h nc ns) = some o := ho
    rcases mv_cnd ho with ⟨h1, h9⟩ | ⟨-, h9⟩
    · clear ho
      have he := hE e List.mem_cons_self
      unfold mv_om at h1
      simp only [Bool.and_eq_true] at h1
      obtain ⟨a1, a2, a3, a4, a5, a6, a7⟩ := h1
      have e1 := mv_beq a1
      have e2 := mv_beq a2
      have e3 := mv_beq a3
      have e4 := mv_beq a4
      have e5 : st = [] := List.isEmpty_iff.mp a5
      subst e1 e2 e3 e4 e5
      cases h9
      refine ⟨?_, mv_far h0 hba he (mv_lm_ok a6) a7⟩
      have h9 := he.1.1
      show e.2.2.1.1 < 5
      omega
    · exact mv_of_ok h0 hba (fun e he => hE e (List.mem_cons_of_mem _ he)) mid pc loc st h nc ns o h9
noncomputable def mv_KP (res : Nat × mv_V) (F2 : List mv_C) (C N : Nat) : mv_K := fun _ z h2 c2 n2 => Nat.beq z.1 res.1 && (Nat.beq z.2.1 res.2.1 && (Nat.beq z.2.2 res.2.2 && (Nat.beq c2 C && (Nat.beq n2 N && mv_pr F2 h2))))
theorem mv_run_weak {ba : mv_A} {X : mv_I} {d n3 : Nat} {loc : mv_L} {st : List mv_V} {h F2 h2 : List mv_C} {nc ns pc : Nat} {res : Nat × mv_V} {c2 n2 : Nat} (hr : res.1 < 2) (hp : mv_pr F2 h2 = true) (hc : F2.all (mv_cC F2.length) = true) (hl : h2.length = F2.length + n3) (hb : ba.2.1 ≤ F2.length + n3) (hR : mv_run l D cs r ba b X d loc st h nc ns pc res h2 c2 n2) : mv_run l D cs r ba b X d loc st h nc ns pc res (F2 ++ mv_no3 n3) c2 n2 := by
  obtain ⟨h1, h3, h4, h5⟩ := hR
  refine ⟨h1, h3, by rw [List.length_append, mv_no3_len]; omega, fun p e R s m args below meth c hf he q1 q2 q3 q4 H locs ls hH hS hl2 hn => ?_⟩
  intro T hT X
  obtain ⟨t, a1, o, a2, a3, a4⟩ := h5 p e R s m args below meth c hf he q1 q2 q3 q4 H locs ls hH hS hl2 hn T hT X
  refine ⟨t, a1, o, a2, a3, ?_⟩
  rcases a4 with ⟨⟨z1, z2, z3, z4⟩, hz⟩ | ⟨q, -, E9, ce, L9, ⟨x1, -⟩, -⟩
  · exact Or.inl ⟨⟨z1, z2, mv_hok_pr hp hc (fun _ _ => rfl) (by rw [hl]) hb z3, z4⟩, hz⟩
  · have x1 : 2 ≤ res.1 := x1
    omega
/-- an end more that is known -/
theorem mv_mk {xn : Nat → Nat} {cand : Nat → List Cond} {bk : Nat → Nat → Option (List mv_E)} (hst : l.stackTraces = false) (h8 : r 8 = r 0 &&& nI 31) (htb : mv_tb bk mi xn cand) {E : List mv_OE} (hE : ∀ e ∈ E, mv_OK l D cs r b0 b mi K e) {gB : mv_B} (hg : mv_in gB r) (n : Nat) (hC : mv_OC K e)
    (ev : mv_ez (mv_of K E) bk mi mv_dv xn n e.2.1 e.1.1 e.1.2.1 [] e.1.2.2.1 [] e.2.2.2.1.1 e.1.2.2.2.1 e.1.2.2.2.2 gB (mv_KP e.2.2.1 e.2.2.2.1.2 e.2.2.2.2.1 e.2.2.2.2.2) = true) : mv_OK l D cs r b0 b mi K e := by
  obtain ⟨⟨mid, pc, loc, nc, ns⟩, dep, ⟨ra, rb, rc⟩, ⟨F, F2⟩, C, N⟩ := e
  refine ⟨hC, fun g => ?_⟩
  obtain ⟨c1, c2, c3, c4, c5, c6, c7⟩ := hC
  have c1 : ra < 2 := c1
  have c3 : F.length = K := c3
  have c4 : F2.length = K := c4
  obtain ⟨g2, z, h2, z2, z3, -, -, q3, q4⟩ := mv_ez_ok hst h8 (mv_of_ok (ba := (b0, K, g)) rfl (Or.inl rfl) hE) htb n dep mid pc [] loc [] F nc ns gB _ ev rfl hg
  unfold mv_KP at q3
  simp only [Bool.and_eq_true] at q3
  obtain ⟨k1, k2, k3, k4, k5, k6⟩ := q3
  obtain ⟨za, zb, zc⟩ := z
  cases mv_beq k1
  cases mv_beq k2
  cases mv_beq k3
  cases mv_beq k4
  cases mv_beq k5
  have hm := q4.1
  have hm2 := q4.2.2.1
  refine mv_run_weak c1 k6 (by rw [c4]; exact c6) ?_ ?_ q4
  · show h2.length = F2.length + (C - nc)
    omega
  · show K ≤ F2.length + (C - nc)
    omega
/-- from nothing at all -/
theorem mv_mk0 {xn : Nat → Nat} {cand : Nat → List Cond} {bk : Nat → Nat → Option (List mv_E)} (hst : l.stackTraces = false) (h8 : r 8 = r 0 &&& nI 31) (htb : mv_tb bk mi xn cand) {E : List mv_OE} (hE : ∀ e ∈ E, mv_OK l D cs r b0 b mi K e) {gB : mv_B} (hg : mv_in gB r) (n dep : Nat) {loc : mv_L} {res : Nat × mv_V} {C N : Nat}
    (ev : mv_ez (mv_of K E) bk mi mv_dv xn n dep 0 0 [] loc [] [] 0 0 gB (mv_KP res [] C N) = true) : ∃ h2 : List mv_C, mv_run l D cs r (b0, 0, 0) b (mi 0) dep loc [] [] 0 0 0 res h2 C N := by
  obtain ⟨g2, z, h2, z2, z3, -, -, q3, q4⟩ := mv_ez_ok hst h8 (mv_of_ok (ba := (b0, 0, 0)) rfl (Or.inr ⟨rfl, Nat.zero_le _⟩) hE) htb n dep 0 0 [] loc [] [] 0 0 gB _ ev rfl hg
  unfold mv_KP at q3
  simp only [Bool.and_eq_true] at q3
  obtain ⟨k1, k2, k3, k4, k5, k6⟩ := q3
  obtain ⟨za, zb, zc⟩ := z
  obtain ⟨ra, rb, rc⟩ := res
  cases mv_beq k1
  cases mv_beq k2
  cases mv_beq k3
  cases mv_beq k4
  cases mv_beq k5
  exact ⟨h2, q4⟩
end MVGA
