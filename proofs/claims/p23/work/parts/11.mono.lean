/-! ===== what a step makes is counted; an unknown parted ===== -/
section MVY
variable {g : mv_B} {loc : mv_L} {st : List mv_V} {h : List mv_C} {nc ns nL : Nat} {x : Option Nat × mv_L × List mv_V × List mv_C × Nat × Nat}
def mv_mn (h : List mv_C) (nc ns : Nat) (x : Option Nat × mv_L × List mv_V × List mv_C × Nat × Nat) : Prop := nc ≤ x.2.2.2.2.1 ∧ ns ≤ x.2.2.2.2.2 ∧ h.length + x.2.2.2.2.1 = x.2.2.2.1.length + nc
theorem mv_mn_eq {j : Option Nat} {l2 : mv_L} {s2 : List mv_V} (h1 : (some (.inr (j, l2, s2, h, nc, ns)) : mv_S) = some (.inr x)) : mv_mn h nc ns x := by
  rw [← mv_inr h1]
  exact ⟨Nat.le_refl _, Nat.le_refl _, rfl⟩
theorem mv_mn_set {l2 : mv_L} {s2 : List mv_V} {k : Nat} {c : mv_C} (h1 : mv_go l2 (h.set k c) nc ns s2 = some (.inr x)) : mv_mn h nc ns x := by
  rw [← mv_inr h1]
  exact ⟨Nat.le_refl _, Nat.le_refl _, by show h.length + nc = (h.set k c).length + nc; rw [List.length_set]⟩
theorem mv_mn_ld {f : mv_V → Bool} {i : Nat} (h1 : mv_ld loc st h nc ns f i = some (.inr x)) : mv_mn h nc ns x := by
  unfold mv_ld at h1
  split at h1
  · exact mv_mn_eq (mv_cndn h1).2
  · cases h1
theorem mv_mn_sto {f : mv_V → Bool} {i : Nat} (h1 : mv_sto loc st h nc ns f nL i = some (.inr x)) : mv_mn h nc ns x := by
  unfold mv_sto at h1
  split at h1
  · have h2 := (mv_cndn h1).2
    rw [mv_fi_eq] at h2
    exact mv_mn_eq h2
  · cases h1
theorem mv_mn_sto2 {f : mv_V → Bool} {i : Nat} (h1 : mv_sto2 loc st h nc ns f nL i = some (.inr x)) : mv_mn h nc ns x := by
  unfold mv_sto2 at h1
  split at h1
  · have h2 := (mv_cndn h1).2
    rw [mv_fi_eq] at h2
    exact mv_mn_eq h2
  · cases h1
theorem mv_mn_un {f : Nat → mv_V} (h1 : mv_un g loc st h nc ns f = some (.inr x)) : mv_mn h nc ns x := by
  unfold mv_un at h1
  split at h1
  · split at h1
    · rw [mv_fo_eq] at h1; exact mv_mn_eq h1
    · cases h1
    · cases h1
  · cases h1
theorem mv_mn_bi {f : Nat → Nat → Option Nat} (h1 : mv_bi g loc st h nc ns f = some (.inr x)) : mv_mn h nc ns x := by
  unfold mv_bi at h1
  split at h1
  · split at h1
    · split at h1
      · split at h1
        · rw [mv_fo_eq] at h1; exact mv_mn_eq h1
        · cases h1
      · cases h1
      · cases h1
    · cases h1
    · cases h1
  · cases h1
theorem mv_mn_bl {f : Nat → Nat → mv_V} (h1 : mv_bl loc st h nc ns f = some (.inr x)) : mv_mn h nc ns x := by
  unfold mv_bl at h1
  split at h1
  · have h2 := (mv_cndn h1).2
    rw [mv_fo_eq] at h2
    exact mv_mn_eq h2
  · cases h1
theorem mv_mn_b4 {f : Nat → Nat → mv_V} (h1 : mv_b4 loc st h nc ns f = some (.inr x)) : mv_mn h nc ns x := by
  unfold mv_b4 at h1
  split at h1
  · have h2 := (mv_cndn h1).2
    rw [mv_fo_eq] at h2
    exact mv_mn_eq h2
  · cases h1
theorem mv_mn_dd (h1 : mv_dd loc st h nc ns = some (.inr x)) : mv_mn h nc ns x := by
  unfold mv_dd at h1
  split at h1
  · have h2 := (mv_cndn h1).2
    rw [mv_fo_eq] at h2
    exact mv_mn_eq h2
  · cases h1
theorem mv_mn_br {o : ClassFile.Cond} {v w : mv_V} {s2 : List mv_V} {t : Nat} (h1 : mv_br g loc h nc ns o v w s2 t = some (.inr x)) : mv_mn h nc ns x := by
  unfold mv_br at h1
  split at h1
  · exact mv_mn_eq h1
  · exact mv_mn_eq h1
  · cases h1
  · cases h1
theorem mv_mn_ic {o : ClassFile.Cond} {t : Nat} (h1 : mv_ic g loc st h nc ns o t = some (.inr x)) : mv_mn h nc ns x := by
  unfold mv_ic at h1
  split at h1
  · exact mv_mn_br h1
  · cases h1
theorem mv_mn_if {o : ClassFile.Cond} {t : Nat} (h1 : mv_if g loc st h nc ns o t = some (.inr x)) : mv_mn h nc ns x := by
  unfold mv_if at h1
  split at h1
  · exact mv_mn_br h1
  · cases h1
theorem mv_mn_inc {i n : Nat} (h1 : mv_inc g loc st h nc ns nL i n = some (.inr x)) : mv_mn h nc ns x := by
  unfold mv_inc at h1
  split at h1
  · split at h1
    · have h2 := (mv_cndn h1).2
      rw [mv_fo_eq, mv_fi_eq] at h2
      exact mv_mn_eq h2
    · cases h1
    · cases h1
  · cases h1
theorem mv_mn_ar {t : Nat} {y z : mv_V} {k : Nat → List mv_V → Nat → mv_S} (h1 : mv_ar g h t y z k = some (.inr x)) (hk : ∀ q l a, k q l a = some (.inr x) → mv_mn h nc ns x) : mv_mn h nc ns x := by
  unfold mv_ar at h1
  have h2 := (mv_cndn h1).2
  split at h2
  · split at h2
    · exact hk _ _ _ (mv_cndn h2).2
    · cases h2
  · cases h2
  · cases h2
theorem mv_mn_ald {t : Nat} {f : mv_V → Bool} (h1 : mv_ald g loc st h nc ns t f = some (.inr x)) : mv_mn h nc ns x := by
  unfold mv_ald at h1
  split at h1
  · refine mv_mn_ar h1 (fun q l a h2 => ?_)
    split at h2
    · exact mv_mn_eq (mv_cndn h2).2
    · cases h2
  · cases h1
theorem mv_mn_ast {t : Nat} {f : mv_V → Bool} (h1 : mv_ast g loc st h nc ns t f = some (.inr x)) : mv_mn h nc ns x := by
  unfold mv_ast at h1
  split at h1
  · refine mv_mn_ar (mv_cndn h1).2 (fun q l a h2 => ?_)
    rw [mv_ls_eq, mv_ls_eq] at h2
    exact mv_mn_set h2
  · cases h1
theorem mv_mn_zst (h1 : mv_zst g loc st h nc ns = some (.inr x)) : mv_mn h nc ns x := by
  unfold mv_zst at h1
  split at h1
  · split at h1
    · refine mv_mn_ar (mv_cndn h1).2 (fun q l a h2 => ?_)
      rw [mv_ls_eq, mv_ls_eq] at h2
      exact mv_mn_set h2
    · cases h1
    · cases h1
  · cases h1
theorem mv_mn_len (h1 : mv_len loc st h nc ns = some (.inr x)) : mv_mn h nc ns x := by
  unfold mv_len at h1
  split at h1
  · have h2 := (mv_cndn h1).2
    split at h2
    · have h3 := (mv_cndn h2).2
      rw [mv_fo_eq] at h3
      exact mv_mn_eq h3
    · cases h2
  · cases h1
theorem mv_mn_gf {ci k : Nat} (h1 : mv_gf loc st h nc ns ci k = some (.inr x)) : mv_mn h nc ns x := by
  unfold mv_gf at h1
  split at h1
  · have h2 := (mv_cndn h1).2
    split at h2
    · have h3 := (mv_cndn h2).2
      split at h3
      · exact mv_mn_eq h3
      · cases h3
    · cases h2
  · cases h1
theorem mv_mn_pf {ci k t : Nat} (h1 : mv_pf loc st h nc ns ci k t = some (.inr x)) : mv_mn h nc ns x := by
  unfold mv_pf at h1
  split at h1
  · have h2 := (mv_cndn h1).2
    split at h2
    · have h3 := (mv_cndn h2).2
      rw [mv_ls_eq, mv_ls_eq] at h3
      exact mv_mn_set h3
    · cases h2
  · cases h1
theorem mv_mn_na {t : Nat} (h1 : mv_na g loc st h nc ns t = some (.inr x)) : mv_mn h nc ns x := by
  unfold mv_na at h1
  split at h1
  · split at h1
    · have h2 := (mv_cndn h1).2
      rw [mv_fo_eq, mv_sn_eq] at h2
      rw [← mv_inr h2]
      exact ⟨Nat.le_add_right _ _, Nat.le_add_right _ _, by show h.length + (nc + 1) = (h ++ [_]).length + nc; rw [List.length_append]; show h.length + (nc + 1) = h.length + 1 + nc; omega⟩
    · cases h1
    · cases h1
  · cases h1
theorem mv_mn_nw {ci : Nat} {l : List mv_V} (h1 : mv_nw loc st h nc ns ci l = some (.inr x)) : mv_mn h nc ns x := by
  unfold mv_nw at h1
  rw [mv_fo_eq, mv_sn_eq] at h1
  rw [← mv_inr h1]
  exact ⟨Nat.le_add_right _ _, Nat.le_add_right _ _, by show h.length + (nc + 1) = (h ++ [_]).length + nc; rw [List.length_append]; show h.length + (nc + 1) = h.length + 1 + nc; omega⟩
theorem mv_mn_and (h1 : mv_and g loc st h nc ns = some (.inr x)) : mv_mn h nc ns x := by
  unfold mv_and at h1
  split at h1
  · rcases mv_cnd h1 with ⟨-, h2⟩ | ⟨-, h2⟩
    · exact mv_mn_eq h2
    · exact mv_mn_bi h2
  · cases h1
theorem mv_mn_ush (h1 : mv_ush g loc st h nc ns = some (.inr x)) : mv_mn h nc ns x := by
  unfold mv_ush at h1
  split at h1
  · rcases mv_cnd h1 with ⟨-, h2⟩ | ⟨-, h2⟩
    · rcases mv_cnd h2 with ⟨-, h3⟩ | ⟨-, h3⟩
      · rcases mv_cnd h3 with ⟨-, h4⟩ | ⟨-, h4⟩
        · exact mv_mn_eq h4
        · rcases mv_cnd h4 with ⟨-, h5⟩ | ⟨-, h5⟩
          · exact mv_mn_bi h5
          · cases h5
      · cases h3
    · exact mv_mn_bi h2
  · cases h1
theorem mv_mn_iald (h1 : mv_iald g loc st h nc ns = some (.inr x)) : mv_mn h nc ns x := by
  unfold mv_iald at h1
  split at h1
  · rcases mv_cnd h1 with ⟨-, h2⟩ | ⟨-, h2⟩
    · unfold mv_sld at h2
      split at h2
      · have h3 := (mv_cndn h2).2
        rw [mv_fo_eq] at h3
        split at h3
        · exact mv_mn_eq h3
        · exact mv_mn_eq h3
      · cases h2
      · cases h2
    · exact mv_mn_ald h2
  · cases h1
theorem mv_mn_alen (h1 : mv_alen loc st h nc ns = some (.inr x)) : mv_mn h nc ns x := by
  unfold mv_alen at h1
  split at h1
  · rcases mv_cnd h1 with ⟨-, h2⟩ | ⟨-, h2⟩
    · exact mv_mn_eq h2
    · exact mv_mn_len h2
  · cases h1
theorem mv_mn_tsw {pc : Nat} {d lo hi : Int} {offs : Array Int} (h1 : mv_tsw g loc st h nc ns pc d lo hi offs = some (.inr x)) : mv_mn h nc ns x := by
  unfold mv_tsw at h1
  split at h1
  · split at h1
    · rcases mv_cnd h1 with ⟨-, h2⟩ | ⟨-, h2⟩
      · have h3 := (mv_cndn h2).2
        rw [mv_fo_eq] at h3
        exact mv_mn_eq h3
      · split at h2
        · have h3 := (mv_cndn h2).2
          rw [mv_fo_eq] at h3
          exact mv_mn_eq h3
        · cases h2
    · cases h1
    · cases h1
  · cases h1
theorem mv_mn_lsw {pc : Nat} {d : Int} {ps : Array (Int × Int)} (h1 : mv_lsw g loc st h nc ns pc d ps = some (.inr x)) : mv_mn h nc ns x := by
  unfold mv_lsw at h1
  split at h1
  · split at h1
    · have h3 := (mv_cndn h1).2
      rw [mv_fo_eq] at h3
      exact mv_mn_eq h3
    · cases h1
    · cases h1
  · cases h1
theorem mv_mn_dup (h1 : mv_dup loc st h nc ns = some (.inr x)) : mv_mn h nc ns x := by
  unfold mv_dup at h1
  split at h1
  · exact mv_mn_eq (mv_cnn h1).2
  · cases h1
theorem mv_mn_pop (h1 : mv_pop loc st h nc ns = some (.inr x)) : mv_mn h nc ns x := by
  unfold mv_pop at h1
  split at h1
  · exact mv_mn_eq (mv_cnn h1).2
  · cases h1
theorem mv_mn_pop2 (h1 : mv_pop2 loc st h nc ns = some (.inr x)) : mv_mn h nc ns x := by
  unfold mv_pop2 at h1
  split at h1
  · exact mv_mn_eq (mv_cndn h1).2
  · cases h1
theorem mv_mn_dupx (h1 : mv_dupx loc st h nc ns = some (.inr x)) : mv_mn h nc ns x := by
  unfold mv_dupx at h1
  split at h1
  · exact mv_mn_eq (mv_cnn h1).2
  · cases h1
theorem mv_mn_dup2 (h1 : mv_dup2 loc st h nc ns = some (.inr x)) : mv_mn h nc ns x := by
  unfold mv_dup2 at h1
  split at h1
  · rcases mv_cnd h1 with ⟨-, h2⟩ | ⟨-, h2⟩
    · exact mv_mn_eq h2
    · split at h2
      · exact mv_mn_eq (mv_cnn h2).2
      · cases h2
  · cases h1
theorem mv_mn_s1 {dv : Nat → List mv_V} {i : Instr} {pc a k : Nat} (h1 : mv_s1 g loc st h nc ns dv nL i pc a k = some (.inr x)) : mv_mn h nc ns x := by
  cases i with
  | iconst n => exact mv_mn_eq h1
  | bipush n => exact mv_mn_eq h1
  | sipush n => exact mv_mn_eq h1
  | ldc n => exact mv_mn_eq h1
  | ldc_w n => exact mv_mn_eq h1
  | lconst n => exact mv_mn_eq h1
  | ldc2_w n => exact mv_mn_eq h1
  | dconst n => exact mv_mn_eq h1
  | iload_n n => exact mv_mn_ld h1
  | iload n => exact mv_mn_ld h1
  | lload_n n => exact mv_mn_ld h1
  | lload n => exact mv_mn_ld h1
  | dload_n n => exact mv_mn_ld h1
  | dload n => exact mv_mn_ld h1
  | aload_n n => exact mv_mn_ld h1
  | aload n => exact mv_mn_ld h1
  | istore_n n => exact mv_mn_sto h1
  | istore n => exact mv_mn_sto h1
  | astore_n n => exact mv_mn_sto h1
  | astore n => exact mv_mn_sto h1
  | lstore_n n => exact mv_mn_sto2 h1
  | lstore n => exact mv_mn_sto2 h1
  | dstore_n n => exact mv_mn_sto2 h1
  | dstore n => exact mv_mn_sto2 h1
  | iinc n z => exact mv_mn_inc h1
  | ifCond o off => exact mv_mn_if h1
  | if_icmp o off => exact mv_mn_ic h1
  | goto off => exact mv_mn_eq h1
  | tableswitch d lo hi offs => exact mv_mn_tsw h1
  | lookupswitch d ps => exact mv_mn_lsw h1
  | getfield n => exact mv_mn_gf h1
  | putfield n => exact mv_mn_pf h1
  | newarray t => exact mv_mn_na h1
  | new n => exact mv_mn_nw h1
  | iadd => exact mv_mn_bi (f := fun x y => some ((x + y) % 4294967296)) h1
  | isub => exact mv_mn_bi (f := fun x y => some ((x + (4294967296 - y % 4294967296)) % 4294967296)) h1
  | imul => exact mv_mn_bi (f := fun x y => some (x * y % 4294967296)) h1
  | iand => exact mv_mn_and h1
  | ior => exact mv_mn_bi (f := fun x y => some (Nat.lor x y % 4294967296)) h1
  | ixor => exact mv_mn_bi (f := fun x y => some (Nat.xor x y % 4294967296)) h1
  | idiv => exact mv_mn_bi (f := fun x y => bif decide (nI y = 0) then none else some (mv_co (nI x / nI y))) h1
  | irem => exact mv_mn_bi (f := fun x y => bif decide (nI y = 0) then none else some (mv_co (nI x - (nI x / nI y) * nI y))) h1
  | ishl => exact mv_mn_bi (f := fun x y => some (mv_co (nI x <<< (nI y &&& 31)))) h1
  | ishr => exact mv_mn_bi (f := fun x y => some (mv_co (nI x >>> (nI y &&& 31)))) h1
  | iushr => exact mv_mn_ush h1
  | i2l => exact mv_mn_un (f := fun x => (3, mv_cl (nI x).toInt64)) h1
  | i2d => exact mv_mn_un (f := fun x => (4, (FP.i2d (nI x)).toNat)) h1
  | ladd => exact mv_mn_bl (f := fun x y => (3, mv_cl (lN x + lN y))) h1
  | lmul => exact mv_mn_bl (f := fun x y => (3, mv_cl (lN x * lN y))) h1
  | lcmp => exact mv_mn_bl (f := fun x y => (0, mv_co (lg_cmp (lN x) (lN y)))) h1
  | ddiv => exact mv_mn_dd h1
  | dcmp o => exact mv_mn_b4 (f := fun x y => (0, mv_co (Op.cmpValue (FP.dcmp (UInt64.ofNat x) (UInt64.ofNat y)) o))) h1
  | dup => exact mv_mn_dup h1
  | pop => exact mv_mn_pop h1
  | pop2 => exact mv_mn_pop2 h1
  | dup_x1 => exact mv_mn_dupx h1
  | dup2 => exact mv_mn_dup2 h1
  | iaload => exact mv_mn_iald h1
  | laload => exact mv_mn_ald h1
  | baload => exact mv_mn_ald h1
  | iastore => exact mv_mn_ast h1
  | lastore => exact mv_mn_ast h1
  | bastore => exact mv_mn_zst h1
  | arraylength => exact mv_mn_alen h1
  | _ => cases h1
theorem mv_bds {g : mv_B} {i j : Nat} {q : Nat × Nat} (hi : i < g.length) : mv_bd (g.set i q) j = if j = i then q else mv_bd g j := by
  unfold mv_bd
  rw [List.getElem?_set]
  by_cases hj : i = j
  · subst hj; simp [hi]
  · rw [if_neg hj, if_neg (fun z => hj z.symm)]
theorem mv_pt3_ok {r : Nat → Int32} {q : Nat × Nat} {f : mv_B → Bool} (hg : mv_in g r) (h1 : mv_pt3 g q f = true) : ∃ g2 : mv_B, mv_in g2 r ∧ f g2 = true := by
  unfold mv_pt3 at h1
  rcases mv_cnd h1 with ⟨hl, h1⟩ | ⟨-, h1⟩
  · have hl := mv_blt hl
    simp only [Bool.and_eq_true] at h1
    obtain ⟨h2, h3, h4⟩ := h1
    have key : ∀ a b : Nat, a ≤ mv_cd (r q.1) → mv_cd (r q.1) ≤ b → mv_in (g.set q.1 (a, b)) r := fun a b ha hb j => by
      rw [mv_bds hl]
      by_cases hj : j = q.1
      · rw [if_pos hj, hj]; exact ⟨ha, hb⟩
      · rw [if_neg hj]; exact hg j
    have hq := hg q.1
    rcases Nat.lt_trichotomy (mv_cd (r q.1)) q.2 with z | z | z
    · rcases mv_cnd h2 with ⟨-, h5⟩ | ⟨h5, -⟩
      · rw [mv_fo_eq, mv_fo_eq, mv_ls_eq] at h5
        exact ⟨_, key _ _ hq.1 (by omega), h5⟩
      · have := mv_nblt h5
        omega
    · rw [mv_fo_eq, mv_ls_eq] at h3
      exact ⟨_, key _ _ (by omega) (by omega), h3⟩
    · rcases mv_cnd h4 with ⟨-, h5⟩ | ⟨h5, -⟩
      · rw [mv_fo_eq, mv_fo_eq, mv_ls_eq] at h5
        exact ⟨_, key _ _ (by omega) hq.2, h5⟩
      · have := mv_nblt h5
        omega
  · cases h1
theorem mv_pt2_ok {r : Nat → Int32} {q : Nat × Nat} {f : mv_B → Bool} (hg : mv_in g r) (h1 : mv_pt2 g q f = true) : ∃ g2 : mv_B, mv_in g2 r ∧ f g2 = true := by
  unfold mv_pt2 at h1
  rcases mv_cnd h1 with ⟨hl, h1⟩ | ⟨-, h1⟩
  · have hl := mv_blt hl
    simp only [Bool.and_eq_true] at h1
    obtain ⟨h2, h4⟩ := h1
    have key : ∀ a b : Nat, a ≤ mv_cd (r q.1) → mv_cd (r q.1) ≤ b → mv_in (g.set q.1 (a, b)) r := fun a b ha hb j => by
      rw [mv_bds hl]
      by_cases hj : j = q.1
      · rw [if_pos hj, hj]; exact ⟨ha, hb⟩
      · rw [if_neg hj]; exact hg j
    have hq := hg q.1
    by_cases z : mv_cd (r q.1) < q.2
    · rcases mv_cnd h2 with ⟨-, h5⟩ | ⟨h5, -⟩
      · rw [mv_fo_eq, mv_fo_eq, mv_ls_eq] at h5
        exact ⟨_, key _ _ hq.1 (by omega), h5⟩
      · have := mv_nblt h5
        omega
    · rcases mv_cnd h4 with ⟨-, h5⟩ | ⟨h5, -⟩
      · rw [mv_fo_eq, mv_fo_eq, mv_ls_eq] at h5
        exact ⟨_, key _ _ (by omega) hq.2, h5⟩
      · have := mv_nble h5
        omega
  · cases h1
theorem mv_pt_ok {r : Nat → Int32} {q : Nat × Nat} {f : mv_B → Bool} (hg : mv_in g r) (h1 : mv_pt g q f = true) : ∃ g2 : mv_B, mv_in g2 r ∧ f g2 = true := by
  unfold mv_pt at h1
  rcases mv_cnd h1 with ⟨-, h1⟩ | ⟨-, h1⟩
  · exact mv_pt2_ok hg h1
  · exact mv_pt3_ok hg h1
end MVY
