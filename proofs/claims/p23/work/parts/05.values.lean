/-! ===== what the interpreter's numbers say of ints ===== -/
theorem mv_nI_mod {a b : Nat} (h : a % 4294967296 = b % 4294967296) : nI a = nI b := by
  apply Int32.toBitVec_inj.mp
  show (Int32.ofNat a).toBitVec = (Int32.ofNat b).toBitVec
  rw [Int32.toBitVec_ofNat', Int32.toBitVec_ofNat']
  apply BitVec.eq_of_toNat_eq
  simpa [BitVec.toNat_ofNat] using h
theorem mv_nI_m (a : Nat) : nI (a % 4294967296) = nI a := mv_nI_mod (by omega)
theorem mv_nI_co (x : Int32) : nI (mv_co x) = x := by
  apply Int32.toBitVec_inj.mp
  show (Int32.ofNat x.toUInt32.toNat).toBitVec = x.toBitVec
  rw [Int32.toBitVec_ofNat']
  apply BitVec.eq_of_toNat_eq
  simp [BitVec.toNat_ofNat]
theorem mv_lN_cl (x : Int64) : lN (mv_cl x) = x := by
  apply Int64.toBitVec_inj.mp
  show (Int64.ofNat x.toUInt64.toNat).toBitVec = x.toBitVec
  rw [Int64.toBitVec_ofNat']
  apply BitVec.eq_of_toNat_eq
  simp [BitVec.toNat_ofNat]
theorem mv_u64 (x : UInt64) : UInt64.ofNat x.toNat = x := by simp
theorem mv_nI_toInt (n : Nat) : (nI n).toInt = ((n : Int)).bmod 4294967296 := by
  show (Int32.ofNat n).toInt = _
  rw [Int32.toInt_ofNat']
theorem mv_b32 (x : Int32) : -2147483648 ≤ x.toInt ∧ x.toInt < 2147483648 := ⟨Int32.le_toInt x, Int32.toInt_lt x⟩
theorem mv_cd_nI (n : Nat) : mv_cd (nI n) = (n + 2147483648) % 4294967296 := by
  unfold mv_cd
  rw [mv_nI_toInt, Int.bmod_def]
  split <;> omega
theorem mv_cd_inj {x y : Int32} (h : mv_cd x = mv_cd y) : x = y := by
  apply Int32.toInt_inj.mp
  have a := mv_b32 x
  have b := mv_b32 y
  unfold mv_cd at h
  omega
theorem mv_cd_lt {x y : Int32} : x < y ↔ mv_cd x < mv_cd y := by
  rw [Int32.lt_iff_toInt_lt]
  have a := mv_b32 x
  have b := mv_b32 y
  unfold mv_cd
  omega
theorem mv_cd_lt32 (x : Int32) : mv_cd x < 4294967296 := by
  have a := mv_b32 x
  unfold mv_cd
  omega
theorem mv_cd_to {x : Int32} {c : Nat} (h : mv_cd x = c) : x = nI ((c + 2147483648) % 4294967296) := by
  apply mv_cd_inj
  rw [mv_cd_nI, h]
  have := mv_cd_lt32 x
  omega
theorem mv_inr {α β : Type} {x y : β} (h : (some (Sum.inr x) : Option (α ⊕ β)) = some (.inr y)) : x = y := Sum.inr.inj (Option.some.inj h)
theorem mv_beq {a b : Nat} (h : Nat.beq a b = true) : a = b := Nat.eq_of_beq_eq_true h
theorem mv_nbeq {a b : Nat} (h : Nat.beq a b = false) : a ≠ b := Nat.ne_of_beq_eq_false h
theorem mv_blt {a b : Nat} (h : Nat.blt a b = true) : a < b := by
  rw [Nat.blt_eq] at h; exact h
theorem mv_nblt {a b : Nat} (h : Nat.blt a b = false) : b ≤ a := by
  rcases Nat.lt_or_ge a b with q | q
  · rw [← Nat.blt_eq] at q; rw [q] at h; cases h
  · exact q
theorem mv_ble {a b : Nat} (h : Nat.ble a b = true) : a ≤ b := Nat.le_of_ble_eq_true h
theorem mv_nble {a b : Nat} (h : Nat.ble a b = false) : b < a := by
  rcases Nat.lt_or_ge b a with q | q
  · exact q
  · rw [Nat.ble_eq_true_of_le q] at h; cases h
theorem mv_cnd {α : Type} {c : Bool} {x y : α} {z : α} (h : (bif c then x else y) = z) : (c = true ∧ x = z) ∨ (c = false ∧ y = z) := by
  cases c
  · exact Or.inr ⟨rfl, h⟩
  · exact Or.inl ⟨rfl, h⟩
theorem mv_cndn {α : Type} {c : Bool} {x : Option α} {z : α} (h : (bif c then x else none) = some z) : c = true ∧ x = some z := by
  cases c
  · cases h
  · exact ⟨rfl, h⟩
theorem mv_val_I {r : Nat → Int32} {ba : mv_A} {b : Nat} {v : mv_V} (h : mv_isI v = true) : mv_val r ba b v = .int (mv_ii r v) := by
  obtain ⟨t, n⟩ := v
  unfold mv_isI at h
  rcases mv_cnd h with ⟨h, -⟩ | ⟨-, h⟩
  · cases mv_beq h; rfl
  rcases mv_cnd h with ⟨h, -⟩ | ⟨-, h⟩
  · cases mv_beq h; rfl
  · cases mv_beq h; rfl
theorem mv_val_J {r : Nat → Int32} {ba : mv_A} {b : Nat} {v : mv_V} (h : mv_isJ v = true) : mv_val r ba b v = .long (lN v.2) := by
  obtain ⟨t, n⟩ := v
  cases mv_beq h; rfl
theorem mv_val_D {r : Nat → Int32} {ba : mv_A} {b : Nat} {v : mv_V} (h : mv_isD v = true) : mv_val r ba b v = .double (UInt64.ofNat v.2) := by
  obtain ⟨t, n⟩ := v
  cases mv_beq h; rfl
theorem mv_val_A {r : Nat → Int32} {ba : mv_A} {b : Nat} {v : mv_V} (h : mv_isA v = true) : ∃ x : Nat, mv_val r ba b v = .ref x := by
  obtain ⟨t, n⟩ := v
  unfold mv_isA at h
  rcases mv_cnd h with ⟨h, -⟩ | ⟨-, h⟩
  · cases mv_beq h; exact ⟨_, rfl⟩
  · cases mv_beq h; exact ⟨_, rfl⟩
theorem mv_val_R {r : Nat → Int32} {ba : mv_A} {b : Nat} {v : mv_V} (h : Nat.beq v.1 2 = true) : mv_val r ba b v = .ref (mv_ad ba v.2) := by
  obtain ⟨t, n⟩ := v
  cases mv_beq h; rfl
theorem mv_val_S {r : Nat → Int32} {ba : mv_A} {b : Nat} {v : mv_V} (h : Nat.beq v.1 7 = true) : mv_val r ba b v = .ref b := by
  obtain ⟨t, n⟩ := v
  cases mv_beq h; rfl
theorem mv_cat (r : Nat → Int32) (ba : mv_A) (b : Nat) (v : mv_V) : ((mv_val r ba b v).category == 2) = mv_w2 v ∧ (mv_val r ba b v).category = (bif mv_w2 v then 2 else 1) := by
  obtain ⟨t, n⟩ := v
  match t with
  | 0 => exact ⟨rfl, rfl⟩
  | 1 => exact ⟨rfl, rfl⟩
  | 2 => exact ⟨rfl, rfl⟩
  | 3 => exact ⟨rfl, rfl⟩
  | 4 => exact ⟨rfl, rfl⟩
  | 5 => exact ⟨rfl, rfl⟩
  | 6 => exact ⟨rfl, rfl⟩
  | t + 7 => exact ⟨rfl, rfl⟩
/-- a known int -/
theorem mv_cI_ok {g : mv_B} {r : Nat → Int32} (hg : mv_in g r) {v : mv_V} {n : Nat} (h : mv_cI g v = some (.inr n)) : mv_isI v = true ∧ mv_ii r v = nI n := by
  obtain ⟨t, k⟩ := v
  unfold mv_cI at h
  rcases mv_cnd h with ⟨h1, h⟩ | ⟨-, h⟩
  · cases mv_beq h1
    cases h
    exact ⟨rfl, rfl⟩
  · obtain ⟨h1, h⟩ := mv_cndn h
    cases mv_beq h1
    refine ⟨rfl, ?_⟩
    unfold mv_cI5 at h
    rcases mv_cnd h with ⟨h2, h⟩ | ⟨-, h⟩
    · rw [← mv_inr h]
      have h3 := hg k
      have h4 : (mv_bd g k).1 = (mv_bd g k).2 := mv_beq h2
      show r k = _
      exact mv_cd_to (show mv_cd (r k) = (mv_bd g k).1 by omega)
    · obtain ⟨-, h⟩ := mv_cndn h
      cases h
theorem mv_u32i {x y : Int32} (h : x.toUInt32 = y.toUInt32) : x = y := by
  cases x
  cases y
  cases h
  rfl
theorem mv_ushr (z y : Nat) (hz : z < 2147483648) (h : y < 32) : ((nI z).toUInt32 >>> ((nI y).toUInt32 &&& Int32.toUInt32 31)).toInt32 = nI (z / 2 ^ y) := by
  apply mv_u32i
  rw [UInt32.toUInt32_toInt32]
  show UInt32.ofNat z >>> (UInt32.ofNat y &&& UInt32.ofNat 31) = UInt32.ofNat (z / 2 ^ y)
  apply UInt32.toNat_inj.mp
  rw [UInt32.toNat_shiftRight, UInt32.toNat_and, UInt32.toNat_ofNat', UInt32.toNat_ofNat', UInt32.toNat_ofNat', UInt32.toNat_ofNat']
  have h1 : z / 2 ^ y ≤ z := Nat.div_le_self _ _
  have e1 : z % 2 ^ 32 = z := Nat.mod_eq_of_lt (by omega)
  have e2 : y % 2 ^ 32 = y := Nat.mod_eq_of_lt (by omega)
  have e3 : z / 2 ^ y % 2 ^ 32 = z / 2 ^ y := Nat.mod_eq_of_lt (by omega)
  have e4 : (31 : Nat) % 2 ^ 32 = 2 ^ 5 - 1 := by decide
  rw [e1, e2, e3, e4, Nat.and_two_pow_sub_one_eq_mod, Nat.shiftRight_eq_div_pow]
  have e5 : y % 2 ^ 5 % 32 = y := by omega
  rw [e5]
theorem mv_rg_ok {g : mv_B} {r : Nat → Int32} (hg : mv_in g r) {v : mv_V} {a : Nat × Nat} (h : mv_rg g v = some a) : mv_isI v = true ∧ a.1 ≤ mv_cd (mv_ii r v) ∧ mv_cd (mv_ii r v) ≤ a.2 := by
  obtain ⟨t, k⟩ := v
  unfold mv_rg at h
  rcases mv_cnd h with ⟨h1, h⟩ | ⟨-, h⟩
  · cases mv_beq h1
    rw [← Option.some.inj h]
    refine ⟨rfl, ?_⟩
    show _ ≤ mv_cd (nI k) ∧ mv_cd (nI k) ≤ _
    rw [mv_cd_nI]
    exact ⟨Nat.le_refl _, Nat.le_refl _⟩
  rcases mv_cnd h with ⟨h1, h⟩ | ⟨-, h⟩
  · cases mv_beq h1
    cases h
    exact ⟨rfl, hg k⟩
  obtain ⟨h1, h⟩ := mv_cndn h
  cases mv_beq h1
  refine ⟨rfl, ?_⟩
  unfold mv_rg6 at h
  obtain ⟨h2, h⟩ := mv_cndn h
  simp only [Bool.and_eq_true] at h2
  obtain ⟨h2, h3, h4⟩ := h2
  have h2 := mv_ble h2
  have h3 := mv_blt h3
  have h4 := mv_blt h4
  rw [← Option.some.inj h]
  have h5 := hg (k % 16)
  show _ ≤ mv_cd (((r (k % 16)).toUInt32 >>> ((nI (k / 16)).toUInt32 &&& Int32.toUInt32 31)).toInt32) ∧ mv_cd (((r (k % 16)).toUInt32 >>> ((nI (k / 16)).toUInt32 &&& Int32.toUInt32 31)).toInt32) ≤ _
  have key : ((r (k % 16)).toUInt32 >>> ((nI (k / 16)).toUInt32 &&& Int32.toUInt32 31)).toInt32 = nI ((mv_cd (r (k % 16)) - 2147483648) / 2 ^ (k / 16)) := by
    have hx := mv_cd_lt32 (r (k % 16))
    have hlo : 2147483648 ≤ mv_cd (r (k % 16)) := by omega
    have e0 : (r (k % 16)) = nI (mv_cd (r (k % 16)) - 2147483648) := by
      apply mv_cd_inj
      rw [mv_cd_nI]
      omega
    have hz : mv_cd (r (k % 16)) - 2147483648 < 2147483648 := by omega
    generalize mv_cd (r (k % 16)) - 2147483648 = z at e0 hz ⊢
    generalize k / 16 = y at h3 ⊢
    rw [e0]
    exact mv_ushr z y hz h3
  rw [key, mv_cd_nI]
  have h6 := mv_cd_lt32 (r (k % 16))
  have h7 : (mv_cd (r (k % 16)) - 2147483648) / 2 ^ (k / 16) ≤ mv_cd (r (k % 16)) - 2147483648 := Nat.div_le_self _ _
  have h8 : ((mv_bd g (k % 16)).1 - 2147483648) / 2 ^ (k / 16) ≤ (mv_cd (r (k % 16)) - 2147483648) / 2 ^ (k / 16) := Nat.div_le_div_right (by omega)
  have h9 : (mv_cd (r (k % 16)) - 2147483648) / 2 ^ (k / 16) ≤ ((mv_bd g (k % 16)).2 - 2147483648) / 2 ^ (k / 16) := Nat.div_le_div_right (by omega)
  have h10 : (mv_cd (r (k % 16)) - 2147483648) / 2 ^ (k / 16) + 2147483648 < 4294967296 := by omega
  rw [Nat.mod_eq_of_lt h10]
  exact ⟨show 2147483648 + ((mv_bd g (k % 16)).1 - 2147483648) / 2 ^ (k / 16) ≤ _ from by omega, show _ ≤ 2147483648 + ((mv_bd g (k % 16)).2 - 2147483648) / 2 ^ (k / 16) from by omega⟩
theorem mv_lt_ok {g : mv_B} {r : Nat → Int32} (hg : mv_in g r) {v w : mv_V} {q : Bool} (h : mv_lt g v w = some (.inr q)) : mv_isI v = true ∧ mv_isI w = true ∧ (q = true ↔ mv_ii r v < mv_ii r w) := by
  unfold mv_lt at h
  rcases mv_cnd h with ⟨h1, h⟩ | ⟨-, h⟩
  · obtain ⟨t, k⟩ := v
    obtain ⟨t2, k2⟩ := w
    simp only [Bool.and_eq_true] at h1
    cases mv_beq h1.1
    cases mv_beq h1.2
    rw [← mv_inr h]
    refine ⟨rfl, rfl, ?_⟩
    show _ ↔ nI k < nI k2
    rw [mv_cd_lt, mv_cd_nI, mv_cd_nI, Nat.blt_eq]
  · unfold mv_ltg at h
    cases ha : mv_rg g v with
    | none => rw [ha] at h; cases h
    | some a =>
      cases hc : mv_rg g w with
      | none => rw [ha, hc] at h; cases h
      | some c =>
        rw [ha, hc] at h
        obtain ⟨i1, i2, i3⟩ := mv_rg_ok hg ha
        obtain ⟨j1, j2, j3⟩ := mv_rg_ok hg hc
        refine ⟨i1, j1, ?_⟩
        rw [mv_cd_lt]
        replace h : mv_ltr v w a c = some (.inr q) := h
        unfold mv_ltr at h
        rcases mv_cnd h with ⟨h1, h⟩ | ⟨-, h⟩
        · cases h
          have := mv_blt h1
          simp; omega
        rcases mv_cnd h with ⟨h1, h⟩ | ⟨-, h⟩
        · cases h
          have := mv_ble h1
          simp; omega
        · unfold mv_sp2 at h
          rcases mv_cnd h with ⟨-, h⟩ | ⟨-, h⟩
          · cases h
          rcases mv_cnd h with ⟨-, h⟩ | ⟨-, h⟩
          · cases h
          unfold mv_sp at h
          rcases mv_cnd h with ⟨-, h⟩ | ⟨-, h⟩
          · cases h
          · obtain ⟨-, h⟩ := mv_cndn h
            cases h
theorem mv_eq_ok {g : mv_B} {r : Nat → Int32} (hg : mv_in g r) {v w : mv_V} {q : Bool} (h : mv_eq g v w = some (.inr q)) : mv_isI v = true ∧ mv_isI w = true ∧ (q = true ↔ mv_ii r v = mv_ii r w) := by
  unfold mv_eq at h
  rcases mv_cnd h with ⟨h1, h⟩ | ⟨-, h⟩
  · obtain ⟨t, k⟩ := v
    obtain ⟨t2, k2⟩ := w
    simp only [Bool.and_eq_true] at h1
    cases mv_beq h1.1
    cases mv_beq h1.2
    rw [← mv_inr h]
    refine ⟨rfl, rfl, ?_⟩
    show _ ↔ nI k = nI k2
    refine ⟨fun z => mv_nI_mod (mv_beq z), fun z => ?_⟩
    have z2 : mv_cd (nI k) = mv_cd (nI k2) := by rw [z]
    rw [mv_cd_nI, mv_cd_nI] at z2
    have z3 : k % 4294967296 = k2 % 4294967296 := by omega
    simp only [z3]
    exact Nat.beq_refl _
  · unfold mv_eqg at h
    cases ha : mv_rg g v with
    | none => rw [ha] at h; cases h
    | some a =>
      cases hc : mv_rg g w with
      | none => rw [ha, hc] at h; cases h
      | some c =>
        rw [ha, hc] at h
        obtain ⟨i1, i2, i3⟩ := mv_rg_ok hg ha
        obtain ⟨j1, j2, j3⟩ := mv_rg_ok hg hc
        refine ⟨i1, j1, ?_⟩
        replace h : mv_eqr v w a c = some (.inr q) := h
        unfold mv_eqr at h
        rcases mv_cnd h with ⟨h1, h⟩ | ⟨h0, h⟩
        · cases h
          simp only [Bool.or_eq_true] at h1
          refine ⟨fun z => (by cases z), fun z => ?_⟩
          rw [z] at i2 i3
          rcases h1 with h1 | h1
          · have := mv_blt h1; omega
          · have := mv_blt h1; omega
        rcases mv_cnd h with ⟨h1, h⟩ | ⟨-, h⟩
        · cases h
          simp only [Bool.and_eq_true] at h1
          have e1 := mv_beq h1.1
          have e2 := mv_beq h1.2
          simp only [Bool.or_eq_false_iff] at h0
          have e3 := mv_nblt h0.1
          have e4 := mv_nblt h0.2
          exact ⟨fun _ => mv_cd_inj (by omega), fun _ => rfl⟩
        · unfold mv_sp at h
          rcases mv_cnd h with ⟨-, h⟩ | ⟨-, h⟩
          · cases h
          · obtain ⟨-, h⟩ := mv_cndn h
            cases h
theorem mv_no_ok {x : Option ((Nat × Nat) ⊕ Bool)} {q : Bool} (h : mv_no x = some (.inr q)) : x = some (.inr (!q)) := by
  cases x with
  | none => cases h
  | some y => cases y with
    | inl z => cases h
    | inr z => cases h; simp
def mv_hc (o : ClassFile.Cond) (x y : Int32) : Prop := match o with
  | .eq => x = y
  | .ne => ¬ x = y
  | .lt => x < y
  | .ge => ¬ x < y
  | .gt => y < x
  | .le => ¬ y < x
theorem mv_cm_ok {g : mv_B} {r : Nat → Int32} (hg : mv_in g r) {o : ClassFile.Cond} {v w : mv_V} {q : Bool} (h : mv_cm g o v w = some (.inr q)) : mv_isI v = true ∧ mv_isI w = true ∧ (q = true ↔ mv_hc o (mv_ii r v) (mv_ii r w)) := by
  cases o with
  | eq => exact mv_eq_ok hg h
  | ne =>
    obtain ⟨a, b, c⟩ := mv_eq_ok hg (mv_no_ok h)
    exact ⟨a, b, by show _ ↔ ¬ _; rw [← c]; simp⟩
  | lt => exact mv_lt_ok hg h
  | ge =>
    obtain ⟨a, b, c⟩ := mv_lt_ok hg (mv_no_ok h)
    exact ⟨a, b, by show _ ↔ ¬ _; rw [← c]; simp⟩
  | gt =>
    obtain ⟨a, b, c⟩ := mv_lt_ok hg h
    exact ⟨b, a, c⟩
  | le =>
    obtain ⟨a, b, c⟩ := mv_lt_ok hg (mv_no_ok h)
    exact ⟨b, a, by show _ ↔ ¬ _; rw [← c]; simp⟩
