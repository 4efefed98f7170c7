/-! ===== an interpreter of the bytecode that is met here, over things by number: what it says is proved of the machine in the parts behind. Its own words begin with mv_ ===== -/
/-- a value: (0, n) the int n; (1, _) null; (2, k) the k-th thing made; (3, n) a long; (4, n) a double; (5, i) the i-th unknown int; (6, j) the unknown j % 16, shifted right by j / 16; (7, _) the script -/
abbrev mv_V : Type := Nat × Nat
/-- a thing: 0 ints, 1 longs, 2 booleans, 3 something that nobody looks at, n + 4 an object of class n -/
abbrev mv_C : Type := Nat × List mv_V
/-- for each unknown its least and greatest value, 2^31 more than it is -/
abbrev mv_B : Type := List (Nat × Nat)
/-- an instruction: itself, its place, its length, its kind, two numbers -/
abbrev mv_E : Type := Instr × Nat × Nat × Nat × Nat × Nat
abbrev mv_L : Type := List (Nat × mv_V)
def mv_co (x : Int32) : Nat := x.toUInt32.toNat
def mv_cl (x : Int64) : Nat := x.toUInt64.toNat
def mv_ii (r : Nat → Int32) (v : mv_V) : Int32 := match v.1 with
  | 0 => nI v.2
  | 5 => r v.2
  | 6 => ((r (v.2 % 16)).toUInt32 >>> ((nI (v.2 / 16)).toUInt32 &&& Int32.toUInt32 31)).toInt32
  | _ => 0
/-- where things lie: the first ones from ba.1 on, ba.2.1 of them; the rest behind ba.2.2 cells that nobody looks at -/
abbrev mv_A : Type := Nat × Nat × Nat
def mv_ad (ba : mv_A) (k : Nat) : Nat := if k < ba.2.1 then ba.1 + k else ba.1 + ba.2.2 + k
def mv_val (r : Nat → Int32) (ba : mv_A) (b : Nat) (v : mv_V) : Value := match v.1 with
  | 0 => .int (mv_ii r v)
  | 1 => .null
  | 2 => .ref (mv_ad ba v.2)
  | 3 => .long (lN v.2)
  | 4 => .double (UInt64.ofNat v.2)
  | 5 => .int (mv_ii r v)
  | 6 => .int (mv_ii r v)
  | _ => .ref b
def mv_isI (v : mv_V) : Bool := bif Nat.beq v.1 0 then true else bif Nat.beq v.1 5 then true else Nat.beq v.1 6
def mv_w2 (v : mv_V) : Bool := bif Nat.beq v.1 3 then true else Nat.beq v.1 4
def mv_isA (v : mv_V) : Bool := bif Nat.beq v.1 2 then true else Nat.beq v.1 7
def mv_isJ (v : mv_V) : Bool := Nat.beq v.1 3
def mv_isD (v : mv_V) : Bool := Nat.beq v.1 4
def mv_cd (x : Int32) : Nat := (x.toInt + 2147483648).toNat
def mv_bd (g : mv_B) (i : Nat) : Nat × Nat := (g[i]?).getD (0, 4294967295)
def mv_in (g : mv_B) (r : Nat → Int32) : Prop := ∀ i : Nat, (mv_bd g i).1 ≤ mv_cd (r i) ∧ mv_cd (r i) ≤ (mv_bd g i).2
/-- a number, counted out; a list, laid out -/
noncomputable def mv_fo {α : Type} (n : Nat) (k : Nat → α) : α := Nat.rec (motive := fun _ => α) (k 0) (fun m _ => k (Nat.succ m)) n
noncomputable def mv_fl {α β : Type} (l : List α) : (List α → β) → β := List.rec (motive := fun _ => (List α → β) → β) (fun k => k []) (fun x _ ih k => ih (fun q => k (x :: q))) l
noncomputable def mv_gt {α : Type} (l : List α) : Nat → Option α := List.rec (motive := fun _ => Nat → Option α) (fun _ => none) (fun x _ ih n => Nat.rec (motive := fun _ => Option α) (some x) (fun m _ => ih m) n) l
noncomputable def mv_ls {α β : Type} (l : List α) : Nat → α → (List α → β) → β := List.rec (motive := fun _ => Nat → α → (List α → β) → β) (fun _ _ k => k []) (fun x t ih n v k => Nat.rec (motive := fun _ => β) (k (v :: t)) (fun m _ => ih m v (fun q => k (x :: q))) n) l
/-- the members that p takes, laid out -/
noncomputable def mv_fi {α β : Type} (p : α → Bool) (l : List α) : (List α → β) → β := List.rec (motive := fun _ => (List α → β) → β) (fun k => k []) (fun x _ ih k => bif p x then ih (fun q => k (x :: q)) else ih k) l
/-- a member behind the last one, laid out -/
noncomputable def mv_sn {α β : Type} (l : List α) (v : α) : (List α → β) → β := List.rec (motive := fun _ => (List α → β) → β) (fun k => k [v]) (fun x _ ih k => ih (fun q => k (x :: q))) l
theorem mv_fo_eq {α : Type} (n : Nat) (k : Nat → α) : mv_fo n k = k n := by cases n <;> rfl
theorem mv_fl_eq {α β : Type} (l : List α) (k : List α → β) : mv_fl l k = k l := by
  induction l generalizing k with
  | nil => rfl
  | cons x t ih => exact ih (fun q => k (x :: q))
theorem mv_fi_eq {α β : Type} (p : α → Bool) (l : List α) (k : List α → β) : mv_fi p l k = k (l.filter p) := by
  induction l generalizing k with
  | nil => rfl
  | cons x t ih =>
    show (bif p x then mv_fi p t (fun q => k (x :: q)) else mv_fi p t k) = _
    cases hp : p x
    · rw [List.filter_cons_of_neg (by simp [hp])]; exact ih k
    · rw [List.filter_cons_of_pos hp]; exact ih (fun q => k (x :: q))
theorem mv_sn_eq {α β : Type} (l : List α) (v : α) (k : List α → β) : mv_sn l v k = k (l ++ [v]) := by
  induction l generalizing k with
  | nil => rfl
  | cons x t ih => exact ih (fun q => k (x :: q))
theorem mv_gt_eq {α : Type} (l : List α) (n : Nat) : mv_gt l n = l[n]? := by
  induction l generalizing n with
  | nil => simp [mv_gt]
  | cons x t ih => cases n with
    | zero => rfl
    | succ n => exact (ih n).trans List.getElem?_cons_succ.symm
theorem mv_ls_eq {α β : Type} (l : List α) (n : Nat) (v : α) (k : List α → β) : mv_ls l n v k = k (l.set n v) := by
  induction l generalizing n k with
  | nil => rfl
  | cons x t ih => cases n with
    | zero => rfl
    | succ n => exact ih n (fun q => k (x :: q))
/-- an int that is known; or where to part the unknown that it is -/
def mv_cI5 (i : Nat) (q : Nat × Nat) : Option ((Nat × Nat) ⊕ Nat) :=
  bif Nat.beq q.1 q.2 then some (.inr ((q.1 + 2147483648) % 4294967296))
    else bif Nat.ble (q.2 - q.1) 64 then some (.inl (i, q.1)) else none
def mv_cI (g : mv_B) (v : mv_V) : Option ((Nat × Nat) ⊕ Nat) :=
  bif Nat.beq v.1 0 then some (.inr v.2) else bif Nat.beq v.1 5 then mv_cI5 v.2 (mv_bd g v.2) else none
/-- between which two numbers an int lies -/
def mv_rg6 (k : Nat) (q : Nat × Nat) : Option (Nat × Nat) :=
  bif Nat.ble 2147483648 q.1 && (Nat.blt k 32 && Nat.blt q.2 4294967296) then some (2147483648 + (q.1 - 2147483648) / 2 ^ k, 2147483648 + (q.2 - 2147483648) / 2 ^ k) else none
def mv_rg (g : mv_B) (v : mv_V) : Option (Nat × Nat) :=
  bif Nat.beq v.1 0 then some ((v.2 + 2147483648) % 4294967296, (v.2 + 2147483648) % 4294967296) else
  bif Nat.beq v.1 5 then some (mv_bd g v.2) else
  bif Nat.beq v.1 6 then mv_rg6 (v.2 / 16) (mv_bd g (v.2 % 16)) else none
def mv_sp (v w : mv_V) (a c : Nat × Nat) : Option ((Nat × Nat) ⊕ Bool) :=
  bif Nat.beq v.1 5 && !(Nat.beq a.1 a.2) then some (.inl (v.2, bif Nat.beq c.1 c.2 then c.1 else a.1)) else bif Nat.beq w.1 5 then some (.inl (w.2, bif Nat.beq a.1 a.2 then a.1 else c.1)) else none
/-- against a number that is known: parted in two (16 more than the unknown's own number) -/
def mv_sp2 (v w : mv_V) (a c : Nat × Nat) : Option ((Nat × Nat) ⊕ Bool) :=
  bif Nat.beq v.1 5 && Nat.beq c.1 c.2 then some (.inl (v.2 + 16, c.1)) else bif Nat.beq w.1 5 && Nat.beq a.1 a.2 then some (.inl (w.2 + 16, a.1 + 1)) else mv_sp v w a c
def mv_ltr (v w : mv_V) (a c : Nat × Nat) : Option ((Nat × Nat) ⊕ Bool) := bif Nat.blt a.2 c.1 then some (.inr true) else bif Nat.ble c.2 a.1 then some (.inr false) else mv_sp2 v w a c
def mv_ltg (g : mv_B) (v w : mv_V) : Option ((Nat × Nat) ⊕ Bool) := match mv_rg g v, mv_rg g w with
  | some a, some c => mv_ltr v w a c
  | _, _ => none
def mv_lt (g : mv_B) (v w : mv_V) : Option ((Nat × Nat) ⊕ Bool) := bif Nat.beq v.1 0 && Nat.beq w.1 0 then some (.inr (Nat.blt ((v.2 + 2147483648) % 4294967296) ((w.2 + 2147483648) % 4294967296))) else mv_ltg g v w
def mv_eqr (v w : mv_V) (a c : Nat × Nat) : Option ((Nat × Nat) ⊕ Bool) := bif Nat.blt a.2 c.1 || Nat.blt c.2 a.1 then some (.inr false) else bif Nat.beq a.1 a.2 && Nat.beq c.1 c.2 then some (.inr true) else mv_sp v w a c
def mv_eqg (g : mv_B) (v w : mv_V) : Option ((Nat × Nat) ⊕ Bool) := match mv_rg g v, mv_rg g w with
  | some a, some c => mv_eqr v w a c
  | _, _ => none
def mv_eq (g : mv_B) (v w : mv_V) : Option ((Nat × Nat) ⊕ Bool) := bif Nat.beq v.1 0 && Nat.beq w.1 0 then some (.inr (Nat.beq (v.2 % 4294967296) (w.2 % 4294967296))) else mv_eqg g v w
def mv_no (x : Option ((Nat × Nat) ⊕ Bool)) : Option ((Nat × Nat) ⊕ Bool) := match x with
  | some (.inr q) => some (.inr (!q))
  | y => y
def mv_cm (g : mv_B) (o : ClassFile.Cond) (v w : mv_V) : Option ((Nat × Nat) ⊕ Bool) := match o with
  | .eq => mv_eq g v w
  | .ne => mv_no (mv_eq g v w)
  | .lt => mv_lt g v w
  | .ge => mv_no (mv_lt g v w)
  | .gt => mv_lt g w v
  | .le => mv_no (mv_lt g w v)
/-- a step: where to part an unknown; or the target of a jump, the locals, the stack, the things, how many cells and slots were made -/
abbrev mv_S : Type := Option ((Nat × Nat) ⊕ (Option Nat × mv_L × List mv_V × List mv_C × Nat × Nat))
noncomputable def mv_lk (loc : mv_L) (i : Nat) : Option mv_V := List.rec (motive := fun _ => Option mv_V) none (fun q _ ih => bif Nat.beq q.1 i then some q.2 else ih) loc
def mv_d1 (i : Nat) (q : Nat × mv_V) : Bool := bif Nat.beq q.1 i then false else bif Nat.beq (q.1 + 1) i then !mv_w2 q.2 else true
def mv_d2 (i : Nat) (q : Nat × mv_V) : Bool := bif Nat.beq q.1 i then false else bif Nat.beq q.1 (i + 1) then false else bif Nat.beq (q.1 + 1) i then !mv_w2 q.2 else true
section
variable (g : mv_B) (loc : mv_L) (st : List mv_V) (h : List mv_C) (nc ns : Nat)
def mv_go (s2 : List mv_V) : mv_S := some (.inr (none, loc, s2, h, nc, ns))
/-- a local on the stack -/
noncomputable def mv_ld (f : mv_V → Bool) (i : Nat) : mv_S := match mv_lk loc i with
  | some v => bif f v then mv_go loc h nc ns (v :: st) else none
  | none => none
noncomputable def mv_sto (f : mv_V → Bool) (nL i : Nat) : mv_S := match st with
  | v :: s2 => bif f v && Nat.blt i nL then mv_fi (mv_d1 i) loc (fun q => some (.inr (none, (i, v) :: q, s2, h, nc, ns))) else none
  | _ => none
noncomputable def mv_sto2 (f : mv_V → Bool) (nL i : Nat) : mv_S := match st with
  | v :: s2 => bif f v && Nat.blt (i + 1) nL then mv_fi (mv_d2 i) loc (fun q => some (.inr (none, (i, v) :: q, s2, h, nc, ns))) else none
  | _ => none
noncomputable def mv_un (f : Nat → mv_V) : mv_S := match st with
  | x :: s2 => match mv_cI g x with
    | some (.inr a) => mv_fo (f a).2 (fun n => mv_go loc h nc ns (((f a).1, n) :: s2))
    | some (.inl q) => some (.inl q)
    | none => none
  | _ => none
noncomputable def mv_bi (f : Nat → Nat → Option Nat) : mv_S := match st with
  | y :: x :: s2 => match mv_cI g x with
    | some (.inr a) => match mv_cI g y with
      | some (.inr c) => match f a c with
        | some n => mv_fo n (fun n => mv_go loc h nc ns ((0, n) :: s2))
        | none => none
      | some (.inl q) => some (.inl q)
      | none => none
    | some (.inl q) => some (.inl q)
    | none => none
  | _ => none
/-- two longs -/
noncomputable def mv_bl (f : Nat → Nat → mv_V) : mv_S := match st with
  | y :: x :: s2 => bif mv_isJ x && mv_isJ y then mv_fo (f x.2 y.2).2 (fun n => mv_go loc h nc ns (((f x.2 y.2).1, n) :: s2)) else none
  | _ => none
noncomputable def mv_b4 (f : Nat → Nat → mv_V) : mv_S := match st with
  | y :: x :: s2 => bif mv_isD x && mv_isD y then mv_fo (f x.2 y.2).2 (fun n => mv_go loc h nc ns (((f x.2 y.2).1, n) :: s2)) else none
  | _ => none
noncomputable def mv_dd : mv_S := match st with
  | y :: x :: s2 => bif mv_isD y && (mv_isD x && decide (FP.ddiv (UInt64.ofNat x.2) (UInt64.ofNat y.2) &&& 0x7fffffffffffffff ≤ 0x7ff0000000000000)) then mv_fo (FP.ddiv (UInt64.ofNat x.2) (UInt64.ofNat y.2)).toNat (fun n => mv_go loc h nc ns ((4, n) :: s2)) else none
  | _ => none
def mv_br (o : ClassFile.Cond) (v w : mv_V) (s2 : List mv_V) (t : Nat) : mv_S := match mv_cm g o v w with
  | some (.inr true) => some (.inr (some t, loc, s2, h, nc, ns))
  | some (.inr false) => mv_go loc h nc ns s2
  | some (.inl q) => some (.inl q)
  | none => none
/-- an array's row and a place in it -/
noncomputable def mv_ar (t : Nat) (y x : mv_V) (k : Nat → List mv_V → Nat → mv_S) : mv_S :=
  bif Nat.beq x.1 2 then match mv_cI g y with
    | some (.inr a) => match mv_gt h x.2 with
      | some c => bif Nat.beq c.1 t && (Nat.blt a c.2.length && Nat.blt c.2.length 65536) then k x.2 c.2 a else none
      | none => none
    | some (.inl q) => some (.inl q)
    | none => none
  else none
noncomputable def mv_ald (t : Nat) (f : mv_V → Bool) : mv_S := match st with
  | y :: x :: s2 => mv_ar g h t y x (fun _ l a => match mv_gt l a with
    | some v => bif f v then mv_go loc h nc ns (v :: s2) else none
    | none => none)
  | _ => none
noncomputable def mv_ast (t : Nat) (f : mv_V → Bool) : mv_S := match st with
  | v :: y :: x :: s2 => bif f v then mv_ar g h t y x (fun k l a => mv_ls l a v (fun l2 => mv_ls h k (t, l2) (fun h2 => mv_go loc h2 nc ns s2))) else none
  | _ => none
/-- booleans alone may be kept as such -/
noncomputable def mv_zst : mv_S := match st with
  | v :: y :: x :: s2 => match mv_cI g v with
    | some (.inr z) => bif Nat.blt z 2 then mv_ar g h 2 y x (fun k l a => mv_ls l a (0, z) (fun l2 => mv_ls h k (2, l2) (fun h2 => mv_go loc h2 nc ns s2))) else none
    | some (.inl q) => some (.inl q)
    | none => none
  | _ => none
noncomputable def mv_len : mv_S := match st with
  | x :: s2 => bif Nat.beq x.1 2 then match mv_gt h x.2 with
      | some c => bif Nat.blt c.1 3 then mv_fo c.2.length (fun n => mv_go loc h nc ns ((0, n) :: s2)) else none
      | none => none
    else none
  | _ => none
noncomputable def mv_gf (ci k : Nat) : mv_S := match st with
  | x :: s2 => bif Nat.beq x.1 2 then match mv_gt h x.2 with
      | some c => bif Nat.beq c.1 (ci + 4) then match mv_gt c.2 k with
          | some v => mv_go loc h nc ns (v :: s2)
          | none => none
        else none
      | none => none
    else none
  | _ => none
/-- what a field of a kind (0 int, 1 boolean, 2 reference) may hold -/
def mv_fits (t : Nat) (v : mv_V) : Bool := bif Nat.beq t 0 then mv_isI v else bif Nat.beq t 1 then Nat.beq v.1 0 && Nat.blt v.2 2 else bif Nat.beq v.1 1 then true else Nat.beq v.1 2
noncomputable def mv_pf (ci k t : Nat) : mv_S := match st with
  | v :: x :: s2 => bif Nat.beq x.1 2 && mv_fits t v then match mv_gt h x.2 with
      | some c => bif Nat.beq c.1 (ci + 4) && Nat.blt k c.2.length then mv_ls c.2 k v (fun l2 => mv_ls h x.2 (ci + 4, l2) (fun h2 => mv_go loc h2 nc ns s2)) else none
      | none => none
    else none
  | _ => none
/-- an array of a kind -/
noncomputable def mv_na (t : Nat) : mv_S := match st with
  | y :: s2 => match mv_cI g y with
    | some (.inr n) => bif Nat.blt n 65536 then mv_fo h.length (fun q => mv_sn h (t, List.replicate n (bif Nat.beq t 1 then (3, 0) else (0, 0))) (fun h2 => some (.inr (none, loc, (2, q) :: s2, h2, nc + 1, ns + n)))) else none
    | some (.inl q) => some (.inl q)
    | none => none
  | _ => none
/-- an object of class ci with these fields -/
noncomputable def mv_nw (ci : Nat) (l : List mv_V) : mv_S := mv_fo h.length (fun q => mv_sn h (ci + 4, l) (fun h2 => some (.inr (none, loc, (2, q) :: st, h2, nc + 1, ns + l.length))))
noncomputable def mv_inc (nL i n : Nat) : mv_S := match mv_lk loc i with
  | some v => match mv_cI g v with
    | some (.inr a) => bif Nat.blt i nL then mv_fo ((a + n) % 4294967296) (fun q => mv_fi (mv_d1 i) loc (fun l2 => some (.inr (none, (i, (0, q)) :: l2, st, h, nc, ns)))) else none
    | some (.inl q) => some (.inl q)
    | none => none
  | none => none
/-- the unknown 0, its last five bits: the unknown 8 -/
noncomputable def mv_and : mv_S := match st with
  | y :: x :: s2 => bif Nat.beq x.1 5 && (Nat.beq x.2 0 && (Nat.beq y.1 0 && Nat.beq y.2 31)) then mv_go loc h nc ns ((5, 8) :: s2) else mv_bi g loc st h nc ns (fun a c => some (Nat.land a c % 4294967296))
  | _ => none
noncomputable def mv_ush : mv_S := match st with
  | y :: x :: s2 => bif Nat.beq y.1 0 && (Nat.beq x.1 5 && (Nat.blt y.2 32 && Nat.blt x.2 16)) then
      bif Nat.ble 2147483648 (mv_bd g x.2).1 then
        bif Nat.blt 0 (((mv_bd g x.2).1 - 2147483648) / 2 ^ y.2) then mv_go loc h nc ns ((6, x.2 + 16 * y.2) :: s2)
        else bif Nat.beq (mv_bd g x.2).1 (mv_bd g x.2).2 then mv_bi g loc st h nc ns (fun a c => some (mv_co (((nI a).toUInt32 >>> ((nI c).toUInt32 &&& Int32.toUInt32 31)).toInt32))) else some (.inl (x.2, (mv_bd g x.2).1))
      else some (.inl (x.2, 2147483648))
    else mv_bi g loc st h nc ns (fun a c => some (mv_co (((nI a).toUInt32 >>> ((nI c).toUInt32 &&& Int32.toUInt32 31)).toInt32)))
  | _ => none
/-- the script's length is the unknown 10, what stands in it are the unknowns 0 to 7; behind the eighth int 24, 25 .. -/
noncomputable def mv_sld (y : mv_V) (s2 : List mv_V) : mv_S := match mv_cI g y with
      | some (.inr a) => bif Nat.ble 2147483648 (mv_bd g 10).1 && Nat.blt a ((mv_bd g 10).1 - 2147483648) then mv_fo (bif Nat.blt a 8 then a else a + 16) (fun i => match mv_cI g (5, i) with
        | some (.inr n) => mv_go loc h nc ns ((0, n) :: s2)
        | _ => mv_go loc h nc ns ((5, i) :: s2)) else none
      | some (.inl q) => some (.inl q)
      | none => none
noncomputable def mv_iald : mv_S := match st with
  | y :: x :: s2 => bif Nat.beq x.1 7 then mv_sld g loc h nc ns y s2
    else mv_ald g loc st h nc ns 0 mv_isI
  | _ => none
noncomputable def mv_alen : mv_S := match st with
  | x :: s2 => bif Nat.beq x.1 7 then mv_go loc h nc ns ((5, 10) :: s2) else mv_len loc st h nc ns
  | _ => none
noncomputable def mv_tsw (pc : Nat) (d lo hi : Int) (offs : Array Int) : mv_S := match st with
  | x :: s2 => match mv_cI g x with
    | some (.inr a) => bif decide ((nI a).toInt < lo) || decide (hi < (nI a).toInt) then bif decide (0 ≤ (pc : Int) + d) then mv_fo ((pc : Int) + d).toNat (fun q => some (.inr (some q, loc, s2, h, nc, ns))) else none
      else match offs[((nI a).toInt - lo).toNat]? with
        | some o => bif decide (0 ≤ (pc : Int) + o) then mv_fo ((pc : Int) + o).toNat (fun q => some (.inr (some q, loc, s2, h, nc, ns))) else none
        | none => none
    | some (.inl q) => some (.inl q)
    | none => none
  | _ => none
noncomputable def mv_lsw (pc : Nat) (d : Int) (ps : Array (Int × Int)) : mv_S := match st with
  | x :: s2 => match mv_cI g x with
    | some (.inr a) => bif (ps.toList.zip (ps.toList.drop 1)).all (fun (a, next) => a.1 < next.1) && decide (0 ≤ (pc : Int) + Op.lookupswitch.offset ps.toList d (nI a).toInt) then mv_fo ((pc : Int) + Op.lookupswitch.offset ps.toList d (nI a).toInt).toNat (fun q => some (.inr (some q, loc, s2, h, nc, ns))) else none
    | some (.inl q) => some (.inl q)
    | none => none
  | _ => none
def mv_dup : mv_S := match st with
  | x :: s2 => bif mv_w2 x then none else mv_go loc h nc ns (x :: x :: s2)
  | _ => none
def mv_pop : mv_S := match st with
  | x :: s2 => bif mv_w2 x then none else mv_go loc h nc ns s2
  | _ => none
def mv_pop2 : mv_S := match st with
  | x :: s2 => bif mv_w2 x then mv_go loc h nc ns s2 else none
  | _ => none
def mv_dupx : mv_S := match st with
  | x :: y :: s2 => bif mv_w2 x || mv_w2 y then none else mv_go loc h nc ns (x :: y :: x :: s2)
  | _ => none
def mv_dup2 : mv_S := match st with
  | x :: s2 => bif mv_w2 x then mv_go loc h nc ns (x :: x :: s2) else match s2 with
    | y :: s3 => bif mv_w2 y then none else mv_go loc h nc ns (x :: y :: x :: y :: s3)
    | _ => none
  | _ => none
def mv_if (o : ClassFile.Cond) (t : Nat) : mv_S := match st with
  | x :: s2 => mv_br g loc h nc ns o x (0, 0) s2 t
  | _ => none
def mv_ic (o : ClassFile.Cond) (t : Nat) : mv_S := match st with
  | y :: x :: s2 => mv_br g loc h nc ns o x y s2 t
  | _ => none
/-- one instruction that is no call and no end -/
noncomputable def mv_s1 (dv : Nat → List mv_V) (nL : Nat) (i : Instr) (pc a b : Nat) : mv_S := match i with
  | .iconst _ => mv_go loc h nc ns ((0, a) :: st)
  | .bipush _ => mv_go loc h nc ns ((0, a) :: st)
  | .sipush _ => mv_go loc h nc ns ((0, a) :: st)
  | .ldc _ => mv_go loc h nc ns ((0, a) :: st)
  | .ldc_w _ => mv_go loc h nc ns ((0, a) :: st)
  | .lconst _ => mv_go loc h nc ns ((3, a) :: st)
  | .ldc2_w _ => mv_go loc h nc ns ((3, a) :: st)
  | .dconst _ => mv_go loc h nc ns ((4, a) :: st)
  | .iload_n _ => mv_ld loc st h nc ns mv_isI a
  | .iload _ => mv_ld loc st h nc ns mv_isI a
  | .lload_n _ => mv_ld loc st h nc ns mv_isJ a
  | .lload _ => mv_ld loc st h nc ns mv_isJ a
  | .dload_n _ => mv_ld loc st h nc ns mv_isD a
  | .dload _ => mv_ld loc st h nc ns mv_isD a
  | .aload_n _ => mv_ld loc st h nc ns mv_isA a
  | .aload _ => mv_ld loc st h nc ns mv_isA a
  | .istore_n _ => mv_sto loc st h nc ns mv_isI nL a
  | .istore _ => mv_sto loc st h nc ns mv_isI nL a
  | .astore_n _ => mv_sto loc st h nc ns mv_isA nL a
  | .astore _ => mv_sto loc st h nc ns mv_isA nL a
  | .lstore_n _ => mv_sto2 loc st h nc ns mv_isJ nL a
  | .lstore _ => mv_sto2 loc st h nc ns mv_isJ nL a
  | .dstore_n _ => mv_sto2 loc st h nc ns mv_isD nL a
  | .dstore _ => mv_sto2 loc st h nc ns mv_isD nL a
  | .iinc _ _ => mv_inc g loc st h nc ns nL a b
  | .iadd => mv_bi g loc st h nc ns (fun x y => some ((x + y) % 4294967296))
  | .isub => mv_bi g loc st h nc ns (fun x y => some ((x + (4294967296 - y % 4294967296)) % 4294967296))
  | .imul => mv_bi g loc st h nc ns (fun x y => some (x * y % 4294967296))
  | .iand => mv_and g loc st h nc ns
  | .ior => mv_bi g loc st h nc ns (fun x y => some (Nat.lor x y % 4294967296))
  | .ixor => mv_bi g loc st h nc ns (fun x y => some (Nat.xor x y % 4294967296))
  | .idiv => mv_bi g loc st h nc ns (fun x y => bif decide (nI y = 0) then none else some (mv_co (nI x / nI y)))
  | .irem => mv_bi g loc st h nc ns (fun x y => bif decide (nI y = 0) then none else some (mv_co (nI x - (nI x / nI y) * nI y)))
  | .ishl => mv_bi g loc st h nc ns (fun x y => some (mv_co (nI x <<< (nI y &&& 31))))
  | .ishr => mv_bi g loc st h nc ns (fun x y => some (mv_co (nI x >>> (nI y &&& 31))))
  | .iushr => mv_ush g loc st h nc ns
  | .i2l => mv_un g loc st h nc ns (fun x => (3, mv_cl (nI x).toInt64))
  | .i2d => mv_un g loc st h nc ns (fun x => (4, (FP.i2d (nI x)).toNat))
  | .ladd => mv_bl loc st h nc ns (fun x y => (3, mv_cl (lN x + lN y)))
  | .lmul => mv_bl loc st h nc ns (fun x y => (3, mv_cl (lN x * lN y)))
  | .lcmp => mv_bl loc st h nc ns (fun x y => (0, mv_co (lg_cmp (lN x) (lN y))))
  | .ddiv => mv_dd loc st h nc ns
  | .dcmp o => mv_b4 loc st h nc ns (fun x y => (0, mv_co (Op.cmpValue (FP.dcmp (UInt64.ofNat x) (UInt64.ofNat y)) o)))
  | .dup => mv_dup loc st h nc ns
  | .pop => mv_pop loc st h nc ns
  | .pop2 => mv_pop2 loc st h nc ns
  | .dup_x1 => mv_dupx loc st h nc ns
  | .dup2 => mv_dup2 loc st h nc ns
  | .ifCond o _ => mv_if g loc st h nc ns o a
  | .if_icmp o _ => mv_ic g loc st h nc ns o a
  | .goto _ => some (.inr (some a, loc, st, h, nc, ns))
  | .tableswitch d lo hi offs => mv_tsw g loc st h nc ns pc d lo hi offs
  | .lookupswitch d ps => mv_lsw g loc st h nc ns pc d ps
  | .getfield _ => mv_gf loc st h nc ns a b
  | .putfield _ => mv_pf loc st h nc ns a (b / 4) (b % 4)
  | .iaload => mv_iald g loc st h nc ns
  | .laload => mv_ald g loc st h nc ns 1 mv_isJ
  | .baload => mv_ald g loc st h nc ns 2 mv_isI
  | .iastore => mv_ast g loc st h nc ns 0 mv_isI
  | .lastore => mv_ast g loc st h nc ns 1 mv_isJ
  | .bastore => mv_zst g loc st h nc ns
  | .arraylength => mv_alen loc st h nc ns
  | .newarray _ => mv_na g loc st h nc ns a
  | .new _ => mv_nw loc st h nc ns a (dv a)
  | _ => none
end
/-- an instruction's number -/
def mv_oc (i : Instr) : Nat := match i with
  | .iload_n _ => 40
  | .iload _ => 40
  | .aload_n _ => 41
  | .aload _ => 41
  | .iconst _ => 42
  | .bipush _ => 42
  | .sipush _ => 42
  | .ldc _ => 42
  | .ldc_w _ => 42
  | .getfield _ => 43
  | .iaload => 44
  | .goto _ => 45
  | .istore_n _ => 46
  | .istore _ => 46
  | .iinc _ _ => 47
  | .if_icmp .eq _ => 48
  | .if_icmp .ne _ => 49
  | .if_icmp .lt _ => 50
  | .if_icmp .ge _ => 51
  | .if_icmp .gt _ => 52
  | .if_icmp .le _ => 53
  | .iadd => 54
  | .putfield _ => 55
  | .ifCond .eq _ => 56
  | .ifCond .ne _ => 57
  | .ifCond .lt _ => 58
  | .ifCond .ge _ => 59
  | .ifCond .gt _ => 60
  | .ifCond .le _ => 61
  | .imul => 62
  | .iastore => 63
  | .iand => 64
  | .ior => 65
  | .ixor => 66
  | .isub => 67
  | .idiv => 68
  | .irem => 69
  | .ishl => 70
  | .ishr => 71
  | .lload_n _ => 72
  | .lload _ => 72
  | .dload_n _ => 73
  | .dload _ => 73
  | .astore_n _ => 74
  | .astore _ => 74
  | .lstore_n _ => 75
  | .lstore _ => 75
  | .dstore_n _ => 76
  | .dstore _ => 76
  | .dup => 77
  | .pop => 78
  | .dup_x1 => 79
  | .dup2 => 80
  | .laload => 81
  | .baload => 82
  | .lastore => 83
  | .bastore => 84
  | .arraylength => 85
  | .newarray _ => 86
  | .new _ => 87
  | .lconst _ => 88
  | .ldc2_w _ => 88
  | .dconst _ => 89
  | .i2l => 90
  | .i2d => 91
  | .ladd => 92
  | .lmul => 93
  | .lcmp => 94
  | .ddiv => 95
  | .iushr => 96
  | _ => 97
section
variable (g : mv_B) (loc : mv_L) (st : List mv_V) (h : List mv_C) (nc ns : Nat)
noncomputable def mv_h0 (nL a b o : Nat) : mv_S :=
  bif Nat.ble o 43 then
    bif Nat.ble o 41 then bif Nat.beq o 40 then mv_ld loc st h nc ns mv_isI a else mv_ld loc st h nc ns mv_isA a
    else bif Nat.beq o 42 then mv_go loc h nc ns ((0, a) :: st) else mv_gf loc st h nc ns a b
  else
    bif Nat.ble o 45 then bif Nat.beq o 44 then mv_iald g loc st h nc ns else some (.inr (some a, loc, st, h, nc, ns))
    else bif Nat.beq o 46 then mv_sto loc st h nc ns mv_isI nL a else mv_inc g loc st h nc ns nL a b
noncomputable def mv_h1 (a b o : Nat) : mv_S :=
  bif Nat.ble o 51 then
    bif Nat.ble o 49 then bif Nat.beq o 48 then mv_ic g loc st h nc ns .eq a else mv_ic g loc st h nc ns .ne a
    else bif Nat.beq o 50 then mv_ic g loc st h nc ns .lt a else mv_ic g loc st h nc ns .ge a
  else
    bif Nat.ble o 53 then bif Nat.beq o 52 then mv_ic g loc st h nc ns .gt a else mv_ic g loc st h nc ns .le a
    else bif Nat.beq o 54 then mv_bi g loc st h nc ns (fun x y => some ((x + y) % 4294967296)) else mv_pf loc st h nc ns a (b / 4) (b % 4)
noncomputable def mv_h2 (a o : Nat) : mv_S :=
  bif Nat.ble o 59 then
    bif Nat.ble o 57 then bif Nat.beq o 56 then mv_if g loc st h nc ns .eq a else mv_if g loc st h nc ns .ne a
    else bif Nat.beq o 58 then mv_if g loc st h nc ns .lt a else mv_if g loc st h nc ns .ge a
  else
    bif Nat.ble o 61 then bif Nat.beq o 60 then mv_if g loc st h nc ns .gt a else mv_if g loc st h nc ns .le a
    else bif Nat.beq o 62 then mv_bi g loc st h nc ns (fun x y => some (x * y % 4294967296)) else mv_ast g loc st h nc ns 0 mv_isI
noncomputable def mv_h3 (o : Nat) : mv_S :=
  bif Nat.ble o 67 then
    bif Nat.ble o 65 then bif Nat.beq o 64 then mv_and g loc st h nc ns else mv_bi g loc st h nc ns (fun x y => some (Nat.lor x y % 4294967296))
    else bif Nat.beq o 66 then mv_bi g loc st h nc ns (fun x y => some (Nat.xor x y % 4294967296)) else mv_bi g loc st h nc ns (fun x y => some ((x + (4294967296 - y % 4294967296)) % 4294967296))
  else
    bif Nat.ble o 69 then bif Nat.beq o 68 then mv_bi g loc st h nc ns (fun x y => bif decide (nI y = 0) then none else some (mv_co (nI x / nI y))) else mv_bi g loc st h nc ns (fun x y => bif decide (nI y = 0) then none else some (mv_co (nI x - (nI x / nI y) * nI y)))
    else bif Nat.beq o 70 then mv_bi g loc st h nc ns (fun x y => some (mv_co (nI x <<< (nI y &&& 31)))) else mv_bi g loc st h nc ns (fun x y => some (mv_co (nI x >>> (nI y &&& 31))))
noncomputable def mv_h4 (nL a o : Nat) : mv_S :=
  bif Nat.ble o 75 then
    bif Nat.ble o 73 then bif Nat.beq o 72 then mv_ld loc st h nc ns mv_isJ a else mv_ld loc st h nc ns mv_isD a
    else bif Nat.beq o 74 then mv_sto loc st h nc ns mv_isA nL a else mv_sto2 loc st h nc ns mv_isJ nL a
  else
    bif Nat.ble o 77 then bif Nat.beq o 76 then mv_sto2 loc st h nc ns mv_isD nL a else mv_dup loc st h nc ns
    else bif Nat.beq o 78 then mv_pop loc st h nc ns else mv_dupx loc st h nc ns
noncomputable def mv_h5 (dv : Nat → List mv_V) (a o : Nat) : mv_S :=
  bif Nat.ble o 83 then
    bif Nat.ble o 81 then bif Nat.beq o 80 then mv_dup2 loc st h nc ns else mv_ald g loc st h nc ns 1 mv_isJ
    else bif Nat.beq o 82 then mv_ald g loc st h nc ns 2 mv_isI else mv_ast g loc st h nc ns 1 mv_isJ
  else
    bif Nat.ble o 85 then bif Nat.beq o 84 then mv_zst g loc st h nc ns else mv_alen loc st h nc ns
    else bif Nat.beq o 86 then mv_na g loc st h nc ns a else mv_nw loc st h nc ns a (dv a)
noncomputable def mv_h6 (a o : Nat) : mv_S :=
  bif Nat.ble o 91 then
    bif Nat.ble o 89 then bif Nat.beq o 88 then mv_go loc h nc ns ((3, a) :: st) else mv_go loc h nc ns ((4, a) :: st)
    else bif Nat.beq o 90 then mv_un g loc st h nc ns (fun x => (3, mv_cl (nI x).toInt64)) else mv_un g loc st h nc ns (fun x => (4, (FP.i2d (nI x)).toNat))
  else
    bif Nat.ble o 93 then bif Nat.beq o 92 then mv_bl loc st h nc ns (fun x y => (3, mv_cl (lN x + lN y))) else mv_bl loc st h nc ns (fun x y => (3, mv_cl (lN x * lN y)))
    else bif Nat.beq o 94 then mv_bl loc st h nc ns (fun x y => (0, mv_co (lg_cmp (lN x) (lN y))))
    else mv_dd loc st h nc ns
/-- the same by its number -/
noncomputable def mv_sf (dv : Nat → List mv_V) (nL : Nat) (i : Instr) (pc a b o : Nat) : mv_S :=
  bif Nat.ble o 55 then bif Nat.ble o 47 then mv_h0 g loc st h nc ns nL a b o else mv_h1 g loc st h nc ns a b o
  else bif Nat.ble o 71 then bif Nat.ble o 63 then mv_h2 g loc st h nc ns a o else mv_h3 g loc st h nc ns o
  else bif Nat.ble o 87 then bif Nat.ble o 79 then mv_h4 loc st h nc ns nL a o else mv_h5 g loc st h nc ns dv a o
  else bif Nat.ble o 95 then mv_h6 g loc st h nc ns a o else bif Nat.beq o 96 then mv_ush g loc st h nc ns else mv_s1 g loc st h nc ns dv nL i pc a b
set_option maxHeartbeats 4000000 in
theorem mv_sf_eq (dv : Nat → List mv_V) (nL : Nat) (i : Instr) (pc a b : Nat) : mv_sf g loc st h nc ns dv nL i pc a b (mv_oc i) = mv_s1 g loc st h nc ns dv nL i pc a b := by
  cases i with
  | if_icmp c o => cases c <;> rfl
  | ifCond c o => cases c <;> rfl
  | _ => rfl
end
/-- an unknown, parted at a number in three -/
noncomputable def mv_pt3 (g : mv_B) (q : Nat × Nat) (f : mv_B → Bool) : Bool :=
  bif Nat.blt q.1 g.length then
    (bif Nat.blt (mv_bd g q.1).1 q.2 then mv_fo (mv_bd g q.1).1 (fun x => mv_fo (q.2 - 1) (fun y => mv_ls g q.1 (x, y) f)) else true) &&
    (mv_fo q.2 (fun x => mv_ls g q.1 (x, x) f) &&
    (bif Nat.blt q.2 (mv_bd g q.1).2 then mv_fo (q.2 + 1) (fun x => mv_fo (mv_bd g q.1).2 (fun y => mv_ls g q.1 (x, y) f)) else true))
  else false
/-- .. in two -/
noncomputable def mv_pt2 (g : mv_B) (q : Nat × Nat) (f : mv_B → Bool) : Bool :=
  bif Nat.blt q.1 g.length then
    (bif Nat.blt (mv_bd g q.1).1 q.2 then mv_fo (mv_bd g q.1).1 (fun x => mv_fo (q.2 - 1) (fun y => mv_ls g q.1 (x, y) f)) else true) &&
    (bif Nat.ble q.2 (mv_bd g q.1).2 then mv_fo q.2 (fun x => mv_fo (mv_bd g q.1).2 (fun y => mv_ls g q.1 (x, y) f)) else true)
  else false
noncomputable def mv_pt (g : mv_B) (q : Nat × Nat) (f : mv_B → Bool) : Bool := bif Nat.ble 16 q.1 then mv_pt2 g (q.1 - 16, q.2) f else mv_pt3 g q f
/-- name, code, locals, result, how many arguments (but the receiver), kind, class, handlers -/
abbrev mv_I : Type := MethodName × ByteArray × Nat × Option FieldType × Nat × Nat × Nat × List (Nat × Nat × Nat × Nat)
def mv_cs : List mv_V → Nat
  | [] => 0
  | v :: t => (bif mv_w2 v then 2 else 1) + mv_cs t
/-- the last n of the stack, the first of them first, and the rest -/
def mv_tk : Nat → List mv_V → List mv_V → Option (List mv_V × List mv_V)
  | 0, s, acc => some (acc, s)
  | n + 1, v :: s, acc => mv_tk n s (v :: acc)
  | _ + 1, [], _ => none
def mv_ag : Nat → List mv_V → mv_L
  | _, [] => []
  | i, v :: t => (i, v) :: mv_ag (bif mv_w2 v then i + 2 else i + 1) t
/-- which of the handlers takes exception x at pc: its place -/
def mv_hd (xn : Nat → Nat) : List (Nat × Nat × Nat × Nat) → Nat → Nat → Option Nat
  | [], _, _ => none
  | q :: t, pc, x => bif Nat.ble q.1 pc && Nat.blt pc q.2.1 && Nat.beq (xn q.2.2.2) x then some q.2.2.1 else mv_hd xn t pc x
/-- the receiver is a thing of that class -/
noncomputable def mv_rc (h : List mv_C) (ci : Nat) (as : List mv_V) : Bool := match as with
  | v :: _ => Nat.beq v.1 2 && match mv_gt h v.2 with
    | some c => Nat.beq c.1 (ci + 4)
    | none => false
  | [] => false
abbrev mv_K : Type := mv_B → Nat × mv_V → List mv_C → Nat → Nat → Bool
abbrev mv_J : Type := Nat → Nat → Nat → List mv_E → mv_L → List mv_V → List mv_C → Nat → Nat → mv_B → mv_K → Bool
noncomputable def mv_x0 (ih : mv_J) (r : mv_S) (dep mid pc : Nat) (e : mv_E) (t : List mv_E) (loc : mv_L) (st : List mv_V) (h : List mv_C) (nc ns : Nat) (g : mv_B) (K : mv_K) : Bool := match r with
  | some (.inr (none, l2, s2, h2, c2, n2)) => ih dep mid (e.2.1 + e.2.2.1) t l2 s2 h2 c2 n2 g K
  | some (.inr (some q, l2, s2, h2, c2, n2)) => ih dep mid q [] l2 s2 h2 c2 n2 g K
  | some (.inl q) => mv_pt g q (fun g2 => ih dep mid pc (e :: t) loc st h nc ns g2 K)
  | none => false
noncomputable def mv_x1v (ih : mv_J) (v : mv_V) (dep mid pc : Nat) (e : mv_E) (t : List mv_E) (loc : mv_L) (st : List mv_V) (h : List mv_C) (nc ns : Nat) (g : mv_B) (K : mv_K) : Bool := match e.2.2.2.2.1 with
  | 1 => bif mv_isI v then K g (1, v) h nc ns else false
  | 2 => match mv_cI g v with
    | some (.inr z) => bif Nat.blt z 2 then mv_fo z (fun z => K g (1, (0, z)) h nc ns) else false
    | some (.inl q) => mv_pt g q (fun g2 => ih dep mid pc (e :: t) loc st h nc ns g2 K)
    | none => false
  | 3 => bif mv_isJ v then K g (1, v) h nc ns else false
  | 4 => bif mv_isD v then K g (1, v) h nc ns else false
  | 5 => bif Nat.beq v.1 2 then K g (1, v) h nc ns else false
  | _ => false
noncomputable def mv_x1 (ih : mv_J) (dep mid pc : Nat) (e : mv_E) (t : List mv_E) (loc : mv_L) (st : List mv_V) (h : List mv_C) (nc ns : Nat) (g : mv_B) (K : mv_K) : Bool := match st with
  | [] => bif Nat.beq e.2.2.2.2.1 0 then K g (0, (0, 0)) h nc ns else false
  | [v] => mv_x1v ih v dep mid pc e t loc st h nc ns g K
  | _ => false
noncomputable def mv_x2 (dep : Nat) (e : mv_E) (st : List mv_V) (h : List mv_C) (nc ns : Nat) (g : mv_B) (K : mv_K) : Bool :=
  bif Nat.blt 6 dep && Nat.ble (mv_cs st) 8 then mv_fo (nc + 1) (fun nc => mv_fo (ns + 6) (fun ns => mv_sn h (3, []) (fun h2 => K g (e.2.2.2.2.1 + 2, (0, 0)) h2 nc ns))) else false
noncomputable def mv_x3 (ih : mv_J) (dep mid : Nat) (e : mv_E) (t : List mv_E) (loc : mv_L) (st : List mv_V) (h : List mv_C) (nc ns : Nat) (g : mv_B) (K : mv_K) : Bool := match st with
  | v :: s2 => bif Nat.beq v.1 2 && (Nat.ble (mv_cs s2) 8 && Nat.blt 0 dep) then ih dep mid (e.2.1 + e.2.2.1) t loc s2 h nc ns g K else false
  | [] => false
/-- behind a call that threw -/
noncomputable def mv_x6 (bk : Nat → Nat → Option (List mv_E)) (mi : Nat → mv_I) (xn : Nat → Nat) (ih : mv_J) (x : Nat) (dep mid : Nat) (e : mv_E) (loc : mv_L) (K : mv_K) (g2 : mv_B) (h2 : List mv_C) (nc2 ns2 : Nat) : Bool :=
  match mv_hd xn (mi mid).2.2.2.2.2.2.2 e.2.1 x with
  | none => K g2 (x + 2, (0, 0)) h2 nc2 ns2
  | some hp => match bk mid hp with
    | some (e2 :: t2) => bif Nat.beq e2.2.2.2.1 20 then mv_fi (mv_d1 e2.2.2.2.2.1) loc (fun l2 => ih dep mid (e2.2.1 + e2.2.2.1) t2 l2 [] h2 nc2 ns2 g2 K) else false
    | _ => false
/-- behind a call -/
noncomputable def mv_x5 (bk : Nat → Nat → Option (List mv_E)) (mi : Nat → mv_I) (xn : Nat → Nat) (ih : mv_J) (dep mid : Nat) (e : mv_E) (t : List mv_E) (loc : mv_L) (rest : List mv_V) (nc ns : Nat) (K : mv_K) (g2 : mv_B) (res : Nat × mv_V) (h2 : List mv_C) (c2 n2 : Nat) : Bool :=
  mv_fo (nc + c2) (fun nc2 => mv_fo (ns + n2) (fun ns2 => match res.1 with
    | 0 => ih dep mid (e.2.1 + e.2.2.1) t loc rest h2 nc2 ns2 g2 K
    | 1 => ih dep mid (e.2.1 + e.2.2.1) t loc (res.2 :: rest) h2 nc2 ns2 g2 K
    | x + 2 => mv_x6 bk mi xn ih x dep mid e loc K g2 h2 nc2 ns2))
noncomputable def mv_x4 (bk : Nat → Nat → Option (List mv_E)) (mi : Nat → mv_I) (xn : Nat → Nat) (ih : mv_J) (k dep mid : Nat) (e : mv_E) (t : List mv_E) (loc : mv_L) (st : List mv_V) (h : List mv_C) (nc ns : Nat) (g : mv_B) (K : mv_K) : Bool := match dep with
  | 0 => false
  | d + 1 => match mv_tk ((mi e.2.2.2.2.1).2.2.2.2.1 + (bif Nat.beq k 6 || Nat.beq k 9 then 0 else 1)) st [] with
    | some (as, rest) => bif Nat.ble (mv_cs rest) 8 && Nat.ble (mv_cs as) (mi e.2.2.2.2.1).2.2.1 && (Nat.beq k 6 || (Nat.beq k 9 || mv_rc h (mi e.2.2.2.2.1).2.2.2.2.2.2.1 as)) then
        ih d e.2.2.2.2.1 0 [] (mv_ag 0 as) [] h 0 0 g (mv_x5 bk mi xn ih (d + 1) mid e t loc rest nc ns K)
      else false
    | none => false
noncomputable def mv_x8 (bk : Nat → Nat → Option (List mv_E)) (mi : Nat → mv_I) (xn : Nat → Nat) (ih : mv_J) (dep mid pc : Nat) (e : mv_E) (t : List mv_E) (loc : mv_L) (st : List mv_V) (h : List mv_C) (nc ns : Nat) (g : mv_B) (K : mv_K) : Bool := match e.2.2.2.1 with
  | 0 => false
  | 1 => mv_x1 ih dep mid pc e t loc st h nc ns g K
  | 2 => mv_x2 dep e st h nc ns g K
  | 3 => mv_x3 ih dep mid e t loc st h nc ns g K
  | k + 4 => bif Nat.ble k 5 then mv_x4 bk mi xn ih (k + 4) dep mid e t loc st h nc ns g K else false
/-- a run to the method's end: every end is one that K takes -/
noncomputable def mv_ev (bk : Nat → Nat → Option (List mv_E)) (mi : Nat → mv_I) (dv : Nat → List mv_V) (xn : Nat → Nat) (n : Nat) : mv_J :=
  Nat.rec (motive := fun _ => mv_J)
    (fun _ _ _ _ _ _ _ _ _ _ _ => false)
    (fun _ ih dep mid pc L loc st h nc ns g K => match L with
      | [] => match bk mid pc with
        | some (e :: t) => ih dep mid pc (e :: t) loc st h nc ns g K
        | _ => false
      | e :: t => bif Nat.ble 40 e.2.2.2.1 then mv_x0 ih (mv_sf g loc st h nc ns dv (mi mid).2.2.1 e.1 e.2.1 e.2.2.2.2.1 e.2.2.2.2.2 e.2.2.2.1) dep mid pc e t loc st h nc ns g K
        else mv_x8 bk mi xn ih dep mid pc e t loc st h nc ns g K) n
