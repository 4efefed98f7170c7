/-! ===== a call of a method that writes nothing, whose answer is the same for all that the bounds allow: nothing is parted. What writes nothing asks K of the same things alone ===== -/
theorem mv_pt3_mono {g : mv_B} {q : Nat × Nat} {f f2 : mv_B → Bool} (h1 : mv_pt3 g q f = true) (h : ∀ g2, f g2 = true → f2 g2 = true) : mv_pt3 g q f2 = true := by
  unfold mv_pt3 at h1 ⊢
  rcases mv_cnd h1 with ⟨hl, h1⟩ | ⟨-, h1⟩
  · rw [hl]
    simp only [Bool.and_eq_true, mv_fo_eq, mv_ls_eq] at h1
    obtain ⟨h2, h3, h4⟩ := h1
    show (_ && (_ && _)) = true
    simp only [Bool.and_eq_true, mv_fo_eq, mv_ls_eq]
    refine ⟨?_, h _ h3, ?_⟩
    · cases hb : Nat.blt (mv_bd g q.1).1 q.2
      · rfl
      · rw [hb] at h2; exact h _ h2
    · cases hb : Nat.blt q.2 (mv_bd g q.1).2
      · rfl
      · rw [hb] at h4; exact h _ h4
  · cases h1
theorem mv_pt2_mono {g : mv_B} {q : Nat × Nat} {f f2 : mv_B → Bool} (h1 : mv_pt2 g q f = true) (h : ∀ g2, f g2 = true → f2 g2 = true) : mv_pt2 g q f2 = true := by
  unfold mv_pt2 at h1 ⊢
  rcases mv_cnd h1 with ⟨hl, h1⟩ | ⟨-, h1⟩
  · rw [hl]
    simp only [Bool.and_eq_true, mv_fo_eq, mv_ls_eq] at h1
    obtain ⟨h2, h4⟩ := h1
    show (_ && _) = true
    simp only [Bool.and_eq_true, mv_fo_eq, mv_ls_eq]
    refine ⟨?_, ?_⟩
    · cases hb : Nat.blt (mv_bd g q.1).1 q.2
      · rfl
      · rw [hb] at h2; exact h _ h2
    · cases hb : Nat.ble q.2 (mv_bd g q.1).2
      · rfl
      · rw [hb] at h4; exact h _ h4
  · cases h1
theorem mv_pt_mono {g : mv_B} {q : Nat × Nat} {f f2 : mv_B → Bool} (h1 : mv_pt g q f = true) (h : ∀ g2, f g2 = true → f2 g2 = true) : mv_pt g q f2 = true := by
  unfold mv_pt at h1 ⊢
  rcases mv_cnd h1 with ⟨hl, h1⟩ | ⟨hl, h1⟩
  · rw [hl]; exact mv_pt2_mono h1 h
  · rw [hl]; exact mv_pt3_mono h1 h
def mv_pk (i : Instr) (k : Nat) : Bool := bif Nat.ble 40 k then Nat.beq k (mv_oc i) && mv_pu i else Nat.beq k 1 || (Nat.beq k 4 || (Nat.beq k 5 || Nat.beq k 6))
def mv_pL (L : List mv_E) : Bool := L.all (fun e => mv_pk e.1 e.2.2.2.1)
def mv_pj (J : mv_J) : Prop := ∀ (dep mid pc : Nat) (L : List mv_E) (loc : mv_L) (st : List mv_V) (h : List mv_C) (nc ns : Nat) (g : mv_B) (K K2 : mv_K), mv_pL L = true → (∀ g2 res c2 n2, K g2 res h c2 n2 = true → K2 g2 res h c2 n2 = true) → J dep mid pc L loc st h nc ns g K = true → J dep mid pc L loc st h nc ns g K2 = true
section MVME
variable {bk : Nat → Nat → Option (List mv_E)} {mi : Nat → mv_I} {dv : Nat → List mv_V} {xn : Nat → Nat} {J : mv_J}
theorem mv_x0_pj (hJ : mv_pj J) {S : mv_S} {dep mid pc : Nat} {e : mv_E} {t : List mv_E} {loc : mv_L} {st : List mv_V} {h : List mv_C} {nc ns : Nat} {g : mv_B} {K K2 : mv_K} (hS : ∀ x, S = some (.inr x) → mv_sm h x) (hL : mv_pL (e :: t) = true) (hK : ∀ g2 res c2 n2, K g2 res h c2 n2 = true → K2 g2 res h c2 n2 = true) (h1 : mv_x0 J S dep mid pc e t loc st h nc ns g K = true) : mv_x0 J S dep mid pc e t loc st h nc ns g K2 = true := by
  have ht : mv_pL t = true := (mv_a2 hL).2
  unfold mv_x0 at h1 ⊢
  match S, hS, h1 with
  | some (.inr (none, l2, s2, h2, c2, n2)), hS, h1 =>
    have e1 : h2 = h := hS _ rfl
    subst e1
    exact hJ _ _ _ _ _ _ _ _ _ _ _ _ ht hK h1
  | some (.inr (some q, l2, s2, h2, c2, n2)), hS, h1 =>
    have e1 : h2 = h := hS _ rfl
    subst e1
    exact hJ _ _ _ _ _ _ _ _ _ _ _ _ rfl hK h1
  | some (.inl q), hS, h1 => exact mv_pt_mono h1 (fun g2 h2 => hJ _ _ _ _ _ _ _ _ _ _ _ _ hL hK h2)
  | none, hS, h1 => cases h1
theorem mv_x1_pj (hJ : mv_pj J) {dep mid pc : Nat} {e : mv_E} {t : List mv_E} {loc : mv_L} {st : List mv_V} {h : List mv_C} {nc ns : Nat} {g : mv_B} {K K2 : mv_K} (hL : mv_pL (e :: t) = true) (hK : ∀ g2 res c2 n2, K g2 res h c2 n2 = true → K2 g2 res h c2 n2 = true) (h1 : mv_x1 J dep mid pc e t loc st h nc ns g K = true) : mv_x1 J dep mid pc e t loc st h nc ns g K2 = true := by
  unfold mv_x1 at h1 ⊢
  match st, h1 with
  | [], h1 =>
    rcases mv_cnd h1 with ⟨h2, h1⟩ | ⟨-, h1⟩
    · show (bif _ then _ else _) = true
      rw [h2]; exact hK _ _ _ _ h1
    · cases h1
  | [v], h1 =>
    have h1 : mv_x1v J v dep mid pc e t loc [v] h nc ns g K = true := h1
    show mv_x1v J v dep mid pc e t loc [v] h nc ns g K2 = true
    unfold mv_x1v at h1 ⊢
    generalize e.2.2.2.2.1 = a at h1 ⊢
    match a, h1 with
    | 0, h1 => cases h1
    | 1, h1 =>
      rcases mv_cnd h1 with ⟨h2, h1⟩ | ⟨-, h1⟩
      · show (bif _ then _ else _) = true
        rw [h2]; exact hK _ _ _ _ h1
      · cases h1
    | 2, h1 =>
      generalize mv_cI g v = z at h1 ⊢
      match z, h1 with
      | some (.inr z), h1 =>
        have h1 : (bif Nat.blt z 2 then mv_fo z (fun z => K g (1, (0, z)) h nc ns) else false) = true := h1
        rcases mv_cnd h1 with ⟨h2, h1⟩ | ⟨-, h1⟩
        · show (bif Nat.blt z 2 then mv_fo z (fun z => K2 g (1, (0, z)) h nc ns) else false) = true
          rw [h2]
          rw [mv_fo_eq] at h1
          show mv_fo z (fun z => K2 g (1, (0, z)) h nc ns) = true
          rw [mv_fo_eq]
          exact hK _ _ _ _ h1
        · cases h1
      | some (.inl q), h1 => exact mv_pt_mono h1 (fun g2 h2 => hJ _ _ _ _ _ _ _ _ _ _ _ _ hL hK h2)
      | none, h1 => cases h1
    | 3, h1 =>
      rcases mv_cnd h1 with ⟨h2, h1⟩ | ⟨-, h1⟩
      · show (bif _ then _ else _) = true
        rw [h2]; exact hK _ _ _ _ h1
      · cases h1
    | 4, h1 =>
      rcases mv_cnd h1 with ⟨h2, h1⟩ | ⟨-, h1⟩
      · show (bif _ then _ else _) = true
        rw [h2]; exact hK _ _ _ _ h1
      · cases h1
    | 5, h1 =>
      rcases mv_cnd h1 with ⟨h2, h1⟩ | ⟨-, h1⟩
      · show (bif _ then _ else _) = true
        rw [h2]; exact hK _ _ _ _ h1
      · cases h1
    | a + 6, h1 => cases h1
  | v :: w :: s2, h1 => cases h1
theorem mv_x5_pj (hJ : mv_pj J) (hb : ∀ mid pc L, bk mid pc = some L → mv_pL L = true) {dep mid : Nat} {e : mv_E} {t : List mv_E} {loc : mv_L} {rest : List mv_V} {h : List mv_C} {nc ns : Nat} {K K2 : mv_K} (ht : mv_pL t = true) (hK : ∀ g2 res c2 n2, K g2 res h c2 n2 = true → K2 g2 res h c2 n2 = true) (g2 : mv_B) (res : Nat × mv_V) (c2 n2 : Nat) (h1 : mv_x5 bk mi xn J dep mid e t loc rest nc ns K g2 res h c2 n2 = true) : mv_x5 bk mi xn J dep mid e t loc rest nc ns K2 g2 res h c2 n2 = true := by
  unfold mv_x5 at h1 ⊢
  rw [mv_fo_eq, mv_fo_eq] at h1 ⊢
  obtain ⟨rk, rv⟩ := res
  match rk, h1 with
  | 0, h1 => exact hJ _ _ _ _ _ _ _ _ _ _ _ _ ht hK h1
  | 1, h1 => exact hJ _ _ _ _ _ _ _ _ _ _ _ _ ht hK h1
  | x + 2, h1 =>
    have h1 : mv_x6 bk mi xn J x dep mid e loc K g2 h (nc + c2) (ns + n2) = true := h1
    show mv_x6 bk mi xn J x dep mid e loc K2 g2 h (nc + c2) (ns + n2) = true
    unfold mv_x6 at h1 ⊢
    generalize mv_hd xn (mi mid).2.2.2.2.2.2.2 e.2.1 x = z at h1 ⊢
    match z, h1 with
    | none, h1 => exact hK _ _ _ _ h1
    | some hp, h1 =>
      cases hq : bk mid hp with
      | none =>
        have h1 : (match bk mid hp with
          | some (e2 :: t2) => bif Nat.beq e2.2.2.2.1 20 then mv_fi (mv_d1 e2.2.2.2.2.1) loc (fun l2 => J dep mid (e2.2.1 + e2.2.2.1) t2 l2 [] h (nc + c2) (ns + n2) g2 K) else false
          | _ => false) = true := h1
        rw [hq] at h1
        cases h1
      | some L =>
        have hpl := hb _ _ _ hq
        have h1 : (match bk mid hp with
          | some (e2 :: t2) => bif Nat.beq e2.2.2.2.1 20 then mv_fi (mv_d1 e2.2.2.2.2.1) loc (fun l2 => J dep mid (e2.2.1 + e2.2.2.1) t2 l2 [] h (nc + c2) (ns + n2) g2 K) else false
          | _ => false) = true := h1
        show (match bk mid hp with
          | some (e2 :: t2) => bif Nat.beq e2.2.2.2.1 20 then mv_fi (mv_d1 e2.2.2.2.2.1) loc (fun l2 => J dep mid (e2.2.1 + e2.2.2.1) t2 l2 [] h (nc + c2) (ns + n2) g2 K2) else false
          | _ => false) = true
        rw [hq] at h1 ⊢
        match L, hpl, h1 with
        | [], hpl, h1 => cases h1
        | e2 :: t2, hpl, h1 =>
          have h1 : (bif Nat.beq e2.2.2.2.1 20 then mv_fi (mv_d1 e2.2.2.2.2.1) loc (fun l2 => J dep mid (e2.2.1 + e2.2.2.1) t2 l2 [] h (nc + c2) (ns + n2) g2 K) else false) = true := h1
          show (bif Nat.beq e2.2.2.2.1 20 then mv_fi (mv_d1 e2.2.2.2.2.1) loc (fun l2 => J dep mid (e2.2.1 + e2.2.2.1) t2 l2 [] h (nc + c2) (ns + n2) g2 K2) else false) = true
          rcases mv_cnd h1 with ⟨h2, h1⟩ | ⟨-, h1⟩
          · rw [h2]
            show mv_fi _ _ _ = true
            rw [mv_fi_eq] at h1 ⊢
            exact hJ _ _ _ _ _ _ _ _ _ _ _ _ (mv_a2 hpl).2 hK h1
          · cases h1
theorem mv_x4_pj (hJ : mv_pj J) (hb : ∀ mid pc L, bk mid pc = some L → mv_pL L = true) {k dep mid : Nat} {e : mv_E} {t : List mv_E} {loc : mv_L} {st : List mv_V} {h : List mv_C} {nc ns : Nat} {g : mv_B} {K K2 : mv_K} (ht : mv_pL t = true) (hK : ∀ g2 res c2 n2, K g2 res h c2 n2 = true → K2 g2 res h c2 n2 = true) (h1 : mv_x4 bk mi xn J k dep mid e t loc st h nc ns g K = true) : mv_x4 bk mi xn J k dep mid e t loc st h nc ns g K2 = true := by
  unfold mv_x4 at h1 ⊢
  match dep, h1 with
  | 0, h1 => cases h1
  | d + 1, h1 =>
    generalize mv_tk ((mi e.2.2.2.2.1).2.2.2.2.1 + (bif Nat.beq k 6 || Nat.beq k 9 then 0 else 1)) st [] = z at h1 ⊢
    match z, h1 with
    | none, h1 => cases h1
    | some (as, rest), h1 =>
      have h1 : (bif Nat.ble (mv_cs rest) 8 && Nat.ble (mv_cs as) (mi e.2.2.2.2.1).2.2.1 && (Nat.beq k 6 || (Nat.beq k 9 || mv_rc h (mi e.2.2.2.2.1).2.2.2.2.2.2.1 as)) then J d e.2.2.2.2.1 0 [] (mv_ag 0 as) [] h 0 0 g (mv_x5 bk mi xn J (d + 1) mid e t loc rest nc ns K) else false) = true := h1
      show (bif Nat.ble (mv_cs rest) 8 && Nat.ble (mv_cs as) (mi e.2.2.2.2.1).2.2.1 && (Nat.beq k 6 || (Nat.beq k 9 || mv_rc h (mi e.2.2.2.2.1).2.2.2.2.2.2.1 as)) then J d e.2.2.2.2.1 0 [] (mv_ag 0 as) [] h 0 0 g (mv_x5 bk mi xn J (d + 1) mid e t loc rest nc ns K2) else false) = true
      rcases mv_cnd h1 with ⟨h2, h1⟩ | ⟨-, h1⟩
      · rw [h2]
        exact hJ _ _ _ _ _ _ _ _ _ _ _ _ rfl (fun g2 res c2 n2 h3 => mv_x5_pj hJ hb ht hK g2 res c2 n2 h3) h1
      · cases h1
theorem mv_su_pj (hJ : mv_pj J) (hb : ∀ mid pc L, bk mid pc = some L → mv_pL L = true) : mv_pj (mv_su bk mi dv xn J) := by
  intro dep mid pc L loc st h nc ns g K K2 hL hK h1
  unfold mv_su at h1 ⊢
  match L, hL, h1 with
  | [], hL, h1 =>
    cases hq : bk mid pc with
    | none =>
      have h1 : (match bk mid pc with
        | some (e :: t) => J dep mid pc (e :: t) loc st h nc ns g K
        | _ => false) = true := h1
      rw [hq] at h1
      cases h1
    | some L =>
      have hpl := hb _ _ _ hq
      have h1 : (match bk mid pc with
        | some (e :: t) => J dep mid pc (e :: t) loc st h nc ns g K
        | _ => false) = true := h1
      show (match (some L : Option (List mv_E)) with
        | some (e :: t) => J dep mid pc (e :: t) loc st h nc ns g K2
        | _ => false) = true
      rw [hq] at h1
      match L, hpl, h1 with
      | [], hpl, h1 => cases h1
      | e :: t, hpl, h1 => exact hJ _ _ _ _ _ _ _ _ _ _ _ _ hpl hK h1
  | e :: t, hL, h1 =>
    obtain ⟨hp, ht⟩ := mv_a2 (show (mv_pk e.1 e.2.2.2.1 && mv_pL t) = true from hL)
    have h1 : (bif Nat.ble 40 e.2.2.2.1 then mv_x0 J (mv_sf g loc st h nc ns dv (mi mid).2.2.1 e.1 e.2.1 e.2.2.2.2.1 e.2.2.2.2.2 e.2.2.2.1) dep mid pc e t loc st h nc ns g K else mv_x9 bk mi xn J dep mid pc e t loc st h nc ns g K) = true := h1
    show (bif Nat.ble 40 e.2.2.2.1 then mv_x0 J (mv_sf g loc st h nc ns dv (mi mid).2.2.1 e.1 e.2.1 e.2.2.2.2.1 e.2.2.2.2.2 e.2.2.2.1) dep mid pc e t loc st h nc ns g K2 else mv_x9 bk mi xn J dep mid pc e t loc st h nc ns g K2) = true
    unfold mv_pk at hp
    rcases mv_cnd h1 with ⟨h2, h1⟩ | ⟨h2, h1⟩
    · rw [h2] at hp ⊢
      obtain ⟨h3, h4⟩ := mv_a2 hp
      refine mv_x0_pj hJ (fun x hx => ?_) hL hK h1
      rw [mv_beq h3, mv_sf_eq] at hx
      exact mv_sm_s1 h4 hx
    · rw [h2] at hp ⊢
      obtain ⟨i, pc2, len, k, a, b2⟩ := e
      have hp : (Nat.beq k 1 || (Nat.beq k 4 || (Nat.beq k 5 || Nat.beq k 6))) = true := hp
      simp only [Bool.or_eq_true] at hp
      rcases hp with hp | hp | hp | hp
      · cases mv_beq hp
        exact mv_x1_pj hJ hL hK h1
      · cases mv_beq hp
        exact mv_x4_pj (k := 4) hJ hb ht hK h1
      · cases mv_beq hp
        exact mv_x4_pj (k := 5) hJ hb ht hK h1
      · cases mv_beq hp
        exact mv_x4_pj (k := 6) hJ hb ht hK h1
theorem mv_eu_pj (hb : ∀ mid pc L, bk mid pc = some L → mv_pL L = true) : ∀ n : Nat, mv_pj (mv_eu bk mi dv xn n)
  | 0 => fun dep mid pc L loc st h nc ns g K K2 _ _ h1 => by cases h1
  | n + 1 => by
    rw [mv_eu_s]
    exact mv_su_pj (mv_eu_pj hb n) hb
end MVME
