/-! ===== the interpreter with calls that are not parted ===== -/
noncomputable def mv_mg (bkp : Nat → Nat → Option (List mv_E)) (mi : Nat → mv_I) (dv : Nat → List mv_V) (xn : Nat → Nat) (pn d a : Nat) (as : List mv_V) (h : List mv_C) (g : mv_B) (R : Nat) : Bool :=
  mv_eu bkp mi dv xn pn d a 0 [] (mv_ag 0 as) [] h 0 0 g (fun _ res _ c2 n2 => Nat.beq res.1 1 && (Nat.beq res.2.1 0 && (Nat.beq res.2.2 R && (Nat.beq c2 0 && Nat.beq n2 0))))
noncomputable def mv_xm (bk bkp : Nat → Nat → Option (List mv_E)) (mi : Nat → mv_I) (dv : Nat → List mv_V) (xn : Nat → Nat) (pn : Nat) (ih : mv_J) (k dep mid : Nat) (e : mv_E) (t : List mv_E) (loc : mv_L) (st : List mv_V) (h : List mv_C) (nc ns : Nat) (g : mv_B) (K : mv_K) : Bool := match dep with
  | 0 => false
  | d + 1 => match mv_tk ((mi e.2.2.2.2.1).2.2.2.2.1 + (bif Nat.beq k 6 || Nat.beq k 9 then 0 else 1)) st [] with
    | some (as, rest) => bif Nat.ble (mv_cs rest) 8 && Nat.ble (mv_cs as) (mi e.2.2.2.2.1).2.2.1 && (Nat.beq k 6 || (Nat.beq k 9 || mv_rc h (mi e.2.2.2.2.1).2.2.2.2.2.2.1 as)) then
        bif mv_mg bkp mi dv xn pn d e.2.2.2.2.1 as h g 1 then mv_x5 bk mi xn ih (d + 1) mid e t loc rest nc ns K g (1, (0, 1)) h 0 0
        else bif mv_mg bkp mi dv xn pn d e.2.2.2.2.1 as h g 0 then mv_x5 bk mi xn ih (d + 1) mid e t loc rest nc ns K g (1, (0, 0)) h 0 0
        else ih d e.2.2.2.2.1 0 [] (mv_ag 0 as) [] h 0 0 g (mv_x5 bk mi xn ih (d + 1) mid e t loc rest nc ns K)
      else false
    | none => false
noncomputable def mv_sw (bk bkp : Nat → Nat → Option (List mv_E)) (mi : Nat → mv_I) (dv : Nat → List mv_V) (xn : Nat → Nat) (pn : Nat) (ih : mv_J) : mv_J := fun dep mid pc L loc st h nc ns g K => match L with
      | [] => match bk mid pc with
        | some (e :: t) => ih dep mid pc (e :: t) loc st h nc ns g K
        | _ => false
      | e :: t => bif Nat.ble 40 e.2.2.2.1 then mv_x0 ih (mv_sf g loc st h nc ns dv (mi mid).2.2.1 e.1 e.2.1 e.2.2.2.2.1 e.2.2.2.2.2 e.2.2.2.1) dep mid pc e t loc st h nc ns g K
        else bif Nat.ble 12 e.2.2.2.1 && Nat.ble e.2.2.2.1 14 then mv_xm bk bkp mi dv xn pn ih (e.2.2.2.1 - 8) dep mid e t loc st h nc ns g K
        else mv_x9 bk mi xn ih dep mid pc e t loc st h nc ns g K
/-- a run to the method's end: every end is one that K takes -/
noncomputable def mv_ew (bk bkp : Nat → Nat → Option (List mv_E)) (mi : Nat → mv_I) (dv : Nat → List mv_V) (xn : Nat → Nat) (pn n : Nat) : mv_J :=
  Nat.rec (motive := fun _ => mv_J)
    (fun _ _ _ _ _ _ _ _ _ _ _ => false)
    (fun _ ih dep mid pc L loc st h nc ns g K => match L with
      | [] => match bk mid pc with
        | some (e :: t) => ih dep mid pc (e :: t) loc st h nc ns g K
        | _ => false
      | e :: t => bif Nat.ble 40 e.2.2.2.1 then mv_x0 ih (mv_sf g loc st h nc ns dv (mi mid).2.2.1 e.1 e.2.1 e.2.2.2.2.1 e.2.2.2.2.2 e.2.2.2.1) dep mid pc e t loc st h nc ns g K
        else bif Nat.ble 12 e.2.2.2.1 && Nat.ble e.2.2.2.1 14 then mv_xm bk bkp mi dv xn pn ih (e.2.2.2.1 - 8) dep mid e t loc st h nc ns g K
        else mv_x9 bk mi xn ih dep mid pc e t loc st h nc ns g K) n
theorem mv_ew_s (bk bkp : Nat → Nat → Option (List mv_E)) (mi : Nat → mv_I) (dv : Nat → List mv_V) (xn : Nat → Nat) (pn n : Nat) : mv_ew bk bkp mi dv xn pn (n + 1) = mv_sw bk bkp mi dv xn pn (mv_ew bk bkp mi dv xn pn n) := rfl
section MVMW
variable {l : Launch} {D : va_G} {cs : ClassId × ClassId × ClassId} {r : Nat → Int32} {ba b : Nat} {bk bkp : Nat → Nat → Option (List mv_E)} {mi : Nat → mv_I} {xn : Nat → Nat} {cand : Nat → List Cond} {J : mv_J} {pn : Nat}
theorem mv_x4_fin (hJ : mv_good l D cs r ba b mi cand J) (htb : mv_tb bk mi xn cand) {d mid pc len a a2 k2 : Nat} {i : Instr} {t : List mv_E} {loc : mv_L} {st : List mv_V} {h : List mv_C} {nc ns : Nat} {g : mv_B} {K : mv_K} {as rest : List mv_V} {res : Nat × mv_V} {hh2 : List mv_C} {c2 n2 : Nat}
    (hlen : len = 3) (hv : mv_vL (cand mid) mi (mi mid) (pc + len) t = true) (hg : mv_in g r) (hA : mv_at l D cs r ba b (mi mid) (mi a) pc loc st h nc ns d as rest) (q2 : res.1 < 5) (q4 : mv_run l D cs r ba b (mi a) d (mv_ag 0 as) [] h 0 0 0 res hh2 c2 n2) (q3 : mv_x5 bk mi xn J (d + 1) mid (i, pc, len, k2, a, a2) t loc rest nc ns K g res hh2 c2 n2 = true) :
    mv_ends l D cs r ba b (mi mid) (d + 1) loc st h nc ns pc K := by
  obtain ⟨m1, m2, m3, m4⟩ := q4
  have hc : h.length + c2 = hh2.length := m3
  obtain ⟨g3, res3, h3', c3, n3, y1, y2, y3, y4, y5, y6, y7⟩ := mv_x5_ok hJ htb q2 hg hlen hv hc q3
  refine ⟨g3, res3, h3', c3, n3, y1, y2, y3, Nat.le_trans (Nat.le_add_right _ _) y4, Nat.le_trans (Nat.le_add_right _ _) y5, by omega, fun p en R s m args below meth c hf he r1 r2 r3 r4 H locs ls hH hS hl hn => ?_⟩
  exact y7 p en R s m args below meth c hf he r1 r2 r3 r4 H locs ls _ _ hH hS hl hn (hA res hh2 c2 n2 ⟨m1, m2, m3, m4⟩ p en R s m args below meth c hf he r1 r2 (Nat.le_trans y4 r3) (Nat.le_trans y5 r4) H locs ls hH hS hl)
theorem mv_mg_ok (hst : l.stackTraces = false) (h8 : r 8 = r 0 &&& nI 31) (htp : mv_tb bkp mi xn cand) (hbp : ∀ mid pc L, bkp mid pc = some L → mv_pL L = true) {d a R : Nat} {as : List mv_V} {h : List mv_C} {g : mv_B} (hg : mv_in g r) (h1 : mv_mg bkp mi mv_dv xn pn d a as h g R = true) : mv_run l D cs r ba b (mi a) d (mv_ag 0 as) [] h 0 0 0 (1, (0, R)) h 0 0 := by
  unfold mv_mg at h1
  have h2 := mv_eu_pj (mi := mi) (dv := mv_dv) (xn := xn) hbp pn d a 0 [] (mv_ag 0 as) [] h 0 0 g _ (fun _ res h2 c2 n2 => (Nat.beq res.1 1 && (Nat.beq res.2.1 0 && (Nat.beq res.2.2 R && (Nat.beq c2 0 && Nat.beq n2 0)))) && decide (h2 = h)) rfl (fun g2 res c2 n2 h3 => by
    show (_ && decide (h = h)) = true
    rw [decide_eq_true rfl, Bool.and_true]
    exact h3) h1
  obtain ⟨g2, res, hh2, c2, n2, -, -, q3, q4⟩ := mv_eu_ok hst h8 htp pn d a 0 [] (mv_ag 0 as) [] h 0 0 g _ h2 rfl hg
  simp only [Bool.and_eq_true, decide_eq_true_eq] at q3
  obtain ⟨⟨k1, k2, k3, k4, k5⟩, k6⟩ := q3
  obtain ⟨ra, rb, rc⟩ := res
  cases mv_beq k1
  cases mv_beq k2
  cases mv_beq k3
  cases mv_beq k4
  cases mv_beq k5
  cases k6
  exact q4
theorem mv_xm_ok (hst : l.stackTraces = false) (h8 : r 8 = r 0 &&& nI 31) (hJ : mv_good l D cs r ba b mi cand J) (htb : mv_tb bk mi xn cand) (htp : mv_tb bkp mi xn cand) (hbp : ∀ mid pc L, bkp mid pc = some L → mv_pL L = true) {k dep mid pc len a a2 k2 : Nat} {i : Instr} {t : List mv_E} {loc : mv_L} {st : List mv_V} {h : List mv_C} {nc ns : Nat} {g : mv_B} {K : mv_K}
    (h1 : mv_xm bk bkp mi mv_dv xn pn J k dep mid (i, pc, len, k2, a, a2) t loc st h nc ns g K = true) (hlen : len = 3) (hv : mv_vL (cand mid) mi (mi mid) (pc + len) t = true) (hg : mv_in g r)
    (hat : ∀ (d : Nat) (as rest : List mv_V), as.length = (mi a).2.2.2.2.1 + (bif Nat.beq k 6 || Nat.beq k 9 then 0 else 1) → st = as.reverse ++ rest → mv_cs rest ≤ 8 → mv_cs as ≤ (mi a).2.2.1 → (Nat.beq k 6 || (Nat.beq k 9 || mv_rc h (mi a).2.2.2.2.2.2.1 as)) = true → mv_at l D cs r ba b (mi mid) (mi a) pc loc st h nc ns d as rest) :
    mv_ends l D cs r ba b (mi mid) dep loc st h nc ns pc K := by
  unfold mv_xm at h1
  split at h1
  · cases h1
  · rename_i d
    split at h1
    · rename_i as rest htk
      rcases mv_cnd h1 with ⟨h2, h1⟩ | ⟨-, h1⟩
      · simp only [Bool.and_eq_true] at h2
        obtain ⟨⟨h2, h3⟩, h4⟩ := h2
        obtain ⟨u, u1, u2, u3⟩ := mv_tk_ok _ _ _ _ _ htk
        rw [List.append_nil] at u3
        have hA := hat d as rest (by rw [u3, List.length_reverse]; exact u1) (by rw [u3, List.reverse_reverse]; exact u2) (mv_ble h2) (mv_ble h3) h4
        rcases mv_cnd h1 with ⟨hm, h1⟩ | ⟨-, h1⟩
        · exact mv_x4_fin hJ htb hlen hv hg hA (by show (1 : Nat) < 5; omega) (mv_mg_ok hst h8 htp hbp hg hm) h1
        rcases mv_cnd h1 with ⟨hm, h1⟩ | ⟨-, h1⟩
        · exact mv_x4_fin hJ htb hlen hv hg hA (by show (1 : Nat) < 5; omega) (mv_mg_ok hst h8 htp hbp hg hm) h1
        obtain ⟨g2, res, hh2, c2, n2, q1, q2, q3, q4⟩ := hJ _ _ _ _ _ _ _ _ _ _ _ h1 rfl hg
        exact mv_x4_fin hJ htb hlen hv q1 hA q2 q4 q3
      · cases h1
    · cases h1
theorem mv_sw_ok (hst : l.stackTraces = false) (h8 : r 8 = r 0 &&& nI 31) (hJ : mv_good l D cs r ba b mi cand J) (htb : mv_tb bk mi xn cand) (htp : mv_tb bkp mi xn cand) (hbp : ∀ mid pc L, bkp mid pc = some L → mv_pL L = true) : mv_good l D cs r ba b mi cand (mv_sw bk bkp mi mv_dv xn pn J) := by
  intro dep mid pc L loc st h nc ns g K h1 hv hg
  have hu := mv_sp_ok hst h8 hJ htb dep mid pc L loc st h nc ns g K
  match L, hv, hu, h1 with
  | [], hv, hu, h1 => exact hu h1 hv hg
  | e :: t, hv, hu, h1 =>
    have h1 : (bif Nat.ble 40 e.2.2.2.1 then mv_x0 J (mv_sf g loc st h nc ns mv_dv (mi mid).2.2.1 e.1 e.2.1 e.2.2.2.2.1 e.2.2.2.2.2 e.2.2.2.1) dep mid pc e t loc st h nc ns g K
        else bif Nat.ble 12 e.2.2.2.1 && Nat.ble e.2.2.2.1 14 then mv_xm bk bkp mi mv_dv xn pn J (e.2.2.2.1 - 8) dep mid e t loc st h nc ns g K
        else mv_x9 bk mi xn J dep mid pc e t loc st h nc ns g K) = true := h1
    have hu : (bif Nat.ble 40 e.2.2.2.1 then mv_x0 J (mv_sf g loc st h nc ns mv_dv (mi mid).2.2.1 e.1 e.2.1 e.2.2.2.2.1 e.2.2.2.2.2 e.2.2.2.1) dep mid pc e t loc st h nc ns g K
        else mv_x9 bk mi xn J dep mid pc e t loc st h nc ns g K) = true → mv_vL (cand mid) mi (mi mid) pc (e :: t) = true → mv_in g r → mv_ends l D cs r ba b (mi mid) dep loc st h nc ns pc K := hu
    rcases mv_cnd h1 with ⟨h40, h1⟩ | ⟨h40, h1⟩
    · refine hu ?_ hv hg
      rw [h40]
      exact h1
    · rcases mv_cnd h1 with ⟨h12, h1⟩ | ⟨-, h1⟩
      · obtain ⟨w1, w2, w3⟩ := mv_vL_cons hv
        obtain ⟨i, pc2, len, k, a, b2⟩ := e
        have w1 : pc2 = pc := w1
        subst w1
        obtain ⟨v1, v2⟩ := mv_a2 w2
        have hd : decode (mi mid).2.1 pc2 = .ok (i, len) := of_decide_eq_true v1
        have h40 : Nat.ble 40 k = false := h40
        have v2 : (bif Nat.ble 40 k then Nat.beq k (mv_oc i) && mv_okB (cand mid) (mi mid).1.cls (mi mid).1.name pc2 i len a b2 else mv_vk (cand mid) mi (mi mid) i pc2 len k a b2) = true := v2
        rw [h40] at v2
        have v2 : mv_vk (cand mid) mi (mi mid) i pc2 len k a b2 = true := v2
        obtain ⟨g1, g2⟩ := mv_a2 h12
        have g1 : 12 ≤ k := mv_ble g1
        have g2 : k ≤ 14 := mv_ble g2
        have t1 := (htb mid).1
        have u1 := (htb a).1
        have u2 := (htb a).2.1
        have u3 := (htb a).2.2.2
        have h3 : k = 12 ∨ k = 13 ∨ k = 14 := by omega
        rcases h3 with rfl | rfl | rfl
        · obtain ⟨z1, z2⟩ := mv_a2 (show (Nat.beq len 3 && (Nat.beq (mi a).2.2.2.2.2.1 0 && mv_c4 (cand mid) (mi mid).1.cls (mi a).1 i)) = true from v2)
          obtain ⟨z4, z3⟩ := mv_a2 z2
          have z1 := mv_beq z1
          unfold mv_c4 at z3
          split at z3
          · exact mv_xm_ok (k := 4) hst h8 hJ htb htp hbp h1 z1 w3 hg fun d as rest q1 q2 q3 q4 q5 => mv_k4 t1 u1 u2 u3 (mv_beq z4) (of_decide_eq_true z3) (by rw [z1] at hd; exact hd) q1 q2 q3 q4 q5
          · cases z3
        · obtain ⟨z1, z2⟩ := mv_a2 (show (Nat.beq len 3 && (Nat.beq (mi a).2.2.2.2.2.1 0 && mv_c5 (mi mid).1.cls (mi a).1 i)) = true from v2)
          obtain ⟨z4, z3⟩ := mv_a2 z2
          have z1 := mv_beq z1
          unfold mv_c5 at z3
          split at z3
          · exact mv_xm_ok (k := 5) hst h8 hJ htb htp hbp h1 z1 w3 hg fun d as rest q1 q2 q3 q4 q5 => mv_k5 t1 u1 u2 u3 (mv_beq z4) (of_decide_eq_true z3) (by rw [z1] at hd; exact hd) q1 q2 q3 q4 q5
          · cases z3
        · obtain ⟨z1, z2⟩ := mv_a2 (show (Nat.beq len 3 && (Nat.beq (mi a).2.2.2.2.2.1 1 && mv_c6 (cand mid) (mi mid).1.cls (mi a).1 i)) = true from v2)
          obtain ⟨z4, z3⟩ := mv_a2 z2
          have z1 := mv_beq z1
          unfold mv_c6 at z3
          split at z3
          · exact mv_xm_ok (k := 6) hst h8 hJ htb htp hbp h1 z1 w3 hg fun d as rest q1 q2 q3 q4 q5 => mv_k6 t1 u1 u2 u3 (mv_beq z4) (of_decide_eq_true z3) (by rw [z1] at hd; exact hd) q1 q2 q3 q4
          · cases z3
      · refine hu ?_ hv hg
        rw [h40]
        exact h1
theorem mv_ew_ok (hst : l.stackTraces = false) (h8 : r 8 = r 0 &&& nI 31) (htb : mv_tb bk mi xn cand) (htp : mv_tb bkp mi xn cand) (hbp : ∀ mid pc L, bkp mid pc = some L → mv_pL L = true) : ∀ n : Nat, mv_good l D cs r ba b mi cand (mv_ew bk bkp mi mv_dv xn pn n)
  | 0 => fun dep mid pc L loc st h nc ns g K h1 _ _ => by cases h1
  | n + 1 => by
    rw [mv_ew_s]
    exact mv_sw_ok hst h8 (mv_ew_ok hst h8 htb htp hbp n) htb htp hbp
end MVMW
