/-! ===== what the interpreter says is so ===== -/
noncomputable def mv_su (bk : Nat → Nat → Option (List mv_E)) (mi : Nat → mv_I) (dv : Nat → List mv_V) (xn : Nat → Nat) (ih : mv_J) : mv_J := fun dep mid pc L loc st h nc ns g K => match L with
      | [] => match bk mid pc with
        | some (e :: t) => ih dep mid pc (e :: t) loc st h nc ns g K
        | _ => false
      | e :: t => bif Nat.ble 40 e.2.2.2.1 then mv_x0 ih (mv_sf g loc st h nc ns dv (mi mid).2.2.1 e.1 e.2.1 e.2.2.2.2.1 e.2.2.2.2.2 e.2.2.2.1) dep mid pc e t loc st h nc ns g K
        else mv_x9 bk mi xn ih dep mid pc e t loc st h nc ns g K
theorem mv_eu_s (bk : Nat → Nat → Option (List mv_E)) (mi : Nat → mv_I) (dv : Nat → List mv_V) (xn : Nat → Nat) (n : Nat) : mv_eu bk mi dv xn (n + 1) = mv_su bk mi dv xn (mv_eu bk mi dv xn n) := rfl
section MVSO
variable {l : Launch} {D : va_G} {cs : ClassId × ClassId × ClassId} {r : Nat → Int32} {ba : mv_A} {b : Nat} {bk : Nat → Nat → Option (List mv_E)} {mi : Nat → mv_I} {xn : Nat → Nat} {cand : Nat → List Cond} {J : mv_J}
theorem mv_x8_ok (hst : l.stackTraces = false) (hJ : mv_good l D cs r ba b mi cand J) (htb : mv_tb bk mi xn cand) {dep mid pc len k a b2 : Nat} {i : Instr} {t : List mv_E} {loc : mv_L} {st : List mv_V} {h : List mv_C} {nc ns : Nat} {g : mv_B} {K : mv_K} (h1 : mv_x8 bk mi xn J dep mid pc (i, pc, len, k, a, b2) t loc st h nc ns g K = true)
    (hv : mv_vL (cand mid) mi (mi mid) pc ((i, pc, len, k, a, b2) :: t) = true) (hv2 : mv_vL (cand mid) mi (mi mid) (pc + len) t = true) (hd : decode (mi mid).2.1 pc = .ok (i, len)) (hk : mv_vk (cand mid) mi (mi mid) i pc len k a b2 = true) (hg : mv_in g r) :
    mv_ends l D cs r ba b (mi mid) dep loc st h nc ns pc K := by
  have t1 := (htb mid).1
  have u1 := (htb a).1
  have u2 := (htb a).2.1
  have u3 := (htb a).2.2.2
  unfold mv_x8 at h1
  split at h1
  · cases h1
  · rename_i e1
    have e1 : k = 1 := e1
    subst e1
    exact mv_x1_ok hJ h1 hv hd hk hg
  · rename_i e1
    have e1 : k = 2 := e1
    subst e1
    exact mv_x2_ok hst h1 hd hk hg
  · rename_i e1
    have e1 : k = 3 := e1
    subst e1
    exact mv_x3_ok hJ t1 h1 hv2 hd hk hg
  · rename_i k5 e1
    have e1 : k = k5 + 4 := e1
    subst e1
    rcases mv_cnd h1 with ⟨h2, h1⟩ | ⟨-, h1⟩
    · have h2 := mv_ble h2
      have h3 : k5 = 0 ∨ k5 = 1 ∨ k5 = 2 ∨ k5 = 3 ∨ k5 = 4 ∨ k5 = 5 := by omega
      rcases h3 with rfl | rfl | rfl | rfl | rfl | rfl
      · obtain ⟨z1, z2⟩ := mv_a2 (show (Nat.beq len 3 && (Nat.beq (mi a).2.2.2.2.2.1 0 && mv_c4 (cand mid) (mi mid).1.cls (mi a).1 i)) = true from hk)
        obtain ⟨z4, z3⟩ := mv_a2 z2
        have z1 := mv_beq z1
        unfold mv_c4 at z3
        split at z3
        · exact mv_x4_ok hJ htb h1 z1 hv2 hg fun d as rest q1 q2 q3 q4 q5 => mv_k4 t1 u1 u2 u3 (mv_beq z4) (of_decide_eq_true z3) (by rw [z1] at hd; exact hd) q1 q2 q3 q4 q5
        · cases z3
      · obtain ⟨z1, z2⟩ := mv_a2 (show (Nat.beq len 3 && (Nat.beq (mi a).2.2.2.2.2.1 0 && mv_c5 (mi mid).1.cls (mi a).1 i)) = true from hk)
        obtain ⟨z4, z3⟩ := mv_a2 z2
        have z1 := mv_beq z1
        unfold mv_c5 at z3
        split at z3
        · exact mv_x4_ok hJ htb h1 z1 hv2 hg fun d as rest q1 q2 q3 q4 q5 => mv_k5 t1 u1 u2 u3 (mv_beq z4) (of_decide_eq_true z3) (by rw [z1] at hd; exact hd) q1 q2 q3 q4 q5
        · cases z3
      · obtain ⟨z1, z2⟩ := mv_a2 (show (Nat.beq len 3 && (Nat.beq (mi a).2.2.2.2.2.1 1 && mv_c6 (cand mid) (mi mid).1.cls (mi a).1 i)) = true from hk)
        obtain ⟨z4, z3⟩ := mv_a2 z2
        have z1 := mv_beq z1
        unfold mv_c6 at z3
        split at z3
        · exact mv_x4_ok hJ htb h1 z1 hv2 hg fun d as rest q1 q2 q3 q4 q5 => mv_k6 t1 u1 u2 u3 (mv_beq z4) (of_decide_eq_true z3) (by rw [z1] at hd; exact hd) q1 q2 q3 q4
        · cases z3
      · obtain ⟨z1, z2⟩ := mv_a2 (show (Nat.beq len 3 && (Nat.beq (mi a).2.2.2.2.2.1 2 && mv_c7 (cand mid) (mi mid).1.cls (mi a).1 i)) = true from hk)
        obtain ⟨z4, z3⟩ := mv_a2 z2
        have z1 := mv_beq z1
        unfold mv_c7 at z3
        split at z3
        · exact mv_x4_ok hJ htb h1 z1 hv2 hg fun d as rest q1 q2 q3 q4 q5 => mv_k7 t1 u1 u2 u3 (mv_beq z4) (of_decide_eq_true z3) (by rw [z1] at hd; exact hd) q1 q2 q3 q4 q5
        · cases z3
      · obtain ⟨z1, z2⟩ := mv_a2 (show (Nat.beq len 3 && (Nat.beq (mi a).2.2.2.2.2.1 2 && mv_c8 (mi mid).1.cls (mi a).1 i)) = true from hk)
        obtain ⟨z4, z3⟩ := mv_a2 z2
        have z1 := mv_beq z1
        unfold mv_c8 at z3
        split at z3
        · exact mv_x4_ok hJ htb h1 z1 hv2 hg fun d as rest q1 q2 q3 q4 q5 => mv_k8 t1 u1 u2 u3 (mv_beq z4) (of_decide_eq_true z3) (by rw [z1] at hd; exact hd) q1 q2 q3 q4 q5
        · cases z3
      · obtain ⟨z1, z2⟩ := mv_a2 (show (Nat.beq len 3 && (Nat.beq (mi a).2.2.2.2.2.1 3 && mv_c6 (cand mid) (mi mid).1.cls (mi a).1 i)) = true from hk)
        obtain ⟨z4, z3⟩ := mv_a2 z2
        have z1 := mv_beq z1
        unfold mv_c6 at z3
        split at z3
        · exact mv_x4_ok hJ htb h1 z1 hv2 hg fun d as rest q1 q2 q3 q4 q5 => mv_k9 t1 u1 u2 u3 (mv_beq z4) (of_decide_eq_true z3) (by rw [z1] at hd; exact hd) q1 q2 q3 q4
        · cases z3
    · cases h1
theorem mv_sp_ok (hst : l.stackTraces = false) (h8 : r 8 = r 0 &&& nI 31) (hJ : mv_good l D cs r ba b mi cand J) (htb : mv_tb bk mi xn cand) : mv_good l D cs r ba b mi cand (mv_su bk mi mv_dv xn J) := by
  intro dep mid pc L loc st h nc ns g K h1 hv hg
  unfold mv_su at h1
  split at h1
  · split at h1
    · rename_i hbk
      exact hJ _ _ _ _ _ _ _ _ _ _ _ h1 ((htb mid).2.2.1 _ _ hbk) hg
    · cases h1
  · rename_i e t
    obtain ⟨w1, w2, w3⟩ := mv_vL_cons hv
    obtain ⟨i, pc2, len, k, a, b2⟩ := e
    have w1 : pc2 = pc := w1
    subst w1
    obtain ⟨v1, v2⟩ := mv_a2 w2
    have hd : decode (mi mid).2.1 pc2 = .ok (i, len) := of_decide_eq_true v1
    have t1 := (htb mid).1
    rcases mv_cnd h1 with ⟨h40, h1⟩ | ⟨h40, h1⟩
    · have h40 : Nat.ble 40 k = true := h40
      have v2 : (bif Nat.ble 40 k then Nat.beq k (mv_oc i) && mv_okB (cand mid) (mi mid).1.cls (mi mid).1.name pc2 i len a b2 else mv_vk (cand mid) mi (mi mid) i pc2 len k a b2) = true := v2
      rw [h40] at v2
      obtain ⟨v3, v4⟩ := mv_a2 v2
      have e3 : k = mv_oc i := mv_beq v3
      refine mv_x0_ok hJ h1 hv w3 hg fun x hx => ?_
      have hx : mv_sf g loc st h nc ns mv_dv (mi mid).2.2.1 i pc2 a b2 k = some (.inr x) := hx
      rw [e3, mv_sf_eq] at hx
      refine ⟨mv_mn_s1 hx, fun p en R s m args below meth c Q hf he r1 r2 r3 r4 kk => ?_⟩
      exact mv_s1_ok hf.1 hf.2.1 hf.2.2.2.2.1 hf.2.2.2.1 he.1 he.2.1 h8 hg t1 hd (by rw [hf.2.2.2.2.2.2.2.1]; exact v4) hx r3 r4 kk
    · have h40 : Nat.ble 40 k = false := h40
      have v2 : (bif Nat.ble 40 k then Nat.beq k (mv_oc i) && mv_okB (cand mid) (mi mid).1.cls (mi mid).1.name pc2 i len a b2 else mv_vk (cand mid) mi (mi mid) i pc2 len k a b2) = true := v2
      rw [h40] at v2
      have v2 : mv_vk (cand mid) mi (mi mid) i pc2 len k a b2 = true := v2
      unfold mv_x9 at h1
      rcases mv_cnd h1 with ⟨h11, h1⟩ | ⟨-, h1⟩
      · have h11 : k = 11 := mv_beq h11
        subst h11
        rcases mv_cnd h1 with ⟨h0, h1⟩ | ⟨-, h1⟩
        · have h0 := mv_blt h0
          obtain ⟨z1, z3⟩ := mv_a2 (show (Nat.beq len 3 && mv_c11 (cand mid) (mi mid).1.cls i) = true from v2)
          have z1 := mv_beq z1
          unfold mv_c11 at z3
          split at z3
          · simp only [Bool.and_eq_true, decide_eq_true_eq] at z3
            obtain ⟨y1, y2, y3, y4⟩ := z3
            subst z1
            refine mv_x0_ok hJ h1 hv w3 hg fun x hx => ⟨mv_mn_cp hx, fun p en R s m args below meth c Q hf he r1 r2 r3 r4 kk => ?_⟩
            exact mv_cp_ok hf.1 hf.2.1 hf.2.2.1 hg hf.2.2.2.1 (hf.2.2.2.2.1 _ (t1 _ y1)) (hf.2.2.2.2.1 _ (t1 _ y2)) (hf.2.2.2.2.1 _ (t1 _ y3)) (hf.2.2.2.2.1 _ (t1 _ y4)) he.1 (by omega) (by omega) hd hx kk
          · cases z3
        · cases h1
      rcases mv_cnd h1 with ⟨h15, h1⟩ | ⟨-, h1⟩
      · have h15 : k = 15 := mv_beq h15
        subst h15
        rcases mv_cnd h1 with ⟨h0, h1⟩ | ⟨-, h1⟩
        · have h0 := mv_blt h0
          obtain ⟨z1, z3⟩ := mv_a2 (show (Nat.beq len 3 && mv_c15 (cand mid) (mi mid).1.cls i) = true from v2)
          have z1 := mv_beq z1
          unfold mv_c15 at z3
          split at z3
          · simp only [Bool.and_eq_true, decide_eq_true_eq] at z3
            obtain ⟨y1, y2, y3, y4⟩ := z3
            subst z1
            refine mv_x0_ok hJ h1 hv w3 hg fun x hx => ⟨mv_mn_mx hx, fun p en R s m args below meth c Q hf he r1 r2 r3 r4 kk => ?_⟩
            exact mv_mx_ok hf.1 hf.2.1 hf.2.2.1 hg hf.2.2.2.1 (hf.2.2.2.2.1 _ (t1 _ y1)) (hf.2.2.2.2.1 _ (t1 _ y2)) (hf.2.2.2.2.1 _ (t1 _ y3)) (hf.2.2.2.2.1 _ (t1 _ y4)) (by omega) (by omega) r3 r4 hd hx kk
          · cases z3
        · cases h1
      · exact mv_x8_ok hst hJ htb h1 hv w3 hd v2 hg
theorem mv_eu_ok (hst : l.stackTraces = false) (h8 : r 8 = r 0 &&& nI 31) (htb : mv_tb bk mi xn cand) : ∀ n : Nat, mv_good l D cs r ba b mi cand (mv_eu bk mi mv_dv xn n)
  | 0 => fun dep mid pc L loc st h nc ns g K h1 _ _ => by cases h1
  | n + 1 => by
    rw [mv_eu_s]
    exact mv_sp_ok hst h8 (mv_eu_ok hst h8 htb n) htb
end MVSO
