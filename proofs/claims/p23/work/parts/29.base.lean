/-! ===== runs of the tables from what is known ===== -/
section
variable {l : Launch} {D : va_G} {cs : ClassId × ClassId × ClassId} {r : Nat → Int32} {b0 b K : Nat}
theorem mv_hn {P : mv_OE → Prop} : ∀ e ∈ ([] : List mv_OE), P e := fun e he => by cases he
theorem mv_hs {P : mv_OE → Prop} {e : mv_OE} {E : List mv_OE} (h1 : P e) (h2 : ∀ x ∈ E, P x) : ∀ x ∈ e :: E, P x := fun x hx => (List.mem_cons.mp hx).elim (fun q => by rw [q]; exact h1) (h2 x)
theorem mv_och {e : mv_OE} (h : (Nat.blt e.2.2.1.1 2 && (mv_cV K e.2.2.1.2 && e.1.2.2.1.all (fun q => mv_cV K q.2))) = true) (h1 : e.2.2.2.1.1.length = K) (h2 : e.2.2.2.1.2.length = K) (h3 : e.2.2.2.1.1.all (mv_cC K) = true) (h4 : e.2.2.2.1.2.all (mv_cC K) = true) : mv_OC K e := by
  obtain ⟨a1, a2⟩ := mv_a2 h
  obtain ⟨a2, a3⟩ := mv_a2 a2
  exact ⟨mv_blt a1, a2, h1, h2, h3, h4, a3⟩
noncomputable def mv_evb (g : mv_B) (K : Nat) (E : List mv_OE) (n : Nat) (e : mv_OE) : Bool :=
  mv_fl e.1.2.2.1 (fun loc => mv_fl e.2.2.2.1.1 (fun F => mv_fo e.1.1 (fun mid => mv_fo e.1.2.1 (fun pc => mv_fo e.2.1 (fun dep => mv_fo e.1.2.2.2.1 (fun nc => mv_fo e.1.2.2.2.2 (fun ns =>
    mv_ez (mv_of K E) mv_bk mv_mi mv_dv mv_xn n dep mid pc [] loc [] F nc ns g (mv_KP e.2.2.1 e.2.2.2.1.2 e.2.2.2.2.1 e.2.2.2.2.2))))))))
noncomputable def mv_evb0 (g : mv_B) (K : Nat) (E : List mv_OE) (n dep : Nat) (loc : mv_L) (res : Nat × mv_V) (C N : Nat) : Bool :=
  mv_ez (mv_of K E) mv_bk mv_mi mv_dv mv_xn n dep 0 0 [] loc [] [] 0 0 g (mv_KP res [] C N)
theorem mv_mkb (hst : l.stackTraces = false) (h8 : r 8 = r 0 &&& nI 31) {g : mv_B} (hg : mv_in g r) {E : List mv_OE} (hE : ∀ e ∈ E, mv_OK l D cs r b0 b mv_mi K e) {n : Nat} {e : mv_OE} (hC : mv_OC K e) (ev : mv_evb g K E n e = true) : mv_OK l D cs r b0 b mv_mi K e := by
  unfold mv_evb at ev
  rw [mv_fl_eq, mv_fl_eq, mv_fo_eq, mv_fo_eq, mv_fo_eq, mv_fo_eq, mv_fo_eq] at ev
  exact mv_mk hst h8 mv_tbl_ok hE hg n hC ev
theorem mv_mkb0 (hst : l.stackTraces = false) (h8 : r 8 = r 0 &&& nI 31) {g : mv_B} (hg : mv_in g r) {E : List mv_OE} (hE : ∀ e ∈ E, mv_OK l D cs r b0 b mv_mi K e) {n dep : Nat} {loc : mv_L} {res : Nat × mv_V} {C N : Nat} (ev : mv_evb0 g K E n dep loc res C N = true) : ∃ h2 : List mv_C, mv_run l D cs r (b0, 0, 0) b (mv_mi 0) dep loc [] [] 0 0 0 res h2 C N :=
  mv_mk0 hst h8 mv_tbl_ok hE hg n dep ev
end
