/-! ===== printed by a program ===== -/
section
variable {l : Launch} {D : va_G} {cs : ClassId × ClassId × ClassId} {r : Nat → Int32} {b0 b : Nat}
theorem oc_q0 : mv_OC 68 oe_q0 := mv_och (by decide +kernel) hc_1.1 hc_0.1 hc_1.2 hc_0.2
set_option maxRecDepth 1000000 in
theorem ev_q0 : mv_evb mv_gS 68 [oe_p0] 400000 oe_q0 = true := by decide +kernel
theorem ok_q0 (hst : l.stackTraces = false) (h8 : r 8 = r 0 &&& nI 31) (hg : mv_in mv_gS r) : mv_OK l D cs r b0 b mv_mi 68 oe_q0 := mv_mkb hst h8 hg (mv_hs (ok_p0 hst h8 hg) mv_hn) oc_q0 ev_q0
theorem oc_m : mv_OC 68 oe_m := mv_och (by decide +kernel) hc_0.1 hc_0.1 hc_0.2 hc_0.2
set_option maxRecDepth 1000000 in
theorem ev_m : mv_evb mv_gS 68 [oe_q0] 400000 oe_m = true := by decide +kernel
theorem ok_m (hst : l.stackTraces = false) (h8 : r 8 = r 0 &&& nI 31) (hg : mv_in mv_gS r) : mv_OK l D cs r b0 b mv_mi 68 oe_m := mv_mkb hst h8 hg (mv_hs (ok_q0 hst h8 hg) mv_hn) oc_m ev_m
end
