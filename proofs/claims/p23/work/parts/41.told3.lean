/-! ===== printed by a program ===== -/
section
variable {l : Launch} {D : va_G} {cs : ClassId × ClassId × ClassId} {r : Nat → Int32} {b0 b : Nat}
theorem oc_t20 : mv_OC 68 oe_t20 := mv_och (by decide +kernel) hc_6.1 hc_n.1 hc_6.2 hc_n.2
set_option maxRecDepth 1000000 in
theorem ev_t20 : mv_evb mv_gS 68 [oe_t25] 400000 oe_t20 = true := by decide +kernel
theorem ok_t20 (hst : l.stackTraces = false) (h8 : r 8 = r 0 &&& nI 31) (hg : mv_in mv_gS r) : mv_OK l D cs r b0 b mv_mi 68 oe_t20 := mv_mkb hst h8 hg (mv_hs (ok_t25 hst h8 hg) mv_hn) oc_t20 ev_t20
theorem oc_t14 : mv_OC 68 oe_t14 := mv_och (by decide +kernel) hc_7.1 hc_n.1 hc_7.2 hc_n.2
set_option maxRecDepth 1000000 in
theorem ev_t14 : mv_evb mv_gS 68 [oe_t20] 400000 oe_t14 = true := by decide +kernel
theorem ok_t14 (hst : l.stackTraces = false) (h8 : r 8 = r 0 &&& nI 31) (hg : mv_in mv_gS r) : mv_OK l D cs r b0 b mv_mi 68 oe_t14 := mv_mkb hst h8 hg (mv_hs (ok_t20 hst h8 hg) mv_hn) oc_t14 ev_t14
end
