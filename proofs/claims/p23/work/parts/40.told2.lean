/-! ===== printed by a program ===== -/
section
variable {l : Launch} {D : va_G} {cs : ClassId × ClassId × ClassId} {r : Nat → Int32} {b0 b : Nat}
theorem oc_t29 : mv_OC 68 oe_t29 := mv_och (by decide +kernel) hc_4.1 hc_n.1 hc_4.2 hc_n.2
set_option maxRecDepth 1000000 in
theorem ev_t29 : mv_evb mv_gS 68 [oe_t32] 400000 oe_t29 = true := by decide +kernel
theorem ok_t29 (hst : l.stackTraces = false) (h8 : r 8 = r 0 &&& nI 31) (hg : mv_in mv_gS r) : mv_OK l D cs r b0 b mv_mi 68 oe_t29 := mv_mkb hst h8 hg (mv_hs (ok_t32 hst h8 hg) mv_hn) oc_t29 ev_t29
theorem oc_t25 : mv_OC 68 oe_t25 := mv_och (by decide +kernel) hc_5.1 hc_n.1 hc_5.2 hc_n.2
set_option maxRecDepth 1000000 in
theorem ev_t25 : mv_evb mv_gS 68 [oe_t29] 400000 oe_t25 = true := by decide +kernel
theorem ok_t25 (hst : l.stackTraces = false) (h8 : r 8 = r 0 &&& nI 31) (hg : mv_in mv_gS r) : mv_OK l D cs r b0 b mv_mi 68 oe_t25 := mv_mkb hst h8 hg (mv_hs (ok_t29 hst h8 hg) mv_hn) oc_t25 ev_t25
end
