/-! ===== printed by a program ===== -/
section
variable {l : Launch} {D : va_G} {cs : ClassId × ClassId × ClassId} {r : Nat → Int32} {b0 b : Nat}
theorem oc_t33 : mv_OC 68 oe_t33 := mv_och (by decide +kernel) hc_7.1 hc_n.1 hc_7.2 hc_n.2
set_option maxRecDepth 1000000 in
theorem ev_t33 : mv_evb mv_gS 68 [oe_t36] 400000 oe_t33 = true := by decide +kernel
theorem ok_t33 (hst : l.stackTraces = false) (h8 : r 8 = r 0 &&& nI 31) (hg : mv_in mv_gS r) : mv_OK l D cs r b0 b mv_mi 68 oe_t33 := mv_mkb hst h8 hg (mv_hs (ok_t36 hst h8 hg) mv_hn) oc_t33 ev_t33
theorem oc_t29 : mv_OC 68 oe_t29 := mv_och (by decide +kernel) hc_8.1 hc_n.1 hc_8.2 hc_n.2
set_option maxRecDepth 1000000 in
theorem ev_t29 : mv_evb mv_gS 68 [oe_t33] 400000 oe_t29 = true := by decide +kernel
theorem ok_t29 (hst : l.stackTraces = false) (h8 : r 8 = r 0 &&& nI 31) (hg : mv_in mv_gS r) : mv_OK l D cs r b0 b mv_mi 68 oe_t29 := mv_mkb hst h8 hg (mv_hs (ok_t33 hst h8 hg) mv_hn) oc_t29 ev_t29
end
