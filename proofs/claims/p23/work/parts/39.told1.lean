/-! ===== printed by a program ===== -/
section
variable {l : Launch} {D : va_G} {cs : ClassId × ClassId × ClassId} {r : Nat → Int32} {b0 b : Nat}
theorem oc_t35 : mv_OC 68 oe_t35 := mv_och (by decide +kernel) hc_2.1 hc_n.1 hc_2.2 hc_n.2
set_option maxRecDepth 1000000 in
theorem ev_t35 : mv_evb mv_gS 68 [oe_t37] 400000 oe_t35 = true := by decide +kernel
theorem ok_t35 (hst : l.stackTraces = false) (h8 : r 8 = r 0 &&& nI 31) (hg : mv_in mv_gS r) : mv_OK l D cs r b0 b mv_mi 68 oe_t35 := mv_mkb hst h8 hg (mv_hs (ok_t37 hst h8 hg) mv_hn) oc_t35 ev_t35
theorem oc_t32 : mv_OC 68 oe_t32 := mv_och (by decide +kernel) hc_3.1 hc_n.1 hc_3.2 hc_n.2
set_option maxRecDepth 1000000 in
theorem ev_t32 : mv_evb mv_gS 68 [oe_t35] 400000 oe_t32 = true := by decide +kernel
theorem ok_t32 (hst : l.stackTraces = false) (h8 : r 8 = r 0 &&& nI 31) (hg : mv_in mv_gS r) : mv_OK l D cs r b0 b mv_mi 68 oe_t32 := mv_mkb hst h8 hg (mv_hs (ok_t35 hst h8 hg) mv_hn) oc_t32 ev_t32
end
