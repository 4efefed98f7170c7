/-! ===== printed by a program ===== -/
section
variable {l : Launch} {D : va_G} {cs : ClassId × ClassId × ClassId} {r : Nat → Int32} {b0 b : Nat}
theorem oc_t39 : mv_OC 68 oe_t39 := mv_och (by decide +kernel) hc_5.1 hc_n.1 hc_5.2 hc_n.2
set_option maxRecDepth 1000000 in
theorem ev_t39 : mv_evb mv_gS 68 [oe_t42] 400000 oe_t39 = true := by decide +kernel
theorem ok_t39 (hst : l.stackTraces = false) (h8 : r 8 = r 0 &&& nI 31) (hg : mv_in mv_gS r) : mv_OK l D cs r b0 b mv_mi 68 oe_t39 := mv_mkb hst h8 hg (mv_hs (ok_t42 hst h8 hg) mv_hn) oc_t39 ev_t39
theorem oc_t36 : mv_OC 68 oe_t36 := mv_och (by decide +kernel) hc_6.1 hc_n.1 hc_6.2 hc_n.2
set_option maxRecDepth 1000000 in
theorem ev_t36 : mv_evb mv_gS 68 [oe_t39] 400000 oe_t36 = true := by decide +kernel
theorem ok_t36 (hst : l.stackTraces = false) (h8 : r 8 = r 0 &&& nI 31) (hg : mv_in mv_gS r) : mv_OK l D cs r b0 b mv_mi 68 oe_t36 := mv_mkb hst h8 hg (mv_hs (ok_t39 hst h8 hg) mv_hn) oc_t36 ev_t36
end
