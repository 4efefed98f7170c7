/-! ===== printed by a program ===== -/
section
variable {l : Launch} {D : va_G} {cs : ClassId × ClassId × ClassId} {r : Nat → Int32} {b0 b : Nat}
theorem oc_t44 : mv_OC 68 oe_t44 := mv_och (by decide +kernel) hc_3.1 hc_n.1 hc_3.2 hc_n.2
set_option maxRecDepth 1000000 in
theorem ev_t44 : mv_evb mv_gS 68 [oe_t46] 400000 oe_t44 = true := by decide +kernel
theorem ok_t44 (hst : l.stackTraces = false) (h8 : r 8 = r 0 &&& nI 31) (hg : mv_in mv_gS r) : mv_OK l D cs r b0 b mv_mi 68 oe_t44 := mv_mkb hst h8 hg (mv_hs (ok_t46 hst h8 hg) mv_hn) oc_t44 ev_t44
theorem oc_t42 : mv_OC 68 oe_t42 := mv_och (by decide +kernel) hc_4.1 hc_n.1 hc_4.2 hc_n.2
set_option maxRecDepth 1000000 in
theorem ev_t42 : mv_evb mv_gS 68 [oe_t44] 400000 oe_t42 = true := by decide +kernel
theorem ok_t42 (hst : l.stackTraces = false) (h8 : r 8 = r 0 &&& nI 31) (hg : mv_in mv_gS r) : mv_OK l D cs r b0 b mv_mi 68 oe_t42 := mv_mkb hst h8 hg (mv_hs (ok_t44 hst h8 hg) mv_hn) oc_t42 ev_t42
end
