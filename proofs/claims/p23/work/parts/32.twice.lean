/-! ===== printed by a program ===== -/
section
variable {l : Launch} {D : va_G} {cs : ClassId × ClassId × ClassId} {r : Nat → Int32} {b0 b : Nat}
theorem oc_w0 : mv_OC 68 oe_w0 := mv_och (by decide +kernel) hc_0.1 hc_0.1 hc_0.2 hc_0.2
set_option maxRecDepth 1000000 in
theorem ev_w0 : mv_evb mv_gS 68 [] 400000 oe_w0 = true := by decide +kernel
theorem ok_w0 (hst : l.stackTraces = false) (h8 : r 8 = r 0 &&& nI 31) (hg : mv_in mv_gS r) : mv_OK l D cs r b0 b mv_mi 68 oe_w0 := mv_mkb hst h8 hg mv_hn oc_w0 ev_w0
theorem oc_w1 : mv_OC 68 oe_w1 := mv_och (by decide +kernel) hc_0.1 hc_0.1 hc_0.2 hc_0.2
set_option maxRecDepth 1000000 in
theorem ev_w1 : mv_evb mv_gS 68 [] 400000 oe_w1 = true := by decide +kernel
theorem ok_w1 (hst : l.stackTraces = false) (h8 : r 8 = r 0 &&& nI 31) (hg : mv_in mv_gS r) : mv_OK l D cs r b0 b mv_mi 68 oe_w1 := mv_mkb hst h8 hg mv_hn oc_w1 ev_w1
theorem oc_w2 : mv_OC 68 oe_w2 := mv_och (by decide +kernel) hc_0.1 hc_0.1 hc_0.2 hc_0.2
set_option maxRecDepth 1000000 in
theorem ev_w2 : mv_evb mv_gS 68 [] 400000 oe_w2 = true := by decide +kernel
theorem ok_w2 (hst : l.stackTraces = false) (h8 : r 8 = r 0 &&& nI 31) (hg : mv_in mv_gS r) : mv_OK l D cs r b0 b mv_mi 68 oe_w2 := mv_mkb hst h8 hg mv_hn oc_w2 ev_w2
theorem oc_w3 : mv_OC 68 oe_w3 := mv_och (by decide +kernel) hc_0.1 hc_0.1 hc_0.2 hc_0.2
set_option maxRecDepth 1000000 in
theorem ev_w3 : mv_evb mv_gS 68 [] 400000 oe_w3 = true := by decide +kernel
theorem ok_w3 (hst : l.stackTraces = false) (h8 : r 8 = r 0 &&& nI 31) (hg : mv_in mv_gS r) : mv_OK l D cs r b0 b mv_mi 68 oe_w3 := mv_mkb hst h8 hg mv_hn oc_w3 ev_w3
theorem oc_w4 : mv_OC 68 oe_w4 := mv_och (by decide +kernel) hc_0.1 hc_0.1 hc_0.2 hc_0.2
set_option maxRecDepth 1000000 in
theorem ev_w4 : mv_evb mv_gS 68 [] 400000 oe_w4 = true := by decide +kernel
theorem ok_w4 (hst : l.stackTraces = false) (h8 : r 8 = r 0 &&& nI 31) (hg : mv_in mv_gS r) : mv_OK l D cs r b0 b mv_mi 68 oe_w4 := mv_mkb hst h8 hg mv_hn oc_w4 ev_w4
theorem oc_w5 : mv_OC 68 oe_w5 := mv_och (by decide +kernel) hc_0.1 hc_0.1 hc_0.2 hc_0.2
set_option maxRecDepth 1000000 in
theorem ev_w5 : mv_evb mv_gS 68 [] 400000 oe_w5 = true := by decide +kernel
theorem ok_w5 (hst : l.stackTraces = false) (h8 : r 8 = r 0 &&& nI 31) (hg : mv_in mv_gS r) : mv_OK l D cs r b0 b mv_mi 68 oe_w5 := mv_mkb hst h8 hg mv_hn oc_w5 ev_w5
theorem oc_w6 : mv_OC 68 oe_w6 := mv_och (by decide +kernel) hc_0.1 hc_0.1 hc_0.2 hc_0.2
set_option maxRecDepth 1000000 in
theorem ev_w6 : mv_evb mv_gS 68 [] 400000 oe_w6 = true := by decide +kernel
theorem ok_w6 (hst : l.stackTraces = false) (h8 : r 8 = r 0 &&& nI 31) (hg : mv_in mv_gS r) : mv_OK l D cs r b0 b mv_mi 68 oe_w6 := mv_mkb hst h8 hg mv_hn oc_w6 ev_w6
theorem oc_w7 : mv_OC 68 oe_w7 := mv_och (by decide +kernel) hc_0.1 hc_0.1 hc_0.2 hc_0.2
set_option maxRecDepth 1000000 in
theorem ev_w7 : mv_evb mv_gS 68 [] 400000 oe_w7 = true := by decide +kernel
theorem ok_w7 (hst : l.stackTraces = false) (h8 : r 8 = r 0 &&& nI 31) (hg : mv_in mv_gS r) : mv_OK l D cs r b0 b mv_mi 68 oe_w7 := mv_mkb hst h8 hg mv_hn oc_w7 ev_w7
theorem oc_w8 : mv_OC 68 oe_w8 := mv_och (by decide +kernel) hc_0.1 hc_0.1 hc_0.2 hc_0.2
set_option maxRecDepth 1000000 in
theorem ev_w8 : mv_evb mv_gS 68 [] 400000 oe_w8 = true := by decide +kernel
theorem ok_w8 (hst : l.stackTraces = false) (h8 : r 8 = r 0 &&& nI 31) (hg : mv_in mv_gS r) : mv_OK l D cs r b0 b mv_mi 68 oe_w8 := mv_mkb hst h8 hg mv_hn oc_w8 ev_w8
theorem oc_w9 : mv_OC 68 oe_w9 := mv_och (by decide +kernel) hc_0.1 hc_0.1 hc_0.2 hc_0.2
set_option maxRecDepth 1000000 in
theorem ev_w9 : mv_evb mv_gS 68 [] 400000 oe_w9 = true := by decide +kernel
theorem ok_w9 (hst : l.stackTraces = false) (h8 : r 8 = r 0 &&& nI 31) (hg : mv_in mv_gS r) : mv_OK l D cs r b0 b mv_mi 68 oe_w9 := mv_mkb hst h8 hg mv_hn oc_w9 ev_w9
theorem oc_w10 : mv_OC 68 oe_w10 := mv_och (by decide +kernel) hc_0.1 hc_0.1 hc_0.2 hc_0.2
set_option maxRecDepth 1000000 in
theorem ev_w10 : mv_evb mv_gS 68 [] 400000 oe_w10 = true := by decide +kernel
theorem ok_w10 (hst : l.stackTraces = false) (h8 : r 8 = r 0 &&& nI 31) (hg : mv_in mv_gS r) : mv_OK l D cs r b0 b mv_mi 68 oe_w10 := mv_mkb hst h8 hg mv_hn oc_w10 ev_w10
theorem oc_w11 : mv_OC 68 oe_w11 := mv_och (by decide +kernel) hc_0.1 hc_0.1 hc_0.2 hc_0.2
set_option maxRecDepth 1000000 in
theorem ev_w11 : mv_evb mv_gS 68 [] 400000 oe_w11 = true := by decide +kernel
theorem ok_w11 (hst : l.stackTraces = false) (h8 : r 8 = r 0 &&& nI 31) (hg : mv_in mv_gS r) : mv_OK l D cs r b0 b mv_mi 68 oe_w11 := mv_mkb hst h8 hg mv_hn oc_w11 ev_w11
theorem oc_w12 : mv_OC 68 oe_w12 := mv_och (by decide +kernel) hc_0.1 hc_0.1 hc_0.2 hc_0.2
set_option maxRecDepth 1000000 in
theorem ev_w12 : mv_evb mv_gS 68 [] 400000 oe_w12 = true := by decide +kernel
theorem ok_w12 (hst : l.stackTraces = false) (h8 : r 8 = r 0 &&& nI 31) (hg : mv_in mv_gS r) : mv_OK l D cs r b0 b mv_mi 68 oe_w12 := mv_mkb hst h8 hg mv_hn oc_w12 ev_w12
theorem oc_w13 : mv_OC 68 oe_w13 := mv_och (by decide +kernel) hc_0.1 hc_0.1 hc_0.2 hc_0.2
set_option maxRecDepth 1000000 in
theorem ev_w13 : mv_evb mv_gS 68 [] 400000 oe_w13 = true := by decide +kernel
theorem ok_w13 (hst : l.stackTraces = false) (h8 : r 8 = r 0 &&& nI 31) (hg : mv_in mv_gS r) : mv_OK l D cs r b0 b mv_mi 68 oe_w13 := mv_mkb hst h8 hg mv_hn oc_w13 ev_w13
theorem oc_x : mv_OC 68 oe_x := mv_och (by decide +kernel) hc_0.1 hc_0.1 hc_0.2 hc_0.2
set_option maxRecDepth 1000000 in
theorem ev_x : mv_evb mv_gS 68 [] 400000 oe_x = true := by decide +kernel
theorem ok_x (hst : l.stackTraces = false) (h8 : r 8 = r 0 &&& nI 31) (hg : mv_in mv_gS r) : mv_OK l D cs r b0 b mv_mi 68 oe_x := mv_mkb hst h8 hg mv_hn oc_x ev_x
end
