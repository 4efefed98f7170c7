/-! ===== printed by a program ===== -/
section
variable {l : Launch} {D : va_G} {cs : ClassId × ClassId × ClassId} {r : Nat → Int32} {b0 b : Nat}
theorem oc_t512 : mv_OC 68 oe_t512 := mv_och (by decide +kernel) hc_0.1 hc_n.1 hc_0.2 hc_n.2
set_option maxRecDepth 1000000 in
theorem ev_t512 : mv_evb mv_gS 68 [] 400000 oe_t512 = true := by decide +kernel
theorem ok_t512 (hst : l.stackTraces = false) (h8 : r 8 = r 0 &&& nI 31) (hg : mv_in mv_gS r) : mv_OK l D cs r b0 b mv_mi 68 oe_t512 := mv_mkb hst h8 hg mv_hn oc_t512 ev_t512
theorem oc_t511 : mv_OC 68 oe_t511 := mv_och (by decide +kernel) hc_0.1 hc_n.1 hc_0.2 hc_n.2
set_option maxRecDepth 1000000 in
theorem ev_t511 : mv_evb mv_gS 68 [oe_x, oe_m, oe_t512] 400000 oe_t511 = true := by decide +kernel
theorem ok_t511 (hst : l.stackTraces = false) (h8 : r 8 = r 0 &&& nI 31) (hg : mv_in mv_gS r) : mv_OK l D cs r b0 b mv_mi 68 oe_t511 := mv_mkb hst h8 hg (mv_hs (ok_x hst h8 hg) (mv_hs (ok_m hst h8 hg) (mv_hs (ok_t512 hst h8 hg) mv_hn))) oc_t511 ev_t511
theorem oc_t510 : mv_OC 68 oe_t510 := mv_och (by decide +kernel) hc_0.1 hc_n.1 hc_0.2 hc_n.2
set_option maxRecDepth 1000000 in
theorem ev_t510 : mv_evb mv_gS 68 [oe_x, oe_m, oe_t511] 400000 oe_t510 = true := by decide +kernel
theorem ok_t510 (hst : l.stackTraces = false) (h8 : r 8 = r 0 &&& nI 31) (hg : mv_in mv_gS r) : mv_OK l D cs r b0 b mv_mi 68 oe_t510 := mv_mkb hst h8 hg (mv_hs (ok_x hst h8 hg) (mv_hs (ok_m hst h8 hg) (mv_hs (ok_t511 hst h8 hg) mv_hn))) oc_t510 ev_t510
theorem oc_t509 : mv_OC 68 oe_t509 := mv_och (by decide +kernel) hc_0.1 hc_n.1 hc_0.2 hc_n.2
set_option maxRecDepth 1000000 in
theorem ev_t509 : mv_evb mv_gS 68 [oe_x, oe_m, oe_t510] 400000 oe_t509 = true := by decide +kernel
theorem ok_t509 (hst : l.stackTraces = false) (h8 : r 8 = r 0 &&& nI 31) (hg : mv_in mv_gS r) : mv_OK l D cs r b0 b mv_mi 68 oe_t509 := mv_mkb hst h8 hg (mv_hs (ok_x hst h8 hg) (mv_hs (ok_m hst h8 hg) (mv_hs (ok_t510 hst h8 hg) mv_hn))) oc_t509 ev_t509
theorem oc_t508 : mv_OC 68 oe_t508 := mv_och (by decide +kernel) hc_0.1 hc_n.1 hc_0.2 hc_n.2
set_option maxRecDepth 1000000 in
theorem ev_t508 : mv_evb mv_gS 68 [oe_x, oe_m, oe_t509] 400000 oe_t508 = true := by decide +kernel
theorem ok_t508 (hst : l.stackTraces = false) (h8 : r 8 = r 0 &&& nI 31) (hg : mv_in mv_gS r) : mv_OK l D cs r b0 b mv_mi 68 oe_t508 := mv_mkb hst h8 hg (mv_hs (ok_x hst h8 hg) (mv_hs (ok_m hst h8 hg) (mv_hs (ok_t509 hst h8 hg) mv_hn))) oc_t508 ev_t508
theorem oc_t507 : mv_OC 68 oe_t507 := mv_och (by decide +kernel) hc_0.1 hc_n.1 hc_0.2 hc_n.2
set_option maxRecDepth 1000000 in
theorem ev_t507 : mv_evb mv_gS 68 [oe_x, oe_m, oe_t508] 400000 oe_t507 = true := by decide +kernel
theorem ok_t507 (hst : l.stackTraces = false) (h8 : r 8 = r 0 &&& nI 31) (hg : mv_in mv_gS r) : mv_OK l D cs r b0 b mv_mi 68 oe_t507 := mv_mkb hst h8 hg (mv_hs (ok_x hst h8 hg) (mv_hs (ok_m hst h8 hg) (mv_hs (ok_t508 hst h8 hg) mv_hn))) oc_t507 ev_t507
theorem oc_t506 : mv_OC 68 oe_t506 := mv_och (by decide +kernel) hc_0.1 hc_n.1 hc_0.2 hc_n.2
set_option maxRecDepth 1000000 in
theorem ev_t506 : mv_evb mv_gS 68 [oe_x, oe_m, oe_t507] 400000 oe_t506 = true := by decide +kernel
theorem ok_t506 (hst : l.stackTraces = false) (h8 : r 8 = r 0 &&& nI 31) (hg : mv_in mv_gS r) : mv_OK l D cs r b0 b mv_mi 68 oe_t506 := mv_mkb hst h8 hg (mv_hs (ok_x hst h8 hg) (mv_hs (ok_m hst h8 hg) (mv_hs (ok_t507 hst h8 hg) mv_hn))) oc_t506 ev_t506
theorem oc_t505 : mv_OC 68 oe_t505 := mv_och (by decide +kernel) hc_0.1 hc_n.1 hc_0.2 hc_n.2
set_option maxRecDepth 1000000 in
theorem ev_t505 : mv_evb mv_gS 68 [oe_x, oe_m, oe_t506] 400000 oe_t505 = true := by decide +kernel
theorem ok_t505 (hst : l.stackTraces = false) (h8 : r 8 = r 0 &&& nI 31) (hg : mv_in mv_gS r) : mv_OK l D cs r b0 b mv_mi 68 oe_t505 := mv_mkb hst h8 hg (mv_hs (ok_x hst h8 hg) (mv_hs (ok_m hst h8 hg) (mv_hs (ok_t506 hst h8 hg) mv_hn))) oc_t505 ev_t505
theorem oc_t504 : mv_OC 68 oe_t504 := mv_och (by decide +kernel) hc_0.1 hc_n.1 hc_0.2 hc_n.2
set_option maxRecDepth 1000000 in
theorem ev_t504 : mv_evb mv_gS 68 [oe_x, oe_m, oe_t505] 400000 oe_t504 = true := by decide +kernel
theorem ok_t504 (hst : l.stackTraces = false) (h8 : r 8 = r 0 &&& nI 31) (hg : mv_in mv_gS r) : mv_OK l D cs r b0 b mv_mi 68 oe_t504 := mv_mkb hst h8 hg (mv_hs (ok_x hst h8 hg) (mv_hs (ok_m hst h8 hg) (mv_hs (ok_t505 hst h8 hg) mv_hn))) oc_t504 ev_t504
theorem oc_t503 : mv_OC 68 oe_t503 := mv_och (by decide +kernel) hc_0.1 hc_n.1 hc_0.2 hc_n.2
set_option maxRecDepth 1000000 in
theorem ev_t503 : mv_evb mv_gS 68 [oe_x, oe_m, oe_t504] 400000 oe_t503 = true := by decide +kernel
theorem ok_t503 (hst : l.stackTraces = false) (h8 : r 8 = r 0 &&& nI 31) (hg : mv_in mv_gS r) : mv_OK l D cs r b0 b mv_mi 68 oe_t503 := mv_mkb hst h8 hg (mv_hs (ok_x hst h8 hg) (mv_hs (ok_m hst h8 hg) (mv_hs (ok_t504 hst h8 hg) mv_hn))) oc_t503 ev_t503
theorem oc_t502 : mv_OC 68 oe_t502 := mv_och (by decide +kernel) hc_0.1 hc_n.1 hc_0.2 hc_n.2
set_option maxRecDepth 1000000 in
theorem ev_t502 : mv_evb mv_gS 68 [oe_x, oe_m, oe_t503] 400000 oe_t502 = true := by decide +kernel
theorem ok_t502 (hst : l.stackTraces = false) (h8 : r 8 = r 0 &&& nI 31) (hg : mv_in mv_gS r) : mv_OK l D cs r b0 b mv_mi 68 oe_t502 := mv_mkb hst h8 hg (mv_hs (ok_x hst h8 hg) (mv_hs (ok_m hst h8 hg) (mv_hs (ok_t503 hst h8 hg) mv_hn))) oc_t502 ev_t502
theorem oc_t501 : mv_OC 68 oe_t501 := mv_och (by decide +kernel) hc_0.1 hc_n.1 hc_0.2 hc_n.2
set_option maxRecDepth 1000000 in
theorem ev_t501 : mv_evb mv_gS 68 [oe_x, oe_m, oe_t502] 400000 oe_t501 = true := by decide +kernel
theorem ok_t501 (hst : l.stackTraces = false) (h8 : r 8 = r 0 &&& nI 31) (hg : mv_in mv_gS r) : mv_OK l D cs r b0 b mv_mi 68 oe_t501 := mv_mkb hst h8 hg (mv_hs (ok_x hst h8 hg) (mv_hs (ok_m hst h8 hg) (mv_hs (ok_t502 hst h8 hg) mv_hn))) oc_t501 ev_t501
theorem oc_t500 : mv_OC 68 oe_t500 := mv_och (by decide +kernel) hc_0.1 hc_n.1 hc_0.2 hc_n.2
set_option maxRecDepth 1000000 in
theorem ev_t500 : mv_evb mv_gS 68 [oe_x, oe_m, oe_t501] 400000 oe_t500 = true := by decide +kernel
theorem ok_t500 (hst : l.stackTraces = false) (h8 : r 8 = r 0 &&& nI 31) (hg : mv_in mv_gS r) : mv_OK l D cs r b0 b mv_mi 68 oe_t500 := mv_mkb hst h8 hg (mv_hs (ok_x hst h8 hg) (mv_hs (ok_m hst h8 hg) (mv_hs (ok_t501 hst h8 hg) mv_hn))) oc_t500 ev_t500
theorem oc_t499 : mv_OC 68 oe_t499 := mv_och (by decide +kernel) hc_0.1 hc_n.1 hc_0.2 hc_n.2
set_option maxRecDepth 1000000 in
theorem ev_t499 : mv_evb mv_gS 68 [oe_x, oe_m, oe_t500] 400000 oe_t499 = true := by decide +kernel
theorem ok_t499 (hst : l.stackTraces = false) (h8 : r 8 = r 0 &&& nI 31) (hg : mv_in mv_gS r) : mv_OK l D cs r b0 b mv_mi 68 oe_t499 := mv_mkb hst h8 hg (mv_hs (ok_x hst h8 hg) (mv_hs (ok_m hst h8 hg) (mv_hs (ok_t500 hst h8 hg) mv_hn))) oc_t499 ev_t499
theorem oc_t498 : mv_OC 68 oe_t498 := mv_och (by decide +kernel) hc_0.1 hc_n.1 hc_0.2 hc_n.2
set_option maxRecDepth 1000000 in
theorem ev_t498 : mv_evb mv_gS 68 [oe_x, oe_m, oe_t499] 400000 oe_t498 = true := by decide +kernel
theorem ok_t498 (hst : l.stackTraces = false) (h8 : r 8 = r 0 &&& nI 31) (hg : mv_in mv_gS r) : mv_OK l D cs r b0 b mv_mi 68 oe_t498 := mv_mkb hst h8 hg (mv_hs (ok_x hst h8 hg) (mv_hs (ok_m hst h8 hg) (mv_hs (ok_t499 hst h8 hg) mv_hn))) oc_t498 ev_t498
theorem oc_t497 : mv_OC 68 oe_t497 := mv_och (by decide +kernel) hc_0.1 hc_n.1 hc_0.2 hc_n.2
set_option maxRecDepth 1000000 in
theorem ev_t497 : mv_evb mv_gS 68 [oe_x, oe_m, oe_t498] 400000 oe_t497 = true := by decide +kernel
theorem ok_t497 (hst : l.stackTraces = false) (h8 : r 8 = r 0 &&& nI 31) (hg : mv_in mv_gS r) : mv_OK l D cs r b0 b mv_mi 68 oe_t497 := mv_mkb hst h8 hg (mv_hs (ok_x hst h8 hg) (mv_hs (ok_m hst h8 hg) (mv_hs (ok_t498 hst h8 hg) mv_hn))) oc_t497 ev_t497
theorem oc_t496 : mv_OC 68 oe_t496 := mv_och (by decide +kernel) hc_0.1 hc_n.1 hc_0.2 hc_n.2
set_option maxRecDepth 1000000 in
theorem ev_t496 : mv_evb mv_gS 68 [oe_x, oe_m, oe_t497] 400000 oe_t496 = true := by decide +kernel
theorem ok_t496 (hst : l.stackTraces = false) (h8 : r 8 = r 0 &&& nI 31) (hg : mv_in mv_gS r) : mv_OK l D cs r b0 b mv_mi 68 oe_t496 := mv_mkb hst h8 hg (mv_hs (ok_x hst h8 hg) (mv_hs (ok_m hst h8 hg) (mv_hs (ok_t497 hst h8 hg) mv_hn))) oc_t496 ev_t496
theorem oc_t495 : mv_OC 68 oe_t495 := mv_och (by decide +kernel) hc_0.1 hc_n.1 hc_0.2 hc_n.2
set_option maxRecDepth 1000000 in
theorem ev_t495 : mv_evb mv_gS 68 [oe_x, oe_m, oe_t496] 400000 oe_t495 = true := by decide +kernel
theorem ok_t495 (hst : l.stackTraces = false) (h8 : r 8 = r 0 &&& nI 31) (hg : mv_in mv_gS r) : mv_OK l D cs r b0 b mv_mi 68 oe_t495 := mv_mkb hst h8 hg (mv_hs (ok_x hst h8 hg) (mv_hs (ok_m hst h8 hg) (mv_hs (ok_t496 hst h8 hg) mv_hn))) oc_t495 ev_t495
theorem oc_t494 : mv_OC 68 oe_t494 := mv_och (by decide +kernel) hc_0.1 hc_n.1 hc_0.2 hc_n.2
set_option maxRecDepth 1000000 in
theorem ev_t494 : mv_evb mv_gS 68 [oe_x, oe_m, oe_t495] 400000 oe_t494 = true := by decide +kernel
theorem ok_t494 (hst : l.stackTraces = false) (h8 : r 8 = r 0 &&& nI 31) (hg : mv_in mv_gS r) : mv_OK l D cs r b0 b mv_mi 68 oe_t494 := mv_mkb hst h8 hg (mv_hs (ok_x hst h8 hg) (mv_hs (ok_m hst h8 hg) (mv_hs (ok_t495 hst h8 hg) mv_hn))) oc_t494 ev_t494
theorem oc_t493 : mv_OC 68 oe_t493 := mv_och (by decide +kernel) hc_0.1 hc_n.1 hc_0.2 hc_n.2
set_option maxRecDepth 1000000 in
theorem ev_t493 : mv_evb mv_gS 68 [oe_x, oe_m, oe_t494] 400000 oe_t493 = true := by decide +kernel
theorem ok_t493 (hst : l.stackTraces = false) (h8 : r 8 = r 0 &&& nI 31) (hg : mv_in mv_gS r) : mv_OK l D cs r b0 b mv_mi 68 oe_t493 := mv_mkb hst h8 hg (mv_hs (ok_x hst h8 hg) (mv_hs (ok_m hst h8 hg) (mv_hs (ok_t494 hst h8 hg) mv_hn))) oc_t493 ev_t493
theorem oc_t492 : mv_OC 68 oe_t492 := mv_och (by decide +kernel) hc_0.1 hc_n.1 hc_0.2 hc_n.2
set_option maxRecDepth 1000000 in
theorem ev_t492 : mv_evb mv_gS 68 [oe_x, oe_m, oe_t493] 400000 oe_t492 = true := by decide +kernel
theorem ok_t492 (hst : l.stackTraces = false) (h8 : r 8 = r 0 &&& nI 31) (hg : mv_in mv_gS r) : mv_OK l D cs r b0 b mv_mi 68 oe_t492 := mv_mkb hst h8 hg (mv_hs (ok_x hst h8 hg) (mv_hs (ok_m hst h8 hg) (mv_hs (ok_t493 hst h8 hg) mv_hn))) oc_t492 ev_t492
theorem oc_t491 : mv_OC 68 oe_t491 := mv_och (by decide +kernel) hc_0.1 hc_n.1 hc_0.2 hc_n.2
set_option maxRecDepth 1000000 in
theorem ev_t491 : mv_evb mv_gS 68 [oe_x, oe_m, oe_t492] 400000 oe_t491 = true := by decide +kernel
theorem ok_t491 (hst : l.stackTraces = false) (h8 : r 8 = r 0 &&& nI 31) (hg : mv_in mv_gS r) : mv_OK l D cs r b0 b mv_mi 68 oe_t491 := mv_mkb hst h8 hg (mv_hs (ok_x hst h8 hg) (mv_hs (ok_m hst h8 hg) (mv_hs (ok_t492 hst h8 hg) mv_hn))) oc_t491 ev_t491
theorem oc_t490 : mv_OC 68 oe_t490 := mv_och (by decide +kernel) hc_0.1 hc_n.1 hc_0.2 hc_n.2
set_option maxRecDepth 1000000 in
theorem ev_t490 : mv_evb mv_gS 68 [oe_x, oe_m, oe_t491] 400000 oe_t490 = true := by decide +kernel
theorem ok_t490 (hst : l.stackTraces = false) (h8 : r 8 = r 0 &&& nI 31) (hg : mv_in mv_gS r) : mv_OK l D cs r b0 b mv_mi 68 oe_t490 := mv_mkb hst h8 hg (mv_hs (ok_x hst h8 hg) (mv_hs (ok_m hst h8 hg) (mv_hs (ok_t491 hst h8 hg) mv_hn))) oc_t490 ev_t490
theorem oc_t489 : mv_OC 68 oe_t489 := mv_och (by decide +kernel) hc_0.1 hc_n.1 hc_0.2 hc_n.2
set_option maxRecDepth 1000000 in
theorem ev_t489 : mv_evb mv_gS 68 [oe_x, oe_m, oe_t490] 400000 oe_t489 = true := by decide +kernel
theorem ok_t489 (hst : l.stackTraces = false) (h8 : r 8 = r 0 &&& nI 31) (hg : mv_in mv_gS r) : mv_OK l D cs r b0 b mv_mi 68 oe_t489 := mv_mkb hst h8 hg (mv_hs (ok_x hst h8 hg) (mv_hs (ok_m hst h8 hg) (mv_hs (ok_t490 hst h8 hg) mv_hn))) oc_t489 ev_t489
theorem oc_t488 : mv_OC 68 oe_t488 := mv_och (by decide +kernel) hc_0.1 hc_n.1 hc_0.2 hc_n.2
set_option maxRecDepth 1000000 in
theorem ev_t488 : mv_evb mv_gS 68 [oe_x, oe_m, oe_t489] 400000 oe_t488 = true := by decide +kernel
theorem ok_t488 (hst : l.stackTraces = false) (h8 : r 8 = r 0 &&& nI 31) (hg : mv_in mv_gS r) : mv_OK l D cs r b0 b mv_mi 68 oe_t488 := mv_mkb hst h8 hg (mv_hs (ok_x hst h8 hg) (mv_hs (ok_m hst h8 hg) (mv_hs (ok_t489 hst h8 hg) mv_hn))) oc_t488 ev_t488
theorem oc_t487 : mv_OC 68 oe_t487 := mv_och (by decide +kernel) hc_0.1 hc_n.1 hc_0.2 hc_n.2
set_option maxRecDepth 1000000 in
theorem ev_t487 : mv_evb mv_gS 68 [oe_x, oe_m, oe_t488] 400000 oe_t487 = true := by decide +kernel
theorem ok_t487 (hst : l.stackTraces = false) (h8 : r 8 = r 0 &&& nI 31) (hg : mv_in mv_gS r) : mv_OK l D cs r b0 b mv_mi 68 oe_t487 := mv_mkb hst h8 hg (mv_hs (ok_x hst h8 hg) (mv_hs (ok_m hst h8 hg) (mv_hs (ok_t488 hst h8 hg) mv_hn))) oc_t487 ev_t487
theorem oc_t486 : mv_OC 68 oe_t486 := mv_och (by decide +kernel) hc_0.1 hc_n.1 hc_0.2 hc_n.2
set_option maxRecDepth 1000000 in
theorem ev_t486 : mv_evb mv_gS 68 [oe_x, oe_m, oe_t487] 400000 oe_t486 = true := by decide +kernel
theorem ok_t486 (hst : l.stackTraces = false) (h8 : r 8 = r 0 &&& nI 31) (hg : mv_in mv_gS r) : mv_OK l D cs r b0 b mv_mi 68 oe_t486 := mv_mkb hst h8 hg (mv_hs (ok_x hst h8 hg) (mv_hs (ok_m hst h8 hg) (mv_hs (ok_t487 hst h8 hg) mv_hn))) oc_t486 ev_t486
theorem oc_t485 : mv_OC 68 oe_t485 := mv_och (by decide +kernel) hc_0.1 hc_n.1 hc_0.2 hc_n.2
set_option maxRecDepth 1000000 in
theorem ev_t485 : mv_evb mv_gS 68 [oe_x, oe_m, oe_t486] 400000 oe_t485 = true := by decide +kernel
theorem ok_t485 (hst : l.stackTraces = false) (h8 : r 8 = r 0 &&& nI 31) (hg : mv_in mv_gS r) : mv_OK l D cs r b0 b mv_mi 68 oe_t485 := mv_mkb hst h8 hg (mv_hs (ok_x hst h8 hg) (mv_hs (ok_m hst h8 hg) (mv_hs (ok_t486 hst h8 hg) mv_hn))) oc_t485 ev_t485
theorem oc_t484 : mv_OC 68 oe_t484 := mv_och (by decide +kernel) hc_0.1 hc_n.1 hc_0.2 hc_n.2
set_option maxRecDepth 1000000 in
theorem ev_t484 : mv_evb mv_gS 68 [oe_x, oe_m, oe_t485] 400000 oe_t484 = true := by decide +kernel
theorem ok_t484 (hst : l.stackTraces = false) (h8 : r 8 = r 0 &&& nI 31) (hg : mv_in mv_gS r) : mv_OK l D cs r b0 b mv_mi 68 oe_t484 := mv_mkb hst h8 hg (mv_hs (ok_x hst h8 hg) (mv_hs (ok_m hst h8 hg) (mv_hs (ok_t485 hst h8 hg) mv_hn))) oc_t484 ev_t484
theorem oc_t483 : mv_OC 68 oe_t483 := mv_och (by decide +kernel) hc_0.1 hc_n.1 hc_0.2 hc_n.2
set_option maxRecDepth 1000000 in
theorem ev_t483 : mv_evb mv_gS 68 [oe_x, oe_m, oe_t484] 400000 oe_t483 = true := by decide +kernel
theorem ok_t483 (hst : l.stackTraces = false) (h8 : r 8 = r 0 &&& nI 31) (hg : mv_in mv_gS r) : mv_OK l D cs r b0 b mv_mi 68 oe_t483 := mv_mkb hst h8 hg (mv_hs (ok_x hst h8 hg) (mv_hs (ok_m hst h8 hg) (mv_hs (ok_t484 hst h8 hg) mv_hn))) oc_t483 ev_t483
theorem oc_t482 : mv_OC 68 oe_t482 := mv_och (by decide +kernel) hc_0.1 hc_n.1 hc_0.2 hc_n.2
set_option maxRecDepth 1000000 in
theorem ev_t482 : mv_evb mv_gS 68 [oe_x, oe_m, oe_t483] 400000 oe_t482 = true := by decide +kernel
theorem ok_t482 (hst : l.stackTraces = false) (h8 : r 8 = r 0 &&& nI 31) (hg : mv_in mv_gS r) : mv_OK l D cs r b0 b mv_mi 68 oe_t482 := mv_mkb hst h8 hg (mv_hs (ok_x hst h8 hg) (mv_hs (ok_m hst h8 hg) (mv_hs (ok_t483 hst h8 hg) mv_hn))) oc_t482 ev_t482
theorem oc_t481 : mv_OC 68 oe_t481 := mv_och (by decide +kernel) hc_0.1 hc_n.1 hc_0.2 hc_n.2
set_option maxRecDepth 1000000 in
theorem ev_t481 : mv_evb mv_gS 68 [oe_x, oe_m, oe_t482] 400000 oe_t481 = true := by decide +kernel
theorem ok_t481 (hst : l.stackTraces = false) (h8 : r 8 = r 0 &&& nI 31) (hg : mv_in mv_gS r) : mv_OK l D cs r b0 b mv_mi 68 oe_t481 := mv_mkb hst h8 hg (mv_hs (ok_x hst h8 hg) (mv_hs (ok_m hst h8 hg) (mv_hs (ok_t482 hst h8 hg) mv_hn))) oc_t481 ev_t481
theorem oc_t480 : mv_OC 68 oe_t480 := mv_och (by decide +kernel) hc_0.1 hc_n.1 hc_0.2 hc_n.2
set_option maxRecDepth 1000000 in
theorem ev_t480 : mv_evb mv_gS 68 [oe_x, oe_m, oe_t481] 400000 oe_t480 = true := by decide +kernel
theorem ok_t480 (hst : l.stackTraces = false) (h8 : r 8 = r 0 &&& nI 31) (hg : mv_in mv_gS r) : mv_OK l D cs r b0 b mv_mi 68 oe_t480 := mv_mkb hst h8 hg (mv_hs (ok_x hst h8 hg) (mv_hs (ok_m hst h8 hg) (mv_hs (ok_t481 hst h8 hg) mv_hn))) oc_t480 ev_t480
theorem oc_t479 : mv_OC 68 oe_t479 := mv_och (by decide +kernel) hc_0.1 hc_n.1 hc_0.2 hc_n.2
set_option maxRecDepth 1000000 in
theorem ev_t479 : mv_evb mv_gS 68 [oe_x, oe_m, oe_t480] 400000 oe_t479 = true := by decide +kernel
theorem ok_t479 (hst : l.stackTraces = false) (h8 : r 8 = r 0 &&& nI 31) (hg : mv_in mv_gS r) : mv_OK l D cs r b0 b mv_mi 68 oe_t479 := mv_mkb hst h8 hg (mv_hs (ok_x hst h8 hg) (mv_hs (ok_m hst h8 hg) (mv_hs (ok_t480 hst h8 hg) mv_hn))) oc_t479 ev_t479
theorem oc_t478 : mv_OC 68 oe_t478 := mv_och (by decide +kernel) hc_0.1 hc_n.1 hc_0.2 hc_n.2
set_option maxRecDepth 1000000 in
theorem ev_t478 : mv_evb mv_gS 68 [oe_x, oe_m, oe_t479] 400000 oe_t478 = true := by decide +kernel
theorem ok_t478 (hst : l.stackTraces = false) (h8 : r 8 = r 0 &&& nI 31) (hg : mv_in mv_gS r) : mv_OK l D cs r b0 b mv_mi 68 oe_t478 := mv_mkb hst h8 hg (mv_hs (ok_x hst h8 hg) (mv_hs (ok_m hst h8 hg) (mv_hs (ok_t479 hst h8 hg) mv_hn))) oc_t478 ev_t478
theorem oc_t477 : mv_OC 68 oe_t477 := mv_och (by decide +kernel) hc_0.1 hc_n.1 hc_0.2 hc_n.2
set_option maxRecDepth 1000000 in
theorem ev_t477 : mv_evb mv_gS 68 [oe_x, oe_m, oe_t478] 400000 oe_t477 = true := by decide +kernel
theorem ok_t477 (hst : l.stackTraces = false) (h8 : r 8 = r 0 &&& nI 31) (hg : mv_in mv_gS r) : mv_OK l D cs r b0 b mv_mi 68 oe_t477 := mv_mkb hst h8 hg (mv_hs (ok_x hst h8 hg) (mv_hs (ok_m hst h8 hg) (mv_hs (ok_t478 hst h8 hg) mv_hn))) oc_t477 ev_t477
theorem oc_t476 : mv_OC 68 oe_t476 := mv_och (by decide +kernel) hc_0.1 hc_n.1 hc_0.2 hc_n.2
set_option maxRecDepth 1000000 in
theorem ev_t476 : mv_evb mv_gS 68 [oe_x, oe_m, oe_t477] 400000 oe_t476 = true := by decide +kernel
theorem ok_t476 (hst : l.stackTraces = false) (h8 : r 8 = r 0 &&& nI 31) (hg : mv_in mv_gS r) : mv_OK l D cs r b0 b mv_mi 68 oe_t476 := mv_mkb hst h8 hg (mv_hs (ok_x hst h8 hg) (mv_hs (ok_m hst h8 hg) (mv_hs (ok_t477 hst h8 hg) mv_hn))) oc_t476 ev_t476
theorem oc_t475 : mv_OC 68 oe_t475 := mv_och (by decide +kernel) hc_0.1 hc_n.1 hc_0.2 hc_n.2
set_option maxRecDepth 1000000 in
theorem ev_t475 : mv_evb mv_gS 68 [oe_x, oe_m, oe_t476] 400000 oe_t475 = true := by decide +kernel
theorem ok_t475 (hst : l.stackTraces = false) (h8 : r 8 = r 0 &&& nI 31) (hg : mv_in mv_gS r) : mv_OK l D cs r b0 b mv_mi 68 oe_t475 := mv_mkb hst h8 hg (mv_hs (ok_x hst h8 hg) (mv_hs (ok_m hst h8 hg) (mv_hs (ok_t476 hst h8 hg) mv_hn))) oc_t475 ev_t475
theorem oc_t474 : mv_OC 68 oe_t474 := mv_och (by decide +kernel) hc_0.1 hc_n.1 hc_0.2 hc_n.2
set_option maxRecDepth 1000000 in
theorem ev_t474 : mv_evb mv_gS 68 [oe_x, oe_m, oe_t475] 400000 oe_t474 = true := by decide +kernel
theorem ok_t474 (hst : l.stackTraces = false) (h8 : r 8 = r 0 &&& nI 31) (hg : mv_in mv_gS r) : mv_OK l D cs r b0 b mv_mi 68 oe_t474 := mv_mkb hst h8 hg (mv_hs (ok_x hst h8 hg) (mv_hs (ok_m hst h8 hg) (mv_hs (ok_t475 hst h8 hg) mv_hn))) oc_t474 ev_t474
theorem oc_t473 : mv_OC 68 oe_t473 := mv_och (by decide +kernel) hc_0.1 hc_n.1 hc_0.2 hc_n.2
set_option maxRecDepth 1000000 in
theorem ev_t473 : mv_evb mv_gS 68 [oe_x, oe_m, oe_t474] 400000 oe_t473 = true := by decide +kernel
theorem ok_t473 (hst : l.stackTraces = false) (h8 : r 8 = r 0 &&& nI 31) (hg : mv_in mv_gS r) : mv_OK l D cs r b0 b mv_mi 68 oe_t473 := mv_mkb hst h8 hg (mv_hs (ok_x hst h8 hg) (mv_hs (ok_m hst h8 hg) (mv_hs (ok_t474 hst h8 hg) mv_hn))) oc_t473 ev_t473
theorem oc_t472 : mv_OC 68 oe_t472 := mv_och (by decide +kernel) hc_0.1 hc_n.1 hc_0.2 hc_n.2
set_option maxRecDepth 1000000 in
theorem ev_t472 : mv_evb mv_gS 68 [oe_x, oe_m, oe_t473] 400000 oe_t472 = true := by decide +kernel
theorem ok_t472 (hst : l.stackTraces = false) (h8 : r 8 = r 0 &&& nI 31) (hg : mv_in mv_gS r) : mv_OK l D cs r b0 b mv_mi 68 oe_t472 := mv_mkb hst h8 hg (mv_hs (ok_x hst h8 hg) (mv_hs (ok_m hst h8 hg) (mv_hs (ok_t473 hst h8 hg) mv_hn))) oc_t472 ev_t472
theorem oc_t471 : mv_OC 68 oe_t471 := mv_och (by decide +kernel) hc_0.1 hc_n.1 hc_0.2 hc_n.2
set_option maxRecDepth 1000000 in
theorem ev_t471 : mv_evb mv_gS 68 [oe_x, oe_m, oe_t472] 400000 oe_t471 = true := by decide +kernel
theorem ok_t471 (hst : l.stackTraces = false) (h8 : r 8 = r 0 &&& nI 31) (hg : mv_in mv_gS r) : mv_OK l D cs r b0 b mv_mi 68 oe_t471 := mv_mkb hst h8 hg (mv_hs (ok_x hst h8 hg) (mv_hs (ok_m hst h8 hg) (mv_hs (ok_t472 hst h8 hg) mv_hn))) oc_t471 ev_t471
theorem oc_t470 : mv_OC 68 oe_t470 := mv_och (by decide +kernel) hc_0.1 hc_n.1 hc_0.2 hc_n.2
set_option maxRecDepth 1000000 in
theorem ev_t470 : mv_evb mv_gS 68 [oe_x, oe_m, oe_t471] 400000 oe_t470 = true := by decide +kernel
theorem ok_t470 (hst : l.stackTraces = false) (h8 : r 8 = r 0 &&& nI 31) (hg : mv_in mv_gS r) : mv_OK l D cs r b0 b mv_mi 68 oe_t470 := mv_mkb hst h8 hg (mv_hs (ok_x hst h8 hg) (mv_hs (ok_m hst h8 hg) (mv_hs (ok_t471 hst h8 hg) mv_hn))) oc_t470 ev_t470
theorem oc_t469 : mv_OC 68 oe_t469 := mv_och (by decide +kernel) hc_0.1 hc_n.1 hc_0.2 hc_n.2
set_option maxRecDepth 1000000 in
theorem ev_t469 : mv_evb mv_gS 68 [oe_x, oe_m, oe_t470] 400000 oe_t469 = true := by decide +kernel
theorem ok_t469 (hst : l.stackTraces = false) (h8 : r 8 = r 0 &&& nI 31) (hg : mv_in mv_gS r) : mv_OK l D cs r b0 b mv_mi 68 oe_t469 := mv_mkb hst h8 hg (mv_hs (ok_x hst h8 hg) (mv_hs (ok_m hst h8 hg) (mv_hs (ok_t470 hst h8 hg) mv_hn))) oc_t469 ev_t469
theorem oc_t468 : mv_OC 68 oe_t468 := mv_och (by decide +kernel) hc_0.1 hc_n.1 hc_0.2 hc_n.2
set_option maxRecDepth 1000000 in
theorem ev_t468 : mv_evb mv_gS 68 [oe_x, oe_m, oe_t469] 400000 oe_t468 = true := by decide +kernel
theorem ok_t468 (hst : l.stackTraces = false) (h8 : r 8 = r 0 &&& nI 31) (hg : mv_in mv_gS r) : mv_OK l D cs r b0 b mv_mi 68 oe_t468 := mv_mkb hst h8 hg (mv_hs (ok_x hst h8 hg) (mv_hs (ok_m hst h8 hg) (mv_hs (ok_t469 hst h8 hg) mv_hn))) oc_t468 ev_t468
theorem oc_t467 : mv_OC 68 oe_t467 := mv_och (by decide +kernel) hc_0.1 hc_n.1 hc_0.2 hc_n.2
set_option maxRecDepth 1000000 in
theorem ev_t467 : mv_evb mv_gS 68 [oe_x, oe_m, oe_t468] 400000 oe_t467 = true := by decide +kernel
theorem ok_t467 (hst : l.stackTraces = false) (h8 : r 8 = r 0 &&& nI 31) (hg : mv_in mv_gS r) : mv_OK l D cs r b0 b mv_mi 68 oe_t467 := mv_mkb hst h8 hg (mv_hs (ok_x hst h8 hg) (mv_hs (ok_m hst h8 hg) (mv_hs (ok_t468 hst h8 hg) mv_hn))) oc_t467 ev_t467
theorem oc_t466 : mv_OC 68 oe_t466 := mv_och (by decide +kernel) hc_0.1 hc_n.1 hc_0.2 hc_n.2
set_option maxRecDepth 1000000 in
theorem ev_t466 : mv_evb mv_gS 68 [oe_x, oe_m, oe_t467] 400000 oe_t466 = true := by decide +kernel
theorem ok_t466 (hst : l.stackTraces = false) (h8 : r 8 = r 0 &&& nI 31) (hg : mv_in mv_gS r) : mv_OK l D cs r b0 b mv_mi 68 oe_t466 := mv_mkb hst h8 hg (mv_hs (ok_x hst h8 hg) (mv_hs (ok_m hst h8 hg) (mv_hs (ok_t467 hst h8 hg) mv_hn))) oc_t466 ev_t466
theorem oc_t465 : mv_OC 68 oe_t465 := mv_och (by decide +kernel) hc_0.1 hc_n.1 hc_0.2 hc_n.2
set_option maxRecDepth 1000000 in
theorem ev_t465 : mv_evb mv_gS 68 [oe_x, oe_m, oe_t466] 400000 oe_t465 = true := by decide +kernel
theorem ok_t465 (hst : l.stackTraces = false) (h8 : r 8 = r 0 &&& nI 31) (hg : mv_in mv_gS r) : mv_OK l D cs r b0 b mv_mi 68 oe_t465 := mv_mkb hst h8 hg (mv_hs (ok_x hst h8 hg) (mv_hs (ok_m hst h8 hg) (mv_hs (ok_t466 hst h8 hg) mv_hn))) oc_t465 ev_t465
theorem oc_t464 : mv_OC 68 oe_t464 := mv_och (by decide +kernel) hc_0.1 hc_n.1 hc_0.2 hc_n.2
set_option maxRecDepth 1000000 in
theorem ev_t464 : mv_evb mv_gS 68 [oe_x, oe_m, oe_t465] 400000 oe_t464 = true := by decide +kernel
theorem ok_t464 (hst : l.stackTraces = false) (h8 : r 8 = r 0 &&& nI 31) (hg : mv_in mv_gS r) : mv_OK l D cs r b0 b mv_mi 68 oe_t464 := mv_mkb hst h8 hg (mv_hs (ok_x hst h8 hg) (mv_hs (ok_m hst h8 hg) (mv_hs (ok_t465 hst h8 hg) mv_hn))) oc_t464 ev_t464
theorem oc_t463 : mv_OC 68 oe_t463 := mv_och (by decide +kernel) hc_0.1 hc_n.1 hc_0.2 hc_n.2
set_option maxRecDepth 1000000 in
theorem ev_t463 : mv_evb mv_gS 68 [oe_x, oe_m, oe_t464] 400000 oe_t463 = true := by decide +kernel
theorem ok_t463 (hst : l.stackTraces = false) (h8 : r 8 = r 0 &&& nI 31) (hg : mv_in mv_gS r) : mv_OK l D cs r b0 b mv_mi 68 oe_t463 := mv_mkb hst h8 hg (mv_hs (ok_x hst h8 hg) (mv_hs (ok_m hst h8 hg) (mv_hs (ok_t464 hst h8 hg) mv_hn))) oc_t463 ev_t463
theorem oc_t462 : mv_OC 68 oe_t462 := mv_och (by decide +kernel) hc_0.1 hc_n.1 hc_0.2 hc_n.2
set_option maxRecDepth 1000000 in
theorem ev_t462 : mv_evb mv_gS 68 [oe_x, oe_m, oe_t463] 400000 oe_t462 = true := by decide +kernel
theorem ok_t462 (hst : l.stackTraces = false) (h8 : r 8 = r 0 &&& nI 31) (hg : mv_in mv_gS r) : mv_OK l D cs r b0 b mv_mi 68 oe_t462 := mv_mkb hst h8 hg (mv_hs (ok_x hst h8 hg) (mv_hs (ok_m hst h8 hg) (mv_hs (ok_t463 hst h8 hg) mv_hn))) oc_t462 ev_t462
theorem oc_t461 : mv_OC 68 oe_t461 := mv_och (by decide +kernel) hc_0.1 hc_n.1 hc_0.2 hc_n.2
set_option maxRecDepth 1000000 in
theorem ev_t461 : mv_evb mv_gS 68 [oe_x, oe_m, oe_t462] 400000 oe_t461 = true := by decide +kernel
theorem ok_t461 (hst : l.stackTraces = false) (h8 : r 8 = r 0 &&& nI 31) (hg : mv_in mv_gS r) : mv_OK l D cs r b0 b mv_mi 68 oe_t461 := mv_mkb hst h8 hg (mv_hs (ok_x hst h8 hg) (mv_hs (ok_m hst h8 hg) (mv_hs (ok_t462 hst h8 hg) mv_hn))) oc_t461 ev_t461
theorem oc_t460 : mv_OC 68 oe_t460 := mv_och (by decide +kernel) hc_0.1 hc_n.1 hc_0.2 hc_n.2
set_option maxRecDepth 1000000 in
theorem ev_t460 : mv_evb mv_gS 68 [oe_x, oe_m, oe_t461] 400000 oe_t460 = true := by decide +kernel
theorem ok_t460 (hst : l.stackTraces = false) (h8 : r 8 = r 0 &&& nI 31) (hg : mv_in mv_gS r) : mv_OK l D cs r b0 b mv_mi 68 oe_t460 := mv_mkb hst h8 hg (mv_hs (ok_x hst h8 hg) (mv_hs (ok_m hst h8 hg) (mv_hs (ok_t461 hst h8 hg) mv_hn))) oc_t460 ev_t460
theorem oc_t459 : mv_OC 68 oe_t459 := mv_och (by decide +kernel) hc_0.1 hc_n.1 hc_0.2 hc_n.2
set_option maxRecDepth 1000000 in
theorem ev_t459 : mv_evb mv_gS 68 [oe_x, oe_m, oe_t460] 400000 oe_t459 = true := by decide +kernel
theorem ok_t459 (hst : l.stackTraces = false) (h8 : r 8 = r 0 &&& nI 31) (hg : mv_in mv_gS r) : mv_OK l D cs r b0 b mv_mi 68 oe_t459 := mv_mkb hst h8 hg (mv_hs (ok_x hst h8 hg) (mv_hs (ok_m hst h8 hg) (mv_hs (ok_t460 hst h8 hg) mv_hn))) oc_t459 ev_t459
theorem oc_t458 : mv_OC 68 oe_t458 := mv_och (by decide +kernel) hc_0.1 hc_n.1 hc_0.2 hc_n.2
set_option maxRecDepth 1000000 in
theorem ev_t458 : mv_evb mv_gS 68 [oe_x, oe_m, oe_t459] 400000 oe_t458 = true := by decide +kernel
theorem ok_t458 (hst : l.stackTraces = false) (h8 : r 8 = r 0 &&& nI 31) (hg : mv_in mv_gS r) : mv_OK l D cs r b0 b mv_mi 68 oe_t458 := mv_mkb hst h8 hg (mv_hs (ok_x hst h8 hg) (mv_hs (ok_m hst h8 hg) (mv_hs (ok_t459 hst h8 hg) mv_hn))) oc_t458 ev_t458
theorem oc_t457 : mv_OC 68 oe_t457 := mv_och (by decide +kernel) hc_0.1 hc_n.1 hc_0.2 hc_n.2
set_option maxRecDepth 1000000 in
theorem ev_t457 : mv_evb mv_gS 68 [oe_x, oe_m, oe_t458] 400000 oe_t457 = true := by decide +kernel
theorem ok_t457 (hst : l.stackTraces = false) (h8 : r 8 = r 0 &&& nI 31) (hg : mv_in mv_gS r) : mv_OK l D cs r b0 b mv_mi 68 oe_t457 := mv_mkb hst h8 hg (mv_hs (ok_x hst h8 hg) (mv_hs (ok_m hst h8 hg) (mv_hs (ok_t458 hst h8 hg) mv_hn))) oc_t457 ev_t457
theorem oc_t456 : mv_OC 68 oe_t456 := mv_och (by decide +kernel) hc_0.1 hc_n.1 hc_0.2 hc_n.2
set_option maxRecDepth 1000000 in
theorem ev_t456 : mv_evb mv_gS 68 [oe_x, oe_m, oe_t457] 400000 oe_t456 = true := by decide +kernel
theorem ok_t456 (hst : l.stackTraces = false) (h8 : r 8 = r 0 &&& nI 31) (hg : mv_in mv_gS r) : mv_OK l D cs r b0 b mv_mi 68 oe_t456 := mv_mkb hst h8 hg (mv_hs (ok_x hst h8 hg) (mv_hs (ok_m hst h8 hg) (mv_hs (ok_t457 hst h8 hg) mv_hn))) oc_t456 ev_t456
theorem oc_t455 : mv_OC 68 oe_t455 := mv_och (by decide +kernel) hc_0.1 hc_n.1 hc_0.2 hc_n.2
set_option maxRecDepth 1000000 in
theorem ev_t455 : mv_evb mv_gS 68 [oe_x, oe_m, oe_t456] 400000 oe_t455 = true := by decide +kernel
theorem ok_t455 (hst : l.stackTraces = false) (h8 : r 8 = r 0 &&& nI 31) (hg : mv_in mv_gS r) : mv_OK l D cs r b0 b mv_mi 68 oe_t455 := mv_mkb hst h8 hg (mv_hs (ok_x hst h8 hg) (mv_hs (ok_m hst h8 hg) (mv_hs (ok_t456 hst h8 hg) mv_hn))) oc_t455 ev_t455
theorem oc_t454 : mv_OC 68 oe_t454 := mv_och (by decide +kernel) hc_0.1 hc_n.1 hc_0.2 hc_n.2
set_option maxRecDepth 1000000 in
theorem ev_t454 : mv_evb mv_gS 68 [oe_x, oe_m, oe_t455] 400000 oe_t454 = true := by decide +kernel
theorem ok_t454 (hst : l.stackTraces = false) (h8 : r 8 = r 0 &&& nI 31) (hg : mv_in mv_gS r) : mv_OK l D cs r b0 b mv_mi 68 oe_t454 := mv_mkb hst h8 hg (mv_hs (ok_x hst h8 hg) (mv_hs (ok_m hst h8 hg) (mv_hs (ok_t455 hst h8 hg) mv_hn))) oc_t454 ev_t454
theorem oc_t453 : mv_OC 68 oe_t453 := mv_och (by decide +kernel) hc_0.1 hc_n.1 hc_0.2 hc_n.2
set_option maxRecDepth 1000000 in
theorem ev_t453 : mv_evb mv_gS 68 [oe_x, oe_m, oe_t454] 400000 oe_t453 = true := by decide +kernel
theorem ok_t453 (hst : l.stackTraces = false) (h8 : r 8 = r 0 &&& nI 31) (hg : mv_in mv_gS r) : mv_OK l D cs r b0 b mv_mi 68 oe_t453 := mv_mkb hst h8 hg (mv_hs (ok_x hst h8 hg) (mv_hs (ok_m hst h8 hg) (mv_hs (ok_t454 hst h8 hg) mv_hn))) oc_t453 ev_t453
theorem oc_t452 : mv_OC 68 oe_t452 := mv_och (by decide +kernel) hc_0.1 hc_n.1 hc_0.2 hc_n.2
set_option maxRecDepth 1000000 in
theorem ev_t452 : mv_evb mv_gS 68 [oe_x, oe_m, oe_t453] 400000 oe_t452 = true := by decide +kernel
theorem ok_t452 (hst : l.stackTraces = false) (h8 : r 8 = r 0 &&& nI 31) (hg : mv_in mv_gS r) : mv_OK l D cs r b0 b mv_mi 68 oe_t452 := mv_mkb hst h8 hg (mv_hs (ok_x hst h8 hg) (mv_hs (ok_m hst h8 hg) (mv_hs (ok_t453 hst h8 hg) mv_hn))) oc_t452 ev_t452
theorem oc_t451 : mv_OC 68 oe_t451 := mv_och (by decide +kernel) hc_0.1 hc_n.1 hc_0.2 hc_n.2
set_option maxRecDepth 1000000 in
theorem ev_t451 : mv_evb mv_gS 68 [oe_x, oe_m, oe_t452] 400000 oe_t451 = true := by decide +kernel
theorem ok_t451 (hst : l.stackTraces = false) (h8 : r 8 = r 0 &&& nI 31) (hg : mv_in mv_gS r) : mv_OK l D cs r b0 b mv_mi 68 oe_t451 := mv_mkb hst h8 hg (mv_hs (ok_x hst h8 hg) (mv_hs (ok_m hst h8 hg) (mv_hs (ok_t452 hst h8 hg) mv_hn))) oc_t451 ev_t451
theorem oc_t450 : mv_OC 68 oe_t450 := mv_och (by decide +kernel) hc_0.1 hc_n.1 hc_0.2 hc_n.2
set_option maxRecDepth 1000000 in
theorem ev_t450 : mv_evb mv_gS 68 [oe_x, oe_m, oe_t451] 400000 oe_t450 = true := by decide +kernel
theorem ok_t450 (hst : l.stackTraces = false) (h8 : r 8 = r 0 &&& nI 31) (hg : mv_in mv_gS r) : mv_OK l D cs r b0 b mv_mi 68 oe_t450 := mv_mkb hst h8 hg (mv_hs (ok_x hst h8 hg) (mv_hs (ok_m hst h8 hg) (mv_hs (ok_t451 hst h8 hg) mv_hn))) oc_t450 ev_t450
theorem oc_t449 : mv_OC 68 oe_t449 := mv_och (by decide +kernel) hc_0.1 hc_n.1 hc_0.2 hc_n.2
set_option maxRecDepth 1000000 in
theorem ev_t449 : mv_evb mv_gS 68 [oe_x, oe_m, oe_t450] 400000 oe_t449 = true := by decide +kernel
theorem ok_t449 (hst : l.stackTraces = false) (h8 : r 8 = r 0 &&& nI 31) (hg : mv_in mv_gS r) : mv_OK l D cs r b0 b mv_mi 68 oe_t449 := mv_mkb hst h8 hg (mv_hs (ok_x hst h8 hg) (mv_hs (ok_m hst h8 hg) (mv_hs (ok_t450 hst h8 hg) mv_hn))) oc_t449 ev_t449
theorem oc_t448 : mv_OC 68 oe_t448 := mv_och (by decide +kernel) hc_0.1 hc_n.1 hc_0.2 hc_n.2
set_option maxRecDepth 1000000 in
theorem ev_t448 : mv_evb mv_gS 68 [oe_x, oe_m, oe_t449] 400000 oe_t448 = true := by decide +kernel
theorem ok_t448 (hst : l.stackTraces = false) (h8 : r 8 = r 0 &&& nI 31) (hg : mv_in mv_gS r) : mv_OK l D cs r b0 b mv_mi 68 oe_t448 := mv_mkb hst h8 hg (mv_hs (ok_x hst h8 hg) (mv_hs (ok_m hst h8 hg) (mv_hs (ok_t449 hst h8 hg) mv_hn))) oc_t448 ev_t448
theorem oc_t447 : mv_OC 68 oe_t447 := mv_och (by decide +kernel) hc_0.1 hc_n.1 hc_0.2 hc_n.2
set_option maxRecDepth 1000000 in
theorem ev_t447 : mv_evb mv_gS 68 [oe_x, oe_m, oe_t448] 400000 oe_t447 = true := by decide +kernel
theorem ok_t447 (hst : l.stackTraces = false) (h8 : r 8 = r 0 &&& nI 31) (hg : mv_in mv_gS r) : mv_OK l D cs r b0 b mv_mi 68 oe_t447 := mv_mkb hst h8 hg (mv_hs (ok_x hst h8 hg) (mv_hs (ok_m hst h8 hg) (mv_hs (ok_t448 hst h8 hg) mv_hn))) oc_t447 ev_t447
theorem oc_t446 : mv_OC 68 oe_t446 := mv_och (by decide +kernel) hc_0.1 hc_n.1 hc_0.2 hc_n.2
set_option maxRecDepth 1000000 in
theorem ev_t446 : mv_evb mv_gS 68 [oe_x, oe_m, oe_t447] 400000 oe_t446 = true := by decide +kernel
theorem ok_t446 (hst : l.stackTraces = false) (h8 : r 8 = r 0 &&& nI 31) (hg : mv_in mv_gS r) : mv_OK l D cs r b0 b mv_mi 68 oe_t446 := mv_mkb hst h8 hg (mv_hs (ok_x hst h8 hg) (mv_hs (ok_m hst h8 hg) (mv_hs (ok_t447 hst h8 hg) mv_hn))) oc_t446 ev_t446
theorem oc_t445 : mv_OC 68 oe_t445 := mv_och (by decide +kernel) hc_0.1 hc_n.1 hc_0.2 hc_n.2
set_option maxRecDepth 1000000 in
theorem ev_t445 : mv_evb mv_gS 68 [oe_x, oe_m, oe_t446] 400000 oe_t445 = true := by decide +kernel
theorem ok_t445 (hst : l.stackTraces = false) (h8 : r 8 = r 0 &&& nI 31) (hg : mv_in mv_gS r) : mv_OK l D cs r b0 b mv_mi 68 oe_t445 := mv_mkb hst h8 hg (mv_hs (ok_x hst h8 hg) (mv_hs (ok_m hst h8 hg) (mv_hs (ok_t446 hst h8 hg) mv_hn))) oc_t445 ev_t445
theorem oc_t444 : mv_OC 68 oe_t444 := mv_och (by decide +kernel) hc_0.1 hc_n.1 hc_0.2 hc_n.2
set_option maxRecDepth 1000000 in
theorem ev_t444 : mv_evb mv_gS 68 [oe_x, oe_m, oe_t445] 400000 oe_t444 = true := by decide +kernel
theorem ok_t444 (hst : l.stackTraces = false) (h8 : r 8 = r 0 &&& nI 31) (hg : mv_in mv_gS r) : mv_OK l D cs r b0 b mv_mi 68 oe_t444 := mv_mkb hst h8 hg (mv_hs (ok_x hst h8 hg) (mv_hs (ok_m hst h8 hg) (mv_hs (ok_t445 hst h8 hg) mv_hn))) oc_t444 ev_t444
theorem oc_t443 : mv_OC 68 oe_t443 := mv_och (by decide +kernel) hc_0.1 hc_n.1 hc_0.2 hc_n.2
set_option maxRecDepth 1000000 in
theorem ev_t443 : mv_evb mv_gS 68 [oe_x, oe_m, oe_t444] 400000 oe_t443 = true := by decide +kernel
theorem ok_t443 (hst : l.stackTraces = false) (h8 : r 8 = r 0 &&& nI 31) (hg : mv_in mv_gS r) : mv_OK l D cs r b0 b mv_mi 68 oe_t443 := mv_mkb hst h8 hg (mv_hs (ok_x hst h8 hg) (mv_hs (ok_m hst h8 hg) (mv_hs (ok_t444 hst h8 hg) mv_hn))) oc_t443 ev_t443
theorem oc_t442 : mv_OC 68 oe_t442 := mv_och (by decide +kernel) hc_0.1 hc_n.1 hc_0.2 hc_n.2
set_option maxRecDepth 1000000 in
theorem ev_t442 : mv_evb mv_gS 68 [oe_x, oe_m, oe_t443] 400000 oe_t442 = true := by decide +kernel
theorem ok_t442 (hst : l.stackTraces = false) (h8 : r 8 = r 0 &&& nI 31) (hg : mv_in mv_gS r) : mv_OK l D cs r b0 b mv_mi 68 oe_t442 := mv_mkb hst h8 hg (mv_hs (ok_x hst h8 hg) (mv_hs (ok_m hst h8 hg) (mv_hs (ok_t443 hst h8 hg) mv_hn))) oc_t442 ev_t442
theorem oc_t441 : mv_OC 68 oe_t441 := mv_och (by decide +kernel) hc_0.1 hc_n.1 hc_0.2 hc_n.2
set_option maxRecDepth 1000000 in
theorem ev_t441 : mv_evb mv_gS 68 [oe_x, oe_m, oe_t442] 400000 oe_t441 = true := by decide +kernel
theorem ok_t441 (hst : l.stackTraces = false) (h8 : r 8 = r 0 &&& nI 31) (hg : mv_in mv_gS r) : mv_OK l D cs r b0 b mv_mi 68 oe_t441 := mv_mkb hst h8 hg (mv_hs (ok_x hst h8 hg) (mv_hs (ok_m hst h8 hg) (mv_hs (ok_t442 hst h8 hg) mv_hn))) oc_t441 ev_t441
theorem oc_t440 : mv_OC 68 oe_t440 := mv_och (by decide +kernel) hc_0.1 hc_n.1 hc_0.2 hc_n.2
set_option maxRecDepth 1000000 in
theorem ev_t440 : mv_evb mv_gS 68 [oe_x, oe_m, oe_t441] 400000 oe_t440 = true := by decide +kernel
theorem ok_t440 (hst : l.stackTraces = false) (h8 : r 8 = r 0 &&& nI 31) (hg : mv_in mv_gS r) : mv_OK l D cs r b0 b mv_mi 68 oe_t440 := mv_mkb hst h8 hg (mv_hs (ok_x hst h8 hg) (mv_hs (ok_m hst h8 hg) (mv_hs (ok_t441 hst h8 hg) mv_hn))) oc_t440 ev_t440
theorem oc_t439 : mv_OC 68 oe_t439 := mv_och (by decide +kernel) hc_0.1 hc_n.1 hc_0.2 hc_n.2
set_option maxRecDepth 1000000 in
theorem ev_t439 : mv_evb mv_gS 68 [oe_x, oe_m, oe_t440] 400000 oe_t439 = true := by decide +kernel
theorem ok_t439 (hst : l.stackTraces = false) (h8 : r 8 = r 0 &&& nI 31) (hg : mv_in mv_gS r) : mv_OK l D cs r b0 b mv_mi 68 oe_t439 := mv_mkb hst h8 hg (mv_hs (ok_x hst h8 hg) (mv_hs (ok_m hst h8 hg) (mv_hs (ok_t440 hst h8 hg) mv_hn))) oc_t439 ev_t439
theorem oc_t438 : mv_OC 68 oe_t438 := mv_och (by decide +kernel) hc_0.1 hc_n.1 hc_0.2 hc_n.2
set_option maxRecDepth 1000000 in
theorem ev_t438 : mv_evb mv_gS 68 [oe_x, oe_m, oe_t439] 400000 oe_t438 = true := by decide +kernel
theorem ok_t438 (hst : l.stackTraces = false) (h8 : r 8 = r 0 &&& nI 31) (hg : mv_in mv_gS r) : mv_OK l D cs r b0 b mv_mi 68 oe_t438 := mv_mkb hst h8 hg (mv_hs (ok_x hst h8 hg) (mv_hs (ok_m hst h8 hg) (mv_hs (ok_t439 hst h8 hg) mv_hn))) oc_t438 ev_t438
theorem oc_t437 : mv_OC 68 oe_t437 := mv_och (by decide +kernel) hc_0.1 hc_n.1 hc_0.2 hc_n.2
set_option maxRecDepth 1000000 in
theorem ev_t437 : mv_evb mv_gS 68 [oe_x, oe_m, oe_t438] 400000 oe_t437 = true := by decide +kernel
theorem ok_t437 (hst : l.stackTraces = false) (h8 : r 8 = r 0 &&& nI 31) (hg : mv_in mv_gS r) : mv_OK l D cs r b0 b mv_mi 68 oe_t437 := mv_mkb hst h8 hg (mv_hs (ok_x hst h8 hg) (mv_hs (ok_m hst h8 hg) (mv_hs (ok_t438 hst h8 hg) mv_hn))) oc_t437 ev_t437
theorem oc_t436 : mv_OC 68 oe_t436 := mv_och (by decide +kernel) hc_0.1 hc_n.1 hc_0.2 hc_n.2
set_option maxRecDepth 1000000 in
theorem ev_t436 : mv_evb mv_gS 68 [oe_x, oe_m, oe_t437] 400000 oe_t436 = true := by decide +kernel
theorem ok_t436 (hst : l.stackTraces = false) (h8 : r 8 = r 0 &&& nI 31) (hg : mv_in mv_gS r) : mv_OK l D cs r b0 b mv_mi 68 oe_t436 := mv_mkb hst h8 hg (mv_hs (ok_x hst h8 hg) (mv_hs (ok_m hst h8 hg) (mv_hs (ok_t437 hst h8 hg) mv_hn))) oc_t436 ev_t436
theorem oc_t435 : mv_OC 68 oe_t435 := mv_och (by decide +kernel) hc_0.1 hc_n.1 hc_0.2 hc_n.2
set_option maxRecDepth 1000000 in
theorem ev_t435 : mv_evb mv_gS 68 [oe_x, oe_m, oe_t436] 400000 oe_t435 = true := by decide +kernel
theorem ok_t435 (hst : l.stackTraces = false) (h8 : r 8 = r 0 &&& nI 31) (hg : mv_in mv_gS r) : mv_OK l D cs r b0 b mv_mi 68 oe_t435 := mv_mkb hst h8 hg (mv_hs (ok_x hst h8 hg) (mv_hs (ok_m hst h8 hg) (mv_hs (ok_t436 hst h8 hg) mv_hn))) oc_t435 ev_t435
theorem oc_t434 : mv_OC 68 oe_t434 := mv_och (by decide +kernel) hc_0.1 hc_n.1 hc_0.2 hc_n.2
set_option maxRecDepth 1000000 in
theorem ev_t434 : mv_evb mv_gS 68 [oe_x, oe_m, oe_t435] 400000 oe_t434 = true := by decide +kernel
theorem ok_t434 (hst : l.stackTraces = false) (h8 : r 8 = r 0 &&& nI 31) (hg : mv_in mv_gS r) : mv_OK l D cs r b0 b mv_mi 68 oe_t434 := mv_mkb hst h8 hg (mv_hs (ok_x hst h8 hg) (mv_hs (ok_m hst h8 hg) (mv_hs (ok_t435 hst h8 hg) mv_hn))) oc_t434 ev_t434
theorem oc_t433 : mv_OC 68 oe_t433 := mv_och (by decide +kernel) hc_0.1 hc_n.1 hc_0.2 hc_n.2
set_option maxRecDepth 1000000 in
theorem ev_t433 : mv_evb mv_gS 68 [oe_x, oe_m, oe_t434] 400000 oe_t433 = true := by decide +kernel
theorem ok_t433 (hst : l.stackTraces = false) (h8 : r 8 = r 0 &&& nI 31) (hg : mv_in mv_gS r) : mv_OK l D cs r b0 b mv_mi 68 oe_t433 := mv_mkb hst h8 hg (mv_hs (ok_x hst h8 hg) (mv_hs (ok_m hst h8 hg) (mv_hs (ok_t434 hst h8 hg) mv_hn))) oc_t433 ev_t433
theorem oc_t432 : mv_OC 68 oe_t432 := mv_och (by decide +kernel) hc_0.1 hc_n.1 hc_0.2 hc_n.2
set_option maxRecDepth 1000000 in
theorem ev_t432 : mv_evb mv_gS 68 [oe_x, oe_m, oe_t433] 400000 oe_t432 = true := by decide +kernel
theorem ok_t432 (hst : l.stackTraces = false) (h8 : r 8 = r 0 &&& nI 31) (hg : mv_in mv_gS r) : mv_OK l D cs r b0 b mv_mi 68 oe_t432 := mv_mkb hst h8 hg (mv_hs (ok_x hst h8 hg) (mv_hs (ok_m hst h8 hg) (mv_hs (ok_t433 hst h8 hg) mv_hn))) oc_t432 ev_t432
theorem oc_t431 : mv_OC 68 oe_t431 := mv_och (by decide +kernel) hc_0.1 hc_n.1 hc_0.2 hc_n.2
set_option maxRecDepth 1000000 in
theorem ev_t431 : mv_evb mv_gS 68 [oe_x, oe_m, oe_t432] 400000 oe_t431 = true := by decide +kernel
theorem ok_t431 (hst : l.stackTraces = false) (h8 : r 8 = r 0 &&& nI 31) (hg : mv_in mv_gS r) : mv_OK l D cs r b0 b mv_mi 68 oe_t431 := mv_mkb hst h8 hg (mv_hs (ok_x hst h8 hg) (mv_hs (ok_m hst h8 hg) (mv_hs (ok_t432 hst h8 hg) mv_hn))) oc_t431 ev_t431
theorem oc_t430 : mv_OC 68 oe_t430 := mv_och (by decide +kernel) hc_0.1 hc_n.1 hc_0.2 hc_n.2
set_option maxRecDepth 1000000 in
theorem ev_t430 : mv_evb mv_gS 68 [oe_x, oe_m, oe_t431] 400000 oe_t430 = true := by decide +kernel
theorem ok_t430 (hst : l.stackTraces = false) (h8 : r 8 = r 0 &&& nI 31) (hg : mv_in mv_gS r) : mv_OK l D cs r b0 b mv_mi 68 oe_t430 := mv_mkb hst h8 hg (mv_hs (ok_x hst h8 hg) (mv_hs (ok_m hst h8 hg) (mv_hs (ok_t431 hst h8 hg) mv_hn))) oc_t430 ev_t430
theorem oc_t429 : mv_OC 68 oe_t429 := mv_och (by decide +kernel) hc_0.1 hc_n.1 hc_0.2 hc_n.2
set_option maxRecDepth 1000000 in
theorem ev_t429 : mv_evb mv_gS 68 [oe_x, oe_m, oe_t430] 400000 oe_t429 = true := by decide +kernel
theorem ok_t429 (hst : l.stackTraces = false) (h8 : r 8 = r 0 &&& nI 31) (hg : mv_in mv_gS r) : mv_OK l D cs r b0 b mv_mi 68 oe_t429 := mv_mkb hst h8 hg (mv_hs (ok_x hst h8 hg) (mv_hs (ok_m hst h8 hg) (mv_hs (ok_t430 hst h8 hg) mv_hn))) oc_t429 ev_t429
theorem oc_t428 : mv_OC 68 oe_t428 := mv_och (by decide +kernel) hc_0.1 hc_n.1 hc_0.2 hc_n.2
set_option maxRecDepth 1000000 in
theorem ev_t428 : mv_evb mv_gS 68 [oe_x, oe_m, oe_t429] 400000 oe_t428 = true := by decide +kernel
theorem ok_t428 (hst : l.stackTraces = false) (h8 : r 8 = r 0 &&& nI 31) (hg : mv_in mv_gS r) : mv_OK l D cs r b0 b mv_mi 68 oe_t428 := mv_mkb hst h8 hg (mv_hs (ok_x hst h8 hg) (mv_hs (ok_m hst h8 hg) (mv_hs (ok_t429 hst h8 hg) mv_hn))) oc_t428 ev_t428
theorem oc_t427 : mv_OC 68 oe_t427 := mv_och (by decide +kernel) hc_0.1 hc_n.1 hc_0.2 hc_n.2
set_option maxRecDepth 1000000 in
theorem ev_t427 : mv_evb mv_gS 68 [oe_x, oe_m, oe_t428] 400000 oe_t427 = true := by decide +kernel
theorem ok_t427 (hst : l.stackTraces = false) (h8 : r 8 = r 0 &&& nI 31) (hg : mv_in mv_gS r) : mv_OK l D cs r b0 b mv_mi 68 oe_t427 := mv_mkb hst h8 hg (mv_hs (ok_x hst h8 hg) (mv_hs (ok_m hst h8 hg) (mv_hs (ok_t428 hst h8 hg) mv_hn))) oc_t427 ev_t427
theorem oc_t426 : mv_OC 68 oe_t426 := mv_och (by decide +kernel) hc_0.1 hc_n.1 hc_0.2 hc_n.2
set_option maxRecDepth 1000000 in
theorem ev_t426 : mv_evb mv_gS 68 [oe_x, oe_m, oe_t427] 400000 oe_t426 = true := by decide +kernel
theorem ok_t426 (hst : l.stackTraces = false) (h8 : r 8 = r 0 &&& nI 31) (hg : mv_in mv_gS r) : mv_OK l D cs r b0 b mv_mi 68 oe_t426 := mv_mkb hst h8 hg (mv_hs (ok_x hst h8 hg) (mv_hs (ok_m hst h8 hg) (mv_hs (ok_t427 hst h8 hg) mv_hn))) oc_t426 ev_t426
theorem oc_t425 : mv_OC 68 oe_t425 := mv_och (by decide +kernel) hc_0.1 hc_n.1 hc_0.2 hc_n.2
set_option maxRecDepth 1000000 in
theorem ev_t425 : mv_evb mv_gS 68 [oe_x, oe_m, oe_t426] 400000 oe_t425 = true := by decide +kernel
theorem ok_t425 (hst : l.stackTraces = false) (h8 : r 8 = r 0 &&& nI 31) (hg : mv_in mv_gS r) : mv_OK l D cs r b0 b mv_mi 68 oe_t425 := mv_mkb hst h8 hg (mv_hs (ok_x hst h8 hg) (mv_hs (ok_m hst h8 hg) (mv_hs (ok_t426 hst h8 hg) mv_hn))) oc_t425 ev_t425
theorem oc_t424 : mv_OC 68 oe_t424 := mv_och (by decide +kernel) hc_0.1 hc_n.1 hc_0.2 hc_n.2
set_option maxRecDepth 1000000 in
theorem ev_t424 : mv_evb mv_gS 68 [oe_x, oe_m, oe_t425] 400000 oe_t424 = true := by decide +kernel
theorem ok_t424 (hst : l.stackTraces = false) (h8 : r 8 = r 0 &&& nI 31) (hg : mv_in mv_gS r) : mv_OK l D cs r b0 b mv_mi 68 oe_t424 := mv_mkb hst h8 hg (mv_hs (ok_x hst h8 hg) (mv_hs (ok_m hst h8 hg) (mv_hs (ok_t425 hst h8 hg) mv_hn))) oc_t424 ev_t424
theorem oc_t423 : mv_OC 68 oe_t423 := mv_och (by decide +kernel) hc_0.1 hc_n.1 hc_0.2 hc_n.2
set_option maxRecDepth 1000000 in
theorem ev_t423 : mv_evb mv_gS 68 [oe_x, oe_m, oe_t424] 400000 oe_t423 = true := by decide +kernel
theorem ok_t423 (hst : l.stackTraces = false) (h8 : r 8 = r 0 &&& nI 31) (hg : mv_in mv_gS r) : mv_OK l D cs r b0 b mv_mi 68 oe_t423 := mv_mkb hst h8 hg (mv_hs (ok_x hst h8 hg) (mv_hs (ok_m hst h8 hg) (mv_hs (ok_t424 hst h8 hg) mv_hn))) oc_t423 ev_t423
theorem oc_t422 : mv_OC 68 oe_t422 := mv_och (by decide +kernel) hc_0.1 hc_n.1 hc_0.2 hc_n.2
set_option maxRecDepth 1000000 in
theorem ev_t422 : mv_evb mv_gS 68 [oe_x, oe_m, oe_t423] 400000 oe_t422 = true := by decide +kernel
theorem ok_t422 (hst : l.stackTraces = false) (h8 : r 8 = r 0 &&& nI 31) (hg : mv_in mv_gS r) : mv_OK l D cs r b0 b mv_mi 68 oe_t422 := mv_mkb hst h8 hg (mv_hs (ok_x hst h8 hg) (mv_hs (ok_m hst h8 hg) (mv_hs (ok_t423 hst h8 hg) mv_hn))) oc_t422 ev_t422
theorem oc_t421 : mv_OC 68 oe_t421 := mv_och (by decide +kernel) hc_0.1 hc_n.1 hc_0.2 hc_n.2
set_option maxRecDepth 1000000 in
theorem ev_t421 : mv_evb mv_gS 68 [oe_x, oe_m, oe_t422] 400000 oe_t421 = true := by decide +kernel
theorem ok_t421 (hst : l.stackTraces = false) (h8 : r 8 = r 0 &&& nI 31) (hg : mv_in mv_gS r) : mv_OK l D cs r b0 b mv_mi 68 oe_t421 := mv_mkb hst h8 hg (mv_hs (ok_x hst h8 hg) (mv_hs (ok_m hst h8 hg) (mv_hs (ok_t422 hst h8 hg) mv_hn))) oc_t421 ev_t421
theorem oc_t420 : mv_OC 68 oe_t420 := mv_och (by decide +kernel) hc_0.1 hc_n.1 hc_0.2 hc_n.2
set_option maxRecDepth 1000000 in
theorem ev_t420 : mv_evb mv_gS 68 [oe_x, oe_m, oe_t421] 400000 oe_t420 = true := by decide +kernel
theorem ok_t420 (hst : l.stackTraces = false) (h8 : r 8 = r 0 &&& nI 31) (hg : mv_in mv_gS r) : mv_OK l D cs r b0 b mv_mi 68 oe_t420 := mv_mkb hst h8 hg (mv_hs (ok_x hst h8 hg) (mv_hs (ok_m hst h8 hg) (mv_hs (ok_t421 hst h8 hg) mv_hn))) oc_t420 ev_t420
theorem oc_t419 : mv_OC 68 oe_t419 := mv_och (by decide +kernel) hc_0.1 hc_n.1 hc_0.2 hc_n.2
set_option maxRecDepth 1000000 in
theorem ev_t419 : mv_evb mv_gS 68 [oe_x, oe_m, oe_t420] 400000 oe_t419 = true := by decide +kernel
theorem ok_t419 (hst : l.stackTraces = false) (h8 : r 8 = r 0 &&& nI 31) (hg : mv_in mv_gS r) : mv_OK l D cs r b0 b mv_mi 68 oe_t419 := mv_mkb hst h8 hg (mv_hs (ok_x hst h8 hg) (mv_hs (ok_m hst h8 hg) (mv_hs (ok_t420 hst h8 hg) mv_hn))) oc_t419 ev_t419
theorem oc_t418 : mv_OC 68 oe_t418 := mv_och (by decide +kernel) hc_0.1 hc_n.1 hc_0.2 hc_n.2
set_option maxRecDepth 1000000 in
theorem ev_t418 : mv_evb mv_gS 68 [oe_x, oe_m, oe_t419] 400000 oe_t418 = true := by decide +kernel
theorem ok_t418 (hst : l.stackTraces = false) (h8 : r 8 = r 0 &&& nI 31) (hg : mv_in mv_gS r) : mv_OK l D cs r b0 b mv_mi 68 oe_t418 := mv_mkb hst h8 hg (mv_hs (ok_x hst h8 hg) (mv_hs (ok_m hst h8 hg) (mv_hs (ok_t419 hst h8 hg) mv_hn))) oc_t418 ev_t418
theorem oc_t417 : mv_OC 68 oe_t417 := mv_och (by decide +kernel) hc_0.1 hc_n.1 hc_0.2 hc_n.2
set_option maxRecDepth 1000000 in
theorem ev_t417 : mv_evb mv_gS 68 [oe_x, oe_m, oe_t418] 400000 oe_t417 = true := by decide +kernel
theorem ok_t417 (hst : l.stackTraces = false) (h8 : r 8 = r 0 &&& nI 31) (hg : mv_in mv_gS r) : mv_OK l D cs r b0 b mv_mi 68 oe_t417 := mv_mkb hst h8 hg (mv_hs (ok_x hst h8 hg) (mv_hs (ok_m hst h8 hg) (mv_hs (ok_t418 hst h8 hg) mv_hn))) oc_t417 ev_t417
theorem oc_t416 : mv_OC 68 oe_t416 := mv_och (by decide +kernel) hc_0.1 hc_n.1 hc_0.2 hc_n.2
set_option maxRecDepth 1000000 in
theorem ev_t416 : mv_evb mv_gS 68 [oe_x, oe_m, oe_t417] 400000 oe_t416 = true := by decide +kernel
theorem ok_t416 (hst : l.stackTraces = false) (h8 : r 8 = r 0 &&& nI 31) (hg : mv_in mv_gS r) : mv_OK l D cs r b0 b mv_mi 68 oe_t416 := mv_mkb hst h8 hg (mv_hs (ok_x hst h8 hg) (mv_hs (ok_m hst h8 hg) (mv_hs (ok_t417 hst h8 hg) mv_hn))) oc_t416 ev_t416
theorem oc_t415 : mv_OC 68 oe_t415 := mv_och (by decide +kernel) hc_0.1 hc_n.1 hc_0.2 hc_n.2
set_option maxRecDepth 1000000 in
theorem ev_t415 : mv_evb mv_gS 68 [oe_x, oe_m, oe_t416] 400000 oe_t415 = true := by decide +kernel
theorem ok_t415 (hst : l.stackTraces = false) (h8 : r 8 = r 0 &&& nI 31) (hg : mv_in mv_gS r) : mv_OK l D cs r b0 b mv_mi 68 oe_t415 := mv_mkb hst h8 hg (mv_hs (ok_x hst h8 hg) (mv_hs (ok_m hst h8 hg) (mv_hs (ok_t416 hst h8 hg) mv_hn))) oc_t415 ev_t415
theorem oc_t414 : mv_OC 68 oe_t414 := mv_och (by decide +kernel) hc_0.1 hc_n.1 hc_0.2 hc_n.2
set_option maxRecDepth 1000000 in
theorem ev_t414 : mv_evb mv_gS 68 [oe_x, oe_m, oe_t415] 400000 oe_t414 = true := by decide +kernel
theorem ok_t414 (hst : l.stackTraces = false) (h8 : r 8 = r 0 &&& nI 31) (hg : mv_in mv_gS r) : mv_OK l D cs r b0 b mv_mi 68 oe_t414 := mv_mkb hst h8 hg (mv_hs (ok_x hst h8 hg) (mv_hs (ok_m hst h8 hg) (mv_hs (ok_t415 hst h8 hg) mv_hn))) oc_t414 ev_t414
theorem oc_t413 : mv_OC 68 oe_t413 := mv_och (by decide +kernel) hc_0.1 hc_n.1 hc_0.2 hc_n.2
set_option maxRecDepth 1000000 in
theorem ev_t413 : mv_evb mv_gS 68 [oe_x, oe_m, oe_t414] 400000 oe_t413 = true := by decide +kernel
theorem ok_t413 (hst : l.stackTraces = false) (h8 : r 8 = r 0 &&& nI 31) (hg : mv_in mv_gS r) : mv_OK l D cs r b0 b mv_mi 68 oe_t413 := mv_mkb hst h8 hg (mv_hs (ok_x hst h8 hg) (mv_hs (ok_m hst h8 hg) (mv_hs (ok_t414 hst h8 hg) mv_hn))) oc_t413 ev_t413
theorem oc_t412 : mv_OC 68 oe_t412 := mv_och (by decide +kernel) hc_0.1 hc_n.1 hc_0.2 hc_n.2
set_option maxRecDepth 1000000 in
theorem ev_t412 : mv_evb mv_gS 68 [oe_x, oe_m, oe_t413] 400000 oe_t412 = true := by decide +kernel
theorem ok_t412 (hst : l.stackTraces = false) (h8 : r 8 = r 0 &&& nI 31) (hg : mv_in mv_gS r) : mv_OK l D cs r b0 b mv_mi 68 oe_t412 := mv_mkb hst h8 hg (mv_hs (ok_x hst h8 hg) (mv_hs (ok_m hst h8 hg) (mv_hs (ok_t413 hst h8 hg) mv_hn))) oc_t412 ev_t412
theorem oc_t411 : mv_OC 68 oe_t411 := mv_och (by decide +kernel) hc_0.1 hc_n.1 hc_0.2 hc_n.2
set_option maxRecDepth 1000000 in
theorem ev_t411 : mv_evb mv_gS 68 [oe_x, oe_m, oe_t412] 400000 oe_t411 = true := by decide +kernel
theorem ok_t411 (hst : l.stackTraces = false) (h8 : r 8 = r 0 &&& nI 31) (hg : mv_in mv_gS r) : mv_OK l D cs r b0 b mv_mi 68 oe_t411 := mv_mkb hst h8 hg (mv_hs (ok_x hst h8 hg) (mv_hs (ok_m hst h8 hg) (mv_hs (ok_t412 hst h8 hg) mv_hn))) oc_t411 ev_t411
theorem oc_t410 : mv_OC 68 oe_t410 := mv_och (by decide +kernel) hc_0.1 hc_n.1 hc_0.2 hc_n.2
set_option maxRecDepth 1000000 in
theorem ev_t410 : mv_evb mv_gS 68 [oe_x, oe_m, oe_t411] 400000 oe_t410 = true := by decide +kernel
theorem ok_t410 (hst : l.stackTraces = false) (h8 : r 8 = r 0 &&& nI 31) (hg : mv_in mv_gS r) : mv_OK l D cs r b0 b mv_mi 68 oe_t410 := mv_mkb hst h8 hg (mv_hs (ok_x hst h8 hg) (mv_hs (ok_m hst h8 hg) (mv_hs (ok_t411 hst h8 hg) mv_hn))) oc_t410 ev_t410
theorem oc_t409 : mv_OC 68 oe_t409 := mv_och (by decide +kernel) hc_0.1 hc_n.1 hc_0.2 hc_n.2
set_option maxRecDepth 1000000 in
theorem ev_t409 : mv_evb mv_gS 68 [oe_x, oe_m, oe_t410] 400000 oe_t409 = true := by decide +kernel
theorem ok_t409 (hst : l.stackTraces = false) (h8 : r 8 = r 0 &&& nI 31) (hg : mv_in mv_gS r) : mv_OK l D cs r b0 b mv_mi 68 oe_t409 := mv_mkb hst h8 hg (mv_hs (ok_x hst h8 hg) (mv_hs (ok_m hst h8 hg) (mv_hs (ok_t410 hst h8 hg) mv_hn))) oc_t409 ev_t409
theorem oc_t408 : mv_OC 68 oe_t408 := mv_och (by decide +kernel) hc_0.1 hc_n.1 hc_0.2 hc_n.2
set_option maxRecDepth 1000000 in
theorem ev_t408 : mv_evb mv_gS 68 [oe_x, oe_m, oe_t409] 400000 oe_t408 = true := by decide +kernel
theorem ok_t408 (hst : l.stackTraces = false) (h8 : r 8 = r 0 &&& nI 31) (hg : mv_in mv_gS r) : mv_OK l D cs r b0 b mv_mi 68 oe_t408 := mv_mkb hst h8 hg (mv_hs (ok_x hst h8 hg) (mv_hs (ok_m hst h8 hg) (mv_hs (ok_t409 hst h8 hg) mv_hn))) oc_t408 ev_t408
theorem oc_t407 : mv_OC 68 oe_t407 := mv_och (by decide +kernel) hc_0.1 hc_n.1 hc_0.2 hc_n.2
set_option maxRecDepth 1000000 in
theorem ev_t407 : mv_evb mv_gS 68 [oe_x, oe_m, oe_t408] 400000 oe_t407 = true := by decide +kernel
theorem ok_t407 (hst : l.stackTraces = false) (h8 : r 8 = r 0 &&& nI 31) (hg : mv_in mv_gS r) : mv_OK l D cs r b0 b mv_mi 68 oe_t407 := mv_mkb hst h8 hg (mv_hs (ok_x hst h8 hg) (mv_hs (ok_m hst h8 hg) (mv_hs (ok_t408 hst h8 hg) mv_hn))) oc_t407 ev_t407
theorem oc_t406 : mv_OC 68 oe_t406 := mv_och (by decide +kernel) hc_0.1 hc_n.1 hc_0.2 hc_n.2
set_option maxRecDepth 1000000 in
theorem ev_t406 : mv_evb mv_gS 68 [oe_x, oe_m, oe_t407] 400000 oe_t406 = true := by decide +kernel
theorem ok_t406 (hst : l.stackTraces = false) (h8 : r 8 = r 0 &&& nI 31) (hg : mv_in mv_gS r) : mv_OK l D cs r b0 b mv_mi 68 oe_t406 := mv_mkb hst h8 hg (mv_hs (ok_x hst h8 hg) (mv_hs (ok_m hst h8 hg) (mv_hs (ok_t407 hst h8 hg) mv_hn))) oc_t406 ev_t406
theorem oc_t405 : mv_OC 68 oe_t405 := mv_och (by decide +kernel) hc_0.1 hc_n.1 hc_0.2 hc_n.2
set_option maxRecDepth 1000000 in
theorem ev_t405 : mv_evb mv_gS 68 [oe_x, oe_m, oe_t406] 400000 oe_t405 = true := by decide +kernel
theorem ok_t405 (hst : l.stackTraces = false) (h8 : r 8 = r 0 &&& nI 31) (hg : mv_in mv_gS r) : mv_OK l D cs r b0 b mv_mi 68 oe_t405 := mv_mkb hst h8 hg (mv_hs (ok_x hst h8 hg) (mv_hs (ok_m hst h8 hg) (mv_hs (ok_t406 hst h8 hg) mv_hn))) oc_t405 ev_t405
theorem oc_t404 : mv_OC 68 oe_t404 := mv_och (by decide +kernel) hc_0.1 hc_n.1 hc_0.2 hc_n.2
set_option maxRecDepth 1000000 in
theorem ev_t404 : mv_evb mv_gS 68 [oe_x, oe_m, oe_t405] 400000 oe_t404 = true := by decide +kernel
theorem ok_t404 (hst : l.stackTraces = false) (h8 : r 8 = r 0 &&& nI 31) (hg : mv_in mv_gS r) : mv_OK l D cs r b0 b mv_mi 68 oe_t404 := mv_mkb hst h8 hg (mv_hs (ok_x hst h8 hg) (mv_hs (ok_m hst h8 hg) (mv_hs (ok_t405 hst h8 hg) mv_hn))) oc_t404 ev_t404
theorem oc_t403 : mv_OC 68 oe_t403 := mv_och (by decide +kernel) hc_0.1 hc_n.1 hc_0.2 hc_n.2
set_option maxRecDepth 1000000 in
theorem ev_t403 : mv_evb mv_gS 68 [oe_x, oe_m, oe_t404] 400000 oe_t403 = true := by decide +kernel
theorem ok_t403 (hst : l.stackTraces = false) (h8 : r 8 = r 0 &&& nI 31) (hg : mv_in mv_gS r) : mv_OK l D cs r b0 b mv_mi 68 oe_t403 := mv_mkb hst h8 hg (mv_hs (ok_x hst h8 hg) (mv_hs (ok_m hst h8 hg) (mv_hs (ok_t404 hst h8 hg) mv_hn))) oc_t403 ev_t403
theorem oc_t402 : mv_OC 68 oe_t402 := mv_och (by decide +kernel) hc_0.1 hc_n.1 hc_0.2 hc_n.2
set_option maxRecDepth 1000000 in
theorem ev_t402 : mv_evb mv_gS 68 [oe_x, oe_m, oe_t403] 400000 oe_t402 = true := by decide +kernel
theorem ok_t402 (hst : l.stackTraces = false) (h8 : r 8 = r 0 &&& nI 31) (hg : mv_in mv_gS r) : mv_OK l D cs r b0 b mv_mi 68 oe_t402 := mv_mkb hst h8 hg (mv_hs (ok_x hst h8 hg) (mv_hs (ok_m hst h8 hg) (mv_hs (ok_t403 hst h8 hg) mv_hn))) oc_t402 ev_t402
theorem oc_t401 : mv_OC 68 oe_t401 := mv_och (by decide +kernel) hc_0.1 hc_n.1 hc_0.2 hc_n.2
set_option maxRecDepth 1000000 in
theorem ev_t401 : mv_evb mv_gS 68 [oe_x, oe_m, oe_t402] 400000 oe_t401 = true := by decide +kernel
theorem ok_t401 (hst : l.stackTraces = false) (h8 : r 8 = r 0 &&& nI 31) (hg : mv_in mv_gS r) : mv_OK l D cs r b0 b mv_mi 68 oe_t401 := mv_mkb hst h8 hg (mv_hs (ok_x hst h8 hg) (mv_hs (ok_m hst h8 hg) (mv_hs (ok_t402 hst h8 hg) mv_hn))) oc_t401 ev_t401
theorem oc_t400 : mv_OC 68 oe_t400 := mv_och (by decide +kernel) hc_0.1 hc_n.1 hc_0.2 hc_n.2
set_option maxRecDepth 1000000 in
theorem ev_t400 : mv_evb mv_gS 68 [oe_x, oe_m, oe_t401] 400000 oe_t400 = true := by decide +kernel
theorem ok_t400 (hst : l.stackTraces = false) (h8 : r 8 = r 0 &&& nI 31) (hg : mv_in mv_gS r) : mv_OK l D cs r b0 b mv_mi 68 oe_t400 := mv_mkb hst h8 hg (mv_hs (ok_x hst h8 hg) (mv_hs (ok_m hst h8 hg) (mv_hs (ok_t401 hst h8 hg) mv_hn))) oc_t400 ev_t400
theorem oc_t399 : mv_OC 68 oe_t399 := mv_och (by decide +kernel) hc_0.1 hc_n.1 hc_0.2 hc_n.2
set_option maxRecDepth 1000000 in
theorem ev_t399 : mv_evb mv_gS 68 [oe_x, oe_m, oe_t400] 400000 oe_t399 = true := by decide +kernel
theorem ok_t399 (hst : l.stackTraces = false) (h8 : r 8 = r 0 &&& nI 31) (hg : mv_in mv_gS r) : mv_OK l D cs r b0 b mv_mi 68 oe_t399 := mv_mkb hst h8 hg (mv_hs (ok_x hst h8 hg) (mv_hs (ok_m hst h8 hg) (mv_hs (ok_t400 hst h8 hg) mv_hn))) oc_t399 ev_t399
theorem oc_t398 : mv_OC 68 oe_t398 := mv_och (by decide +kernel) hc_0.1 hc_n.1 hc_0.2 hc_n.2
set_option maxRecDepth 1000000 in
theorem ev_t398 : mv_evb mv_gS 68 [oe_x, oe_m, oe_t399] 400000 oe_t398 = true := by decide +kernel
theorem ok_t398 (hst : l.stackTraces = false) (h8 : r 8 = r 0 &&& nI 31) (hg : mv_in mv_gS r) : mv_OK l D cs r b0 b mv_mi 68 oe_t398 := mv_mkb hst h8 hg (mv_hs (ok_x hst h8 hg) (mv_hs (ok_m hst h8 hg) (mv_hs (ok_t399 hst h8 hg) mv_hn))) oc_t398 ev_t398
theorem oc_t397 : mv_OC 68 oe_t397 := mv_och (by decide +kernel) hc_0.1 hc_n.1 hc_0.2 hc_n.2
set_option maxRecDepth 1000000 in
theorem ev_t397 : mv_evb mv_gS 68 [oe_x, oe_m, oe_t398] 400000 oe_t397 = true := by decide +kernel
theorem ok_t397 (hst : l.stackTraces = false) (h8 : r 8 = r 0 &&& nI 31) (hg : mv_in mv_gS r) : mv_OK l D cs r b0 b mv_mi 68 oe_t397 := mv_mkb hst h8 hg (mv_hs (ok_x hst h8 hg) (mv_hs (ok_m hst h8 hg) (mv_hs (ok_t398 hst h8 hg) mv_hn))) oc_t397 ev_t397
theorem oc_t396 : mv_OC 68 oe_t396 := mv_och (by decide +kernel) hc_0.1 hc_n.1 hc_0.2 hc_n.2
set_option maxRecDepth 1000000 in
theorem ev_t396 : mv_evb mv_gS 68 [oe_x, oe_m, oe_t397] 400000 oe_t396 = true := by decide +kernel
theorem ok_t396 (hst : l.stackTraces = false) (h8 : r 8 = r 0 &&& nI 31) (hg : mv_in mv_gS r) : mv_OK l D cs r b0 b mv_mi 68 oe_t396 := mv_mkb hst h8 hg (mv_hs (ok_x hst h8 hg) (mv_hs (ok_m hst h8 hg) (mv_hs (ok_t397 hst h8 hg) mv_hn))) oc_t396 ev_t396
theorem oc_t395 : mv_OC 68 oe_t395 := mv_och (by decide +kernel) hc_0.1 hc_n.1 hc_0.2 hc_n.2
set_option maxRecDepth 1000000 in
theorem ev_t395 : mv_evb mv_gS 68 [oe_x, oe_m, oe_t396] 400000 oe_t395 = true := by decide +kernel
theorem ok_t395 (hst : l.stackTraces = false) (h8 : r 8 = r 0 &&& nI 31) (hg : mv_in mv_gS r) : mv_OK l D cs r b0 b mv_mi 68 oe_t395 := mv_mkb hst h8 hg (mv_hs (ok_x hst h8 hg) (mv_hs (ok_m hst h8 hg) (mv_hs (ok_t396 hst h8 hg) mv_hn))) oc_t395 ev_t395
theorem oc_t394 : mv_OC 68 oe_t394 := mv_och (by decide +kernel) hc_0.1 hc_n.1 hc_0.2 hc_n.2
set_option maxRecDepth 1000000 in
theorem ev_t394 : mv_evb mv_gS 68 [oe_x, oe_m, oe_t395] 400000 oe_t394 = true := by decide +kernel
theorem ok_t394 (hst : l.stackTraces = false) (h8 : r 8 = r 0 &&& nI 31) (hg : mv_in mv_gS r) : mv_OK l D cs r b0 b mv_mi 68 oe_t394 := mv_mkb hst h8 hg (mv_hs (ok_x hst h8 hg) (mv_hs (ok_m hst h8 hg) (mv_hs (ok_t395 hst h8 hg) mv_hn))) oc_t394 ev_t394
theorem oc_t393 : mv_OC 68 oe_t393 := mv_och (by decide +kernel) hc_0.1 hc_n.1 hc_0.2 hc_n.2
set_option maxRecDepth 1000000 in
theorem ev_t393 : mv_evb mv_gS 68 [oe_x, oe_m, oe_t394] 400000 oe_t393 = true := by decide +kernel
theorem ok_t393 (hst : l.stackTraces = false) (h8 : r 8 = r 0 &&& nI 31) (hg : mv_in mv_gS r) : mv_OK l D cs r b0 b mv_mi 68 oe_t393 := mv_mkb hst h8 hg (mv_hs (ok_x hst h8 hg) (mv_hs (ok_m hst h8 hg) (mv_hs (ok_t394 hst h8 hg) mv_hn))) oc_t393 ev_t393
theorem oc_t392 : mv_OC 68 oe_t392 := mv_och (by decide +kernel) hc_0.1 hc_n.1 hc_0.2 hc_n.2
set_option maxRecDepth 1000000 in
theorem ev_t392 : mv_evb mv_gS 68 [oe_x, oe_m, oe_t393] 400000 oe_t392 = true := by decide +kernel
theorem ok_t392 (hst : l.stackTraces = false) (h8 : r 8 = r 0 &&& nI 31) (hg : mv_in mv_gS r) : mv_OK l D cs r b0 b mv_mi 68 oe_t392 := mv_mkb hst h8 hg (mv_hs (ok_x hst h8 hg) (mv_hs (ok_m hst h8 hg) (mv_hs (ok_t393 hst h8 hg) mv_hn))) oc_t392 ev_t392
theorem oc_t391 : mv_OC 68 oe_t391 := mv_och (by decide +kernel) hc_0.1 hc_n.1 hc_0.2 hc_n.2
set_option maxRecDepth 1000000 in
theorem ev_t391 : mv_evb mv_gS 68 [oe_x, oe_m, oe_t392] 400000 oe_t391 = true := by decide +kernel
theorem ok_t391 (hst : l.stackTraces = false) (h8 : r 8 = r 0 &&& nI 31) (hg : mv_in mv_gS r) : mv_OK l D cs r b0 b mv_mi 68 oe_t391 := mv_mkb hst h8 hg (mv_hs (ok_x hst h8 hg) (mv_hs (ok_m hst h8 hg) (mv_hs (ok_t392 hst h8 hg) mv_hn))) oc_t391 ev_t391
theorem oc_t390 : mv_OC 68 oe_t390 := mv_och (by decide +kernel) hc_0.1 hc_n.1 hc_0.2 hc_n.2
set_option maxRecDepth 1000000 in
theorem ev_t390 : mv_evb mv_gS 68 [oe_x, oe_m, oe_t391] 400000 oe_t390 = true := by decide +kernel
theorem ok_t390 (hst : l.stackTraces = false) (h8 : r 8 = r 0 &&& nI 31) (hg : mv_in mv_gS r) : mv_OK l D cs r b0 b mv_mi 68 oe_t390 := mv_mkb hst h8 hg (mv_hs (ok_x hst h8 hg) (mv_hs (ok_m hst h8 hg) (mv_hs (ok_t391 hst h8 hg) mv_hn))) oc_t390 ev_t390
theorem oc_t389 : mv_OC 68 oe_t389 := mv_och (by decide +kernel) hc_0.1 hc_n.1 hc_0.2 hc_n.2
set_option maxRecDepth 1000000 in
theorem ev_t389 : mv_evb mv_gS 68 [oe_x, oe_m, oe_t390] 400000 oe_t389 = true := by decide +kernel
theorem ok_t389 (hst : l.stackTraces = false) (h8 : r 8 = r 0 &&& nI 31) (hg : mv_in mv_gS r) : mv_OK l D cs r b0 b mv_mi 68 oe_t389 := mv_mkb hst h8 hg (mv_hs (ok_x hst h8 hg) (mv_hs (ok_m hst h8 hg) (mv_hs (ok_t390 hst h8 hg) mv_hn))) oc_t389 ev_t389
theorem oc_t388 : mv_OC 68 oe_t388 := mv_och (by decide +kernel) hc_0.1 hc_n.1 hc_0.2 hc_n.2
set_option maxRecDepth 1000000 in
theorem ev_t388 : mv_evb mv_gS 68 [oe_x, oe_m, oe_t389] 400000 oe_t388 = true := by decide +kernel
theorem ok_t388 (hst : l.stackTraces = false) (h8 : r 8 = r 0 &&& nI 31) (hg : mv_in mv_gS r) : mv_OK l D cs r b0 b mv_mi 68 oe_t388 := mv_mkb hst h8 hg (mv_hs (ok_x hst h8 hg) (mv_hs (ok_m hst h8 hg) (mv_hs (ok_t389 hst h8 hg) mv_hn))) oc_t388 ev_t388
theorem oc_t387 : mv_OC 68 oe_t387 := mv_och (by decide +kernel) hc_0.1 hc_n.1 hc_0.2 hc_n.2
set_option maxRecDepth 1000000 in
theorem ev_t387 : mv_evb mv_gS 68 [oe_x, oe_m, oe_t388] 400000 oe_t387 = true := by decide +kernel
theorem ok_t387 (hst : l.stackTraces = false) (h8 : r 8 = r 0 &&& nI 31) (hg : mv_in mv_gS r) : mv_OK l D cs r b0 b mv_mi 68 oe_t387 := mv_mkb hst h8 hg (mv_hs (ok_x hst h8 hg) (mv_hs (ok_m hst h8 hg) (mv_hs (ok_t388 hst h8 hg) mv_hn))) oc_t387 ev_t387
theorem oc_t386 : mv_OC 68 oe_t386 := mv_och (by decide +kernel) hc_0.1 hc_n.1 hc_0.2 hc_n.2
set_option maxRecDepth 1000000 in
theorem ev_t386 : mv_evb mv_gS 68 [oe_x, oe_m, oe_t387] 400000 oe_t386 = true := by decide +kernel
theorem ok_t386 (hst : l.stackTraces = false) (h8 : r 8 = r 0 &&& nI 31) (hg : mv_in mv_gS r) : mv_OK l D cs r b0 b mv_mi 68 oe_t386 := mv_mkb hst h8 hg (mv_hs (ok_x hst h8 hg) (mv_hs (ok_m hst h8 hg) (mv_hs (ok_t387 hst h8 hg) mv_hn))) oc_t386 ev_t386
theorem oc_t385 : mv_OC 68 oe_t385 := mv_och (by decide +kernel) hc_0.1 hc_n.1 hc_0.2 hc_n.2
set_option maxRecDepth 1000000 in
theorem ev_t385 : mv_evb mv_gS 68 [oe_x, oe_m, oe_t386] 400000 oe_t385 = true := by decide +kernel
theorem ok_t385 (hst : l.stackTraces = false) (h8 : r 8 = r 0 &&& nI 31) (hg : mv_in mv_gS r) : mv_OK l D cs r b0 b mv_mi 68 oe_t385 := mv_mkb hst h8 hg (mv_hs (ok_x hst h8 hg) (mv_hs (ok_m hst h8 hg) (mv_hs (ok_t386 hst h8 hg) mv_hn))) oc_t385 ev_t385
theorem oc_t384 : mv_OC 68 oe_t384 := mv_och (by decide +kernel) hc_0.1 hc_n.1 hc_0.2 hc_n.2
set_option maxRecDepth 1000000 in
theorem ev_t384 : mv_evb mv_gS 68 [oe_x, oe_m, oe_t385] 400000 oe_t384 = true := by decide +kernel
theorem ok_t384 (hst : l.stackTraces = false) (h8 : r 8 = r 0 &&& nI 31) (hg : mv_in mv_gS r) : mv_OK l D cs r b0 b mv_mi 68 oe_t384 := mv_mkb hst h8 hg (mv_hs (ok_x hst h8 hg) (mv_hs (ok_m hst h8 hg) (mv_hs (ok_t385 hst h8 hg) mv_hn))) oc_t384 ev_t384
theorem oc_t383 : mv_OC 68 oe_t383 := mv_och (by decide +kernel) hc_0.1 hc_n.1 hc_0.2 hc_n.2
set_option maxRecDepth 1000000 in
theorem ev_t383 : mv_evb mv_gS 68 [oe_x, oe_m, oe_t384] 400000 oe_t383 = true := by decide +kernel
theorem ok_t383 (hst : l.stackTraces = false) (h8 : r 8 = r 0 &&& nI 31) (hg : mv_in mv_gS r) : mv_OK l D cs r b0 b mv_mi 68 oe_t383 := mv_mkb hst h8 hg (mv_hs (ok_x hst h8 hg) (mv_hs (ok_m hst h8 hg) (mv_hs (ok_t384 hst h8 hg) mv_hn))) oc_t383 ev_t383
theorem oc_t382 : mv_OC 68 oe_t382 := mv_och (by decide +kernel) hc_0.1 hc_n.1 hc_0.2 hc_n.2
set_option maxRecDepth 1000000 in
theorem ev_t382 : mv_evb mv_gS 68 [oe_x, oe_m, oe_t383] 400000 oe_t382 = true := by decide +kernel
theorem ok_t382 (hst : l.stackTraces = false) (h8 : r 8 = r 0 &&& nI 31) (hg : mv_in mv_gS r) : mv_OK l D cs r b0 b mv_mi 68 oe_t382 := mv_mkb hst h8 hg (mv_hs (ok_x hst h8 hg) (mv_hs (ok_m hst h8 hg) (mv_hs (ok_t383 hst h8 hg) mv_hn))) oc_t382 ev_t382
theorem oc_t381 : mv_OC 68 oe_t381 := mv_och (by decide +kernel) hc_0.1 hc_n.1 hc_0.2 hc_n.2
set_option maxRecDepth 1000000 in
theorem ev_t381 : mv_evb mv_gS 68 [oe_x, oe_m, oe_t382] 400000 oe_t381 = true := by decide +kernel
theorem ok_t381 (hst : l.stackTraces = false) (h8 : r 8 = r 0 &&& nI 31) (hg : mv_in mv_gS r) : mv_OK l D cs r b0 b mv_mi 68 oe_t381 := mv_mkb hst h8 hg (mv_hs (ok_x hst h8 hg) (mv_hs (ok_m hst h8 hg) (mv_hs (ok_t382 hst h8 hg) mv_hn))) oc_t381 ev_t381
theorem oc_t380 : mv_OC 68 oe_t380 := mv_och (by decide +kernel) hc_0.1 hc_n.1 hc_0.2 hc_n.2
set_option maxRecDepth 1000000 in
theorem ev_t380 : mv_evb mv_gS 68 [oe_x, oe_m, oe_t381] 400000 oe_t380 = true := by decide +kernel
theorem ok_t380 (hst : l.stackTraces = false) (h8 : r 8 = r 0 &&& nI 31) (hg : mv_in mv_gS r) : mv_OK l D cs r b0 b mv_mi 68 oe_t380 := mv_mkb hst h8 hg (mv_hs (ok_x hst h8 hg) (mv_hs (ok_m hst h8 hg) (mv_hs (ok_t381 hst h8 hg) mv_hn))) oc_t380 ev_t380
theorem oc_t379 : mv_OC 68 oe_t379 := mv_och (by decide +kernel) hc_0.1 hc_n.1 hc_0.2 hc_n.2
set_option maxRecDepth 1000000 in
theorem ev_t379 : mv_evb mv_gS 68 [oe_x, oe_m, oe_t380] 400000 oe_t379 = true := by decide +kernel
theorem ok_t379 (hst : l.stackTraces = false) (h8 : r 8 = r 0 &&& nI 31) (hg : mv_in mv_gS r) : mv_OK l D cs r b0 b mv_mi 68 oe_t379 := mv_mkb hst h8 hg (mv_hs (ok_x hst h8 hg) (mv_hs (ok_m hst h8 hg) (mv_hs (ok_t380 hst h8 hg) mv_hn))) oc_t379 ev_t379
theorem oc_t378 : mv_OC 68 oe_t378 := mv_och (by decide +kernel) hc_0.1 hc_n.1 hc_0.2 hc_n.2
set_option maxRecDepth 1000000 in
theorem ev_t378 : mv_evb mv_gS 68 [oe_x, oe_m, oe_t379] 400000 oe_t378 = true := by decide +kernel
theorem ok_t378 (hst : l.stackTraces = false) (h8 : r 8 = r 0 &&& nI 31) (hg : mv_in mv_gS r) : mv_OK l D cs r b0 b mv_mi 68 oe_t378 := mv_mkb hst h8 hg (mv_hs (ok_x hst h8 hg) (mv_hs (ok_m hst h8 hg) (mv_hs (ok_t379 hst h8 hg) mv_hn))) oc_t378 ev_t378
theorem oc_t377 : mv_OC 68 oe_t377 := mv_och (by decide +kernel) hc_0.1 hc_n.1 hc_0.2 hc_n.2
set_option maxRecDepth 1000000 in
theorem ev_t377 : mv_evb mv_gS 68 [oe_x, oe_m, oe_t378] 400000 oe_t377 = true := by decide +kernel
theorem ok_t377 (hst : l.stackTraces = false) (h8 : r 8 = r 0 &&& nI 31) (hg : mv_in mv_gS r) : mv_OK l D cs r b0 b mv_mi 68 oe_t377 := mv_mkb hst h8 hg (mv_hs (ok_x hst h8 hg) (mv_hs (ok_m hst h8 hg) (mv_hs (ok_t378 hst h8 hg) mv_hn))) oc_t377 ev_t377
theorem oc_t376 : mv_OC 68 oe_t376 := mv_och (by decide +kernel) hc_0.1 hc_n.1 hc_0.2 hc_n.2
set_option maxRecDepth 1000000 in
theorem ev_t376 : mv_evb mv_gS 68 [oe_x, oe_m, oe_t377] 400000 oe_t376 = true := by decide +kernel
theorem ok_t376 (hst : l.stackTraces = false) (h8 : r 8 = r 0 &&& nI 31) (hg : mv_in mv_gS r) : mv_OK l D cs r b0 b mv_mi 68 oe_t376 := mv_mkb hst h8 hg (mv_hs (ok_x hst h8 hg) (mv_hs (ok_m hst h8 hg) (mv_hs (ok_t377 hst h8 hg) mv_hn))) oc_t376 ev_t376
theorem oc_t375 : mv_OC 68 oe_t375 := mv_och (by decide +kernel) hc_0.1 hc_n.1 hc_0.2 hc_n.2
set_option maxRecDepth 1000000 in
theorem ev_t375 : mv_evb mv_gS 68 [oe_x, oe_m, oe_t376] 400000 oe_t375 = true := by decide +kernel
theorem ok_t375 (hst : l.stackTraces = false) (h8 : r 8 = r 0 &&& nI 31) (hg : mv_in mv_gS r) : mv_OK l D cs r b0 b mv_mi 68 oe_t375 := mv_mkb hst h8 hg (mv_hs (ok_x hst h8 hg) (mv_hs (ok_m hst h8 hg) (mv_hs (ok_t376 hst h8 hg) mv_hn))) oc_t375 ev_t375
theorem oc_t374 : mv_OC 68 oe_t374 := mv_och (by decide +kernel) hc_0.1 hc_n.1 hc_0.2 hc_n.2
set_option maxRecDepth 1000000 in
theorem ev_t374 : mv_evb mv_gS 68 [oe_x, oe_m, oe_t375] 400000 oe_t374 = true := by decide +kernel
theorem ok_t374 (hst : l.stackTraces = false) (h8 : r 8 = r 0 &&& nI 31) (hg : mv_in mv_gS r) : mv_OK l D cs r b0 b mv_mi 68 oe_t374 := mv_mkb hst h8 hg (mv_hs (ok_x hst h8 hg) (mv_hs (ok_m hst h8 hg) (mv_hs (ok_t375 hst h8 hg) mv_hn))) oc_t374 ev_t374
theorem oc_t373 : mv_OC 68 oe_t373 := mv_och (by decide +kernel) hc_0.1 hc_n.1 hc_0.2 hc_n.2
set_option maxRecDepth 1000000 in
theorem ev_t373 : mv_evb mv_gS 68 [oe_x, oe_m, oe_t374] 400000 oe_t373 = true := by decide +kernel
theorem ok_t373 (hst : l.stackTraces = false) (h8 : r 8 = r 0 &&& nI 31) (hg : mv_in mv_gS r) : mv_OK l D cs r b0 b mv_mi 68 oe_t373 := mv_mkb hst h8 hg (mv_hs (ok_x hst h8 hg) (mv_hs (ok_m hst h8 hg) (mv_hs (ok_t374 hst h8 hg) mv_hn))) oc_t373 ev_t373
theorem oc_t372 : mv_OC 68 oe_t372 := mv_och (by decide +kernel) hc_0.1 hc_n.1 hc_0.2 hc_n.2
set_option maxRecDepth 1000000 in
theorem ev_t372 : mv_evb mv_gS 68 [oe_x, oe_m, oe_t373] 400000 oe_t372 = true := by decide +kernel
theorem ok_t372 (hst : l.stackTraces = false) (h8 : r 8 = r 0 &&& nI 31) (hg : mv_in mv_gS r) : mv_OK l D cs r b0 b mv_mi 68 oe_t372 := mv_mkb hst h8 hg (mv_hs (ok_x hst h8 hg) (mv_hs (ok_m hst h8 hg) (mv_hs (ok_t373 hst h8 hg) mv_hn))) oc_t372 ev_t372
theorem oc_t371 : mv_OC 68 oe_t371 := mv_och (by decide +kernel) hc_0.1 hc_n.1 hc_0.2 hc_n.2
set_option maxRecDepth 1000000 in
theorem ev_t371 : mv_evb mv_gS 68 [oe_x, oe_m, oe_t372] 400000 oe_t371 = true := by decide +kernel
theorem ok_t371 (hst : l.stackTraces = false) (h8 : r 8 = r 0 &&& nI 31) (hg : mv_in mv_gS r) : mv_OK l D cs r b0 b mv_mi 68 oe_t371 := mv_mkb hst h8 hg (mv_hs (ok_x hst h8 hg) (mv_hs (ok_m hst h8 hg) (mv_hs (ok_t372 hst h8 hg) mv_hn))) oc_t371 ev_t371
theorem oc_t370 : mv_OC 68 oe_t370 := mv_och (by decide +kernel) hc_0.1 hc_n.1 hc_0.2 hc_n.2
set_option maxRecDepth 1000000 in
theorem ev_t370 : mv_evb mv_gS 68 [oe_x, oe_m, oe_t371] 400000 oe_t370 = true := by decide +kernel
theorem ok_t370 (hst : l.stackTraces = false) (h8 : r 8 = r 0 &&& nI 31) (hg : mv_in mv_gS r) : mv_OK l D cs r b0 b mv_mi 68 oe_t370 := mv_mkb hst h8 hg (mv_hs (ok_x hst h8 hg) (mv_hs (ok_m hst h8 hg) (mv_hs (ok_t371 hst h8 hg) mv_hn))) oc_t370 ev_t370
theorem oc_t369 : mv_OC 68 oe_t369 := mv_och (by decide +kernel) hc_0.1 hc_n.1 hc_0.2 hc_n.2
set_option maxRecDepth 1000000 in
theorem ev_t369 : mv_evb mv_gS 68 [oe_x, oe_m, oe_t370] 400000 oe_t369 = true := by decide +kernel
theorem ok_t369 (hst : l.stackTraces = false) (h8 : r 8 = r 0 &&& nI 31) (hg : mv_in mv_gS r) : mv_OK l D cs r b0 b mv_mi 68 oe_t369 := mv_mkb hst h8 hg (mv_hs (ok_x hst h8 hg) (mv_hs (ok_m hst h8 hg) (mv_hs (ok_t370 hst h8 hg) mv_hn))) oc_t369 ev_t369
theorem oc_t368 : mv_OC 68 oe_t368 := mv_och (by decide +kernel) hc_0.1 hc_n.1 hc_0.2 hc_n.2
set_option maxRecDepth 1000000 in
theorem ev_t368 : mv_evb mv_gS 68 [oe_x, oe_m, oe_t369] 400000 oe_t368 = true := by decide +kernel
theorem ok_t368 (hst : l.stackTraces = false) (h8 : r 8 = r 0 &&& nI 31) (hg : mv_in mv_gS r) : mv_OK l D cs r b0 b mv_mi 68 oe_t368 := mv_mkb hst h8 hg (mv_hs (ok_x hst h8 hg) (mv_hs (ok_m hst h8 hg) (mv_hs (ok_t369 hst h8 hg) mv_hn))) oc_t368 ev_t368
theorem oc_t367 : mv_OC 68 oe_t367 := mv_och (by decide +kernel) hc_0.1 hc_n.1 hc_0.2 hc_n.2
set_option maxRecDepth 1000000 in
theorem ev_t367 : mv_evb mv_gS 68 [oe_x, oe_m, oe_t368] 400000 oe_t367 = true := by decide +kernel
theorem ok_t367 (hst : l.stackTraces = false) (h8 : r 8 = r 0 &&& nI 31) (hg : mv_in mv_gS r) : mv_OK l D cs r b0 b mv_mi 68 oe_t367 := mv_mkb hst h8 hg (mv_hs (ok_x hst h8 hg) (mv_hs (ok_m hst h8 hg) (mv_hs (ok_t368 hst h8 hg) mv_hn))) oc_t367 ev_t367
theorem oc_t366 : mv_OC 68 oe_t366 := mv_och (by decide +kernel) hc_0.1 hc_n.1 hc_0.2 hc_n.2
set_option maxRecDepth 1000000 in
theorem ev_t366 : mv_evb mv_gS 68 [oe_x, oe_m, oe_t367] 400000 oe_t366 = true := by decide +kernel
theorem ok_t366 (hst : l.stackTraces = false) (h8 : r 8 = r 0 &&& nI 31) (hg : mv_in mv_gS r) : mv_OK l D cs r b0 b mv_mi 68 oe_t366 := mv_mkb hst h8 hg (mv_hs (ok_x hst h8 hg) (mv_hs (ok_m hst h8 hg) (mv_hs (ok_t367 hst h8 hg) mv_hn))) oc_t366 ev_t366
theorem oc_t365 : mv_OC 68 oe_t365 := mv_och (by decide +kernel) hc_0.1 hc_n.1 hc_0.2 hc_n.2
set_option maxRecDepth 1000000 in
theorem ev_t365 : mv_evb mv_gS 68 [oe_x, oe_m, oe_t366] 400000 oe_t365 = true := by decide +kernel
theorem ok_t365 (hst : l.stackTraces = false) (h8 : r 8 = r 0 &&& nI 31) (hg : mv_in mv_gS r) : mv_OK l D cs r b0 b mv_mi 68 oe_t365 := mv_mkb hst h8 hg (mv_hs (ok_x hst h8 hg) (mv_hs (ok_m hst h8 hg) (mv_hs (ok_t366 hst h8 hg) mv_hn))) oc_t365 ev_t365
theorem oc_t364 : mv_OC 68 oe_t364 := mv_och (by decide +kernel) hc_0.1 hc_n.1 hc_0.2 hc_n.2
set_option maxRecDepth 1000000 in
theorem ev_t364 : mv_evb mv_gS 68 [oe_x, oe_m, oe_t365] 400000 oe_t364 = true := by decide +kernel
theorem ok_t364 (hst : l.stackTraces = false) (h8 : r 8 = r 0 &&& nI 31) (hg : mv_in mv_gS r) : mv_OK l D cs r b0 b mv_mi 68 oe_t364 := mv_mkb hst h8 hg (mv_hs (ok_x hst h8 hg) (mv_hs (ok_m hst h8 hg) (mv_hs (ok_t365 hst h8 hg) mv_hn))) oc_t364 ev_t364
theorem oc_t363 : mv_OC 68 oe_t363 := mv_och (by decide +kernel) hc_0.1 hc_n.1 hc_0.2 hc_n.2
set_option maxRecDepth 1000000 in
theorem ev_t363 : mv_evb mv_gS 68 [oe_x, oe_m, oe_t364] 400000 oe_t363 = true := by decide +kernel
theorem ok_t363 (hst : l.stackTraces = false) (h8 : r 8 = r 0 &&& nI 31) (hg : mv_in mv_gS r) : mv_OK l D cs r b0 b mv_mi 68 oe_t363 := mv_mkb hst h8 hg (mv_hs (ok_x hst h8 hg) (mv_hs (ok_m hst h8 hg) (mv_hs (ok_t364 hst h8 hg) mv_hn))) oc_t363 ev_t363
theorem oc_t362 : mv_OC 68 oe_t362 := mv_och (by decide +kernel) hc_0.1 hc_n.1 hc_0.2 hc_n.2
set_option maxRecDepth 1000000 in
theorem ev_t362 : mv_evb mv_gS 68 [oe_x, oe_m, oe_t363] 400000 oe_t362 = true := by decide +kernel
theorem ok_t362 (hst : l.stackTraces = false) (h8 : r 8 = r 0 &&& nI 31) (hg : mv_in mv_gS r) : mv_OK l D cs r b0 b mv_mi 68 oe_t362 := mv_mkb hst h8 hg (mv_hs (ok_x hst h8 hg) (mv_hs (ok_m hst h8 hg) (mv_hs (ok_t363 hst h8 hg) mv_hn))) oc_t362 ev_t362
theorem oc_t361 : mv_OC 68 oe_t361 := mv_och (by decide +kernel) hc_0.1 hc_n.1 hc_0.2 hc_n.2
set_option maxRecDepth 1000000 in
theorem ev_t361 : mv_evb mv_gS 68 [oe_x, oe_m, oe_t362] 400000 oe_t361 = true := by decide +kernel
theorem ok_t361 (hst : l.stackTraces = false) (h8 : r 8 = r 0 &&& nI 31) (hg : mv_in mv_gS r) : mv_OK l D cs r b0 b mv_mi 68 oe_t361 := mv_mkb hst h8 hg (mv_hs (ok_x hst h8 hg) (mv_hs (ok_m hst h8 hg) (mv_hs (ok_t362 hst h8 hg) mv_hn))) oc_t361 ev_t361
theorem oc_t360 : mv_OC 68 oe_t360 := mv_och (by decide +kernel) hc_0.1 hc_n.1 hc_0.2 hc_n.2
set_option maxRecDepth 1000000 in
theorem ev_t360 : mv_evb mv_gS 68 [oe_x, oe_m, oe_t361] 400000 oe_t360 = true := by decide +kernel
theorem ok_t360 (hst : l.stackTraces = false) (h8 : r 8 = r 0 &&& nI 31) (hg : mv_in mv_gS r) : mv_OK l D cs r b0 b mv_mi 68 oe_t360 := mv_mkb hst h8 hg (mv_hs (ok_x hst h8 hg) (mv_hs (ok_m hst h8 hg) (mv_hs (ok_t361 hst h8 hg) mv_hn))) oc_t360 ev_t360
theorem oc_t359 : mv_OC 68 oe_t359 := mv_och (by decide +kernel) hc_0.1 hc_n.1 hc_0.2 hc_n.2
set_option maxRecDepth 1000000 in
theorem ev_t359 : mv_evb mv_gS 68 [oe_x, oe_m, oe_t360] 400000 oe_t359 = true := by decide +kernel
theorem ok_t359 (hst : l.stackTraces = false) (h8 : r 8 = r 0 &&& nI 31) (hg : mv_in mv_gS r) : mv_OK l D cs r b0 b mv_mi 68 oe_t359 := mv_mkb hst h8 hg (mv_hs (ok_x hst h8 hg) (mv_hs (ok_m hst h8 hg) (mv_hs (ok_t360 hst h8 hg) mv_hn))) oc_t359 ev_t359
theorem oc_t358 : mv_OC 68 oe_t358 := mv_och (by decide +kernel) hc_0.1 hc_n.1 hc_0.2 hc_n.2
set_option maxRecDepth 1000000 in
theorem ev_t358 : mv_evb mv_gS 68 [oe_x, oe_m, oe_t359] 400000 oe_t358 = true := by decide +kernel
theorem ok_t358 (hst : l.stackTraces = false) (h8 : r 8 = r 0 &&& nI 31) (hg : mv_in mv_gS r) : mv_OK l D cs r b0 b mv_mi 68 oe_t358 := mv_mkb hst h8 hg (mv_hs (ok_x hst h8 hg) (mv_hs (ok_m hst h8 hg) (mv_hs (ok_t359 hst h8 hg) mv_hn))) oc_t358 ev_t358
theorem oc_t357 : mv_OC 68 oe_t357 := mv_och (by decide +kernel) hc_0.1 hc_n.1 hc_0.2 hc_n.2
set_option maxRecDepth 1000000 in
theorem ev_t357 : mv_evb mv_gS 68 [oe_x, oe_m, oe_t358] 400000 oe_t357 = true := by decide +kernel
theorem ok_t357 (hst : l.stackTraces = false) (h8 : r 8 = r 0 &&& nI 31) (hg : mv_in mv_gS r) : mv_OK l D cs r b0 b mv_mi 68 oe_t357 := mv_mkb hst h8 hg (mv_hs (ok_x hst h8 hg) (mv_hs (ok_m hst h8 hg) (mv_hs (ok_t358 hst h8 hg) mv_hn))) oc_t357 ev_t357
theorem oc_t356 : mv_OC 68 oe_t356 := mv_och (by decide +kernel) hc_0.1 hc_n.1 hc_0.2 hc_n.2
set_option maxRecDepth 1000000 in
theorem ev_t356 : mv_evb mv_gS 68 [oe_x, oe_m, oe_t357] 400000 oe_t356 = true := by decide +kernel
theorem ok_t356 (hst : l.stackTraces = false) (h8 : r 8 = r 0 &&& nI 31) (hg : mv_in mv_gS r) : mv_OK l D cs r b0 b mv_mi 68 oe_t356 := mv_mkb hst h8 hg (mv_hs (ok_x hst h8 hg) (mv_hs (ok_m hst h8 hg) (mv_hs (ok_t357 hst h8 hg) mv_hn))) oc_t356 ev_t356
theorem oc_t355 : mv_OC 68 oe_t355 := mv_och (by decide +kernel) hc_0.1 hc_n.1 hc_0.2 hc_n.2
set_option maxRecDepth 1000000 in
theorem ev_t355 : mv_evb mv_gS 68 [oe_x, oe_m, oe_t356] 400000 oe_t355 = true := by decide +kernel
theorem ok_t355 (hst : l.stackTraces = false) (h8 : r 8 = r 0 &&& nI 31) (hg : mv_in mv_gS r) : mv_OK l D cs r b0 b mv_mi 68 oe_t355 := mv_mkb hst h8 hg (mv_hs (ok_x hst h8 hg) (mv_hs (ok_m hst h8 hg) (mv_hs (ok_t356 hst h8 hg) mv_hn))) oc_t355 ev_t355
theorem oc_t354 : mv_OC 68 oe_t354 := mv_och (by decide +kernel) hc_0.1 hc_n.1 hc_0.2 hc_n.2
set_option maxRecDepth 1000000 in
theorem ev_t354 : mv_evb mv_gS 68 [oe_x, oe_m, oe_t355] 400000 oe_t354 = true := by decide +kernel
theorem ok_t354 (hst : l.stackTraces = false) (h8 : r 8 = r 0 &&& nI 31) (hg : mv_in mv_gS r) : mv_OK l D cs r b0 b mv_mi 68 oe_t354 := mv_mkb hst h8 hg (mv_hs (ok_x hst h8 hg) (mv_hs (ok_m hst h8 hg) (mv_hs (ok_t355 hst h8 hg) mv_hn))) oc_t354 ev_t354
theorem oc_t353 : mv_OC 68 oe_t353 := mv_och (by decide +kernel) hc_0.1 hc_n.1 hc_0.2 hc_n.2
set_option maxRecDepth 1000000 in
theorem ev_t353 : mv_evb mv_gS 68 [oe_x, oe_m, oe_t354] 400000 oe_t353 = true := by decide +kernel
theorem ok_t353 (hst : l.stackTraces = false) (h8 : r 8 = r 0 &&& nI 31) (hg : mv_in mv_gS r) : mv_OK l D cs r b0 b mv_mi 68 oe_t353 := mv_mkb hst h8 hg (mv_hs (ok_x hst h8 hg) (mv_hs (ok_m hst h8 hg) (mv_hs (ok_t354 hst h8 hg) mv_hn))) oc_t353 ev_t353
end
