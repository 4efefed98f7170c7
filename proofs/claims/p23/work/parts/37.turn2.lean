/-! ===== printed by a program ===== -/
section
variable {l : Launch} {D : va_G} {cs : ClassId × ClassId × ClassId} {r : Nat → Int32} {b0 b : Nat}
theorem oc_t352 : mv_OC 68 oe_t352 := mv_och (by decide +kernel) hc_0.1 hc_n.1 hc_0.2 hc_n.2
set_option maxRecDepth 1000000 in
theorem ev_t352 : mv_evb mv_gS 68 [oe_x, oe_m, oe_t353] 400000 oe_t352 = true := by decide +kernel
theorem ok_t352 (hst : l.stackTraces = false) (h8 : r 8 = r 0 &&& nI 31) (hg : mv_in mv_gS r) : mv_OK l D cs r b0 b mv_mi 68 oe_t352 := mv_mkb hst h8 hg (mv_hs (ok_x hst h8 hg) (mv_hs (ok_m hst h8 hg) (mv_hs (ok_t353 hst h8 hg) mv_hn))) oc_t352 ev_t352
theorem oc_t351 : mv_OC 68 oe_t351 := mv_och (by decide +kernel) hc_0.1 hc_n.1 hc_0.2 hc_n.2
set_option maxRecDepth 1000000 in
theorem ev_t351 : mv_evb mv_gS 68 [oe_x, oe_m, oe_t352] 400000 oe_t351 = true := by decide +kernel
theorem ok_t351 (hst : l.stackTraces = false) (h8 : r 8 = r 0 &&& nI 31) (hg : mv_in mv_gS r) : mv_OK l D cs r b0 b mv_mi 68 oe_t351 := mv_mkb hst h8 hg (mv_hs (ok_x hst h8 hg) (mv_hs (ok_m hst h8 hg) (mv_hs (ok_t352 hst h8 hg) mv_hn))) oc_t351 ev_t351
theorem oc_t350 : mv_OC 68 oe_t350 := mv_och (by decide +kernel) hc_0.1 hc_n.1 hc_0.2 hc_n.2
set_option maxRecDepth 1000000 in
theorem ev_t350 : mv_evb mv_gS 68 [oe_x, oe_m, oe_t351] 400000 oe_t350 = true := by decide +kernel
theorem ok_t350 (hst : l.stackTraces = false) (h8 : r 8 = r 0 &&& nI 31) (hg : mv_in mv_gS r) : mv_OK l D cs r b0 b mv_mi 68 oe_t350 := mv_mkb hst h8 hg (mv_hs (ok_x hst h8 hg) (mv_hs (ok_m hst h8 hg) (mv_hs (ok_t351 hst h8 hg) mv_hn))) oc_t350 ev_t350
theorem oc_t349 : mv_OC 68 oe_t349 := mv_och (by decide +kernel) hc_0.1 hc_n.1 hc_0.2 hc_n.2
set_option maxRecDepth 1000000 in
theorem ev_t349 : mv_evb mv_gS 68 [oe_x, oe_m, oe_t350] 400000 oe_t349 = true := by decide +kernel
theorem ok_t349 (hst : l.stackTraces = false) (h8 : r 8 = r 0 &&& nI 31) (hg : mv_in mv_gS r) : mv_OK l D cs r b0 b mv_mi 68 oe_t349 := mv_mkb hst h8 hg (mv_hs (ok_x hst h8 hg) (mv_hs (ok_m hst h8 hg) (mv_hs (ok_t350 hst h8 hg) mv_hn))) oc_t349 ev_t349
theorem oc_t348 : mv_OC 68 oe_t348 := mv_och (by decide +kernel) hc_0.1 hc_n.1 hc_0.2 hc_n.2
set_option maxRecDepth 1000000 in
theorem ev_t348 : mv_evb mv_gS 68 [oe_x, oe_m, oe_t349] 400000 oe_t348 = true := by decide +kernel
theorem ok_t348 (hst : l.stackTraces = false) (h8 : r 8 = r 0 &&& nI 31) (hg : mv_in mv_gS r) : mv_OK l D cs r b0 b mv_mi 68 oe_t348 := mv_mkb hst h8 hg (mv_hs (ok_x hst h8 hg) (mv_hs (ok_m hst h8 hg) (mv_hs (ok_t349 hst h8 hg) mv_hn))) oc_t348 ev_t348
theorem oc_t347 : mv_OC 68 oe_t347 := mv_och (by decide +kernel) hc_0.1 hc_n.1 hc_0.2 hc_n.2
set_option maxRecDepth 1000000 in
theorem ev_t347 : mv_evb mv_gS 68 [oe_x, oe_m, oe_t348] 400000 oe_t347 = true := by decide +kernel
theorem ok_t347 (hst : l.stackTraces = false) (h8 : r 8 = r 0 &&& nI 31) (hg : mv_in mv_gS r) : mv_OK l D cs r b0 b mv_mi 68 oe_t347 := mv_mkb hst h8 hg (mv_hs (ok_x hst h8 hg) (mv_hs (ok_m hst h8 hg) (mv_hs (ok_t348 hst h8 hg) mv_hn))) oc_t347 ev_t347
theorem oc_t346 : mv_OC 68 oe_t346 := mv_och (by decide +kernel) hc_0.1 hc_n.1 hc_0.2 hc_n.2
set_option maxRecDepth 1000000 in
theorem ev_t346 : mv_evb mv_gS 68 [oe_x, oe_m, oe_t347] 400000 oe_t346 = true := by decide +kernel
theorem ok_t346 (hst : l.stackTraces = false) (h8 : r 8 = r 0 &&& nI 31) (hg : mv_in mv_gS r) : mv_OK l D cs r b0 b mv_mi 68 oe_t346 := mv_mkb hst h8 hg (mv_hs (ok_x hst h8 hg) (mv_hs (ok_m hst h8 hg) (mv_hs (ok_t347 hst h8 hg) mv_hn))) oc_t346 ev_t346
theorem oc_t345 : mv_OC 68 oe_t345 := mv_och (by decide +kernel) hc_0.1 hc_n.1 hc_0.2 hc_n.2
set_option maxRecDepth 1000000 in
theorem ev_t345 : mv_evb mv_gS 68 [oe_x, oe_m, oe_t346] 400000 oe_t345 = true := by decide +kernel
theorem ok_t345 (hst : l.stackTraces = false) (h8 : r 8 = r 0 &&& nI 31) (hg : mv_in mv_gS r) : mv_OK l D cs r b0 b mv_mi 68 oe_t345 := mv_mkb hst h8 hg (mv_hs (ok_x hst h8 hg) (mv_hs (ok_m hst h8 hg) (mv_hs (ok_t346 hst h8 hg) mv_hn))) oc_t345 ev_t345
theorem oc_t344 : mv_OC 68 oe_t344 := mv_och (by decide +kernel) hc_0.1 hc_n.1 hc_0.2 hc_n.2
set_option maxRecDepth 1000000 in
theorem ev_t344 : mv_evb mv_gS 68 [oe_x, oe_m, oe_t345] 400000 oe_t344 = true := by decide +kernel
theorem ok_t344 (hst : l.stackTraces = false) (h8 : r 8 = r 0 &&& nI 31) (hg : mv_in mv_gS r) : mv_OK l D cs r b0 b mv_mi 68 oe_t344 := mv_mkb hst h8 hg (mv_hs (ok_x hst h8 hg) (mv_hs (ok_m hst h8 hg) (mv_hs (ok_t345 hst h8 hg) mv_hn))) oc_t344 ev_t344
theorem oc_t343 : mv_OC 68 oe_t343 := mv_och (by decide +kernel) hc_0.1 hc_n.1 hc_0.2 hc_n.2
set_option maxRecDepth 1000000 in
theorem ev_t343 : mv_evb mv_gS 68 [oe_x, oe_m, oe_t344] 400000 oe_t343 = true := by decide +kernel
theorem ok_t343 (hst : l.stackTraces = false) (h8 : r 8 = r 0 &&& nI 31) (hg : mv_in mv_gS r) : mv_OK l D cs r b0 b mv_mi 68 oe_t343 := mv_mkb hst h8 hg (mv_hs (ok_x hst h8 hg) (mv_hs (ok_m hst h8 hg) (mv_hs (ok_t344 hst h8 hg) mv_hn))) oc_t343 ev_t343
theorem oc_t342 : mv_OC 68 oe_t342 := mv_och (by decide +kernel) hc_0.1 hc_n.1 hc_0.2 hc_n.2
set_option maxRecDepth 1000000 in
theorem ev_t342 : mv_evb mv_gS 68 [oe_x, oe_m, oe_t343] 400000 oe_t342 = true := by decide +kernel
theorem ok_t342 (hst : l.stackTraces = false) (h8 : r 8 = r 0 &&& nI 31) (hg : mv_in mv_gS r) : mv_OK l D cs r b0 b mv_mi 68 oe_t342 := mv_mkb hst h8 hg (mv_hs (ok_x hst h8 hg) (mv_hs (ok_m hst h8 hg) (mv_hs (ok_t343 hst h8 hg) mv_hn))) oc_t342 ev_t342
theorem oc_t341 : mv_OC 68 oe_t341 := mv_och (by decide +kernel) hc_0.1 hc_n.1 hc_0.2 hc_n.2
set_option maxRecDepth 1000000 in
theorem ev_t341 : mv_evb mv_gS 68 [oe_x, oe_m, oe_t342] 400000 oe_t341 = true := by decide +kernel
theorem ok_t341 (hst : l.stackTraces = false) (h8 : r 8 = r 0 &&& nI 31) (hg : mv_in mv_gS r) : mv_OK l D cs r b0 b mv_mi 68 oe_t341 := mv_mkb hst h8 hg (mv_hs (ok_x hst h8 hg) (mv_hs (ok_m hst h8 hg) (mv_hs (ok_t342 hst h8 hg) mv_hn))) oc_t341 ev_t341
theorem oc_t340 : mv_OC 68 oe_t340 := mv_och (by decide +kernel) hc_0.1 hc_n.1 hc_0.2 hc_n.2
set_option maxRecDepth 1000000 in
theorem ev_t340 : mv_evb mv_gS 68 [oe_x, oe_m, oe_t341] 400000 oe_t340 = true := by decide +kernel
theorem ok_t340 (hst : l.stackTraces = false) (h8 : r 8 = r 0 &&& nI 31) (hg : mv_in mv_gS r) : mv_OK l D cs r b0 b mv_mi 68 oe_t340 := mv_mkb hst h8 hg (mv_hs (ok_x hst h8 hg) (mv_hs (ok_m hst h8 hg) (mv_hs (ok_t341 hst h8 hg) mv_hn))) oc_t340 ev_t340
theorem oc_t339 : mv_OC 68 oe_t339 := mv_och (by decide +kernel) hc_0.1 hc_n.1 hc_0.2 hc_n.2
set_option maxRecDepth 1000000 in
theorem ev_t339 : mv_evb mv_gS 68 [oe_x, oe_m, oe_t340] 400000 oe_t339 = true := by decide +kernel
theorem ok_t339 (hst : l.stackTraces = false) (h8 : r 8 = r 0 &&& nI 31) (hg : mv_in mv_gS r) : mv_OK l D cs r b0 b mv_mi 68 oe_t339 := mv_mkb hst h8 hg (mv_hs (ok_x hst h8 hg) (mv_hs (ok_m hst h8 hg) (mv_hs (ok_t340 hst h8 hg) mv_hn))) oc_t339 ev_t339
theorem oc_t338 : mv_OC 68 oe_t338 := mv_och (by decide +kernel) hc_0.1 hc_n.1 hc_0.2 hc_n.2
set_option maxRecDepth 1000000 in
theorem ev_t338 : mv_evb mv_gS 68 [oe_x, oe_m, oe_t339] 400000 oe_t338 = true := by decide +kernel
theorem ok_t338 (hst : l.stackTraces = false) (h8 : r 8 = r 0 &&& nI 31) (hg : mv_in mv_gS r) : mv_OK l D cs r b0 b mv_mi 68 oe_t338 := mv_mkb hst h8 hg (mv_hs (ok_x hst h8 hg) (mv_hs (ok_m hst h8 hg) (mv_hs (ok_t339 hst h8 hg) mv_hn))) oc_t338 ev_t338
theorem oc_t337 : mv_OC 68 oe_t337 := mv_och (by decide +kernel) hc_0.1 hc_n.1 hc_0.2 hc_n.2
set_option maxRecDepth 1000000 in
theorem ev_t337 : mv_evb mv_gS 68 [oe_x, oe_m, oe_t338] 400000 oe_t337 = true := by decide +kernel
theorem ok_t337 (hst : l.stackTraces = false) (h8 : r 8 = r 0 &&& nI 31) (hg : mv_in mv_gS r) : mv_OK l D cs r b0 b mv_mi 68 oe_t337 := mv_mkb hst h8 hg (mv_hs (ok_x hst h8 hg) (mv_hs (ok_m hst h8 hg) (mv_hs (ok_t338 hst h8 hg) mv_hn))) oc_t337 ev_t337
theorem oc_t336 : mv_OC 68 oe_t336 := mv_och (by decide +kernel) hc_0.1 hc_n.1 hc_0.2 hc_n.2
set_option maxRecDepth 1000000 in
theorem ev_t336 : mv_evb mv_gS 68 [oe_x, oe_m, oe_t337] 400000 oe_t336 = true := by decide +kernel
theorem ok_t336 (hst : l.stackTraces = false) (h8 : r 8 = r 0 &&& nI 31) (hg : mv_in mv_gS r) : mv_OK l D cs r b0 b mv_mi 68 oe_t336 := mv_mkb hst h8 hg (mv_hs (ok_x hst h8 hg) (mv_hs (ok_m hst h8 hg) (mv_hs (ok_t337 hst h8 hg) mv_hn))) oc_t336 ev_t336
theorem oc_t335 : mv_OC 68 oe_t335 := mv_och (by decide +kernel) hc_0.1 hc_n.1 hc_0.2 hc_n.2
set_option maxRecDepth 1000000 in
theorem ev_t335 : mv_evb mv_gS 68 [oe_x, oe_m, oe_t336] 400000 oe_t335 = true := by decide +kernel
theorem ok_t335 (hst : l.stackTraces = false) (h8 : r 8 = r 0 &&& nI 31) (hg : mv_in mv_gS r) : mv_OK l D cs r b0 b mv_mi 68 oe_t335 := mv_mkb hst h8 hg (mv_hs (ok_x hst h8 hg) (mv_hs (ok_m hst h8 hg) (mv_hs (ok_t336 hst h8 hg) mv_hn))) oc_t335 ev_t335
theorem oc_t334 : mv_OC 68 oe_t334 := mv_och (by decide +kernel) hc_0.1 hc_n.1 hc_0.2 hc_n.2
set_option maxRecDepth 1000000 in
theorem ev_t334 : mv_evb mv_gS 68 [oe_x, oe_m, oe_t335] 400000 oe_t334 = true := by decide +kernel
theorem ok_t334 (hst : l.stackTraces = false) (h8 : r 8 = r 0 &&& nI 31) (hg : mv_in mv_gS r) : mv_OK l D cs r b0 b mv_mi 68 oe_t334 := mv_mkb hst h8 hg (mv_hs (ok_x hst h8 hg) (mv_hs (ok_m hst h8 hg) (mv_hs (ok_t335 hst h8 hg) mv_hn))) oc_t334 ev_t334
theorem oc_t333 : mv_OC 68 oe_t333 := mv_och (by decide +kernel) hc_0.1 hc_n.1 hc_0.2 hc_n.2
set_option maxRecDepth 1000000 in
theorem ev_t333 : mv_evb mv_gS 68 [oe_x, oe_m, oe_t334] 400000 oe_t333 = true := by decide +kernel
theorem ok_t333 (hst : l.stackTraces = false) (h8 : r 8 = r 0 &&& nI 31) (hg : mv_in mv_gS r) : mv_OK l D cs r b0 b mv_mi 68 oe_t333 := mv_mkb hst h8 hg (mv_hs (ok_x hst h8 hg) (mv_hs (ok_m hst h8 hg) (mv_hs (ok_t334 hst h8 hg) mv_hn))) oc_t333 ev_t333
theorem oc_t332 : mv_OC 68 oe_t332 := mv_och (by decide +kernel) hc_0.1 hc_n.1 hc_0.2 hc_n.2
set_option maxRecDepth 1000000 in
theorem ev_t332 : mv_evb mv_gS 68 [oe_x, oe_m, oe_t333] 400000 oe_t332 = true := by decide +kernel
theorem ok_t332 (hst : l.stackTraces = false) (h8 : r 8 = r 0 &&& nI 31) (hg : mv_in mv_gS r) : mv_OK l D cs r b0 b mv_mi 68 oe_t332 := mv_mkb hst h8 hg (mv_hs (ok_x hst h8 hg) (mv_hs (ok_m hst h8 hg) (mv_hs (ok_t333 hst h8 hg) mv_hn))) oc_t332 ev_t332
theorem oc_t331 : mv_OC 68 oe_t331 := mv_och (by decide +kernel) hc_0.1 hc_n.1 hc_0.2 hc_n.2
set_option maxRecDepth 1000000 in
theorem ev_t331 : mv_evb mv_gS 68 [oe_x, oe_m, oe_t332] 400000 oe_t331 = true := by decide +kernel
theorem ok_t331 (hst : l.stackTraces = false) (h8 : r 8 = r 0 &&& nI 31) (hg : mv_in mv_gS r) : mv_OK l D cs r b0 b mv_mi 68 oe_t331 := mv_mkb hst h8 hg (mv_hs (ok_x hst h8 hg) (mv_hs (ok_m hst h8 hg) (mv_hs (ok_t332 hst h8 hg) mv_hn))) oc_t331 ev_t331
theorem oc_t330 : mv_OC 68 oe_t330 := mv_och (by decide +kernel) hc_0.1 hc_n.1 hc_0.2 hc_n.2
set_option maxRecDepth 1000000 in
theorem ev_t330 : mv_evb mv_gS 68 [oe_x, oe_m, oe_t331] 400000 oe_t330 = true := by decide +kernel
theorem ok_t330 (hst : l.stackTraces = false) (h8 : r 8 = r 0 &&& nI 31) (hg : mv_in mv_gS r) : mv_OK l D cs r b0 b mv_mi 68 oe_t330 := mv_mkb hst h8 hg (mv_hs (ok_x hst h8 hg) (mv_hs (ok_m hst h8 hg) (mv_hs (ok_t331 hst h8 hg) mv_hn))) oc_t330 ev_t330
theorem oc_t329 : mv_OC 68 oe_t329 := mv_och (by decide +kernel) hc_0.1 hc_n.1 hc_0.2 hc_n.2
set_option maxRecDepth 1000000 in
theorem ev_t329 : mv_evb mv_gS 68 [oe_x, oe_m, oe_t330] 400000 oe_t329 = true := by decide +kernel
theorem ok_t329 (hst : l.stackTraces = false) (h8 : r 8 = r 0 &&& nI 31) (hg : mv_in mv_gS r) : mv_OK l D cs r b0 b mv_mi 68 oe_t329 := mv_mkb hst h8 hg (mv_hs (ok_x hst h8 hg) (mv_hs (ok_m hst h8 hg) (mv_hs (ok_t330 hst h8 hg) mv_hn))) oc_t329 ev_t329
theorem oc_t328 : mv_OC 68 oe_t328 := mv_och (by decide +kernel) hc_0.1 hc_n.1 hc_0.2 hc_n.2
set_option maxRecDepth 1000000 in
theorem ev_t328 : mv_evb mv_gS 68 [oe_x, oe_m, oe_t329] 400000 oe_t328 = true := by decide +kernel
theorem ok_t328 (hst : l.stackTraces = false) (h8 : r 8 = r 0 &&& nI 31) (hg : mv_in mv_gS r) : mv_OK l D cs r b0 b mv_mi 68 oe_t328 := mv_mkb hst h8 hg (mv_hs (ok_x hst h8 hg) (mv_hs (ok_m hst h8 hg) (mv_hs (ok_t329 hst h8 hg) mv_hn))) oc_t328 ev_t328
theorem oc_t327 : mv_OC 68 oe_t327 := mv_och (by decide +kernel) hc_0.1 hc_n.1 hc_0.2 hc_n.2
set_option maxRecDepth 1000000 in
theorem ev_t327 : mv_evb mv_gS 68 [oe_x, oe_m, oe_t328] 400000 oe_t327 = true := by decide +kernel
theorem ok_t327 (hst : l.stackTraces = false) (h8 : r 8 = r 0 &&& nI 31) (hg : mv_in mv_gS r) : mv_OK l D cs r b0 b mv_mi 68 oe_t327 := mv_mkb hst h8 hg (mv_hs (ok_x hst h8 hg) (mv_hs (ok_m hst h8 hg) (mv_hs (ok_t328 hst h8 hg) mv_hn))) oc_t327 ev_t327
theorem oc_t326 : mv_OC 68 oe_t326 := mv_och (by decide +kernel) hc_0.1 hc_n.1 hc_0.2 hc_n.2
set_option maxRecDepth 1000000 in
theorem ev_t326 : mv_evb mv_gS 68 [oe_x, oe_m, oe_t327] 400000 oe_t326 = true := by decide +kernel
theorem ok_t326 (hst : l.stackTraces = false) (h8 : r 8 = r 0 &&& nI 31) (hg : mv_in mv_gS r) : mv_OK l D cs r b0 b mv_mi 68 oe_t326 := mv_mkb hst h8 hg (mv_hs (ok_x hst h8 hg) (mv_hs (ok_m hst h8 hg) (mv_hs (ok_t327 hst h8 hg) mv_hn))) oc_t326 ev_t326
theorem oc_t325 : mv_OC 68 oe_t325 := mv_och (by decide +kernel) hc_0.1 hc_n.1 hc_0.2 hc_n.2
set_option maxRecDepth 1000000 in
theorem ev_t325 : mv_evb mv_gS 68 [oe_x, oe_m, oe_t326] 400000 oe_t325 = true := by decide +kernel
theorem ok_t325 (hst : l.stackTraces = false) (h8 : r 8 = r 0 &&& nI 31) (hg : mv_in mv_gS r) : mv_OK l D cs r b0 b mv_mi 68 oe_t325 := mv_mkb hst h8 hg (mv_hs (ok_x hst h8 hg) (mv_hs (ok_m hst h8 hg) (mv_hs (ok_t326 hst h8 hg) mv_hn))) oc_t325 ev_t325
theorem oc_t324 : mv_OC 68 oe_t324 := mv_och (by decide +kernel) hc_0.1 hc_n.1 hc_0.2 hc_n.2
set_option maxRecDepth 1000000 in
theorem ev_t324 : mv_evb mv_gS 68 [oe_x, oe_m, oe_t325] 400000 oe_t324 = true := by decide +kernel
theorem ok_t324 (hst : l.stackTraces = false) (h8 : r 8 = r 0 &&& nI 31) (hg : mv_in mv_gS r) : mv_OK l D cs r b0 b mv_mi 68 oe_t324 := mv_mkb hst h8 hg (mv_hs (ok_x hst h8 hg) (mv_hs (ok_m hst h8 hg) (mv_hs (ok_t325 hst h8 hg) mv_hn))) oc_t324 ev_t324
theorem oc_t323 : mv_OC 68 oe_t323 := mv_och (by decide +kernel) hc_0.1 hc_n.1 hc_0.2 hc_n.2
set_option maxRecDepth 1000000 in
theorem ev_t323 : mv_evb mv_gS 68 [oe_x, oe_m, oe_t324] 400000 oe_t323 = true := by decide +kernel
theorem ok_t323 (hst : l.stackTraces = false) (h8 : r 8 = r 0 &&& nI 31) (hg : mv_in mv_gS r) : mv_OK l D cs r b0 b mv_mi 68 oe_t323 := mv_mkb hst h8 hg (mv_hs (ok_x hst h8 hg) (mv_hs (ok_m hst h8 hg) (mv_hs (ok_t324 hst h8 hg) mv_hn))) oc_t323 ev_t323
theorem oc_t322 : mv_OC 68 oe_t322 := mv_och (by decide +kernel) hc_0.1 hc_n.1 hc_0.2 hc_n.2
set_option maxRecDepth 1000000 in
theorem ev_t322 : mv_evb mv_gS 68 [oe_x, oe_m, oe_t323] 400000 oe_t322 = true := by decide +kernel
theorem ok_t322 (hst : l.stackTraces = false) (h8 : r 8 = r 0 &&& nI 31) (hg : mv_in mv_gS r) : mv_OK l D cs r b0 b mv_mi 68 oe_t322 := mv_mkb hst h8 hg (mv_hs (ok_x hst h8 hg) (mv_hs (ok_m hst h8 hg) (mv_hs (ok_t323 hst h8 hg) mv_hn))) oc_t322 ev_t322
theorem oc_t321 : mv_OC 68 oe_t321 := mv_och (by decide +kernel) hc_0.1 hc_n.1 hc_0.2 hc_n.2
set_option maxRecDepth 1000000 in
theorem ev_t321 : mv_evb mv_gS 68 [oe_x, oe_m, oe_t322] 400000 oe_t321 = true := by decide +kernel
theorem ok_t321 (hst : l.stackTraces = false) (h8 : r 8 = r 0 &&& nI 31) (hg : mv_in mv_gS r) : mv_OK l D cs r b0 b mv_mi 68 oe_t321 := mv_mkb hst h8 hg (mv_hs (ok_x hst h8 hg) (mv_hs (ok_m hst h8 hg) (mv_hs (ok_t322 hst h8 hg) mv_hn))) oc_t321 ev_t321
theorem oc_t320 : mv_OC 68 oe_t320 := mv_och (by decide +kernel) hc_0.1 hc_n.1 hc_0.2 hc_n.2
set_option maxRecDepth 1000000 in
theorem ev_t320 : mv_evb mv_gS 68 [oe_x, oe_m, oe_t321] 400000 oe_t320 = true := by decide +kernel
theorem ok_t320 (hst : l.stackTraces = false) (h8 : r 8 = r 0 &&& nI 31) (hg : mv_in mv_gS r) : mv_OK l D cs r b0 b mv_mi 68 oe_t320 := mv_mkb hst h8 hg (mv_hs (ok_x hst h8 hg) (mv_hs (ok_m hst h8 hg) (mv_hs (ok_t321 hst h8 hg) mv_hn))) oc_t320 ev_t320
theorem oc_t319 : mv_OC 68 oe_t319 := mv_och (by decide +kernel) hc_0.1 hc_n.1 hc_0.2 hc_n.2
set_option maxRecDepth 1000000 in
theorem ev_t319 : mv_evb mv_gS 68 [oe_x, oe_m, oe_t320] 400000 oe_t319 = true := by decide +kernel
theorem ok_t319 (hst : l.stackTraces = false) (h8 : r 8 = r 0 &&& nI 31) (hg : mv_in mv_gS r) : mv_OK l D cs r b0 b mv_mi 68 oe_t319 := mv_mkb hst h8 hg (mv_hs (ok_x hst h8 hg) (mv_hs (ok_m hst h8 hg) (mv_hs (ok_t320 hst h8 hg) mv_hn))) oc_t319 ev_t319
theorem oc_t318 : mv_OC 68 oe_t318 := mv_och (by decide +kernel) hc_0.1 hc_n.1 hc_0.2 hc_n.2
set_option maxRecDepth 1000000 in
theorem ev_t318 : mv_evb mv_gS 68 [oe_x, oe_m, oe_t319] 400000 oe_t318 = true := by decide +kernel
theorem ok_t318 (hst : l.stackTraces = false) (h8 : r 8 = r 0 &&& nI 31) (hg : mv_in mv_gS r) : mv_OK l D cs r b0 b mv_mi 68 oe_t318 := mv_mkb hst h8 hg (mv_hs (ok_x hst h8 hg) (mv_hs (ok_m hst h8 hg) (mv_hs (ok_t319 hst h8 hg) mv_hn))) oc_t318 ev_t318
theorem oc_t317 : mv_OC 68 oe_t317 := mv_och (by decide +kernel) hc_0.1 hc_n.1 hc_0.2 hc_n.2
set_option maxRecDepth 1000000 in
theorem ev_t317 : mv_evb mv_gS 68 [oe_x, oe_m, oe_t318] 400000 oe_t317 = true := by decide +kernel
theorem ok_t317 (hst : l.stackTraces = false) (h8 : r 8 = r 0 &&& nI 31) (hg : mv_in mv_gS r) : mv_OK l D cs r b0 b mv_mi 68 oe_t317 := mv_mkb hst h8 hg (mv_hs (ok_x hst h8 hg) (mv_hs (ok_m hst h8 hg) (mv_hs (ok_t318 hst h8 hg) mv_hn))) oc_t317 ev_t317
theorem oc_t316 : mv_OC 68 oe_t316 := mv_och (by decide +kernel) hc_0.1 hc_n.1 hc_0.2 hc_n.2
set_option maxRecDepth 1000000 in
theorem ev_t316 : mv_evb mv_gS 68 [oe_x, oe_m, oe_t317] 400000 oe_t316 = true := by decide +kernel
theorem ok_t316 (hst : l.stackTraces = false) (h8 : r 8 = r 0 &&& nI 31) (hg : mv_in mv_gS r) : mv_OK l D cs r b0 b mv_mi 68 oe_t316 := mv_mkb hst h8 hg (mv_hs (ok_x hst h8 hg) (mv_hs (ok_m hst h8 hg) (mv_hs (ok_t317 hst h8 hg) mv_hn))) oc_t316 ev_t316
theorem oc_t315 : mv_OC 68 oe_t315 := mv_och (by decide +kernel) hc_0.1 hc_n.1 hc_0.2 hc_n.2
set_option maxRecDepth 1000000 in
theorem ev_t315 : mv_evb mv_gS 68 [oe_x, oe_m, oe_t316] 400000 oe_t315 = true := by decide +kernel
theorem ok_t315 (hst : l.stackTraces = false) (h8 : r 8 = r 0 &&& nI 31) (hg : mv_in mv_gS r) : mv_OK l D cs r b0 b mv_mi 68 oe_t315 := mv_mkb hst h8 hg (mv_hs (ok_x hst h8 hg) (mv_hs (ok_m hst h8 hg) (mv_hs (ok_t316 hst h8 hg) mv_hn))) oc_t315 ev_t315
theorem oc_t314 : mv_OC 68 oe_t314 := mv_och (by decide +kernel) hc_0.1 hc_n.1 hc_0.2 hc_n.2
set_option maxRecDepth 1000000 in
theorem ev_t314 : mv_evb mv_gS 68 [oe_x, oe_m, oe_t315] 400000 oe_t314 = true := by decide +kernel
theorem ok_t314 (hst : l.stackTraces = false) (h8 : r 8 = r 0 &&& nI 31) (hg : mv_in mv_gS r) : mv_OK l D cs r b0 b mv_mi 68 oe_t314 := mv_mkb hst h8 hg (mv_hs (ok_x hst h8 hg) (mv_hs (ok_m hst h8 hg) (mv_hs (ok_t315 hst h8 hg) mv_hn))) oc_t314 ev_t314
theorem oc_t313 : mv_OC 68 oe_t313 := mv_och (by decide +kernel) hc_0.1 hc_n.1 hc_0.2 hc_n.2
set_option maxRecDepth 1000000 in
theorem ev_t313 : mv_evb mv_gS 68 [oe_x, oe_m, oe_t314] 400000 oe_t313 = true := by decide +kernel
theorem ok_t313 (hst : l.stackTraces = false) (h8 : r 8 = r 0 &&& nI 31) (hg : mv_in mv_gS r) : mv_OK l D cs r b0 b mv_mi 68 oe_t313 := mv_mkb hst h8 hg (mv_hs (ok_x hst h8 hg) (mv_hs (ok_m hst h8 hg) (mv_hs (ok_t314 hst h8 hg) mv_hn))) oc_t313 ev_t313
theorem oc_t312 : mv_OC 68 oe_t312 := mv_och (by decide +kernel) hc_0.1 hc_n.1 hc_0.2 hc_n.2
set_option maxRecDepth 1000000 in
theorem ev_t312 : mv_evb mv_gS 68 [oe_x, oe_m, oe_t313] 400000 oe_t312 = true := by decide +kernel
theorem ok_t312 (hst : l.stackTraces = false) (h8 : r 8 = r 0 &&& nI 31) (hg : mv_in mv_gS r) : mv_OK l D cs r b0 b mv_mi 68 oe_t312 := mv_mkb hst h8 hg (mv_hs (ok_x hst h8 hg) (mv_hs (ok_m hst h8 hg) (mv_hs (ok_t313 hst h8 hg) mv_hn))) oc_t312 ev_t312
theorem oc_t311 : mv_OC 68 oe_t311 := mv_och (by decide +kernel) hc_0.1 hc_n.1 hc_0.2 hc_n.2
set_option maxRecDepth 1000000 in
theorem ev_t311 : mv_evb mv_gS 68 [oe_x, oe_m, oe_t312] 400000 oe_t311 = true := by decide +kernel
theorem ok_t311 (hst : l.stackTraces = false) (h8 : r 8 = r 0 &&& nI 31) (hg : mv_in mv_gS r) : mv_OK l D cs r b0 b mv_mi 68 oe_t311 := mv_mkb hst h8 hg (mv_hs (ok_x hst h8 hg) (mv_hs (ok_m hst h8 hg) (mv_hs (ok_t312 hst h8 hg) mv_hn))) oc_t311 ev_t311
theorem oc_t310 : mv_OC 68 oe_t310 := mv_och (by decide +kernel) hc_0.1 hc_n.1 hc_0.2 hc_n.2
set_option maxRecDepth 1000000 in
theorem ev_t310 : mv_evb mv_gS 68 [oe_x, oe_m, oe_t311] 400000 oe_t310 = true := by decide +kernel
theorem ok_t310 (hst : l.stackTraces = false) (h8 : r 8 = r 0 &&& nI 31) (hg : mv_in mv_gS r) : mv_OK l D cs r b0 b mv_mi 68 oe_t310 := mv_mkb hst h8 hg (mv_hs (ok_x hst h8 hg) (mv_hs (ok_m hst h8 hg) (mv_hs (ok_t311 hst h8 hg) mv_hn))) oc_t310 ev_t310
theorem oc_t309 : mv_OC 68 oe_t309 := mv_och (by decide +kernel) hc_0.1 hc_n.1 hc_0.2 hc_n.2
set_option maxRecDepth 1000000 in
theorem ev_t309 : mv_evb mv_gS 68 [oe_x, oe_m, oe_t310] 400000 oe_t309 = true := by decide +kernel
theorem ok_t309 (hst : l.stackTraces = false) (h8 : r 8 = r 0 &&& nI 31) (hg : mv_in mv_gS r) : mv_OK l D cs r b0 b mv_mi 68 oe_t309 := mv_mkb hst h8 hg (mv_hs (ok_x hst h8 hg) (mv_hs (ok_m hst h8 hg) (mv_hs (ok_t310 hst h8 hg) mv_hn))) oc_t309 ev_t309
theorem oc_t308 : mv_OC 68 oe_t308 := mv_och (by decide +kernel) hc_0.1 hc_n.1 hc_0.2 hc_n.2
set_option maxRecDepth 1000000 in
theorem ev_t308 : mv_evb mv_gS 68 [oe_x, oe_m, oe_t309] 400000 oe_t308 = true := by decide +kernel
theorem ok_t308 (hst : l.stackTraces = false) (h8 : r 8 = r 0 &&& nI 31) (hg : mv_in mv_gS r) : mv_OK l D cs r b0 b mv_mi 68 oe_t308 := mv_mkb hst h8 hg (mv_hs (ok_x hst h8 hg) (mv_hs (ok_m hst h8 hg) (mv_hs (ok_t309 hst h8 hg) mv_hn))) oc_t308 ev_t308
theorem oc_t307 : mv_OC 68 oe_t307 := mv_och (by decide +kernel) hc_0.1 hc_n.1 hc_0.2 hc_n.2
set_option maxRecDepth 1000000 in
theorem ev_t307 : mv_evb mv_gS 68 [oe_x, oe_m, oe_t308] 400000 oe_t307 = true := by decide +kernel
theorem ok_t307 (hst : l.stackTraces = false) (h8 : r 8 = r 0 &&& nI 31) (hg : mv_in mv_gS r) : mv_OK l D cs r b0 b mv_mi 68 oe_t307 := mv_mkb hst h8 hg (mv_hs (ok_x hst h8 hg) (mv_hs (ok_m hst h8 hg) (mv_hs (ok_t308 hst h8 hg) mv_hn))) oc_t307 ev_t307
theorem oc_t306 : mv_OC 68 oe_t306 := mv_och (by decide +kernel) hc_0.1 hc_n.1 hc_0.2 hc_n.2
set_option maxRecDepth 1000000 in
theorem ev_t306 : mv_evb mv_gS 68 [oe_x, oe_m, oe_t307] 400000 oe_t306 = true := by decide +kernel
theorem ok_t306 (hst : l.stackTraces = false) (h8 : r 8 = r 0 &&& nI 31) (hg : mv_in mv_gS r) : mv_OK l D cs r b0 b mv_mi 68 oe_t306 := mv_mkb hst h8 hg (mv_hs (ok_x hst h8 hg) (mv_hs (ok_m hst h8 hg) (mv_hs (ok_t307 hst h8 hg) mv_hn))) oc_t306 ev_t306
theorem oc_t305 : mv_OC 68 oe_t305 := mv_och (by decide +kernel) hc_0.1 hc_n.1 hc_0.2 hc_n.2
set_option maxRecDepth 1000000 in
theorem ev_t305 : mv_evb mv_gS 68 [oe_x, oe_m, oe_t306] 400000 oe_t305 = true := by decide +kernel
theorem ok_t305 (hst : l.stackTraces = false) (h8 : r 8 = r 0 &&& nI 31) (hg : mv_in mv_gS r) : mv_OK l D cs r b0 b mv_mi 68 oe_t305 := mv_mkb hst h8 hg (mv_hs (ok_x hst h8 hg) (mv_hs (ok_m hst h8 hg) (mv_hs (ok_t306 hst h8 hg) mv_hn))) oc_t305 ev_t305
theorem oc_t304 : mv_OC 68 oe_t304 := mv_och (by decide +kernel) hc_0.1 hc_n.1 hc_0.2 hc_n.2
set_option maxRecDepth 1000000 in
theorem ev_t304 : mv_evb mv_gS 68 [oe_x, oe_m, oe_t305] 400000 oe_t304 = true := by decide +kernel
theorem ok_t304 (hst : l.stackTraces = false) (h8 : r 8 = r 0 &&& nI 31) (hg : mv_in mv_gS r) : mv_OK l D cs r b0 b mv_mi 68 oe_t304 := mv_mkb hst h8 hg (mv_hs (ok_x hst h8 hg) (mv_hs (ok_m hst h8 hg) (mv_hs (ok_t305 hst h8 hg) mv_hn))) oc_t304 ev_t304
theorem oc_t303 : mv_OC 68 oe_t303 := mv_och (by decide +kernel) hc_0.1 hc_n.1 hc_0.2 hc_n.2
set_option maxRecDepth 1000000 in
theorem ev_t303 : mv_evb mv_gS 68 [oe_x, oe_m, oe_t304] 400000 oe_t303 = true := by decide +kernel
theorem ok_t303 (hst : l.stackTraces = false) (h8 : r 8 = r 0 &&& nI 31) (hg : mv_in mv_gS r) : mv_OK l D cs r b0 b mv_mi 68 oe_t303 := mv_mkb hst h8 hg (mv_hs (ok_x hst h8 hg) (mv_hs (ok_m hst h8 hg) (mv_hs (ok_t304 hst h8 hg) mv_hn))) oc_t303 ev_t303
theorem oc_t302 : mv_OC 68 oe_t302 := mv_och (by decide +kernel) hc_0.1 hc_n.1 hc_0.2 hc_n.2
set_option maxRecDepth 1000000 in
theorem ev_t302 : mv_evb mv_gS 68 [oe_x, oe_m, oe_t303] 400000 oe_t302 = true := by decide +kernel
theorem ok_t302 (hst : l.stackTraces = false) (h8 : r 8 = r 0 &&& nI 31) (hg : mv_in mv_gS r) : mv_OK l D cs r b0 b mv_mi 68 oe_t302 := mv_mkb hst h8 hg (mv_hs (ok_x hst h8 hg) (mv_hs (ok_m hst h8 hg) (mv_hs (ok_t303 hst h8 hg) mv_hn))) oc_t302 ev_t302
theorem oc_t301 : mv_OC 68 oe_t301 := mv_och (by decide +kernel) hc_0.1 hc_n.1 hc_0.2 hc_n.2
set_option maxRecDepth 1000000 in
theorem ev_t301 : mv_evb mv_gS 68 [oe_x, oe_m, oe_t302] 400000 oe_t301 = true := by decide +kernel
theorem ok_t301 (hst : l.stackTraces = false) (h8 : r 8 = r 0 &&& nI 31) (hg : mv_in mv_gS r) : mv_OK l D cs r b0 b mv_mi 68 oe_t301 := mv_mkb hst h8 hg (mv_hs (ok_x hst h8 hg) (mv_hs (ok_m hst h8 hg) (mv_hs (ok_t302 hst h8 hg) mv_hn))) oc_t301 ev_t301
theorem oc_t300 : mv_OC 68 oe_t300 := mv_och (by decide +kernel) hc_0.1 hc_n.1 hc_0.2 hc_n.2
set_option maxRecDepth 1000000 in
theorem ev_t300 : mv_evb mv_gS 68 [oe_x, oe_m, oe_t301] 400000 oe_t300 = true := by decide +kernel
theorem ok_t300 (hst : l.stackTraces = false) (h8 : r 8 = r 0 &&& nI 31) (hg : mv_in mv_gS r) : mv_OK l D cs r b0 b mv_mi 68 oe_t300 := mv_mkb hst h8 hg (mv_hs (ok_x hst h8 hg) (mv_hs (ok_m hst h8 hg) (mv_hs (ok_t301 hst h8 hg) mv_hn))) oc_t300 ev_t300
theorem oc_t299 : mv_OC 68 oe_t299 := mv_och (by decide +kernel) hc_0.1 hc_n.1 hc_0.2 hc_n.2
set_option maxRecDepth 1000000 in
theorem ev_t299 : mv_evb mv_gS 68 [oe_x, oe_m, oe_t300] 400000 oe_t299 = true := by decide +kernel
theorem ok_t299 (hst : l.stackTraces = false) (h8 : r 8 = r 0 &&& nI 31) (hg : mv_in mv_gS r) : mv_OK l D cs r b0 b mv_mi 68 oe_t299 := mv_mkb hst h8 hg (mv_hs (ok_x hst h8 hg) (mv_hs (ok_m hst h8 hg) (mv_hs (ok_t300 hst h8 hg) mv_hn))) oc_t299 ev_t299
theorem oc_t298 : mv_OC 68 oe_t298 := mv_och (by decide +kernel) hc_0.1 hc_n.1 hc_0.2 hc_n.2
set_option maxRecDepth 1000000 in
theorem ev_t298 : mv_evb mv_gS 68 [oe_x, oe_m, oe_t299] 400000 oe_t298 = true := by decide +kernel
theorem ok_t298 (hst : l.stackTraces = false) (h8 : r 8 = r 0 &&& nI 31) (hg : mv_in mv_gS r) : mv_OK l D cs r b0 b mv_mi 68 oe_t298 := mv_mkb hst h8 hg (mv_hs (ok_x hst h8 hg) (mv_hs (ok_m hst h8 hg) (mv_hs (ok_t299 hst h8 hg) mv_hn))) oc_t298 ev_t298
theorem oc_t297 : mv_OC 68 oe_t297 := mv_och (by decide +kernel) hc_0.1 hc_n.1 hc_0.2 hc_n.2
set_option maxRecDepth 1000000 in
theorem ev_t297 : mv_evb mv_gS 68 [oe_x, oe_m, oe_t298] 400000 oe_t297 = true := by decide +kernel
theorem ok_t297 (hst : l.stackTraces = false) (h8 : r 8 = r 0 &&& nI 31) (hg : mv_in mv_gS r) : mv_OK l D cs r b0 b mv_mi 68 oe_t297 := mv_mkb hst h8 hg (mv_hs (ok_x hst h8 hg) (mv_hs (ok_m hst h8 hg) (mv_hs (ok_t298 hst h8 hg) mv_hn))) oc_t297 ev_t297
theorem oc_t296 : mv_OC 68 oe_t296 := mv_och (by decide +kernel) hc_0.1 hc_n.1 hc_0.2 hc_n.2
set_option maxRecDepth 1000000 in
theorem ev_t296 : mv_evb mv_gS 68 [oe_x, oe_m, oe_t297] 400000 oe_t296 = true := by decide +kernel
theorem ok_t296 (hst : l.stackTraces = false) (h8 : r 8 = r 0 &&& nI 31) (hg : mv_in mv_gS r) : mv_OK l D cs r b0 b mv_mi 68 oe_t296 := mv_mkb hst h8 hg (mv_hs (ok_x hst h8 hg) (mv_hs (ok_m hst h8 hg) (mv_hs (ok_t297 hst h8 hg) mv_hn))) oc_t296 ev_t296
theorem oc_t295 : mv_OC 68 oe_t295 := mv_och (by decide +kernel) hc_0.1 hc_n.1 hc_0.2 hc_n.2
set_option maxRecDepth 1000000 in
theorem ev_t295 : mv_evb mv_gS 68 [oe_x, oe_m, oe_t296] 400000 oe_t295 = true := by decide +kernel
theorem ok_t295 (hst : l.stackTraces = false) (h8 : r 8 = r 0 &&& nI 31) (hg : mv_in mv_gS r) : mv_OK l D cs r b0 b mv_mi 68 oe_t295 := mv_mkb hst h8 hg (mv_hs (ok_x hst h8 hg) (mv_hs (ok_m hst h8 hg) (mv_hs (ok_t296 hst h8 hg) mv_hn))) oc_t295 ev_t295
theorem oc_t294 : mv_OC 68 oe_t294 := mv_och (by decide +kernel) hc_0.1 hc_n.1 hc_0.2 hc_n.2
set_option maxRecDepth 1000000 in
theorem ev_t294 : mv_evb mv_gS 68 [oe_x, oe_m, oe_t295] 400000 oe_t294 = true := by decide +kernel
theorem ok_t294 (hst : l.stackTraces = false) (h8 : r 8 = r 0 &&& nI 31) (hg : mv_in mv_gS r) : mv_OK l D cs r b0 b mv_mi 68 oe_t294 := mv_mkb hst h8 hg (mv_hs (ok_x hst h8 hg) (mv_hs (ok_m hst h8 hg) (mv_hs (ok_t295 hst h8 hg) mv_hn))) oc_t294 ev_t294
theorem oc_t293 : mv_OC 68 oe_t293 := mv_och (by decide +kernel) hc_0.1 hc_n.1 hc_0.2 hc_n.2
set_option maxRecDepth 1000000 in
theorem ev_t293 : mv_evb mv_gS 68 [oe_x, oe_m, oe_t294] 400000 oe_t293 = true := by decide +kernel
theorem ok_t293 (hst : l.stackTraces = false) (h8 : r 8 = r 0 &&& nI 31) (hg : mv_in mv_gS r) : mv_OK l D cs r b0 b mv_mi 68 oe_t293 := mv_mkb hst h8 hg (mv_hs (ok_x hst h8 hg) (mv_hs (ok_m hst h8 hg) (mv_hs (ok_t294 hst h8 hg) mv_hn))) oc_t293 ev_t293
theorem oc_t292 : mv_OC 68 oe_t292 := mv_och (by decide +kernel) hc_0.1 hc_n.1 hc_0.2 hc_n.2
set_option maxRecDepth 1000000 in
theorem ev_t292 : mv_evb mv_gS 68 [oe_x, oe_m, oe_t293] 400000 oe_t292 = true := by decide +kernel
theorem ok_t292 (hst : l.stackTraces = false) (h8 : r 8 = r 0 &&& nI 31) (hg : mv_in mv_gS r) : mv_OK l D cs r b0 b mv_mi 68 oe_t292 := mv_mkb hst h8 hg (mv_hs (ok_x hst h8 hg) (mv_hs (ok_m hst h8 hg) (mv_hs (ok_t293 hst h8 hg) mv_hn))) oc_t292 ev_t292
theorem oc_t291 : mv_OC 68 oe_t291 := mv_och (by decide +kernel) hc_0.1 hc_n.1 hc_0.2 hc_n.2
set_option maxRecDepth 1000000 in
theorem ev_t291 : mv_evb mv_gS 68 [oe_x, oe_m, oe_t292] 400000 oe_t291 = true := by decide +kernel
theorem ok_t291 (hst : l.stackTraces = false) (h8 : r 8 = r 0 &&& nI 31) (hg : mv_in mv_gS r) : mv_OK l D cs r b0 b mv_mi 68 oe_t291 := mv_mkb hst h8 hg (mv_hs (ok_x hst h8 hg) (mv_hs (ok_m hst h8 hg) (mv_hs (ok_t292 hst h8 hg) mv_hn))) oc_t291 ev_t291
theorem oc_t290 : mv_OC 68 oe_t290 := mv_och (by decide +kernel) hc_0.1 hc_n.1 hc_0.2 hc_n.2
set_option maxRecDepth 1000000 in
theorem ev_t290 : mv_evb mv_gS 68 [oe_x, oe_m, oe_t291] 400000 oe_t290 = true := by decide +kernel
theorem ok_t290 (hst : l.stackTraces = false) (h8 : r 8 = r 0 &&& nI 31) (hg : mv_in mv_gS r) : mv_OK l D cs r b0 b mv_mi 68 oe_t290 := mv_mkb hst h8 hg (mv_hs (ok_x hst h8 hg) (mv_hs (ok_m hst h8 hg) (mv_hs (ok_t291 hst h8 hg) mv_hn))) oc_t290 ev_t290
theorem oc_t289 : mv_OC 68 oe_t289 := mv_och (by decide +kernel) hc_0.1 hc_n.1 hc_0.2 hc_n.2
set_option maxRecDepth 1000000 in
theorem ev_t289 : mv_evb mv_gS 68 [oe_x, oe_m, oe_t290] 400000 oe_t289 = true := by decide +kernel
theorem ok_t289 (hst : l.stackTraces = false) (h8 : r 8 = r 0 &&& nI 31) (hg : mv_in mv_gS r) : mv_OK l D cs r b0 b mv_mi 68 oe_t289 := mv_mkb hst h8 hg (mv_hs (ok_x hst h8 hg) (mv_hs (ok_m hst h8 hg) (mv_hs (ok_t290 hst h8 hg) mv_hn))) oc_t289 ev_t289
theorem oc_t288 : mv_OC 68 oe_t288 := mv_och (by decide +kernel) hc_0.1 hc_n.1 hc_0.2 hc_n.2
set_option maxRecDepth 1000000 in
theorem ev_t288 : mv_evb mv_gS 68 [oe_x, oe_m, oe_t289] 400000 oe_t288 = true := by decide +kernel
theorem ok_t288 (hst : l.stackTraces = false) (h8 : r 8 = r 0 &&& nI 31) (hg : mv_in mv_gS r) : mv_OK l D cs r b0 b mv_mi 68 oe_t288 := mv_mkb hst h8 hg (mv_hs (ok_x hst h8 hg) (mv_hs (ok_m hst h8 hg) (mv_hs (ok_t289 hst h8 hg) mv_hn))) oc_t288 ev_t288
theorem oc_t287 : mv_OC 68 oe_t287 := mv_och (by decide +kernel) hc_0.1 hc_n.1 hc_0.2 hc_n.2
set_option maxRecDepth 1000000 in
theorem ev_t287 : mv_evb mv_gS 68 [oe_x, oe_m, oe_t288] 400000 oe_t287 = true := by decide +kernel
theorem ok_t287 (hst : l.stackTraces = false) (h8 : r 8 = r 0 &&& nI 31) (hg : mv_in mv_gS r) : mv_OK l D cs r b0 b mv_mi 68 oe_t287 := mv_mkb hst h8 hg (mv_hs (ok_x hst h8 hg) (mv_hs (ok_m hst h8 hg) (mv_hs (ok_t288 hst h8 hg) mv_hn))) oc_t287 ev_t287
theorem oc_t286 : mv_OC 68 oe_t286 := mv_och (by decide +kernel) hc_0.1 hc_n.1 hc_0.2 hc_n.2
set_option maxRecDepth 1000000 in
theorem ev_t286 : mv_evb mv_gS 68 [oe_x, oe_m, oe_t287] 400000 oe_t286 = true := by decide +kernel
theorem ok_t286 (hst : l.stackTraces = false) (h8 : r 8 = r 0 &&& nI 31) (hg : mv_in mv_gS r) : mv_OK l D cs r b0 b mv_mi 68 oe_t286 := mv_mkb hst h8 hg (mv_hs (ok_x hst h8 hg) (mv_hs (ok_m hst h8 hg) (mv_hs (ok_t287 hst h8 hg) mv_hn))) oc_t286 ev_t286
theorem oc_t285 : mv_OC 68 oe_t285 := mv_och (by decide +kernel) hc_0.1 hc_n.1 hc_0.2 hc_n.2
set_option maxRecDepth 1000000 in
theorem ev_t285 : mv_evb mv_gS 68 [oe_x, oe_m, oe_t286] 400000 oe_t285 = true := by decide +kernel
theorem ok_t285 (hst : l.stackTraces = false) (h8 : r 8 = r 0 &&& nI 31) (hg : mv_in mv_gS r) : mv_OK l D cs r b0 b mv_mi 68 oe_t285 := mv_mkb hst h8 hg (mv_hs (ok_x hst h8 hg) (mv_hs (ok_m hst h8 hg) (mv_hs (ok_t286 hst h8 hg) mv_hn))) oc_t285 ev_t285
theorem oc_t284 : mv_OC 68 oe_t284 := mv_och (by decide +kernel) hc_0.1 hc_n.1 hc_0.2 hc_n.2
set_option maxRecDepth 1000000 in
theorem ev_t284 : mv_evb mv_gS 68 [oe_x, oe_m, oe_t285] 400000 oe_t284 = true := by decide +kernel
theorem ok_t284 (hst : l.stackTraces = false) (h8 : r 8 = r 0 &&& nI 31) (hg : mv_in mv_gS r) : mv_OK l D cs r b0 b mv_mi 68 oe_t284 := mv_mkb hst h8 hg (mv_hs (ok_x hst h8 hg) (mv_hs (ok_m hst h8 hg) (mv_hs (ok_t285 hst h8 hg) mv_hn))) oc_t284 ev_t284
theorem oc_t283 : mv_OC 68 oe_t283 := mv_och (by decide +kernel) hc_0.1 hc_n.1 hc_0.2 hc_n.2
set_option maxRecDepth 1000000 in
theorem ev_t283 : mv_evb mv_gS 68 [oe_x, oe_m, oe_t284] 400000 oe_t283 = true := by decide +kernel
theorem ok_t283 (hst : l.stackTraces = false) (h8 : r 8 = r 0 &&& nI 31) (hg : mv_in mv_gS r) : mv_OK l D cs r b0 b mv_mi 68 oe_t283 := mv_mkb hst h8 hg (mv_hs (ok_x hst h8 hg) (mv_hs (ok_m hst h8 hg) (mv_hs (ok_t284 hst h8 hg) mv_hn))) oc_t283 ev_t283
theorem oc_t282 : mv_OC 68 oe_t282 := mv_och (by decide +kernel) hc_0.1 hc_n.1 hc_0.2 hc_n.2
set_option maxRecDepth 1000000 in
theorem ev_t282 : mv_evb mv_gS 68 [oe_x, oe_m, oe_t283] 400000 oe_t282 = true := by decide +kernel
theorem ok_t282 (hst : l.stackTraces = false) (h8 : r 8 = r 0 &&& nI 31) (hg : mv_in mv_gS r) : mv_OK l D cs r b0 b mv_mi 68 oe_t282 := mv_mkb hst h8 hg (mv_hs (ok_x hst h8 hg) (mv_hs (ok_m hst h8 hg) (mv_hs (ok_t283 hst h8 hg) mv_hn))) oc_t282 ev_t282
theorem oc_t281 : mv_OC 68 oe_t281 := mv_och (by decide +kernel) hc_0.1 hc_n.1 hc_0.2 hc_n.2
set_option maxRecDepth 1000000 in
theorem ev_t281 : mv_evb mv_gS 68 [oe_x, oe_m, oe_t282] 400000 oe_t281 = true := by decide +kernel
theorem ok_t281 (hst : l.stackTraces = false) (h8 : r 8 = r 0 &&& nI 31) (hg : mv_in mv_gS r) : mv_OK l D cs r b0 b mv_mi 68 oe_t281 := mv_mkb hst h8 hg (mv_hs (ok_x hst h8 hg) (mv_hs (ok_m hst h8 hg) (mv_hs (ok_t282 hst h8 hg) mv_hn))) oc_t281 ev_t281
theorem oc_t280 : mv_OC 68 oe_t280 := mv_och (by decide +kernel) hc_0.1 hc_n.1 hc_0.2 hc_n.2
set_option maxRecDepth 1000000 in
theorem ev_t280 : mv_evb mv_gS 68 [oe_x, oe_m, oe_t281] 400000 oe_t280 = true := by decide +kernel
theorem ok_t280 (hst : l.stackTraces = false) (h8 : r 8 = r 0 &&& nI 31) (hg : mv_in mv_gS r) : mv_OK l D cs r b0 b mv_mi 68 oe_t280 := mv_mkb hst h8 hg (mv_hs (ok_x hst h8 hg) (mv_hs (ok_m hst h8 hg) (mv_hs (ok_t281 hst h8 hg) mv_hn))) oc_t280 ev_t280
theorem oc_t279 : mv_OC 68 oe_t279 := mv_och (by decide +kernel) hc_0.1 hc_n.1 hc_0.2 hc_n.2
set_option maxRecDepth 1000000 in
theorem ev_t279 : mv_evb mv_gS 68 [oe_x, oe_m, oe_t280] 400000 oe_t279 = true := by decide +kernel
theorem ok_t279 (hst : l.stackTraces = false) (h8 : r 8 = r 0 &&& nI 31) (hg : mv_in mv_gS r) : mv_OK l D cs r b0 b mv_mi 68 oe_t279 := mv_mkb hst h8 hg (mv_hs (ok_x hst h8 hg) (mv_hs (ok_m hst h8 hg) (mv_hs (ok_t280 hst h8 hg) mv_hn))) oc_t279 ev_t279
theorem oc_t278 : mv_OC 68 oe_t278 := mv_och (by decide +kernel) hc_0.1 hc_n.1 hc_0.2 hc_n.2
set_option maxRecDepth 1000000 in
theorem ev_t278 : mv_evb mv_gS 68 [oe_x, oe_m, oe_t279] 400000 oe_t278 = true := by decide +kernel
theorem ok_t278 (hst : l.stackTraces = false) (h8 : r 8 = r 0 &&& nI 31) (hg : mv_in mv_gS r) : mv_OK l D cs r b0 b mv_mi 68 oe_t278 := mv_mkb hst h8 hg (mv_hs (ok_x hst h8 hg) (mv_hs (ok_m hst h8 hg) (mv_hs (ok_t279 hst h8 hg) mv_hn))) oc_t278 ev_t278
theorem oc_t277 : mv_OC 68 oe_t277 := mv_och (by decide +kernel) hc_0.1 hc_n.1 hc_0.2 hc_n.2
set_option maxRecDepth 1000000 in
theorem ev_t277 : mv_evb mv_gS 68 [oe_x, oe_m, oe_t278] 400000 oe_t277 = true := by decide +kernel
theorem ok_t277 (hst : l.stackTraces = false) (h8 : r 8 = r 0 &&& nI 31) (hg : mv_in mv_gS r) : mv_OK l D cs r b0 b mv_mi 68 oe_t277 := mv_mkb hst h8 hg (mv_hs (ok_x hst h8 hg) (mv_hs (ok_m hst h8 hg) (mv_hs (ok_t278 hst h8 hg) mv_hn))) oc_t277 ev_t277
theorem oc_t276 : mv_OC 68 oe_t276 := mv_och (by decide +kernel) hc_0.1 hc_n.1 hc_0.2 hc_n.2
set_option maxRecDepth 1000000 in
theorem ev_t276 : mv_evb mv_gS 68 [oe_x, oe_m, oe_t277] 400000 oe_t276 = true := by decide +kernel
theorem ok_t276 (hst : l.stackTraces = false) (h8 : r 8 = r 0 &&& nI 31) (hg : mv_in mv_gS r) : mv_OK l D cs r b0 b mv_mi 68 oe_t276 := mv_mkb hst h8 hg (mv_hs (ok_x hst h8 hg) (mv_hs (ok_m hst h8 hg) (mv_hs (ok_t277 hst h8 hg) mv_hn))) oc_t276 ev_t276
theorem oc_t275 : mv_OC 68 oe_t275 := mv_och (by decide +kernel) hc_0.1 hc_n.1 hc_0.2 hc_n.2
set_option maxRecDepth 1000000 in
theorem ev_t275 : mv_evb mv_gS 68 [oe_x, oe_m, oe_t276] 400000 oe_t275 = true := by decide +kernel
theorem ok_t275 (hst : l.stackTraces = false) (h8 : r 8 = r 0 &&& nI 31) (hg : mv_in mv_gS r) : mv_OK l D cs r b0 b mv_mi 68 oe_t275 := mv_mkb hst h8 hg (mv_hs (ok_x hst h8 hg) (mv_hs (ok_m hst h8 hg) (mv_hs (ok_t276 hst h8 hg) mv_hn))) oc_t275 ev_t275
theorem oc_t274 : mv_OC 68 oe_t274 := mv_och (by decide +kernel) hc_0.1 hc_n.1 hc_0.2 hc_n.2
set_option maxRecDepth 1000000 in
theorem ev_t274 : mv_evb mv_gS 68 [oe_x, oe_m, oe_t275] 400000 oe_t274 = true := by decide +kernel
theorem ok_t274 (hst : l.stackTraces = false) (h8 : r 8 = r 0 &&& nI 31) (hg : mv_in mv_gS r) : mv_OK l D cs r b0 b mv_mi 68 oe_t274 := mv_mkb hst h8 hg (mv_hs (ok_x hst h8 hg) (mv_hs (ok_m hst h8 hg) (mv_hs (ok_t275 hst h8 hg) mv_hn))) oc_t274 ev_t274
theorem oc_t273 : mv_OC 68 oe_t273 := mv_och (by decide +kernel) hc_0.1 hc_n.1 hc_0.2 hc_n.2
set_option maxRecDepth 1000000 in
theorem ev_t273 : mv_evb mv_gS 68 [oe_x, oe_m, oe_t274] 400000 oe_t273 = true := by decide +kernel
theorem ok_t273 (hst : l.stackTraces = false) (h8 : r 8 = r 0 &&& nI 31) (hg : mv_in mv_gS r) : mv_OK l D cs r b0 b mv_mi 68 oe_t273 := mv_mkb hst h8 hg (mv_hs (ok_x hst h8 hg) (mv_hs (ok_m hst h8 hg) (mv_hs (ok_t274 hst h8 hg) mv_hn))) oc_t273 ev_t273
theorem oc_t272 : mv_OC 68 oe_t272 := mv_och (by decide +kernel) hc_0.1 hc_n.1 hc_0.2 hc_n.2
set_option maxRecDepth 1000000 in
theorem ev_t272 : mv_evb mv_gS 68 [oe_x, oe_m, oe_t273] 400000 oe_t272 = true := by decide +kernel
theorem ok_t272 (hst : l.stackTraces = false) (h8 : r 8 = r 0 &&& nI 31) (hg : mv_in mv_gS r) : mv_OK l D cs r b0 b mv_mi 68 oe_t272 := mv_mkb hst h8 hg (mv_hs (ok_x hst h8 hg) (mv_hs (ok_m hst h8 hg) (mv_hs (ok_t273 hst h8 hg) mv_hn))) oc_t272 ev_t272
theorem oc_t271 : mv_OC 68 oe_t271 := mv_och (by decide +kernel) hc_0.1 hc_n.1 hc_0.2 hc_n.2
set_option maxRecDepth 1000000 in
theorem ev_t271 : mv_evb mv_gS 68 [oe_x, oe_m, oe_t272] 400000 oe_t271 = true := by decide +kernel
theorem ok_t271 (hst : l.stackTraces = false) (h8 : r 8 = r 0 &&& nI 31) (hg : mv_in mv_gS r) : mv_OK l D cs r b0 b mv_mi 68 oe_t271 := mv_mkb hst h8 hg (mv_hs (ok_x hst h8 hg) (mv_hs (ok_m hst h8 hg) (mv_hs (ok_t272 hst h8 hg) mv_hn))) oc_t271 ev_t271
theorem oc_t270 : mv_OC 68 oe_t270 := mv_och (by decide +kernel) hc_0.1 hc_n.1 hc_0.2 hc_n.2
set_option maxRecDepth 1000000 in
theorem ev_t270 : mv_evb mv_gS 68 [oe_x, oe_m, oe_t271] 400000 oe_t270 = true := by decide +kernel
theorem ok_t270 (hst : l.stackTraces = false) (h8 : r 8 = r 0 &&& nI 31) (hg : mv_in mv_gS r) : mv_OK l D cs r b0 b mv_mi 68 oe_t270 := mv_mkb hst h8 hg (mv_hs (ok_x hst h8 hg) (mv_hs (ok_m hst h8 hg) (mv_hs (ok_t271 hst h8 hg) mv_hn))) oc_t270 ev_t270
theorem oc_t269 : mv_OC 68 oe_t269 := mv_och (by decide +kernel) hc_0.1 hc_n.1 hc_0.2 hc_n.2
set_option maxRecDepth 1000000 in
theorem ev_t269 : mv_evb mv_gS 68 [oe_x, oe_m, oe_t270] 400000 oe_t269 = true := by decide +kernel
theorem ok_t269 (hst : l.stackTraces = false) (h8 : r 8 = r 0 &&& nI 31) (hg : mv_in mv_gS r) : mv_OK l D cs r b0 b mv_mi 68 oe_t269 := mv_mkb hst h8 hg (mv_hs (ok_x hst h8 hg) (mv_hs (ok_m hst h8 hg) (mv_hs (ok_t270 hst h8 hg) mv_hn))) oc_t269 ev_t269
theorem oc_t268 : mv_OC 68 oe_t268 := mv_och (by decide +kernel) hc_0.1 hc_n.1 hc_0.2 hc_n.2
set_option maxRecDepth 1000000 in
theorem ev_t268 : mv_evb mv_gS 68 [oe_x, oe_m, oe_t269] 400000 oe_t268 = true := by decide +kernel
theorem ok_t268 (hst : l.stackTraces = false) (h8 : r 8 = r 0 &&& nI 31) (hg : mv_in mv_gS r) : mv_OK l D cs r b0 b mv_mi 68 oe_t268 := mv_mkb hst h8 hg (mv_hs (ok_x hst h8 hg) (mv_hs (ok_m hst h8 hg) (mv_hs (ok_t269 hst h8 hg) mv_hn))) oc_t268 ev_t268
theorem oc_t267 : mv_OC 68 oe_t267 := mv_och (by decide +kernel) hc_0.1 hc_n.1 hc_0.2 hc_n.2
set_option maxRecDepth 1000000 in
theorem ev_t267 : mv_evb mv_gS 68 [oe_x, oe_m, oe_t268] 400000 oe_t267 = true := by decide +kernel
theorem ok_t267 (hst : l.stackTraces = false) (h8 : r 8 = r 0 &&& nI 31) (hg : mv_in mv_gS r) : mv_OK l D cs r b0 b mv_mi 68 oe_t267 := mv_mkb hst h8 hg (mv_hs (ok_x hst h8 hg) (mv_hs (ok_m hst h8 hg) (mv_hs (ok_t268 hst h8 hg) mv_hn))) oc_t267 ev_t267
theorem oc_t266 : mv_OC 68 oe_t266 := mv_och (by decide +kernel) hc_0.1 hc_n.1 hc_0.2 hc_n.2
set_option maxRecDepth 1000000 in
theorem ev_t266 : mv_evb mv_gS 68 [oe_x, oe_m, oe_t267] 400000 oe_t266 = true := by decide +kernel
theorem ok_t266 (hst : l.stackTraces = false) (h8 : r 8 = r 0 &&& nI 31) (hg : mv_in mv_gS r) : mv_OK l D cs r b0 b mv_mi 68 oe_t266 := mv_mkb hst h8 hg (mv_hs (ok_x hst h8 hg) (mv_hs (ok_m hst h8 hg) (mv_hs (ok_t267 hst h8 hg) mv_hn))) oc_t266 ev_t266
theorem oc_t265 : mv_OC 68 oe_t265 := mv_och (by decide +kernel) hc_0.1 hc_n.1 hc_0.2 hc_n.2
set_option maxRecDepth 1000000 in
theorem ev_t265 : mv_evb mv_gS 68 [oe_x, oe_m, oe_t266] 400000 oe_t265 = true := by decide +kernel
theorem ok_t265 (hst : l.stackTraces = false) (h8 : r 8 = r 0 &&& nI 31) (hg : mv_in mv_gS r) : mv_OK l D cs r b0 b mv_mi 68 oe_t265 := mv_mkb hst h8 hg (mv_hs (ok_x hst h8 hg) (mv_hs (ok_m hst h8 hg) (mv_hs (ok_t266 hst h8 hg) mv_hn))) oc_t265 ev_t265
theorem oc_t264 : mv_OC 68 oe_t264 := mv_och (by decide +kernel) hc_0.1 hc_n.1 hc_0.2 hc_n.2
set_option maxRecDepth 1000000 in
theorem ev_t264 : mv_evb mv_gS 68 [oe_x, oe_m, oe_t265] 400000 oe_t264 = true := by decide +kernel
theorem ok_t264 (hst : l.stackTraces = false) (h8 : r 8 = r 0 &&& nI 31) (hg : mv_in mv_gS r) : mv_OK l D cs r b0 b mv_mi 68 oe_t264 := mv_mkb hst h8 hg (mv_hs (ok_x hst h8 hg) (mv_hs (ok_m hst h8 hg) (mv_hs (ok_t265 hst h8 hg) mv_hn))) oc_t264 ev_t264
theorem oc_t263 : mv_OC 68 oe_t263 := mv_och (by decide +kernel) hc_0.1 hc_n.1 hc_0.2 hc_n.2
set_option maxRecDepth 1000000 in
theorem ev_t263 : mv_evb mv_gS 68 [oe_x, oe_m, oe_t264] 400000 oe_t263 = true := by decide +kernel
theorem ok_t263 (hst : l.stackTraces = false) (h8 : r 8 = r 0 &&& nI 31) (hg : mv_in mv_gS r) : mv_OK l D cs r b0 b mv_mi 68 oe_t263 := mv_mkb hst h8 hg (mv_hs (ok_x hst h8 hg) (mv_hs (ok_m hst h8 hg) (mv_hs (ok_t264 hst h8 hg) mv_hn))) oc_t263 ev_t263
theorem oc_t262 : mv_OC 68 oe_t262 := mv_och (by decide +kernel) hc_0.1 hc_n.1 hc_0.2 hc_n.2
set_option maxRecDepth 1000000 in
theorem ev_t262 : mv_evb mv_gS 68 [oe_x, oe_m, oe_t263] 400000 oe_t262 = true := by decide +kernel
theorem ok_t262 (hst : l.stackTraces = false) (h8 : r 8 = r 0 &&& nI 31) (hg : mv_in mv_gS r) : mv_OK l D cs r b0 b mv_mi 68 oe_t262 := mv_mkb hst h8 hg (mv_hs (ok_x hst h8 hg) (mv_hs (ok_m hst h8 hg) (mv_hs (ok_t263 hst h8 hg) mv_hn))) oc_t262 ev_t262
theorem oc_t261 : mv_OC 68 oe_t261 := mv_och (by decide +kernel) hc_0.1 hc_n.1 hc_0.2 hc_n.2
set_option maxRecDepth 1000000 in
theorem ev_t261 : mv_evb mv_gS 68 [oe_x, oe_m, oe_t262] 400000 oe_t261 = true := by decide +kernel
theorem ok_t261 (hst : l.stackTraces = false) (h8 : r 8 = r 0 &&& nI 31) (hg : mv_in mv_gS r) : mv_OK l D cs r b0 b mv_mi 68 oe_t261 := mv_mkb hst h8 hg (mv_hs (ok_x hst h8 hg) (mv_hs (ok_m hst h8 hg) (mv_hs (ok_t262 hst h8 hg) mv_hn))) oc_t261 ev_t261
theorem oc_t260 : mv_OC 68 oe_t260 := mv_och (by decide +kernel) hc_0.1 hc_n.1 hc_0.2 hc_n.2
set_option maxRecDepth 1000000 in
theorem ev_t260 : mv_evb mv_gS 68 [oe_x, oe_m, oe_t261] 400000 oe_t260 = true := by decide +kernel
theorem ok_t260 (hst : l.stackTraces = false) (h8 : r 8 = r 0 &&& nI 31) (hg : mv_in mv_gS r) : mv_OK l D cs r b0 b mv_mi 68 oe_t260 := mv_mkb hst h8 hg (mv_hs (ok_x hst h8 hg) (mv_hs (ok_m hst h8 hg) (mv_hs (ok_t261 hst h8 hg) mv_hn))) oc_t260 ev_t260
theorem oc_t259 : mv_OC 68 oe_t259 := mv_och (by decide +kernel) hc_0.1 hc_n.1 hc_0.2 hc_n.2
set_option maxRecDepth 1000000 in
theorem ev_t259 : mv_evb mv_gS 68 [oe_x, oe_m, oe_t260] 400000 oe_t259 = true := by decide +kernel
theorem ok_t259 (hst : l.stackTraces = false) (h8 : r 8 = r 0 &&& nI 31) (hg : mv_in mv_gS r) : mv_OK l D cs r b0 b mv_mi 68 oe_t259 := mv_mkb hst h8 hg (mv_hs (ok_x hst h8 hg) (mv_hs (ok_m hst h8 hg) (mv_hs (ok_t260 hst h8 hg) mv_hn))) oc_t259 ev_t259
theorem oc_t258 : mv_OC 68 oe_t258 := mv_och (by decide +kernel) hc_0.1 hc_n.1 hc_0.2 hc_n.2
set_option maxRecDepth 1000000 in
theorem ev_t258 : mv_evb mv_gS 68 [oe_x, oe_m, oe_t259] 400000 oe_t258 = true := by decide +kernel
theorem ok_t258 (hst : l.stackTraces = false) (h8 : r 8 = r 0 &&& nI 31) (hg : mv_in mv_gS r) : mv_OK l D cs r b0 b mv_mi 68 oe_t258 := mv_mkb hst h8 hg (mv_hs (ok_x hst h8 hg) (mv_hs (ok_m hst h8 hg) (mv_hs (ok_t259 hst h8 hg) mv_hn))) oc_t258 ev_t258
theorem oc_t257 : mv_OC 68 oe_t257 := mv_och (by decide +kernel) hc_0.1 hc_n.1 hc_0.2 hc_n.2
set_option maxRecDepth 1000000 in
theorem ev_t257 : mv_evb mv_gS 68 [oe_x, oe_m, oe_t258] 400000 oe_t257 = true := by decide +kernel
theorem ok_t257 (hst : l.stackTraces = false) (h8 : r 8 = r 0 &&& nI 31) (hg : mv_in mv_gS r) : mv_OK l D cs r b0 b mv_mi 68 oe_t257 := mv_mkb hst h8 hg (mv_hs (ok_x hst h8 hg) (mv_hs (ok_m hst h8 hg) (mv_hs (ok_t258 hst h8 hg) mv_hn))) oc_t257 ev_t257
theorem oc_t256 : mv_OC 68 oe_t256 := mv_och (by decide +kernel) hc_0.1 hc_n.1 hc_0.2 hc_n.2
set_option maxRecDepth 1000000 in
theorem ev_t256 : mv_evb mv_gS 68 [oe_x, oe_m, oe_t257] 400000 oe_t256 = true := by decide +kernel
theorem ok_t256 (hst : l.stackTraces = false) (h8 : r 8 = r 0 &&& nI 31) (hg : mv_in mv_gS r) : mv_OK l D cs r b0 b mv_mi 68 oe_t256 := mv_mkb hst h8 hg (mv_hs (ok_x hst h8 hg) (mv_hs (ok_m hst h8 hg) (mv_hs (ok_t257 hst h8 hg) mv_hn))) oc_t256 ev_t256
theorem oc_t255 : mv_OC 68 oe_t255 := mv_och (by decide +kernel) hc_0.1 hc_n.1 hc_0.2 hc_n.2
set_option maxRecDepth 1000000 in
theorem ev_t255 : mv_evb mv_gS 68 [oe_x, oe_m, oe_t256] 400000 oe_t255 = true := by decide +kernel
theorem ok_t255 (hst : l.stackTraces = false) (h8 : r 8 = r 0 &&& nI 31) (hg : mv_in mv_gS r) : mv_OK l D cs r b0 b mv_mi 68 oe_t255 := mv_mkb hst h8 hg (mv_hs (ok_x hst h8 hg) (mv_hs (ok_m hst h8 hg) (mv_hs (ok_t256 hst h8 hg) mv_hn))) oc_t255 ev_t255
theorem oc_t254 : mv_OC 68 oe_t254 := mv_och (by decide +kernel) hc_0.1 hc_n.1 hc_0.2 hc_n.2
set_option maxRecDepth 1000000 in
theorem ev_t254 : mv_evb mv_gS 68 [oe_x, oe_m, oe_t255] 400000 oe_t254 = true := by decide +kernel
theorem ok_t254 (hst : l.stackTraces = false) (h8 : r 8 = r 0 &&& nI 31) (hg : mv_in mv_gS r) : mv_OK l D cs r b0 b mv_mi 68 oe_t254 := mv_mkb hst h8 hg (mv_hs (ok_x hst h8 hg) (mv_hs (ok_m hst h8 hg) (mv_hs (ok_t255 hst h8 hg) mv_hn))) oc_t254 ev_t254
theorem oc_t253 : mv_OC 68 oe_t253 := mv_och (by decide +kernel) hc_0.1 hc_n.1 hc_0.2 hc_n.2
set_option maxRecDepth 1000000 in
theorem ev_t253 : mv_evb mv_gS 68 [oe_x, oe_m, oe_t254] 400000 oe_t253 = true := by decide +kernel
theorem ok_t253 (hst : l.stackTraces = false) (h8 : r 8 = r 0 &&& nI 31) (hg : mv_in mv_gS r) : mv_OK l D cs r b0 b mv_mi 68 oe_t253 := mv_mkb hst h8 hg (mv_hs (ok_x hst h8 hg) (mv_hs (ok_m hst h8 hg) (mv_hs (ok_t254 hst h8 hg) mv_hn))) oc_t253 ev_t253
theorem oc_t252 : mv_OC 68 oe_t252 := mv_och (by decide +kernel) hc_0.1 hc_n.1 hc_0.2 hc_n.2
set_option maxRecDepth 1000000 in
theorem ev_t252 : mv_evb mv_gS 68 [oe_x, oe_m, oe_t253] 400000 oe_t252 = true := by decide +kernel
theorem ok_t252 (hst : l.stackTraces = false) (h8 : r 8 = r 0 &&& nI 31) (hg : mv_in mv_gS r) : mv_OK l D cs r b0 b mv_mi 68 oe_t252 := mv_mkb hst h8 hg (mv_hs (ok_x hst h8 hg) (mv_hs (ok_m hst h8 hg) (mv_hs (ok_t253 hst h8 hg) mv_hn))) oc_t252 ev_t252
theorem oc_t251 : mv_OC 68 oe_t251 := mv_och (by decide +kernel) hc_0.1 hc_n.1 hc_0.2 hc_n.2
set_option maxRecDepth 1000000 in
theorem ev_t251 : mv_evb mv_gS 68 [oe_x, oe_m, oe_t252] 400000 oe_t251 = true := by decide +kernel
theorem ok_t251 (hst : l.stackTraces = false) (h8 : r 8 = r 0 &&& nI 31) (hg : mv_in mv_gS r) : mv_OK l D cs r b0 b mv_mi 68 oe_t251 := mv_mkb hst h8 hg (mv_hs (ok_x hst h8 hg) (mv_hs (ok_m hst h8 hg) (mv_hs (ok_t252 hst h8 hg) mv_hn))) oc_t251 ev_t251
theorem oc_t250 : mv_OC 68 oe_t250 := mv_och (by decide +kernel) hc_0.1 hc_n.1 hc_0.2 hc_n.2
set_option maxRecDepth 1000000 in
theorem ev_t250 : mv_evb mv_gS 68 [oe_x, oe_m, oe_t251] 400000 oe_t250 = true := by decide +kernel
theorem ok_t250 (hst : l.stackTraces = false) (h8 : r 8 = r 0 &&& nI 31) (hg : mv_in mv_gS r) : mv_OK l D cs r b0 b mv_mi 68 oe_t250 := mv_mkb hst h8 hg (mv_hs (ok_x hst h8 hg) (mv_hs (ok_m hst h8 hg) (mv_hs (ok_t251 hst h8 hg) mv_hn))) oc_t250 ev_t250
theorem oc_t249 : mv_OC 68 oe_t249 := mv_och (by decide +kernel) hc_0.1 hc_n.1 hc_0.2 hc_n.2
set_option maxRecDepth 1000000 in
theorem ev_t249 : mv_evb mv_gS 68 [oe_x, oe_m, oe_t250] 400000 oe_t249 = true := by decide +kernel
theorem ok_t249 (hst : l.stackTraces = false) (h8 : r 8 = r 0 &&& nI 31) (hg : mv_in mv_gS r) : mv_OK l D cs r b0 b mv_mi 68 oe_t249 := mv_mkb hst h8 hg (mv_hs (ok_x hst h8 hg) (mv_hs (ok_m hst h8 hg) (mv_hs (ok_t250 hst h8 hg) mv_hn))) oc_t249 ev_t249
theorem oc_t248 : mv_OC 68 oe_t248 := mv_och (by decide +kernel) hc_0.1 hc_n.1 hc_0.2 hc_n.2
set_option maxRecDepth 1000000 in
theorem ev_t248 : mv_evb mv_gS 68 [oe_x, oe_m, oe_t249] 400000 oe_t248 = true := by decide +kernel
theorem ok_t248 (hst : l.stackTraces = false) (h8 : r 8 = r 0 &&& nI 31) (hg : mv_in mv_gS r) : mv_OK l D cs r b0 b mv_mi 68 oe_t248 := mv_mkb hst h8 hg (mv_hs (ok_x hst h8 hg) (mv_hs (ok_m hst h8 hg) (mv_hs (ok_t249 hst h8 hg) mv_hn))) oc_t248 ev_t248
theorem oc_t247 : mv_OC 68 oe_t247 := mv_och (by decide +kernel) hc_0.1 hc_n.1 hc_0.2 hc_n.2
set_option maxRecDepth 1000000 in
theorem ev_t247 : mv_evb mv_gS 68 [oe_x, oe_m, oe_t248] 400000 oe_t247 = true := by decide +kernel
theorem ok_t247 (hst : l.stackTraces = false) (h8 : r 8 = r 0 &&& nI 31) (hg : mv_in mv_gS r) : mv_OK l D cs r b0 b mv_mi 68 oe_t247 := mv_mkb hst h8 hg (mv_hs (ok_x hst h8 hg) (mv_hs (ok_m hst h8 hg) (mv_hs (ok_t248 hst h8 hg) mv_hn))) oc_t247 ev_t247
theorem oc_t246 : mv_OC 68 oe_t246 := mv_och (by decide +kernel) hc_0.1 hc_n.1 hc_0.2 hc_n.2
set_option maxRecDepth 1000000 in
theorem ev_t246 : mv_evb mv_gS 68 [oe_x, oe_m, oe_t247] 400000 oe_t246 = true := by decide +kernel
theorem ok_t246 (hst : l.stackTraces = false) (h8 : r 8 = r 0 &&& nI 31) (hg : mv_in mv_gS r) : mv_OK l D cs r b0 b mv_mi 68 oe_t246 := mv_mkb hst h8 hg (mv_hs (ok_x hst h8 hg) (mv_hs (ok_m hst h8 hg) (mv_hs (ok_t247 hst h8 hg) mv_hn))) oc_t246 ev_t246
theorem oc_t245 : mv_OC 68 oe_t245 := mv_och (by decide +kernel) hc_0.1 hc_n.1 hc_0.2 hc_n.2
set_option maxRecDepth 1000000 in
theorem ev_t245 : mv_evb mv_gS 68 [oe_x, oe_m, oe_t246] 400000 oe_t245 = true := by decide +kernel
theorem ok_t245 (hst : l.stackTraces = false) (h8 : r 8 = r 0 &&& nI 31) (hg : mv_in mv_gS r) : mv_OK l D cs r b0 b mv_mi 68 oe_t245 := mv_mkb hst h8 hg (mv_hs (ok_x hst h8 hg) (mv_hs (ok_m hst h8 hg) (mv_hs (ok_t246 hst h8 hg) mv_hn))) oc_t245 ev_t245
theorem oc_t244 : mv_OC 68 oe_t244 := mv_och (by decide +kernel) hc_0.1 hc_n.1 hc_0.2 hc_n.2
set_option maxRecDepth 1000000 in
theorem ev_t244 : mv_evb mv_gS 68 [oe_x, oe_m, oe_t245] 400000 oe_t244 = true := by decide +kernel
theorem ok_t244 (hst : l.stackTraces = false) (h8 : r 8 = r 0 &&& nI 31) (hg : mv_in mv_gS r) : mv_OK l D cs r b0 b mv_mi 68 oe_t244 := mv_mkb hst h8 hg (mv_hs (ok_x hst h8 hg) (mv_hs (ok_m hst h8 hg) (mv_hs (ok_t245 hst h8 hg) mv_hn))) oc_t244 ev_t244
theorem oc_t243 : mv_OC 68 oe_t243 := mv_och (by decide +kernel) hc_0.1 hc_n.1 hc_0.2 hc_n.2
set_option maxRecDepth 1000000 in
theorem ev_t243 : mv_evb mv_gS 68 [oe_x, oe_m, oe_t244] 400000 oe_t243 = true := by decide +kernel
theorem ok_t243 (hst : l.stackTraces = false) (h8 : r 8 = r 0 &&& nI 31) (hg : mv_in mv_gS r) : mv_OK l D cs r b0 b mv_mi 68 oe_t243 := mv_mkb hst h8 hg (mv_hs (ok_x hst h8 hg) (mv_hs (ok_m hst h8 hg) (mv_hs (ok_t244 hst h8 hg) mv_hn))) oc_t243 ev_t243
theorem oc_t242 : mv_OC 68 oe_t242 := mv_och (by decide +kernel) hc_0.1 hc_n.1 hc_0.2 hc_n.2
set_option maxRecDepth 1000000 in
theorem ev_t242 : mv_evb mv_gS 68 [oe_x, oe_m, oe_t243] 400000 oe_t242 = true := by decide +kernel
theorem ok_t242 (hst : l.stackTraces = false) (h8 : r 8 = r 0 &&& nI 31) (hg : mv_in mv_gS r) : mv_OK l D cs r b0 b mv_mi 68 oe_t242 := mv_mkb hst h8 hg (mv_hs (ok_x hst h8 hg) (mv_hs (ok_m hst h8 hg) (mv_hs (ok_t243 hst h8 hg) mv_hn))) oc_t242 ev_t242
theorem oc_t241 : mv_OC 68 oe_t241 := mv_och (by decide +kernel) hc_0.1 hc_n.1 hc_0.2 hc_n.2
set_option maxRecDepth 1000000 in
theorem ev_t241 : mv_evb mv_gS 68 [oe_x, oe_m, oe_t242] 400000 oe_t241 = true := by decide +kernel
theorem ok_t241 (hst : l.stackTraces = false) (h8 : r 8 = r 0 &&& nI 31) (hg : mv_in mv_gS r) : mv_OK l D cs r b0 b mv_mi 68 oe_t241 := mv_mkb hst h8 hg (mv_hs (ok_x hst h8 hg) (mv_hs (ok_m hst h8 hg) (mv_hs (ok_t242 hst h8 hg) mv_hn))) oc_t241 ev_t241
theorem oc_t240 : mv_OC 68 oe_t240 := mv_och (by decide +kernel) hc_0.1 hc_n.1 hc_0.2 hc_n.2
set_option maxRecDepth 1000000 in
theorem ev_t240 : mv_evb mv_gS 68 [oe_x, oe_m, oe_t241] 400000 oe_t240 = true := by decide +kernel
theorem ok_t240 (hst : l.stackTraces = false) (h8 : r 8 = r 0 &&& nI 31) (hg : mv_in mv_gS r) : mv_OK l D cs r b0 b mv_mi 68 oe_t240 := mv_mkb hst h8 hg (mv_hs (ok_x hst h8 hg) (mv_hs (ok_m hst h8 hg) (mv_hs (ok_t241 hst h8 hg) mv_hn))) oc_t240 ev_t240
theorem oc_t239 : mv_OC 68 oe_t239 := mv_och (by decide +kernel) hc_0.1 hc_n.1 hc_0.2 hc_n.2
set_option maxRecDepth 1000000 in
theorem ev_t239 : mv_evb mv_gS 68 [oe_x, oe_m, oe_t240] 400000 oe_t239 = true := by decide +kernel
theorem ok_t239 (hst : l.stackTraces = false) (h8 : r 8 = r 0 &&& nI 31) (hg : mv_in mv_gS r) : mv_OK l D cs r b0 b mv_mi 68 oe_t239 := mv_mkb hst h8 hg (mv_hs (ok_x hst h8 hg) (mv_hs (ok_m hst h8 hg) (mv_hs (ok_t240 hst h8 hg) mv_hn))) oc_t239 ev_t239
theorem oc_t238 : mv_OC 68 oe_t238 := mv_och (by decide +kernel) hc_0.1 hc_n.1 hc_0.2 hc_n.2
set_option maxRecDepth 1000000 in
theorem ev_t238 : mv_evb mv_gS 68 [oe_x, oe_m, oe_t239] 400000 oe_t238 = true := by decide +kernel
theorem ok_t238 (hst : l.stackTraces = false) (h8 : r 8 = r 0 &&& nI 31) (hg : mv_in mv_gS r) : mv_OK l D cs r b0 b mv_mi 68 oe_t238 := mv_mkb hst h8 hg (mv_hs (ok_x hst h8 hg) (mv_hs (ok_m hst h8 hg) (mv_hs (ok_t239 hst h8 hg) mv_hn))) oc_t238 ev_t238
theorem oc_t237 : mv_OC 68 oe_t237 := mv_och (by decide +kernel) hc_0.1 hc_n.1 hc_0.2 hc_n.2
set_option maxRecDepth 1000000 in
theorem ev_t237 : mv_evb mv_gS 68 [oe_x, oe_m, oe_t238] 400000 oe_t237 = true := by decide +kernel
theorem ok_t237 (hst : l.stackTraces = false) (h8 : r 8 = r 0 &&& nI 31) (hg : mv_in mv_gS r) : mv_OK l D cs r b0 b mv_mi 68 oe_t237 := mv_mkb hst h8 hg (mv_hs (ok_x hst h8 hg) (mv_hs (ok_m hst h8 hg) (mv_hs (ok_t238 hst h8 hg) mv_hn))) oc_t237 ev_t237
theorem oc_t236 : mv_OC 68 oe_t236 := mv_och (by decide +kernel) hc_0.1 hc_n.1 hc_0.2 hc_n.2
set_option maxRecDepth 1000000 in
theorem ev_t236 : mv_evb mv_gS 68 [oe_x, oe_m, oe_t237] 400000 oe_t236 = true := by decide +kernel
theorem ok_t236 (hst : l.stackTraces = false) (h8 : r 8 = r 0 &&& nI 31) (hg : mv_in mv_gS r) : mv_OK l D cs r b0 b mv_mi 68 oe_t236 := mv_mkb hst h8 hg (mv_hs (ok_x hst h8 hg) (mv_hs (ok_m hst h8 hg) (mv_hs (ok_t237 hst h8 hg) mv_hn))) oc_t236 ev_t236
theorem oc_t235 : mv_OC 68 oe_t235 := mv_och (by decide +kernel) hc_0.1 hc_n.1 hc_0.2 hc_n.2
set_option maxRecDepth 1000000 in
theorem ev_t235 : mv_evb mv_gS 68 [oe_x, oe_m, oe_t236] 400000 oe_t235 = true := by decide +kernel
theorem ok_t235 (hst : l.stackTraces = false) (h8 : r 8 = r 0 &&& nI 31) (hg : mv_in mv_gS r) : mv_OK l D cs r b0 b mv_mi 68 oe_t235 := mv_mkb hst h8 hg (mv_hs (ok_x hst h8 hg) (mv_hs (ok_m hst h8 hg) (mv_hs (ok_t236 hst h8 hg) mv_hn))) oc_t235 ev_t235
theorem oc_t234 : mv_OC 68 oe_t234 := mv_och (by decide +kernel) hc_0.1 hc_n.1 hc_0.2 hc_n.2
set_option maxRecDepth 1000000 in
theorem ev_t234 : mv_evb mv_gS 68 [oe_x, oe_m, oe_t235] 400000 oe_t234 = true := by decide +kernel
theorem ok_t234 (hst : l.stackTraces = false) (h8 : r 8 = r 0 &&& nI 31) (hg : mv_in mv_gS r) : mv_OK l D cs r b0 b mv_mi 68 oe_t234 := mv_mkb hst h8 hg (mv_hs (ok_x hst h8 hg) (mv_hs (ok_m hst h8 hg) (mv_hs (ok_t235 hst h8 hg) mv_hn))) oc_t234 ev_t234
theorem oc_t233 : mv_OC 68 oe_t233 := mv_och (by decide +kernel) hc_0.1 hc_n.1 hc_0.2 hc_n.2
set_option maxRecDepth 1000000 in
theorem ev_t233 : mv_evb mv_gS 68 [oe_x, oe_m, oe_t234] 400000 oe_t233 = true := by decide +kernel
theorem ok_t233 (hst : l.stackTraces = false) (h8 : r 8 = r 0 &&& nI 31) (hg : mv_in mv_gS r) : mv_OK l D cs r b0 b mv_mi 68 oe_t233 := mv_mkb hst h8 hg (mv_hs (ok_x hst h8 hg) (mv_hs (ok_m hst h8 hg) (mv_hs (ok_t234 hst h8 hg) mv_hn))) oc_t233 ev_t233
theorem oc_t232 : mv_OC 68 oe_t232 := mv_och (by decide +kernel) hc_0.1 hc_n.1 hc_0.2 hc_n.2
set_option maxRecDepth 1000000 in
theorem ev_t232 : mv_evb mv_gS 68 [oe_x, oe_m, oe_t233] 400000 oe_t232 = true := by decide +kernel
theorem ok_t232 (hst : l.stackTraces = false) (h8 : r 8 = r 0 &&& nI 31) (hg : mv_in mv_gS r) : mv_OK l D cs r b0 b mv_mi 68 oe_t232 := mv_mkb hst h8 hg (mv_hs (ok_x hst h8 hg) (mv_hs (ok_m hst h8 hg) (mv_hs (ok_t233 hst h8 hg) mv_hn))) oc_t232 ev_t232
theorem oc_t231 : mv_OC 68 oe_t231 := mv_och (by decide +kernel) hc_0.1 hc_n.1 hc_0.2 hc_n.2
set_option maxRecDepth 1000000 in
theorem ev_t231 : mv_evb mv_gS 68 [oe_x, oe_m, oe_t232] 400000 oe_t231 = true := by decide +kernel
theorem ok_t231 (hst : l.stackTraces = false) (h8 : r 8 = r 0 &&& nI 31) (hg : mv_in mv_gS r) : mv_OK l D cs r b0 b mv_mi 68 oe_t231 := mv_mkb hst h8 hg (mv_hs (ok_x hst h8 hg) (mv_hs (ok_m hst h8 hg) (mv_hs (ok_t232 hst h8 hg) mv_hn))) oc_t231 ev_t231
theorem oc_t230 : mv_OC 68 oe_t230 := mv_och (by decide +kernel) hc_0.1 hc_n.1 hc_0.2 hc_n.2
set_option maxRecDepth 1000000 in
theorem ev_t230 : mv_evb mv_gS 68 [oe_x, oe_m, oe_t231] 400000 oe_t230 = true := by decide +kernel
theorem ok_t230 (hst : l.stackTraces = false) (h8 : r 8 = r 0 &&& nI 31) (hg : mv_in mv_gS r) : mv_OK l D cs r b0 b mv_mi 68 oe_t230 := mv_mkb hst h8 hg (mv_hs (ok_x hst h8 hg) (mv_hs (ok_m hst h8 hg) (mv_hs (ok_t231 hst h8 hg) mv_hn))) oc_t230 ev_t230
theorem oc_t229 : mv_OC 68 oe_t229 := mv_och (by decide +kernel) hc_0.1 hc_n.1 hc_0.2 hc_n.2
set_option maxRecDepth 1000000 in
theorem ev_t229 : mv_evb mv_gS 68 [oe_x, oe_m, oe_t230] 400000 oe_t229 = true := by decide +kernel
theorem ok_t229 (hst : l.stackTraces = false) (h8 : r 8 = r 0 &&& nI 31) (hg : mv_in mv_gS r) : mv_OK l D cs r b0 b mv_mi 68 oe_t229 := mv_mkb hst h8 hg (mv_hs (ok_x hst h8 hg) (mv_hs (ok_m hst h8 hg) (mv_hs (ok_t230 hst h8 hg) mv_hn))) oc_t229 ev_t229
theorem oc_t228 : mv_OC 68 oe_t228 := mv_och (by decide +kernel) hc_0.1 hc_n.1 hc_0.2 hc_n.2
set_option maxRecDepth 1000000 in
theorem ev_t228 : mv_evb mv_gS 68 [oe_x, oe_m, oe_t229] 400000 oe_t228 = true := by decide +kernel
theorem ok_t228 (hst : l.stackTraces = false) (h8 : r 8 = r 0 &&& nI 31) (hg : mv_in mv_gS r) : mv_OK l D cs r b0 b mv_mi 68 oe_t228 := mv_mkb hst h8 hg (mv_hs (ok_x hst h8 hg) (mv_hs (ok_m hst h8 hg) (mv_hs (ok_t229 hst h8 hg) mv_hn))) oc_t228 ev_t228
theorem oc_t227 : mv_OC 68 oe_t227 := mv_och (by decide +kernel) hc_0.1 hc_n.1 hc_0.2 hc_n.2
set_option maxRecDepth 1000000 in
theorem ev_t227 : mv_evb mv_gS 68 [oe_x, oe_m, oe_t228] 400000 oe_t227 = true := by decide +kernel
theorem ok_t227 (hst : l.stackTraces = false) (h8 : r 8 = r 0 &&& nI 31) (hg : mv_in mv_gS r) : mv_OK l D cs r b0 b mv_mi 68 oe_t227 := mv_mkb hst h8 hg (mv_hs (ok_x hst h8 hg) (mv_hs (ok_m hst h8 hg) (mv_hs (ok_t228 hst h8 hg) mv_hn))) oc_t227 ev_t227
theorem oc_t226 : mv_OC 68 oe_t226 := mv_och (by decide +kernel) hc_0.1 hc_n.1 hc_0.2 hc_n.2
set_option maxRecDepth 1000000 in
theorem ev_t226 : mv_evb mv_gS 68 [oe_x, oe_m, oe_t227] 400000 oe_t226 = true := by decide +kernel
theorem ok_t226 (hst : l.stackTraces = false) (h8 : r 8 = r 0 &&& nI 31) (hg : mv_in mv_gS r) : mv_OK l D cs r b0 b mv_mi 68 oe_t226 := mv_mkb hst h8 hg (mv_hs (ok_x hst h8 hg) (mv_hs (ok_m hst h8 hg) (mv_hs (ok_t227 hst h8 hg) mv_hn))) oc_t226 ev_t226
theorem oc_t225 : mv_OC 68 oe_t225 := mv_och (by decide +kernel) hc_0.1 hc_n.1 hc_0.2 hc_n.2
set_option maxRecDepth 1000000 in
theorem ev_t225 : mv_evb mv_gS 68 [oe_x, oe_m, oe_t226] 400000 oe_t225 = true := by decide +kernel
theorem ok_t225 (hst : l.stackTraces = false) (h8 : r 8 = r 0 &&& nI 31) (hg : mv_in mv_gS r) : mv_OK l D cs r b0 b mv_mi 68 oe_t225 := mv_mkb hst h8 hg (mv_hs (ok_x hst h8 hg) (mv_hs (ok_m hst h8 hg) (mv_hs (ok_t226 hst h8 hg) mv_hn))) oc_t225 ev_t225
theorem oc_t224 : mv_OC 68 oe_t224 := mv_och (by decide +kernel) hc_0.1 hc_n.1 hc_0.2 hc_n.2
set_option maxRecDepth 1000000 in
theorem ev_t224 : mv_evb mv_gS 68 [oe_x, oe_m, oe_t225] 400000 oe_t224 = true := by decide +kernel
theorem ok_t224 (hst : l.stackTraces = false) (h8 : r 8 = r 0 &&& nI 31) (hg : mv_in mv_gS r) : mv_OK l D cs r b0 b mv_mi 68 oe_t224 := mv_mkb hst h8 hg (mv_hs (ok_x hst h8 hg) (mv_hs (ok_m hst h8 hg) (mv_hs (ok_t225 hst h8 hg) mv_hn))) oc_t224 ev_t224
theorem oc_t223 : mv_OC 68 oe_t223 := mv_och (by decide +kernel) hc_0.1 hc_n.1 hc_0.2 hc_n.2
set_option maxRecDepth 1000000 in
theorem ev_t223 : mv_evb mv_gS 68 [oe_x, oe_m, oe_t224] 400000 oe_t223 = true := by decide +kernel
theorem ok_t223 (hst : l.stackTraces = false) (h8 : r 8 = r 0 &&& nI 31) (hg : mv_in mv_gS r) : mv_OK l D cs r b0 b mv_mi 68 oe_t223 := mv_mkb hst h8 hg (mv_hs (ok_x hst h8 hg) (mv_hs (ok_m hst h8 hg) (mv_hs (ok_t224 hst h8 hg) mv_hn))) oc_t223 ev_t223
theorem oc_t222 : mv_OC 68 oe_t222 := mv_och (by decide +kernel) hc_0.1 hc_n.1 hc_0.2 hc_n.2
set_option maxRecDepth 1000000 in
theorem ev_t222 : mv_evb mv_gS 68 [oe_x, oe_m, oe_t223] 400000 oe_t222 = true := by decide +kernel
theorem ok_t222 (hst : l.stackTraces = false) (h8 : r 8 = r 0 &&& nI 31) (hg : mv_in mv_gS r) : mv_OK l D cs r b0 b mv_mi 68 oe_t222 := mv_mkb hst h8 hg (mv_hs (ok_x hst h8 hg) (mv_hs (ok_m hst h8 hg) (mv_hs (ok_t223 hst h8 hg) mv_hn))) oc_t222 ev_t222
theorem oc_t221 : mv_OC 68 oe_t221 := mv_och (by decide +kernel) hc_0.1 hc_n.1 hc_0.2 hc_n.2
set_option maxRecDepth 1000000 in
theorem ev_t221 : mv_evb mv_gS 68 [oe_x, oe_m, oe_t222] 400000 oe_t221 = true := by decide +kernel
theorem ok_t221 (hst : l.stackTraces = false) (h8 : r 8 = r 0 &&& nI 31) (hg : mv_in mv_gS r) : mv_OK l D cs r b0 b mv_mi 68 oe_t221 := mv_mkb hst h8 hg (mv_hs (ok_x hst h8 hg) (mv_hs (ok_m hst h8 hg) (mv_hs (ok_t222 hst h8 hg) mv_hn))) oc_t221 ev_t221
theorem oc_t220 : mv_OC 68 oe_t220 := mv_och (by decide +kernel) hc_0.1 hc_n.1 hc_0.2 hc_n.2
set_option maxRecDepth 1000000 in
theorem ev_t220 : mv_evb mv_gS 68 [oe_x, oe_m, oe_t221] 400000 oe_t220 = true := by decide +kernel
theorem ok_t220 (hst : l.stackTraces = false) (h8 : r 8 = r 0 &&& nI 31) (hg : mv_in mv_gS r) : mv_OK l D cs r b0 b mv_mi 68 oe_t220 := mv_mkb hst h8 hg (mv_hs (ok_x hst h8 hg) (mv_hs (ok_m hst h8 hg) (mv_hs (ok_t221 hst h8 hg) mv_hn))) oc_t220 ev_t220
theorem oc_t219 : mv_OC 68 oe_t219 := mv_och (by decide +kernel) hc_0.1 hc_n.1 hc_0.2 hc_n.2
set_option maxRecDepth 1000000 in
theorem ev_t219 : mv_evb mv_gS 68 [oe_x, oe_m, oe_t220] 400000 oe_t219 = true := by decide +kernel
theorem ok_t219 (hst : l.stackTraces = false) (h8 : r 8 = r 0 &&& nI 31) (hg : mv_in mv_gS r) : mv_OK l D cs r b0 b mv_mi 68 oe_t219 := mv_mkb hst h8 hg (mv_hs (ok_x hst h8 hg) (mv_hs (ok_m hst h8 hg) (mv_hs (ok_t220 hst h8 hg) mv_hn))) oc_t219 ev_t219
theorem oc_t218 : mv_OC 68 oe_t218 := mv_och (by decide +kernel) hc_0.1 hc_n.1 hc_0.2 hc_n.2
set_option maxRecDepth 1000000 in
theorem ev_t218 : mv_evb mv_gS 68 [oe_x, oe_m, oe_t219] 400000 oe_t218 = true := by decide +kernel
theorem ok_t218 (hst : l.stackTraces = false) (h8 : r 8 = r 0 &&& nI 31) (hg : mv_in mv_gS r) : mv_OK l D cs r b0 b mv_mi 68 oe_t218 := mv_mkb hst h8 hg (mv_hs (ok_x hst h8 hg) (mv_hs (ok_m hst h8 hg) (mv_hs (ok_t219 hst h8 hg) mv_hn))) oc_t218 ev_t218
theorem oc_t217 : mv_OC 68 oe_t217 := mv_och (by decide +kernel) hc_0.1 hc_n.1 hc_0.2 hc_n.2
set_option maxRecDepth 1000000 in
theorem ev_t217 : mv_evb mv_gS 68 [oe_x, oe_m, oe_t218] 400000 oe_t217 = true := by decide +kernel
theorem ok_t217 (hst : l.stackTraces = false) (h8 : r 8 = r 0 &&& nI 31) (hg : mv_in mv_gS r) : mv_OK l D cs r b0 b mv_mi 68 oe_t217 := mv_mkb hst h8 hg (mv_hs (ok_x hst h8 hg) (mv_hs (ok_m hst h8 hg) (mv_hs (ok_t218 hst h8 hg) mv_hn))) oc_t217 ev_t217
theorem oc_t216 : mv_OC 68 oe_t216 := mv_och (by decide +kernel) hc_0.1 hc_n.1 hc_0.2 hc_n.2
set_option maxRecDepth 1000000 in
theorem ev_t216 : mv_evb mv_gS 68 [oe_x, oe_m, oe_t217] 400000 oe_t216 = true := by decide +kernel
theorem ok_t216 (hst : l.stackTraces = false) (h8 : r 8 = r 0 &&& nI 31) (hg : mv_in mv_gS r) : mv_OK l D cs r b0 b mv_mi 68 oe_t216 := mv_mkb hst h8 hg (mv_hs (ok_x hst h8 hg) (mv_hs (ok_m hst h8 hg) (mv_hs (ok_t217 hst h8 hg) mv_hn))) oc_t216 ev_t216
theorem oc_t215 : mv_OC 68 oe_t215 := mv_och (by decide +kernel) hc_0.1 hc_n.1 hc_0.2 hc_n.2
set_option maxRecDepth 1000000 in
theorem ev_t215 : mv_evb mv_gS 68 [oe_x, oe_m, oe_t216] 400000 oe_t215 = true := by decide +kernel
theorem ok_t215 (hst : l.stackTraces = false) (h8 : r 8 = r 0 &&& nI 31) (hg : mv_in mv_gS r) : mv_OK l D cs r b0 b mv_mi 68 oe_t215 := mv_mkb hst h8 hg (mv_hs (ok_x hst h8 hg) (mv_hs (ok_m hst h8 hg) (mv_hs (ok_t216 hst h8 hg) mv_hn))) oc_t215 ev_t215
theorem oc_t214 : mv_OC 68 oe_t214 := mv_och (by decide +kernel) hc_0.1 hc_n.1 hc_0.2 hc_n.2
set_option maxRecDepth 1000000 in
theorem ev_t214 : mv_evb mv_gS 68 [oe_x, oe_m, oe_t215] 400000 oe_t214 = true := by decide +kernel
theorem ok_t214 (hst : l.stackTraces = false) (h8 : r 8 = r 0 &&& nI 31) (hg : mv_in mv_gS r) : mv_OK l D cs r b0 b mv_mi 68 oe_t214 := mv_mkb hst h8 hg (mv_hs (ok_x hst h8 hg) (mv_hs (ok_m hst h8 hg) (mv_hs (ok_t215 hst h8 hg) mv_hn))) oc_t214 ev_t214
theorem oc_t213 : mv_OC 68 oe_t213 := mv_och (by decide +kernel) hc_0.1 hc_n.1 hc_0.2 hc_n.2
set_option maxRecDepth 1000000 in
theorem ev_t213 : mv_evb mv_gS 68 [oe_x, oe_m, oe_t214] 400000 oe_t213 = true := by decide +kernel
theorem ok_t213 (hst : l.stackTraces = false) (h8 : r 8 = r 0 &&& nI 31) (hg : mv_in mv_gS r) : mv_OK l D cs r b0 b mv_mi 68 oe_t213 := mv_mkb hst h8 hg (mv_hs (ok_x hst h8 hg) (mv_hs (ok_m hst h8 hg) (mv_hs (ok_t214 hst h8 hg) mv_hn))) oc_t213 ev_t213
theorem oc_t212 : mv_OC 68 oe_t212 := mv_och (by decide +kernel) hc_0.1 hc_n.1 hc_0.2 hc_n.2
set_option maxRecDepth 1000000 in
theorem ev_t212 : mv_evb mv_gS 68 [oe_x, oe_m, oe_t213] 400000 oe_t212 = true := by decide +kernel
theorem ok_t212 (hst : l.stackTraces = false) (h8 : r 8 = r 0 &&& nI 31) (hg : mv_in mv_gS r) : mv_OK l D cs r b0 b mv_mi 68 oe_t212 := mv_mkb hst h8 hg (mv_hs (ok_x hst h8 hg) (mv_hs (ok_m hst h8 hg) (mv_hs (ok_t213 hst h8 hg) mv_hn))) oc_t212 ev_t212
theorem oc_t211 : mv_OC 68 oe_t211 := mv_och (by decide +kernel) hc_0.1 hc_n.1 hc_0.2 hc_n.2
set_option maxRecDepth 1000000 in
theorem ev_t211 : mv_evb mv_gS 68 [oe_x, oe_m, oe_t212] 400000 oe_t211 = true := by decide +kernel
theorem ok_t211 (hst : l.stackTraces = false) (h8 : r 8 = r 0 &&& nI 31) (hg : mv_in mv_gS r) : mv_OK l D cs r b0 b mv_mi 68 oe_t211 := mv_mkb hst h8 hg (mv_hs (ok_x hst h8 hg) (mv_hs (ok_m hst h8 hg) (mv_hs (ok_t212 hst h8 hg) mv_hn))) oc_t211 ev_t211
theorem oc_t210 : mv_OC 68 oe_t210 := mv_och (by decide +kernel) hc_0.1 hc_n.1 hc_0.2 hc_n.2
set_option maxRecDepth 1000000 in
theorem ev_t210 : mv_evb mv_gS 68 [oe_x, oe_m, oe_t211] 400000 oe_t210 = true := by decide +kernel
theorem ok_t210 (hst : l.stackTraces = false) (h8 : r 8 = r 0 &&& nI 31) (hg : mv_in mv_gS r) : mv_OK l D cs r b0 b mv_mi 68 oe_t210 := mv_mkb hst h8 hg (mv_hs (ok_x hst h8 hg) (mv_hs (ok_m hst h8 hg) (mv_hs (ok_t211 hst h8 hg) mv_hn))) oc_t210 ev_t210
theorem oc_t209 : mv_OC 68 oe_t209 := mv_och (by decide +kernel) hc_0.1 hc_n.1 hc_0.2 hc_n.2
set_option maxRecDepth 1000000 in
theorem ev_t209 : mv_evb mv_gS 68 [oe_x, oe_m, oe_t210] 400000 oe_t209 = true := by decide +kernel
theorem ok_t209 (hst : l.stackTraces = false) (h8 : r 8 = r 0 &&& nI 31) (hg : mv_in mv_gS r) : mv_OK l D cs r b0 b mv_mi 68 oe_t209 := mv_mkb hst h8 hg (mv_hs (ok_x hst h8 hg) (mv_hs (ok_m hst h8 hg) (mv_hs (ok_t210 hst h8 hg) mv_hn))) oc_t209 ev_t209
theorem oc_t208 : mv_OC 68 oe_t208 := mv_och (by decide +kernel) hc_0.1 hc_n.1 hc_0.2 hc_n.2
set_option maxRecDepth 1000000 in
theorem ev_t208 : mv_evb mv_gS 68 [oe_x, oe_m, oe_t209] 400000 oe_t208 = true := by decide +kernel
theorem ok_t208 (hst : l.stackTraces = false) (h8 : r 8 = r 0 &&& nI 31) (hg : mv_in mv_gS r) : mv_OK l D cs r b0 b mv_mi 68 oe_t208 := mv_mkb hst h8 hg (mv_hs (ok_x hst h8 hg) (mv_hs (ok_m hst h8 hg) (mv_hs (ok_t209 hst h8 hg) mv_hn))) oc_t208 ev_t208
theorem oc_t207 : mv_OC 68 oe_t207 := mv_och (by decide +kernel) hc_0.1 hc_n.1 hc_0.2 hc_n.2
set_option maxRecDepth 1000000 in
theorem ev_t207 : mv_evb mv_gS 68 [oe_x, oe_m, oe_t208] 400000 oe_t207 = true := by decide +kernel
theorem ok_t207 (hst : l.stackTraces = false) (h8 : r 8 = r 0 &&& nI 31) (hg : mv_in mv_gS r) : mv_OK l D cs r b0 b mv_mi 68 oe_t207 := mv_mkb hst h8 hg (mv_hs (ok_x hst h8 hg) (mv_hs (ok_m hst h8 hg) (mv_hs (ok_t208 hst h8 hg) mv_hn))) oc_t207 ev_t207
theorem oc_t206 : mv_OC 68 oe_t206 := mv_och (by decide +kernel) hc_0.1 hc_n.1 hc_0.2 hc_n.2
set_option maxRecDepth 1000000 in
theorem ev_t206 : mv_evb mv_gS 68 [oe_x, oe_m, oe_t207] 400000 oe_t206 = true := by decide +kernel
theorem ok_t206 (hst : l.stackTraces = false) (h8 : r 8 = r 0 &&& nI 31) (hg : mv_in mv_gS r) : mv_OK l D cs r b0 b mv_mi 68 oe_t206 := mv_mkb hst h8 hg (mv_hs (ok_x hst h8 hg) (mv_hs (ok_m hst h8 hg) (mv_hs (ok_t207 hst h8 hg) mv_hn))) oc_t206 ev_t206
theorem oc_t205 : mv_OC 68 oe_t205 := mv_och (by decide +kernel) hc_0.1 hc_n.1 hc_0.2 hc_n.2
set_option maxRecDepth 1000000 in
theorem ev_t205 : mv_evb mv_gS 68 [oe_x, oe_m, oe_t206] 400000 oe_t205 = true := by decide +kernel
theorem ok_t205 (hst : l.stackTraces = false) (h8 : r 8 = r 0 &&& nI 31) (hg : mv_in mv_gS r) : mv_OK l D cs r b0 b mv_mi 68 oe_t205 := mv_mkb hst h8 hg (mv_hs (ok_x hst h8 hg) (mv_hs (ok_m hst h8 hg) (mv_hs (ok_t206 hst h8 hg) mv_hn))) oc_t205 ev_t205
theorem oc_t204 : mv_OC 68 oe_t204 := mv_och (by decide +kernel) hc_0.1 hc_n.1 hc_0.2 hc_n.2
set_option maxRecDepth 1000000 in
theorem ev_t204 : mv_evb mv_gS 68 [oe_x, oe_m, oe_t205] 400000 oe_t204 = true := by decide +kernel
theorem ok_t204 (hst : l.stackTraces = false) (h8 : r 8 = r 0 &&& nI 31) (hg : mv_in mv_gS r) : mv_OK l D cs r b0 b mv_mi 68 oe_t204 := mv_mkb hst h8 hg (mv_hs (ok_x hst h8 hg) (mv_hs (ok_m hst h8 hg) (mv_hs (ok_t205 hst h8 hg) mv_hn))) oc_t204 ev_t204
theorem oc_t203 : mv_OC 68 oe_t203 := mv_och (by decide +kernel) hc_0.1 hc_n.1 hc_0.2 hc_n.2
set_option maxRecDepth 1000000 in
theorem ev_t203 : mv_evb mv_gS 68 [oe_x, oe_m, oe_t204] 400000 oe_t203 = true := by decide +kernel
theorem ok_t203 (hst : l.stackTraces = false) (h8 : r 8 = r 0 &&& nI 31) (hg : mv_in mv_gS r) : mv_OK l D cs r b0 b mv_mi 68 oe_t203 := mv_mkb hst h8 hg (mv_hs (ok_x hst h8 hg) (mv_hs (ok_m hst h8 hg) (mv_hs (ok_t204 hst h8 hg) mv_hn))) oc_t203 ev_t203
theorem oc_t202 : mv_OC 68 oe_t202 := mv_och (by decide +kernel) hc_0.1 hc_n.1 hc_0.2 hc_n.2
set_option maxRecDepth 1000000 in
theorem ev_t202 : mv_evb mv_gS 68 [oe_x, oe_m, oe_t203] 400000 oe_t202 = true := by decide +kernel
theorem ok_t202 (hst : l.stackTraces = false) (h8 : r 8 = r 0 &&& nI 31) (hg : mv_in mv_gS r) : mv_OK l D cs r b0 b mv_mi 68 oe_t202 := mv_mkb hst h8 hg (mv_hs (ok_x hst h8 hg) (mv_hs (ok_m hst h8 hg) (mv_hs (ok_t203 hst h8 hg) mv_hn))) oc_t202 ev_t202
theorem oc_t201 : mv_OC 68 oe_t201 := mv_och (by decide +kernel) hc_0.1 hc_n.1 hc_0.2 hc_n.2
set_option maxRecDepth 1000000 in
theorem ev_t201 : mv_evb mv_gS 68 [oe_x, oe_m, oe_t202] 400000 oe_t201 = true := by decide +kernel
theorem ok_t201 (hst : l.stackTraces = false) (h8 : r 8 = r 0 &&& nI 31) (hg : mv_in mv_gS r) : mv_OK l D cs r b0 b mv_mi 68 oe_t201 := mv_mkb hst h8 hg (mv_hs (ok_x hst h8 hg) (mv_hs (ok_m hst h8 hg) (mv_hs (ok_t202 hst h8 hg) mv_hn))) oc_t201 ev_t201
theorem oc_t200 : mv_OC 68 oe_t200 := mv_och (by decide +kernel) hc_0.1 hc_n.1 hc_0.2 hc_n.2
set_option maxRecDepth 1000000 in
theorem ev_t200 : mv_evb mv_gS 68 [oe_x, oe_m, oe_t201] 400000 oe_t200 = true := by decide +kernel
theorem ok_t200 (hst : l.stackTraces = false) (h8 : r 8 = r 0 &&& nI 31) (hg : mv_in mv_gS r) : mv_OK l D cs r b0 b mv_mi 68 oe_t200 := mv_mkb hst h8 hg (mv_hs (ok_x hst h8 hg) (mv_hs (ok_m hst h8 hg) (mv_hs (ok_t201 hst h8 hg) mv_hn))) oc_t200 ev_t200
theorem oc_t199 : mv_OC 68 oe_t199 := mv_och (by decide +kernel) hc_0.1 hc_n.1 hc_0.2 hc_n.2
set_option maxRecDepth 1000000 in
theorem ev_t199 : mv_evb mv_gS 68 [oe_x, oe_m, oe_t200] 400000 oe_t199 = true := by decide +kernel
theorem ok_t199 (hst : l.stackTraces = false) (h8 : r 8 = r 0 &&& nI 31) (hg : mv_in mv_gS r) : mv_OK l D cs r b0 b mv_mi 68 oe_t199 := mv_mkb hst h8 hg (mv_hs (ok_x hst h8 hg) (mv_hs (ok_m hst h8 hg) (mv_hs (ok_t200 hst h8 hg) mv_hn))) oc_t199 ev_t199
theorem oc_t198 : mv_OC 68 oe_t198 := mv_och (by decide +kernel) hc_0.1 hc_n.1 hc_0.2 hc_n.2
set_option maxRecDepth 1000000 in
theorem ev_t198 : mv_evb mv_gS 68 [oe_x, oe_m, oe_t199] 400000 oe_t198 = true := by decide +kernel
theorem ok_t198 (hst : l.stackTraces = false) (h8 : r 8 = r 0 &&& nI 31) (hg : mv_in mv_gS r) : mv_OK l D cs r b0 b mv_mi 68 oe_t198 := mv_mkb hst h8 hg (mv_hs (ok_x hst h8 hg) (mv_hs (ok_m hst h8 hg) (mv_hs (ok_t199 hst h8 hg) mv_hn))) oc_t198 ev_t198
theorem oc_t197 : mv_OC 68 oe_t197 := mv_och (by decide +kernel) hc_0.1 hc_n.1 hc_0.2 hc_n.2
set_option maxRecDepth 1000000 in
theorem ev_t197 : mv_evb mv_gS 68 [oe_x, oe_m, oe_t198] 400000 oe_t197 = true := by decide +kernel
theorem ok_t197 (hst : l.stackTraces = false) (h8 : r 8 = r 0 &&& nI 31) (hg : mv_in mv_gS r) : mv_OK l D cs r b0 b mv_mi 68 oe_t197 := mv_mkb hst h8 hg (mv_hs (ok_x hst h8 hg) (mv_hs (ok_m hst h8 hg) (mv_hs (ok_t198 hst h8 hg) mv_hn))) oc_t197 ev_t197
theorem oc_t196 : mv_OC 68 oe_t196 := mv_och (by decide +kernel) hc_0.1 hc_n.1 hc_0.2 hc_n.2
set_option maxRecDepth 1000000 in
theorem ev_t196 : mv_evb mv_gS 68 [oe_x, oe_m, oe_t197] 400000 oe_t196 = true := by decide +kernel
theorem ok_t196 (hst : l.stackTraces = false) (h8 : r 8 = r 0 &&& nI 31) (hg : mv_in mv_gS r) : mv_OK l D cs r b0 b mv_mi 68 oe_t196 := mv_mkb hst h8 hg (mv_hs (ok_x hst h8 hg) (mv_hs (ok_m hst h8 hg) (mv_hs (ok_t197 hst h8 hg) mv_hn))) oc_t196 ev_t196
theorem oc_t195 : mv_OC 68 oe_t195 := mv_och (by decide +kernel) hc_0.1 hc_n.1 hc_0.2 hc_n.2
set_option maxRecDepth 1000000 in
theorem ev_t195 : mv_evb mv_gS 68 [oe_x, oe_m, oe_t196] 400000 oe_t195 = true := by decide +kernel
theorem ok_t195 (hst : l.stackTraces = false) (h8 : r 8 = r 0 &&& nI 31) (hg : mv_in mv_gS r) : mv_OK l D cs r b0 b mv_mi 68 oe_t195 := mv_mkb hst h8 hg (mv_hs (ok_x hst h8 hg) (mv_hs (ok_m hst h8 hg) (mv_hs (ok_t196 hst h8 hg) mv_hn))) oc_t195 ev_t195
theorem oc_t194 : mv_OC 68 oe_t194 := mv_och (by decide +kernel) hc_0.1 hc_n.1 hc_0.2 hc_n.2
set_option maxRecDepth 1000000 in
theorem ev_t194 : mv_evb mv_gS 68 [oe_x, oe_m, oe_t195] 400000 oe_t194 = true := by decide +kernel
theorem ok_t194 (hst : l.stackTraces = false) (h8 : r 8 = r 0 &&& nI 31) (hg : mv_in mv_gS r) : mv_OK l D cs r b0 b mv_mi 68 oe_t194 := mv_mkb hst h8 hg (mv_hs (ok_x hst h8 hg) (mv_hs (ok_m hst h8 hg) (mv_hs (ok_t195 hst h8 hg) mv_hn))) oc_t194 ev_t194
theorem oc_t193 : mv_OC 68 oe_t193 := mv_och (by decide +kernel) hc_0.1 hc_n.1 hc_0.2 hc_n.2
set_option maxRecDepth 1000000 in
theorem ev_t193 : mv_evb mv_gS 68 [oe_x, oe_m, oe_t194] 400000 oe_t193 = true := by decide +kernel
theorem ok_t193 (hst : l.stackTraces = false) (h8 : r 8 = r 0 &&& nI 31) (hg : mv_in mv_gS r) : mv_OK l D cs r b0 b mv_mi 68 oe_t193 := mv_mkb hst h8 hg (mv_hs (ok_x hst h8 hg) (mv_hs (ok_m hst h8 hg) (mv_hs (ok_t194 hst h8 hg) mv_hn))) oc_t193 ev_t193
end
