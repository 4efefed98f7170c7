/-! ===== the whole run: printed by a program ===== -/
section
variable {l : Launch} {D : va_G} {cs : ClassId × ClassId × ClassId} {r : Nat → Int32} {b0 b : Nat}
set_option maxRecDepth 1000000 in
theorem ev_law : mv_evb0 mv_gS 68 [oe_t14] 400000 40 [(0, (7, 0))] (1, (0, 1)) 667472 5184846 = true := by decide +kernel
theorem ok_law (hst : l.stackTraces = false) (h8 : r 8 = r 0 &&& nI 31) (hg : mv_in mv_gS r) : ∃ h2 : List mv_C, mv_run l D cs r (b0, 0, 0) b (mv_mi 0) 40 [(0, (7, 0))] [] [] 0 0 0 (1, (0, 1)) h2 667472 5184846 := mv_mkb0 hst h8 hg (mv_hs (ok_t14 hst h8 hg) mv_hn) ev_law
end
