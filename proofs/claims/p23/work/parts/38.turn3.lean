/-! ===== printed by a program ===== -/
section
variable {l : Launch} {D : va_G} {cs : ClassId × ClassId × ClassId} {r : Nat → Int32} {b0 b : Nat}
theorem oc_t192 : mv_OC 68 oe_t192 := mv_och (by decide +kernel) hc_0.1 hc_n.1 hc_0.2 hc_n.2
set_option maxRecDepth 1000000 in
theorem ev_t192 : mv_evb mv_gS 68 [oe_x, oe_m, oe_t193] 400000 oe_t192 = true := by decide +kernel
theorem ok_t192 (hst : l.stackTraces = false) (h8 : r 8 = r 0 &&& nI 31) (hg : mv_in mv_gS r) : mv_OK l D cs r b0 b mv_mi 68 oe_t192 := mv_mkb hst h8 hg (mv_hs (ok_x hst h8 hg) (mv_hs (ok_m hst h8 hg) (mv_hs (ok_t193 hst h8 hg) mv_hn))) oc_t192 ev_t192
theorem oc_t191 : mv_OC 68 oe_t191 := mv_och (by decide +kernel) hc_0.1 hc_n.1 hc_0.2 hc_n.2
set_option maxRecDepth 1000000 in
theorem ev_t191 : mv_evb mv_gS 68 [oe_x, oe_m, oe_t192] 400000 oe_t191 = true := by decide +kernel
theorem ok_t191 (hst : l.stackTraces = false) (h8 : r 8 = r 0 &&& nI 31) (hg : mv_in mv_gS r) : mv_OK l D cs r b0 b mv_mi 68 oe_t191 := mv_mkb hst h8 hg (mv_hs (ok_x hst h8 hg) (mv_hs (ok_m hst h8 hg) (mv_hs (ok_t192 hst h8 hg) mv_hn))) oc_t191 ev_t191
theorem oc_t190 : mv_OC 68 oe_t190 := mv_och (by decide +kernel) hc_0.1 hc_n.1 hc_0.2 hc_n.2
set_option maxRecDepth 1000000 in
theorem ev_t190 : mv_evb mv_gS 68 [oe_x, oe_m, oe_t191] 400000 oe_t190 = true := by decide +kernel
theorem ok_t190 (hst : l.stackTraces = false) (h8 : r 8 = r 0 &&& nI 31) (hg : mv_in mv_gS r) : mv_OK l D cs r b0 b mv_mi 68 oe_t190 := mv_mkb hst h8 hg (mv_hs (ok_x hst h8 hg) (mv_hs (ok_m hst h8 hg) (mv_hs (ok_t191 hst h8 hg) mv_hn))) oc_t190 ev_t190
theorem oc_t189 : mv_OC 68 oe_t189 := mv_och (by decide +kernel) hc_0.1 hc_n.1 hc_0.2 hc_n.2
set_option maxRecDepth 1000000 in
theorem ev_t189 : mv_evb mv_gS 68 [oe_x, oe_m, oe_t190] 400000 oe_t189 = true := by decide +kernel
theorem ok_t189 (hst : l.stackTraces = false) (h8 : r 8 = r 0 &&& nI 31) (hg : mv_in mv_gS r) : mv_OK l D cs r b0 b mv_mi 68 oe_t189 := mv_mkb hst h8 hg (mv_hs (ok_x hst h8 hg) (mv_hs (ok_m hst h8 hg) (mv_hs (ok_t190 hst h8 hg) mv_hn))) oc_t189 ev_t189
theorem oc_t188 : mv_OC 68 oe_t188 := mv_och (by decide +kernel) hc_0.1 hc_n.1 hc_0.2 hc_n.2
set_option maxRecDepth 1000000 in
theorem ev_t188 : mv_evb mv_gS 68 [oe_x, oe_m, oe_t189] 400000 oe_t188 = true := by decide +kernel
theorem ok_t188 (hst : l.stackTraces = false) (h8 : r 8 = r 0 &&& nI 31) (hg : mv_in mv_gS r) : mv_OK l D cs r b0 b mv_mi 68 oe_t188 := mv_mkb hst h8 hg (mv_hs (ok_x hst h8 hg) (mv_hs (ok_m hst h8 hg) (mv_hs (ok_t189 hst h8 hg) mv_hn))) oc_t188 ev_t188
theorem oc_t187 : mv_OC 68 oe_t187 := mv_och (by decide +kernel) hc_0.1 hc_n.1 hc_0.2 hc_n.2
set_option maxRecDepth 1000000 in
theorem ev_t187 : mv_evb mv_gS 68 [oe_x, oe_m, oe_t188] 400000 oe_t187 = true := by decide +kernel
theorem ok_t187 (hst : l.stackTraces = false) (h8 : r 8 = r 0 &&& nI 31) (hg : mv_in mv_gS r) : mv_OK l D cs r b0 b mv_mi 68 oe_t187 := mv_mkb hst h8 hg (mv_hs (ok_x hst h8 hg) (mv_hs (ok_m hst h8 hg) (mv_hs (ok_t188 hst h8 hg) mv_hn))) oc_t187 ev_t187
theorem oc_t186 : mv_OC 68 oe_t186 := mv_och (by decide +kernel) hc_0.1 hc_n.1 hc_0.2 hc_n.2
set_option maxRecDepth 1000000 in
theorem ev_t186 : mv_evb mv_gS 68 [oe_x, oe_m, oe_t187] 400000 oe_t186 = true := by decide +kernel
theorem ok_t186 (hst : l.stackTraces = false) (h8 : r 8 = r 0 &&& nI 31) (hg : mv_in mv_gS r) : mv_OK l D cs r b0 b mv_mi 68 oe_t186 := mv_mkb hst h8 hg (mv_hs (ok_x hst h8 hg) (mv_hs (ok_m hst h8 hg) (mv_hs (ok_t187 hst h8 hg) mv_hn))) oc_t186 ev_t186
theorem oc_t185 : mv_OC 68 oe_t185 := mv_och (by decide +kernel) hc_0.1 hc_n.1 hc_0.2 hc_n.2
set_option maxRecDepth 1000000 in
theorem ev_t185 : mv_evb mv_gS 68 [oe_x, oe_m, oe_t186] 400000 oe_t185 = true := by decide +kernel
theorem ok_t185 (hst : l.stackTraces = false) (h8 : r 8 = r 0 &&& nI 31) (hg : mv_in mv_gS r) : mv_OK l D cs r b0 b mv_mi 68 oe_t185 := mv_mkb hst h8 hg (mv_hs (ok_x hst h8 hg) (mv_hs (ok_m hst h8 hg) (mv_hs (ok_t186 hst h8 hg) mv_hn))) oc_t185 ev_t185
theorem oc_t184 : mv_OC 68 oe_t184 := mv_och (by decide +kernel) hc_0.1 hc_n.1 hc_0.2 hc_n.2
set_option maxRecDepth 1000000 in
theorem ev_t184 : mv_evb mv_gS 68 [oe_x, oe_m, oe_t185] 400000 oe_t184 = true := by decide +kernel
theorem ok_t184 (hst : l.stackTraces = false) (h8 : r 8 = r 0 &&& nI 31) (hg : mv_in mv_gS r) : mv_OK l D cs r b0 b mv_mi 68 oe_t184 := mv_mkb hst h8 hg (mv_hs (ok_x hst h8 hg) (mv_hs (ok_m hst h8 hg) (mv_hs (ok_t185 hst h8 hg) mv_hn))) oc_t184 ev_t184
theorem oc_t183 : mv_OC 68 oe_t183 := mv_och (by decide +kernel) hc_0.1 hc_n.1 hc_0.2 hc_n.2
set_option maxRecDepth 1000000 in
theorem ev_t183 : mv_evb mv_gS 68 [oe_x, oe_m, oe_t184] 400000 oe_t183 = true := by decide +kernel
theorem ok_t183 (hst : l.stackTraces = false) (h8 : r 8 = r 0 &&& nI 31) (hg : mv_in mv_gS r) : mv_OK l D cs r b0 b mv_mi 68 oe_t183 := mv_mkb hst h8 hg (mv_hs (ok_x hst h8 hg) (mv_hs (ok_m hst h8 hg) (mv_hs (ok_t184 hst h8 hg) mv_hn))) oc_t183 ev_t183
theorem oc_t182 : mv_OC 68 oe_t182 := mv_och (by decide +kernel) hc_0.1 hc_n.1 hc_0.2 hc_n.2
set_option maxRecDepth 1000000 in
theorem ev_t182 : mv_evb mv_gS 68 [oe_x, oe_m, oe_t183] 400000 oe_t182 = true := by decide +kernel
theorem ok_t182 (hst : l.stackTraces = false) (h8 : r 8 = r 0 &&& nI 31) (hg : mv_in mv_gS r) : mv_OK l D cs r b0 b mv_mi 68 oe_t182 := mv_mkb hst h8 hg (mv_hs (ok_x hst h8 hg) (mv_hs (ok_m hst h8 hg) (mv_hs (ok_t183 hst h8 hg) mv_hn))) oc_t182 ev_t182
theorem oc_t181 : mv_OC 68 oe_t181 := mv_och (by decide +kernel) hc_0.1 hc_n.1 hc_0.2 hc_n.2
set_option maxRecDepth 1000000 in
theorem ev_t181 : mv_evb mv_gS 68 [oe_x, oe_m, oe_t182] 400000 oe_t181 = true := by decide +kernel
theorem ok_t181 (hst : l.stackTraces = false) (h8 : r 8 = r 0 &&& nI 31) (hg : mv_in mv_gS r) : mv_OK l D cs r b0 b mv_mi 68 oe_t181 := mv_mkb hst h8 hg (mv_hs (ok_x hst h8 hg) (mv_hs (ok_m hst h8 hg) (mv_hs (ok_t182 hst h8 hg) mv_hn))) oc_t181 ev_t181
theorem oc_t180 : mv_OC 68 oe_t180 := mv_och (by decide +kernel) hc_0.1 hc_n.1 hc_0.2 hc_n.2
set_option maxRecDepth 1000000 in
theorem ev_t180 : mv_evb mv_gS 68 [oe_x, oe_m, oe_t181] 400000 oe_t180 = true := by decide +kernel
theorem ok_t180 (hst : l.stackTraces = false) (h8 : r 8 = r 0 &&& nI 31) (hg : mv_in mv_gS r) : mv_OK l D cs r b0 b mv_mi 68 oe_t180 := mv_mkb hst h8 hg (mv_hs (ok_x hst h8 hg) (mv_hs (ok_m hst h8 hg) (mv_hs (ok_t181 hst h8 hg) mv_hn))) oc_t180 ev_t180
theorem oc_t179 : mv_OC 68 oe_t179 := mv_och (by decide +kernel) hc_0.1 hc_n.1 hc_0.2 hc_n.2
set_option maxRecDepth 1000000 in
theorem ev_t179 : mv_evb mv_gS 68 [oe_x, oe_m, oe_t180] 400000 oe_t179 = true := by decide +kernel
theorem ok_t179 (hst : l.stackTraces = false) (h8 : r 8 = r 0 &&& nI 31) (hg : mv_in mv_gS r) : mv_OK l D cs r b0 b mv_mi 68 oe_t179 := mv_mkb hst h8 hg (mv_hs (ok_x hst h8 hg) (mv_hs (ok_m hst h8 hg) (mv_hs (ok_t180 hst h8 hg) mv_hn))) oc_t179 ev_t179
theorem oc_t178 : mv_OC 68 oe_t178 := mv_och (by decide +kernel) hc_0.1 hc_n.1 hc_0.2 hc_n.2
set_option maxRecDepth 1000000 in
theorem ev_t178 : mv_evb mv_gS 68 [oe_x, oe_m, oe_t179] 400000 oe_t178 = true := by decide +kernel
theorem ok_t178 (hst : l.stackTraces = false) (h8 : r 8 = r 0 &&& nI 31) (hg : mv_in mv_gS r) : mv_OK l D cs r b0 b mv_mi 68 oe_t178 := mv_mkb hst h8 hg (mv_hs (ok_x hst h8 hg) (mv_hs (ok_m hst h8 hg) (mv_hs (ok_t179 hst h8 hg) mv_hn))) oc_t178 ev_t178
theorem oc_t177 : mv_OC 68 oe_t177 := mv_och (by decide +kernel) hc_0.1 hc_n.1 hc_0.2 hc_n.2
set_option maxRecDepth 1000000 in
theorem ev_t177 : mv_evb mv_gS 68 [oe_x, oe_m, oe_t178] 400000 oe_t177 = true := by decide +kernel
theorem ok_t177 (hst : l.stackTraces = false) (h8 : r 8 = r 0 &&& nI 31) (hg : mv_in mv_gS r) : mv_OK l D cs r b0 b mv_mi 68 oe_t177 := mv_mkb hst h8 hg (mv_hs (ok_x hst h8 hg) (mv_hs (ok_m hst h8 hg) (mv_hs (ok_t178 hst h8 hg) mv_hn))) oc_t177 ev_t177
theorem oc_t176 : mv_OC 68 oe_t176 := mv_och (by decide +kernel) hc_0.1 hc_n.1 hc_0.2 hc_n.2
set_option maxRecDepth 1000000 in
theorem ev_t176 : mv_evb mv_gS 68 [oe_x, oe_m, oe_t177] 400000 oe_t176 = true := by decide +kernel
theorem ok_t176 (hst : l.stackTraces = false) (h8 : r 8 = r 0 &&& nI 31) (hg : mv_in mv_gS r) : mv_OK l D cs r b0 b mv_mi 68 oe_t176 := mv_mkb hst h8 hg (mv_hs (ok_x hst h8 hg) (mv_hs (ok_m hst h8 hg) (mv_hs (ok_t177 hst h8 hg) mv_hn))) oc_t176 ev_t176
theorem oc_t175 : mv_OC 68 oe_t175 := mv_och (by decide +kernel) hc_0.1 hc_n.1 hc_0.2 hc_n.2
set_option maxRecDepth 1000000 in
theorem ev_t175 : mv_evb mv_gS 68 [oe_x, oe_m, oe_t176] 400000 oe_t175 = true := by decide +kernel
theorem ok_t175 (hst : l.stackTraces = false) (h8 : r 8 = r 0 &&& nI 31) (hg : mv_in mv_gS r) : mv_OK l D cs r b0 b mv_mi 68 oe_t175 := mv_mkb hst h8 hg (mv_hs (ok_x hst h8 hg) (mv_hs (ok_m hst h8 hg) (mv_hs (ok_t176 hst h8 hg) mv_hn))) oc_t175 ev_t175
theorem oc_t174 : mv_OC 68 oe_t174 := mv_och (by decide +kernel) hc_0.1 hc_n.1 hc_0.2 hc_n.2
set_option maxRecDepth 1000000 in
theorem ev_t174 : mv_evb mv_gS 68 [oe_x, oe_m, oe_t175] 400000 oe_t174 = true := by decide +kernel
theorem ok_t174 (hst : l.stackTraces = false) (h8 : r 8 = r 0 &&& nI 31) (hg : mv_in mv_gS r) : mv_OK l D cs r b0 b mv_mi 68 oe_t174 := mv_mkb hst h8 hg (mv_hs (ok_x hst h8 hg) (mv_hs (ok_m hst h8 hg) (mv_hs (ok_t175 hst h8 hg) mv_hn))) oc_t174 ev_t174
theorem oc_t173 : mv_OC 68 oe_t173 := mv_och (by decide +kernel) hc_0.1 hc_n.1 hc_0.2 hc_n.2
set_option maxRecDepth 1000000 in
theorem ev_t173 : mv_evb mv_gS 68 [oe_x, oe_m, oe_t174] 400000 oe_t173 = true := by decide +kernel
theorem ok_t173 (hst : l.stackTraces = false) (h8 : r 8 = r 0 &&& nI 31) (hg : mv_in mv_gS r) : mv_OK l D cs r b0 b mv_mi 68 oe_t173 := mv_mkb hst h8 hg (mv_hs (ok_x hst h8 hg) (mv_hs (ok_m hst h8 hg) (mv_hs (ok_t174 hst h8 hg) mv_hn))) oc_t173 ev_t173
theorem oc_t172 : mv_OC 68 oe_t172 := mv_och (by decide +kernel) hc_0.1 hc_n.1 hc_0.2 hc_n.2
set_option maxRecDepth 1000000 in
theorem ev_t172 : mv_evb mv_gS 68 [oe_x, oe_m, oe_t173] 400000 oe_t172 = true := by decide +kernel
theorem ok_t172 (hst : l.stackTraces = false) (h8 : r 8 = r 0 &&& nI 31) (hg : mv_in mv_gS r) : mv_OK l D cs r b0 b mv_mi 68 oe_t172 := mv_mkb hst h8 hg (mv_hs (ok_x hst h8 hg) (mv_hs (ok_m hst h8 hg) (mv_hs (ok_t173 hst h8 hg) mv_hn))) oc_t172 ev_t172
theorem oc_t171 : mv_OC 68 oe_t171 := mv_och (by decide +kernel) hc_0.1 hc_n.1 hc_0.2 hc_n.2
set_option maxRecDepth 1000000 in
theorem ev_t171 : mv_evb mv_gS 68 [oe_x, oe_m, oe_t172] 400000 oe_t171 = true := by decide +kernel
theorem ok_t171 (hst : l.stackTraces = false) (h8 : r 8 = r 0 &&& nI 31) (hg : mv_in mv_gS r) : mv_OK l D cs r b0 b mv_mi 68 oe_t171 := mv_mkb hst h8 hg (mv_hs (ok_x hst h8 hg) (mv_hs (ok_m hst h8 hg) (mv_hs (ok_t172 hst h8 hg) mv_hn))) oc_t171 ev_t171
theorem oc_t170 : mv_OC 68 oe_t170 := mv_och (by decide +kernel) hc_0.1 hc_n.1 hc_0.2 hc_n.2
set_option maxRecDepth 1000000 in
theorem ev_t170 : mv_evb mv_gS 68 [oe_x, oe_m, oe_t171] 400000 oe_t170 = true := by decide +kernel
theorem ok_t170 (hst : l.stackTraces = false) (h8 : r 8 = r 0 &&& nI 31) (hg : mv_in mv_gS r) : mv_OK l D cs r b0 b mv_mi 68 oe_t170 := mv_mkb hst h8 hg (mv_hs (ok_x hst h8 hg) (mv_hs (ok_m hst h8 hg) (mv_hs (ok_t171 hst h8 hg) mv_hn))) oc_t170 ev_t170
theorem oc_t169 : mv_OC 68 oe_t169 := mv_och (by decide +kernel) hc_0.1 hc_n.1 hc_0.2 hc_n.2
set_option maxRecDepth 1000000 in
theorem ev_t169 : mv_evb mv_gS 68 [oe_x, oe_m, oe_t170] 400000 oe_t169 = true := by decide +kernel
theorem ok_t169 (hst : l.stackTraces = false) (h8 : r 8 = r 0 &&& nI 31) (hg : mv_in mv_gS r) : mv_OK l D cs r b0 b mv_mi 68 oe_t169 := mv_mkb hst h8 hg (mv_hs (ok_x hst h8 hg) (mv_hs (ok_m hst h8 hg) (mv_hs (ok_t170 hst h8 hg) mv_hn))) oc_t169 ev_t169
theorem oc_t168 : mv_OC 68 oe_t168 := mv_och (by decide +kernel) hc_0.1 hc_n.1 hc_0.2 hc_n.2
set_option maxRecDepth 1000000 in
theorem ev_t168 : mv_evb mv_gS 68 [oe_x, oe_m, oe_t169] 400000 oe_t168 = true := by decide +kernel
theorem ok_t168 (hst : l.stackTraces = false) (h8 : r 8 = r 0 &&& nI 31) (hg : mv_in mv_gS r) : mv_OK l D cs r b0 b mv_mi 68 oe_t168 := mv_mkb hst h8 hg (mv_hs (ok_x hst h8 hg) (mv_hs (ok_m hst h8 hg) (mv_hs (ok_t169 hst h8 hg) mv_hn))) oc_t168 ev_t168
theorem oc_t167 : mv_OC 68 oe_t167 := mv_och (by decide +kernel) hc_0.1 hc_n.1 hc_0.2 hc_n.2
set_option maxRecDepth 1000000 in
theorem ev_t167 : mv_evb mv_gS 68 [oe_x, oe_m, oe_t168] 400000 oe_t167 = true := by decide +kernel
theorem ok_t167 (hst : l.stackTraces = false) (h8 : r 8 = r 0 &&& nI 31) (hg : mv_in mv_gS r) : mv_OK l D cs r b0 b mv_mi 68 oe_t167 := mv_mkb hst h8 hg (mv_hs (ok_x hst h8 hg) (mv_hs (ok_m hst h8 hg) (mv_hs (ok_t168 hst h8 hg) mv_hn))) oc_t167 ev_t167
theorem oc_t166 : mv_OC 68 oe_t166 := mv_och (by decide +kernel) hc_0.1 hc_n.1 hc_0.2 hc_n.2
set_option maxRecDepth 1000000 in
theorem ev_t166 : mv_evb mv_gS 68 [oe_x, oe_m, oe_t167] 400000 oe_t166 = true := by decide +kernel
theorem ok_t166 (hst : l.stackTraces = false) (h8 : r 8 = r 0 &&& nI 31) (hg : mv_in mv_gS r) : mv_OK l D cs r b0 b mv_mi 68 oe_t166 := mv_mkb hst h8 hg (mv_hs (ok_x hst h8 hg) (mv_hs (ok_m hst h8 hg) (mv_hs (ok_t167 hst h8 hg) mv_hn))) oc_t166 ev_t166
theorem oc_t165 : mv_OC 68 oe_t165 := mv_och (by decide +kernel) hc_0.1 hc_n.1 hc_0.2 hc_n.2
set_option maxRecDepth 1000000 in
theorem ev_t165 : mv_evb mv_gS 68 [oe_x, oe_m, oe_t166] 400000 oe_t165 = true := by decide +kernel
theorem ok_t165 (hst : l.stackTraces = false) (h8 : r 8 = r 0 &&& nI 31) (hg : mv_in mv_gS r) : mv_OK l D cs r b0 b mv_mi 68 oe_t165 := mv_mkb hst h8 hg (mv_hs (ok_x hst h8 hg) (mv_hs (ok_m hst h8 hg) (mv_hs (ok_t166 hst h8 hg) mv_hn))) oc_t165 ev_t165
theorem oc_t164 : mv_OC 68 oe_t164 := mv_och (by decide +kernel) hc_0.1 hc_n.1 hc_0.2 hc_n.2
set_option maxRecDepth 1000000 in
theorem ev_t164 : mv_evb mv_gS 68 [oe_x, oe_m, oe_t165] 400000 oe_t164 = true := by decide +kernel
theorem ok_t164 (hst : l.stackTraces = false) (h8 : r 8 = r 0 &&& nI 31) (hg : mv_in mv_gS r) : mv_OK l D cs r b0 b mv_mi 68 oe_t164 := mv_mkb hst h8 hg (mv_hs (ok_x hst h8 hg) (mv_hs (ok_m hst h8 hg) (mv_hs (ok_t165 hst h8 hg) mv_hn))) oc_t164 ev_t164
theorem oc_t163 : mv_OC 68 oe_t163 := mv_och (by decide +kernel) hc_0.1 hc_n.1 hc_0.2 hc_n.2
set_option maxRecDepth 1000000 in
theorem ev_t163 : mv_evb mv_gS 68 [oe_x, oe_m, oe_t164] 400000 oe_t163 = true := by decide +kernel
theorem ok_t163 (hst : l.stackTraces = false) (h8 : r 8 = r 0 &&& nI 31) (hg : mv_in mv_gS r) : mv_OK l D cs r b0 b mv_mi 68 oe_t163 := mv_mkb hst h8 hg (mv_hs (ok_x hst h8 hg) (mv_hs (ok_m hst h8 hg) (mv_hs (ok_t164 hst h8 hg) mv_hn))) oc_t163 ev_t163
theorem oc_t162 : mv_OC 68 oe_t162 := mv_och (by decide +kernel) hc_0.1 hc_n.1 hc_0.2 hc_n.2
set_option maxRecDepth 1000000 in
theorem ev_t162 : mv_evb mv_gS 68 [oe_x, oe_m, oe_t163] 400000 oe_t162 = true := by decide +kernel
theorem ok_t162 (hst : l.stackTraces = false) (h8 : r 8 = r 0 &&& nI 31) (hg : mv_in mv_gS r) : mv_OK l D cs r b0 b mv_mi 68 oe_t162 := mv_mkb hst h8 hg (mv_hs (ok_x hst h8 hg) (mv_hs (ok_m hst h8 hg) (mv_hs (ok_t163 hst h8 hg) mv_hn))) oc_t162 ev_t162
theorem oc_t161 : mv_OC 68 oe_t161 := mv_och (by decide +kernel) hc_0.1 hc_n.1 hc_0.2 hc_n.2
set_option maxRecDepth 1000000 in
theorem ev_t161 : mv_evb mv_gS 68 [oe_x, oe_m, oe_t162] 400000 oe_t161 = true := by decide +kernel
theorem ok_t161 (hst : l.stackTraces = false) (h8 : r 8 = r 0 &&& nI 31) (hg : mv_in mv_gS r) : mv_OK l D cs r b0 b mv_mi 68 oe_t161 := mv_mkb hst h8 hg (mv_hs (ok_x hst h8 hg) (mv_hs (ok_m hst h8 hg) (mv_hs (ok_t162 hst h8 hg) mv_hn))) oc_t161 ev_t161
theorem oc_t160 : mv_OC 68 oe_t160 := mv_och (by decide +kernel) hc_0.1 hc_n.1 hc_0.2 hc_n.2
set_option maxRecDepth 1000000 in
theorem ev_t160 : mv_evb mv_gS 68 [oe_x, oe_m, oe_t161] 400000 oe_t160 = true := by decide +kernel
theorem ok_t160 (hst : l.stackTraces = false) (h8 : r 8 = r 0 &&& nI 31) (hg : mv_in mv_gS r) : mv_OK l D cs r b0 b mv_mi 68 oe_t160 := mv_mkb hst h8 hg (mv_hs (ok_x hst h8 hg) (mv_hs (ok_m hst h8 hg) (mv_hs (ok_t161 hst h8 hg) mv_hn))) oc_t160 ev_t160
theorem oc_t159 : mv_OC 68 oe_t159 := mv_och (by decide +kernel) hc_0.1 hc_n.1 hc_0.2 hc_n.2
set_option maxRecDepth 1000000 in
theorem ev_t159 : mv_evb mv_gS 68 [oe_x, oe_m, oe_t160] 400000 oe_t159 = true := by decide +kernel
theorem ok_t159 (hst : l.stackTraces = false) (h8 : r 8 = r 0 &&& nI 31) (hg : mv_in mv_gS r) : mv_OK l D cs r b0 b mv_mi 68 oe_t159 := mv_mkb hst h8 hg (mv_hs (ok_x hst h8 hg) (mv_hs (ok_m hst h8 hg) (mv_hs (ok_t160 hst h8 hg) mv_hn))) oc_t159 ev_t159
theorem oc_t158 : mv_OC 68 oe_t158 := mv_och (by decide +kernel) hc_0.1 hc_n.1 hc_0.2 hc_n.2
set_option maxRecDepth 1000000 in
theorem ev_t158 : mv_evb mv_gS 68 [oe_x, oe_m, oe_t159] 400000 oe_t158 = true := by decide +kernel
theorem ok_t158 (hst : l.stackTraces = false) (h8 : r 8 = r 0 &&& nI 31) (hg : mv_in mv_gS r) : mv_OK l D cs r b0 b mv_mi 68 oe_t158 := mv_mkb hst h8 hg (mv_hs (ok_x hst h8 hg) (mv_hs (ok_m hst h8 hg) (mv_hs (ok_t159 hst h8 hg) mv_hn))) oc_t158 ev_t158
theorem oc_t157 : mv_OC 68 oe_t157 := mv_och (by decide +kernel) hc_0.1 hc_n.1 hc_0.2 hc_n.2
set_option maxRecDepth 1000000 in
theorem ev_t157 : mv_evb mv_gS 68 [oe_x, oe_m, oe_t158] 400000 oe_t157 = true := by decide +kernel
theorem ok_t157 (hst : l.stackTraces = false) (h8 : r 8 = r 0 &&& nI 31) (hg : mv_in mv_gS r) : mv_OK l D cs r b0 b mv_mi 68 oe_t157 := mv_mkb hst h8 hg (mv_hs (ok_x hst h8 hg) (mv_hs (ok_m hst h8 hg) (mv_hs (ok_t158 hst h8 hg) mv_hn))) oc_t157 ev_t157
theorem oc_t156 : mv_OC 68 oe_t156 := mv_och (by decide +kernel) hc_0.1 hc_n.1 hc_0.2 hc_n.2
set_option maxRecDepth 1000000 in
theorem ev_t156 : mv_evb mv_gS 68 [oe_x, oe_m, oe_t157] 400000 oe_t156 = true := by decide +kernel
theorem ok_t156 (hst : l.stackTraces = false) (h8 : r 8 = r 0 &&& nI 31) (hg : mv_in mv_gS r) : mv_OK l D cs r b0 b mv_mi 68 oe_t156 := mv_mkb hst h8 hg (mv_hs (ok_x hst h8 hg) (mv_hs (ok_m hst h8 hg) (mv_hs (ok_t157 hst h8 hg) mv_hn))) oc_t156 ev_t156
theorem oc_t155 : mv_OC 68 oe_t155 := mv_och (by decide +kernel) hc_0.1 hc_n.1 hc_0.2 hc_n.2
set_option maxRecDepth 1000000 in
theorem ev_t155 : mv_evb mv_gS 68 [oe_x, oe_m, oe_t156] 400000 oe_t155 = true := by decide +kernel
theorem ok_t155 (hst : l.stackTraces = false) (h8 : r 8 = r 0 &&& nI 31) (hg : mv_in mv_gS r) : mv_OK l D cs r b0 b mv_mi 68 oe_t155 := mv_mkb hst h8 hg (mv_hs (ok_x hst h8 hg) (mv_hs (ok_m hst h8 hg) (mv_hs (ok_t156 hst h8 hg) mv_hn))) oc_t155 ev_t155
theorem oc_t154 : mv_OC 68 oe_t154 := mv_och (by decide +kernel) hc_0.1 hc_n.1 hc_0.2 hc_n.2
set_option maxRecDepth 1000000 in
theorem ev_t154 : mv_evb mv_gS 68 [oe_x, oe_m, oe_t155] 400000 oe_t154 = true := by decide +kernel
theorem ok_t154 (hst : l.stackTraces = false) (h8 : r 8 = r 0 &&& nI 31) (hg : mv_in mv_gS r) : mv_OK l D cs r b0 b mv_mi 68 oe_t154 := mv_mkb hst h8 hg (mv_hs (ok_x hst h8 hg) (mv_hs (ok_m hst h8 hg) (mv_hs (ok_t155 hst h8 hg) mv_hn))) oc_t154 ev_t154
theorem oc_t153 : mv_OC 68 oe_t153 := mv_och (by decide +kernel) hc_0.1 hc_n.1 hc_0.2 hc_n.2
set_option maxRecDepth 1000000 in
theorem ev_t153 : mv_evb mv_gS 68 [oe_x, oe_m, oe_t154] 400000 oe_t153 = true := by decide +kernel
theorem ok_t153 (hst : l.stackTraces = false) (h8 : r 8 = r 0 &&& nI 31) (hg : mv_in mv_gS r) : mv_OK l D cs r b0 b mv_mi 68 oe_t153 := mv_mkb hst h8 hg (mv_hs (ok_x hst h8 hg) (mv_hs (ok_m hst h8 hg) (mv_hs (ok_t154 hst h8 hg) mv_hn))) oc_t153 ev_t153
theorem oc_t152 : mv_OC 68 oe_t152 := mv_och (by decide +kernel) hc_0.1 hc_n.1 hc_0.2 hc_n.2
set_option maxRecDepth 1000000 in
theorem ev_t152 : mv_evb mv_gS 68 [oe_x, oe_m, oe_t153] 400000 oe_t152 = true := by decide +kernel
theorem ok_t152 (hst : l.stackTraces = false) (h8 : r 8 = r 0 &&& nI 31) (hg : mv_in mv_gS r) : mv_OK l D cs r b0 b mv_mi 68 oe_t152 := mv_mkb hst h8 hg (mv_hs (ok_x hst h8 hg) (mv_hs (ok_m hst h8 hg) (mv_hs (ok_t153 hst h8 hg) mv_hn))) oc_t152 ev_t152
theorem oc_t151 : mv_OC 68 oe_t151 := mv_och (by decide +kernel) hc_0.1 hc_n.1 hc_0.2 hc_n.2
set_option maxRecDepth 1000000 in
theorem ev_t151 : mv_evb mv_gS 68 [oe_x, oe_m, oe_t152] 400000 oe_t151 = true := by decide +kernel
theorem ok_t151 (hst : l.stackTraces = false) (h8 : r 8 = r 0 &&& nI 31) (hg : mv_in mv_gS r) : mv_OK l D cs r b0 b mv_mi 68 oe_t151 := mv_mkb hst h8 hg (mv_hs (ok_x hst h8 hg) (mv_hs (ok_m hst h8 hg) (mv_hs (ok_t152 hst h8 hg) mv_hn))) oc_t151 ev_t151
theorem oc_t150 : mv_OC 68 oe_t150 := mv_och (by decide +kernel) hc_0.1 hc_n.1 hc_0.2 hc_n.2
set_option maxRecDepth 1000000 in
theorem ev_t150 : mv_evb mv_gS 68 [oe_x, oe_m, oe_t151] 400000 oe_t150 = true := by decide +kernel
theorem ok_t150 (hst : l.stackTraces = false) (h8 : r 8 = r 0 &&& nI 31) (hg : mv_in mv_gS r) : mv_OK l D cs r b0 b mv_mi 68 oe_t150 := mv_mkb hst h8 hg (mv_hs (ok_x hst h8 hg) (mv_hs (ok_m hst h8 hg) (mv_hs (ok_t151 hst h8 hg) mv_hn))) oc_t150 ev_t150
theorem oc_t149 : mv_OC 68 oe_t149 := mv_och (by decide +kernel) hc_0.1 hc_n.1 hc_0.2 hc_n.2
set_option maxRecDepth 1000000 in
theorem ev_t149 : mv_evb mv_gS 68 [oe_x, oe_m, oe_t150] 400000 oe_t149 = true := by decide +kernel
theorem ok_t149 (hst : l.stackTraces = false) (h8 : r 8 = r 0 &&& nI 31) (hg : mv_in mv_gS r) : mv_OK l D cs r b0 b mv_mi 68 oe_t149 := mv_mkb hst h8 hg (mv_hs (ok_x hst h8 hg) (mv_hs (ok_m hst h8 hg) (mv_hs (ok_t150 hst h8 hg) mv_hn))) oc_t149 ev_t149
theorem oc_t148 : mv_OC 68 oe_t148 := mv_och (by decide +kernel) hc_0.1 hc_n.1 hc_0.2 hc_n.2
set_option maxRecDepth 1000000 in
theorem ev_t148 : mv_evb mv_gS 68 [oe_x, oe_m, oe_t149] 400000 oe_t148 = true := by decide +kernel
theorem ok_t148 (hst : l.stackTraces = false) (h8 : r 8 = r 0 &&& nI 31) (hg : mv_in mv_gS r) : mv_OK l D cs r b0 b mv_mi 68 oe_t148 := mv_mkb hst h8 hg (mv_hs (ok_x hst h8 hg) (mv_hs (ok_m hst h8 hg) (mv_hs (ok_t149 hst h8 hg) mv_hn))) oc_t148 ev_t148
theorem oc_t147 : mv_OC 68 oe_t147 := mv_och (by decide +kernel) hc_0.1 hc_n.1 hc_0.2 hc_n.2
set_option maxRecDepth 1000000 in
theorem ev_t147 : mv_evb mv_gS 68 [oe_x, oe_m, oe_t148] 400000 oe_t147 = true := by decide +kernel
theorem ok_t147 (hst : l.stackTraces = false) (h8 : r 8 = r 0 &&& nI 31) (hg : mv_in mv_gS r) : mv_OK l D cs r b0 b mv_mi 68 oe_t147 := mv_mkb hst h8 hg (mv_hs (ok_x hst h8 hg) (mv_hs (ok_m hst h8 hg) (mv_hs (ok_t148 hst h8 hg) mv_hn))) oc_t147 ev_t147
theorem oc_t146 : mv_OC 68 oe_t146 := mv_och (by decide +kernel) hc_0.1 hc_n.1 hc_0.2 hc_n.2
set_option maxRecDepth 1000000 in
theorem ev_t146 : mv_evb mv_gS 68 [oe_x, oe_m, oe_t147] 400000 oe_t146 = true := by decide +kernel
theorem ok_t146 (hst : l.stackTraces = false) (h8 : r 8 = r 0 &&& nI 31) (hg : mv_in mv_gS r) : mv_OK l D cs r b0 b mv_mi 68 oe_t146 := mv_mkb hst h8 hg (mv_hs (ok_x hst h8 hg) (mv_hs (ok_m hst h8 hg) (mv_hs (ok_t147 hst h8 hg) mv_hn))) oc_t146 ev_t146
theorem oc_t145 : mv_OC 68 oe_t145 := mv_och (by decide +kernel) hc_0.1 hc_n.1 hc_0.2 hc_n.2
set_option maxRecDepth 1000000 in
theorem ev_t145 : mv_evb mv_gS 68 [oe_x, oe_m, oe_t146] 400000 oe_t145 = true := by decide +kernel
theorem ok_t145 (hst : l.stackTraces = false) (h8 : r 8 = r 0 &&& nI 31) (hg : mv_in mv_gS r) : mv_OK l D cs r b0 b mv_mi 68 oe_t145 := mv_mkb hst h8 hg (mv_hs (ok_x hst h8 hg) (mv_hs (ok_m hst h8 hg) (mv_hs (ok_t146 hst h8 hg) mv_hn))) oc_t145 ev_t145
theorem oc_t144 : mv_OC 68 oe_t144 := mv_och (by decide +kernel) hc_0.1 hc_n.1 hc_0.2 hc_n.2
set_option maxRecDepth 1000000 in
theorem ev_t144 : mv_evb mv_gS 68 [oe_x, oe_m, oe_t145] 400000 oe_t144 = true := by decide +kernel
theorem ok_t144 (hst : l.stackTraces = false) (h8 : r 8 = r 0 &&& nI 31) (hg : mv_in mv_gS r) : mv_OK l D cs r b0 b mv_mi 68 oe_t144 := mv_mkb hst h8 hg (mv_hs (ok_x hst h8 hg) (mv_hs (ok_m hst h8 hg) (mv_hs (ok_t145 hst h8 hg) mv_hn))) oc_t144 ev_t144
theorem oc_t143 : mv_OC 68 oe_t143 := mv_och (by decide +kernel) hc_0.1 hc_n.1 hc_0.2 hc_n.2
set_option maxRecDepth 1000000 in
theorem ev_t143 : mv_evb mv_gS 68 [oe_x, oe_m, oe_t144] 400000 oe_t143 = true := by decide +kernel
theorem ok_t143 (hst : l.stackTraces = false) (h8 : r 8 = r 0 &&& nI 31) (hg : mv_in mv_gS r) : mv_OK l D cs r b0 b mv_mi 68 oe_t143 := mv_mkb hst h8 hg (mv_hs (ok_x hst h8 hg) (mv_hs (ok_m hst h8 hg) (mv_hs (ok_t144 hst h8 hg) mv_hn))) oc_t143 ev_t143
theorem oc_t142 : mv_OC 68 oe_t142 := mv_och (by decide +kernel) hc_0.1 hc_n.1 hc_0.2 hc_n.2
set_option maxRecDepth 1000000 in
theorem ev_t142 : mv_evb mv_gS 68 [oe_x, oe_m, oe_t143] 400000 oe_t142 = true := by decide +kernel
theorem ok_t142 (hst : l.stackTraces = false) (h8 : r 8 = r 0 &&& nI 31) (hg : mv_in mv_gS r) : mv_OK l D cs r b0 b mv_mi 68 oe_t142 := mv_mkb hst h8 hg (mv_hs (ok_x hst h8 hg) (mv_hs (ok_m hst h8 hg) (mv_hs (ok_t143 hst h8 hg) mv_hn))) oc_t142 ev_t142
theorem oc_t141 : mv_OC 68 oe_t141 := mv_och (by decide +kernel) hc_0.1 hc_n.1 hc_0.2 hc_n.2
set_option maxRecDepth 1000000 in
theorem ev_t141 : mv_evb mv_gS 68 [oe_x, oe_m, oe_t142] 400000 oe_t141 = true := by decide +kernel
theorem ok_t141 (hst : l.stackTraces = false) (h8 : r 8 = r 0 &&& nI 31) (hg : mv_in mv_gS r) : mv_OK l D cs r b0 b mv_mi 68 oe_t141 := mv_mkb hst h8 hg (mv_hs (ok_x hst h8 hg) (mv_hs (ok_m hst h8 hg) (mv_hs (ok_t142 hst h8 hg) mv_hn))) oc_t141 ev_t141
theorem oc_t140 : mv_OC 68 oe_t140 := mv_och (by decide +kernel) hc_0.1 hc_n.1 hc_0.2 hc_n.2
set_option maxRecDepth 1000000 in
theorem ev_t140 : mv_evb mv_gS 68 [oe_x, oe_m, oe_t141] 400000 oe_t140 = true := by decide +kernel
theorem ok_t140 (hst : l.stackTraces = false) (h8 : r 8 = r 0 &&& nI 31) (hg : mv_in mv_gS r) : mv_OK l D cs r b0 b mv_mi 68 oe_t140 := mv_mkb hst h8 hg (mv_hs (ok_x hst h8 hg) (mv_hs (ok_m hst h8 hg) (mv_hs (ok_t141 hst h8 hg) mv_hn))) oc_t140 ev_t140
theorem oc_t139 : mv_OC 68 oe_t139 := mv_och (by decide +kernel) hc_0.1 hc_n.1 hc_0.2 hc_n.2
set_option maxRecDepth 1000000 in
theorem ev_t139 : mv_evb mv_gS 68 [oe_x, oe_m, oe_t140] 400000 oe_t139 = true := by decide +kernel
theorem ok_t139 (hst : l.stackTraces = false) (h8 : r 8 = r 0 &&& nI 31) (hg : mv_in mv_gS r) : mv_OK l D cs r b0 b mv_mi 68 oe_t139 := mv_mkb hst h8 hg (mv_hs (ok_x hst h8 hg) (mv_hs (ok_m hst h8 hg) (mv_hs (ok_t140 hst h8 hg) mv_hn))) oc_t139 ev_t139
theorem oc_t138 : mv_OC 68 oe_t138 := mv_och (by decide +kernel) hc_0.1 hc_n.1 hc_0.2 hc_n.2
set_option maxRecDepth 1000000 in
theorem ev_t138 : mv_evb mv_gS 68 [oe_x, oe_m, oe_t139] 400000 oe_t138 = true := by decide +kernel
theorem ok_t138 (hst : l.stackTraces = false) (h8 : r 8 = r 0 &&& nI 31) (hg : mv_in mv_gS r) : mv_OK l D cs r b0 b mv_mi 68 oe_t138 := mv_mkb hst h8 hg (mv_hs (ok_x hst h8 hg) (mv_hs (ok_m hst h8 hg) (mv_hs (ok_t139 hst h8 hg) mv_hn))) oc_t138 ev_t138
theorem oc_t137 : mv_OC 68 oe_t137 := mv_och (by decide +kernel) hc_0.1 hc_n.1 hc_0.2 hc_n.2
set_option maxRecDepth 1000000 in
theorem ev_t137 : mv_evb mv_gS 68 [oe_x, oe_m, oe_t138] 400000 oe_t137 = true := by decide +kernel
theorem ok_t137 (hst : l.stackTraces = false) (h8 : r 8 = r 0 &&& nI 31) (hg : mv_in mv_gS r) : mv_OK l D cs r b0 b mv_mi 68 oe_t137 := mv_mkb hst h8 hg (mv_hs (ok_x hst h8 hg) (mv_hs (ok_m hst h8 hg) (mv_hs (ok_t138 hst h8 hg) mv_hn))) oc_t137 ev_t137
theorem oc_t136 : mv_OC 68 oe_t136 := mv_och (by decide +kernel) hc_0.1 hc_n.1 hc_0.2 hc_n.2
set_option maxRecDepth 1000000 in
theorem ev_t136 : mv_evb mv_gS 68 [oe_x, oe_m, oe_t137] 400000 oe_t136 = true := by decide +kernel
theorem ok_t136 (hst : l.stackTraces = false) (h8 : r 8 = r 0 &&& nI 31) (hg : mv_in mv_gS r) : mv_OK l D cs r b0 b mv_mi 68 oe_t136 := mv_mkb hst h8 hg (mv_hs (ok_x hst h8 hg) (mv_hs (ok_m hst h8 hg) (mv_hs (ok_t137 hst h8 hg) mv_hn))) oc_t136 ev_t136
theorem oc_t135 : mv_OC 68 oe_t135 := mv_och (by decide +kernel) hc_0.1 hc_n.1 hc_0.2 hc_n.2
set_option maxRecDepth 1000000 in
theorem ev_t135 : mv_evb mv_gS 68 [oe_x, oe_m, oe_t136] 400000 oe_t135 = true := by decide +kernel
theorem ok_t135 (hst : l.stackTraces = false) (h8 : r 8 = r 0 &&& nI 31) (hg : mv_in mv_gS r) : mv_OK l D cs r b0 b mv_mi 68 oe_t135 := mv_mkb hst h8 hg (mv_hs (ok_x hst h8 hg) (mv_hs (ok_m hst h8 hg) (mv_hs (ok_t136 hst h8 hg) mv_hn))) oc_t135 ev_t135
theorem oc_t134 : mv_OC 68 oe_t134 := mv_och (by decide +kernel) hc_0.1 hc_n.1 hc_0.2 hc_n.2
set_option maxRecDepth 1000000 in
theorem ev_t134 : mv_evb mv_gS 68 [oe_x, oe_m, oe_t135] 400000 oe_t134 = true := by decide +kernel
theorem ok_t134 (hst : l.stackTraces = false) (h8 : r 8 = r 0 &&& nI 31) (hg : mv_in mv_gS r) : mv_OK l D cs r b0 b mv_mi 68 oe_t134 := mv_mkb hst h8 hg (mv_hs (ok_x hst h8 hg) (mv_hs (ok_m hst h8 hg) (mv_hs (ok_t135 hst h8 hg) mv_hn))) oc_t134 ev_t134
theorem oc_t133 : mv_OC 68 oe_t133 := mv_och (by decide +kernel) hc_0.1 hc_n.1 hc_0.2 hc_n.2
set_option maxRecDepth 1000000 in
theorem ev_t133 : mv_evb mv_gS 68 [oe_x, oe_m, oe_t134] 400000 oe_t133 = true := by decide +kernel
theorem ok_t133 (hst : l.stackTraces = false) (h8 : r 8 = r 0 &&& nI 31) (hg : mv_in mv_gS r) : mv_OK l D cs r b0 b mv_mi 68 oe_t133 := mv_mkb hst h8 hg (mv_hs (ok_x hst h8 hg) (mv_hs (ok_m hst h8 hg) (mv_hs (ok_t134 hst h8 hg) mv_hn))) oc_t133 ev_t133
theorem oc_t132 : mv_OC 68 oe_t132 := mv_och (by decide +kernel) hc_0.1 hc_n.1 hc_0.2 hc_n.2
set_option maxRecDepth 1000000 in
theorem ev_t132 : mv_evb mv_gS 68 [oe_x, oe_m, oe_t133] 400000 oe_t132 = true := by decide +kernel
theorem ok_t132 (hst : l.stackTraces = false) (h8 : r 8 = r 0 &&& nI 31) (hg : mv_in mv_gS r) : mv_OK l D cs r b0 b mv_mi 68 oe_t132 := mv_mkb hst h8 hg (mv_hs (ok_x hst h8 hg) (mv_hs (ok_m hst h8 hg) (mv_hs (ok_t133 hst h8 hg) mv_hn))) oc_t132 ev_t132
theorem oc_t131 : mv_OC 68 oe_t131 := mv_och (by decide +kernel) hc_0.1 hc_n.1 hc_0.2 hc_n.2
set_option maxRecDepth 1000000 in
theorem ev_t131 : mv_evb mv_gS 68 [oe_x, oe_m, oe_t132] 400000 oe_t131 = true := by decide +kernel
theorem ok_t131 (hst : l.stackTraces = false) (h8 : r 8 = r 0 &&& nI 31) (hg : mv_in mv_gS r) : mv_OK l D cs r b0 b mv_mi 68 oe_t131 := mv_mkb hst h8 hg (mv_hs (ok_x hst h8 hg) (mv_hs (ok_m hst h8 hg) (mv_hs (ok_t132 hst h8 hg) mv_hn))) oc_t131 ev_t131
theorem oc_t130 : mv_OC 68 oe_t130 := mv_och (by decide +kernel) hc_0.1 hc_n.1 hc_0.2 hc_n.2
set_option maxRecDepth 1000000 in
theorem ev_t130 : mv_evb mv_gS 68 [oe_x, oe_m, oe_t131] 400000 oe_t130 = true := by decide +kernel
theorem ok_t130 (hst : l.stackTraces = false) (h8 : r 8 = r 0 &&& nI 31) (hg : mv_in mv_gS r) : mv_OK l D cs r b0 b mv_mi 68 oe_t130 := mv_mkb hst h8 hg (mv_hs (ok_x hst h8 hg) (mv_hs (ok_m hst h8 hg) (mv_hs (ok_t131 hst h8 hg) mv_hn))) oc_t130 ev_t130
theorem oc_t129 : mv_OC 68 oe_t129 := mv_och (by decide +kernel) hc_0.1 hc_n.1 hc_0.2 hc_n.2
set_option maxRecDepth 1000000 in
theorem ev_t129 : mv_evb mv_gS 68 [oe_x, oe_m, oe_t130] 400000 oe_t129 = true := by decide +kernel
theorem ok_t129 (hst : l.stackTraces = false) (h8 : r 8 = r 0 &&& nI 31) (hg : mv_in mv_gS r) : mv_OK l D cs r b0 b mv_mi 68 oe_t129 := mv_mkb hst h8 hg (mv_hs (ok_x hst h8 hg) (mv_hs (ok_m hst h8 hg) (mv_hs (ok_t130 hst h8 hg) mv_hn))) oc_t129 ev_t129
theorem oc_t128 : mv_OC 68 oe_t128 := mv_och (by decide +kernel) hc_0.1 hc_n.1 hc_0.2 hc_n.2
set_option maxRecDepth 1000000 in
theorem ev_t128 : mv_evb mv_gS 68 [oe_x, oe_m, oe_t129] 400000 oe_t128 = true := by decide +kernel
theorem ok_t128 (hst : l.stackTraces = false) (h8 : r 8 = r 0 &&& nI 31) (hg : mv_in mv_gS r) : mv_OK l D cs r b0 b mv_mi 68 oe_t128 := mv_mkb hst h8 hg (mv_hs (ok_x hst h8 hg) (mv_hs (ok_m hst h8 hg) (mv_hs (ok_t129 hst h8 hg) mv_hn))) oc_t128 ev_t128
theorem oc_t127 : mv_OC 68 oe_t127 := mv_och (by decide +kernel) hc_0.1 hc_n.1 hc_0.2 hc_n.2
set_option maxRecDepth 1000000 in
theorem ev_t127 : mv_evb mv_gS 68 [oe_x, oe_m, oe_t128] 400000 oe_t127 = true := by decide +kernel
theorem ok_t127 (hst : l.stackTraces = false) (h8 : r 8 = r 0 &&& nI 31) (hg : mv_in mv_gS r) : mv_OK l D cs r b0 b mv_mi 68 oe_t127 := mv_mkb hst h8 hg (mv_hs (ok_x hst h8 hg) (mv_hs (ok_m hst h8 hg) (mv_hs (ok_t128 hst h8 hg) mv_hn))) oc_t127 ev_t127
theorem oc_t126 : mv_OC 68 oe_t126 := mv_och (by decide +kernel) hc_0.1 hc_n.1 hc_0.2 hc_n.2
set_option maxRecDepth 1000000 in
theorem ev_t126 : mv_evb mv_gS 68 [oe_x, oe_m, oe_t127] 400000 oe_t126 = true := by decide +kernel
theorem ok_t126 (hst : l.stackTraces = false) (h8 : r 8 = r 0 &&& nI 31) (hg : mv_in mv_gS r) : mv_OK l D cs r b0 b mv_mi 68 oe_t126 := mv_mkb hst h8 hg (mv_hs (ok_x hst h8 hg) (mv_hs (ok_m hst h8 hg) (mv_hs (ok_t127 hst h8 hg) mv_hn))) oc_t126 ev_t126
theorem oc_t125 : mv_OC 68 oe_t125 := mv_och (by decide +kernel) hc_0.1 hc_n.1 hc_0.2 hc_n.2
set_option maxRecDepth 1000000 in
theorem ev_t125 : mv_evb mv_gS 68 [oe_x, oe_m, oe_t126] 400000 oe_t125 = true := by decide +kernel
theorem ok_t125 (hst : l.stackTraces = false) (h8 : r 8 = r 0 &&& nI 31) (hg : mv_in mv_gS r) : mv_OK l D cs r b0 b mv_mi 68 oe_t125 := mv_mkb hst h8 hg (mv_hs (ok_x hst h8 hg) (mv_hs (ok_m hst h8 hg) (mv_hs (ok_t126 hst h8 hg) mv_hn))) oc_t125 ev_t125
theorem oc_t124 : mv_OC 68 oe_t124 := mv_och (by decide +kernel) hc_0.1 hc_n.1 hc_0.2 hc_n.2
set_option maxRecDepth 1000000 in
theorem ev_t124 : mv_evb mv_gS 68 [oe_x, oe_m, oe_t125] 400000 oe_t124 = true := by decide +kernel
theorem ok_t124 (hst : l.stackTraces = false) (h8 : r 8 = r 0 &&& nI 31) (hg : mv_in mv_gS r) : mv_OK l D cs r b0 b mv_mi 68 oe_t124 := mv_mkb hst h8 hg (mv_hs (ok_x hst h8 hg) (mv_hs (ok_m hst h8 hg) (mv_hs (ok_t125 hst h8 hg) mv_hn))) oc_t124 ev_t124
theorem oc_t123 : mv_OC 68 oe_t123 := mv_och (by decide +kernel) hc_0.1 hc_n.1 hc_0.2 hc_n.2
set_option maxRecDepth 1000000 in
theorem ev_t123 : mv_evb mv_gS 68 [oe_x, oe_m, oe_t124] 400000 oe_t123 = true := by decide +kernel
theorem ok_t123 (hst : l.stackTraces = false) (h8 : r 8 = r 0 &&& nI 31) (hg : mv_in mv_gS r) : mv_OK l D cs r b0 b mv_mi 68 oe_t123 := mv_mkb hst h8 hg (mv_hs (ok_x hst h8 hg) (mv_hs (ok_m hst h8 hg) (mv_hs (ok_t124 hst h8 hg) mv_hn))) oc_t123 ev_t123
theorem oc_t122 : mv_OC 68 oe_t122 := mv_och (by decide +kernel) hc_0.1 hc_n.1 hc_0.2 hc_n.2
set_option maxRecDepth 1000000 in
theorem ev_t122 : mv_evb mv_gS 68 [oe_x, oe_m, oe_t123] 400000 oe_t122 = true := by decide +kernel
theorem ok_t122 (hst : l.stackTraces = false) (h8 : r 8 = r 0 &&& nI 31) (hg : mv_in mv_gS r) : mv_OK l D cs r b0 b mv_mi 68 oe_t122 := mv_mkb hst h8 hg (mv_hs (ok_x hst h8 hg) (mv_hs (ok_m hst h8 hg) (mv_hs (ok_t123 hst h8 hg) mv_hn))) oc_t122 ev_t122
theorem oc_t121 : mv_OC 68 oe_t121 := mv_och (by decide +kernel) hc_0.1 hc_n.1 hc_0.2 hc_n.2
set_option maxRecDepth 1000000 in
theorem ev_t121 : mv_evb mv_gS 68 [oe_x, oe_m, oe_t122] 400000 oe_t121 = true := by decide +kernel
theorem ok_t121 (hst : l.stackTraces = false) (h8 : r 8 = r 0 &&& nI 31) (hg : mv_in mv_gS r) : mv_OK l D cs r b0 b mv_mi 68 oe_t121 := mv_mkb hst h8 hg (mv_hs (ok_x hst h8 hg) (mv_hs (ok_m hst h8 hg) (mv_hs (ok_t122 hst h8 hg) mv_hn))) oc_t121 ev_t121
theorem oc_t120 : mv_OC 68 oe_t120 := mv_och (by decide +kernel) hc_0.1 hc_n.1 hc_0.2 hc_n.2
set_option maxRecDepth 1000000 in
theorem ev_t120 : mv_evb mv_gS 68 [oe_x, oe_m, oe_t121] 400000 oe_t120 = true := by decide +kernel
theorem ok_t120 (hst : l.stackTraces = false) (h8 : r 8 = r 0 &&& nI 31) (hg : mv_in mv_gS r) : mv_OK l D cs r b0 b mv_mi 68 oe_t120 := mv_mkb hst h8 hg (mv_hs (ok_x hst h8 hg) (mv_hs (ok_m hst h8 hg) (mv_hs (ok_t121 hst h8 hg) mv_hn))) oc_t120 ev_t120
theorem oc_t119 : mv_OC 68 oe_t119 := mv_och (by decide +kernel) hc_0.1 hc_n.1 hc_0.2 hc_n.2
set_option maxRecDepth 1000000 in
theorem ev_t119 : mv_evb mv_gS 68 [oe_x, oe_m, oe_t120] 400000 oe_t119 = true := by decide +kernel
theorem ok_t119 (hst : l.stackTraces = false) (h8 : r 8 = r 0 &&& nI 31) (hg : mv_in mv_gS r) : mv_OK l D cs r b0 b mv_mi 68 oe_t119 := mv_mkb hst h8 hg (mv_hs (ok_x hst h8 hg) (mv_hs (ok_m hst h8 hg) (mv_hs (ok_t120 hst h8 hg) mv_hn))) oc_t119 ev_t119
theorem oc_t118 : mv_OC 68 oe_t118 := mv_och (by decide +kernel) hc_0.1 hc_n.1 hc_0.2 hc_n.2
set_option maxRecDepth 1000000 in
theorem ev_t118 : mv_evb mv_gS 68 [oe_x, oe_m, oe_t119] 400000 oe_t118 = true := by decide +kernel
theorem ok_t118 (hst : l.stackTraces = false) (h8 : r 8 = r 0 &&& nI 31) (hg : mv_in mv_gS r) : mv_OK l D cs r b0 b mv_mi 68 oe_t118 := mv_mkb hst h8 hg (mv_hs (ok_x hst h8 hg) (mv_hs (ok_m hst h8 hg) (mv_hs (ok_t119 hst h8 hg) mv_hn))) oc_t118 ev_t118
theorem oc_t117 : mv_OC 68 oe_t117 := mv_och (by decide +kernel) hc_0.1 hc_n.1 hc_0.2 hc_n.2
set_option maxRecDepth 1000000 in
theorem ev_t117 : mv_evb mv_gS 68 [oe_x, oe_m, oe_t118] 400000 oe_t117 = true := by decide +kernel
theorem ok_t117 (hst : l.stackTraces = false) (h8 : r 8 = r 0 &&& nI 31) (hg : mv_in mv_gS r) : mv_OK l D cs r b0 b mv_mi 68 oe_t117 := mv_mkb hst h8 hg (mv_hs (ok_x hst h8 hg) (mv_hs (ok_m hst h8 hg) (mv_hs (ok_t118 hst h8 hg) mv_hn))) oc_t117 ev_t117
theorem oc_t116 : mv_OC 68 oe_t116 := mv_och (by decide +kernel) hc_0.1 hc_n.1 hc_0.2 hc_n.2
set_option maxRecDepth 1000000 in
theorem ev_t116 : mv_evb mv_gS 68 [oe_x, oe_m, oe_t117] 400000 oe_t116 = true := by decide +kernel
theorem ok_t116 (hst : l.stackTraces = false) (h8 : r 8 = r 0 &&& nI 31) (hg : mv_in mv_gS r) : mv_OK l D cs r b0 b mv_mi 68 oe_t116 := mv_mkb hst h8 hg (mv_hs (ok_x hst h8 hg) (mv_hs (ok_m hst h8 hg) (mv_hs (ok_t117 hst h8 hg) mv_hn))) oc_t116 ev_t116
theorem oc_t115 : mv_OC 68 oe_t115 := mv_och (by decide +kernel) hc_0.1 hc_n.1 hc_0.2 hc_n.2
set_option maxRecDepth 1000000 in
theorem ev_t115 : mv_evb mv_gS 68 [oe_x, oe_m, oe_t116] 400000 oe_t115 = true := by decide +kernel
theorem ok_t115 (hst : l.stackTraces = false) (h8 : r 8 = r 0 &&& nI 31) (hg : mv_in mv_gS r) : mv_OK l D cs r b0 b mv_mi 68 oe_t115 := mv_mkb hst h8 hg (mv_hs (ok_x hst h8 hg) (mv_hs (ok_m hst h8 hg) (mv_hs (ok_t116 hst h8 hg) mv_hn))) oc_t115 ev_t115
theorem oc_t114 : mv_OC 68 oe_t114 := mv_och (by decide +kernel) hc_0.1 hc_n.1 hc_0.2 hc_n.2
set_option maxRecDepth 1000000 in
theorem ev_t114 : mv_evb mv_gS 68 [oe_x, oe_m, oe_t115] 400000 oe_t114 = true := by decide +kernel
theorem ok_t114 (hst : l.stackTraces = false) (h8 : r 8 = r 0 &&& nI 31) (hg : mv_in mv_gS r) : mv_OK l D cs r b0 b mv_mi 68 oe_t114 := mv_mkb hst h8 hg (mv_hs (ok_x hst h8 hg) (mv_hs (ok_m hst h8 hg) (mv_hs (ok_t115 hst h8 hg) mv_hn))) oc_t114 ev_t114
theorem oc_t113 : mv_OC 68 oe_t113 := mv_och (by decide +kernel) hc_0.1 hc_n.1 hc_0.2 hc_n.2
set_option maxRecDepth 1000000 in
theorem ev_t113 : mv_evb mv_gS 68 [oe_x, oe_m, oe_t114] 400000 oe_t113 = true := by decide +kernel
theorem ok_t113 (hst : l.stackTraces = false) (h8 : r 8 = r 0 &&& nI 31) (hg : mv_in mv_gS r) : mv_OK l D cs r b0 b mv_mi 68 oe_t113 := mv_mkb hst h8 hg (mv_hs (ok_x hst h8 hg) (mv_hs (ok_m hst h8 hg) (mv_hs (ok_t114 hst h8 hg) mv_hn))) oc_t113 ev_t113
theorem oc_t112 : mv_OC 68 oe_t112 := mv_och (by decide +kernel) hc_0.1 hc_n.1 hc_0.2 hc_n.2
set_option maxRecDepth 1000000 in
theorem ev_t112 : mv_evb mv_gS 68 [oe_x, oe_m, oe_t113] 400000 oe_t112 = true := by decide +kernel
theorem ok_t112 (hst : l.stackTraces = false) (h8 : r 8 = r 0 &&& nI 31) (hg : mv_in mv_gS r) : mv_OK l D cs r b0 b mv_mi 68 oe_t112 := mv_mkb hst h8 hg (mv_hs (ok_x hst h8 hg) (mv_hs (ok_m hst h8 hg) (mv_hs (ok_t113 hst h8 hg) mv_hn))) oc_t112 ev_t112
theorem oc_t111 : mv_OC 68 oe_t111 := mv_och (by decide +kernel) hc_0.1 hc_n.1 hc_0.2 hc_n.2
set_option maxRecDepth 1000000 in
theorem ev_t111 : mv_evb mv_gS 68 [oe_x, oe_m, oe_t112] 400000 oe_t111 = true := by decide +kernel
theorem ok_t111 (hst : l.stackTraces = false) (h8 : r 8 = r 0 &&& nI 31) (hg : mv_in mv_gS r) : mv_OK l D cs r b0 b mv_mi 68 oe_t111 := mv_mkb hst h8 hg (mv_hs (ok_x hst h8 hg) (mv_hs (ok_m hst h8 hg) (mv_hs (ok_t112 hst h8 hg) mv_hn))) oc_t111 ev_t111
theorem oc_t110 : mv_OC 68 oe_t110 := mv_och (by decide +kernel) hc_0.1 hc_n.1 hc_0.2 hc_n.2
set_option maxRecDepth 1000000 in
theorem ev_t110 : mv_evb mv_gS 68 [oe_x, oe_m, oe_t111] 400000 oe_t110 = true := by decide +kernel
theorem ok_t110 (hst : l.stackTraces = false) (h8 : r 8 = r 0 &&& nI 31) (hg : mv_in mv_gS r) : mv_OK l D cs r b0 b mv_mi 68 oe_t110 := mv_mkb hst h8 hg (mv_hs (ok_x hst h8 hg) (mv_hs (ok_m hst h8 hg) (mv_hs (ok_t111 hst h8 hg) mv_hn))) oc_t110 ev_t110
theorem oc_t109 : mv_OC 68 oe_t109 := mv_och (by decide +kernel) hc_0.1 hc_n.1 hc_0.2 hc_n.2
set_option maxRecDepth 1000000 in
theorem ev_t109 : mv_evb mv_gS 68 [oe_x, oe_m, oe_t110] 400000 oe_t109 = true := by decide +kernel
theorem ok_t109 (hst : l.stackTraces = false) (h8 : r 8 = r 0 &&& nI 31) (hg : mv_in mv_gS r) : mv_OK l D cs r b0 b mv_mi 68 oe_t109 := mv_mkb hst h8 hg (mv_hs (ok_x hst h8 hg) (mv_hs (ok_m hst h8 hg) (mv_hs (ok_t110 hst h8 hg) mv_hn))) oc_t109 ev_t109
theorem oc_t108 : mv_OC 68 oe_t108 := mv_och (by decide +kernel) hc_0.1 hc_n.1 hc_0.2 hc_n.2
set_option maxRecDepth 1000000 in
theorem ev_t108 : mv_evb mv_gS 68 [oe_x, oe_m, oe_t109] 400000 oe_t108 = true := by decide +kernel
theorem ok_t108 (hst : l.stackTraces = false) (h8 : r 8 = r 0 &&& nI 31) (hg : mv_in mv_gS r) : mv_OK l D cs r b0 b mv_mi 68 oe_t108 := mv_mkb hst h8 hg (mv_hs (ok_x hst h8 hg) (mv_hs (ok_m hst h8 hg) (mv_hs (ok_t109 hst h8 hg) mv_hn))) oc_t108 ev_t108
theorem oc_t107 : mv_OC 68 oe_t107 := mv_och (by decide +kernel) hc_0.1 hc_n.1 hc_0.2 hc_n.2
set_option maxRecDepth 1000000 in
theorem ev_t107 : mv_evb mv_gS 68 [oe_x, oe_m, oe_t108] 400000 oe_t107 = true := by decide +kernel
theorem ok_t107 (hst : l.stackTraces = false) (h8 : r 8 = r 0 &&& nI 31) (hg : mv_in mv_gS r) : mv_OK l D cs r b0 b mv_mi 68 oe_t107 := mv_mkb hst h8 hg (mv_hs (ok_x hst h8 hg) (mv_hs (ok_m hst h8 hg) (mv_hs (ok_t108 hst h8 hg) mv_hn))) oc_t107 ev_t107
theorem oc_t106 : mv_OC 68 oe_t106 := mv_och (by decide +kernel) hc_0.1 hc_n.1 hc_0.2 hc_n.2
set_option maxRecDepth 1000000 in
theorem ev_t106 : mv_evb mv_gS 68 [oe_x, oe_m, oe_t107] 400000 oe_t106 = true := by decide +kernel
theorem ok_t106 (hst : l.stackTraces = false) (h8 : r 8 = r 0 &&& nI 31) (hg : mv_in mv_gS r) : mv_OK l D cs r b0 b mv_mi 68 oe_t106 := mv_mkb hst h8 hg (mv_hs (ok_x hst h8 hg) (mv_hs (ok_m hst h8 hg) (mv_hs (ok_t107 hst h8 hg) mv_hn))) oc_t106 ev_t106
theorem oc_t105 : mv_OC 68 oe_t105 := mv_och (by decide +kernel) hc_0.1 hc_n.1 hc_0.2 hc_n.2
set_option maxRecDepth 1000000 in
theorem ev_t105 : mv_evb mv_gS 68 [oe_x, oe_m, oe_t106] 400000 oe_t105 = true := by decide +kernel
theorem ok_t105 (hst : l.stackTraces = false) (h8 : r 8 = r 0 &&& nI 31) (hg : mv_in mv_gS r) : mv_OK l D cs r b0 b mv_mi 68 oe_t105 := mv_mkb hst h8 hg (mv_hs (ok_x hst h8 hg) (mv_hs (ok_m hst h8 hg) (mv_hs (ok_t106 hst h8 hg) mv_hn))) oc_t105 ev_t105
theorem oc_t104 : mv_OC 68 oe_t104 := mv_och (by decide +kernel) hc_0.1 hc_n.1 hc_0.2 hc_n.2
set_option maxRecDepth 1000000 in
theorem ev_t104 : mv_evb mv_gS 68 [oe_x, oe_m, oe_t105] 400000 oe_t104 = true := by decide +kernel
theorem ok_t104 (hst : l.stackTraces = false) (h8 : r 8 = r 0 &&& nI 31) (hg : mv_in mv_gS r) : mv_OK l D cs r b0 b mv_mi 68 oe_t104 := mv_mkb hst h8 hg (mv_hs (ok_x hst h8 hg) (mv_hs (ok_m hst h8 hg) (mv_hs (ok_t105 hst h8 hg) mv_hn))) oc_t104 ev_t104
theorem oc_t103 : mv_OC 68 oe_t103 := mv_och (by decide +kernel) hc_0.1 hc_n.1 hc_0.2 hc_n.2
set_option maxRecDepth 1000000 in
theorem ev_t103 : mv_evb mv_gS 68 [oe_x, oe_m, oe_t104] 400000 oe_t103 = true := by decide +kernel
theorem ok_t103 (hst : l.stackTraces = false) (h8 : r 8 = r 0 &&& nI 31) (hg : mv_in mv_gS r) : mv_OK l D cs r b0 b mv_mi 68 oe_t103 := mv_mkb hst h8 hg (mv_hs (ok_x hst h8 hg) (mv_hs (ok_m hst h8 hg) (mv_hs (ok_t104 hst h8 hg) mv_hn))) oc_t103 ev_t103
theorem oc_t102 : mv_OC 68 oe_t102 := mv_och (by decide +kernel) hc_0.1 hc_n.1 hc_0.2 hc_n.2
set_option maxRecDepth 1000000 in
theorem ev_t102 : mv_evb mv_gS 68 [oe_x, oe_m, oe_t103] 400000 oe_t102 = true := by decide +kernel
theorem ok_t102 (hst : l.stackTraces = false) (h8 : r 8 = r 0 &&& nI 31) (hg : mv_in mv_gS r) : mv_OK l D cs r b0 b mv_mi 68 oe_t102 := mv_mkb hst h8 hg (mv_hs (ok_x hst h8 hg) (mv_hs (ok_m hst h8 hg) (mv_hs (ok_t103 hst h8 hg) mv_hn))) oc_t102 ev_t102
theorem oc_t101 : mv_OC 68 oe_t101 := mv_och (by decide +kernel) hc_0.1 hc_n.1 hc_0.2 hc_n.2
set_option maxRecDepth 1000000 in
theorem ev_t101 : mv_evb mv_gS 68 [oe_x, oe_m, oe_t102] 400000 oe_t101 = true := by decide +kernel
theorem ok_t101 (hst : l.stackTraces = false) (h8 : r 8 = r 0 &&& nI 31) (hg : mv_in mv_gS r) : mv_OK l D cs r b0 b mv_mi 68 oe_t101 := mv_mkb hst h8 hg (mv_hs (ok_x hst h8 hg) (mv_hs (ok_m hst h8 hg) (mv_hs (ok_t102 hst h8 hg) mv_hn))) oc_t101 ev_t101
theorem oc_t100 : mv_OC 68 oe_t100 := mv_och (by decide +kernel) hc_0.1 hc_n.1 hc_0.2 hc_n.2
set_option maxRecDepth 1000000 in
theorem ev_t100 : mv_evb mv_gS 68 [oe_x, oe_m, oe_t101] 400000 oe_t100 = true := by decide +kernel
theorem ok_t100 (hst : l.stackTraces = false) (h8 : r 8 = r 0 &&& nI 31) (hg : mv_in mv_gS r) : mv_OK l D cs r b0 b mv_mi 68 oe_t100 := mv_mkb hst h8 hg (mv_hs (ok_x hst h8 hg) (mv_hs (ok_m hst h8 hg) (mv_hs (ok_t101 hst h8 hg) mv_hn))) oc_t100 ev_t100
theorem oc_t99 : mv_OC 68 oe_t99 := mv_och (by decide +kernel) hc_0.1 hc_n.1 hc_0.2 hc_n.2
set_option maxRecDepth 1000000 in
theorem ev_t99 : mv_evb mv_gS 68 [oe_x, oe_m, oe_t100] 400000 oe_t99 = true := by decide +kernel
theorem ok_t99 (hst : l.stackTraces = false) (h8 : r 8 = r 0 &&& nI 31) (hg : mv_in mv_gS r) : mv_OK l D cs r b0 b mv_mi 68 oe_t99 := mv_mkb hst h8 hg (mv_hs (ok_x hst h8 hg) (mv_hs (ok_m hst h8 hg) (mv_hs (ok_t100 hst h8 hg) mv_hn))) oc_t99 ev_t99
theorem oc_t98 : mv_OC 68 oe_t98 := mv_och (by decide +kernel) hc_0.1 hc_n.1 hc_0.2 hc_n.2
set_option maxRecDepth 1000000 in
theorem ev_t98 : mv_evb mv_gS 68 [oe_x, oe_m, oe_t99] 400000 oe_t98 = true := by decide +kernel
theorem ok_t98 (hst : l.stackTraces = false) (h8 : r 8 = r 0 &&& nI 31) (hg : mv_in mv_gS r) : mv_OK l D cs r b0 b mv_mi 68 oe_t98 := mv_mkb hst h8 hg (mv_hs (ok_x hst h8 hg) (mv_hs (ok_m hst h8 hg) (mv_hs (ok_t99 hst h8 hg) mv_hn))) oc_t98 ev_t98
theorem oc_t97 : mv_OC 68 oe_t97 := mv_och (by decide +kernel) hc_0.1 hc_n.1 hc_0.2 hc_n.2
set_option maxRecDepth 1000000 in
theorem ev_t97 : mv_evb mv_gS 68 [oe_x, oe_m, oe_t98] 400000 oe_t97 = true := by decide +kernel
theorem ok_t97 (hst : l.stackTraces = false) (h8 : r 8 = r 0 &&& nI 31) (hg : mv_in mv_gS r) : mv_OK l D cs r b0 b mv_mi 68 oe_t97 := mv_mkb hst h8 hg (mv_hs (ok_x hst h8 hg) (mv_hs (ok_m hst h8 hg) (mv_hs (ok_t98 hst h8 hg) mv_hn))) oc_t97 ev_t97
theorem oc_t96 : mv_OC 68 oe_t96 := mv_och (by decide +kernel) hc_0.1 hc_n.1 hc_0.2 hc_n.2
set_option maxRecDepth 1000000 in
theorem ev_t96 : mv_evb mv_gS 68 [oe_x, oe_m, oe_t97] 400000 oe_t96 = true := by decide +kernel
theorem ok_t96 (hst : l.stackTraces = false) (h8 : r 8 = r 0 &&& nI 31) (hg : mv_in mv_gS r) : mv_OK l D cs r b0 b mv_mi 68 oe_t96 := mv_mkb hst h8 hg (mv_hs (ok_x hst h8 hg) (mv_hs (ok_m hst h8 hg) (mv_hs (ok_t97 hst h8 hg) mv_hn))) oc_t96 ev_t96
theorem oc_t95 : mv_OC 68 oe_t95 := mv_och (by decide +kernel) hc_0.1 hc_n.1 hc_0.2 hc_n.2
set_option maxRecDepth 1000000 in
theorem ev_t95 : mv_evb mv_gS 68 [oe_x, oe_m, oe_t96] 400000 oe_t95 = true := by decide +kernel
theorem ok_t95 (hst : l.stackTraces = false) (h8 : r 8 = r 0 &&& nI 31) (hg : mv_in mv_gS r) : mv_OK l D cs r b0 b mv_mi 68 oe_t95 := mv_mkb hst h8 hg (mv_hs (ok_x hst h8 hg) (mv_hs (ok_m hst h8 hg) (mv_hs (ok_t96 hst h8 hg) mv_hn))) oc_t95 ev_t95
theorem oc_t94 : mv_OC 68 oe_t94 := mv_och (by decide +kernel) hc_0.1 hc_n.1 hc_0.2 hc_n.2
set_option maxRecDepth 1000000 in
theorem ev_t94 : mv_evb mv_gS 68 [oe_x, oe_m, oe_t95] 400000 oe_t94 = true := by decide +kernel
theorem ok_t94 (hst : l.stackTraces = false) (h8 : r 8 = r 0 &&& nI 31) (hg : mv_in mv_gS r) : mv_OK l D cs r b0 b mv_mi 68 oe_t94 := mv_mkb hst h8 hg (mv_hs (ok_x hst h8 hg) (mv_hs (ok_m hst h8 hg) (mv_hs (ok_t95 hst h8 hg) mv_hn))) oc_t94 ev_t94
theorem oc_t93 : mv_OC 68 oe_t93 := mv_och (by decide +kernel) hc_0.1 hc_n.1 hc_0.2 hc_n.2
set_option maxRecDepth 1000000 in
theorem ev_t93 : mv_evb mv_gS 68 [oe_x, oe_m, oe_t94] 400000 oe_t93 = true := by decide +kernel
theorem ok_t93 (hst : l.stackTraces = false) (h8 : r 8 = r 0 &&& nI 31) (hg : mv_in mv_gS r) : mv_OK l D cs r b0 b mv_mi 68 oe_t93 := mv_mkb hst h8 hg (mv_hs (ok_x hst h8 hg) (mv_hs (ok_m hst h8 hg) (mv_hs (ok_t94 hst h8 hg) mv_hn))) oc_t93 ev_t93
theorem oc_t92 : mv_OC 68 oe_t92 := mv_och (by decide +kernel) hc_0.1 hc_n.1 hc_0.2 hc_n.2
set_option maxRecDepth 1000000 in
theorem ev_t92 : mv_evb mv_gS 68 [oe_x, oe_m, oe_t93] 400000 oe_t92 = true := by decide +kernel
theorem ok_t92 (hst : l.stackTraces = false) (h8 : r 8 = r 0 &&& nI 31) (hg : mv_in mv_gS r) : mv_OK l D cs r b0 b mv_mi 68 oe_t92 := mv_mkb hst h8 hg (mv_hs (ok_x hst h8 hg) (mv_hs (ok_m hst h8 hg) (mv_hs (ok_t93 hst h8 hg) mv_hn))) oc_t92 ev_t92
theorem oc_t91 : mv_OC 68 oe_t91 := mv_och (by decide +kernel) hc_0.1 hc_n.1 hc_0.2 hc_n.2
set_option maxRecDepth 1000000 in
theorem ev_t91 : mv_evb mv_gS 68 [oe_x, oe_m, oe_t92] 400000 oe_t91 = true := by decide +kernel
theorem ok_t91 (hst : l.stackTraces = false) (h8 : r 8 = r 0 &&& nI 31) (hg : mv_in mv_gS r) : mv_OK l D cs r b0 b mv_mi 68 oe_t91 := mv_mkb hst h8 hg (mv_hs (ok_x hst h8 hg) (mv_hs (ok_m hst h8 hg) (mv_hs (ok_t92 hst h8 hg) mv_hn))) oc_t91 ev_t91
theorem oc_t90 : mv_OC 68 oe_t90 := mv_och (by decide +kernel) hc_0.1 hc_n.1 hc_0.2 hc_n.2
set_option maxRecDepth 1000000 in
theorem ev_t90 : mv_evb mv_gS 68 [oe_x, oe_m, oe_t91] 400000 oe_t90 = true := by decide +kernel
theorem ok_t90 (hst : l.stackTraces = false) (h8 : r 8 = r 0 &&& nI 31) (hg : mv_in mv_gS r) : mv_OK l D cs r b0 b mv_mi 68 oe_t90 := mv_mkb hst h8 hg (mv_hs (ok_x hst h8 hg) (mv_hs (ok_m hst h8 hg) (mv_hs (ok_t91 hst h8 hg) mv_hn))) oc_t90 ev_t90
theorem oc_t89 : mv_OC 68 oe_t89 := mv_och (by decide +kernel) hc_0.1 hc_n.1 hc_0.2 hc_n.2
set_option maxRecDepth 1000000 in
theorem ev_t89 : mv_evb mv_gS 68 [oe_x, oe_m, oe_t90] 400000 oe_t89 = true := by decide +kernel
theorem ok_t89 (hst : l.stackTraces = false) (h8 : r 8 = r 0 &&& nI 31) (hg : mv_in mv_gS r) : mv_OK l D cs r b0 b mv_mi 68 oe_t89 := mv_mkb hst h8 hg (mv_hs (ok_x hst h8 hg) (mv_hs (ok_m hst h8 hg) (mv_hs (ok_t90 hst h8 hg) mv_hn))) oc_t89 ev_t89
theorem oc_t88 : mv_OC 68 oe_t88 := mv_och (by decide +kernel) hc_0.1 hc_n.1 hc_0.2 hc_n.2
set_option maxRecDepth 1000000 in
theorem ev_t88 : mv_evb mv_gS 68 [oe_x, oe_m, oe_t89] 400000 oe_t88 = true := by decide +kernel
theorem ok_t88 (hst : l.stackTraces = false) (h8 : r 8 = r 0 &&& nI 31) (hg : mv_in mv_gS r) : mv_OK l D cs r b0 b mv_mi 68 oe_t88 := mv_mkb hst h8 hg (mv_hs (ok_x hst h8 hg) (mv_hs (ok_m hst h8 hg) (mv_hs (ok_t89 hst h8 hg) mv_hn))) oc_t88 ev_t88
theorem oc_t87 : mv_OC 68 oe_t87 := mv_och (by decide +kernel) hc_0.1 hc_n.1 hc_0.2 hc_n.2
set_option maxRecDepth 1000000 in
theorem ev_t87 : mv_evb mv_gS 68 [oe_x, oe_m, oe_t88] 400000 oe_t87 = true := by decide +kernel
theorem ok_t87 (hst : l.stackTraces = false) (h8 : r 8 = r 0 &&& nI 31) (hg : mv_in mv_gS r) : mv_OK l D cs r b0 b mv_mi 68 oe_t87 := mv_mkb hst h8 hg (mv_hs (ok_x hst h8 hg) (mv_hs (ok_m hst h8 hg) (mv_hs (ok_t88 hst h8 hg) mv_hn))) oc_t87 ev_t87
theorem oc_t86 : mv_OC 68 oe_t86 := mv_och (by decide +kernel) hc_0.1 hc_n.1 hc_0.2 hc_n.2
set_option maxRecDepth 1000000 in
theorem ev_t86 : mv_evb mv_gS 68 [oe_x, oe_m, oe_t87] 400000 oe_t86 = true := by decide +kernel
theorem ok_t86 (hst : l.stackTraces = false) (h8 : r 8 = r 0 &&& nI 31) (hg : mv_in mv_gS r) : mv_OK l D cs r b0 b mv_mi 68 oe_t86 := mv_mkb hst h8 hg (mv_hs (ok_x hst h8 hg) (mv_hs (ok_m hst h8 hg) (mv_hs (ok_t87 hst h8 hg) mv_hn))) oc_t86 ev_t86
theorem oc_t85 : mv_OC 68 oe_t85 := mv_och (by decide +kernel) hc_0.1 hc_n.1 hc_0.2 hc_n.2
set_option maxRecDepth 1000000 in
theorem ev_t85 : mv_evb mv_gS 68 [oe_x, oe_m, oe_t86] 400000 oe_t85 = true := by decide +kernel
theorem ok_t85 (hst : l.stackTraces = false) (h8 : r 8 = r 0 &&& nI 31) (hg : mv_in mv_gS r) : mv_OK l D cs r b0 b mv_mi 68 oe_t85 := mv_mkb hst h8 hg (mv_hs (ok_x hst h8 hg) (mv_hs (ok_m hst h8 hg) (mv_hs (ok_t86 hst h8 hg) mv_hn))) oc_t85 ev_t85
theorem oc_t84 : mv_OC 68 oe_t84 := mv_och (by decide +kernel) hc_0.1 hc_n.1 hc_0.2 hc_n.2
set_option maxRecDepth 1000000 in
theorem ev_t84 : mv_evb mv_gS 68 [oe_x, oe_m, oe_t85] 400000 oe_t84 = true := by decide +kernel
theorem ok_t84 (hst : l.stackTraces = false) (h8 : r 8 = r 0 &&& nI 31) (hg : mv_in mv_gS r) : mv_OK l D cs r b0 b mv_mi 68 oe_t84 := mv_mkb hst h8 hg (mv_hs (ok_x hst h8 hg) (mv_hs (ok_m hst h8 hg) (mv_hs (ok_t85 hst h8 hg) mv_hn))) oc_t84 ev_t84
theorem oc_t83 : mv_OC 68 oe_t83 := mv_och (by decide +kernel) hc_0.1 hc_n.1 hc_0.2 hc_n.2
set_option maxRecDepth 1000000 in
theorem ev_t83 : mv_evb mv_gS 68 [oe_x, oe_m, oe_t84] 400000 oe_t83 = true := by decide +kernel
theorem ok_t83 (hst : l.stackTraces = false) (h8 : r 8 = r 0 &&& nI 31) (hg : mv_in mv_gS r) : mv_OK l D cs r b0 b mv_mi 68 oe_t83 := mv_mkb hst h8 hg (mv_hs (ok_x hst h8 hg) (mv_hs (ok_m hst h8 hg) (mv_hs (ok_t84 hst h8 hg) mv_hn))) oc_t83 ev_t83
theorem oc_t82 : mv_OC 68 oe_t82 := mv_och (by decide +kernel) hc_0.1 hc_n.1 hc_0.2 hc_n.2
set_option maxRecDepth 1000000 in
theorem ev_t82 : mv_evb mv_gS 68 [oe_x, oe_m, oe_t83] 400000 oe_t82 = true := by decide +kernel
theorem ok_t82 (hst : l.stackTraces = false) (h8 : r 8 = r 0 &&& nI 31) (hg : mv_in mv_gS r) : mv_OK l D cs r b0 b mv_mi 68 oe_t82 := mv_mkb hst h8 hg (mv_hs (ok_x hst h8 hg) (mv_hs (ok_m hst h8 hg) (mv_hs (ok_t83 hst h8 hg) mv_hn))) oc_t82 ev_t82
theorem oc_t81 : mv_OC 68 oe_t81 := mv_och (by decide +kernel) hc_0.1 hc_n.1 hc_0.2 hc_n.2
set_option maxRecDepth 1000000 in
theorem ev_t81 : mv_evb mv_gS 68 [oe_x, oe_m, oe_t82] 400000 oe_t81 = true := by decide +kernel
theorem ok_t81 (hst : l.stackTraces = false) (h8 : r 8 = r 0 &&& nI 31) (hg : mv_in mv_gS r) : mv_OK l D cs r b0 b mv_mi 68 oe_t81 := mv_mkb hst h8 hg (mv_hs (ok_x hst h8 hg) (mv_hs (ok_m hst h8 hg) (mv_hs (ok_t82 hst h8 hg) mv_hn))) oc_t81 ev_t81
theorem oc_t80 : mv_OC 68 oe_t80 := mv_och (by decide +kernel) hc_0.1 hc_n.1 hc_0.2 hc_n.2
set_option maxRecDepth 1000000 in
theorem ev_t80 : mv_evb mv_gS 68 [oe_x, oe_m, oe_t81] 400000 oe_t80 = true := by decide +kernel
theorem ok_t80 (hst : l.stackTraces = false) (h8 : r 8 = r 0 &&& nI 31) (hg : mv_in mv_gS r) : mv_OK l D cs r b0 b mv_mi 68 oe_t80 := mv_mkb hst h8 hg (mv_hs (ok_x hst h8 hg) (mv_hs (ok_m hst h8 hg) (mv_hs (ok_t81 hst h8 hg) mv_hn))) oc_t80 ev_t80
theorem oc_t79 : mv_OC 68 oe_t79 := mv_och (by decide +kernel) hc_0.1 hc_n.1 hc_0.2 hc_n.2
set_option maxRecDepth 1000000 in
theorem ev_t79 : mv_evb mv_gS 68 [oe_x, oe_m, oe_t80] 400000 oe_t79 = true := by decide +kernel
theorem ok_t79 (hst : l.stackTraces = false) (h8 : r 8 = r 0 &&& nI 31) (hg : mv_in mv_gS r) : mv_OK l D cs r b0 b mv_mi 68 oe_t79 := mv_mkb hst h8 hg (mv_hs (ok_x hst h8 hg) (mv_hs (ok_m hst h8 hg) (mv_hs (ok_t80 hst h8 hg) mv_hn))) oc_t79 ev_t79
theorem oc_t78 : mv_OC 68 oe_t78 := mv_och (by decide +kernel) hc_0.1 hc_n.1 hc_0.2 hc_n.2
set_option maxRecDepth 1000000 in
theorem ev_t78 : mv_evb mv_gS 68 [oe_x, oe_m, oe_t79] 400000 oe_t78 = true := by decide +kernel
theorem ok_t78 (hst : l.stackTraces = false) (h8 : r 8 = r 0 &&& nI 31) (hg : mv_in mv_gS r) : mv_OK l D cs r b0 b mv_mi 68 oe_t78 := mv_mkb hst h8 hg (mv_hs (ok_x hst h8 hg) (mv_hs (ok_m hst h8 hg) (mv_hs (ok_t79 hst h8 hg) mv_hn))) oc_t78 ev_t78
theorem oc_t77 : mv_OC 68 oe_t77 := mv_och (by decide +kernel) hc_0.1 hc_n.1 hc_0.2 hc_n.2
set_option maxRecDepth 1000000 in
theorem ev_t77 : mv_evb mv_gS 68 [oe_x, oe_m, oe_t78] 400000 oe_t77 = true := by decide +kernel
theorem ok_t77 (hst : l.stackTraces = false) (h8 : r 8 = r 0 &&& nI 31) (hg : mv_in mv_gS r) : mv_OK l D cs r b0 b mv_mi 68 oe_t77 := mv_mkb hst h8 hg (mv_hs (ok_x hst h8 hg) (mv_hs (ok_m hst h8 hg) (mv_hs (ok_t78 hst h8 hg) mv_hn))) oc_t77 ev_t77
theorem oc_t76 : mv_OC 68 oe_t76 := mv_och (by decide +kernel) hc_0.1 hc_n.1 hc_0.2 hc_n.2
set_option maxRecDepth 1000000 in
theorem ev_t76 : mv_evb mv_gS 68 [oe_x, oe_m, oe_t77] 400000 oe_t76 = true := by decide +kernel
theorem ok_t76 (hst : l.stackTraces = false) (h8 : r 8 = r 0 &&& nI 31) (hg : mv_in mv_gS r) : mv_OK l D cs r b0 b mv_mi 68 oe_t76 := mv_mkb hst h8 hg (mv_hs (ok_x hst h8 hg) (mv_hs (ok_m hst h8 hg) (mv_hs (ok_t77 hst h8 hg) mv_hn))) oc_t76 ev_t76
theorem oc_t75 : mv_OC 68 oe_t75 := mv_och (by decide +kernel) hc_0.1 hc_n.1 hc_0.2 hc_n.2
set_option maxRecDepth 1000000 in
theorem ev_t75 : mv_evb mv_gS 68 [oe_x, oe_m, oe_t76] 400000 oe_t75 = true := by decide +kernel
theorem ok_t75 (hst : l.stackTraces = false) (h8 : r 8 = r 0 &&& nI 31) (hg : mv_in mv_gS r) : mv_OK l D cs r b0 b mv_mi 68 oe_t75 := mv_mkb hst h8 hg (mv_hs (ok_x hst h8 hg) (mv_hs (ok_m hst h8 hg) (mv_hs (ok_t76 hst h8 hg) mv_hn))) oc_t75 ev_t75
theorem oc_t74 : mv_OC 68 oe_t74 := mv_och (by decide +kernel) hc_0.1 hc_n.1 hc_0.2 hc_n.2
set_option maxRecDepth 1000000 in
theorem ev_t74 : mv_evb mv_gS 68 [oe_x, oe_m, oe_t75] 400000 oe_t74 = true := by decide +kernel
theorem ok_t74 (hst : l.stackTraces = false) (h8 : r 8 = r 0 &&& nI 31) (hg : mv_in mv_gS r) : mv_OK l D cs r b0 b mv_mi 68 oe_t74 := mv_mkb hst h8 hg (mv_hs (ok_x hst h8 hg) (mv_hs (ok_m hst h8 hg) (mv_hs (ok_t75 hst h8 hg) mv_hn))) oc_t74 ev_t74
theorem oc_t73 : mv_OC 68 oe_t73 := mv_och (by decide +kernel) hc_0.1 hc_n.1 hc_0.2 hc_n.2
set_option maxRecDepth 1000000 in
theorem ev_t73 : mv_evb mv_gS 68 [oe_x, oe_m, oe_t74] 400000 oe_t73 = true := by decide +kernel
theorem ok_t73 (hst : l.stackTraces = false) (h8 : r 8 = r 0 &&& nI 31) (hg : mv_in mv_gS r) : mv_OK l D cs r b0 b mv_mi 68 oe_t73 := mv_mkb hst h8 hg (mv_hs (ok_x hst h8 hg) (mv_hs (ok_m hst h8 hg) (mv_hs (ok_t74 hst h8 hg) mv_hn))) oc_t73 ev_t73
theorem oc_t72 : mv_OC 68 oe_t72 := mv_och (by decide +kernel) hc_0.1 hc_n.1 hc_0.2 hc_n.2
set_option maxRecDepth 1000000 in
theorem ev_t72 : mv_evb mv_gS 68 [oe_x, oe_m, oe_t73] 400000 oe_t72 = true := by decide +kernel
theorem ok_t72 (hst : l.stackTraces = false) (h8 : r 8 = r 0 &&& nI 31) (hg : mv_in mv_gS r) : mv_OK l D cs r b0 b mv_mi 68 oe_t72 := mv_mkb hst h8 hg (mv_hs (ok_x hst h8 hg) (mv_hs (ok_m hst h8 hg) (mv_hs (ok_t73 hst h8 hg) mv_hn))) oc_t72 ev_t72
theorem oc_t71 : mv_OC 68 oe_t71 := mv_och (by decide +kernel) hc_0.1 hc_n.1 hc_0.2 hc_n.2
set_option maxRecDepth 1000000 in
theorem ev_t71 : mv_evb mv_gS 68 [oe_x, oe_m, oe_t72] 400000 oe_t71 = true := by decide +kernel
theorem ok_t71 (hst : l.stackTraces = false) (h8 : r 8 = r 0 &&& nI 31) (hg : mv_in mv_gS r) : mv_OK l D cs r b0 b mv_mi 68 oe_t71 := mv_mkb hst h8 hg (mv_hs (ok_x hst h8 hg) (mv_hs (ok_m hst h8 hg) (mv_hs (ok_t72 hst h8 hg) mv_hn))) oc_t71 ev_t71
theorem oc_t70 : mv_OC 68 oe_t70 := mv_och (by decide +kernel) hc_0.1 hc_n.1 hc_0.2 hc_n.2
set_option maxRecDepth 1000000 in
theorem ev_t70 : mv_evb mv_gS 68 [oe_x, oe_m, oe_t71] 400000 oe_t70 = true := by decide +kernel
theorem ok_t70 (hst : l.stackTraces = false) (h8 : r 8 = r 0 &&& nI 31) (hg : mv_in mv_gS r) : mv_OK l D cs r b0 b mv_mi 68 oe_t70 := mv_mkb hst h8 hg (mv_hs (ok_x hst h8 hg) (mv_hs (ok_m hst h8 hg) (mv_hs (ok_t71 hst h8 hg) mv_hn))) oc_t70 ev_t70
theorem oc_t69 : mv_OC 68 oe_t69 := mv_och (by decide +kernel) hc_0.1 hc_n.1 hc_0.2 hc_n.2
set_option maxRecDepth 1000000 in
theorem ev_t69 : mv_evb mv_gS 68 [oe_x, oe_m, oe_t70] 400000 oe_t69 = true := by decide +kernel
theorem ok_t69 (hst : l.stackTraces = false) (h8 : r 8 = r 0 &&& nI 31) (hg : mv_in mv_gS r) : mv_OK l D cs r b0 b mv_mi 68 oe_t69 := mv_mkb hst h8 hg (mv_hs (ok_x hst h8 hg) (mv_hs (ok_m hst h8 hg) (mv_hs (ok_t70 hst h8 hg) mv_hn))) oc_t69 ev_t69
theorem oc_t68 : mv_OC 68 oe_t68 := mv_och (by decide +kernel) hc_0.1 hc_n.1 hc_0.2 hc_n.2
set_option maxRecDepth 1000000 in
theorem ev_t68 : mv_evb mv_gS 68 [oe_x, oe_m, oe_t69] 400000 oe_t68 = true := by decide +kernel
theorem ok_t68 (hst : l.stackTraces = false) (h8 : r 8 = r 0 &&& nI 31) (hg : mv_in mv_gS r) : mv_OK l D cs r b0 b mv_mi 68 oe_t68 := mv_mkb hst h8 hg (mv_hs (ok_x hst h8 hg) (mv_hs (ok_m hst h8 hg) (mv_hs (ok_t69 hst h8 hg) mv_hn))) oc_t68 ev_t68
theorem oc_t67 : mv_OC 68 oe_t67 := mv_och (by decide +kernel) hc_0.1 hc_n.1 hc_0.2 hc_n.2
set_option maxRecDepth 1000000 in
theorem ev_t67 : mv_evb mv_gS 68 [oe_x, oe_m, oe_t68] 400000 oe_t67 = true := by decide +kernel
theorem ok_t67 (hst : l.stackTraces = false) (h8 : r 8 = r 0 &&& nI 31) (hg : mv_in mv_gS r) : mv_OK l D cs r b0 b mv_mi 68 oe_t67 := mv_mkb hst h8 hg (mv_hs (ok_x hst h8 hg) (mv_hs (ok_m hst h8 hg) (mv_hs (ok_t68 hst h8 hg) mv_hn))) oc_t67 ev_t67
theorem oc_t66 : mv_OC 68 oe_t66 := mv_och (by decide +kernel) hc_0.1 hc_n.1 hc_0.2 hc_n.2
set_option maxRecDepth 1000000 in
theorem ev_t66 : mv_evb mv_gS 68 [oe_x, oe_m, oe_t67] 400000 oe_t66 = true := by decide +kernel
theorem ok_t66 (hst : l.stackTraces = false) (h8 : r 8 = r 0 &&& nI 31) (hg : mv_in mv_gS r) : mv_OK l D cs r b0 b mv_mi 68 oe_t66 := mv_mkb hst h8 hg (mv_hs (ok_x hst h8 hg) (mv_hs (ok_m hst h8 hg) (mv_hs (ok_t67 hst h8 hg) mv_hn))) oc_t66 ev_t66
theorem oc_t65 : mv_OC 68 oe_t65 := mv_och (by decide +kernel) hc_0.1 hc_n.1 hc_0.2 hc_n.2
set_option maxRecDepth 1000000 in
theorem ev_t65 : mv_evb mv_gS 68 [oe_x, oe_m, oe_t66] 400000 oe_t65 = true := by decide +kernel
theorem ok_t65 (hst : l.stackTraces = false) (h8 : r 8 = r 0 &&& nI 31) (hg : mv_in mv_gS r) : mv_OK l D cs r b0 b mv_mi 68 oe_t65 := mv_mkb hst h8 hg (mv_hs (ok_x hst h8 hg) (mv_hs (ok_m hst h8 hg) (mv_hs (ok_t66 hst h8 hg) mv_hn))) oc_t65 ev_t65
theorem oc_t64 : mv_OC 68 oe_t64 := mv_och (by decide +kernel) hc_0.1 hc_n.1 hc_0.2 hc_n.2
set_option maxRecDepth 1000000 in
theorem ev_t64 : mv_evb mv_gS 68 [oe_x, oe_m, oe_t65] 400000 oe_t64 = true := by decide +kernel
theorem ok_t64 (hst : l.stackTraces = false) (h8 : r 8 = r 0 &&& nI 31) (hg : mv_in mv_gS r) : mv_OK l D cs r b0 b mv_mi 68 oe_t64 := mv_mkb hst h8 hg (mv_hs (ok_x hst h8 hg) (mv_hs (ok_m hst h8 hg) (mv_hs (ok_t65 hst h8 hg) mv_hn))) oc_t64 ev_t64
theorem oc_t63 : mv_OC 68 oe_t63 := mv_och (by decide +kernel) hc_0.1 hc_n.1 hc_0.2 hc_n.2
set_option maxRecDepth 1000000 in
theorem ev_t63 : mv_evb mv_gS 68 [oe_x, oe_m, oe_t64] 400000 oe_t63 = true := by decide +kernel
theorem ok_t63 (hst : l.stackTraces = false) (h8 : r 8 = r 0 &&& nI 31) (hg : mv_in mv_gS r) : mv_OK l D cs r b0 b mv_mi 68 oe_t63 := mv_mkb hst h8 hg (mv_hs (ok_x hst h8 hg) (mv_hs (ok_m hst h8 hg) (mv_hs (ok_t64 hst h8 hg) mv_hn))) oc_t63 ev_t63
theorem oc_t62 : mv_OC 68 oe_t62 := mv_och (by decide +kernel) hc_0.1 hc_n.1 hc_0.2 hc_n.2
set_option maxRecDepth 1000000 in
theorem ev_t62 : mv_evb mv_gS 68 [oe_x, oe_m, oe_t63] 400000 oe_t62 = true := by decide +kernel
theorem ok_t62 (hst : l.stackTraces = false) (h8 : r 8 = r 0 &&& nI 31) (hg : mv_in mv_gS r) : mv_OK l D cs r b0 b mv_mi 68 oe_t62 := mv_mkb hst h8 hg (mv_hs (ok_x hst h8 hg) (mv_hs (ok_m hst h8 hg) (mv_hs (ok_t63 hst h8 hg) mv_hn))) oc_t62 ev_t62
theorem oc_t61 : mv_OC 68 oe_t61 := mv_och (by decide +kernel) hc_0.1 hc_n.1 hc_0.2 hc_n.2
set_option maxRecDepth 1000000 in
theorem ev_t61 : mv_evb mv_gS 68 [oe_x, oe_m, oe_t62] 400000 oe_t61 = true := by decide +kernel
theorem ok_t61 (hst : l.stackTraces = false) (h8 : r 8 = r 0 &&& nI 31) (hg : mv_in mv_gS r) : mv_OK l D cs r b0 b mv_mi 68 oe_t61 := mv_mkb hst h8 hg (mv_hs (ok_x hst h8 hg) (mv_hs (ok_m hst h8 hg) (mv_hs (ok_t62 hst h8 hg) mv_hn))) oc_t61 ev_t61
theorem oc_t60 : mv_OC 68 oe_t60 := mv_och (by decide +kernel) hc_0.1 hc_n.1 hc_0.2 hc_n.2
set_option maxRecDepth 1000000 in
theorem ev_t60 : mv_evb mv_gS 68 [oe_x, oe_m, oe_t61] 400000 oe_t60 = true := by decide +kernel
theorem ok_t60 (hst : l.stackTraces = false) (h8 : r 8 = r 0 &&& nI 31) (hg : mv_in mv_gS r) : mv_OK l D cs r b0 b mv_mi 68 oe_t60 := mv_mkb hst h8 hg (mv_hs (ok_x hst h8 hg) (mv_hs (ok_m hst h8 hg) (mv_hs (ok_t61 hst h8 hg) mv_hn))) oc_t60 ev_t60
theorem oc_t59 : mv_OC 68 oe_t59 := mv_och (by decide +kernel) hc_0.1 hc_n.1 hc_0.2 hc_n.2
set_option maxRecDepth 1000000 in
theorem ev_t59 : mv_evb mv_gS 68 [oe_x, oe_m, oe_t60] 400000 oe_t59 = true := by decide +kernel
theorem ok_t59 (hst : l.stackTraces = false) (h8 : r 8 = r 0 &&& nI 31) (hg : mv_in mv_gS r) : mv_OK l D cs r b0 b mv_mi 68 oe_t59 := mv_mkb hst h8 hg (mv_hs (ok_x hst h8 hg) (mv_hs (ok_m hst h8 hg) (mv_hs (ok_t60 hst h8 hg) mv_hn))) oc_t59 ev_t59
theorem oc_t58 : mv_OC 68 oe_t58 := mv_och (by decide +kernel) hc_0.1 hc_n.1 hc_0.2 hc_n.2
set_option maxRecDepth 1000000 in
theorem ev_t58 : mv_evb mv_gS 68 [oe_x, oe_m, oe_t59] 400000 oe_t58 = true := by decide +kernel
theorem ok_t58 (hst : l.stackTraces = false) (h8 : r 8 = r 0 &&& nI 31) (hg : mv_in mv_gS r) : mv_OK l D cs r b0 b mv_mi 68 oe_t58 := mv_mkb hst h8 hg (mv_hs (ok_x hst h8 hg) (mv_hs (ok_m hst h8 hg) (mv_hs (ok_t59 hst h8 hg) mv_hn))) oc_t58 ev_t58
theorem oc_t57 : mv_OC 68 oe_t57 := mv_och (by decide +kernel) hc_0.1 hc_n.1 hc_0.2 hc_n.2
set_option maxRecDepth 1000000 in
theorem ev_t57 : mv_evb mv_gS 68 [oe_x, oe_m, oe_t58] 400000 oe_t57 = true := by decide +kernel
theorem ok_t57 (hst : l.stackTraces = false) (h8 : r 8 = r 0 &&& nI 31) (hg : mv_in mv_gS r) : mv_OK l D cs r b0 b mv_mi 68 oe_t57 := mv_mkb hst h8 hg (mv_hs (ok_x hst h8 hg) (mv_hs (ok_m hst h8 hg) (mv_hs (ok_t58 hst h8 hg) mv_hn))) oc_t57 ev_t57
theorem oc_t56 : mv_OC 68 oe_t56 := mv_och (by decide +kernel) hc_0.1 hc_n.1 hc_0.2 hc_n.2
set_option maxRecDepth 1000000 in
theorem ev_t56 : mv_evb mv_gS 68 [oe_x, oe_m, oe_t57] 400000 oe_t56 = true := by decide +kernel
theorem ok_t56 (hst : l.stackTraces = false) (h8 : r 8 = r 0 &&& nI 31) (hg : mv_in mv_gS r) : mv_OK l D cs r b0 b mv_mi 68 oe_t56 := mv_mkb hst h8 hg (mv_hs (ok_x hst h8 hg) (mv_hs (ok_m hst h8 hg) (mv_hs (ok_t57 hst h8 hg) mv_hn))) oc_t56 ev_t56
theorem oc_t55 : mv_OC 68 oe_t55 := mv_och (by decide +kernel) hc_0.1 hc_n.1 hc_0.2 hc_n.2
set_option maxRecDepth 1000000 in
theorem ev_t55 : mv_evb mv_gS 68 [oe_x, oe_m, oe_t56] 400000 oe_t55 = true := by decide +kernel
theorem ok_t55 (hst : l.stackTraces = false) (h8 : r 8 = r 0 &&& nI 31) (hg : mv_in mv_gS r) : mv_OK l D cs r b0 b mv_mi 68 oe_t55 := mv_mkb hst h8 hg (mv_hs (ok_x hst h8 hg) (mv_hs (ok_m hst h8 hg) (mv_hs (ok_t56 hst h8 hg) mv_hn))) oc_t55 ev_t55
theorem oc_t54 : mv_OC 68 oe_t54 := mv_och (by decide +kernel) hc_0.1 hc_n.1 hc_0.2 hc_n.2
set_option maxRecDepth 1000000 in
theorem ev_t54 : mv_evb mv_gS 68 [oe_x, oe_m, oe_t55] 400000 oe_t54 = true := by decide +kernel
theorem ok_t54 (hst : l.stackTraces = false) (h8 : r 8 = r 0 &&& nI 31) (hg : mv_in mv_gS r) : mv_OK l D cs r b0 b mv_mi 68 oe_t54 := mv_mkb hst h8 hg (mv_hs (ok_x hst h8 hg) (mv_hs (ok_m hst h8 hg) (mv_hs (ok_t55 hst h8 hg) mv_hn))) oc_t54 ev_t54
theorem oc_t53 : mv_OC 68 oe_t53 := mv_och (by decide +kernel) hc_0.1 hc_n.1 hc_0.2 hc_n.2
set_option maxRecDepth 1000000 in
theorem ev_t53 : mv_evb mv_gS 68 [oe_x, oe_m, oe_t54] 400000 oe_t53 = true := by decide +kernel
theorem ok_t53 (hst : l.stackTraces = false) (h8 : r 8 = r 0 &&& nI 31) (hg : mv_in mv_gS r) : mv_OK l D cs r b0 b mv_mi 68 oe_t53 := mv_mkb hst h8 hg (mv_hs (ok_x hst h8 hg) (mv_hs (ok_m hst h8 hg) (mv_hs (ok_t54 hst h8 hg) mv_hn))) oc_t53 ev_t53
theorem oc_t52 : mv_OC 68 oe_t52 := mv_och (by decide +kernel) hc_0.1 hc_n.1 hc_0.2 hc_n.2
set_option maxRecDepth 1000000 in
theorem ev_t52 : mv_evb mv_gS 68 [oe_x, oe_m, oe_t53] 400000 oe_t52 = true := by decide +kernel
theorem ok_t52 (hst : l.stackTraces = false) (h8 : r 8 = r 0 &&& nI 31) (hg : mv_in mv_gS r) : mv_OK l D cs r b0 b mv_mi 68 oe_t52 := mv_mkb hst h8 hg (mv_hs (ok_x hst h8 hg) (mv_hs (ok_m hst h8 hg) (mv_hs (ok_t53 hst h8 hg) mv_hn))) oc_t52 ev_t52
theorem oc_t51 : mv_OC 68 oe_t51 := mv_och (by decide +kernel) hc_0.1 hc_n.1 hc_0.2 hc_n.2
set_option maxRecDepth 1000000 in
theorem ev_t51 : mv_evb mv_gS 68 [oe_x, oe_m, oe_t52] 400000 oe_t51 = true := by decide +kernel
theorem ok_t51 (hst : l.stackTraces = false) (h8 : r 8 = r 0 &&& nI 31) (hg : mv_in mv_gS r) : mv_OK l D cs r b0 b mv_mi 68 oe_t51 := mv_mkb hst h8 hg (mv_hs (ok_x hst h8 hg) (mv_hs (ok_m hst h8 hg) (mv_hs (ok_t52 hst h8 hg) mv_hn))) oc_t51 ev_t51
theorem oc_t50 : mv_OC 68 oe_t50 := mv_och (by decide +kernel) hc_0.1 hc_n.1 hc_0.2 hc_n.2
set_option maxRecDepth 1000000 in
theorem ev_t50 : mv_evb mv_gS 68 [oe_x, oe_m, oe_t51] 400000 oe_t50 = true := by decide +kernel
theorem ok_t50 (hst : l.stackTraces = false) (h8 : r 8 = r 0 &&& nI 31) (hg : mv_in mv_gS r) : mv_OK l D cs r b0 b mv_mi 68 oe_t50 := mv_mkb hst h8 hg (mv_hs (ok_x hst h8 hg) (mv_hs (ok_m hst h8 hg) (mv_hs (ok_t51 hst h8 hg) mv_hn))) oc_t50 ev_t50
theorem oc_t49 : mv_OC 68 oe_t49 := mv_och (by decide +kernel) hc_0.1 hc_n.1 hc_0.2 hc_n.2
set_option maxRecDepth 1000000 in
theorem ev_t49 : mv_evb mv_gS 68 [oe_x, oe_m, oe_t50] 400000 oe_t49 = true := by decide +kernel
theorem ok_t49 (hst : l.stackTraces = false) (h8 : r 8 = r 0 &&& nI 31) (hg : mv_in mv_gS r) : mv_OK l D cs r b0 b mv_mi 68 oe_t49 := mv_mkb hst h8 hg (mv_hs (ok_x hst h8 hg) (mv_hs (ok_m hst h8 hg) (mv_hs (ok_t50 hst h8 hg) mv_hn))) oc_t49 ev_t49
theorem oc_t48 : mv_OC 68 oe_t48 := mv_och (by decide +kernel) hc_0.1 hc_n.1 hc_0.2 hc_n.2
set_option maxRecDepth 1000000 in
theorem ev_t48 : mv_evb mv_gS 68 [oe_x, oe_m, oe_t49] 400000 oe_t48 = true := by decide +kernel
theorem ok_t48 (hst : l.stackTraces = false) (h8 : r 8 = r 0 &&& nI 31) (hg : mv_in mv_gS r) : mv_OK l D cs r b0 b mv_mi 68 oe_t48 := mv_mkb hst h8 hg (mv_hs (ok_x hst h8 hg) (mv_hs (ok_m hst h8 hg) (mv_hs (ok_t49 hst h8 hg) mv_hn))) oc_t48 ev_t48
theorem oc_t47 : mv_OC 68 oe_t47 := mv_och (by decide +kernel) hc_0.1 hc_n.1 hc_0.2 hc_n.2
set_option maxRecDepth 1000000 in
theorem ev_t47 : mv_evb mv_gS 68 [oe_x, oe_m, oe_t48] 400000 oe_t47 = true := by decide +kernel
theorem ok_t47 (hst : l.stackTraces = false) (h8 : r 8 = r 0 &&& nI 31) (hg : mv_in mv_gS r) : mv_OK l D cs r b0 b mv_mi 68 oe_t47 := mv_mkb hst h8 hg (mv_hs (ok_x hst h8 hg) (mv_hs (ok_m hst h8 hg) (mv_hs (ok_t48 hst h8 hg) mv_hn))) oc_t47 ev_t47
theorem oc_t46 : mv_OC 68 oe_t46 := mv_och (by decide +kernel) hc_0.1 hc_n.1 hc_0.2 hc_n.2
set_option maxRecDepth 1000000 in
theorem ev_t46 : mv_evb mv_gS 68 [oe_x, oe_m, oe_t47] 400000 oe_t46 = true := by decide +kernel
theorem ok_t46 (hst : l.stackTraces = false) (h8 : r 8 = r 0 &&& nI 31) (hg : mv_in mv_gS r) : mv_OK l D cs r b0 b mv_mi 68 oe_t46 := mv_mkb hst h8 hg (mv_hs (ok_x hst h8 hg) (mv_hs (ok_m hst h8 hg) (mv_hs (ok_t47 hst h8 hg) mv_hn))) oc_t46 ev_t46
theorem oc_t45 : mv_OC 68 oe_t45 := mv_och (by decide +kernel) hc_0.1 hc_n.1 hc_0.2 hc_n.2
set_option maxRecDepth 1000000 in
theorem ev_t45 : mv_evb mv_gS 68 [oe_x, oe_m, oe_t46] 400000 oe_t45 = true := by decide +kernel
theorem ok_t45 (hst : l.stackTraces = false) (h8 : r 8 = r 0 &&& nI 31) (hg : mv_in mv_gS r) : mv_OK l D cs r b0 b mv_mi 68 oe_t45 := mv_mkb hst h8 hg (mv_hs (ok_x hst h8 hg) (mv_hs (ok_m hst h8 hg) (mv_hs (ok_t46 hst h8 hg) mv_hn))) oc_t45 ev_t45
theorem oc_t44 : mv_OC 68 oe_t44 := mv_och (by decide +kernel) hc_0.1 hc_n.1 hc_0.2 hc_n.2
set_option maxRecDepth 1000000 in
theorem ev_t44 : mv_evb mv_gS 68 [oe_x, oe_m, oe_t45] 400000 oe_t44 = true := by decide +kernel
theorem ok_t44 (hst : l.stackTraces = false) (h8 : r 8 = r 0 &&& nI 31) (hg : mv_in mv_gS r) : mv_OK l D cs r b0 b mv_mi 68 oe_t44 := mv_mkb hst h8 hg (mv_hs (ok_x hst h8 hg) (mv_hs (ok_m hst h8 hg) (mv_hs (ok_t45 hst h8 hg) mv_hn))) oc_t44 ev_t44
theorem oc_t43 : mv_OC 68 oe_t43 := mv_och (by decide +kernel) hc_0.1 hc_n.1 hc_0.2 hc_n.2
set_option maxRecDepth 1000000 in
theorem ev_t43 : mv_evb mv_gS 68 [oe_x, oe_m, oe_t44] 400000 oe_t43 = true := by decide +kernel
theorem ok_t43 (hst : l.stackTraces = false) (h8 : r 8 = r 0 &&& nI 31) (hg : mv_in mv_gS r) : mv_OK l D cs r b0 b mv_mi 68 oe_t43 := mv_mkb hst h8 hg (mv_hs (ok_x hst h8 hg) (mv_hs (ok_m hst h8 hg) (mv_hs (ok_t44 hst h8 hg) mv_hn))) oc_t43 ev_t43
theorem oc_t42 : mv_OC 68 oe_t42 := mv_och (by decide +kernel) hc_0.1 hc_n.1 hc_0.2 hc_n.2
set_option maxRecDepth 1000000 in
theorem ev_t42 : mv_evb mv_gS 68 [oe_x, oe_m, oe_t43] 400000 oe_t42 = true := by decide +kernel
theorem ok_t42 (hst : l.stackTraces = false) (h8 : r 8 = r 0 &&& nI 31) (hg : mv_in mv_gS r) : mv_OK l D cs r b0 b mv_mi 68 oe_t42 := mv_mkb hst h8 hg (mv_hs (ok_x hst h8 hg) (mv_hs (ok_m hst h8 hg) (mv_hs (ok_t43 hst h8 hg) mv_hn))) oc_t42 ev_t42
theorem oc_t41 : mv_OC 68 oe_t41 := mv_och (by decide +kernel) hc_0.1 hc_n.1 hc_0.2 hc_n.2
set_option maxRecDepth 1000000 in
theorem ev_t41 : mv_evb mv_gS 68 [oe_x, oe_m, oe_t42] 400000 oe_t41 = true := by decide +kernel
theorem ok_t41 (hst : l.stackTraces = false) (h8 : r 8 = r 0 &&& nI 31) (hg : mv_in mv_gS r) : mv_OK l D cs r b0 b mv_mi 68 oe_t41 := mv_mkb hst h8 hg (mv_hs (ok_x hst h8 hg) (mv_hs (ok_m hst h8 hg) (mv_hs (ok_t42 hst h8 hg) mv_hn))) oc_t41 ev_t41
theorem oc_t40 : mv_OC 68 oe_t40 := mv_och (by decide +kernel) hc_0.1 hc_n.1 hc_0.2 hc_n.2
set_option maxRecDepth 1000000 in
theorem ev_t40 : mv_evb mv_gS 68 [oe_x, oe_m, oe_t41] 400000 oe_t40 = true := by decide +kernel
theorem ok_t40 (hst : l.stackTraces = false) (h8 : r 8 = r 0 &&& nI 31) (hg : mv_in mv_gS r) : mv_OK l D cs r b0 b mv_mi 68 oe_t40 := mv_mkb hst h8 hg (mv_hs (ok_x hst h8 hg) (mv_hs (ok_m hst h8 hg) (mv_hs (ok_t41 hst h8 hg) mv_hn))) oc_t40 ev_t40
theorem oc_t39 : mv_OC 68 oe_t39 := mv_och (by decide +kernel) hc_0.1 hc_n.1 hc_0.2 hc_n.2
set_option maxRecDepth 1000000 in
theorem ev_t39 : mv_evb mv_gS 68 [oe_x, oe_m, oe_t40] 400000 oe_t39 = true := by decide +kernel
theorem ok_t39 (hst : l.stackTraces = false) (h8 : r 8 = r 0 &&& nI 31) (hg : mv_in mv_gS r) : mv_OK l D cs r b0 b mv_mi 68 oe_t39 := mv_mkb hst h8 hg (mv_hs (ok_x hst h8 hg) (mv_hs (ok_m hst h8 hg) (mv_hs (ok_t40 hst h8 hg) mv_hn))) oc_t39 ev_t39
theorem oc_t38 : mv_OC 68 oe_t38 := mv_och (by decide +kernel) hc_0.1 hc_n.1 hc_0.2 hc_n.2
set_option maxRecDepth 1000000 in
theorem ev_t38 : mv_evb mv_gS 68 [oe_x, oe_m, oe_t39] 400000 oe_t38 = true := by decide +kernel
theorem ok_t38 (hst : l.stackTraces = false) (h8 : r 8 = r 0 &&& nI 31) (hg : mv_in mv_gS r) : mv_OK l D cs r b0 b mv_mi 68 oe_t38 := mv_mkb hst h8 hg (mv_hs (ok_x hst h8 hg) (mv_hs (ok_m hst h8 hg) (mv_hs (ok_t39 hst h8 hg) mv_hn))) oc_t38 ev_t38
theorem oc_t37 : mv_OC 68 oe_t37 := mv_och (by decide +kernel) hc_0.1 hc_n.1 hc_0.2 hc_n.2
set_option maxRecDepth 1000000 in
theorem ev_t37 : mv_evb mv_gS 68 [oe_x, oe_m, oe_t38] 400000 oe_t37 = true := by decide +kernel
theorem ok_t37 (hst : l.stackTraces = false) (h8 : r 8 = r 0 &&& nI 31) (hg : mv_in mv_gS r) : mv_OK l D cs r b0 b mv_mi 68 oe_t37 := mv_mkb hst h8 hg (mv_hs (ok_x hst h8 hg) (mv_hs (ok_m hst h8 hg) (mv_hs (ok_t38 hst h8 hg) mv_hn))) oc_t37 ev_t37
end
