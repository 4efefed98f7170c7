/-! ===== the tables' methods 230 to 271: printed by a program ===== -/
set_option maxRecDepth 1000000 in
theorem mv_cm_230 : mv_ckm 230 = true := by decide +kernel
set_option maxRecDepth 1000000 in
theorem mv_cm_231 : mv_ckm 231 = true := by decide +kernel
set_option maxRecDepth 1000000 in
theorem mv_cm_232 : mv_ckm 232 = true := by decide +kernel
set_option maxRecDepth 1000000 in
theorem mv_cm_233 : mv_ckm 233 = true := by decide +kernel
set_option maxRecDepth 1000000 in
theorem mv_cm_234 : mv_ckm 234 = true := by decide +kernel
set_option maxRecDepth 1000000 in
theorem mv_cm_235 : mv_ckm 235 = true := by decide +kernel
set_option maxRecDepth 1000000 in
theorem mv_cm_236 : mv_ckm 236 = true := by decide +kernel
set_option maxRecDepth 1000000 in
theorem mv_cm_237 : mv_ckm 237 = true := by decide +kernel
set_option maxRecDepth 1000000 in
theorem mv_cm_238 : mv_ckm 238 = true := by decide +kernel
set_option maxRecDepth 1000000 in
theorem mv_cm_239 : mv_ckm 239 = true := by decide +kernel
set_option maxRecDepth 1000000 in
theorem mv_cm_240 : mv_ckm 240 = true := by decide +kernel
set_option maxRecDepth 1000000 in
theorem mv_cm_241 : mv_ckm 241 = true := by decide +kernel
set_option maxRecDepth 1000000 in
theorem mv_cm_242 : mv_ckm 242 = true := by decide +kernel
set_option maxRecDepth 1000000 in
theorem mv_cm_243 : mv_ckm 243 = true := by decide +kernel
set_option maxRecDepth 1000000 in
theorem mv_cm_244 : mv_ckm 244 = true := by decide +kernel
set_option maxRecDepth 1000000 in
theorem mv_cm_245 : mv_ckm 245 = true := by decide +kernel
set_option maxRecDepth 1000000 in
theorem mv_cm_246 : mv_ckm 246 = true := by decide +kernel
set_option maxRecDepth 1000000 in
theorem mv_cm_247 : mv_ckm 247 = true := by decide +kernel
set_option maxRecDepth 1000000 in
theorem mv_cm_248 : mv_ckm 248 = true := by decide +kernel
set_option maxRecDepth 1000000 in
theorem mv_cm_249 : mv_ckm 249 = true := by decide +kernel
set_option maxRecDepth 1000000 in
theorem mv_cm_250 : mv_ckm 250 = true := by decide +kernel
set_option maxRecDepth 1000000 in
theorem mv_cm_251 : mv_ckm 251 = true := by decide +kernel
set_option maxRecDepth 1000000 in
theorem mv_cm_252 : mv_ckm 252 = true := by decide +kernel
set_option maxRecDepth 1000000 in
theorem mv_cm_253 : mv_ckm 253 = true := by decide +kernel
set_option maxRecDepth 1000000 in
theorem mv_cm_254 : mv_ckm 254 = true := by decide +kernel
set_option maxRecDepth 1000000 in
theorem mv_cm_255 : mv_ckm 255 = true := by decide +kernel
set_option maxRecDepth 1000000 in
theorem mv_cm_256 : mv_ckm 256 = true := by decide +kernel
set_option maxRecDepth 1000000 in
theorem mv_cm_257 : mv_ckm 257 = true := by decide +kernel
set_option maxRecDepth 1000000 in
theorem mv_cm_258 : mv_ckm 258 = true := by decide +kernel
set_option maxRecDepth 1000000 in
theorem mv_cm_259 : mv_ckm 259 = true := by decide +kernel
set_option maxRecDepth 1000000 in
theorem mv_cm_260 : mv_ckm 260 = true := by decide +kernel
set_option maxRecDepth 1000000 in
theorem mv_cm_261 : mv_ckm 261 = true := by decide +kernel
set_option maxRecDepth 1000000 in
theorem mv_cm_262 : mv_ckm 262 = true := by decide +kernel
set_option maxRecDepth 1000000 in
theorem mv_cm_263 : mv_ckm 263 = true := by decide +kernel
set_option maxRecDepth 1000000 in
theorem mv_cm_264 : mv_ckm 264 = true := by decide +kernel
set_option maxRecDepth 1000000 in
theorem mv_cm_265 : mv_ckm 265 = true := by decide +kernel
set_option maxRecDepth 1000000 in
theorem mv_cm_266 : mv_ckm 266 = true := by decide +kernel
set_option maxRecDepth 1000000 in
theorem mv_cm_267 : mv_ckm 267 = true := by decide +kernel
set_option maxRecDepth 1000000 in
theorem mv_cm_268 : mv_ckm 268 = true := by decide +kernel
set_option maxRecDepth 1000000 in
theorem mv_cm_269 : mv_ckm 269 = true := by decide +kernel
set_option maxRecDepth 1000000 in
theorem mv_cm_270 : mv_ckm 270 = true := by decide +kernel
set_option maxRecDepth 1000000 in
theorem mv_cm_271 : mv_ckm 271 = true := by decide +kernel
