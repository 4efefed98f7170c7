/-! ===== the tables' methods 184 to 229: printed by a program ===== -/
set_option maxRecDepth 1000000 in
theorem mv_cm_184 : mv_ckm 184 = true := by decide +kernel
set_option maxRecDepth 1000000 in
theorem mv_cm_185 : mv_ckm 185 = true := by decide +kernel
set_option maxRecDepth 1000000 in
theorem mv_cm_186 : mv_ckm 186 = true := by decide +kernel
set_option maxRecDepth 1000000 in
theorem mv_cm_187 : mv_ckm 187 = true := by decide +kernel
set_option maxRecDepth 1000000 in
theorem mv_cm_188 : mv_ckm 188 = true := by decide +kernel
set_option maxRecDepth 1000000 in
theorem mv_cm_189 : mv_ckm 189 = true := by decide +kernel
set_option maxRecDepth 1000000 in
theorem mv_cm_190 : mv_ckm 190 = true := by decide +kernel
set_option maxRecDepth 1000000 in
theorem mv_cm_191 : mv_ckm 191 = true := by decide +kernel
set_option maxRecDepth 1000000 in
theorem mv_cm_192 : mv_ckm 192 = true := by decide +kernel
set_option maxRecDepth 1000000 in
theorem mv_cm_193 : mv_ckm 193 = true := by decide +kernel
set_option maxRecDepth 1000000 in
theorem mv_cm_194 : mv_ckm 194 = true := by decide +kernel
set_option maxRecDepth 1000000 in
theorem mv_cm_195 : mv_ckm 195 = true := by decide +kernel
set_option maxRecDepth 1000000 in
theorem mv_cm_196 : mv_ckm 196 = true := by decide +kernel
set_option maxRecDepth 1000000 in
theorem mv_cm_197 : mv_ckm 197 = true := by decide +kernel
set_option maxRecDepth 1000000 in
theorem mv_cm_198 : mv_ckm 198 = true := by decide +kernel
set_option maxRecDepth 1000000 in
theorem mv_cm_199 : mv_ckm 199 = true := by decide +kernel
set_option maxRecDepth 1000000 in
theorem mv_cm_200 : mv_ckm 200 = true := by decide +kernel
set_option maxRecDepth 1000000 in
theorem mv_cm_201 : mv_ckm 201 = true := by decide +kernel
set_option maxRecDepth 1000000 in
theorem mv_cm_202 : mv_ckm 202 = true := by decide +kernel
set_option maxRecDepth 1000000 in
theorem mv_cm_203 : mv_ckm 203 = true := by decide +kernel
set_option maxRecDepth 1000000 in
theorem mv_cm_204 : mv_ckm 204 = true := by decide +kernel
set_option maxRecDepth 1000000 in
theorem mv_cm_205 : mv_ckm 205 = true := by decide +kernel
set_option maxRecDepth 1000000 in
theorem mv_cm_206 : mv_ckm 206 = true := by decide +kernel
set_option maxRecDepth 1000000 in
theorem mv_cm_207 : mv_ckm 207 = true := by decide +kernel
set_option maxRecDepth 1000000 in
theorem mv_cm_208 : mv_ckm 208 = true := by decide +kernel
set_option maxRecDepth 1000000 in
theorem mv_cm_209 : mv_ckm 209 = true := by decide +kernel
set_option maxRecDepth 1000000 in
theorem mv_cm_210 : mv_ckm 210 = true := by decide +kernel
set_option maxRecDepth 1000000 in
theorem mv_cm_211 : mv_ckm 211 = true := by decide +kernel
set_option maxRecDepth 1000000 in
theorem mv_cm_212 : mv_ckm 212 = true := by decide +kernel
set_option maxRecDepth 1000000 in
theorem mv_cm_213 : mv_ckm 213 = true := by decide +kernel
set_option maxRecDepth 1000000 in
theorem mv_cm_214 : mv_ckm 214 = true := by decide +kernel
set_option maxRecDepth 1000000 in
theorem mv_cm_215 : mv_ckm 215 = true := by decide +kernel
set_option maxRecDepth 1000000 in
theorem mv_cm_216 : mv_ckm 216 = true := by decide +kernel
set_option maxRecDepth 1000000 in
theorem mv_cm_217 : mv_ckm 217 = true := by decide +kernel
set_option maxRecDepth 1000000 in
theorem mv_cm_218 : mv_ckm 218 = true := by decide +kernel
set_option maxRecDepth 1000000 in
theorem mv_cm_219 : mv_ckm 219 = true := by decide +kernel
set_option maxRecDepth 1000000 in
theorem mv_cm_220 : mv_ckm 220 = true := by decide +kernel
set_option maxRecDepth 1000000 in
theorem mv_cm_221 : mv_ckm 221 = true := by decide +kernel
set_option maxRecDepth 1000000 in
theorem mv_cm_222 : mv_ckm 222 = true := by decide +kernel
set_option maxRecDepth 1000000 in
theorem mv_cm_223 : mv_ckm 223 = true := by decide +kernel
set_option maxRecDepth 1000000 in
theorem mv_cm_224 : mv_ckm 224 = true := by decide +kernel
set_option maxRecDepth 1000000 in
theorem mv_cm_225 : mv_ckm 225 = true := by decide +kernel
set_option maxRecDepth 1000000 in
theorem mv_cm_226 : mv_ckm 226 = true := by decide +kernel
set_option maxRecDepth 1000000 in
theorem mv_cm_227 : mv_ckm 227 = true := by decide +kernel
set_option maxRecDepth 1000000 in
theorem mv_cm_228 : mv_ckm 228 = true := by decide +kernel
set_option maxRecDepth 1000000 in
theorem mv_cm_229 : mv_ckm 229 = true := by decide +kernel
