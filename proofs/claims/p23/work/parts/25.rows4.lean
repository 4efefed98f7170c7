/-! ===== the tables' methods 138 to 183: printed by a program ===== -/
set_option maxRecDepth 1000000 in
theorem mv_cm_138 : mv_ckm 138 = true := by decide +kernel
set_option maxRecDepth 1000000 in
theorem mv_cm_139 : mv_ckm 139 = true := by decide +kernel
set_option maxRecDepth 1000000 in
theorem mv_cm_140 : mv_ckm 140 = true := by decide +kernel
set_option maxRecDepth 1000000 in
theorem mv_cm_141 : mv_ckm 141 = true := by decide +kernel
set_option maxRecDepth 1000000 in
theorem mv_cm_142 : mv_ckm 142 = true := by decide +kernel
set_option maxRecDepth 1000000 in
theorem mv_cm_143 : mv_ckm 143 = true := by decide +kernel
set_option maxRecDepth 1000000 in
theorem mv_cm_144 : mv_ckm 144 = true := by decide +kernel
set_option maxRecDepth 1000000 in
theorem mv_cm_145 : mv_ckm 145 = true := by decide +kernel
set_option maxRecDepth 1000000 in
theorem mv_cm_146 : mv_ckm 146 = true := by decide +kernel
set_option maxRecDepth 1000000 in
theorem mv_cm_147 : mv_ckm 147 = true := by decide +kernel
set_option maxRecDepth 1000000 in
theorem mv_cm_148 : mv_ckm 148 = true := by decide +kernel
set_option maxRecDepth 1000000 in
theorem mv_cm_149 : mv_ckm 149 = true := by decide +kernel
set_option maxRecDepth 1000000 in
theorem mv_cm_150 : mv_ckm 150 = true := by decide +kernel
set_option maxRecDepth 1000000 in
theorem mv_cm_151 : mv_ckm 151 = true := by decide +kernel
set_option maxRecDepth 1000000 in
theorem mv_cm_152 : mv_ckm 152 = true := by decide +kernel
set_option maxRecDepth 1000000 in
theorem mv_cm_153 : mv_ckm 153 = true := by decide +kernel
set_option maxRecDepth 1000000 in
theorem mv_cm_154 : mv_ckm 154 = true := by decide +kernel
set_option maxRecDepth 1000000 in
theorem mv_cm_155 : mv_ckm 155 = true := by decide +kernel
set_option maxRecDepth 1000000 in
theorem mv_cm_156 : mv_ckm 156 = true := by decide +kernel
set_option maxRecDepth 1000000 in
theorem mv_cm_157 : mv_ckm 157 = true := by decide +kernel
set_option maxRecDepth 1000000 in
theorem mv_cm_158 : mv_ckm 158 = true := by decide +kernel
set_option maxRecDepth 1000000 in
theorem mv_cm_159 : mv_ckm 159 = true := by decide +kernel
set_option maxRecDepth 1000000 in
theorem mv_cm_160 : mv_ckm 160 = true := by decide +kernel
set_option maxRecDepth 1000000 in
theorem mv_cm_161 : mv_ckm 161 = true := by decide +kernel
set_option maxRecDepth 1000000 in
theorem mv_cm_162 : mv_ckm 162 = true := by decide +kernel
set_option maxRecDepth 1000000 in
theorem mv_cm_163 : mv_ckm 163 = true := by decide +kernel
set_option maxRecDepth 1000000 in
theorem mv_cm_164 : mv_ckm 164 = true := by decide +kernel
set_option maxRecDepth 1000000 in
theorem mv_cm_165 : mv_ckm 165 = true := by decide +kernel
set_option maxRecDepth 1000000 in
theorem mv_cm_166 : mv_ckm 166 = true := by decide +kernel
set_option maxRecDepth 1000000 in
theorem mv_cm_167 : mv_ckm 167 = true := by decide +kernel
set_option maxRecDepth 1000000 in
theorem mv_cm_168 : mv_ckm 168 = true := by decide +kernel
set_option maxRecDepth 1000000 in
theorem mv_cm_169 : mv_ckm 169 = true := by decide +kernel
set_option maxRecDepth 1000000 in
theorem mv_cm_170 : mv_ckm 170 = true := by decide +kernel
set_option maxRecDepth 1000000 in
theorem mv_cm_171 : mv_ckm 171 = true := by decide +kernel
set_option maxRecDepth 1000000 in
theorem mv_cm_172 : mv_ckm 172 = true := by decide +kernel
set_option maxRecDepth 1000000 in
theorem mv_cm_173 : mv_ckm 173 = true := by decide +kernel
set_option maxRecDepth 1000000 in
theorem mv_cm_174 : mv_ckm 174 = true := by decide +kernel
set_option maxRecDepth 1000000 in
theorem mv_cm_175 : mv_ckm 175 = true := by decide +kernel
set_option maxRecDepth 1000000 in
theorem mv_cm_176 : mv_ckm 176 = true := by decide +kernel
set_option maxRecDepth 1000000 in
theorem mv_cm_177 : mv_ckm 177 = true := by decide +kernel
set_option maxRecDepth 1000000 in
theorem mv_cm_178 : mv_ckm 178 = true := by decide +kernel
set_option maxRecDepth 1000000 in
theorem mv_cm_179 : mv_ckm 179 = true := by decide +kernel
set_option maxRecDepth 1000000 in
theorem mv_cm_180 : mv_ckm 180 = true := by decide +kernel
set_option maxRecDepth 1000000 in
theorem mv_cm_181 : mv_ckm 181 = true := by decide +kernel
set_option maxRecDepth 1000000 in
theorem mv_cm_182 : mv_ckm 182 = true := by decide +kernel
set_option maxRecDepth 1000000 in
theorem mv_cm_183 : mv_ckm 183 = true := by decide +kernel
