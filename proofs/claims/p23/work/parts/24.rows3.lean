/-! ===== the tables' methods 92 to 137: printed by a program ===== -/
set_option maxRecDepth 1000000 in
theorem mv_cm_92 : mv_ckm 92 = true := by decide +kernel
set_option maxRecDepth 1000000 in
theorem mv_cm_93 : mv_ckm 93 = true := by decide +kernel
set_option maxRecDepth 1000000 in
theorem mv_cm_94 : mv_ckm 94 = true := by decide +kernel
set_option maxRecDepth 1000000 in
theorem mv_cm_95 : mv_ckm 95 = true := by decide +kernel
set_option maxRecDepth 1000000 in
theorem mv_cm_96 : mv_ckm 96 = true := by decide +kernel
set_option maxRecDepth 1000000 in
theorem mv_cm_97 : mv_ckm 97 = true := by decide +kernel
set_option maxRecDepth 1000000 in
theorem mv_cm_98 : mv_ckm 98 = true := by decide +kernel
set_option maxRecDepth 1000000 in
theorem mv_cm_99 : mv_ckm 99 = true := by decide +kernel
set_option maxRecDepth 1000000 in
theorem mv_cm_100 : mv_ckm 100 = true := by decide +kernel
set_option maxRecDepth 1000000 in
theorem mv_cm_101 : mv_ckm 101 = true := by decide +kernel
set_option maxRecDepth 1000000 in
theorem mv_cm_102 : mv_ckm 102 = true := by decide +kernel
set_option maxRecDepth 1000000 in
theorem mv_cm_103 : mv_ckm 103 = true := by decide +kernel
set_option maxRecDepth 1000000 in
theorem mv_cm_104 : mv_ckm 104 = true := by decide +kernel
set_option maxRecDepth 1000000 in
theorem mv_cm_105 : mv_ckm 105 = true := by decide +kernel
set_option maxRecDepth 1000000 in
theorem mv_cm_106 : mv_ckm 106 = true := by decide +kernel
set_option maxRecDepth 1000000 in
theorem mv_cm_107 : mv_ckm 107 = true := by decide +kernel
set_option maxRecDepth 1000000 in
theorem mv_cm_108 : mv_ckm 108 = true := by decide +kernel
set_option maxRecDepth 1000000 in
theorem mv_cm_109 : mv_ckm 109 = true := by decide +kernel
set_option maxRecDepth 1000000 in
theorem mv_cm_110 : mv_ckm 110 = true := by decide +kernel
set_option maxRecDepth 1000000 in
theorem mv_cm_111 : mv_ckm 111 = true := by decide +kernel
set_option maxRecDepth 1000000 in
theorem mv_cm_112 : mv_ckm 112 = true := by decide +kernel
set_option maxRecDepth 1000000 in
theorem mv_cm_113 : mv_ckm 113 = true := by decide +kernel
set_option maxRecDepth 1000000 in
theorem mv_cm_114 : mv_ckm 114 = true := by decide +kernel
set_option maxRecDepth 1000000 in
theorem mv_cm_115 : mv_ckm 115 = true := by decide +kernel
set_option maxRecDepth 1000000 in
theorem mv_cm_116 : mv_ckm 116 = true := by decide +kernel
set_option maxRecDepth 1000000 in
theorem mv_cm_117 : mv_ckm 117 = true := by decide +kernel
set_option maxRecDepth 1000000 in
theorem mv_cm_118 : mv_ckm 118 = true := by decide +kernel
set_option maxRecDepth 1000000 in
theorem mv_cm_119 : mv_ckm 119 = true := by decide +kernel
set_option maxRecDepth 1000000 in
theorem mv_cm_120 : mv_ckm 120 = true := by decide +kernel
set_option maxRecDepth 1000000 in
theorem mv_cm_121 : mv_ckm 121 = true := by decide +kernel
set_option maxRecDepth 1000000 in
theorem mv_cm_122 : mv_ckm 122 = true := by decide +kernel
set_option maxRecDepth 1000000 in
theorem mv_cm_123 : mv_ckm 123 = true := by decide +kernel
set_option maxRecDepth 1000000 in
theorem mv_cm_124 : mv_ckm 124 = true := by decide +kernel
set_option maxRecDepth 1000000 in
theorem mv_cm_125 : mv_ckm 125 = true := by decide +kernel
set_option maxRecDepth 1000000 in
theorem mv_cm_126 : mv_ckm 126 = true := by decide +kernel
set_option maxRecDepth 1000000 in
theorem mv_cm_127 : mv_ckm 127 = true := by decide +kernel
set_option maxRecDepth 1000000 in
theorem mv_cm_128 : mv_ckm 128 = true := by decide +kernel
set_option maxRecDepth 1000000 in
theorem mv_cm_129 : mv_ckm 129 = true := by decide +kernel
set_option maxRecDepth 1000000 in
theorem mv_cm_130 : mv_ckm 130 = true := by decide +kernel
set_option maxRecDepth 1000000 in
theorem mv_cm_131 : mv_ckm 131 = true := by decide +kernel
set_option maxRecDepth 1000000 in
theorem mv_cm_132 : mv_ckm 132 = true := by decide +kernel
set_option maxRecDepth 1000000 in
theorem mv_cm_133 : mv_ckm 133 = true := by decide +kernel
set_option maxRecDepth 1000000 in
theorem mv_cm_134 : mv_ckm 134 = true := by decide +kernel
set_option maxRecDepth 1000000 in
theorem mv_cm_135 : mv_ckm 135 = true := by decide +kernel
set_option maxRecDepth 1000000 in
theorem mv_cm_136 : mv_ckm 136 = true := by decide +kernel
set_option maxRecDepth 1000000 in
theorem mv_cm_137 : mv_ckm 137 = true := by decide +kernel
