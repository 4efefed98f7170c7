/-! ===== the tables' methods 46 to 91: printed by a program ===== -/
set_option maxRecDepth 1000000 in
theorem mv_cm_46 : mv_ckm 46 = true := by decide +kernel
set_option maxRecDepth 1000000 in
theorem mv_cm_47 : mv_ckm 47 = true := by decide +kernel
set_option maxRecDepth 1000000 in
theorem mv_cm_48 : mv_ckm 48 = true := by decide +kernel
set_option maxRecDepth 1000000 in
theorem mv_cm_49 : mv_ckm 49 = true := by decide +kernel
set_option maxRecDepth 1000000 in
theorem mv_cm_50 : mv_ckm 50 = true := by decide +kernel
set_option maxRecDepth 1000000 in
theorem mv_cm_51 : mv_ckm 51 = true := by decide +kernel
set_option maxRecDepth 1000000 in
theorem mv_cm_52 : mv_ckm 52 = true := by decide +kernel
set_option maxRecDepth 1000000 in
theorem mv_cm_53 : mv_ckm 53 = true := by decide +kernel
set_option maxRecDepth 1000000 in
theorem mv_cm_54 : mv_ckm 54 = true := by decide +kernel
set_option maxRecDepth 1000000 in
theorem mv_cm_55 : mv_ckm 55 = true := by decide +kernel
set_option maxRecDepth 1000000 in
theorem mv_cm_56 : mv_ckm 56 = true := by decide +kernel
set_option maxRecDepth 1000000 in
theorem mv_cm_57 : mv_ckm 57 = true := by decide +kernel
set_option maxRecDepth 1000000 in
theorem mv_cm_58 : mv_ckm 58 = true := by decide +kernel
set_option maxRecDepth 1000000 in
theorem mv_cm_59 : mv_ckm 59 = true := by decide +kernel
set_option maxRecDepth 1000000 in
theorem mv_cm_60 : mv_ckm 60 = true := by decide +kernel
set_option maxRecDepth 1000000 in
theorem mv_cm_61 : mv_ckm 61 = true := by decide +kernel
set_option maxRecDepth 1000000 in
theorem mv_cm_62 : mv_ckm 62 = true := by decide +kernel
set_option maxRecDepth 1000000 in
theorem mv_cm_63 : mv_ckm 63 = true := by decide +kernel
set_option maxRecDepth 1000000 in
theorem mv_cm_64 : mv_ckm 64 = true := by decide +kernel
set_option maxRecDepth 1000000 in
theorem mv_cm_65 : mv_ckm 65 = true := by decide +kernel
set_option maxRecDepth 1000000 in
theorem mv_cm_66 : mv_ckm 66 = true := by decide +kernel
set_option maxRecDepth 1000000 in
theorem mv_cm_67 : mv_ckm 67 = true := by decide +kernel
set_option maxRecDepth 1000000 in
theorem mv_cm_68 : mv_ckm 68 = true := by decide +kernel
set_option maxRecDepth 1000000 in
theorem mv_cm_69 : mv_ckm 69 = true := by decide +kernel
set_option maxRecDepth 1000000 in
theorem mv_cm_70 : mv_ckm 70 = true := by decide +kernel
set_option maxRecDepth 1000000 in
theorem mv_cm_71 : mv_ckm 71 = true := by decide +kernel
set_option maxRecDepth 1000000 in
theorem mv_cm_72 : mv_ckm 72 = true := by decide +kernel
set_option maxRecDepth 1000000 in
theorem mv_cm_73 : mv_ckm 73 = true := by decide +kernel
set_option maxRecDepth 1000000 in
theorem mv_cm_74 : mv_ckm 74 = true := by decide +kernel
set_option maxRecDepth 1000000 in
theorem mv_cm_75 : mv_ckm 75 = true := by decide +kernel
set_option maxRecDepth 1000000 in
theorem mv_cm_76 : mv_ckm 76 = true := by decide +kernel
set_option maxRecDepth 1000000 in
theorem mv_cm_77 : mv_ckm 77 = true := by decide +kernel
set_option maxRecDepth 1000000 in
theorem mv_cm_78 : mv_ckm 78 = true := by decide +kernel
set_option maxRecDepth 1000000 in
theorem mv_cm_79 : mv_ckm 79 = true := by decide +kernel
set_option maxRecDepth 1000000 in
theorem mv_cm_80 : mv_ckm 80 = true := by decide +kernel
set_option maxRecDepth 1000000 in
theorem mv_cm_81 : mv_ckm 81 = true := by decide +kernel
set_option maxRecDepth 1000000 in
theorem mv_cm_82 : mv_ckm 82 = true := by decide +kernel
set_option maxRecDepth 1000000 in
theorem mv_cm_83 : mv_ckm 83 = true := by decide +kernel
set_option maxRecDepth 1000000 in
theorem mv_cm_84 : mv_ckm 84 = true := by decide +kernel
set_option maxRecDepth 1000000 in
theorem mv_cm_85 : mv_ckm 85 = true := by decide +kernel
set_option maxRecDepth 1000000 in
theorem mv_cm_86 : mv_ckm 86 = true := by decide +kernel
set_option maxRecDepth 1000000 in
theorem mv_cm_87 : mv_ckm 87 = true := by decide +kernel
set_option maxRecDepth 1000000 in
theorem mv_cm_88 : mv_ckm 88 = true := by decide +kernel
set_option maxRecDepth 1000000 in
theorem mv_cm_89 : mv_ckm 89 = true := by decide +kernel
set_option maxRecDepth 1000000 in
theorem mv_cm_90 : mv_ckm 90 = true := by decide +kernel
set_option maxRecDepth 1000000 in
theorem mv_cm_91 : mv_ckm 91 = true := by decide +kernel
