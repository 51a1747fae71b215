/-! summaries, checked -/
theorem oz_100 : rj_ok sm_100 [sm_80, sm_92, sm_94, sm_96, sm_98] = true := by decide +kernel
theorem oz_101 : rj_ok sm_101 [] = true := by decide +kernel
theorem oz_102 : rj_ok sm_102 [] = true := by decide +kernel
theorem oz_104 : rj_ok sm_104 [] = true := by decide +kernel
theorem oz_108 : rj_ok sm_108 [] = true := by decide +kernel
theorem oz_109 : rj_ok sm_109 [sm_108] = true := by decide +kernel
theorem oz_114 : rj_ok sm_114 [sm_21, sm_69, sm_51] = true := by decide +kernel
theorem oz_115 : rj_ok sm_115 [sm_21, sm_69, sm_51] = true := by decide +kernel
theorem oz_116 : rj_ok sm_116 [sm_21, sm_69] = true := by decide +kernel
theorem oz_117 : rj_ok sm_117 [sm_116] = true := by decide +kernel
theorem oz_118 : rj_ok sm_118 [sm_116] = true := by decide +kernel
theorem oz_119 : rj_ok sm_119 [sm_80, sm_71, sm_89] = true := by decide +kernel
