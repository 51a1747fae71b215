/-! summaries, checked -/
theorem oz_120 : rj_ok sm_120 [sm_80, sm_71, sm_89] = true := by decide +kernel
theorem oz_121 : rj_ok sm_121 [sm_80, sm_71, sm_89] = true := by decide +kernel
theorem oz_122 : rj_ok sm_122 [] = true := by decide +kernel
theorem oz_123 : rj_ok sm_123 [] = true := by decide +kernel
theorem oz_124 : rj_ok sm_124 [] = true := by decide +kernel
theorem oz_125 : rj_ok sm_125 [sm_124] = true := by decide +kernel
theorem oz_126 : rj_ok sm_126 [sm_124] = true := by decide +kernel
theorem oz_127 : rj_ok sm_127 [] = true := by decide +kernel
theorem oz_128 : rj_ok sm_128 [sm_127, sm_80] = true := by decide +kernel
theorem oz_129 : rj_ok sm_129 [sm_80, sm_127] = true := by decide +kernel
theorem oz_130 : rj_ok sm_130 [] = true := by decide +kernel
theorem oz_131 : rj_ok sm_131 [] = true := by decide +kernel
