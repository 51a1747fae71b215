/-! summaries, checked -/
theorem oz_132 : rj_ok sm_132 [sm_131] = true := by decide +kernel
theorem oz_133 : rj_ok sm_133 [] = true := by decide +kernel
theorem oz_134 : rj_ok sm_134 [] = true := by decide +kernel
theorem oz_135 : rj_ok sm_135 [] = true := by decide +kernel
theorem oz_136 : rj_ok sm_136 [] = true := by decide +kernel
theorem oz_137 : rj_ok sm_137 [] = true := by decide +kernel
theorem oz_138 : rj_ok sm_138 [] = true := by decide +kernel
theorem oz_139 : rj_ok sm_139 [sm_135, sm_136, sm_137, sm_138] = true := by decide +kernel
theorem oz_140 : rj_ok sm_140 [] = true := by decide +kernel
theorem oz_141 : rj_ok sm_141 [] = true := by decide +kernel
