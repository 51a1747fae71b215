/-! summaries, checked -/
theorem oz_142 : rj_ok sm_142 [] = true := by decide +kernel
theorem oz_143 : rj_ok sm_143 [] = true := by decide +kernel
theorem oz_144 : rj_ok sm_144 [] = true := by decide +kernel
theorem oz_145 : rj_ok sm_145 [] = true := by decide +kernel
theorem oz_146 : rj_ok sm_146 [] = true := by decide +kernel
theorem oz_147 : rj_ok sm_147 [] = true := by decide +kernel
theorem oz_148 : rj_ok sm_148 [] = true := by decide +kernel
