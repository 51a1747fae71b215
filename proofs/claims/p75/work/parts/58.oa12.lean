/-! summaries, checked -/
theorem oz_162 : rj_ok sm_162 [] = true := by decide +kernel
theorem oz_163 : rj_ok sm_163 [] = true := by decide +kernel
theorem oz_164 : rj_ok sm_164 [sm_163] = true := by decide +kernel
theorem oz_165 : rj_ok sm_165 [] = true := by decide +kernel
theorem oz_166 : rj_ok sm_166 [] = true := by decide +kernel
theorem oz_167 : rj_ok sm_167 [] = true := by decide +kernel
theorem oz_168 : rj_ok sm_168 [sm_166, sm_167, sm_165] = true := by decide +kernel
theorem oz_169 : rj_ok sm_169 [sm_166, sm_165, sm_167] = true := by decide +kernel
