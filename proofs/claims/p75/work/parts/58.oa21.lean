/-! summaries, checked -/
theorem oz_251 : rj_ok sm_251 [sm_163, sm_165] = true := by decide +kernel
theorem oz_252 : rj_ok sm_252 [sm_163] = true := by decide +kernel
theorem oz_253 : rj_ok sm_253 [] = true := by decide +kernel
theorem oz_254 : rj_ok sm_254 [] = true := by decide +kernel
theorem oz_255 : rj_ok sm_255 [] = true := by decide +kernel
theorem oz_256 : rj_ok sm_256 [] = true := by decide +kernel
