/-! summaries, checked -/
theorem oz_227 : rj_ok sm_227 [sm_165, sm_167, sm_217, sm_226] = true := by decide +kernel
