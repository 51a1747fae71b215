/-! summaries, checked -/
theorem oz_257 : rj_ok sm_257 [] = true := by decide +kernel
