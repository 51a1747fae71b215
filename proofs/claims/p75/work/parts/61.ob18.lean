/-! summaries, checked -/
theorem oz_262 : rj_ok sm_262 [] = true := by decide +kernel
