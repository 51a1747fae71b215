/-! summaries, checked -/
theorem oz_261 : rj_ok sm_261 [] = true := by decide +kernel
