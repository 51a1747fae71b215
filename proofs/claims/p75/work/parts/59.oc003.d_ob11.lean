/-! summaries, checked -/
theorem oz_149 : rj_ok sm_149 [] = true := by decide +kernel
