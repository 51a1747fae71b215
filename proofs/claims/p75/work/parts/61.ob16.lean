/-! summaries, checked -/
theorem oz_259 : rj_ok sm_259 [] = true := by decide +kernel
