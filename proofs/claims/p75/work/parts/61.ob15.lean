/-! summaries, checked -/
theorem oz_258 : rj_ok sm_258 [] = true := by decide +kernel
