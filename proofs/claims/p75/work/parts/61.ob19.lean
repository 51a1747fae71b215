/-! summaries, checked -/
theorem oz_263 : rj_ok sm_263 [] = true := by decide +kernel
