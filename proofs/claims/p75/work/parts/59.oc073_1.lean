/-! summaries, checked -/
theorem oz_73_1 : rj_okK sm_73 [] 1 = true := by decide +kernel
