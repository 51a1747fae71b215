/-! summaries, checked -/
theorem oz_73_2 : rj_okK sm_73 [] 2 = true := by decide +kernel
