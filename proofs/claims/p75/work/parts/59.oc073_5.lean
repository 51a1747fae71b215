/-! summaries, checked -/
theorem oz_73_5 : rj_okK sm_73 [] 5 = true := by decide +kernel
