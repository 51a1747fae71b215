/-! summaries, checked -/
theorem oz_73_4 : rj_okK sm_73 [] 4 = true := by decide +kernel
