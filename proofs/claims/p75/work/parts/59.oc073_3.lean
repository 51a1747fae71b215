/-! summaries, checked -/
theorem oz_73_3 : rj_okK sm_73 [] 3 = true := by decide +kernel
