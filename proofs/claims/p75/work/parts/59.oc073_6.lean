/-! summaries, checked -/
theorem oz_73_6 : rj_okK sm_73 [] 6 = true := by decide +kernel
