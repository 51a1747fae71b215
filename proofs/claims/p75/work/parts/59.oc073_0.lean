/-! summaries, checked -/
theorem oz_73_0 : rj_okK sm_73 [] 0 = true := by decide +kernel
