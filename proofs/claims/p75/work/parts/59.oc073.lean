/-! summaries, checked -/
theorem on_73 : rj_okN sm_73 7 = true := by decide +kernel
