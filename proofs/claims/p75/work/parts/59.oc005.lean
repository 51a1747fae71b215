/-! summaries, checked -/
theorem on_5 : rj_okN sm_5 4 = true := by decide +kernel
