/-! summaries, checked -/
theorem on_5 : rj_okN sm_5 3 = true := by decide +kernel
