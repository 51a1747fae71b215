/-! summaries, checked -/
theorem oz_26 : rj_ok sm_26 [sm_24, sm_25] = true := by decide +kernel
