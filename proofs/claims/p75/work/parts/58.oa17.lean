/-! summaries, checked -/
theorem oz_233 : rj_ok sm_233 [sm_163, sm_171, sm_183] = true := by decide +kernel
theorem oz_234 : rj_ok sm_234 [sm_163, sm_171, sm_183] = true := by decide +kernel
