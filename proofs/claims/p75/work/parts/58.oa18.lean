/-! summaries, checked -/
theorem oz_235 : rj_ok sm_235 [sm_163, sm_171, sm_183] = true := by decide +kernel
theorem oz_236 : rj_ok sm_236 [sm_163, sm_171, sm_183] = true := by decide +kernel
