/-! summaries, checked -/
theorem oz_14 : rj_ok sm_14 [sm_5, sm_3, sm_8, sm_13] = true := by decide +kernel
