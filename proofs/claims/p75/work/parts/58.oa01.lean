/-! summaries, checked -/
theorem oz_9 : rj_ok sm_9 [sm_3] = true := by decide +kernel
theorem oz_10 : rj_ok sm_10 [sm_3] = true := by decide +kernel
theorem oz_11 : rj_ok sm_11 [sm_3] = true := by decide +kernel
theorem oz_12 : rj_ok sm_12 [sm_3] = true := by decide +kernel
theorem oz_13 : rj_ok sm_13 [sm_3, sm_9, sm_10, sm_11, sm_12] = true := by decide +kernel
