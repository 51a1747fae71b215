/-! summaries, checked -/
theorem oz_15 : rj_ok sm_15 [sm_3, sm_14] = true := by decide +kernel
theorem oz_16 : rj_ok sm_16 [sm_15] = true := by decide +kernel
theorem oz_17 : rj_ok sm_17 [] = true := by decide +kernel
theorem oz_18 : rj_ok sm_18 [] = true := by decide +kernel
theorem oz_19 : rj_ok sm_19 [] = true := by decide +kernel
theorem oz_20 : rj_ok sm_20 [] = true := by decide +kernel
theorem oz_21 : rj_ok sm_21 [sm_20] = true := by decide +kernel
theorem oz_22 : rj_ok sm_22 [] = true := by decide +kernel
theorem oz_23 : rj_ok sm_23 [] = true := by decide +kernel
