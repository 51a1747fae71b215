/-! summaries, checked -/
theorem oz_0 : rj_ok sm_0 [] = true := by decide +kernel
theorem oz_1 : rj_ok sm_1 [sm_0] = true := by decide +kernel
theorem oz_2 : rj_ok sm_2 [] = true := by decide +kernel
theorem oz_3 : rj_ok sm_3 [] = true := by decide +kernel
theorem oz_4 : rj_ok sm_4 [sm_3] = true := by decide +kernel
theorem oz_6 : rj_ok sm_6 [sm_3] = true := by decide +kernel
theorem oz_7 : rj_ok sm_7 [sm_3] = true := by decide +kernel
theorem oz_8 : rj_ok sm_8 [sm_3, sm_6, sm_7] = true := by decide +kernel
