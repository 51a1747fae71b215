/-! summaries, checked (1) -/
theorem oz_15 : rj_ok sm_15 [sm_3, sm_14] = true := by decide +kernel
theorem oz_16 : rj_ok sm_16 [sm_15] = true := by decide +kernel
theorem oz_17 : rj_ok sm_17 [] = true := by decide +kernel
theorem oz_18 : rj_ok sm_18 [] = true := by decide +kernel
theorem oz_19 : rj_ok sm_19 [] = true := by decide +kernel
theorem oz_20 : rj_ok sm_20 [] = true := by decide +kernel
theorem oz_21 : rj_ok sm_21 [sm_20] = true := by decide +kernel
theorem oz_22 : rj_ok sm_22 [] = true := by decide +kernel
theorem oz_23 : rj_ok sm_23 [] = true := by decide +kernel
theorem oz_24 : rj_ok sm_24 [sm_23] = true := by decide +kernel
theorem oz_25 : rj_ok sm_25 [] = true := by decide +kernel
theorem oz_26 : rj_ok sm_26 [sm_24, sm_25] = true := by decide +kernel
theorem oz_27 : rj_ok sm_27 [] = true := by decide +kernel
theorem oz_28 : rj_ok sm_28 [sm_27] = true := by decide +kernel
theorem oz_29 : rj_ok sm_29 [] = true := by decide +kernel
theorem oz_30 : rj_ok sm_30 [] = true := by decide +kernel
theorem oz_31 : rj_ok sm_31 [sm_22, sm_28, sm_30, sm_29, sm_26] = true := by decide +kernel
