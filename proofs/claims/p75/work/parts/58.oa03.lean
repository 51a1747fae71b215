/-! summaries, checked -/
theorem oz_24 : rj_ok sm_24 [sm_23] = true := by decide +kernel
theorem oz_25 : rj_ok sm_25 [] = true := by decide +kernel
theorem oz_27 : rj_ok sm_27 [] = true := by decide +kernel
theorem oz_28 : rj_ok sm_28 [sm_27] = true := by decide +kernel
theorem oz_29 : rj_ok sm_29 [] = true := by decide +kernel
theorem oz_30 : rj_ok sm_30 [] = true := by decide +kernel
theorem oz_32 : rj_ok sm_32 [sm_21, sm_31] = true := by decide +kernel
theorem oz_33 : rj_ok sm_33 [sm_32] = true := by decide +kernel
theorem oz_34 : rj_ok sm_34 [sm_32] = true := by decide +kernel
theorem oz_35 : rj_ok sm_35 [sm_32] = true := by decide +kernel
theorem oz_36 : rj_ok sm_36 [] = true := by decide +kernel
theorem oz_37 : rj_ok sm_37 [sm_32, sm_36] = true := by decide +kernel
theorem oz_38 : rj_ok sm_38 [sm_32] = true := by decide +kernel
theorem oz_39 : rj_ok sm_39 [sm_32] = true := by decide +kernel
