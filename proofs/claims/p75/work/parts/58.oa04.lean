/-! summaries, checked -/
theorem oz_40 : rj_ok sm_40 [sm_32] = true := by decide +kernel
theorem oz_41 : rj_ok sm_41 [sm_32, sm_30] = true := by decide +kernel
theorem oz_42 : rj_ok sm_42 [sm_32] = true := by decide +kernel
theorem oz_43 : rj_ok sm_43 [] = true := by decide +kernel
theorem oz_44 : rj_ok sm_44 [sm_32, sm_43] = true := by decide +kernel
theorem oz_45 : rj_ok sm_45 [sm_32, sm_30] = true := by decide +kernel
theorem oz_46 : rj_ok sm_46 [sm_32] = true := by decide +kernel
theorem oz_47 : rj_ok sm_47 [sm_32, sm_30] = true := by decide +kernel
theorem oz_48 : rj_ok sm_48 [sm_30] = true := by decide +kernel
theorem oz_49 : rj_ok sm_49 [sm_32, sm_48] = true := by decide +kernel
theorem oz_50 : rj_ok sm_50 [sm_32] = true := by decide +kernel
theorem oz_51 : rj_ok sm_51 [] = true := by decide +kernel
theorem oz_52 : rj_ok sm_52 [sm_32, sm_51] = true := by decide +kernel
theorem oz_53 : rj_ok sm_53 [sm_32] = true := by decide +kernel
theorem oz_54 : rj_ok sm_54 [] = true := by decide +kernel
theorem oz_55 : rj_ok sm_55 [sm_32, sm_54] = true := by decide +kernel
theorem oz_56 : rj_ok sm_56 [] = true := by decide +kernel
theorem oz_57 : rj_ok sm_57 [sm_32, sm_54, sm_56] = true := by decide +kernel
theorem oz_58 : rj_ok sm_58 [sm_32, sm_48] = true := by decide +kernel
theorem oz_59 : rj_ok sm_59 [sm_32, sm_30] = true := by decide +kernel
theorem oz_60 : rj_ok sm_60 [sm_32] = true := by decide +kernel
theorem oz_61 : rj_ok sm_61 [sm_32] = true := by decide +kernel
theorem oz_62 : rj_ok sm_62 [sm_32] = true := by decide +kernel
theorem oz_63 : rj_ok sm_63 [sm_32] = true := by decide +kernel
theorem oz_64 : rj_ok sm_64 [sm_32, sm_36] = true := by decide +kernel
