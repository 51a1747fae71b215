/-! summaries, checked -/
theorem oz_65 : rj_ok sm_65 [sm_32] = true := by decide +kernel
theorem oz_66 : rj_ok sm_66 [] = true := by decide +kernel
theorem oz_67 : rj_ok sm_67 [sm_32, sm_30, sm_66] = true := by decide +kernel
theorem oz_68 : rj_ok sm_68 [] = true := by decide +kernel
theorem oz_69 : rj_ok sm_69 [sm_22, sm_26, sm_28, sm_29] = true := by decide +kernel
theorem oz_70 : rj_ok sm_70 [sm_68, sm_69] = true := by decide +kernel
theorem oz_71 : rj_ok sm_71 [] = true := by decide +kernel
theorem oz_72 : rj_ok sm_72 [] = true := by decide +kernel
theorem oz_74 : rj_ok sm_74 [sm_71, sm_72, sm_51, sm_73] = true := by decide +kernel
theorem oz_75 : rj_ok sm_75 [sm_21, sm_70, sm_74] = true := by decide +kernel
theorem oz_76 : rj_ok sm_76 [sm_75] = true := by decide +kernel
theorem oz_77 : rj_ok sm_77 [sm_75] = true := by decide +kernel
theorem oz_78 : rj_ok sm_78 [sm_75] = true := by decide +kernel
theorem oz_79 : rj_ok sm_79 [sm_69, sm_51] = true := by decide +kernel
theorem oz_80 : rj_ok sm_80 [sm_21, sm_79] = true := by decide +kernel
theorem oz_81 : rj_ok sm_81 [sm_80] = true := by decide +kernel
theorem oz_82 : rj_ok sm_82 [sm_80] = true := by decide +kernel
