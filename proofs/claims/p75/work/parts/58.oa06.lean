/-! summaries, checked -/
theorem oz_83 : rj_ok sm_83 [sm_80] = true := by decide +kernel
theorem oz_84 : rj_ok sm_84 [sm_80] = true := by decide +kernel
theorem oz_85 : rj_ok sm_85 [sm_21, sm_20, sm_69, sm_51] = true := by decide +kernel
theorem oz_86 : rj_ok sm_86 [sm_32, sm_43, sm_21, sm_20, sm_69] = true := by decide +kernel
theorem oz_87 : rj_ok sm_87 [sm_32, sm_51, sm_21, sm_20, sm_69] = true := by decide +kernel
theorem oz_88 : rj_ok sm_88 [] = true := by decide +kernel
theorem oz_89 : rj_ok sm_89 [] = true := by decide +kernel
theorem oz_90 : rj_ok sm_90 [sm_80, sm_88, sm_89] = true := by decide +kernel
theorem oz_91 : rj_ok sm_91 [] = true := by decide +kernel
theorem oz_92 : rj_ok sm_92 [sm_91] = true := by decide +kernel
theorem oz_93 : rj_ok sm_93 [] = true := by decide +kernel
theorem oz_94 : rj_ok sm_94 [sm_93] = true := by decide +kernel
theorem oz_95 : rj_ok sm_95 [] = true := by decide +kernel
theorem oz_96 : rj_ok sm_96 [sm_95] = true := by decide +kernel
theorem oz_97 : rj_ok sm_97 [] = true := by decide +kernel
theorem oz_98 : rj_ok sm_98 [sm_97] = true := by decide +kernel
theorem oz_99 : rj_ok sm_99 [sm_80, sm_91, sm_92, sm_93, sm_94, sm_95, sm_96, sm_97, sm_98] = true := by decide +kernel
