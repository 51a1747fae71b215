/-! summaries, checked (3) -/
theorem oz_91 : rj_ok sm_91 [] = true := by decide +kernel
theorem oz_92 : rj_ok sm_92 [sm_91] = true := by decide +kernel
theorem oz_93 : rj_ok sm_93 [] = true := by decide +kernel
theorem oz_94 : rj_ok sm_94 [sm_93] = true := by decide +kernel
theorem oz_95 : rj_ok sm_95 [] = true := by decide +kernel
theorem oz_96 : rj_ok sm_96 [sm_95] = true := by decide +kernel
theorem oz_97 : rj_ok sm_97 [] = true := by decide +kernel
theorem oz_98 : rj_ok sm_98 [sm_97] = true := by decide +kernel
theorem oz_99 : rj_ok sm_99 [sm_80, sm_91, sm_92, sm_93, sm_94, sm_95, sm_96, sm_97, sm_98] = true := by decide +kernel
theorem oz_100 : rj_ok sm_100 [sm_80, sm_92, sm_94, sm_96, sm_98] = true := by decide +kernel
theorem oz_101 : rj_ok sm_101 [] = true := by decide +kernel
theorem oz_102 : rj_ok sm_102 [] = true := by decide +kernel
theorem oz_103 : rj_ok sm_103 [sm_22, sm_28, sm_102, sm_29, sm_26] = true := by decide +kernel
theorem oz_104 : rj_ok sm_104 [] = true := by decide +kernel
theorem oz_108 : rj_ok sm_108 [] = true := by decide +kernel
theorem oz_109 : rj_ok sm_109 [sm_108] = true := by decide +kernel
theorem oz_114 : rj_ok sm_114 [sm_21, sm_69, sm_51] = true := by decide +kernel
theorem oz_115 : rj_ok sm_115 [sm_21, sm_69, sm_51] = true := by decide +kernel
theorem oz_116 : rj_ok sm_116 [sm_21, sm_69] = true := by decide +kernel
theorem oz_117 : rj_ok sm_117 [sm_116] = true := by decide +kernel
theorem oz_118 : rj_ok sm_118 [sm_116] = true := by decide +kernel
theorem oz_119 : rj_ok sm_119 [sm_80, sm_71, sm_89] = true := by decide +kernel
theorem oz_120 : rj_ok sm_120 [sm_80, sm_71, sm_89] = true := by decide +kernel
theorem oz_121 : rj_ok sm_121 [sm_80, sm_71, sm_89] = true := by decide +kernel
theorem oz_122 : rj_ok sm_122 [] = true := by decide +kernel
theorem oz_123 : rj_ok sm_123 [] = true := by decide +kernel
theorem oz_124 : rj_ok sm_124 [] = true := by decide +kernel
theorem oz_125 : rj_ok sm_125 [sm_124] = true := by decide +kernel
theorem oz_126 : rj_ok sm_126 [sm_124] = true := by decide +kernel
