/-! summaries, checked (4) -/
theorem oz_127 : rj_ok sm_127 [] = true := by decide +kernel
theorem oz_128 : rj_ok sm_128 [sm_127, sm_80] = true := by decide +kernel
theorem oz_129 : rj_ok sm_129 [sm_80, sm_127] = true := by decide +kernel
theorem oz_130 : rj_ok sm_130 [] = true := by decide +kernel
theorem oz_131 : rj_ok sm_131 [] = true := by decide +kernel
theorem oz_132 : rj_ok sm_132 [sm_131] = true := by decide +kernel
theorem oz_133 : rj_ok sm_133 [] = true := by decide +kernel
theorem oz_134 : rj_ok sm_134 [] = true := by decide +kernel
theorem oz_135 : rj_ok sm_135 [] = true := by decide +kernel
theorem oz_136 : rj_ok sm_136 [] = true := by decide +kernel
theorem oz_137 : rj_ok sm_137 [] = true := by decide +kernel
theorem oz_138 : rj_ok sm_138 [] = true := by decide +kernel
theorem oz_139 : rj_ok sm_139 [sm_135, sm_136, sm_137, sm_138] = true := by decide +kernel
theorem oz_140 : rj_ok sm_140 [] = true := by decide +kernel
theorem oz_141 : rj_ok sm_141 [] = true := by decide +kernel
theorem oz_142 : rj_ok sm_142 [] = true := by decide +kernel
theorem oz_143 : rj_ok sm_143 [] = true := by decide +kernel
theorem oz_144 : rj_ok sm_144 [] = true := by decide +kernel
theorem oz_145 : rj_ok sm_145 [] = true := by decide +kernel
theorem oz_146 : rj_ok sm_146 [] = true := by decide +kernel
theorem oz_147 : rj_ok sm_147 [] = true := by decide +kernel
theorem oz_148 : rj_ok sm_148 [] = true := by decide +kernel
theorem oz_149 : rj_ok sm_149 [sm_148] = true := by decide +kernel
theorem oz_150 : rj_ok sm_150 [sm_149, sm_148] = true := by decide +kernel
