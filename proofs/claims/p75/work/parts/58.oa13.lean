/-! summaries, checked -/
theorem oz_171 : rj_ok sm_171 [sm_165, sm_170] = true := by decide +kernel
theorem oz_172 : rj_ok sm_172 [sm_163, sm_171] = true := by decide +kernel
theorem oz_173 : rj_ok sm_173 [sm_172] = true := by decide +kernel
theorem oz_174 : rj_ok sm_174 [sm_172] = true := by decide +kernel
theorem oz_175 : rj_ok sm_175 [sm_172] = true := by decide +kernel
theorem oz_176 : rj_ok sm_176 [] = true := by decide +kernel
theorem oz_177 : rj_ok sm_177 [sm_172, sm_176] = true := by decide +kernel
theorem oz_178 : rj_ok sm_178 [sm_172] = true := by decide +kernel
theorem oz_179 : rj_ok sm_179 [sm_172] = true := by decide +kernel
theorem oz_180 : rj_ok sm_180 [sm_172, sm_167] = true := by decide +kernel
theorem oz_181 : rj_ok sm_181 [sm_172] = true := by decide +kernel
theorem oz_182 : rj_ok sm_182 [sm_172] = true := by decide +kernel
theorem oz_183 : rj_ok sm_183 [] = true := by decide +kernel
theorem oz_184 : rj_ok sm_184 [sm_172, sm_183] = true := by decide +kernel
theorem oz_185 : rj_ok sm_185 [sm_172] = true := by decide +kernel
theorem oz_186 : rj_ok sm_186 [sm_172] = true := by decide +kernel
theorem oz_187 : rj_ok sm_187 [sm_172] = true := by decide +kernel
theorem oz_188 : rj_ok sm_188 [] = true := by decide +kernel
