/-! summaries, checked -/
theorem oz_189 : rj_ok sm_189 [sm_172, sm_188] = true := by decide +kernel
theorem oz_190 : rj_ok sm_190 [sm_172] = true := by decide +kernel
theorem oz_191 : rj_ok sm_191 [] = true := by decide +kernel
theorem oz_192 : rj_ok sm_192 [sm_172, sm_191] = true := by decide +kernel
theorem oz_193 : rj_ok sm_193 [sm_172] = true := by decide +kernel
theorem oz_194 : rj_ok sm_194 [sm_172] = true := by decide +kernel
theorem oz_195 : rj_ok sm_195 [sm_194] = true := by decide +kernel
theorem oz_196 : rj_ok sm_196 [sm_194] = true := by decide +kernel
theorem oz_197 : rj_ok sm_197 [sm_172, sm_188, sm_167] = true := by decide +kernel
theorem oz_198 : rj_ok sm_198 [sm_172] = true := by decide +kernel
theorem oz_199 : rj_ok sm_199 [sm_172] = true := by decide +kernel
theorem oz_200 : rj_ok sm_200 [sm_172] = true := by decide +kernel
theorem oz_201 : rj_ok sm_201 [sm_172] = true := by decide +kernel
theorem oz_202 : rj_ok sm_202 [sm_172] = true := by decide +kernel
theorem oz_203 : rj_ok sm_203 [sm_172] = true := by decide +kernel
theorem oz_204 : rj_ok sm_204 [sm_172] = true := by decide +kernel
