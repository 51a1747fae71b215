/-! summaries, checked (8) -/
theorem oz_241 : rj_ok sm_241 [sm_239] = true := by decide +kernel
theorem oz_242 : rj_ok sm_242 [sm_162, sm_164, sm_170, sm_190] = true := by decide +kernel
theorem oz_243 : rj_ok sm_243 [sm_242, sm_224] = true := by decide +kernel
theorem oz_244 : rj_ok sm_244 [sm_242, sm_224] = true := by decide +kernel
theorem oz_245 : rj_ok sm_245 [sm_242, sm_224] = true := by decide +kernel
theorem oz_246 : rj_ok sm_246 [sm_162, sm_170] = true := by decide +kernel
theorem oz_247 : rj_ok sm_247 [sm_246, sm_190] = true := by decide +kernel
theorem oz_248 : rj_ok sm_248 [sm_246] = true := by decide +kernel
theorem oz_249 : rj_ok sm_249 [sm_162, sm_164] = true := by decide +kernel
theorem oz_250 : rj_ok sm_250 [sm_162] = true := by decide +kernel
theorem oz_251 : rj_ok sm_251 [] = true := by decide +kernel
theorem oz_252 : rj_ok sm_252 [] = true := by decide +kernel
theorem oz_253 : rj_ok sm_253 [] = true := by decide +kernel
theorem oz_254 : rj_ok sm_254 [] = true := by decide +kernel
