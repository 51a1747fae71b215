/-! summaries, checked (7) -/
theorem oz_231 : rj_ok sm_231 [sm_162, sm_170, sm_182] = true := by decide +kernel
theorem oz_232 : rj_ok sm_232 [sm_162, sm_170, sm_182] = true := by decide +kernel
theorem oz_233 : rj_ok sm_233 [sm_162, sm_170, sm_182] = true := by decide +kernel
theorem oz_234 : rj_ok sm_234 [sm_162, sm_170, sm_182] = true := by decide +kernel
theorem oz_235 : rj_ok sm_235 [sm_162, sm_170, sm_182, sm_224] = true := by decide +kernel
theorem oz_236 : rj_ok sm_236 [sm_162, sm_170, sm_190] = true := by decide +kernel
theorem oz_237 : rj_ok sm_237 [sm_162, sm_170, sm_190] = true := by decide +kernel
theorem oz_238 : rj_ok sm_238 [sm_162, sm_170, sm_190] = true := by decide +kernel
theorem oz_239 : rj_ok sm_239 [sm_162, sm_170, sm_164, sm_182] = true := by decide +kernel
theorem oz_240 : rj_ok sm_240 [sm_239] = true := by decide +kernel
