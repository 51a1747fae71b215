/-! summaries, checked -/
theorem oz_205 : rj_ok sm_205 [] = true := by decide +kernel
theorem oz_206 : rj_ok sm_206 [sm_172, sm_205] = true := by decide +kernel
theorem oz_207 : rj_ok sm_207 [sm_171, sm_191] = true := by decide +kernel
theorem oz_208 : rj_ok sm_208 [sm_207, sm_171, sm_191] = true := by decide +kernel
theorem oz_209 : rj_ok sm_209 [sm_208, sm_171, sm_191] = true := by decide +kernel
theorem oz_210 : rj_ok sm_210 [sm_209, sm_171, sm_191] = true := by decide +kernel
theorem oz_211 : rj_ok sm_211 [sm_210, sm_171, sm_191] = true := by decide +kernel
theorem oz_212 : rj_ok sm_212 [sm_211, sm_171, sm_191] = true := by decide +kernel
theorem oz_213 : rj_ok sm_213 [sm_212, sm_171, sm_191] = true := by decide +kernel
theorem oz_214 : rj_ok sm_214 [sm_163, sm_213] = true := by decide +kernel
theorem oz_215 : rj_ok sm_215 [sm_163, sm_213] = true := by decide +kernel
theorem oz_216 : rj_ok sm_216 [sm_163, sm_213] = true := by decide +kernel
theorem oz_217 : rj_ok sm_217 [sm_163, sm_171, sm_191] = true := by decide +kernel
theorem oz_218 : rj_ok sm_218 [sm_217, sm_167] = true := by decide +kernel
theorem oz_219 : rj_ok sm_219 [sm_217] = true := by decide +kernel
