/-! slices -/
theorem ot_170_0_0 : rj_okT sm_170 [sm_168, sm_166, sm_169] (262, 0, 99999) (10 * 4) 0 (10 * 0) 10 = true := by decide +kernel
