/-! slices -/
theorem ot_170_0_1 : rj_okT sm_170 [sm_168, sm_166, sm_169] (262, 0, 99999) (10 * 4) 0 (10 * 1) 10 = true := by decide +kernel
