/-! slices -/
theorem ot_159_1_3 : rj_okT sm_159 [sm_150, sm_148, sm_158] (31, 0, 99999) (2 * 4) 1 (2 * 3) 2 = true := by decide +kernel
