/-! slices -/
theorem ot_159_1_2 : rj_okT sm_159 [sm_150, sm_148, sm_158] (31, 0, 99999) (2 * 4) 1 (2 * 2) 2 = true := by decide +kernel
