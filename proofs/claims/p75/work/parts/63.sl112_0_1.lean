/-! slices -/
theorem ot_112_0_1 : rj_okT sm_112 [sm_101, sm_21, sm_20, sm_103, sm_104, sm_89] (4, 0, 99999) (2 * 2) 0 (2 * 1) 2 = true := by decide +kernel
