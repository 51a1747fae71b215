/-! slices -/
theorem on_170 : rj_okN sm_170 1 = true := by decide +kernel
