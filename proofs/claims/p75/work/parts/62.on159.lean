/-! slices -/
theorem on_159 : rj_okN sm_159 3 = true := by decide +kernel
