/-! slices -/
theorem on_112 : rj_okN sm_112 1 = true := by decide +kernel
