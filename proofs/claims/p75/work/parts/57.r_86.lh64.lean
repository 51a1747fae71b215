/-! the law's cases, checked -/
theorem lh_64 : lw_g 64 4 = true := by decide +kernel
