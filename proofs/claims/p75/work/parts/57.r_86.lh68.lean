/-! the law's cases, checked -/
theorem lh_68 : lw_g 68 3 = true := by decide +kernel
