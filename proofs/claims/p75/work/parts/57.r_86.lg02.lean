/-! the law's cases, checked -/
theorem lg_1 : lw_g 8 8 = true := by decide +kernel
