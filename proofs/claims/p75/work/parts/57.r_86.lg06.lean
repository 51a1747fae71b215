/-! the law's cases, checked -/
theorem lg_5 : lw_g 40 8 = true := by decide +kernel
