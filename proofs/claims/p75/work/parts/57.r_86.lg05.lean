/-! the law's cases, checked -/
theorem lg_4 : lw_g 32 8 = true := by decide +kernel
