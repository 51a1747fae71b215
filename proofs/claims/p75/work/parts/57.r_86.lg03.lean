/-! the law's cases, checked -/
theorem lg_2 : lw_g 16 8 = true := by decide +kernel
