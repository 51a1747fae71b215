/-! the law's cases, checked -/
theorem lg_8 : lw_g 64 8 = true := by decide +kernel
