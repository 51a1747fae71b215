/-! the law's cases, checked -/
theorem lwn : lw_n 80 = true := by decide +kernel
