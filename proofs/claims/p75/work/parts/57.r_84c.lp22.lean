/-! the law's cases, checked -/
theorem lq_73_22 : lw_q 2323 (1 * 36) (1 * 22) 1 = true := by decide +kernel
