/-! the law's cases, checked -/
theorem lq_73_34 : lw_q 2323 (1 * 36) (1 * 34) 1 = true := by decide +kernel
