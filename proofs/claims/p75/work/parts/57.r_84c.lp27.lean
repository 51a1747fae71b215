/-! the law's cases, checked -/
theorem lq_73_27 : lw_q 2323 (1 * 36) (1 * 27) 1 = true := by decide +kernel
