/-! a law's case, its points put together -/
theorem lf_71 : lw_f 2207 = true := by
  refine lwf_q (c2 := 1) (M := 6) (by decide) (by decide) ?_
  intro j hj
  match j, hj with
  | 0, _ => exact lq_71_0
  | 1, _ => exact lq_71_1
  | 2, _ => exact lq_71_2
  | 3, _ => exact lq_71_3
  | 4, _ => exact lq_71_4
  | 5, _ => exact lq_71_5
  | n + 6, hj => exact absurd hj (by omega)
