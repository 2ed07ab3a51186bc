theorem q_count : Cond.methodLink RX1 28 yX1_count ∈ aw := by
  refine aw_t 0 ?_ ?_
  · sorry
  · rfl
