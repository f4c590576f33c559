theorem nb0 : narrow .boolean (.int 0) = .int 0 := by decide
theorem nb1 : narrow .boolean (.int 1) = .int 1 := by decide
