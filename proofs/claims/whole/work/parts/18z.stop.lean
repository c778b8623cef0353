theorem stop_here : 1 = 2 := by decide
