theorem mv_test : 1 + 1 = 2 := rfl
