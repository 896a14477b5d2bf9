theorem rp_first : 1 + 1 = 2 := rfl
