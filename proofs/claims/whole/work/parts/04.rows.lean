theorem tst0 : 1 + 1 = 2 := rfl
