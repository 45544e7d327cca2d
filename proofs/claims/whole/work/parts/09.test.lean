theorem tst1 : zo 17 = zo 17 := rfl
