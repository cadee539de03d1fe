theorem x_tst1 : (x_c 400 x_b0).isSome = true := by decide +kernel
