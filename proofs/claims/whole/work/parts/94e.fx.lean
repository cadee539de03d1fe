theorem x_tst0 : (x_d 13 x_b0).isSome = true := by decide +kernel
