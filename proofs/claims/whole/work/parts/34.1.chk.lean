/-! roots, one by one -/
theorem chk_0 : chkR 1 580 = true := by decide +kernel
theorem chk_1 : chkR 581 685 = true := by decide +kernel
