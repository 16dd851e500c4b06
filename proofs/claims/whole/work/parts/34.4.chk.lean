/-! roots, one by one -/
theorem chk_6 : chkR 4654 1008 = true := by decide +kernel
theorem chk_7 : chkR 5662 1122 = true := by decide +kernel
