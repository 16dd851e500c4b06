/-! roots, one by one -/
theorem chk_2 : chkR 1266 768 = true := by decide +kernel
theorem chk_3 : chkR 2034 844 = true := by decide +kernel
