/-! roots, one by one -/
theorem chk_4 : chkR 2878 858 = true := by decide +kernel
theorem chk_5 : chkR 3736 918 = true := by decide +kernel
