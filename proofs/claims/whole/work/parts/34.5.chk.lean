/-! roots, one by one -/
theorem chk_8 : chkR 6784 1292 = true := by decide +kernel
theorem chk_9 : chkR 8076 1925 = true := by decide +kernel
