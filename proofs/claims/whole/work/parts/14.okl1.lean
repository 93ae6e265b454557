theorem okL_7 : pL_7.all (xpeOK "HandOverHorseLaw" code) = true := by decide +kernel
theorem okL_8 : pL_8.all (xpeOK "HandOverHorseLaw" code) = true := by decide +kernel
theorem okL_9 : pL_9.all (xpeOK "HandOverHorseLaw" code) = true := by decide +kernel
theorem okL_10 : pL_10.all (xpeOK "HandOverHorseLaw" code) = true := by decide +kernel
theorem okL_11 : pL_11.all (xpeOK "HandOverHorseLaw" code) = true := by decide +kernel
theorem okL_12 : pL_12.all (xpeOK "HandOverHorseLaw" code) = true := by decide +kernel
theorem okL_13 : pL_13.all (xpeOK "HandOverHorseLaw" code) = true := by decide +kernel
