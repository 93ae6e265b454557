theorem okL_14 : pL_14.all (xpeOK "HandOverHorseLaw" code) = true := by decide +kernel
theorem okL_15 : pL_15.all (xpeOK "HandOverHorseLaw" code) = true := by decide +kernel
theorem okL_16 : pL_16.all (xpeOK "HandOverHorseLaw" code) = true := by decide +kernel
theorem okL_17 : pL_17.all (xpeOK "HandOverHorseLaw" code) = true := by decide +kernel
theorem okL_18 : pL_18.all (xpeOK "HandOverHorseLaw" code) = true := by decide +kernel
theorem okL_19 : pL_19.all (xpeOK "HandOverHorseLaw" code) = true := by decide +kernel
theorem okL_20 : pL_20.all (xpeOK "HandOverHorseLaw" code) = true := by decide +kernel
