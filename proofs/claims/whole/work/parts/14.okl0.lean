theorem okL_0 : pL_0.all (xpeOK "HandOverHorseLaw" code) = true := by decide +kernel
theorem okL_1 : pL_1.all (xpeOK "HandOverHorseLaw" code) = true := by decide +kernel
theorem okL_2 : pL_2.all (xpeOK "HandOverHorseLaw" code) = true := by decide +kernel
theorem okL_3 : pL_3.all (xpeOK "HandOverHorseLaw" code) = true := by decide +kernel
theorem okL_4 : pL_4.all (xpeOK "HandOverHorseLaw" code) = true := by decide +kernel
theorem okL_5 : pL_5.all (xpeOK "HandOverHorseLaw" code) = true := by decide +kernel
theorem okL_6 : pL_6.all (xpeOK "HandOverHorseLaw" code) = true := by decide +kernel
