theorem xva_0 : xallb xm_312 ((xt_312).take 62) = true := by decide +kernel
theorem xva_1 : xallb xm_312 ((xt_312.drop 62).take 62) = true := by decide +kernel
theorem xva_2 : xallb xm_312 ((xt_312.drop 124).take 62) = true := by decide +kernel
theorem xva_3 : xallb xm_312 ((xt_312.drop 186).take 62) = true := by decide +kernel
