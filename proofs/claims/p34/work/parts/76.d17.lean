theorem xva_8 : xallb xm_312 ((xt_312.drop 496).take 62) = true := by decide +kernel
theorem xva_9 : xallb xm_312 ((xt_312.drop 558).take 62) = true := by decide +kernel
theorem xva_10 : xallb xm_312 ((xt_312.drop 620).take 62) = true := by decide +kernel
theorem xva_11 : xallb xm_312 (xt_312.drop 682) = true := by decide +kernel
