theorem xva_4 : xallb xm_312 ((xt_312.drop 248).take 62) = true := by decide +kernel
theorem xva_5 : xallb xm_312 ((xt_312.drop 310).take 62) = true := by decide +kernel
theorem xva_6 : xallb xm_312 ((xt_312.drop 372).take 62) = true := by decide +kernel
theorem xva_7 : xallb xm_312 ((xt_312.drop 434).take 62) = true := by decide +kernel
