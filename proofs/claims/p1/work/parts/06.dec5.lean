theorem xva_6 : xallb xm_177 ((xt_177.drop 372).take 62) = true := by decide +kernel
theorem xva_7 : xallb xm_177 ((xt_177.drop 434).take 62) = true := by decide +kernel
theorem xva_8 : xallb xm_177 ((xt_177.drop 496).take 62) = true := by decide +kernel
theorem xva_9 : xallb xm_177 ((xt_177.drop 558).take 62) = true := by decide +kernel
theorem xva_10 : xallb xm_177 ((xt_177.drop 620).take 62) = true := by decide +kernel
theorem xva_11 : xallb xm_177 (xt_177.drop 682) = true := by decide +kernel
