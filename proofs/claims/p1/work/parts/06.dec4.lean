theorem xva_c : xchain xt_177 = true := by decide +kernel
theorem xva_0 : xallb xm_177 ((xt_177).take 62) = true := by decide +kernel
theorem xva_1 : xallb xm_177 ((xt_177.drop 62).take 62) = true := by decide +kernel
theorem xva_2 : xallb xm_177 ((xt_177.drop 124).take 62) = true := by decide +kernel
theorem xva_3 : xallb xm_177 ((xt_177.drop 186).take 62) = true := by decide +kernel
theorem xva_4 : xallb xm_177 ((xt_177.drop 248).take 62) = true := by decide +kernel
theorem xva_5 : xallb xm_177 ((xt_177.drop 310).take 62) = true := by decide +kernel
