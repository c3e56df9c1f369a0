theorem xvm_308 : xmvb xm_308 = true := by decide +kernel
theorem xvm_309 : xmvb xm_309 = true := by decide +kernel
theorem xvm_310 : xmvb xm_310 = true := by decide +kernel
theorem xvm_311 : xmvb xm_311 = true := by decide +kernel
theorem xva_c : xchain xt_312 = true := by decide +kernel
