/-! the reference's contracts, printed by wip/p34/genall.py -/
theorem zt_m87 : zchk zRUL 3 xBY zIN zCF [zc_m23, zc_m24, zc_m25, zc_m26, zc_m27, zc_m28, zc_m29, zc_m30, zc_m31, zc_m32, zc_m33, zc_m43] zgl_m46 20000 [(5, 1, 0), (64, 1, 0)] zc_m87 = true := by decide +kernel
theorem zt_m88 : zchk zRUL 3 xBY zIN zCF [zc_m23, zc_m24, zc_m25, zc_m26, zc_m27, zc_m28, zc_m29, zc_m30, zc_m31, zc_m32, zc_m33, zc_m43] zgl_m46 20000 [(5, 1, 0), (64, 1, 0)] zc_m88 = true := by decide +kernel
theorem zt_m89 : zchk zRUL 3 xBY zIN zCF [zc_m23, zc_m24, zc_m25, zc_m26, zc_m27, zc_m28, zc_m29, zc_m30, zc_m31, zc_m32, zc_m33, zc_m43] zgl_m46 20000 [(5, 1, 0), (64, 1, 0)] zc_m89 = true := by decide +kernel
theorem zt_m90 : zchk zRUL 3 xBY zIN zCF [zc_m23, zc_m24, zc_m25, zc_m26, zc_m27, zc_m28, zc_m29, zc_m30, zc_m31, zc_m32, zc_m33, zc_m43] zgl_m46 20000 [(5, 1, 0), (64, 1, 0)] zc_m90 = true := by decide +kernel
theorem zt_m91 : zchk zRUL 3 xBY zIN zCF [zc_m23, zc_m24, zc_m25, zc_m26, zc_m27, zc_m28, zc_m29, zc_m30, zc_m31, zc_m32, zc_m33, zc_m43] zgl_m46 20000 [(5, 1, 0), (64, 1, 0)] zc_m91 = true := by decide +kernel
