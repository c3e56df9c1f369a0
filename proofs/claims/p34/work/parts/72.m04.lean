/-! the reference's contracts, printed by wip/p34/genall.py -/
theorem zt_m46 : zchk zRUL 3 xBY zIN zCF [zc_m23, zc_m24, zc_m25, zc_m26, zc_m27, zc_m28, zc_m29, zc_m30, zc_m31, zc_m32, zc_m33, zc_m43] zgl_m46 20000 [(0, 0, 1), (1, 0, 2), (5, 1, 0), (64, 1, 0)] zc_m46 = true := by decide +kernel
theorem zt_m47 : zchk zRUL 3 xBY zIN zCF [zc_m23, zc_m24, zc_m25, zc_m26, zc_m27, zc_m28, zc_m29, zc_m30, zc_m31, zc_m32, zc_m33, zc_m43] zgl_m46 20000 [(5, 1, 0), (64, 1, 0)] zc_m47 = true := by decide +kernel
theorem zt_m48 : zchk zRUL 3 xBY zIN zCF [zc_m23, zc_m24, zc_m25, zc_m26, zc_m27, zc_m28, zc_m29, zc_m30, zc_m31, zc_m32, zc_m33, zc_m43] zgl_m46 20000 [(5, 1, 0), (64, 1, 0)] zc_m48 = true := by decide +kernel
theorem zt_m49 : zchk zRUL 3 xBY zIN zCF [zc_m23, zc_m24, zc_m25, zc_m26, zc_m27, zc_m28, zc_m29, zc_m30, zc_m31, zc_m32, zc_m33, zc_m43] zgl_m46 20000 [(5, 1, 0), (64, 1, 0)] zc_m49 = true := by decide +kernel
