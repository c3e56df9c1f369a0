/-! the reference's contracts, printed by wip/p34/genall.py -/
theorem zt_m659 : zchk zRUL 3 xBY zIN zCF [] zgl_m643 20000 [(2, 1, 0)] zc_m659 = true := by decide +kernel
theorem zt_m660 : zchk zRUL 3 xBY zIN zCF [] zgl_m643 20000 [(2, 1, 0)] zc_m660 = true := by decide +kernel
theorem zt_m661 : zchk zRUL 3 xBY zIN zCF [] zgl_m643 20000 [(2, 1, 0)] zc_m661 = true := by decide +kernel
theorem zt_m662 : zchk zRUL 3 xBY zIN zCF [] zgl_m643 20000 [(2, 1, 0)] zc_m662 = true := by decide +kernel
theorem zt_m663 : zchk zRUL 3 xBY zIN zCF [] zgl_m643 20000 [(2, 1, 0)] zc_m663 = true := by decide +kernel
theorem zt_m664 : zchk zRUL 3 xBY zIN zCF [] zgl_m643 20000 [(2, 1, 0)] zc_m664 = true := by decide +kernel
theorem zt_m665 : zchk zRUL 3 xBY zIN zCF [] zgl_m643 20000 [(2, 1, 0)] zc_m665 = true := by decide +kernel
theorem zt_m666 : zchk zRUL 3 xBY zIN zCF [] zgl_m643 20000 [(2, 1, 0)] zc_m666 = true := by decide +kernel
theorem zt_m667 : zchk zRUL 3 xBY zIN zCF [] zgl_m643 20000 [(2, 1, 0)] zc_m667 = true := by decide +kernel
theorem zt_m668 : zchk zRUL 3 xBY zIN zCF [] zgl_m643 20000 [(2, 1, 0)] zc_m668 = true := by decide +kernel
theorem zt_m669 : zchk zRUL 3 xBY zIN zCF [] zgl_m643 20000 [(2, 1, 0)] zc_m669 = true := by decide +kernel
theorem zt_m670 : zchk zRUL 3 xBY zIN zCF [] zgl_m643 20000 [(2, 1, 0)] zc_m670 = true := by decide +kernel
theorem zt_m671 : zchk zRUL 3 xBY zIN zCF [] zgl_m643 20000 [(2, 1, 0)] zc_m671 = true := by decide +kernel
theorem zt_m672 : zchk zRUL 3 xBY zIN zCF [] zgl_m643 20000 [(2, 1, 0)] zc_m672 = true := by decide +kernel
theorem zt_m673 : zchk zRUL 3 xBY zIN zCF [] zgl_m643 20000 [(2, 1, 0)] zc_m673 = true := by decide +kernel
