def zc_0 : zC := (309, 0, 0, [(8, 2, .ofNat 0), (1, 0, .ofNat 0), (1, 1, .ofNat 0), (1, 2, .ofNat 0), (9, 0, .ofNat 0), (9, 0, .ofNat 0)], ([], []), [(.ofNat 0, .ofNat 255, 0, .ofNat 0), (.ofNat 0, .ofNat 0, 0, .ofNat 0), (.ofNat 1, .ofNat 11, 0, .ofNat 0)], [], [(some (1, 3, .ofNat 0), ([], []), [(.ofNat 0, .ofNat 255, 0, .ofNat 0), (.ofNat 0, .ofNat 0, 0, .ofNat 0), (.ofNat 1, .ofNat 11, 0, .ofNat 0), (.negSucc 0, .ofNat 10, 0, .ofNat 0)])], [(false, (0, 0, .ofNat 1000000)), (false, (0, 0, .ofNat 0))])
def zc_1 : zC := (309, 5, 0, [(8, 2, .ofNat 0), (1, 0, .ofNat 0), (1, 1, .ofNat 0), (1, 2, .ofNat 0), (1, 3, .ofNat 0), (1, 4, .ofNat 0)], ([], []), [(.ofNat 0, .ofNat 255, 0, .ofNat 0), (.ofNat 0, .ofNat 0, 0, .ofNat 0), (.ofNat 1, .ofNat 11, 0, .ofNat 0), (.negSucc 127, .ofNat 127, 0, .ofNat 0), (.ofNat 0, .ofNat 15, 0, .ofNat 0)], [], [(some (1, 5, .ofNat 0), ([], []), [(.ofNat 0, .ofNat 255, 0, .ofNat 0), (.ofNat 0, .ofNat 0, 0, .ofNat 0), (.ofNat 1, .ofNat 11, 0, .ofNat 0), (.negSucc 127, .ofNat 127, 0, .ofNat 0), (.ofNat 0, .ofNat 15, 0, .ofNat 0), (.negSucc 0, .ofNat 10, 0, .ofNat 0)])], [(false, (0, 0, .ofNat 0)), (true, (1, 4, .ofNat 0))])
/-- ('StringLatin1', 'indexOfChar') row 0, 5 steps -/
theorem zt_0 : zchk 3 xBY zIN zCF [] [zc_0, zc_1] 20000 [(5, 1, 0)] zc_0 = true := by decide +kernel
/-- ('StringLatin1', 'indexOfChar') row 5, 14 steps -/
theorem zt_1 : zchk 3 xBY zIN zCF [] [zc_0, zc_1] 20000 [(5, 1, 0)] zc_1 = true := by decide +kernel
def zc_2 : zC := (129, 0, 1, [(3, 1, .ofNat 0)], ([], []), [], [(1, (0, 0, .ofNat 0), (0, 0, .ofNat 0)), (1, (0, 0, .ofNat 5), (0, 0, .ofNat 6)), (1, (0, 0, .ofNat 8), (0, 0, .ofNat 8))], [(none, ([], []), [])], [(false, (0, 0, .ofNat 1000000)), (false, (0, 0, .ofNat 0))])
def zc_3 : zC := (129, 3, 1, [(3, 1, .ofNat 0)], ([(1, (0, 0, .ofNat 0), (1, 0, .ofNat 0))], []), [(.ofNat 0, .ofNat 1600, 0, .ofNat 0)], [(1, (0, 0, .ofNat 0), (0, 0, .ofNat 0)), (1, (0, 0, .ofNat 5), (0, 0, .ofNat 6)), (1, (0, 0, .ofNat 8), (0, 0, .ofNat 8))], [(none, ([], []), [(.ofNat 0, .ofNat 1600, 0, .ofNat 0)])], [(false, (0, 0, .ofNat 0)), (true, (1, 0, .ofNat 0))])
/-- ('Tape', 'readNumber') row 0, 3 steps -/
theorem zt_2 : zchk 3 xBY zIN zCF [] [zc_2, zc_3] 20000 [(3, 1, 0)] zc_2 = true := by decide +kernel
/-- ('Tape', 'readNumber') row 3, 291 steps -/
theorem zt_3 : zchk 3 xBY zIN zCF [] [zc_2, zc_3] 20000 [(3, 1, 0)] zc_3 = true := by decide +kernel
def zc_4 : zC := (128, 0, 1, [(3, 1, .ofNat 0)], ([], []), [], [(1, (0, 0, .ofNat 0), (0, 0, .ofNat 0)), (1, (0, 0, .ofNat 4), (0, 0, .ofNat 6))], [(none, ([], []), [])], [(false, (0, 0, .ofNat 1000000)), (false, (0, 0, .ofNat 0))])
def zc_5 : zC := (128, 3, 1, [(3, 1, .ofNat 0)], ([(1, (0, 0, .ofNat 0), (1, 0, .ofNat 0))], []), [(.ofNat 0, .ofNat 1600, 0, .ofNat 0)], [(1, (0, 0, .ofNat 0), (0, 0, .ofNat 0)), (1, (0, 0, .ofNat 4), (0, 0, .ofNat 6))], [(none, ([], []), [(.ofNat 0, .ofNat 1600, 0, .ofNat 0)])], [(false, (0, 0, .ofNat 0)), (true, (1, 0, .ofNat 0))])
/-- ('Tape', 'readWord') row 0, 3 steps -/
theorem zt_4 : zchk 3 xBY zIN zCF [] [zc_4, zc_5] 20000 [(3, 1, 0)] zc_4 = true := by decide +kernel
/-- ('Tape', 'readWord') row 3, 138 steps -/
theorem zt_5 : zchk 3 xBY zIN zCF [] [zc_4, zc_5] 20000 [(3, 1, 0)] zc_5 = true := by decide +kernel
def zc_6 : zC := (125, 0, 5, [(3, 1, .ofNat 0)], ([], []), [], [(1, (0, 0, .ofNat 0), (0, 0, .ofNat 0)), (1, (0, 0, .ofNat 3), (0, 0, .ofNat 6)), (1, (0, 0, .ofNat 8), (0, 0, .ofNat 9))], [(none, ([], []), [])], [(false, (0, 0, .ofNat 1000000)), (false, (0, 0, .ofNat 0))])
def zc_7 : zC := (125, 0, 5, [(3, 1, .ofNat 0)], ([(1, (0, 0, .ofNat 0), (1, 0, .ofNat 0))], []), [(.ofNat 1, .ofNat 1600, 0, .ofNat 0)], [(1, (0, 0, .ofNat 0), (0, 0, .ofNat 0)), (1, (0, 0, .ofNat 3), (0, 0, .ofNat 6)), (1, (0, 0, .ofNat 8), (0, 0, .ofNat 9))], [(none, ([], []), [(.ofNat 1, .ofNat 1600, 0, .ofNat 0)])], [(false, (0, 0, .ofNat 0)), (true, (1, 0, .ofNat 0))])
/-- ('Tape', 'advance') row 0, 3183 steps -/
theorem zt_6 : zchk 3 xBY zIN zCF [zc_0, zc_2, zc_4] [zc_6, zc_7] 20000 [(0, 1, 0)] zc_6 = true := by decide +kernel
/-- ('Tape', 'advance') row 0, 3183 steps -/
theorem zt_7 : zchk 3 xBY zIN zCF [zc_0, zc_2, zc_4] [zc_6, zc_7] 20000 [(0, 1, 0)] zc_7 = true := by decide +kernel
def zc_8 : zC := (109, 0, 0, [(3, 38, .ofNat 0), (1, 0, .ofNat 0), (1, 1, .ofNat 0), (9, 0, .ofNat 0)], ([], []), [(.ofNat 0, .ofNat 15, 0, .ofNat 0), (.ofNat 0, .ofNat 15, 0, .ofNat 0)], [], [(some (1, 2, .ofNat 0), ([], []), [(.ofNat 0, .ofNat 15, 0, .ofNat 0), (.ofNat 0, .ofNat 15, 0, .ofNat 0), (.ofNat 0, .ofNat 1, 0, .ofNat 0)])], [(false, (0, 0, .ofNat 1000000)), (false, (0, 0, .ofNat 0))])
def zc_9 : zC := (109, 2, 0, [(3, 38, .ofNat 0), (1, 0, .ofNat 0), (1, 1, .ofNat 0), (1, 2, .ofNat 0)], ([], []), [(.ofNat 0, .ofNat 15, 0, .ofNat 0), (.ofNat 0, .ofNat 15, 0, .ofNat 0), (.ofNat 0, .ofNat 8, 0, .ofNat 0)], [], [(some (1, 3, .ofNat 0), ([], []), [(.ofNat 0, .ofNat 15, 0, .ofNat 0), (.ofNat 0, .ofNat 15, 0, .ofNat 0), (.ofNat 0, .ofNat 8, 0, .ofNat 0), (.ofNat 0, .ofNat 1, 0, .ofNat 0)])], [(false, (0, 0, .ofNat 0)), (true, (1, 2, .ofNat 0))])
/-- ('Rules', 'hasPair') row 0, 2 steps -/
theorem zt_8 : zchk 3 xBY zIN zCF [] [zc_8, zc_9] 20000 [(2, 1, 0)] zc_8 = true := by decide +kernel
/-- ('Rules', 'hasPair') row 2, 56 steps -/
theorem zt_9 : zchk 3 xBY zIN zCF [] [zc_8, zc_9] 20000 [(2, 1, 0)] zc_9 = true := by decide +kernel
def zc_10 : zC := (109, 0, 0, [(3, 34, .ofNat 0), (1, 0, .ofNat 0), (1, 1, .ofNat 0), (9, 0, .ofNat 0)], ([], []), [(.ofNat 0, .ofNat 15, 0, .ofNat 0), (.ofNat 0, .ofNat 15, 0, .ofNat 0)], [], [(some (1, 2, .ofNat 0), ([], []), [(.ofNat 0, .ofNat 15, 0, .ofNat 0), (.ofNat 0, .ofNat 15, 0, .ofNat 0), (.ofNat 0, .ofNat 1, 0, .ofNat 0)])], [(false, (0, 0, .ofNat 1000000)), (false, (0, 0, .ofNat 0))])
def zc_11 : zC := (109, 2, 0, [(3, 34, .ofNat 0), (1, 0, .ofNat 0), (1, 1, .ofNat 0), (1, 2, .ofNat 0)], ([], []), [(.ofNat 0, .ofNat 15, 0, .ofNat 0), (.ofNat 0, .ofNat 15, 0, .ofNat 0), (.ofNat 0, .ofNat 8, 0, .ofNat 0)], [], [(some (1, 3, .ofNat 0), ([], []), [(.ofNat 0, .ofNat 15, 0, .ofNat 0), (.ofNat 0, .ofNat 15, 0, .ofNat 0), (.ofNat 0, .ofNat 8, 0, .ofNat 0), (.ofNat 0, .ofNat 1, 0, .ofNat 0)])], [(false, (0, 0, .ofNat 0)), (true, (1, 2, .ofNat 0))])
/-- ('Rules', 'hasPair') row 0, 2 steps -/
theorem zt_10 : zchk 3 xBY zIN zCF [] [zc_10, zc_11] 20000 [(2, 1, 0)] zc_10 = true := by decide +kernel
/-- ('Rules', 'hasPair') row 2, 56 steps -/
theorem zt_11 : zchk 3 xBY zIN zCF [] [zc_10, zc_11] 20000 [(2, 1, 0)] zc_11 = true := by decide +kernel
def zc_12 : zC := (18, 0, 0, [(3, 47, .ofNat 0), (1, 0, .ofNat 0), (9, 0, .ofNat 0), (9, 0, .ofNat 0), (9, 0, .ofNat 0), (9, 0, .ofNat 0)], ([(47, (0, 0, .ofNat 0), (3, 4, .ofNat 0))], []), [(.ofNat 0, .ofNat 15, 0, .ofNat 0)], [], [(some (1, 1, .ofNat 0), ([], []), [(.ofNat 0, .ofNat 15, 0, .ofNat 0), (.ofNat 0, .ofNat 65535, 0, .ofNat 0)])], [(false, (0, 0, .ofNat 1000000)), (false, (0, 0, .ofNat 0))])
def zc_13 : zC := (18, 17, 0, [(3, 47, .ofNat 0), (1, 0, .ofNat 0), (1, 1, .ofNat 0), (1, 2, .ofNat 0), (1, 3, .ofNat 0), (1, 4, .ofNat 0)], ([(47, (0, 0, .ofNat 0), (3, 4, .ofNat 0))], []), [(.ofNat 0, .ofNat 15, 0, .ofNat 0), (.ofNat 0, .ofNat 5, 0, .ofNat 0), (.ofNat 0, .ofNat 75, 0, .ofNat 0), (.ofNat 0, .ofNat 65535, 0, .ofNat 0), (.ofNat 0, .ofNat 5, 0, .ofNat 0)], [], [(some (1, 5, .ofNat 0), ([], []), [(.ofNat 0, .ofNat 15, 0, .ofNat 0), (.ofNat 0, .ofNat 5, 0, .ofNat 0), (.ofNat 0, .ofNat 75, 0, .ofNat 0), (.ofNat 0, .ofNat 65535, 0, .ofNat 0), (.ofNat 0, .ofNat 5, 0, .ofNat 0), (.ofNat 0, .ofNat 65535, 0, .ofNat 0)])], [(false, (0, 0, .ofNat 0)), (true, (1, 4, .ofNat 0))])
/-- ('Board', 'actsThatFit') row 0, 17 steps -/
theorem zt_12 : zchk 3 xBY zIN zCF [] [zc_12, zc_13] 20000 [(17, 1, 0)] zc_12 = true := by decide +kernel
/-- ('Board', 'actsThatFit') row 17, 31 steps -/
theorem zt_13 : zchk 3 xBY zIN zCF [] [zc_12, zc_13] 20000 [(17, 1, 0)] zc_13 = true := by decide +kernel
def zc_14 : zC := (114, 0, 0, [(3, 68, .ofNat 0), (1, 0, .ofNat 0), (3, 47, .ofNat 0)], ([], []), [(.ofNat 0, .ofNat 40, 0, .ofNat 0)], [(69, (0, 0, .ofNat 0), (0, 0, .ofNat 860)), (70, (0, 0, .ofNat 0), (0, 0, .ofNat 40))], [(none, ([], []), [(.ofNat 0, .ofNat 40, 0, .ofNat 0)])], [])
/-- ('Shelf', 'put') row 0, 1312 steps -/
theorem zt_14 : zchk 3 xBY zIN zCF [] [zc_14] 20000 [(0, 0, 0)] zc_14 = true := by decide +kernel
def zc_15 : zC := (18, 0, 0, [(3, 57, .ofNat 0), (1, 0, .ofNat 0), (9, 0, .ofNat 0), (9, 0, .ofNat 0), (9, 0, .ofNat 0), (9, 0, .ofNat 0)], ([(57, (0, 0, .ofNat 0), (3, 4, .ofNat 0))], []), [(.ofNat 0, .ofNat 15, 0, .ofNat 0)], [], [(some (1, 1, .ofNat 0), ([], []), [(.ofNat 0, .ofNat 15, 0, .ofNat 0), (.ofNat 0, .ofNat 65535, 0, .ofNat 0)])], [(false, (0, 0, .ofNat 1000000)), (false, (0, 0, .ofNat 0))])
def zc_16 : zC := (18, 17, 0, [(3, 57, .ofNat 0), (1, 0, .ofNat 0), (1, 1, .ofNat 0), (1, 2, .ofNat 0), (1, 3, .ofNat 0), (1, 4, .ofNat 0)], ([(57, (0, 0, .ofNat 0), (3, 4, .ofNat 0))], []), [(.ofNat 0, .ofNat 15, 0, .ofNat 0), (.ofNat 0, .ofNat 5, 0, .ofNat 0), (.ofNat 0, .ofNat 75, 0, .ofNat 0), (.ofNat 0, .ofNat 65535, 0, .ofNat 0), (.ofNat 0, .ofNat 5, 0, .ofNat 0)], [], [(some (1, 5, .ofNat 0), ([], []), [(.ofNat 0, .ofNat 15, 0, .ofNat 0), (.ofNat 0, .ofNat 5, 0, .ofNat 0), (.ofNat 0, .ofNat 75, 0, .ofNat 0), (.ofNat 0, .ofNat 65535, 0, .ofNat 0), (.ofNat 0, .ofNat 5, 0, .ofNat 0), (.ofNat 0, .ofNat 65535, 0, .ofNat 0)])], [(false, (0, 0, .ofNat 0)), (true, (1, 4, .ofNat 0))])
/-- ('Board', 'actsThatFit') row 0, 17 steps -/
theorem zt_15 : zchk 3 xBY zIN zCF [] [zc_15, zc_16] 20000 [(17, 1, 0)] zc_15 = true := by decide +kernel
/-- ('Board', 'actsThatFit') row 17, 31 steps -/
theorem zt_16 : zchk 3 xBY zIN zCF [] [zc_15, zc_16] 20000 [(17, 1, 0)] zc_16 = true := by decide +kernel
def zc_17 : zC := (114, 0, 0, [(3, 71, .ofNat 0), (1, 0, .ofNat 0), (3, 47, .ofNat 0)], ([], []), [(.ofNat 0, .ofNat 2, 0, .ofNat 0)], [(72, (0, 0, .ofNat 0), (0, 0, .ofNat 62)), (73, (0, 0, .ofNat 0), (0, 0, .ofNat 2))], [(none, ([], []), [(.ofNat 0, .ofNat 2, 0, .ofNat 0)])], [])
/-- ('Shelf', 'put') row 0, 96 steps -/
theorem zt_17 : zchk 3 xBY zIN zCF [] [zc_17] 20000 [(0, 0, 0)] zc_17 = true := by decide +kernel
