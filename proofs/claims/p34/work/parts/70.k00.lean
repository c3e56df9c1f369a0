/-! the class's contracts, printed by wip/p34/gencls.py -/
/-- Tape.put, row 0 -/
def zc_0 : zC := (123, 0, 0, [(3, 1, .ofNat 0), (1, 0, .ofNat 0), (9, 0, .ofNat 0)], ([], []), [(.negSucc 2147483647, .ofNat 2147483647, 0, .ofNat 0)], [(1, (0, 0, .ofNat 1), (0, 0, .ofNat 1)), (2, (0, 0, .ofNat 0), (0, 0, .ofNat 1599))], [(none, ([], []), [(.negSucc 2147483647, .ofNat 2147483647, 0, .ofNat 0)])], [(false, (0, 0, .ofNat 1000000)), (false, (0, 0, .ofNat 0))])
/-- Tape.put, row 2 -/
def zc_1 : zC := (123, 2, 0, [(3, 1, .ofNat 0), (1, 0, .ofNat 0), (1, 1, .ofNat 0)], ([], []), [(.negSucc 2147483647, .ofNat 2147483647, 0, .ofNat 0), (.negSucc 8, .ofNat 24, 0, .ofNat 0)], [(1, (0, 0, .ofNat 1), (0, 0, .ofNat 1)), (2, (0, 0, .ofNat 0), (0, 0, .ofNat 1599))], [(none, ([], []), [(.negSucc 2147483647, .ofNat 2147483647, 0, .ofNat 0), (.negSucc 8, .ofNat 24, 0, .ofNat 0)])], [(false, (0, 0, .ofNat 0)), (false, (1, 1, .ofNat 0))])
theorem zt_0 : zchk zRUL 3 xBY zIN zCF [] [zc_0, zc_1] 20000 [(2, 1, 0)] zc_0 = true := by decide +kernel
theorem zt_1 : zchk zRUL 3 xBY zIN zCF [] [zc_0, zc_1] 20000 [(2, 1, 0)] zc_1 = true := by decide +kernel
theorem zk_0 {g : yG} {J : zJp} (hy : zHy J) : zCok g zCF J zc_0 := zgp hy (CT := []) (fun _ h => absurd h List.not_mem_nil) (fuel := 20000) (L := [(zc_0, [(2, 1, 0)]), (zc_1, [(2, 1, 0)])]) (List.forall_mem_cons.mpr ⟨zt_0, List.forall_mem_cons.mpr ⟨zt_1, fun _ h => absurd h List.not_mem_nil⟩⟩) (zc_0, [(2, 1, 0)]) List.mem_cons_self
/-- GridLaws.feed, row 0 -/
def zc_2 : zC := (136, 0, 1, [(3, 0, .ofNat 0), (1, 0, .ofNat 0), (1, 1, .ofNat 0), (1, 2, .ofNat 0), (1, 3, .ofNat 0), (1, 4, .ofNat 0)], ([], []), [(.negSucc 2147483647, .ofNat 2147483647, 0, .ofNat 0), (.negSucc 2147483647, .ofNat 2147483647, 0, .ofNat 0), (.negSucc 2147483647, .ofNat 2147483647, 0, .ofNat 0), (.negSucc 2147483647, .ofNat 2147483647, 0, .ofNat 0), (.negSucc 2147483647, .ofNat 2147483647, 0, .ofNat 0)], [(1, (0, 0, .ofNat 1), (0, 0, .ofNat 1)), (2, (0, 0, .ofNat 0), (0, 0, .ofNat 1599))], [(some (1, 5, .ofNat 0), ([], []), [(.negSucc 2147483647, .ofNat 2147483647, 0, .ofNat 0), (.negSucc 2147483647, .ofNat 2147483647, 0, .ofNat 0), (.negSucc 2147483647, .ofNat 2147483647, 0, .ofNat 0), (.negSucc 2147483647, .ofNat 2147483647, 0, .ofNat 0), (.negSucc 2147483647, .ofNat 2147483647, 0, .ofNat 0), (.negSucc 0, .ofNat 1600, 0, .ofNat 0)])], [])
theorem zt_2 : zchk zRUL 3 xBY zIN zCF [zc_0] [zc_2] 20000 [] zc_2 = true := by decide +kernel
theorem zk_2 {g : yG} {J : zJp} (hy : zHy J) : zCok g zCF J zc_2 := zgp hy (CT := [zc_0]) (List.forall_mem_cons.mpr ⟨zk_0 hy, fun _ h => absurd h List.not_mem_nil⟩) (fuel := 20000) (L := [(zc_2, [])]) (List.forall_mem_cons.mpr ⟨zt_2, fun _ h => absurd h List.not_mem_nil⟩) (zc_2, []) List.mem_cons_self
/-- GridLaws.end, row 0 -/
def zc_3 : zC := (137, 0, 0, [(3, 0, .ofNat 0), (1, 0, .ofNat 0)], ([], []), [(.negSucc 2147483647, .ofNat 2147483647, 0, .ofNat 0)], [(1, (0, 0, .ofNat 1), (0, 0, .ofNat 1))], [(some (1, 1, .ofNat 0), ([], []), [(.negSucc 2147483647, .ofNat 2147483647, 0, .ofNat 0), (.negSucc 0, .ofNat 1600, 0, .ofNat 0)])], [])
theorem zt_3 : zchk zRUL 3 xBY zIN zCF [] [zc_3] 20000 [] zc_3 = true := by decide +kernel
theorem zk_3 {g : yG} {J : zJp} (hy : zHy J) : zCok g zCF J zc_3 := zgp hy (CT := []) (fun _ h => absurd h List.not_mem_nil) (fuel := 20000) (L := [(zc_3, [])]) (List.forall_mem_cons.mpr ⟨zt_3, fun _ h => absurd h List.not_mem_nil⟩) (zc_3, []) List.mem_cons_self
/-- Arrays.fill, row 0 -/
def zc_4 : zC := (310, 0, 0, [(3, 33, .ofNat 0), (1, 0, .ofNat 0), (9, 0, .ofNat 0), (9, 0, .ofNat 0)], ([], []), [(.ofNat 0, .ofNat 0, 0, .ofNat 0)], [(33, (0, 0, .ofNat 0), (0, 0, .ofNat 47))], [(none, ([], []), [(.ofNat 0, .ofNat 0, 0, .ofNat 0)])], [(false, (0, 0, .ofNat 1000000)), (false, (0, 0, .ofNat 0))])
/-- Arrays.fill, row 5 -/
def zc_5 : zC := (310, 5, 0, [(3, 33, .ofNat 0), (1, 0, .ofNat 0), (1, 1, .ofNat 0), (0, 0, .ofNat 48)], ([], []), [(.ofNat 0, .ofNat 0, 0, .ofNat 0), (.ofNat 0, .ofNat 60, 0, .ofNat 0)], [(33, (0, 0, .ofNat 0), (0, 0, .ofNat 47))], [(none, ([], []), [(.ofNat 0, .ofNat 0, 0, .ofNat 0), (.ofNat 0, .ofNat 60, 0, .ofNat 0)])], [(false, (0, 0, .ofNat 0)), (true, (1, 1, .ofNat 0))])
theorem zt_4 : zchk zRUL 3 xBY zIN zCF [] [zc_4, zc_5] 20000 [(5, 1, 0)] zc_4 = true := by decide +kernel
theorem zt_5 : zchk zRUL 3 xBY zIN zCF [] [zc_4, zc_5] 20000 [(5, 1, 0)] zc_5 = true := by decide +kernel
theorem zk_4 {g : yG} {J : zJp} (hy : zHy J) : zCok g zCF J zc_4 := zgp hy (CT := []) (fun _ h => absurd h List.not_mem_nil) (fuel := 20000) (L := [(zc_4, [(5, 1, 0)]), (zc_5, [(5, 1, 0)])]) (List.forall_mem_cons.mpr ⟨zt_4, List.forall_mem_cons.mpr ⟨zt_5, fun _ h => absurd h List.not_mem_nil⟩⟩) (zc_4, [(5, 1, 0)]) List.mem_cons_self
/-- Arrays.fill, row 0 -/
def zc_6 : zC := (310, 0, 0, [(3, 31, .ofNat 0), (1, 0, .ofNat 0), (9, 0, .ofNat 0), (9, 0, .ofNat 0)], ([], []), [(.ofNat 0, .ofNat 0, 0, .ofNat 0)], [(31, (0, 0, .ofNat 0), (0, 0, .ofNat 5))], [(none, ([], []), [(.ofNat 0, .ofNat 0, 0, .ofNat 0)])], [(false, (0, 0, .ofNat 1000000)), (false, (0, 0, .ofNat 0))])
/-- Arrays.fill, row 5 -/
def zc_7 : zC := (310, 5, 0, [(3, 31, .ofNat 0), (1, 0, .ofNat 0), (1, 1, .ofNat 0), (0, 0, .ofNat 6)], ([], []), [(.ofNat 0, .ofNat 0, 0, .ofNat 0), (.ofNat 0, .ofNat 6, 0, .ofNat 0)], [(31, (0, 0, .ofNat 0), (0, 0, .ofNat 5))], [(none, ([], []), [(.ofNat 0, .ofNat 0, 0, .ofNat 0), (.ofNat 0, .ofNat 6, 0, .ofNat 0)])], [(false, (0, 0, .ofNat 0)), (true, (1, 1, .ofNat 0))])
theorem zt_6 : zchk zRUL 3 xBY zIN zCF [] [zc_6, zc_7] 20000 [(5, 1, 0)] zc_6 = true := by decide +kernel
theorem zt_7 : zchk zRUL 3 xBY zIN zCF [] [zc_6, zc_7] 20000 [(5, 1, 0)] zc_7 = true := by decide +kernel
theorem zk_6 {g : yG} {J : zJp} (hy : zHy J) : zCok g zCF J zc_6 := zgp hy (CT := []) (fun _ h => absurd h List.not_mem_nil) (fuel := 20000) (L := [(zc_6, [(5, 1, 0)]), (zc_7, [(5, 1, 0)])]) (List.forall_mem_cons.mpr ⟨zt_6, List.forall_mem_cons.mpr ⟨zt_7, fun _ h => absurd h List.not_mem_nil⟩⟩) (zc_6, [(5, 1, 0)]) List.mem_cons_self
/-- Arrays.fill, row 0 -/
def zc_8 : zC := (310, 0, 0, [(3, 32, .ofNat 0), (1, 0, .ofNat 0), (9, 0, .ofNat 0), (9, 0, .ofNat 0)], ([], []), [(.ofNat 0, .ofNat 0, 0, .ofNat 0)], [(32, (0, 0, .ofNat 0), (0, 0, .ofNat 139))], [(none, ([], []), [(.ofNat 0, .ofNat 0, 0, .ofNat 0)])], [(false, (0, 0, .ofNat 1000000)), (false, (0, 0, .ofNat 0))])
/-- Arrays.fill, row 5 -/
def zc_9 : zC := (310, 5, 0, [(3, 32, .ofNat 0), (1, 0, .ofNat 0), (1, 1, .ofNat 0), (0, 0, .ofNat 140)], ([], []), [(.ofNat 0, .ofNat 0, 0, .ofNat 0), (.ofNat 0, .ofNat 255, 0, .ofNat 0)], [(32, (0, 0, .ofNat 0), (0, 0, .ofNat 139))], [(none, ([], []), [(.ofNat 0, .ofNat 0, 0, .ofNat 0), (.ofNat 0, .ofNat 255, 0, .ofNat 0)])], [(false, (0, 0, .ofNat 0)), (true, (1, 1, .ofNat 0))])
theorem zt_8 : zchk zRUL 3 xBY zIN zCF [] [zc_8, zc_9] 20000 [(5, 1, 0)] zc_8 = true := by decide +kernel
theorem zt_9 : zchk zRUL 3 xBY zIN zCF [] [zc_8, zc_9] 20000 [(5, 1, 0)] zc_9 = true := by decide +kernel
theorem zk_8 {g : yG} {J : zJp} (hy : zHy J) : zCok g zCF J zc_8 := zgp hy (CT := []) (fun _ h => absurd h List.not_mem_nil) (fuel := 20000) (L := [(zc_8, [(5, 1, 0)]), (zc_9, [(5, 1, 0)])]) (List.forall_mem_cons.mpr ⟨zt_8, List.forall_mem_cons.mpr ⟨zt_9, fun _ h => absurd h List.not_mem_nil⟩⟩) (zc_8, [(5, 1, 0)]) List.mem_cons_self
/-- StringLatin1.indexOfChar, row 0 -/
def zc_10 : zC := (309, 0, 0, [(8, 2, .ofNat 0), (1, 0, .ofNat 0), (1, 1, .ofNat 0), (1, 2, .ofNat 0), (9, 0, .ofNat 0), (9, 0, .ofNat 0)], ([], []), [(.ofNat 0, .ofNat 255, 0, .ofNat 0), (.ofNat 0, .ofNat 0, 0, .ofNat 0), (.ofNat 1, .ofNat 11, 0, .ofNat 0)], [], [(some (1, 3, .ofNat 0), ([], []), [(.ofNat 0, .ofNat 255, 0, .ofNat 0), (.ofNat 0, .ofNat 0, 0, .ofNat 0), (.ofNat 1, .ofNat 11, 0, .ofNat 0), (.negSucc 0, .ofNat 10, 0, .ofNat 0)])], [(false, (0, 0, .ofNat 1000000)), (false, (0, 0, .ofNat 0))])
/-- StringLatin1.indexOfChar, row 5 -/
def zc_11 : zC := (309, 5, 0, [(8, 2, .ofNat 0), (1, 0, .ofNat 0), (1, 1, .ofNat 0), (1, 2, .ofNat 0), (1, 3, .ofNat 0), (1, 4, .ofNat 0)], ([], []), [(.ofNat 0, .ofNat 255, 0, .ofNat 0), (.ofNat 0, .ofNat 0, 0, .ofNat 0), (.ofNat 1, .ofNat 11, 0, .ofNat 0), (.negSucc 127, .ofNat 127, 0, .ofNat 0), (.ofNat 0, .ofNat 15, 0, .ofNat 0)], [], [(some (1, 5, .ofNat 0), ([], []), [(.ofNat 0, .ofNat 255, 0, .ofNat 0), (.ofNat 0, .ofNat 0, 0, .ofNat 0), (.ofNat 1, .ofNat 11, 0, .ofNat 0), (.negSucc 127, .ofNat 127, 0, .ofNat 0), (.ofNat 0, .ofNat 15, 0, .ofNat 0), (.negSucc 0, .ofNat 10, 0, .ofNat 0)])], [(false, (0, 0, .ofNat 0)), (true, (1, 4, .ofNat 0))])
theorem zt_10 : zchk zRUL 3 xBY zIN zCF [] [zc_10, zc_11] 20000 [(5, 1, 0)] zc_10 = true := by decide +kernel
theorem zt_11 : zchk zRUL 3 xBY zIN zCF [] [zc_10, zc_11] 20000 [(5, 1, 0)] zc_11 = true := by decide +kernel
theorem zk_10 {g : yG} {J : zJp} (hy : zHy J) : zCok g zCF J zc_10 := zgp hy (CT := []) (fun _ h => absurd h List.not_mem_nil) (fuel := 20000) (L := [(zc_10, [(5, 1, 0)]), (zc_11, [(5, 1, 0)])]) (List.forall_mem_cons.mpr ⟨zt_10, List.forall_mem_cons.mpr ⟨zt_11, fun _ h => absurd h List.not_mem_nil⟩⟩) (zc_10, [(5, 1, 0)]) List.mem_cons_self
/-- Tape.readNumber, row 0 -/
def zc_12 : zC := (129, 0, 1, [(3, 1, .ofNat 0)], ([], []), [], [(1, (0, 0, .ofNat 0), (0, 0, .ofNat 0)), (1, (0, 0, .ofNat 5), (0, 0, .ofNat 6)), (1, (0, 0, .ofNat 8), (0, 0, .ofNat 8))], [(none, ([], []), [])], [(false, (0, 0, .ofNat 1000000)), (false, (0, 0, .ofNat 0))])
/-- Tape.readNumber, row 3 -/
def zc_13 : zC := (129, 3, 1, [(3, 1, .ofNat 0)], ([(1, (0, 0, .ofNat 0), (1, 0, .ofNat 0))], []), [(.ofNat 0, .ofNat 1600, 0, .ofNat 0)], [(1, (0, 0, .ofNat 0), (0, 0, .ofNat 0)), (1, (0, 0, .ofNat 5), (0, 0, .ofNat 6)), (1, (0, 0, .ofNat 8), (0, 0, .ofNat 8))], [(none, ([], []), [(.ofNat 0, .ofNat 1600, 0, .ofNat 0)])], [(false, (0, 0, .ofNat 0)), (true, (1, 0, .ofNat 0))])
theorem zt_12 : zchk zRUL 3 xBY zIN zCF [] [zc_12, zc_13] 20000 [(3, 1, 0)] zc_12 = true := by decide +kernel
theorem zt_13 : zchk zRUL 3 xBY zIN zCF [] [zc_12, zc_13] 20000 [(3, 1, 0)] zc_13 = true := by decide +kernel
theorem zk_12 {g : yG} {J : zJp} (hy : zHy J) : zCok g zCF J zc_12 := zgp hy (CT := []) (fun _ h => absurd h List.not_mem_nil) (fuel := 20000) (L := [(zc_12, [(3, 1, 0)]), (zc_13, [(3, 1, 0)])]) (List.forall_mem_cons.mpr ⟨zt_12, List.forall_mem_cons.mpr ⟨zt_13, fun _ h => absurd h List.not_mem_nil⟩⟩) (zc_12, [(3, 1, 0)]) List.mem_cons_self
/-- Tape.readWord, row 0 -/
def zc_14 : zC := (128, 0, 1, [(3, 1, .ofNat 0)], ([], []), [], [(1, (0, 0, .ofNat 0), (0, 0, .ofNat 0)), (1, (0, 0, .ofNat 4), (0, 0, .ofNat 6))], [(none, ([], []), [])], [(false, (0, 0, .ofNat 1000000)), (false, (0, 0, .ofNat 0))])
/-- Tape.readWord, row 3 -/
def zc_15 : zC := (128, 3, 1, [(3, 1, .ofNat 0)], ([(1, (0, 0, .ofNat 0), (1, 0, .ofNat 0))], []), [(.ofNat 0, .ofNat 1600, 0, .ofNat 0)], [(1, (0, 0, .ofNat 0), (0, 0, .ofNat 0)), (1, (0, 0, .ofNat 4), (0, 0, .ofNat 6))], [(none, ([], []), [(.ofNat 0, .ofNat 1600, 0, .ofNat 0)])], [(false, (0, 0, .ofNat 0)), (true, (1, 0, .ofNat 0))])
theorem zt_14 : zchk zRUL 3 xBY zIN zCF [] [zc_14, zc_15] 20000 [(3, 1, 0)] zc_14 = true := by decide +kernel
theorem zt_15 : zchk zRUL 3 xBY zIN zCF [] [zc_14, zc_15] 20000 [(3, 1, 0)] zc_15 = true := by decide +kernel
theorem zk_14 {g : yG} {J : zJp} (hy : zHy J) : zCok g zCF J zc_14 := zgp hy (CT := []) (fun _ h => absurd h List.not_mem_nil) (fuel := 20000) (L := [(zc_14, [(3, 1, 0)]), (zc_15, [(3, 1, 0)])]) (List.forall_mem_cons.mpr ⟨zt_14, List.forall_mem_cons.mpr ⟨zt_15, fun _ h => absurd h List.not_mem_nil⟩⟩) (zc_14, [(3, 1, 0)]) List.mem_cons_self
/-- Tape.advance, row 0 -/
def zc_16 : zC := (125, 0, 5, [(3, 1, .ofNat 0)], ([], []), [], [(1, (0, 0, .ofNat 0), (0, 0, .ofNat 0)), (1, (0, 0, .ofNat 3), (0, 0, .ofNat 6)), (1, (0, 0, .ofNat 8), (0, 0, .ofNat 9))], [(none, ([], []), [])], [(false, (0, 0, .ofNat 1000000)), (false, (0, 0, .ofNat 0))])
/-- Tape.advance, row 0 -/
def zc_17 : zC := (125, 0, 5, [(3, 1, .ofNat 0)], ([(1, (0, 0, .ofNat 0), (1, 0, .ofNat 0))], []), [(.ofNat 1, .ofNat 1600, 0, .ofNat 0)], [(1, (0, 0, .ofNat 0), (0, 0, .ofNat 0)), (1, (0, 0, .ofNat 3), (0, 0, .ofNat 6)), (1, (0, 0, .ofNat 8), (0, 0, .ofNat 9))], [(none, ([], []), [(.ofNat 1, .ofNat 1600, 0, .ofNat 0)])], [(false, (0, 0, .ofNat 0)), (true, (1, 0, .ofNat 0))])
theorem zt_16 : zchk zRUL 3 xBY zIN zCF [zc_10, zc_12, zc_14] [zc_16, zc_17] 20000 [(0, 1, 0)] zc_16 = true := by decide +kernel
theorem zt_17 : zchk zRUL 3 xBY zIN zCF [zc_10, zc_12, zc_14] [zc_16, zc_17] 20000 [(0, 1, 0)] zc_17 = true := by decide +kernel
theorem zk_16 {g : yG} {J : zJp} (hy : zHy J) : zCok g zCF J zc_16 := zgp hy (CT := [zc_10, zc_12, zc_14]) (List.forall_mem_cons.mpr ⟨zk_10 hy, List.forall_mem_cons.mpr ⟨zk_12 hy, List.forall_mem_cons.mpr ⟨zk_14 hy, fun _ h => absurd h List.not_mem_nil⟩⟩⟩) (fuel := 20000) (L := [(zc_16, [(0, 1, 0)]), (zc_17, [(0, 1, 0)])]) (List.forall_mem_cons.mpr ⟨zt_16, List.forall_mem_cons.mpr ⟨zt_17, fun _ h => absurd h List.not_mem_nil⟩⟩) (zc_16, [(0, 1, 0)]) List.mem_cons_self
/-- Arrays.fill, row 0 -/
def zc_18 : zC := (310, 0, 0, [(3, 53, .ofNat 0), (1, 0, .ofNat 0), (9, 0, .ofNat 0), (9, 0, .ofNat 0)], ([], []), [(.negSucc 0, .negSucc 0, 0, .ofNat 0)], [(53, (0, 0, .ofNat 0), (0, 0, .ofNat 19))], [(none, ([], []), [(.negSucc 0, .negSucc 0, 0, .ofNat 0)])], [(false, (0, 0, .ofNat 1000000)), (false, (0, 0, .ofNat 0))])
/-- Arrays.fill, row 5 -/
def zc_19 : zC := (310, 5, 0, [(3, 53, .ofNat 0), (1, 0, .ofNat 0), (1, 1, .ofNat 0), (0, 0, .ofNat 20)], ([], []), [(.negSucc 0, .negSucc 0, 0, .ofNat 0), (.ofNat 0, .ofNat 20, 0, .ofNat 0)], [(53, (0, 0, .ofNat 0), (0, 0, .ofNat 19))], [(none, ([], []), [(.negSucc 0, .negSucc 0, 0, .ofNat 0), (.ofNat 0, .ofNat 20, 0, .ofNat 0)])], [(false, (0, 0, .ofNat 0)), (true, (1, 1, .ofNat 0))])
theorem zt_18 : zchk zRUL 3 xBY zIN zCF [] [zc_18, zc_19] 20000 [(5, 1, 0)] zc_18 = true := by decide +kernel
theorem zt_19 : zchk zRUL 3 xBY zIN zCF [] [zc_18, zc_19] 20000 [(5, 1, 0)] zc_19 = true := by decide +kernel
theorem zk_18 {g : yG} {J : zJp} (hy : zHy J) : zCok g zCF J zc_18 := zgp hy (CT := []) (fun _ h => absurd h List.not_mem_nil) (fuel := 20000) (L := [(zc_18, [(5, 1, 0)]), (zc_19, [(5, 1, 0)])]) (List.forall_mem_cons.mpr ⟨zt_18, List.forall_mem_cons.mpr ⟨zt_19, fun _ h => absurd h List.not_mem_nil⟩⟩) (zc_18, [(5, 1, 0)]) List.mem_cons_self
/-- Arrays.fill, row 0 -/
def zc_20 : zC := (310, 0, 0, [(3, 54, .ofNat 0), (1, 0, .ofNat 0), (9, 0, .ofNat 0), (9, 0, .ofNat 0)], ([], []), [(.negSucc 0, .negSucc 0, 0, .ofNat 0)], [(54, (0, 0, .ofNat 0), (0, 0, .ofNat 19))], [(none, ([], []), [(.negSucc 0, .negSucc 0, 0, .ofNat 0)])], [(false, (0, 0, .ofNat 1000000)), (false, (0, 0, .ofNat 0))])
/-- Arrays.fill, row 5 -/
def zc_21 : zC := (310, 5, 0, [(3, 54, .ofNat 0), (1, 0, .ofNat 0), (1, 1, .ofNat 0), (0, 0, .ofNat 20)], ([], []), [(.negSucc 0, .negSucc 0, 0, .ofNat 0), (.ofNat 0, .ofNat 20, 0, .ofNat 0)], [(54, (0, 0, .ofNat 0), (0, 0, .ofNat 19))], [(none, ([], []), [(.negSucc 0, .negSucc 0, 0, .ofNat 0), (.ofNat 0, .ofNat 20, 0, .ofNat 0)])], [(false, (0, 0, .ofNat 0)), (true, (1, 1, .ofNat 0))])
theorem zt_20 : zchk zRUL 3 xBY zIN zCF [] [zc_20, zc_21] 20000 [(5, 1, 0)] zc_20 = true := by decide +kernel
theorem zt_21 : zchk zRUL 3 xBY zIN zCF [] [zc_20, zc_21] 20000 [(5, 1, 0)] zc_21 = true := by decide +kernel
theorem zk_20 {g : yG} {J : zJp} (hy : zHy J) : zCok g zCF J zc_20 := zgp hy (CT := []) (fun _ h => absurd h List.not_mem_nil) (fuel := 20000) (L := [(zc_20, [(5, 1, 0)]), (zc_21, [(5, 1, 0)])]) (List.forall_mem_cons.mpr ⟨zt_20, List.forall_mem_cons.mpr ⟨zt_21, fun _ h => absurd h List.not_mem_nil⟩⟩) (zc_20, [(5, 1, 0)]) List.mem_cons_self
