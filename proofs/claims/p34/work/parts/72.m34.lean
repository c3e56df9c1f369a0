/-! the reference's contracts, printed by wip/p34/genall.py -/
theorem zt_m643 : zchk zRUL 3 xBY zIN zCF [] zgl_m643 20000 [(0, 0, 1), (2, 1, 0)] zc_m643 = true := by decide +kernel
theorem zt_m644 : zchk zRUL 3 xBY zIN zCF [] zgl_m643 20000 [(2, 1, 0)] zc_m644 = true := by decide +kernel
theorem zt_m645 : zchk zRUL 3 xBY zIN zCF [] zgl_m643 20000 [(2, 1, 0)] zc_m645 = true := by decide +kernel
theorem zt_m646 : zchk zRUL 3 xBY zIN zCF [] zgl_m643 20000 [(2, 1, 0)] zc_m646 = true := by decide +kernel
theorem zt_m647 : zchk zRUL 3 xBY zIN zCF [] zgl_m643 20000 [(2, 1, 0)] zc_m647 = true := by decide +kernel
theorem zt_m648 : zchk zRUL 3 xBY zIN zCF [] zgl_m643 20000 [(2, 1, 0)] zc_m648 = true := by decide +kernel
theorem zt_m649 : zchk zRUL 3 xBY zIN zCF [] zgl_m643 20000 [(2, 1, 0)] zc_m649 = true := by decide +kernel
theorem zt_m650 : zchk zRUL 3 xBY zIN zCF [] zgl_m643 20000 [(2, 1, 0)] zc_m650 = true := by decide +kernel
theorem zt_m651 : zchk zRUL 3 xBY zIN zCF [] zgl_m643 20000 [(2, 1, 0)] zc_m651 = true := by decide +kernel
theorem zt_m652 : zchk zRUL 3 xBY zIN zCF [] zgl_m643 20000 [(2, 1, 0)] zc_m652 = true := by decide +kernel
theorem zt_m653 : zchk zRUL 3 xBY zIN zCF [] zgl_m643 20000 [(2, 1, 0)] zc_m653 = true := by decide +kernel
theorem zt_m654 : zchk zRUL 3 xBY zIN zCF [] zgl_m643 20000 [(2, 1, 0)] zc_m654 = true := by decide +kernel
theorem zt_m655 : zchk zRUL 3 xBY zIN zCF [] zgl_m643 20000 [(2, 1, 0)] zc_m655 = true := by decide +kernel
theorem zt_m656 : zchk zRUL 3 xBY zIN zCF [] zgl_m643 20000 [(2, 1, 0)] zc_m656 = true := by decide +kernel
theorem zt_m657 : zchk zRUL 3 xBY zIN zCF [] zgl_m643 20000 [(2, 1, 0)] zc_m657 = true := by decide +kernel
theorem zt_m658 : zchk zRUL 3 xBY zIN zCF [] zgl_m643 20000 [(2, 1, 0)] zc_m658 = true := by decide +kernel
theorem zga_m643_0 : ∀ p ∈ zgh_m643_0, zchk zRUL 3 xBY zIN zCF [] zgl_m643 20000 p.2 p.1 = true := List.forall_mem_cons.mpr ⟨zt_m643, List.forall_mem_cons.mpr ⟨zt_m644, List.forall_mem_cons.mpr ⟨zt_m645, List.forall_mem_cons.mpr ⟨zt_m646, List.forall_mem_cons.mpr ⟨zt_m647, List.forall_mem_cons.mpr ⟨zt_m648, List.forall_mem_cons.mpr ⟨zt_m649, List.forall_mem_cons.mpr ⟨zt_m650, List.forall_mem_cons.mpr ⟨zt_m651, List.forall_mem_cons.mpr ⟨zt_m652, List.forall_mem_cons.mpr ⟨zt_m653, List.forall_mem_cons.mpr ⟨zt_m654, List.forall_mem_cons.mpr ⟨zt_m655, List.forall_mem_cons.mpr ⟨zt_m656, List.forall_mem_cons.mpr ⟨zt_m657, List.forall_mem_cons.mpr ⟨zt_m658, fun _ h => absurd h List.not_mem_nil⟩⟩⟩⟩⟩⟩⟩⟩⟩⟩⟩⟩⟩⟩⟩⟩
