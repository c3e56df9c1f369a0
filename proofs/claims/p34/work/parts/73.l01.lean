/-! the law's loop, printed by wip/p34/genall.py -/
theorem zt_l4 : zchk zRUL 3 xBY zIN zCF [] zgl_l4 20000 [(12, 3, 92), (12, 3, 93), (5, 0, 0), (5, 1, 0)] zc_l4 = true := by decide +kernel
theorem zt_l5 : zchk zRUL 3 xBY zIN zCF [] zgl_l4 20000 [(12, 2, 91), (21, 2, 90)] zc_l5 = true := by decide +kernel
theorem zt_l6 : zchk zRUL 3 xBY zIN zCF [] zgl_l4 20000 [(12, 2, 91), (21, 2, 90)] zc_l6 = true := by decide +kernel
theorem zt_l7 : zchk zRUL 3 xBY zIN zCF [] zgl_l4 20000 [(12, 2, 91), (21, 2, 90)] zc_l7 = true := by decide +kernel
theorem zt_l8 : zchk zRUL 3 xBY zIN zCF [] zgl_l4 20000 [(12, 2, 91), (21, 2, 90)] zc_l8 = true := by decide +kernel
theorem zt_l9 : zchk zRUL 3 xBY zIN zCF [] zgl_l4 20000 [(12, 2, 91), (21, 2, 90)] zc_l9 = true := by decide +kernel
theorem zt_l10 : zchk zRUL 3 xBY zIN zCF [] zgl_l4 20000 [(12, 2, 91), (21, 2, 90)] zc_l10 = true := by decide +kernel
theorem zt_l11 : zchk zRUL 3 xBY zIN zCF [] zgl_l4 20000 [(12, 2, 91), (21, 2, 90)] zc_l11 = true := by decide +kernel
theorem zt_l12 : zchk zRUL 3 xBY zIN zCF [] zgl_l4 20000 [(12, 2, 91), (21, 2, 90)] zc_l12 = true := by decide +kernel
theorem zt_l13 : zchk zRUL 3 xBY zIN zCF [] zgl_l4 20000 [(12, 2, 91), (21, 2, 90)] zc_l13 = true := by decide +kernel
theorem zt_l14 : zchk zRUL 3 xBY zIN zCF [] zgl_l4 20000 [(12, 2, 91), (21, 2, 90)] zc_l14 = true := by decide +kernel
theorem zt_l15 : zchk zRUL 3 xBY zIN zCF [] zgl_l4 20000 [(12, 2, 91), (21, 2, 90)] zc_l15 = true := by decide +kernel
theorem zt_l16 : zchk zRUL 3 xBY zIN zCF [] zgl_l4 20000 [(12, 2, 91), (21, 2, 90)] zc_l16 = true := by decide +kernel
theorem zt_l17 : zchk zRUL 3 xBY zIN zCF [] zgl_l4 20000 [(12, 2, 91), (21, 2, 90)] zc_l17 = true := by decide +kernel
theorem zt_l18 : zchk zRUL 3 xBY zIN zCF [] zgl_l4 20000 [(12, 2, 91), (21, 2, 90)] zc_l18 = true := by decide +kernel
theorem zt_l19 : zchk zRUL 3 xBY zIN zCF [] zgl_l4 20000 [(12, 2, 91), (21, 2, 90)] zc_l19 = true := by decide +kernel
theorem zga_l4_0 : ∀ p ∈ zgh_l4_0, zchk zRUL 3 xBY zIN zCF [] zgl_l4 20000 p.2 p.1 = true := List.forall_mem_cons.mpr ⟨zt_l4, List.forall_mem_cons.mpr ⟨zt_l5, List.forall_mem_cons.mpr ⟨zt_l6, List.forall_mem_cons.mpr ⟨zt_l7, List.forall_mem_cons.mpr ⟨zt_l8, List.forall_mem_cons.mpr ⟨zt_l9, List.forall_mem_cons.mpr ⟨zt_l10, List.forall_mem_cons.mpr ⟨zt_l11, List.forall_mem_cons.mpr ⟨zt_l12, List.forall_mem_cons.mpr ⟨zt_l13, List.forall_mem_cons.mpr ⟨zt_l14, List.forall_mem_cons.mpr ⟨zt_l15, List.forall_mem_cons.mpr ⟨zt_l16, List.forall_mem_cons.mpr ⟨zt_l17, List.forall_mem_cons.mpr ⟨zt_l18, List.forall_mem_cons.mpr ⟨zt_l19, fun _ h => absurd h List.not_mem_nil⟩⟩⟩⟩⟩⟩⟩⟩⟩⟩⟩⟩⟩⟩⟩⟩
theorem zt_l20 : zchk zRUL 3 xBY zIN zCF [] zgl_l4 20000 [(12, 2, 91), (21, 2, 90)] zc_l20 = true := by decide +kernel
theorem zt_l21 : zchk zRUL 3 xBY zIN zCF [] zgl_l4 20000 [(12, 2, 91), (21, 2, 90)] zc_l21 = true := by decide +kernel
theorem zt_l22 : zchk zRUL 3 xBY zIN zCF [] zgl_l4 20000 [(12, 2, 91), (21, 2, 90)] zc_l22 = true := by decide +kernel
theorem zt_l23 : zchk zRUL 3 xBY zIN zCF [] zgl_l4 20000 [(12, 2, 91), (21, 2, 90)] zc_l23 = true := by decide +kernel
theorem zt_l24 : zchk zRUL 3 xBY zIN zCF [] zgl_l4 20000 [(12, 2, 91), (21, 2, 90)] zc_l24 = true := by decide +kernel
theorem zt_l25 : zchk zRUL 3 xBY zIN zCF [] zgl_l4 20000 [(12, 2, 91), (21, 2, 90)] zc_l25 = true := by decide +kernel
theorem zt_l26 : zchk zRUL 3 xBY zIN zCF [] zgl_l4 20000 [(12, 2, 91), (21, 2, 90)] zc_l26 = true := by decide +kernel
theorem zt_l27 : zchk zRUL 3 xBY zIN zCF [] zgl_l4 20000 [(12, 2, 91), (21, 2, 90)] zc_l27 = true := by decide +kernel
theorem zt_l28 : zchk zRUL 3 xBY zIN zCF [] zgl_l4 20000 [(12, 2, 91), (21, 2, 90)] zc_l28 = true := by decide +kernel
theorem zt_l29 : zchk zRUL 3 xBY zIN zCF [] zgl_l4 20000 [(12, 2, 91), (21, 2, 90)] zc_l29 = true := by decide +kernel
theorem zt_l30 : zchk zRUL 3 xBY zIN zCF [] zgl_l4 20000 [(12, 2, 91), (21, 2, 90)] zc_l30 = true := by decide +kernel
theorem zt_l31 : zchk zRUL 3 xBY zIN zCF [] zgl_l4 20000 [(12, 2, 91), (21, 2, 90)] zc_l31 = true := by decide +kernel
theorem zt_l32 : zchk zRUL 3 xBY zIN zCF [] zgl_l4 20000 [(12, 2, 91), (21, 2, 90)] zc_l32 = true := by decide +kernel
theorem zt_l33 : zchk zRUL 3 xBY zIN zCF [] zgl_l4 20000 [(12, 2, 91), (21, 2, 90)] zc_l33 = true := by decide +kernel
theorem zt_l34 : zchk zRUL 3 xBY zIN zCF [] zgl_l4 20000 [(12, 2, 91), (21, 2, 90)] zc_l34 = true := by decide +kernel
theorem zt_l35 : zchk zRUL 3 xBY zIN zCF [] zgl_l4 20000 [(12, 2, 91), (21, 2, 90)] zc_l35 = true := by decide +kernel
theorem zga_l4_1 : ∀ p ∈ zgh_l4_1, zchk zRUL 3 xBY zIN zCF [] zgl_l4 20000 p.2 p.1 = true := List.forall_mem_cons.mpr ⟨zt_l20, List.forall_mem_cons.mpr ⟨zt_l21, List.forall_mem_cons.mpr ⟨zt_l22, List.forall_mem_cons.mpr ⟨zt_l23, List.forall_mem_cons.mpr ⟨zt_l24, List.forall_mem_cons.mpr ⟨zt_l25, List.forall_mem_cons.mpr ⟨zt_l26, List.forall_mem_cons.mpr ⟨zt_l27, List.forall_mem_cons.mpr ⟨zt_l28, List.forall_mem_cons.mpr ⟨zt_l29, List.forall_mem_cons.mpr ⟨zt_l30, List.forall_mem_cons.mpr ⟨zt_l31, List.forall_mem_cons.mpr ⟨zt_l32, List.forall_mem_cons.mpr ⟨zt_l33, List.forall_mem_cons.mpr ⟨zt_l34, List.forall_mem_cons.mpr ⟨zt_l35, fun _ h => absurd h List.not_mem_nil⟩⟩⟩⟩⟩⟩⟩⟩⟩⟩⟩⟩⟩⟩⟩⟩
theorem zt_l36 : zchk zRUL 3 xBY zIN zCF [] zgl_l4 20000 [(12, 2, 91), (21, 2, 90)] zc_l36 = true := by decide +kernel
theorem zt_l37 : zchk zRUL 3 xBY zIN zCF [] zgl_l4 20000 [(12, 2, 91), (21, 2, 90)] zc_l37 = true := by decide +kernel
theorem zt_l38 : zchk zRUL 3 xBY zIN zCF [] zgl_l4 20000 [(12, 2, 91), (21, 2, 90)] zc_l38 = true := by decide +kernel
theorem zt_l39 : zchk zRUL 3 xBY zIN zCF [] zgl_l4 20000 [(12, 2, 91), (21, 2, 90)] zc_l39 = true := by decide +kernel
theorem zt_l40 : zchk zRUL 3 xBY zIN zCF [] zgl_l4 20000 [(12, 2, 91), (21, 2, 90)] zc_l40 = true := by decide +kernel
theorem zt_l41 : zchk zRUL 3 xBY zIN zCF [] zgl_l4 20000 [(12, 2, 91), (21, 2, 90)] zc_l41 = true := by decide +kernel
theorem zt_l42 : zchk zRUL 3 xBY zIN zCF [] zgl_l4 20000 [(12, 2, 91), (21, 2, 90)] zc_l42 = true := by decide +kernel
theorem zt_l43 : zchk zRUL 3 xBY zIN zCF [] zgl_l4 20000 [(12, 2, 91), (21, 2, 90)] zc_l43 = true := by decide +kernel
theorem zt_l44 : zchk zRUL 3 xBY zIN zCF [] zgl_l4 20000 [(12, 2, 91), (21, 2, 90)] zc_l44 = true := by decide +kernel
theorem zt_l45 : zchk zRUL 3 xBY zIN zCF [] zgl_l4 20000 [(12, 2, 91), (21, 2, 90)] zc_l45 = true := by decide +kernel
theorem zt_l46 : zchk zRUL 3 xBY zIN zCF [] zgl_l4 20000 [(12, 2, 91), (21, 2, 90)] zc_l46 = true := by decide +kernel
theorem zt_l47 : zchk zRUL 3 xBY zIN zCF [] zgl_l4 20000 [(12, 2, 91), (21, 2, 90)] zc_l47 = true := by decide +kernel
theorem zt_l48 : zchk zRUL 3 xBY zIN zCF [] zgl_l4 20000 [(12, 2, 91), (21, 2, 90)] zc_l48 = true := by decide +kernel
theorem zt_l49 : zchk zRUL 3 xBY zIN zCF [] zgl_l4 20000 [(12, 2, 91), (21, 2, 90)] zc_l49 = true := by decide +kernel
theorem zt_l50 : zchk zRUL 3 xBY zIN zCF [] zgl_l4 20000 [(12, 2, 91), (21, 2, 90)] zc_l50 = true := by decide +kernel
theorem zt_l51 : zchk zRUL 3 xBY zIN zCF [] zgl_l4 20000 [(12, 2, 91), (21, 2, 90)] zc_l51 = true := by decide +kernel
theorem zga_l4_2 : ∀ p ∈ zgh_l4_2, zchk zRUL 3 xBY zIN zCF [] zgl_l4 20000 p.2 p.1 = true := List.forall_mem_cons.mpr ⟨zt_l36, List.forall_mem_cons.mpr ⟨zt_l37, List.forall_mem_cons.mpr ⟨zt_l38, List.forall_mem_cons.mpr ⟨zt_l39, List.forall_mem_cons.mpr ⟨zt_l40, List.forall_mem_cons.mpr ⟨zt_l41, List.forall_mem_cons.mpr ⟨zt_l42, List.forall_mem_cons.mpr ⟨zt_l43, List.forall_mem_cons.mpr ⟨zt_l44, List.forall_mem_cons.mpr ⟨zt_l45, List.forall_mem_cons.mpr ⟨zt_l46, List.forall_mem_cons.mpr ⟨zt_l47, List.forall_mem_cons.mpr ⟨zt_l48, List.forall_mem_cons.mpr ⟨zt_l49, List.forall_mem_cons.mpr ⟨zt_l50, List.forall_mem_cons.mpr ⟨zt_l51, fun _ h => absurd h List.not_mem_nil⟩⟩⟩⟩⟩⟩⟩⟩⟩⟩⟩⟩⟩⟩⟩⟩
theorem zt_l52 : zchk zRUL 3 xBY zIN zCF [] zgl_l4 20000 [(12, 2, 91), (21, 2, 90)] zc_l52 = true := by decide +kernel
theorem zt_l53 : zchk zRUL 3 xBY zIN zCF [] zgl_l4 20000 [(12, 2, 91), (21, 2, 90)] zc_l53 = true := by decide +kernel
theorem zt_l54 : zchk zRUL 3 xBY zIN zCF [] zgl_l4 20000 [(12, 2, 91), (21, 2, 90)] zc_l54 = true := by decide +kernel
theorem zt_l55 : zchk zRUL 3 xBY zIN zCF [] zgl_l4 20000 [(12, 2, 91), (21, 2, 90)] zc_l55 = true := by decide +kernel
theorem zt_l56 : zchk zRUL 3 xBY zIN zCF [] zgl_l4 20000 [(12, 2, 91), (21, 2, 90)] zc_l56 = true := by decide +kernel
theorem zt_l57 : zchk zRUL 3 xBY zIN zCF [] zgl_l4 20000 [(12, 2, 91), (21, 2, 90)] zc_l57 = true := by decide +kernel
theorem zt_l58 : zchk zRUL 3 xBY zIN zCF [] zgl_l4 20000 [(12, 2, 91), (21, 2, 90)] zc_l58 = true := by decide +kernel
theorem zt_l59 : zchk zRUL 3 xBY zIN zCF [] zgl_l4 20000 [(12, 2, 91), (21, 2, 90)] zc_l59 = true := by decide +kernel
theorem zt_l60 : zchk zRUL 3 xBY zIN zCF [] zgl_l4 20000 [(12, 2, 91), (21, 2, 90)] zc_l60 = true := by decide +kernel
theorem zt_l61 : zchk zRUL 3 xBY zIN zCF [] zgl_l4 20000 [(12, 2, 91), (21, 2, 90)] zc_l61 = true := by decide +kernel
theorem zt_l62 : zchk zRUL 3 xBY zIN zCF [] zgl_l4 20000 [(12, 2, 91), (21, 2, 90)] zc_l62 = true := by decide +kernel
theorem zt_l63 : zchk zRUL 3 xBY zIN zCF [] zgl_l4 20000 [(12, 2, 91), (21, 2, 90)] zc_l63 = true := by decide +kernel
theorem zt_l64 : zchk zRUL 3 xBY zIN zCF [] zgl_l4 20000 [(12, 2, 91), (21, 2, 90)] zc_l64 = true := by decide +kernel
theorem zt_l65 : zchk zRUL 3 xBY zIN zCF [] zgl_l4 20000 [(12, 2, 91), (21, 2, 90)] zc_l65 = true := by decide +kernel
theorem zt_l66 : zchk zRUL 3 xBY zIN zCF [] zgl_l4 20000 [(12, 2, 91), (21, 2, 90)] zc_l66 = true := by decide +kernel
theorem zt_l67 : zchk zRUL 3 xBY zIN zCF [] zgl_l4 20000 [(12, 2, 91), (21, 2, 90)] zc_l67 = true := by decide +kernel
theorem zga_l4_3 : ∀ p ∈ zgh_l4_3, zchk zRUL 3 xBY zIN zCF [] zgl_l4 20000 p.2 p.1 = true := List.forall_mem_cons.mpr ⟨zt_l52, List.forall_mem_cons.mpr ⟨zt_l53, List.forall_mem_cons.mpr ⟨zt_l54, List.forall_mem_cons.mpr ⟨zt_l55, List.forall_mem_cons.mpr ⟨zt_l56, List.forall_mem_cons.mpr ⟨zt_l57, List.forall_mem_cons.mpr ⟨zt_l58, List.forall_mem_cons.mpr ⟨zt_l59, List.forall_mem_cons.mpr ⟨zt_l60, List.forall_mem_cons.mpr ⟨zt_l61, List.forall_mem_cons.mpr ⟨zt_l62, List.forall_mem_cons.mpr ⟨zt_l63, List.forall_mem_cons.mpr ⟨zt_l64, List.forall_mem_cons.mpr ⟨zt_l65, List.forall_mem_cons.mpr ⟨zt_l66, List.forall_mem_cons.mpr ⟨zt_l67, fun _ h => absurd h List.not_mem_nil⟩⟩⟩⟩⟩⟩⟩⟩⟩⟩⟩⟩⟩⟩⟩⟩
theorem zt_l68 : zchk zRUL 3 xBY zIN zCF [] zgl_l4 20000 [(12, 2, 91), (21, 2, 90)] zc_l68 = true := by decide +kernel
theorem zt_l69 : zchk zRUL 3 xBY zIN zCF [] zgl_l4 20000 [(12, 2, 91), (21, 2, 90)] zc_l69 = true := by decide +kernel
theorem zt_l70 : zchk zRUL 3 xBY zIN zCF [] zgl_l4 20000 [(12, 2, 91), (21, 2, 90)] zc_l70 = true := by decide +kernel
theorem zt_l71 : zchk zRUL 3 xBY zIN zCF [] zgl_l4 20000 [(12, 2, 91), (21, 2, 90)] zc_l71 = true := by decide +kernel
theorem zt_l72 : zchk zRUL 3 xBY zIN zCF [] zgl_l4 20000 [(12, 2, 91), (21, 2, 90)] zc_l72 = true := by decide +kernel
theorem zt_l73 : zchk zRUL 3 xBY zIN zCF [] zgl_l4 20000 [(12, 2, 91), (21, 2, 90)] zc_l73 = true := by decide +kernel
theorem zt_l74 : zchk zRUL 3 xBY zIN zCF [] zgl_l4 20000 [(12, 2, 91), (21, 2, 90)] zc_l74 = true := by decide +kernel
theorem zt_l75 : zchk zRUL 3 xBY zIN zCF [] zgl_l4 20000 [(12, 2, 91), (21, 2, 90)] zc_l75 = true := by decide +kernel
theorem zt_l76 : zchk zRUL 3 xBY zIN zCF [] zgl_l4 20000 [(12, 2, 91), (21, 2, 90)] zc_l76 = true := by decide +kernel
theorem zt_l77 : zchk zRUL 3 xBY zIN zCF [] zgl_l4 20000 [(12, 2, 91), (21, 2, 90)] zc_l77 = true := by decide +kernel
theorem zt_l78 : zchk zRUL 3 xBY zIN zCF [] zgl_l4 20000 [(12, 2, 91), (21, 2, 90)] zc_l78 = true := by decide +kernel
theorem zt_l79 : zchk zRUL 3 xBY zIN zCF [] zgl_l4 20000 [(12, 2, 91), (21, 2, 90)] zc_l79 = true := by decide +kernel
theorem zt_l80 : zchk zRUL 3 xBY zIN zCF [] zgl_l4 20000 [(12, 2, 91), (21, 2, 90)] zc_l80 = true := by decide +kernel
theorem zt_l81 : zchk zRUL 3 xBY zIN zCF [] zgl_l4 20000 [(12, 2, 91), (21, 2, 90)] zc_l81 = true := by decide +kernel
theorem zt_l82 : zchk zRUL 3 xBY zIN zCF [] zgl_l4 20000 [(12, 2, 91), (21, 2, 90)] zc_l82 = true := by decide +kernel
theorem zt_l83 : zchk zRUL 3 xBY zIN zCF [] zgl_l4 20000 [(12, 2, 91), (21, 2, 90)] zc_l83 = true := by decide +kernel
theorem zga_l4_4 : ∀ p ∈ zgh_l4_4, zchk zRUL 3 xBY zIN zCF [] zgl_l4 20000 p.2 p.1 = true := List.forall_mem_cons.mpr ⟨zt_l68, List.forall_mem_cons.mpr ⟨zt_l69, List.forall_mem_cons.mpr ⟨zt_l70, List.forall_mem_cons.mpr ⟨zt_l71, List.forall_mem_cons.mpr ⟨zt_l72, List.forall_mem_cons.mpr ⟨zt_l73, List.forall_mem_cons.mpr ⟨zt_l74, List.forall_mem_cons.mpr ⟨zt_l75, List.forall_mem_cons.mpr ⟨zt_l76, List.forall_mem_cons.mpr ⟨zt_l77, List.forall_mem_cons.mpr ⟨zt_l78, List.forall_mem_cons.mpr ⟨zt_l79, List.forall_mem_cons.mpr ⟨zt_l80, List.forall_mem_cons.mpr ⟨zt_l81, List.forall_mem_cons.mpr ⟨zt_l82, List.forall_mem_cons.mpr ⟨zt_l83, fun _ h => absurd h List.not_mem_nil⟩⟩⟩⟩⟩⟩⟩⟩⟩⟩⟩⟩⟩⟩⟩⟩
theorem zt_l84 : zchk zRUL 3 xBY zIN zCF [] zgl_l4 20000 [(12, 2, 91), (21, 2, 90)] zc_l84 = true := by decide +kernel
theorem zt_l85 : zchk zRUL 3 xBY zIN zCF [] zgl_l4 20000 [(12, 2, 91), (21, 2, 90)] zc_l85 = true := by decide +kernel
theorem zt_l86 : zchk zRUL 3 xBY zIN zCF [] zgl_l4 20000 [(12, 2, 91), (21, 2, 90)] zc_l86 = true := by decide +kernel
theorem zt_l87 : zchk zRUL 3 xBY zIN zCF [] zgl_l4 20000 [(12, 2, 91), (21, 2, 90)] zc_l87 = true := by decide +kernel
theorem zt_l88 : zchk zRUL 3 xBY zIN zCF [] zgl_l4 20000 [(12, 2, 91), (21, 2, 90)] zc_l88 = true := by decide +kernel
theorem zt_l89 : zchk zRUL 3 xBY zIN zCF [] zgl_l4 20000 [(12, 2, 91), (21, 2, 90)] zc_l89 = true := by decide +kernel
theorem zt_l90 : zchk zRUL 3 xBY zIN zCF [] zgl_l4 20000 [(12, 2, 91), (21, 2, 90)] zc_l90 = true := by decide +kernel
theorem zt_l91 : zchk zRUL 3 xBY zIN zCF [] zgl_l4 20000 [(12, 2, 91), (21, 2, 90)] zc_l91 = true := by decide +kernel
theorem zt_l92 : zchk zRUL 3 xBY zIN zCF [] zgl_l4 20000 [(12, 2, 91), (21, 2, 90)] zc_l92 = true := by decide +kernel
theorem zt_l93 : zchk zRUL 3 xBY zIN zCF [] zgl_l4 20000 [(12, 2, 91), (21, 2, 90)] zc_l93 = true := by decide +kernel
theorem zt_l94 : zchk zRUL 3 xBY zIN zCF [] zgl_l4 20000 [(12, 2, 91), (21, 2, 90)] zc_l94 = true := by decide +kernel
theorem zt_l95 : zchk zRUL 3 xBY zIN zCF [] zgl_l4 20000 [(12, 2, 91), (21, 2, 90)] zc_l95 = true := by decide +kernel
theorem zt_l96 : zchk zRUL 3 xBY zIN zCF [] zgl_l4 20000 [(12, 2, 91), (21, 2, 90)] zc_l96 = true := by decide +kernel
theorem zt_l97 : zchk zRUL 3 xBY zIN zCF [] zgl_l4 20000 [(12, 2, 91), (21, 2, 90)] zc_l97 = true := by decide +kernel
theorem zt_l98 : zchk zRUL 3 xBY zIN zCF [] zgl_l4 20000 [(12, 2, 91), (21, 2, 90)] zc_l98 = true := by decide +kernel
theorem zt_l99 : zchk zRUL 3 xBY zIN zCF [] zgl_l4 20000 [(12, 2, 91), (21, 2, 90)] zc_l99 = true := by decide +kernel
theorem zga_l4_5 : ∀ p ∈ zgh_l4_5, zchk zRUL 3 xBY zIN zCF [] zgl_l4 20000 p.2 p.1 = true := List.forall_mem_cons.mpr ⟨zt_l84, List.forall_mem_cons.mpr ⟨zt_l85, List.forall_mem_cons.mpr ⟨zt_l86, List.forall_mem_cons.mpr ⟨zt_l87, List.forall_mem_cons.mpr ⟨zt_l88, List.forall_mem_cons.mpr ⟨zt_l89, List.forall_mem_cons.mpr ⟨zt_l90, List.forall_mem_cons.mpr ⟨zt_l91, List.forall_mem_cons.mpr ⟨zt_l92, List.forall_mem_cons.mpr ⟨zt_l93, List.forall_mem_cons.mpr ⟨zt_l94, List.forall_mem_cons.mpr ⟨zt_l95, List.forall_mem_cons.mpr ⟨zt_l96, List.forall_mem_cons.mpr ⟨zt_l97, List.forall_mem_cons.mpr ⟨zt_l98, List.forall_mem_cons.mpr ⟨zt_l99, fun _ h => absurd h List.not_mem_nil⟩⟩⟩⟩⟩⟩⟩⟩⟩⟩⟩⟩⟩⟩⟩⟩
theorem zt_l100 : zchk zRUL 3 xBY zIN zCF [] zgl_l4 20000 [(12, 2, 91), (21, 2, 90)] zc_l100 = true := by decide +kernel
theorem zt_l101 : zchk zRUL 3 xBY zIN zCF [] zgl_l4 20000 [(12, 2, 91), (21, 2, 90)] zc_l101 = true := by decide +kernel
theorem zt_l102 : zchk zRUL 3 xBY zIN zCF [] zgl_l4 20000 [(12, 2, 91), (21, 2, 90)] zc_l102 = true := by decide +kernel
theorem zt_l103 : zchk zRUL 3 xBY zIN zCF [] zgl_l4 20000 [(12, 2, 91), (21, 2, 90)] zc_l103 = true := by decide +kernel
theorem zt_l104 : zchk zRUL 3 xBY zIN zCF [] zgl_l4 20000 [(12, 2, 91), (21, 2, 90)] zc_l104 = true := by decide +kernel
theorem zga_l4_6 : ∀ p ∈ zgh_l4_6, zchk zRUL 3 xBY zIN zCF [] zgl_l4 20000 p.2 p.1 = true := List.forall_mem_cons.mpr ⟨zt_l100, List.forall_mem_cons.mpr ⟨zt_l101, List.forall_mem_cons.mpr ⟨zt_l102, List.forall_mem_cons.mpr ⟨zt_l103, List.forall_mem_cons.mpr ⟨zt_l104, fun _ h => absurd h List.not_mem_nil⟩⟩⟩⟩⟩
theorem zk_l4 {g : yG} {J : zJp} (hy : zHy g J) : zCok g zCF J zc_l4 := zgp2 hy (CT := []) (fun _ h => absurd h List.not_mem_nil) (fuel := 20000) (L := zgh_l4_0 ++ (zgh_l4_1 ++ (zgh_l4_2 ++ (zgh_l4_3 ++ (zgh_l4_4 ++ (zgh_l4_5 ++ (zgh_l4_6))))))) zge_l4 (List.forall_mem_append.mpr ⟨zga_l4_0, List.forall_mem_append.mpr ⟨zga_l4_1, List.forall_mem_append.mpr ⟨zga_l4_2, List.forall_mem_append.mpr ⟨zga_l4_3, List.forall_mem_append.mpr ⟨zga_l4_4, List.forall_mem_append.mpr ⟨zga_l4_5, zga_l4_6⟩⟩⟩⟩⟩⟩) (zc_l4, [(12, 3, 92), (12, 3, 93), (5, 0, 0), (5, 1, 0)]) (List.mem_append_left _ List.mem_cons_self)
/-- GridLawsModel.later, row 0 -/
def zc_l105 : zC := (287, 0, 1, [(3, 88, .ofNat 0), (1, 0, .ofNat 0)], ([(88, (0, 0, .ofNat 28), (1, 1, .ofNat 0)), (1049, (1, 0, .ofNat 0), (0, 0, .ofNat 0))], []), [(.ofNat 0, .ofNat 99, 0, .ofNat 0), (.ofNat 0, .ofNat 100000, 0, .ofNat 0)], [], [(some (0, 0, .negSucc 0), ([], []), [(.ofNat 0, .ofNat 99, 0, .ofNat 0), (.ofNat 0, .ofNat 100000, 0, .ofNat 0)])], [(false, (0, 0, .ofNat 1))])
/-- GridLawsModel.later, row 5 -/
def zc_l106 : zC := (287, 5, 1, [(3, 88, .ofNat 0), (0, 0, .ofNat 0)], ([(88, (0, 0, .ofNat 28), (1, 0, .ofNat 0)), (1049, (0, 0, .ofNat 0), (0, 0, .ofNat 0))], []), [(.ofNat 0, .ofNat 100000, 0, .ofNat 0)], [], [(some (0, 0, .negSucc 0), ([], []), [(.ofNat 0, .ofNat 100000, 0, .ofNat 0)])], [(false, (0, 0, .ofNat 0))])
/-- GridLawsModel.later, row 5 -/
def zc_l107 : zC := (287, 5, 1, [(3, 88, .ofNat 0), (0, 0, .ofNat 1)], ([(88, (0, 0, .ofNat 28), (1, 0, .ofNat 0)), (1049, (0, 0, .ofNat 1), (0, 0, .ofNat 0))], []), [(.ofNat 0, .ofNat 100000, 0, .ofNat 0)], [], [(some (0, 0, .negSucc 0), ([], []), [(.ofNat 0, .ofNat 100000, 0, .ofNat 0)])], [(false, (0, 0, .ofNat 0))])
/-- GridLawsModel.later, row 5 -/
def zc_l108 : zC := (287, 5, 1, [(3, 88, .ofNat 0), (0, 0, .ofNat 2)], ([(88, (0, 0, .ofNat 28), (1, 0, .ofNat 0)), (1049, (0, 0, .ofNat 2), (0, 0, .ofNat 0))], []), [(.ofNat 0, .ofNat 100000, 0, .ofNat 0)], [], [(some (0, 0, .negSucc 0), ([], []), [(.ofNat 0, .ofNat 100000, 0, .ofNat 0)])], [(false, (0, 0, .ofNat 0))])
/-- GridLawsModel.later, row 5 -/
def zc_l109 : zC := (287, 5, 1, [(3, 88, .ofNat 0), (0, 0, .ofNat 3)], ([(88, (0, 0, .ofNat 28), (1, 0, .ofNat 0)), (1049, (0, 0, .ofNat 3), (0, 0, .ofNat 0))], []), [(.ofNat 0, .ofNat 100000, 0, .ofNat 0)], [], [(some (0, 0, .negSucc 0), ([], []), [(.ofNat 0, .ofNat 100000, 0, .ofNat 0)])], [(false, (0, 0, .ofNat 0))])
/-- GridLawsModel.later, row 5 -/
def zc_l110 : zC := (287, 5, 1, [(3, 88, .ofNat 0), (0, 0, .ofNat 4)], ([(88, (0, 0, .ofNat 28), (1, 0, .ofNat 0)), (1049, (0, 0, .ofNat 4), (0, 0, .ofNat 0))], []), [(.ofNat 0, .ofNat 100000, 0, .ofNat 0)], [], [(some (0, 0, .negSucc 0), ([], []), [(.ofNat 0, .ofNat 100000, 0, .ofNat 0)])], [(false, (0, 0, .ofNat 0))])
/-- GridLawsModel.later, row 5 -/
def zc_l111 : zC := (287, 5, 1, [(3, 88, .ofNat 0), (0, 0, .ofNat 5)], ([(88, (0, 0, .ofNat 28), (1, 0, .ofNat 0)), (1049, (0, 0, .ofNat 5), (0, 0, .ofNat 0))], []), [(.ofNat 0, .ofNat 100000, 0, .ofNat 0)], [], [(some (0, 0, .negSucc 0), ([], []), [(.ofNat 0, .ofNat 100000, 0, .ofNat 0)])], [(false, (0, 0, .ofNat 0))])
/-- GridLawsModel.later, row 5 -/
def zc_l112 : zC := (287, 5, 1, [(3, 88, .ofNat 0), (0, 0, .ofNat 6)], ([(88, (0, 0, .ofNat 28), (1, 0, .ofNat 0)), (1049, (0, 0, .ofNat 6), (0, 0, .ofNat 0))], []), [(.ofNat 0, .ofNat 100000, 0, .ofNat 0)], [], [(some (0, 0, .negSucc 0), ([], []), [(.ofNat 0, .ofNat 100000, 0, .ofNat 0)])], [(false, (0, 0, .ofNat 0))])
/-- GridLawsModel.later, row 5 -/
def zc_l113 : zC := (287, 5, 1, [(3, 88, .ofNat 0), (0, 0, .ofNat 7)], ([(88, (0, 0, .ofNat 28), (1, 0, .ofNat 0)), (1049, (0, 0, .ofNat 7), (0, 0, .ofNat 0))], []), [(.ofNat 0, .ofNat 100000, 0, .ofNat 0)], [], [(some (0, 0, .negSucc 0), ([], []), [(.ofNat 0, .ofNat 100000, 0, .ofNat 0)])], [(false, (0, 0, .ofNat 0))])
/-- GridLawsModel.later, row 5 -/
def zc_l114 : zC := (287, 5, 1, [(3, 88, .ofNat 0), (0, 0, .ofNat 8)], ([(88, (0, 0, .ofNat 28), (1, 0, .ofNat 0)), (1049, (0, 0, .ofNat 8), (0, 0, .ofNat 0))], []), [(.ofNat 0, .ofNat 100000, 0, .ofNat 0)], [], [(some (0, 0, .negSucc 0), ([], []), [(.ofNat 0, .ofNat 100000, 0, .ofNat 0)])], [(false, (0, 0, .ofNat 0))])
/-- GridLawsModel.later, row 5 -/
def zc_l115 : zC := (287, 5, 1, [(3, 88, .ofNat 0), (0, 0, .ofNat 9)], ([(88, (0, 0, .ofNat 28), (1, 0, .ofNat 0)), (1049, (0, 0, .ofNat 9), (0, 0, .ofNat 0))], []), [(.ofNat 0, .ofNat 100000, 0, .ofNat 0)], [], [(some (0, 0, .negSucc 0), ([], []), [(.ofNat 0, .ofNat 100000, 0, .ofNat 0)])], [(false, (0, 0, .ofNat 0))])
/-- GridLawsModel.later, row 5 -/
def zc_l116 : zC := (287, 5, 1, [(3, 88, .ofNat 0), (0, 0, .ofNat 10)], ([(88, (0, 0, .ofNat 28), (1, 0, .ofNat 0)), (1049, (0, 0, .ofNat 10), (0, 0, .ofNat 0))], []), [(.ofNat 0, .ofNat 100000, 0, .ofNat 0)], [], [(some (0, 0, .negSucc 0), ([], []), [(.ofNat 0, .ofNat 100000, 0, .ofNat 0)])], [(false, (0, 0, .ofNat 0))])
/-- GridLawsModel.later, row 5 -/
def zc_l117 : zC := (287, 5, 1, [(3, 88, .ofNat 0), (0, 0, .ofNat 11)], ([(88, (0, 0, .ofNat 28), (1, 0, .ofNat 0)), (1049, (0, 0, .ofNat 11), (0, 0, .ofNat 0))], []), [(.ofNat 0, .ofNat 100000, 0, .ofNat 0)], [], [(some (0, 0, .negSucc 0), ([], []), [(.ofNat 0, .ofNat 100000, 0, .ofNat 0)])], [(false, (0, 0, .ofNat 0))])
/-- GridLawsModel.later, row 5 -/
def zc_l118 : zC := (287, 5, 1, [(3, 88, .ofNat 0), (0, 0, .ofNat 12)], ([(88, (0, 0, .ofNat 28), (1, 0, .ofNat 0)), (1049, (0, 0, .ofNat 12), (0, 0, .ofNat 0))], []), [(.ofNat 0, .ofNat 100000, 0, .ofNat 0)], [], [(some (0, 0, .negSucc 0), ([], []), [(.ofNat 0, .ofNat 100000, 0, .ofNat 0)])], [(false, (0, 0, .ofNat 0))])
/-- GridLawsModel.later, row 5 -/
def zc_l119 : zC := (287, 5, 1, [(3, 88, .ofNat 0), (0, 0, .ofNat 13)], ([(88, (0, 0, .ofNat 28), (1, 0, .ofNat 0)), (1049, (0, 0, .ofNat 13), (0, 0, .ofNat 0))], []), [(.ofNat 0, .ofNat 100000, 0, .ofNat 0)], [], [(some (0, 0, .negSucc 0), ([], []), [(.ofNat 0, .ofNat 100000, 0, .ofNat 0)])], [(false, (0, 0, .ofNat 0))])
/-- GridLawsModel.later, row 5 -/
def zc_l120 : zC := (287, 5, 1, [(3, 88, .ofNat 0), (0, 0, .ofNat 14)], ([(88, (0, 0, .ofNat 28), (1, 0, .ofNat 0)), (1049, (0, 0, .ofNat 14), (0, 0, .ofNat 0))], []), [(.ofNat 0, .ofNat 100000, 0, .ofNat 0)], [], [(some (0, 0, .negSucc 0), ([], []), [(.ofNat 0, .ofNat 100000, 0, .ofNat 0)])], [(false, (0, 0, .ofNat 0))])
/-- GridLawsModel.later, row 5 -/
def zc_l121 : zC := (287, 5, 1, [(3, 88, .ofNat 0), (0, 0, .ofNat 15)], ([(88, (0, 0, .ofNat 28), (1, 0, .ofNat 0)), (1049, (0, 0, .ofNat 15), (0, 0, .ofNat 0))], []), [(.ofNat 0, .ofNat 100000, 0, .ofNat 0)], [], [(some (0, 0, .negSucc 0), ([], []), [(.ofNat 0, .ofNat 100000, 0, .ofNat 0)])], [(false, (0, 0, .ofNat 0))])
/-- GridLawsModel.later, row 5 -/
def zc_l122 : zC := (287, 5, 1, [(3, 88, .ofNat 0), (0, 0, .ofNat 16)], ([(88, (0, 0, .ofNat 28), (1, 0, .ofNat 0)), (1049, (0, 0, .ofNat 16), (0, 0, .ofNat 0))], []), [(.ofNat 0, .ofNat 100000, 0, .ofNat 0)], [], [(some (0, 0, .negSucc 0), ([], []), [(.ofNat 0, .ofNat 100000, 0, .ofNat 0)])], [(false, (0, 0, .ofNat 0))])
/-- GridLawsModel.later, row 5 -/
def zc_l123 : zC := (287, 5, 1, [(3, 88, .ofNat 0), (0, 0, .ofNat 17)], ([(88, (0, 0, .ofNat 28), (1, 0, .ofNat 0)), (1049, (0, 0, .ofNat 17), (0, 0, .ofNat 0))], []), [(.ofNat 0, .ofNat 100000, 0, .ofNat 0)], [], [(some (0, 0, .negSucc 0), ([], []), [(.ofNat 0, .ofNat 100000, 0, .ofNat 0)])], [(false, (0, 0, .ofNat 0))])
/-- GridLawsModel.later, row 5 -/
def zc_l124 : zC := (287, 5, 1, [(3, 88, .ofNat 0), (0, 0, .ofNat 18)], ([(88, (0, 0, .ofNat 28), (1, 0, .ofNat 0)), (1049, (0, 0, .ofNat 18), (0, 0, .ofNat 0))], []), [(.ofNat 0, .ofNat 100000, 0, .ofNat 0)], [], [(some (0, 0, .negSucc 0), ([], []), [(.ofNat 0, .ofNat 100000, 0, .ofNat 0)])], [(false, (0, 0, .ofNat 0))])
/-- GridLawsModel.later, row 5 -/
def zc_l125 : zC := (287, 5, 1, [(3, 88, .ofNat 0), (0, 0, .ofNat 19)], ([(88, (0, 0, .ofNat 28), (1, 0, .ofNat 0)), (1049, (0, 0, .ofNat 19), (0, 0, .ofNat 0))], []), [(.ofNat 0, .ofNat 100000, 0, .ofNat 0)], [], [(some (0, 0, .negSucc 0), ([], []), [(.ofNat 0, .ofNat 100000, 0, .ofNat 0)])], [(false, (0, 0, .ofNat 0))])
/-- GridLawsModel.later, row 5 -/
def zc_l126 : zC := (287, 5, 1, [(3, 88, .ofNat 0), (0, 0, .ofNat 20)], ([(88, (0, 0, .ofNat 28), (1, 0, .ofNat 0)), (1049, (0, 0, .ofNat 20), (0, 0, .ofNat 0))], []), [(.ofNat 0, .ofNat 100000, 0, .ofNat 0)], [], [(some (0, 0, .negSucc 0), ([], []), [(.ofNat 0, .ofNat 100000, 0, .ofNat 0)])], [(false, (0, 0, .ofNat 0))])
/-- GridLawsModel.later, row 5 -/
def zc_l127 : zC := (287, 5, 1, [(3, 88, .ofNat 0), (0, 0, .ofNat 21)], ([(88, (0, 0, .ofNat 28), (1, 0, .ofNat 0)), (1049, (0, 0, .ofNat 21), (0, 0, .ofNat 0))], []), [(.ofNat 0, .ofNat 100000, 0, .ofNat 0)], [], [(some (0, 0, .negSucc 0), ([], []), [(.ofNat 0, .ofNat 100000, 0, .ofNat 0)])], [(false, (0, 0, .ofNat 0))])
/-- GridLawsModel.later, row 5 -/
def zc_l128 : zC := (287, 5, 1, [(3, 88, .ofNat 0), (0, 0, .ofNat 22)], ([(88, (0, 0, .ofNat 28), (1, 0, .ofNat 0)), (1049, (0, 0, .ofNat 22), (0, 0, .ofNat 0))], []), [(.ofNat 0, .ofNat 100000, 0, .ofNat 0)], [], [(some (0, 0, .negSucc 0), ([], []), [(.ofNat 0, .ofNat 100000, 0, .ofNat 0)])], [(false, (0, 0, .ofNat 0))])
/-- GridLawsModel.later, row 5 -/
def zc_l129 : zC := (287, 5, 1, [(3, 88, .ofNat 0), (0, 0, .ofNat 23)], ([(88, (0, 0, .ofNat 28), (1, 0, .ofNat 0)), (1049, (0, 0, .ofNat 23), (0, 0, .ofNat 0))], []), [(.ofNat 0, .ofNat 100000, 0, .ofNat 0)], [], [(some (0, 0, .negSucc 0), ([], []), [(.ofNat 0, .ofNat 100000, 0, .ofNat 0)])], [(false, (0, 0, .ofNat 0))])
/-- GridLawsModel.later, row 5 -/
def zc_l130 : zC := (287, 5, 1, [(3, 88, .ofNat 0), (0, 0, .ofNat 24)], ([(88, (0, 0, .ofNat 28), (1, 0, .ofNat 0)), (1049, (0, 0, .ofNat 24), (0, 0, .ofNat 0))], []), [(.ofNat 0, .ofNat 100000, 0, .ofNat 0)], [], [(some (0, 0, .negSucc 0), ([], []), [(.ofNat 0, .ofNat 100000, 0, .ofNat 0)])], [(false, (0, 0, .ofNat 0))])
/-- GridLawsModel.later, row 5 -/
def zc_l131 : zC := (287, 5, 1, [(3, 88, .ofNat 0), (0, 0, .ofNat 25)], ([(88, (0, 0, .ofNat 28), (1, 0, .ofNat 0)), (1049, (0, 0, .ofNat 25), (0, 0, .ofNat 0))], []), [(.ofNat 0, .ofNat 100000, 0, .ofNat 0)], [], [(some (0, 0, .negSucc 0), ([], []), [(.ofNat 0, .ofNat 100000, 0, .ofNat 0)])], [(false, (0, 0, .ofNat 0))])
/-- GridLawsModel.later, row 5 -/
def zc_l132 : zC := (287, 5, 1, [(3, 88, .ofNat 0), (0, 0, .ofNat 26)], ([(88, (0, 0, .ofNat 28), (1, 0, .ofNat 0)), (1049, (0, 0, .ofNat 26), (0, 0, .ofNat 0))], []), [(.ofNat 0, .ofNat 100000, 0, .ofNat 0)], [], [(some (0, 0, .negSucc 0), ([], []), [(.ofNat 0, .ofNat 100000, 0, .ofNat 0)])], [(false, (0, 0, .ofNat 0))])
/-- GridLawsModel.later, row 5 -/
def zc_l133 : zC := (287, 5, 1, [(3, 88, .ofNat 0), (0, 0, .ofNat 27)], ([(88, (0, 0, .ofNat 28), (1, 0, .ofNat 0)), (1049, (0, 0, .ofNat 27), (0, 0, .ofNat 0))], []), [(.ofNat 0, .ofNat 100000, 0, .ofNat 0)], [], [(some (0, 0, .negSucc 0), ([], []), [(.ofNat 0, .ofNat 100000, 0, .ofNat 0)])], [(false, (0, 0, .ofNat 0))])
/-- GridLawsModel.later, row 5 -/
def zc_l134 : zC := (287, 5, 1, [(3, 88, .ofNat 0), (0, 0, .ofNat 28)], ([(88, (0, 0, .ofNat 28), (1, 0, .ofNat 0)), (1049, (0, 0, .ofNat 28), (0, 0, .ofNat 0))], []), [(.ofNat 0, .ofNat 100000, 0, .ofNat 0)], [], [(some (0, 0, .negSucc 0), ([], []), [(.ofNat 0, .ofNat 100000, 0, .ofNat 0)])], [(false, (0, 0, .ofNat 0))])
/-- GridLawsModel.later, row 5 -/
def zc_l135 : zC := (287, 5, 1, [(3, 88, .ofNat 0), (0, 0, .ofNat 29)], ([(88, (0, 0, .ofNat 28), (1, 0, .ofNat 0)), (1049, (0, 0, .ofNat 29), (0, 0, .ofNat 0))], []), [(.ofNat 0, .ofNat 100000, 0, .ofNat 0)], [], [(some (0, 0, .negSucc 0), ([], []), [(.ofNat 0, .ofNat 100000, 0, .ofNat 0)])], [(false, (0, 0, .ofNat 0))])
/-- GridLawsModel.later, row 5 -/
def zc_l136 : zC := (287, 5, 1, [(3, 88, .ofNat 0), (0, 0, .ofNat 30)], ([(88, (0, 0, .ofNat 28), (1, 0, .ofNat 0)), (1049, (0, 0, .ofNat 30), (0, 0, .ofNat 0))], []), [(.ofNat 0, .ofNat 100000, 0, .ofNat 0)], [], [(some (0, 0, .negSucc 0), ([], []), [(.ofNat 0, .ofNat 100000, 0, .ofNat 0)])], [(false, (0, 0, .ofNat 0))])
/-- GridLawsModel.later, row 5 -/
def zc_l137 : zC := (287, 5, 1, [(3, 88, .ofNat 0), (0, 0, .ofNat 31)], ([(88, (0, 0, .ofNat 28), (1, 0, .ofNat 0)), (1049, (0, 0, .ofNat 31), (0, 0, .ofNat 0))], []), [(.ofNat 0, .ofNat 100000, 0, .ofNat 0)], [], [(some (0, 0, .negSucc 0), ([], []), [(.ofNat 0, .ofNat 100000, 0, .ofNat 0)])], [(false, (0, 0, .ofNat 0))])
/-- GridLawsModel.later, row 5 -/
def zc_l138 : zC := (287, 5, 1, [(3, 88, .ofNat 0), (0, 0, .ofNat 32)], ([(88, (0, 0, .ofNat 28), (1, 0, .ofNat 0)), (1049, (0, 0, .ofNat 32), (0, 0, .ofNat 0))], []), [(.ofNat 0, .ofNat 100000, 0, .ofNat 0)], [], [(some (0, 0, .negSucc 0), ([], []), [(.ofNat 0, .ofNat 100000, 0, .ofNat 0)])], [(false, (0, 0, .ofNat 0))])
/-- GridLawsModel.later, row 5 -/
def zc_l139 : zC := (287, 5, 1, [(3, 88, .ofNat 0), (0, 0, .ofNat 33)], ([(88, (0, 0, .ofNat 28), (1, 0, .ofNat 0)), (1049, (0, 0, .ofNat 33), (0, 0, .ofNat 0))], []), [(.ofNat 0, .ofNat 100000, 0, .ofNat 0)], [], [(some (0, 0, .negSucc 0), ([], []), [(.ofNat 0, .ofNat 100000, 0, .ofNat 0)])], [(false, (0, 0, .ofNat 0))])
/-- GridLawsModel.later, row 5 -/
def zc_l140 : zC := (287, 5, 1, [(3, 88, .ofNat 0), (0, 0, .ofNat 34)], ([(88, (0, 0, .ofNat 28), (1, 0, .ofNat 0)), (1049, (0, 0, .ofNat 34), (0, 0, .ofNat 0))], []), [(.ofNat 0, .ofNat 100000, 0, .ofNat 0)], [], [(some (0, 0, .negSucc 0), ([], []), [(.ofNat 0, .ofNat 100000, 0, .ofNat 0)])], [(false, (0, 0, .ofNat 0))])
/-- GridLawsModel.later, row 5 -/
def zc_l141 : zC := (287, 5, 1, [(3, 88, .ofNat 0), (0, 0, .ofNat 35)], ([(88, (0, 0, .ofNat 28), (1, 0, .ofNat 0)), (1049, (0, 0, .ofNat 35), (0, 0, .ofNat 0))], []), [(.ofNat 0, .ofNat 100000, 0, .ofNat 0)], [], [(some (0, 0, .negSucc 0), ([], []), [(.ofNat 0, .ofNat 100000, 0, .ofNat 0)])], [(false, (0, 0, .ofNat 0))])
/-- GridLawsModel.later, row 5 -/
def zc_l142 : zC := (287, 5, 1, [(3, 88, .ofNat 0), (0, 0, .ofNat 36)], ([(88, (0, 0, .ofNat 28), (1, 0, .ofNat 0)), (1049, (0, 0, .ofNat 36), (0, 0, .ofNat 0))], []), [(.ofNat 0, .ofNat 100000, 0, .ofNat 0)], [], [(some (0, 0, .negSucc 0), ([], []), [(.ofNat 0, .ofNat 100000, 0, .ofNat 0)])], [(false, (0, 0, .ofNat 0))])
/-- GridLawsModel.later, row 5 -/
def zc_l143 : zC := (287, 5, 1, [(3, 88, .ofNat 0), (0, 0, .ofNat 37)], ([(88, (0, 0, .ofNat 28), (1, 0, .ofNat 0)), (1049, (0, 0, .ofNat 37), (0, 0, .ofNat 0))], []), [(.ofNat 0, .ofNat 100000, 0, .ofNat 0)], [], [(some (0, 0, .negSucc 0), ([], []), [(.ofNat 0, .ofNat 100000, 0, .ofNat 0)])], [(false, (0, 0, .ofNat 0))])
/-- GridLawsModel.later, row 5 -/
def zc_l144 : zC := (287, 5, 1, [(3, 88, .ofNat 0), (0, 0, .ofNat 38)], ([(88, (0, 0, .ofNat 28), (1, 0, .ofNat 0)), (1049, (0, 0, .ofNat 38), (0, 0, .ofNat 0))], []), [(.ofNat 0, .ofNat 100000, 0, .ofNat 0)], [], [(some (0, 0, .negSucc 0), ([], []), [(.ofNat 0, .ofNat 100000, 0, .ofNat 0)])], [(false, (0, 0, .ofNat 0))])
/-- GridLawsModel.later, row 5 -/
def zc_l145 : zC := (287, 5, 1, [(3, 88, .ofNat 0), (0, 0, .ofNat 39)], ([(88, (0, 0, .ofNat 28), (1, 0, .ofNat 0)), (1049, (0, 0, .ofNat 39), (0, 0, .ofNat 0))], []), [(.ofNat 0, .ofNat 100000, 0, .ofNat 0)], [], [(some (0, 0, .negSucc 0), ([], []), [(.ofNat 0, .ofNat 100000, 0, .ofNat 0)])], [(false, (0, 0, .ofNat 0))])
/-- GridLawsModel.later, row 5 -/
def zc_l146 : zC := (287, 5, 1, [(3, 88, .ofNat 0), (0, 0, .ofNat 40)], ([(88, (0, 0, .ofNat 28), (1, 0, .ofNat 0)), (1049, (0, 0, .ofNat 40), (0, 0, .ofNat 0))], []), [(.ofNat 0, .ofNat 100000, 0, .ofNat 0)], [], [(some (0, 0, .negSucc 0), ([], []), [(.ofNat 0, .ofNat 100000, 0, .ofNat 0)])], [(false, (0, 0, .ofNat 0))])
/-- GridLawsModel.later, row 5 -/
def zc_l147 : zC := (287, 5, 1, [(3, 88, .ofNat 0), (0, 0, .ofNat 41)], ([(88, (0, 0, .ofNat 28), (1, 0, .ofNat 0)), (1049, (0, 0, .ofNat 41), (0, 0, .ofNat 0))], []), [(.ofNat 0, .ofNat 100000, 0, .ofNat 0)], [], [(some (0, 0, .negSucc 0), ([], []), [(.ofNat 0, .ofNat 100000, 0, .ofNat 0)])], [(false, (0, 0, .ofNat 0))])
/-- GridLawsModel.later, row 5 -/
def zc_l148 : zC := (287, 5, 1, [(3, 88, .ofNat 0), (0, 0, .ofNat 42)], ([(88, (0, 0, .ofNat 28), (1, 0, .ofNat 0)), (1049, (0, 0, .ofNat 42), (0, 0, .ofNat 0))], []), [(.ofNat 0, .ofNat 100000, 0, .ofNat 0)], [], [(some (0, 0, .negSucc 0), ([], []), [(.ofNat 0, .ofNat 100000, 0, .ofNat 0)])], [(false, (0, 0, .ofNat 0))])
/-- GridLawsModel.later, row 5 -/
def zc_l149 : zC := (287, 5, 1, [(3, 88, .ofNat 0), (0, 0, .ofNat 43)], ([(88, (0, 0, .ofNat 28), (1, 0, .ofNat 0)), (1049, (0, 0, .ofNat 43), (0, 0, .ofNat 0))], []), [(.ofNat 0, .ofNat 100000, 0, .ofNat 0)], [], [(some (0, 0, .negSucc 0), ([], []), [(.ofNat 0, .ofNat 100000, 0, .ofNat 0)])], [(false, (0, 0, .ofNat 0))])
/-- GridLawsModel.later, row 5 -/
def zc_l150 : zC := (287, 5, 1, [(3, 88, .ofNat 0), (0, 0, .ofNat 44)], ([(88, (0, 0, .ofNat 28), (1, 0, .ofNat 0)), (1049, (0, 0, .ofNat 44), (0, 0, .ofNat 0))], []), [(.ofNat 0, .ofNat 100000, 0, .ofNat 0)], [], [(some (0, 0, .negSucc 0), ([], []), [(.ofNat 0, .ofNat 100000, 0, .ofNat 0)])], [(false, (0, 0, .ofNat 0))])
/-- GridLawsModel.later, row 5 -/
def zc_l151 : zC := (287, 5, 1, [(3, 88, .ofNat 0), (0, 0, .ofNat 45)], ([(88, (0, 0, .ofNat 28), (1, 0, .ofNat 0)), (1049, (0, 0, .ofNat 45), (0, 0, .ofNat 0))], []), [(.ofNat 0, .ofNat 100000, 0, .ofNat 0)], [], [(some (0, 0, .negSucc 0), ([], []), [(.ofNat 0, .ofNat 100000, 0, .ofNat 0)])], [(false, (0, 0, .ofNat 0))])
/-- GridLawsModel.later, row 5 -/
def zc_l152 : zC := (287, 5, 1, [(3, 88, .ofNat 0), (0, 0, .ofNat 46)], ([(88, (0, 0, .ofNat 28), (1, 0, .ofNat 0)), (1049, (0, 0, .ofNat 46), (0, 0, .ofNat 0))], []), [(.ofNat 0, .ofNat 100000, 0, .ofNat 0)], [], [(some (0, 0, .negSucc 0), ([], []), [(.ofNat 0, .ofNat 100000, 0, .ofNat 0)])], [(false, (0, 0, .ofNat 0))])
/-- GridLawsModel.later, row 5 -/
def zc_l153 : zC := (287, 5, 1, [(3, 88, .ofNat 0), (0, 0, .ofNat 47)], ([(88, (0, 0, .ofNat 28), (1, 0, .ofNat 0)), (1049, (0, 0, .ofNat 47), (0, 0, .ofNat 0))], []), [(.ofNat 0, .ofNat 100000, 0, .ofNat 0)], [], [(some (0, 0, .negSucc 0), ([], []), [(.ofNat 0, .ofNat 100000, 0, .ofNat 0)])], [(false, (0, 0, .ofNat 0))])
/-- GridLawsModel.later, row 5 -/
def zc_l154 : zC := (287, 5, 1, [(3, 88, .ofNat 0), (0, 0, .ofNat 48)], ([(88, (0, 0, .ofNat 28), (1, 0, .ofNat 0)), (1049, (0, 0, .ofNat 48), (0, 0, .ofNat 0))], []), [(.ofNat 0, .ofNat 100000, 0, .ofNat 0)], [], [(some (0, 0, .negSucc 0), ([], []), [(.ofNat 0, .ofNat 100000, 0, .ofNat 0)])], [(false, (0, 0, .ofNat 0))])
/-- GridLawsModel.later, row 5 -/
def zc_l155 : zC := (287, 5, 1, [(3, 88, .ofNat 0), (0, 0, .ofNat 49)], ([(88, (0, 0, .ofNat 28), (1, 0, .ofNat 0)), (1049, (0, 0, .ofNat 49), (0, 0, .ofNat 0))], []), [(.ofNat 0, .ofNat 100000, 0, .ofNat 0)], [], [(some (0, 0, .negSucc 0), ([], []), [(.ofNat 0, .ofNat 100000, 0, .ofNat 0)])], [(false, (0, 0, .ofNat 0))])
/-- GridLawsModel.later, row 5 -/
def zc_l156 : zC := (287, 5, 1, [(3, 88, .ofNat 0), (0, 0, .ofNat 50)], ([(88, (0, 0, .ofNat 28), (1, 0, .ofNat 0)), (1049, (0, 0, .ofNat 50), (0, 0, .ofNat 0))], []), [(.ofNat 0, .ofNat 100000, 0, .ofNat 0)], [], [(some (0, 0, .negSucc 0), ([], []), [(.ofNat 0, .ofNat 100000, 0, .ofNat 0)])], [(false, (0, 0, .ofNat 0))])
/-- GridLawsModel.later, row 5 -/
def zc_l157 : zC := (287, 5, 1, [(3, 88, .ofNat 0), (0, 0, .ofNat 51)], ([(88, (0, 0, .ofNat 28), (1, 0, .ofNat 0)), (1049, (0, 0, .ofNat 51), (0, 0, .ofNat 0))], []), [(.ofNat 0, .ofNat 100000, 0, .ofNat 0)], [], [(some (0, 0, .negSucc 0), ([], []), [(.ofNat 0, .ofNat 100000, 0, .ofNat 0)])], [(false, (0, 0, .ofNat 0))])
/-- GridLawsModel.later, row 5 -/
def zc_l158 : zC := (287, 5, 1, [(3, 88, .ofNat 0), (0, 0, .ofNat 52)], ([(88, (0, 0, .ofNat 28), (1, 0, .ofNat 0)), (1049, (0, 0, .ofNat 52), (0, 0, .ofNat 0))], []), [(.ofNat 0, .ofNat 100000, 0, .ofNat 0)], [], [(some (0, 0, .negSucc 0), ([], []), [(.ofNat 0, .ofNat 100000, 0, .ofNat 0)])], [(false, (0, 0, .ofNat 0))])
/-- GridLawsModel.later, row 5 -/
def zc_l159 : zC := (287, 5, 1, [(3, 88, .ofNat 0), (0, 0, .ofNat 53)], ([(88, (0, 0, .ofNat 28), (1, 0, .ofNat 0)), (1049, (0, 0, .ofNat 53), (0, 0, .ofNat 0))], []), [(.ofNat 0, .ofNat 100000, 0, .ofNat 0)], [], [(some (0, 0, .negSucc 0), ([], []), [(.ofNat 0, .ofNat 100000, 0, .ofNat 0)])], [(false, (0, 0, .ofNat 0))])
/-- GridLawsModel.later, row 5 -/
def zc_l160 : zC := (287, 5, 1, [(3, 88, .ofNat 0), (0, 0, .ofNat 54)], ([(88, (0, 0, .ofNat 28), (1, 0, .ofNat 0)), (1049, (0, 0, .ofNat 54), (0, 0, .ofNat 0))], []), [(.ofNat 0, .ofNat 100000, 0, .ofNat 0)], [], [(some (0, 0, .negSucc 0), ([], []), [(.ofNat 0, .ofNat 100000, 0, .ofNat 0)])], [(false, (0, 0, .ofNat 0))])
/-- GridLawsModel.later, row 5 -/
def zc_l161 : zC := (287, 5, 1, [(3, 88, .ofNat 0), (0, 0, .ofNat 55)], ([(88, (0, 0, .ofNat 28), (1, 0, .ofNat 0)), (1049, (0, 0, .ofNat 55), (0, 0, .ofNat 0))], []), [(.ofNat 0, .ofNat 100000, 0, .ofNat 0)], [], [(some (0, 0, .negSucc 0), ([], []), [(.ofNat 0, .ofNat 100000, 0, .ofNat 0)])], [(false, (0, 0, .ofNat 0))])
/-- GridLawsModel.later, row 5 -/
def zc_l162 : zC := (287, 5, 1, [(3, 88, .ofNat 0), (0, 0, .ofNat 56)], ([(88, (0, 0, .ofNat 28), (1, 0, .ofNat 0)), (1049, (0, 0, .ofNat 56), (0, 0, .ofNat 0))], []), [(.ofNat 0, .ofNat 100000, 0, .ofNat 0)], [], [(some (0, 0, .negSucc 0), ([], []), [(.ofNat 0, .ofNat 100000, 0, .ofNat 0)])], [(false, (0, 0, .ofNat 0))])
/-- GridLawsModel.later, row 5 -/
def zc_l163 : zC := (287, 5, 1, [(3, 88, .ofNat 0), (0, 0, .ofNat 57)], ([(88, (0, 0, .ofNat 28), (1, 0, .ofNat 0)), (1049, (0, 0, .ofNat 57), (0, 0, .ofNat 0))], []), [(.ofNat 0, .ofNat 100000, 0, .ofNat 0)], [], [(some (0, 0, .negSucc 0), ([], []), [(.ofNat 0, .ofNat 100000, 0, .ofNat 0)])], [(false, (0, 0, .ofNat 0))])
/-- GridLawsModel.later, row 5 -/
def zc_l164 : zC := (287, 5, 1, [(3, 88, .ofNat 0), (0, 0, .ofNat 58)], ([(88, (0, 0, .ofNat 28), (1, 0, .ofNat 0)), (1049, (0, 0, .ofNat 58), (0, 0, .ofNat 0))], []), [(.ofNat 0, .ofNat 100000, 0, .ofNat 0)], [], [(some (0, 0, .negSucc 0), ([], []), [(.ofNat 0, .ofNat 100000, 0, .ofNat 0)])], [(false, (0, 0, .ofNat 0))])
/-- GridLawsModel.later, row 5 -/
def zc_l165 : zC := (287, 5, 1, [(3, 88, .ofNat 0), (0, 0, .ofNat 59)], ([(88, (0, 0, .ofNat 28), (1, 0, .ofNat 0)), (1049, (0, 0, .ofNat 59), (0, 0, .ofNat 0))], []), [(.ofNat 0, .ofNat 100000, 0, .ofNat 0)], [], [(some (0, 0, .negSucc 0), ([], []), [(.ofNat 0, .ofNat 100000, 0, .ofNat 0)])], [(false, (0, 0, .ofNat 0))])
/-- GridLawsModel.later, row 5 -/
def zc_l166 : zC := (287, 5, 1, [(3, 88, .ofNat 0), (0, 0, .ofNat 60)], ([(88, (0, 0, .ofNat 28), (1, 0, .ofNat 0)), (1049, (0, 0, .ofNat 60), (0, 0, .ofNat 0))], []), [(.ofNat 0, .ofNat 100000, 0, .ofNat 0)], [], [(some (0, 0, .negSucc 0), ([], []), [(.ofNat 0, .ofNat 100000, 0, .ofNat 0)])], [(false, (0, 0, .ofNat 0))])
/-- GridLawsModel.later, row 5 -/
def zc_l167 : zC := (287, 5, 1, [(3, 88, .ofNat 0), (0, 0, .ofNat 61)], ([(88, (0, 0, .ofNat 28), (1, 0, .ofNat 0)), (1049, (0, 0, .ofNat 61), (0, 0, .ofNat 0))], []), [(.ofNat 0, .ofNat 100000, 0, .ofNat 0)], [], [(some (0, 0, .negSucc 0), ([], []), [(.ofNat 0, .ofNat 100000, 0, .ofNat 0)])], [(false, (0, 0, .ofNat 0))])
/-- GridLawsModel.later, row 5 -/
def zc_l168 : zC := (287, 5, 1, [(3, 88, .ofNat 0), (0, 0, .ofNat 62)], ([(88, (0, 0, .ofNat 28), (1, 0, .ofNat 0)), (1049, (0, 0, .ofNat 62), (0, 0, .ofNat 0))], []), [(.ofNat 0, .ofNat 100000, 0, .ofNat 0)], [], [(some (0, 0, .negSucc 0), ([], []), [(.ofNat 0, .ofNat 100000, 0, .ofNat 0)])], [(false, (0, 0, .ofNat 0))])
/-- GridLawsModel.later, row 5 -/
def zc_l169 : zC := (287, 5, 1, [(3, 88, .ofNat 0), (0, 0, .ofNat 63)], ([(88, (0, 0, .ofNat 28), (1, 0, .ofNat 0)), (1049, (0, 0, .ofNat 63), (0, 0, .ofNat 0))], []), [(.ofNat 0, .ofNat 100000, 0, .ofNat 0)], [], [(some (0, 0, .negSucc 0), ([], []), [(.ofNat 0, .ofNat 100000, 0, .ofNat 0)])], [(false, (0, 0, .ofNat 0))])
/-- GridLawsModel.later, row 5 -/
def zc_l170 : zC := (287, 5, 1, [(3, 88, .ofNat 0), (0, 0, .ofNat 64)], ([(88, (0, 0, .ofNat 28), (1, 0, .ofNat 0)), (1049, (0, 0, .ofNat 64), (0, 0, .ofNat 0))], []), [(.ofNat 0, .ofNat 100000, 0, .ofNat 0)], [], [(some (0, 0, .negSucc 0), ([], []), [(.ofNat 0, .ofNat 100000, 0, .ofNat 0)])], [(false, (0, 0, .ofNat 0))])
/-- GridLawsModel.later, row 5 -/
def zc_l171 : zC := (287, 5, 1, [(3, 88, .ofNat 0), (0, 0, .ofNat 65)], ([(88, (0, 0, .ofNat 28), (1, 0, .ofNat 0)), (1049, (0, 0, .ofNat 65), (0, 0, .ofNat 0))], []), [(.ofNat 0, .ofNat 100000, 0, .ofNat 0)], [], [(some (0, 0, .negSucc 0), ([], []), [(.ofNat 0, .ofNat 100000, 0, .ofNat 0)])], [(false, (0, 0, .ofNat 0))])
/-- GridLawsModel.later, row 5 -/
def zc_l172 : zC := (287, 5, 1, [(3, 88, .ofNat 0), (0, 0, .ofNat 66)], ([(88, (0, 0, .ofNat 28), (1, 0, .ofNat 0)), (1049, (0, 0, .ofNat 66), (0, 0, .ofNat 0))], []), [(.ofNat 0, .ofNat 100000, 0, .ofNat 0)], [], [(some (0, 0, .negSucc 0), ([], []), [(.ofNat 0, .ofNat 100000, 0, .ofNat 0)])], [(false, (0, 0, .ofNat 0))])
/-- GridLawsModel.later, row 5 -/
def zc_l173 : zC := (287, 5, 1, [(3, 88, .ofNat 0), (0, 0, .ofNat 67)], ([(88, (0, 0, .ofNat 28), (1, 0, .ofNat 0)), (1049, (0, 0, .ofNat 67), (0, 0, .ofNat 0))], []), [(.ofNat 0, .ofNat 100000, 0, .ofNat 0)], [], [(some (0, 0, .negSucc 0), ([], []), [(.ofNat 0, .ofNat 100000, 0, .ofNat 0)])], [(false, (0, 0, .ofNat 0))])
/-- GridLawsModel.later, row 5 -/
def zc_l174 : zC := (287, 5, 1, [(3, 88, .ofNat 0), (0, 0, .ofNat 68)], ([(88, (0, 0, .ofNat 28), (1, 0, .ofNat 0)), (1049, (0, 0, .ofNat 68), (0, 0, .ofNat 0))], []), [(.ofNat 0, .ofNat 100000, 0, .ofNat 0)], [], [(some (0, 0, .negSucc 0), ([], []), [(.ofNat 0, .ofNat 100000, 0, .ofNat 0)])], [(false, (0, 0, .ofNat 0))])
/-- GridLawsModel.later, row 5 -/
def zc_l175 : zC := (287, 5, 1, [(3, 88, .ofNat 0), (0, 0, .ofNat 69)], ([(88, (0, 0, .ofNat 28), (1, 0, .ofNat 0)), (1049, (0, 0, .ofNat 69), (0, 0, .ofNat 0))], []), [(.ofNat 0, .ofNat 100000, 0, .ofNat 0)], [], [(some (0, 0, .negSucc 0), ([], []), [(.ofNat 0, .ofNat 100000, 0, .ofNat 0)])], [(false, (0, 0, .ofNat 0))])
/-- GridLawsModel.later, row 5 -/
def zc_l176 : zC := (287, 5, 1, [(3, 88, .ofNat 0), (0, 0, .ofNat 70)], ([(88, (0, 0, .ofNat 28), (1, 0, .ofNat 0)), (1049, (0, 0, .ofNat 70), (0, 0, .ofNat 0))], []), [(.ofNat 0, .ofNat 100000, 0, .ofNat 0)], [], [(some (0, 0, .negSucc 0), ([], []), [(.ofNat 0, .ofNat 100000, 0, .ofNat 0)])], [(false, (0, 0, .ofNat 0))])
/-- GridLawsModel.later, row 5 -/
def zc_l177 : zC := (287, 5, 1, [(3, 88, .ofNat 0), (0, 0, .ofNat 71)], ([(88, (0, 0, .ofNat 28), (1, 0, .ofNat 0)), (1049, (0, 0, .ofNat 71), (0, 0, .ofNat 0))], []), [(.ofNat 0, .ofNat 100000, 0, .ofNat 0)], [], [(some (0, 0, .negSucc 0), ([], []), [(.ofNat 0, .ofNat 100000, 0, .ofNat 0)])], [(false, (0, 0, .ofNat 0))])
/-- GridLawsModel.later, row 5 -/
def zc_l178 : zC := (287, 5, 1, [(3, 88, .ofNat 0), (0, 0, .ofNat 72)], ([(88, (0, 0, .ofNat 28), (1, 0, .ofNat 0)), (1049, (0, 0, .ofNat 72), (0, 0, .ofNat 0))], []), [(.ofNat 0, .ofNat 100000, 0, .ofNat 0)], [], [(some (0, 0, .negSucc 0), ([], []), [(.ofNat 0, .ofNat 100000, 0, .ofNat 0)])], [(false, (0, 0, .ofNat 0))])
/-- GridLawsModel.later, row 5 -/
def zc_l179 : zC := (287, 5, 1, [(3, 88, .ofNat 0), (0, 0, .ofNat 73)], ([(88, (0, 0, .ofNat 28), (1, 0, .ofNat 0)), (1049, (0, 0, .ofNat 73), (0, 0, .ofNat 0))], []), [(.ofNat 0, .ofNat 100000, 0, .ofNat 0)], [], [(some (0, 0, .negSucc 0), ([], []), [(.ofNat 0, .ofNat 100000, 0, .ofNat 0)])], [(false, (0, 0, .ofNat 0))])
/-- GridLawsModel.later, row 5 -/
def zc_l180 : zC := (287, 5, 1, [(3, 88, .ofNat 0), (0, 0, .ofNat 74)], ([(88, (0, 0, .ofNat 28), (1, 0, .ofNat 0)), (1049, (0, 0, .ofNat 74), (0, 0, .ofNat 0))], []), [(.ofNat 0, .ofNat 100000, 0, .ofNat 0)], [], [(some (0, 0, .negSucc 0), ([], []), [(.ofNat 0, .ofNat 100000, 0, .ofNat 0)])], [(false, (0, 0, .ofNat 0))])
/-- GridLawsModel.later, row 5 -/
def zc_l181 : zC := (287, 5, 1, [(3, 88, .ofNat 0), (0, 0, .ofNat 75)], ([(88, (0, 0, .ofNat 28), (1, 0, .ofNat 0)), (1049, (0, 0, .ofNat 75), (0, 0, .ofNat 0))], []), [(.ofNat 0, .ofNat 100000, 0, .ofNat 0)], [], [(some (0, 0, .negSucc 0), ([], []), [(.ofNat 0, .ofNat 100000, 0, .ofNat 0)])], [(false, (0, 0, .ofNat 0))])
/-- GridLawsModel.later, row 5 -/
def zc_l182 : zC := (287, 5, 1, [(3, 88, .ofNat 0), (0, 0, .ofNat 76)], ([(88, (0, 0, .ofNat 28), (1, 0, .ofNat 0)), (1049, (0, 0, .ofNat 76), (0, 0, .ofNat 0))], []), [(.ofNat 0, .ofNat 100000, 0, .ofNat 0)], [], [(some (0, 0, .negSucc 0), ([], []), [(.ofNat 0, .ofNat 100000, 0, .ofNat 0)])], [(false, (0, 0, .ofNat 0))])
/-- GridLawsModel.later, row 5 -/
def zc_l183 : zC := (287, 5, 1, [(3, 88, .ofNat 0), (0, 0, .ofNat 77)], ([(88, (0, 0, .ofNat 28), (1, 0, .ofNat 0)), (1049, (0, 0, .ofNat 77), (0, 0, .ofNat 0))], []), [(.ofNat 0, .ofNat 100000, 0, .ofNat 0)], [], [(some (0, 0, .negSucc 0), ([], []), [(.ofNat 0, .ofNat 100000, 0, .ofNat 0)])], [(false, (0, 0, .ofNat 0))])
/-- GridLawsModel.later, row 5 -/
def zc_l184 : zC := (287, 5, 1, [(3, 88, .ofNat 0), (0, 0, .ofNat 78)], ([(88, (0, 0, .ofNat 28), (1, 0, .ofNat 0)), (1049, (0, 0, .ofNat 78), (0, 0, .ofNat 0))], []), [(.ofNat 0, .ofNat 100000, 0, .ofNat 0)], [], [(some (0, 0, .negSucc 0), ([], []), [(.ofNat 0, .ofNat 100000, 0, .ofNat 0)])], [(false, (0, 0, .ofNat 0))])
/-- GridLawsModel.later, row 5 -/
def zc_l185 : zC := (287, 5, 1, [(3, 88, .ofNat 0), (0, 0, .ofNat 79)], ([(88, (0, 0, .ofNat 28), (1, 0, .ofNat 0)), (1049, (0, 0, .ofNat 79), (0, 0, .ofNat 0))], []), [(.ofNat 0, .ofNat 100000, 0, .ofNat 0)], [], [(some (0, 0, .negSucc 0), ([], []), [(.ofNat 0, .ofNat 100000, 0, .ofNat 0)])], [(false, (0, 0, .ofNat 0))])
/-- GridLawsModel.later, row 5 -/
def zc_l186 : zC := (287, 5, 1, [(3, 88, .ofNat 0), (0, 0, .ofNat 80)], ([(88, (0, 0, .ofNat 28), (1, 0, .ofNat 0)), (1049, (0, 0, .ofNat 80), (0, 0, .ofNat 0))], []), [(.ofNat 0, .ofNat 100000, 0, .ofNat 0)], [], [(some (0, 0, .negSucc 0), ([], []), [(.ofNat 0, .ofNat 100000, 0, .ofNat 0)])], [(false, (0, 0, .ofNat 0))])
/-- GridLawsModel.later, row 5 -/
def zc_l187 : zC := (287, 5, 1, [(3, 88, .ofNat 0), (0, 0, .ofNat 81)], ([(88, (0, 0, .ofNat 28), (1, 0, .ofNat 0)), (1049, (0, 0, .ofNat 81), (0, 0, .ofNat 0))], []), [(.ofNat 0, .ofNat 100000, 0, .ofNat 0)], [], [(some (0, 0, .negSucc 0), ([], []), [(.ofNat 0, .ofNat 100000, 0, .ofNat 0)])], [(false, (0, 0, .ofNat 0))])
/-- GridLawsModel.later, row 5 -/
def zc_l188 : zC := (287, 5, 1, [(3, 88, .ofNat 0), (0, 0, .ofNat 82)], ([(88, (0, 0, .ofNat 28), (1, 0, .ofNat 0)), (1049, (0, 0, .ofNat 82), (0, 0, .ofNat 0))], []), [(.ofNat 0, .ofNat 100000, 0, .ofNat 0)], [], [(some (0, 0, .negSucc 0), ([], []), [(.ofNat 0, .ofNat 100000, 0, .ofNat 0)])], [(false, (0, 0, .ofNat 0))])
/-- GridLawsModel.later, row 5 -/
def zc_l189 : zC := (287, 5, 1, [(3, 88, .ofNat 0), (0, 0, .ofNat 83)], ([(88, (0, 0, .ofNat 28), (1, 0, .ofNat 0)), (1049, (0, 0, .ofNat 83), (0, 0, .ofNat 0))], []), [(.ofNat 0, .ofNat 100000, 0, .ofNat 0)], [], [(some (0, 0, .negSucc 0), ([], []), [(.ofNat 0, .ofNat 100000, 0, .ofNat 0)])], [(false, (0, 0, .ofNat 0))])
/-- GridLawsModel.later, row 5 -/
def zc_l190 : zC := (287, 5, 1, [(3, 88, .ofNat 0), (0, 0, .ofNat 84)], ([(88, (0, 0, .ofNat 28), (1, 0, .ofNat 0)), (1049, (0, 0, .ofNat 84), (0, 0, .ofNat 0))], []), [(.ofNat 0, .ofNat 100000, 0, .ofNat 0)], [], [(some (0, 0, .negSucc 0), ([], []), [(.ofNat 0, .ofNat 100000, 0, .ofNat 0)])], [(false, (0, 0, .ofNat 0))])
/-- GridLawsModel.later, row 5 -/
def zc_l191 : zC := (287, 5, 1, [(3, 88, .ofNat 0), (0, 0, .ofNat 85)], ([(88, (0, 0, .ofNat 28), (1, 0, .ofNat 0)), (1049, (0, 0, .ofNat 85), (0, 0, .ofNat 0))], []), [(.ofNat 0, .ofNat 100000, 0, .ofNat 0)], [], [(some (0, 0, .negSucc 0), ([], []), [(.ofNat 0, .ofNat 100000, 0, .ofNat 0)])], [(false, (0, 0, .ofNat 0))])
/-- GridLawsModel.later, row 5 -/
def zc_l192 : zC := (287, 5, 1, [(3, 88, .ofNat 0), (0, 0, .ofNat 86)], ([(88, (0, 0, .ofNat 28), (1, 0, .ofNat 0)), (1049, (0, 0, .ofNat 86), (0, 0, .ofNat 0))], []), [(.ofNat 0, .ofNat 100000, 0, .ofNat 0)], [], [(some (0, 0, .negSucc 0), ([], []), [(.ofNat 0, .ofNat 100000, 0, .ofNat 0)])], [(false, (0, 0, .ofNat 0))])
/-- GridLawsModel.later, row 5 -/
def zc_l193 : zC := (287, 5, 1, [(3, 88, .ofNat 0), (0, 0, .ofNat 87)], ([(88, (0, 0, .ofNat 28), (1, 0, .ofNat 0)), (1049, (0, 0, .ofNat 87), (0, 0, .ofNat 0))], []), [(.ofNat 0, .ofNat 100000, 0, .ofNat 0)], [], [(some (0, 0, .negSucc 0), ([], []), [(.ofNat 0, .ofNat 100000, 0, .ofNat 0)])], [(false, (0, 0, .ofNat 0))])
/-- GridLawsModel.later, row 5 -/
def zc_l194 : zC := (287, 5, 1, [(3, 88, .ofNat 0), (0, 0, .ofNat 88)], ([(88, (0, 0, .ofNat 28), (1, 0, .ofNat 0)), (1049, (0, 0, .ofNat 88), (0, 0, .ofNat 0))], []), [(.ofNat 0, .ofNat 100000, 0, .ofNat 0)], [], [(some (0, 0, .negSucc 0), ([], []), [(.ofNat 0, .ofNat 100000, 0, .ofNat 0)])], [(false, (0, 0, .ofNat 0))])
/-- GridLawsModel.later, row 5 -/
def zc_l195 : zC := (287, 5, 1, [(3, 88, .ofNat 0), (0, 0, .ofNat 89)], ([(88, (0, 0, .ofNat 28), (1, 0, .ofNat 0)), (1049, (0, 0, .ofNat 89), (0, 0, .ofNat 0))], []), [(.ofNat 0, .ofNat 100000, 0, .ofNat 0)], [], [(some (0, 0, .negSucc 0), ([], []), [(.ofNat 0, .ofNat 100000, 0, .ofNat 0)])], [(false, (0, 0, .ofNat 0))])
/-- GridLawsModel.later, row 5 -/
def zc_l196 : zC := (287, 5, 1, [(3, 88, .ofNat 0), (0, 0, .ofNat 90)], ([(88, (0, 0, .ofNat 28), (1, 0, .ofNat 0)), (1049, (0, 0, .ofNat 90), (0, 0, .ofNat 0))], []), [(.ofNat 0, .ofNat 100000, 0, .ofNat 0)], [], [(some (0, 0, .negSucc 0), ([], []), [(.ofNat 0, .ofNat 100000, 0, .ofNat 0)])], [(false, (0, 0, .ofNat 0))])
/-- GridLawsModel.later, row 5 -/
def zc_l197 : zC := (287, 5, 1, [(3, 88, .ofNat 0), (0, 0, .ofNat 91)], ([(88, (0, 0, .ofNat 28), (1, 0, .ofNat 0)), (1049, (0, 0, .ofNat 91), (0, 0, .ofNat 0))], []), [(.ofNat 0, .ofNat 100000, 0, .ofNat 0)], [], [(some (0, 0, .negSucc 0), ([], []), [(.ofNat 0, .ofNat 100000, 0, .ofNat 0)])], [(false, (0, 0, .ofNat 0))])
/-- GridLawsModel.later, row 5 -/
def zc_l198 : zC := (287, 5, 1, [(3, 88, .ofNat 0), (0, 0, .ofNat 92)], ([(88, (0, 0, .ofNat 28), (1, 0, .ofNat 0)), (1049, (0, 0, .ofNat 92), (0, 0, .ofNat 0))], []), [(.ofNat 0, .ofNat 100000, 0, .ofNat 0)], [], [(some (0, 0, .negSucc 0), ([], []), [(.ofNat 0, .ofNat 100000, 0, .ofNat 0)])], [(false, (0, 0, .ofNat 0))])
/-- GridLawsModel.later, row 5 -/
def zc_l199 : zC := (287, 5, 1, [(3, 88, .ofNat 0), (0, 0, .ofNat 93)], ([(88, (0, 0, .ofNat 28), (1, 0, .ofNat 0)), (1049, (0, 0, .ofNat 93), (0, 0, .ofNat 0))], []), [(.ofNat 0, .ofNat 100000, 0, .ofNat 0)], [], [(some (0, 0, .negSucc 0), ([], []), [(.ofNat 0, .ofNat 100000, 0, .ofNat 0)])], [(false, (0, 0, .ofNat 0))])
/-- GridLawsModel.later, row 5 -/
def zc_l200 : zC := (287, 5, 1, [(3, 88, .ofNat 0), (0, 0, .ofNat 94)], ([(88, (0, 0, .ofNat 28), (1, 0, .ofNat 0)), (1049, (0, 0, .ofNat 94), (0, 0, .ofNat 0))], []), [(.ofNat 0, .ofNat 100000, 0, .ofNat 0)], [], [(some (0, 0, .negSucc 0), ([], []), [(.ofNat 0, .ofNat 100000, 0, .ofNat 0)])], [(false, (0, 0, .ofNat 0))])
/-- GridLawsModel.later, row 5 -/
def zc_l201 : zC := (287, 5, 1, [(3, 88, .ofNat 0), (0, 0, .ofNat 95)], ([(88, (0, 0, .ofNat 28), (1, 0, .ofNat 0)), (1049, (0, 0, .ofNat 95), (0, 0, .ofNat 0))], []), [(.ofNat 0, .ofNat 100000, 0, .ofNat 0)], [], [(some (0, 0, .negSucc 0), ([], []), [(.ofNat 0, .ofNat 100000, 0, .ofNat 0)])], [(false, (0, 0, .ofNat 0))])
/-- GridLawsModel.later, row 5 -/
def zc_l202 : zC := (287, 5, 1, [(3, 88, .ofNat 0), (0, 0, .ofNat 96)], ([(88, (0, 0, .ofNat 28), (1, 0, .ofNat 0)), (1049, (0, 0, .ofNat 96), (0, 0, .ofNat 0))], []), [(.ofNat 0, .ofNat 100000, 0, .ofNat 0)], [], [(some (0, 0, .negSucc 0), ([], []), [(.ofNat 0, .ofNat 100000, 0, .ofNat 0)])], [(false, (0, 0, .ofNat 0))])
/-- GridLawsModel.later, row 5 -/
def zc_l203 : zC := (287, 5, 1, [(3, 88, .ofNat 0), (0, 0, .ofNat 97)], ([(88, (0, 0, .ofNat 28), (1, 0, .ofNat 0)), (1049, (0, 0, .ofNat 97), (0, 0, .ofNat 0))], []), [(.ofNat 0, .ofNat 100000, 0, .ofNat 0)], [], [(some (0, 0, .negSucc 0), ([], []), [(.ofNat 0, .ofNat 100000, 0, .ofNat 0)])], [(false, (0, 0, .ofNat 0))])
/-- GridLawsModel.later, row 5 -/
def zc_l204 : zC := (287, 5, 1, [(3, 88, .ofNat 0), (0, 0, .ofNat 98)], ([(88, (0, 0, .ofNat 28), (1, 0, .ofNat 0)), (1049, (0, 0, .ofNat 98), (0, 0, .ofNat 0))], []), [(.ofNat 0, .ofNat 100000, 0, .ofNat 0)], [], [(some (0, 0, .negSucc 0), ([], []), [(.ofNat 0, .ofNat 100000, 0, .ofNat 0)])], [(false, (0, 0, .ofNat 0))])
/-- GridLawsModel.later, row 5 -/
def zc_l205 : zC := (287, 5, 1, [(3, 88, .ofNat 0), (0, 0, .ofNat 99)], ([(88, (0, 0, .ofNat 28), (1, 0, .ofNat 0)), (1049, (0, 0, .ofNat 99), (0, 0, .ofNat 0))], []), [(.ofNat 0, .ofNat 100000, 0, .ofNat 0)], [], [(some (0, 0, .negSucc 0), ([], []), [(.ofNat 0, .ofNat 100000, 0, .ofNat 0)])], [(false, (0, 0, .ofNat 0))])
def zgl_l105_0 : List zC := [zc_l105, zc_l106, zc_l107, zc_l108, zc_l109, zc_l110, zc_l111, zc_l112, zc_l113, zc_l114, zc_l115, zc_l116, zc_l117, zc_l118, zc_l119, zc_l120]
def zgl_l105_1 : List zC := [zc_l121, zc_l122, zc_l123, zc_l124, zc_l125, zc_l126, zc_l127, zc_l128, zc_l129, zc_l130, zc_l131, zc_l132, zc_l133, zc_l134, zc_l135, zc_l136]
def zgl_l105_2 : List zC := [zc_l137, zc_l138, zc_l139, zc_l140, zc_l141, zc_l142, zc_l143, zc_l144, zc_l145, zc_l146, zc_l147, zc_l148, zc_l149, zc_l150, zc_l151, zc_l152]
def zgl_l105_3 : List zC := [zc_l153, zc_l154, zc_l155, zc_l156, zc_l157, zc_l158, zc_l159, zc_l160, zc_l161, zc_l162, zc_l163, zc_l164, zc_l165, zc_l166, zc_l167, zc_l168]
def zgl_l105_4 : List zC := [zc_l169, zc_l170, zc_l171, zc_l172, zc_l173, zc_l174, zc_l175, zc_l176, zc_l177, zc_l178, zc_l179, zc_l180, zc_l181, zc_l182, zc_l183, zc_l184]
def zgl_l105_5 : List zC := [zc_l185, zc_l186, zc_l187, zc_l188, zc_l189, zc_l190, zc_l191, zc_l192, zc_l193, zc_l194, zc_l195, zc_l196, zc_l197, zc_l198, zc_l199, zc_l200]
def zgl_l105_6 : List zC := [zc_l201, zc_l202, zc_l203, zc_l204, zc_l205]
def zgl_l105 : List zC := zgl_l105_0 ++ (zgl_l105_1 ++ (zgl_l105_2 ++ (zgl_l105_3 ++ (zgl_l105_4 ++ (zgl_l105_5 ++ (zgl_l105_6))))))
def zgh_l105_0 : List (zC × zHt) := [(zc_l105, [(5, 0, 0), (5, 1, 0)]), (zc_l106, [(13, 2, 94)]), (zc_l107, [(13, 2, 94)]), (zc_l108, [(13, 2, 94)]), (zc_l109, [(13, 2, 94)]), (zc_l110, [(13, 2, 94)]), (zc_l111, [(13, 2, 94)]), (zc_l112, [(13, 2, 94)]), (zc_l113, [(13, 2, 94)]), (zc_l114, [(13, 2, 94)]), (zc_l115, [(13, 2, 94)]), (zc_l116, [(13, 2, 94)]), (zc_l117, [(13, 2, 94)]), (zc_l118, [(13, 2, 94)]), (zc_l119, [(13, 2, 94)]), (zc_l120, [(13, 2, 94)])]
def zgh_l105_1 : List (zC × zHt) := [(zc_l121, [(13, 2, 94)]), (zc_l122, [(13, 2, 94)]), (zc_l123, [(13, 2, 94)]), (zc_l124, [(13, 2, 94)]), (zc_l125, [(13, 2, 94)]), (zc_l126, [(13, 2, 94)]), (zc_l127, [(13, 2, 94)]), (zc_l128, [(13, 2, 94)]), (zc_l129, [(13, 2, 94)]), (zc_l130, [(13, 2, 94)]), (zc_l131, [(13, 2, 94)]), (zc_l132, [(13, 2, 94)]), (zc_l133, [(13, 2, 94)]), (zc_l134, [(13, 2, 94)]), (zc_l135, [(13, 2, 94)]), (zc_l136, [(13, 2, 94)])]
def zgh_l105_2 : List (zC × zHt) := [(zc_l137, [(13, 2, 94)]), (zc_l138, [(13, 2, 94)]), (zc_l139, [(13, 2, 94)]), (zc_l140, [(13, 2, 94)]), (zc_l141, [(13, 2, 94)]), (zc_l142, [(13, 2, 94)]), (zc_l143, [(13, 2, 94)]), (zc_l144, [(13, 2, 94)]), (zc_l145, [(13, 2, 94)]), (zc_l146, [(13, 2, 94)]), (zc_l147, [(13, 2, 94)]), (zc_l148, [(13, 2, 94)]), (zc_l149, [(13, 2, 94)]), (zc_l150, [(13, 2, 94)]), (zc_l151, [(13, 2, 94)]), (zc_l152, [(13, 2, 94)])]
def zgh_l105_3 : List (zC × zHt) := [(zc_l153, [(13, 2, 94)]), (zc_l154, [(13, 2, 94)]), (zc_l155, [(13, 2, 94)]), (zc_l156, [(13, 2, 94)]), (zc_l157, [(13, 2, 94)]), (zc_l158, [(13, 2, 94)]), (zc_l159, [(13, 2, 94)]), (zc_l160, [(13, 2, 94)]), (zc_l161, [(13, 2, 94)]), (zc_l162, [(13, 2, 94)]), (zc_l163, [(13, 2, 94)]), (zc_l164, [(13, 2, 94)]), (zc_l165, [(13, 2, 94)]), (zc_l166, [(13, 2, 94)]), (zc_l167, [(13, 2, 94)]), (zc_l168, [(13, 2, 94)])]
def zgh_l105_4 : List (zC × zHt) := [(zc_l169, [(13, 2, 94)]), (zc_l170, [(13, 2, 94)]), (zc_l171, [(13, 2, 94)]), (zc_l172, [(13, 2, 94)]), (zc_l173, [(13, 2, 94)]), (zc_l174, [(13, 2, 94)]), (zc_l175, [(13, 2, 94)]), (zc_l176, [(13, 2, 94)]), (zc_l177, [(13, 2, 94)]), (zc_l178, [(13, 2, 94)]), (zc_l179, [(13, 2, 94)]), (zc_l180, [(13, 2, 94)]), (zc_l181, [(13, 2, 94)]), (zc_l182, [(13, 2, 94)]), (zc_l183, [(13, 2, 94)]), (zc_l184, [(13, 2, 94)])]
def zgh_l105_5 : List (zC × zHt) := [(zc_l185, [(13, 2, 94)]), (zc_l186, [(13, 2, 94)]), (zc_l187, [(13, 2, 94)]), (zc_l188, [(13, 2, 94)]), (zc_l189, [(13, 2, 94)]), (zc_l190, [(13, 2, 94)]), (zc_l191, [(13, 2, 94)]), (zc_l192, [(13, 2, 94)]), (zc_l193, [(13, 2, 94)]), (zc_l194, [(13, 2, 94)]), (zc_l195, [(13, 2, 94)]), (zc_l196, [(13, 2, 94)]), (zc_l197, [(13, 2, 94)]), (zc_l198, [(13, 2, 94)]), (zc_l199, [(13, 2, 94)]), (zc_l200, [(13, 2, 94)])]
def zgh_l105_6 : List (zC × zHt) := [(zc_l201, [(13, 2, 94)]), (zc_l202, [(13, 2, 94)]), (zc_l203, [(13, 2, 94)]), (zc_l204, [(13, 2, 94)]), (zc_l205, [(13, 2, 94)])]
theorem zge_l105_0 : zgh_l105_0.map Prod.fst = zgl_l105_0 := rfl
theorem zge_l105_1 : zgh_l105_1.map Prod.fst = zgl_l105_1 := rfl
theorem zge_l105_2 : zgh_l105_2.map Prod.fst = zgl_l105_2 := rfl
theorem zge_l105_3 : zgh_l105_3.map Prod.fst = zgl_l105_3 := rfl
theorem zge_l105_4 : zgh_l105_4.map Prod.fst = zgl_l105_4 := rfl
theorem zge_l105_5 : zgh_l105_5.map Prod.fst = zgl_l105_5 := rfl
theorem zge_l105_6 : zgh_l105_6.map Prod.fst = zgl_l105_6 := rfl
theorem zge_l105 : (zgh_l105_0 ++ (zgh_l105_1 ++ (zgh_l105_2 ++ (zgh_l105_3 ++ (zgh_l105_4 ++ (zgh_l105_5 ++ (zgh_l105_6))))))).map Prod.fst = zgl_l105 := by
  rw [List.map_append, zge_l105_0, List.map_append, zge_l105_1, List.map_append, zge_l105_2, List.map_append, zge_l105_3, List.map_append, zge_l105_4, List.map_append, zge_l105_5, zge_l105_6]
  rfl
