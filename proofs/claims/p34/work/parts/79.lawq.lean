
/-! the law, by its runs -/
abbrev xFl : List Cond := flatC (Jvm.Cond.and given_1 narrow_1)
def xtm (i : Nat) : Term := match i with
  | 0 => .string "GridLaws$Law" 99
  | 1 => .string "GridLaws$Tape" 46
  | _ => .string "GridLaws$Tape" 78
theorem xq_ex : ∀ i, i < 3 → Cond.exactly (xtm i) "java/lang/String" ∈ xFl := by decide +kernel
theorem xq_co : ∀ i, i < 3 → Cond.eq (.field (xtm i) "java/lang/String" "coder" "B") (.int 0) ∈ xFl := by decide +kernel
theorem xq_ar : ∀ i, i < 3 → Cond.arrayOf (.field (xtm i) "java/lang/String" "value" "[B") .byte ∈ xFl := by decide +kernel
theorem xq_le : ∀ i, i < 3 → Cond.eq (.length (.field (xtm i) "java/lang/String" "value" "[B")) (.int (Int32.ofNat ((xBY.map List.length).getD i 0))) ∈ xFl := by decide +kernel
theorem xq_el : ∀ i, i < 3 → ∀ j, j < (xBY.map List.length).getD i 0 → Cond.eq (.elem (.field (xtm i) "java/lang/String" "value" "[B") (.int (Int32.ofNat j))) (.int ((xBY.getD i []).getD j 0)) ∈ xFl := by decide +kernel
theorem xq_ne : ∀ i, i < 3 → ∀ j, j < 3 → i ≠ j → Cond.not (Cond.eq (xtm i) (xtm j)) ∈ xFl ∨ Cond.not (Cond.eq (xtm j) (xtm i)) ∈ xFl := by decide +kernel
theorem xq_bl : ∀ i, i < 3 → (xBY.map List.length).getD i 0 < 2 ^ 31 := by decide +kernel
theorem xq_cs : Cond.eq (.static "java/lang/String" "COMPACT_STRINGS" "Z") (.int 1) ∈ xFl := by decide +kernel
theorem xq_si : Cond.isRef (.static "jdk/internal/util/Preconditions" "SIOOBE_FORMATTER" "Ljava/util/function/BiFunction;") ∈ xFl := by decide +kernel
theorem xq_nw : ∀ w ∈ xNW, w ∈ lw_tbl ∧ w.onTables = true := by decide +kernel
theorem xq_sr : ∀ q ∈ xSR, Cond.stringRef q.1 q.2.1 q.2.2.1 ∈ lw_tbl ∧ xtm q.2.2.2 = .string q.1 q.2.1 ∧ q.2.2.2 < 3 := by decide +kernel
theorem xq_l1 : Cond.laysStatic "java/lang/String" "COMPACT_STRINGS" "Z" ∈ lw_tbl := by decide +kernel
theorem xq_l2 : Cond.laysStatic "jdk/internal/util/Preconditions" "SIOOBE_FORMATTER" "Ljava/util/function/BiFunction;" ∈ lw_tbl := by decide +kernel
theorem xq_i1 : Cond.initialized "java/lang/String" ∈ lw_tbl := by decide +kernel
theorem xq_i2 : Cond.initialized "jdk/internal/util/Preconditions" ∈ lw_tbl := by decide +kernel
