/-! fields, rows, new cells -/
theorem xkind0 {ty : FieldType} (h : Nat.beq (xh_kind ty) 0 = true) : ty = .int := by cases ty <;> first | rfl | cases h
theorem xkind1 {ty : FieldType} (h : Nat.beq (xh_kind ty) 1 = true) : ty = .byte ∨ ty = .boolean := by cases ty <;> first | exact Or.inl rfl | exact Or.inr rfl | cases h
theorem xkind2 {ty : FieldType} (h : Nat.beq (xh_kind ty) 2 = true) : ty = .long := by cases ty <;> first | rfl | cases h
theorem xgmod (w N i : Nat) : xx_g w N i % 2 ^ w = xx_g w N i := Nat.mod_mod _ _
theorem xrow_put {N n j v : Nat} {f : Nat → Int32} {x : Int32} (h : xrow (.inl N) n f) (hv : Int32.ofNat v = x) : xrow (.inl (xx_p 32 N j v)) n (upd f j x) := by
  intro i hi
  by_cases e : i = j
  · subst e
    rw [pk_us, xx_gp_same]
    show x = Int32.ofNat (v % 4294967296)
    rw [xx_n_mod, hv]
  · rw [pk_un e, xx_gp_other _ _ _ _ _ e]
    exact h i hi
theorem xrow_any (n : Nat) (f : Nat → Int32) : xrow (.inr xs_full) n f := fun _ _ => xfull_ok _
theorem xrowl_put {N n j v : Nat} {f : Nat → Int64} {x : Int64} (h : xrowl (.inl N) n f) (hv : Int64.ofNat v = x) : xrowl (.inl (xx_p 64 N j v)) n (vp_updL f j x) := by
  intro i hi
  by_cases e : i = j
  · subst e
    rw [pk_uLs, xx_gp_same]
    show x = Int64.ofNat (v % 18446744073709551616)
    rw [xx_l_mod, hv]
  · rw [pk_uLn e, xx_gp_other _ _ _ _ _ e]
    exact h i hi
theorem xcpy_ok (N0 : Nat) : ∀ (n sp dp N1 j : Nat), xx_g 32 (xh_cpy N0 n sp dp N1) j = if dp ≤ j ∧ j < dp + n then xx_g 32 N0 (sp + (j - dp)) else xx_g 32 N1 j
  | 0, sp, dp, N1, j => by
    rw [if_neg (by omega)]
    rfl
  | n + 1, sp, dp, N1, j => by
    have e : xh_cpy N0 (n + 1) sp dp N1 = xh_cpy N0 n (sp + 1) (dp + 1) (xx_p 32 N1 dp (xx_g 32 N0 sp)) := by
      show xx_f _ _ = _
      rw [xx_f_eq]
    rw [e, xcpy_ok N0 n (sp + 1) (dp + 1) _ j]
    by_cases h1 : dp + 1 ≤ j ∧ j < dp + 1 + n
    · rw [if_pos h1, if_pos (by omega), show sp + 1 + (j - (dp + 1)) = sp + (j - dp) by omega]
    · rw [if_neg h1]
      by_cases h2 : j = dp
      · subst h2
        rw [if_pos (by omega), xx_gp_same, xgmod, show sp + (j - j) = sp by omega]
      · rw [if_neg (by omega), xx_gp_other _ _ _ _ _ h2]
/-- what fits a type stays as it is in it -/
theorem xb01 {x : Int32} (h1 : 0 ≤ x.toInt) (h2 : x.toInt ≤ 1) : x = 0 ∨ x = 1 := by
  rcases (by omega : x.toInt = 0 ∨ x.toInt = 1) with h | h
  · exact Or.inl (Int32.toInt_inj.mp (by rw [h]; rfl))
  · exact Or.inr (Int32.toInt_inj.mp (by rw [h]; rfl))
theorem xwithin_ok {X : xX} {sy : xS} {ρ : List Int32} {aw : List Nat} {a : xV} {v : Value} {lo hi : Int} (h : xh_within sy a lo hi = true) (hs : xsat sy ρ) (hv : xv X ρ aw a v) : ∃ x, v = .int x ∧ lo ≤ x.toInt ∧ x.toInt ≤ hi := by
  unfold xh_within at h
  split at h
  · rename_i iv q
    obtain ⟨x, e, b1, b2⟩ := xrng_ok q hs hv
    rw [Bool.and_eq_true, decide_eq_true_eq, decide_eq_true_eq] at h
    exact ⟨x, e, by omega, by omega⟩
  · cases h
theorem xle32 {x y : Int32} (h : x.toInt ≤ y.toInt) : x ≤ y := Int32.le_iff_toInt_le.mpr h
theorem xfit_ok {X : xX} {sy : xS} {ρ : List Int32} {aw : List Nat} {a : xV} {v : Value} {ty : FieldType} (h : xh_fit (xh_tc ty) a sy = true) (hs : xsat sy ρ) (hv : xv X ρ aw a v) : narrow ty v = v ∧ fits ty v = true := by
  cases ty with
  | int =>
    obtain ⟨x, rfl⟩ := xv_i (show xc_i a = true from h) hv
    exact ⟨rfl, rfl⟩
  | boolean =>
    obtain ⟨x, rfl, b1, b2⟩ := xwithin_ok (show xh_within sy a 0 1 = true from h) hs hv
    rcases xb01 b1 b2 with rfl | rfl
    · exact ⟨by decide, by decide⟩
    · exact ⟨by decide, by decide⟩
  | byte =>
    obtain ⟨x, rfl, b1, b2⟩ := xwithin_ok (show xh_within sy a (-128) 127 = true from h) hs hv
    have e : x.toInt8.toInt32 = x := by
      apply Int32.toInt_inj.mp
      rw [Int8.toInt_toInt32, Int32.toInt_toInt8, Int.bmod_def]
      split <;> omega
    refine ⟨congrArg Value.int e, ?_⟩
    show (decide (-128 ≤ x) && decide (x ≤ 127)) = true
    rw [Bool.and_eq_true, decide_eq_true_eq, decide_eq_true_eq]
    exact ⟨xle32 (by rw [show (-128 : Int32).toInt = -128 from by decide]; exact b1), xle32 (by rw [show (127 : Int32).toInt = 127 from by decide]; exact b2)⟩
  | char =>
    obtain ⟨x, rfl, b1, b2⟩ := xwithin_ok (show xh_within sy a 0 65535 = true from h) hs hv
    have hn : narrow .char (.int x) = .int x := by
      obtain ⟨j, hj, rfl⟩ := nI_of (x := x) (by rw [Int32.lt_iff_toInt_lt, Int32.toInt_zero]; omega)
      have hj2 := nI_toInt hj
      have : j < 65536 := by omega
      show Value.int _ = Value.int _
      congr 1
      apply Int32.toBitVec_inj.mp
      apply BitVec.eq_of_toNat_eq
      simp [nI]
      omega
    refine ⟨hn, ?_⟩
    show (decide (0 ≤ x) && decide (x ≤ 65535)) = true
    rw [Bool.and_eq_true, decide_eq_true_eq, decide_eq_true_eq]
    exact ⟨xle32 (by rw [Int32.toInt_zero]; exact b1), xle32 (by rw [show (65535 : Int32).toInt = 65535 from by decide]; exact b2)⟩
  | short =>
    obtain ⟨x, rfl, b1, b2⟩ := xwithin_ok (show xh_within sy a (-32768) 32767 = true from h) hs hv
    have e : x.toInt16.toInt32 = x := by
      apply Int32.toInt_inj.mp
      rw [Int16.toInt_toInt32, Int32.toInt_toInt16, Int.bmod_def]
      split <;> omega
    refine ⟨congrArg Value.int e, ?_⟩
    show (decide (-32768 ≤ x) && decide (x ≤ 32767)) = true
    rw [Bool.and_eq_true, decide_eq_true_eq, decide_eq_true_eq]
    exact ⟨xle32 (by rw [show (-32768 : Int32).toInt = -32768 from by decide]; exact b1), xle32 (by rw [show (32767 : Int32).toInt = 32767 from by decide]; exact b2)⟩
  | long =>
    obtain ⟨x, rfl⟩ := xv_l (show xc_l a = true from h) hv
    exact ⟨rfl, rfl⟩
  | object C =>
    have h' : or (xc_r a) (Nat.beq a.1 2) = true := h
    rcases Bool.or_eq_true_iff.mp h' with q | q
    · obtain ⟨x, rfl⟩ := xv_r q hv
      exact ⟨rfl, rfl⟩
    · have : v = .null := by
        obtain ⟨t, n⟩ := a
        have e : t = 2 := Nat.eq_of_beq_eq_true q
        subst e
        exact hv
      subst this
      exact ⟨rfl, rfl⟩
  | array C =>
    have h' : or (xc_r a) (Nat.beq a.1 2) = true := h
    rcases Bool.or_eq_true_iff.mp h' with q | q
    · obtain ⟨x, rfl⟩ := xv_r q hv
      exact ⟨rfl, rfl⟩
    · have : v = .null := by
        obtain ⟨t, n⟩ := a
        have e : t = 2 := Nat.eq_of_beq_eq_true q
        subst e
        exact hv
      subst this
      exact ⟨rfl, rfl⟩
  | _ => cases h
