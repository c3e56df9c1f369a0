theorem xallb_cut {M : xM} (n : Nat) : ∀ {l : List xE}, xallb M (l.take n) = true → xallb M (l.drop n) = true → xallb M l = true := by
  induction n with
  | zero => intro l _ h; exact h
  | succ n ih =>
    intro l h1 h2
    cases l with
    | nil => rfl
    | cons e l =>
      have h1' : cond (xvb M e) (xallb M (l.take n)) false = true := h1
      show cond (xvb M e) (xallb M l) false = true
      cases hv : xvb M e with
      | false => rw [hv] at h1'; cases h1'
      | true => rw [hv] at h1'; exact ih h1' h2
theorem xva_t11 : xallb xm_312 (xt_312.drop 682) = true := xva_11
theorem xva_t10 : xallb xm_312 (xt_312.drop 620) = true := xallb_cut 62 xva_10 (by rw [List.drop_drop]; exact xva_t11)
theorem xva_t9 : xallb xm_312 (xt_312.drop 558) = true := xallb_cut 62 xva_9 (by rw [List.drop_drop]; exact xva_t10)
theorem xva_t8 : xallb xm_312 (xt_312.drop 496) = true := xallb_cut 62 xva_8 (by rw [List.drop_drop]; exact xva_t9)
theorem xva_t7 : xallb xm_312 (xt_312.drop 434) = true := xallb_cut 62 xva_7 (by rw [List.drop_drop]; exact xva_t8)
theorem xva_t6 : xallb xm_312 (xt_312.drop 372) = true := xallb_cut 62 xva_6 (by rw [List.drop_drop]; exact xva_t7)
theorem xva_t5 : xallb xm_312 (xt_312.drop 310) = true := xallb_cut 62 xva_5 (by rw [List.drop_drop]; exact xva_t6)
theorem xva_t4 : xallb xm_312 (xt_312.drop 248) = true := xallb_cut 62 xva_4 (by rw [List.drop_drop]; exact xva_t5)
theorem xva_t3 : xallb xm_312 (xt_312.drop 186) = true := xallb_cut 62 xva_3 (by rw [List.drop_drop]; exact xva_t4)
theorem xva_t2 : xallb xm_312 (xt_312.drop 124) = true := xallb_cut 62 xva_2 (by rw [List.drop_drop]; exact xva_t3)
theorem xva_t1 : xallb xm_312 (xt_312.drop 62) = true := xallb_cut 62 xva_1 (by rw [List.drop_drop]; exact xva_t2)
theorem xva_t0 : xallb xm_312 xt_312 = true := xallb_cut 62 xva_0 xva_t1
theorem xvm_312 : xmvb xm_312 = true := Bool.and_eq_true_iff.mpr ⟨xva_c, xva_t0⟩
