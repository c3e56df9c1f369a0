/-! what a state of the run says of a state of the machine -/
abbrev xX : Type := Nat × (Nat → Nat) × (Nat → Nat)
def xv (X : xX) (ρ : List Int32) (aw : List Nat) (a : xV) (v : Value) : Prop := match a.1 with
  | 0 => v = .int (Int32.ofNat a.2)
  | 1 => ∃ x, ρ[a.2]? = some x ∧ v = .int x
  | 2 => v = .null
  | 3 => ∃ q, aw[a.2]? = some q ∧ v = .ref q
  | 4 => v = .long (Int64.ofNat a.2)
  | 5 => ∃ x, v = .long x
  | 6 => v = .ref X.1
  | 7 => v = .ref (X.2.1 a.2)
  | 8 => v = .ref (X.2.2 a.2)
  | 10 => v = .null ∨ ∃ q, v = .ref q
  | _ => False
theorem xv_mono {X : xX} {ρ ρ' : List Int32} {aw aw' : List Nat} (h1 : xx_e ρ ρ') (h2 : xx_e aw aw') {a : xV} {v : Value} (h : xv X ρ aw a v) : xv X ρ' aw' a v := by
  unfold xv at h ⊢
  split at h
  · exact h
  · obtain ⟨x, e1, e2⟩ := h
    exact ⟨x, xx_e_get h1 e1, e2⟩
  · exact h
  · obtain ⟨x, e1, e2⟩ := h
    exact ⟨x, xx_e_get h2 e1, e2⟩
  all_goals first | exact h | exact absurd h id
/-- an int: a number that is known, or a symbol -/
theorem xv_i {X : xX} {ρ : List Int32} {aw : List Nat} {a : xV} {v : Value} (hc : xc_i a = true) (h : xv X ρ aw a v) : ∃ x, v = .int x := by
  obtain ⟨t, n⟩ := a
  unfold xc_i at hc
  rcases Bool.or_eq_true_iff.mp hc with q | q
  · have : t = 0 := Nat.eq_of_beq_eq_true q
    subst this
    exact ⟨_, h⟩
  · have : t = 1 := Nat.eq_of_beq_eq_true q
    subst this
    obtain ⟨x, -, e⟩ := h
    exact ⟨x, e⟩
theorem xv_0 {X : xX} {ρ : List Int32} {aw : List Nat} {a : xV} {v : Value} (hc : Nat.beq a.1 0 = true) (h : xv X ρ aw a v) : v = .int (Int32.ofNat a.2) := by
  obtain ⟨t, n⟩ := a
  have : t = 0 := Nat.eq_of_beq_eq_true hc
  subst this
  exact h
theorem xv_1 {X : xX} {ρ : List Int32} {aw : List Nat} {a : xV} {v : Value} (hc : Nat.beq a.1 1 = true) (h : xv X ρ aw a v) : ∃ x, ρ[a.2]? = some x ∧ v = .int x := by
  obtain ⟨t, n⟩ := a
  have : t = 1 := Nat.eq_of_beq_eq_true hc
  subst this
  exact h
theorem xv_3 {X : xX} {ρ : List Int32} {aw : List Nat} {a : xV} {v : Value} (hc : Nat.beq a.1 3 = true) (h : xv X ρ aw a v) : ∃ q, aw[a.2]? = some q ∧ v = .ref q := by
  obtain ⟨t, n⟩ := a
  have : t = 3 := Nat.eq_of_beq_eq_true hc
  subst this
  exact h
theorem xv_4 {X : xX} {ρ : List Int32} {aw : List Nat} {a : xV} {v : Value} (hc : Nat.beq a.1 4 = true) (h : xv X ρ aw a v) : v = .long (Int64.ofNat a.2) := by
  obtain ⟨t, n⟩ := a
  have : t = 4 := Nat.eq_of_beq_eq_true hc
  subst this
  exact h
theorem xv_6 {X : xX} {ρ : List Int32} {aw : List Nat} {a : xV} {v : Value} (hc : Nat.beq a.1 6 = true) (h : xv X ρ aw a v) : v = .ref X.1 := by
  obtain ⟨t, n⟩ := a
  have : t = 6 := Nat.eq_of_beq_eq_true hc
  subst this
  exact h
theorem xv_7 {X : xX} {ρ : List Int32} {aw : List Nat} {a : xV} {v : Value} (hc : Nat.beq a.1 7 = true) (h : xv X ρ aw a v) : v = .ref (X.2.1 a.2) := by
  obtain ⟨t, n⟩ := a
  have : t = 7 := Nat.eq_of_beq_eq_true hc
  subst this
  exact h
theorem xv_8 {X : xX} {ρ : List Int32} {aw : List Nat} {a : xV} {v : Value} (hc : Nat.beq a.1 8 = true) (h : xv X ρ aw a v) : v = .ref (X.2.2 a.2) := by
  obtain ⟨t, n⟩ := a
  have : t = 8 := Nat.eq_of_beq_eq_true hc
  subst this
  exact h
theorem xv_l {X : xX} {ρ : List Int32} {aw : List Nat} {a : xV} {v : Value} (hc : xc_l a = true) (h : xv X ρ aw a v) : ∃ x, v = .long x := by
  obtain ⟨t, n⟩ := a
  unfold xc_l at hc
  rcases Bool.or_eq_true_iff.mp hc with q | q
  · have : t = 4 := Nat.eq_of_beq_eq_true q
    subst this
    exact ⟨_, h⟩
  · have : t = 5 := Nat.eq_of_beq_eq_true q
    subst this
    exact h
theorem xv_r {X : xX} {ρ : List Int32} {aw : List Nat} {a : xV} {v : Value} (hc : xc_r a = true) (h : xv X ρ aw a v) : ∃ q, v = .ref q := by
  obtain ⟨t, n⟩ := a
  unfold xc_r at hc
  rcases Bool.or_eq_true_iff.mp hc with q | q
  · have : t = 3 := Nat.eq_of_beq_eq_true q
    subst this
    obtain ⟨x, -, e⟩ := h
    exact ⟨x, e⟩
  rcases Bool.or_eq_true_iff.mp q with q | q
  · have : t = 6 := Nat.eq_of_beq_eq_true q
    subst this
    exact ⟨_, h⟩
  rcases Bool.or_eq_true_iff.mp q with q | q
  · have : t = 7 := Nat.eq_of_beq_eq_true q
    subst this
    exact ⟨_, h⟩
  · have : t = 8 := Nat.eq_of_beq_eq_true q
    subst this
    exact ⟨_, h⟩
theorem xv_not9 {X : xX} {ρ : List Int32} {aw : List Nat} {a : xV} {v : Value} (h : xv X ρ aw a v) : a.1 ≠ 9 := by
  intro e
  unfold xv at h
  rw [e] at h
  exact h
/-- a value of one word -/
theorem xv_cat {X : xX} {ρ : List Int32} {aw : List Nat} {a : xV} {v : Value} (h : xv X ρ aw a v) : v.category = if xc_l a = true then 2 else 1 := by
  obtain ⟨t, n⟩ := a
  unfold xv at h
  split at h
  all_goals first
    | exact absurd h id
    | (rename_i q; have q' : t = _ := q; subst q'; first
        | (rw [h]; rfl)
        | (obtain ⟨x, e1, e2⟩ := h; rw [e2]; rfl)
        | (obtain ⟨x, e2⟩ := h; rw [e2]; rfl)
        | (rcases h with e | ⟨x, e⟩ <;> rw [e] <;> rfl))
def xsat (sy : xS) (ρ : List Int32) : Prop := xx_2 (fun (iv : Int × Int) (x : Int32) => iv.1 ≤ x.toInt ∧ x.toInt ≤ iv.2) sy ρ
theorem xfull_ok (x : Int32) : xs_full.1 ≤ x.toInt ∧ x.toInt ≤ xs_full.2 := by
  have h1 := Int32.le_toInt x
  have h2 := Int32.toInt_lt x
  show (-2147483648 : Int) ≤ x.toInt ∧ x.toInt ≤ 2147483647
  omega
theorem xfresh_ok {sy : xS} {ρ : List Int32} {iv : Int × Int} {k : xV → xS → xR} {r : List xO} (h : xh_fresh sy iv k = some r) (hs : xsat sy ρ) (x : Int32) (hx : iv.1 ≤ x.toInt ∧ x.toInt ≤ iv.2) (X : xX) (aw : List Nat) :
    ∃ sy' a, k a sy' = some r ∧ xsat sy' (ρ ++ [x]) ∧ xv X (ρ ++ [x]) aw a (.int x) ∧ xc_i a = true := by
  have h1 := xk_push_ok h
  refine ⟨_, _, h1, xx_2_app hs ⟨hx, trivial⟩, ⟨x, ?_, rfl⟩, rfl⟩
  have e := xx_2_len hs
  show (ρ ++ [x])[0 + sy.length]? = some x
  rw [Nat.zero_add, e]
  simp
theorem xrng_ok {X : xX} {sy : xS} {ρ : List Int32} {aw : List Nat} {a : xV} {v : Value} {iv : Int × Int} (h : xh_rng sy a = some iv) (hs : xsat sy ρ) (hv : xv X ρ aw a v) : ∃ x, v = .int x ∧ iv.1 ≤ x.toInt ∧ x.toInt ≤ iv.2 := by
  obtain ⟨t, n⟩ := a
  unfold xh_rng at h
  split at h
  · rename_i q
    have q' : t = 0 := q
    subst q'
    cases h
    exact ⟨_, hv, Int.le_refl _, Int.le_refl _⟩
  · rename_i q
    have q' : t = 1 := q
    subst q'
    obtain ⟨x, e1, e2⟩ := hv
    obtain ⟨y, e3, e4⟩ := xx_2_get hs h
    cases e1.symm.trans e3
    exact ⟨x, e2, e4⟩
  · cases h
theorem xcap_ok {iv : Int × Int} {x : Int32} (h : -2147483648 ≤ iv.1 → iv.2 ≤ 2147483647 → iv.1 ≤ x.toInt ∧ x.toInt ≤ iv.2) : (xh_cap iv).1 ≤ x.toInt ∧ x.toInt ≤ (xh_cap iv).2 := by
  unfold xh_cap
  split
  · rename_i q
    rw [Bool.and_eq_true, decide_eq_true_eq, decide_eq_true_eq] at q
    exact h q.1 q.2
  · exact xfull_ok x
def xgood (f : Int32 → Int32 → Int32) (g : Int × Int → Int × Int → Int × Int) : Prop := ∀ (a b : Int × Int) (x y : Int32), a.1 ≤ x.toInt → x.toInt ≤ a.2 → b.1 ≤ y.toInt → y.toInt ≤ b.2 → (g a b).1 ≤ (f x y).toInt ∧ (f x y).toInt ≤ (g a b).2
theorem xgood_any (f : Int32 → Int32 → Int32) : xgood f xg_any := fun _ _ _ _ _ _ _ _ => xfull_ok _
theorem xbmod {z : Int} (h1 : -2147483648 ≤ z) (h2 : z ≤ 2147483647) : z.bmod (2 ^ 32) = z := by
  rw [Int.bmod_def]
  split <;> omega
theorem xgood_add : xgood (fun x y => x + y) xg_add := by
  intro a b x y h1 h2 h3 h4
  refine xcap_ok (fun q1 q2 => ?_)
  have q1' : -2147483648 ≤ a.1 + b.1 := q1
  have q2' : a.2 + b.2 ≤ 2147483647 := q2
  have e : (x + y).toInt = x.toInt + y.toInt := by rw [Int32.toInt_add, xbmod (by omega) (by omega)]
  show a.1 + b.1 ≤ (x + y).toInt ∧ (x + y).toInt ≤ a.2 + b.2
  omega
theorem xgood_sub : xgood (fun x y => x - y) xg_sub := by
  intro a b x y h1 h2 h3 h4
  refine xcap_ok (fun q1 q2 => ?_)
  have q1' : -2147483648 ≤ a.1 - b.2 := q1
  have q2' : a.2 - b.1 ≤ 2147483647 := q2
  have e : (x - y).toInt = x.toInt - y.toInt := by rw [Int32.toInt_sub, xbmod (by omega) (by omega)]
  show a.1 - b.2 ≤ (x - y).toInt ∧ (x - y).toInt ≤ a.2 - b.1
  omega
/-- the two-operand operations -/
theorem xbin_ok {X : xX} {sy : xS} {ρ : List Int32} {aw : List Nat} {f : Nat → Nat → Nat} {F : Int32 → Int32 → Int32} {g : Int × Int → Int × Int → Int × Int} {b a : xV} {vb va : Value} {k : xV → xS → xR} {r : List xO} (hF : ∀ m n, Int32.ofNat (f m n) = F (Int32.ofNat m) (Int32.ofNat n)) (hg : xgood F g)
    (h : xh_bin f g b a sy k = some r) (hs : xsat sy ρ) (ha : xv X ρ aw a va) (hb : xv X ρ aw b vb) : ∃ x y c sy' ρ', va = .int x ∧ vb = .int y ∧ k c sy' = some r ∧ xx_e ρ ρ' ∧ xsat sy' ρ' ∧ xv X ρ' aw c (.int (F x y)) ∧ xc_i c = true := by
  unfold xh_bin at h
  cases hc : and (Nat.beq a.1 0) (Nat.beq b.1 0) with
  | true =>
    rw [hc] at h
    have hc' := (Bool.and_eq_true_iff).mp hc
    have e1 := xv_0 hc'.1 ha
    have e2 := xv_0 hc'.2 hb
    have h' : xx_f (f a.2 b.2) (fun n => k (0, n) sy) = some r := h
    rw [xx_f_eq] at h'
    exact ⟨_, _, _, sy, ρ, e1, e2, h', xx_e_rf _, hs, congrArg Value.int (hF _ _).symm, rfl⟩
  | false =>
    rw [hc] at h
    have h' : xh_binS g b a sy k = some r := h
    unfold xh_binS at h'
    split at h'
    · cases h'
    · rename_i ia q1
      split at h'
      · cases h'
      · rename_i ib q2
        obtain ⟨x, e1, b1, b2⟩ := xrng_ok q1 hs ha
        obtain ⟨y, e2, b3, b4⟩ := xrng_ok q2 hs hb
        obtain ⟨sy', c, g1, g2, g3, g4⟩ := xfresh_ok h' hs (F x y) (hg ia ib x y b1 b2 b3 b4) X aw
        exact ⟨x, y, c, sy', _, e1, e2, g1, xx_e_one _ _, g2, g3, g4⟩
