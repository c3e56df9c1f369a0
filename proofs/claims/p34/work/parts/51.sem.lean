/-! what the typed run's words say -/
/-- where texts lie, the script's length; where the cells lie -/
abbrev zX : Type := (xX × Nat) × List Nat
def zi (ρ : List Int32) (a : zV) (z : Int) : Prop := (a.1 = 0 ∧ z = a.2.2) ∨ (a.1 = 1 ∧ ∃ y, ρ[a.2.1]? = some y ∧ z = y.toInt + a.2.2)
def zv (X : zX) (ρ : List Int32) (lm : List Int64) (a : zV) (v : Value) : Prop := match a.1 with
  | 0 => ∃ x : Int32, v = .int x ∧ x.toInt = a.2.2
  | 1 => ∃ (x y : Int32), ρ[a.2.1]? = some y ∧ v = .int x ∧ x.toInt = y.toInt + a.2.2
  | 2 => v = .null
  | 3 => ∃ q, X.2[a.2.1]? = some q ∧ v = .ref q
  | 4 => ∃ x : Int64, v = .long x ∧ x.toInt = a.2.2
  | 5 => ∃ x, lm[a.2.1]? = some x ∧ v = .long x
  | 6 => v = .ref X.1.1.1 ∧ ∃ y, ρ[a.2.1]? = some y ∧ y.toInt = X.1.2
  | 7 => v = .ref (X.1.1.2.1 a.2.1)
  | 8 => v = .ref (X.1.1.2.2 a.2.1)
  | 10 => v = .null ∨ ∃ q, v = .ref q
  | 11 => ∃ (x y : Int64), lm[a.2.1]? = some x ∧ y.toInt = a.2.2 ∧ v = .int (lg_cmp x y)
  | 12 => ∃ x : Int32, v = .int x
  | _ => False
def zsat (sy : zS) (ρ : List Int32) : Prop := sy.length = ρ.length ∧ ∀ (k : Nat) (e : zI) (x : Int32), sy[k]? = some e → ρ[k]? = some x → e.1 ≤ x.toInt ∧ x.toInt ≤ e.2.1 ∧ e.2.2.1 ≤ sy.length ∧ ∀ (p : Nat) (y : Int32), e.2.2.1 = p + 1 → ρ[p]? = some y → y.toInt + e.2.2.2 ≤ x.toInt
def zdig (m : Nat) (x : Int64) : Prop := ∀ i, i < m → x.toUInt64.toNat / 32 ^ i % 32 ≤ 26
def zlong (e : zJ) (x : Int64) : Prop := (match e.1 with
  | 0 => zdig e.2.1 x
  | 1 => 0 ≤ x.toInt ∧ x.toInt ≤ 26
  | 2 => ∃ y, x = y * 32 ∧ zdig e.2.1 y
  | 3 => 0 ≤ x.toInt ∧ x.toInt ≤ 31
  | _ => False) ∧ (∀ c ∈ e.2.2.1, x.toInt = c) ∧ ∀ c ∈ e.2.2.2, x.toInt ≠ c
def zsatL (ly : List zJ) (lm : List Int64) : Prop := xx_2 zlong ly lm
theorem zv_int {X : zX} {ρ : List Int32} {lm : List Int64} {a : zV} {v : Value} (hc : zc_i a = true) (h : zv X ρ lm a v) : ∃ x : Int32, v = .int x ∧ zi ρ a x.toInt := by
  obtain ⟨t, n, c⟩ := a
  unfold zc_i at hc
  rcases Bool.or_eq_true_iff.mp hc with q | q
  · have e : t = 0 := Nat.eq_of_beq_eq_true q
    subst e
    obtain ⟨x, h1, h2⟩ := h
    exact ⟨x, h1, Or.inl ⟨rfl, h2⟩⟩
  · have e : t = 1 := Nat.eq_of_beq_eq_true q
    subst e
    obtain ⟨x, y, h1, h2, h3⟩ := h
    exact ⟨x, h2, Or.inr ⟨rfl, y, h1, h3⟩⟩
theorem zv_of_zi {X : zX} {ρ : List Int32} {lm : List Int64} {a : zV} {x : Int32} (h : zi ρ a x.toInt) : zv X ρ lm a (.int x) := by
  obtain ⟨t, n, c⟩ := a
  rcases h with ⟨h1, h2⟩ | ⟨h1, y, h2, h3⟩
  · have h1' : t = 0 := h1
    subst h1'
    exact ⟨x, rfl, h2⟩
  · have h1' : t = 1 := h1
    subst h1'
    exact ⟨x, y, h2, rfl, h3⟩
theorem zi_c {ρ : List Int32} {a : zV} {z : Int} (h : zi ρ a z) : zc_i a = true := by
  obtain ⟨t, n, c⟩ := a
  rcases h with ⟨h1, h2⟩ | ⟨h1, y, h2, h3⟩
  · have h1' : t = 0 := h1
    subst h1'
    rfl
  · have h1' : t = 1 := h1
    subst h1'
    rfl
theorem zi_fun {ρ : List Int32} {a : zV} {z w : Int} (h : zi ρ a z) (k : zi ρ a w) : z = w := by
  rcases h with ⟨h1, h2⟩ | ⟨h1, y, h2, h3⟩
  · rcases k with ⟨k1, k2⟩ | ⟨k1, _, k2, k3⟩
    · rw [h2, k2]
    · rw [h1] at k1; cases k1
  · rcases k with ⟨k1, k2⟩ | ⟨k1, u, k2, k3⟩
    · rw [h1] at k1; cases k1
    · rw [h2] at k2
      cases k2
      rw [h3, k3]
theorem zi_mono {ρ ρ' : List Int32} (e : xx_e ρ ρ') {a : zV} {z : Int} (h : zi ρ a z) : zi ρ' a z := by
  rcases h with h | ⟨h1, y, h2, h3⟩
  · exact Or.inl h
  · exact Or.inr ⟨h1, y, xx_e_get e h2, h3⟩
theorem zv_mono {X : zX} {ρ ρ' : List Int32} {lm lm' : List Int64} (e : xx_e ρ ρ') (e' : xx_e lm lm') {a : zV} {v : Value} (h : zv X ρ lm a v) : zv X ρ' lm' a v := by
  unfold zv at h ⊢
  split at h
  · exact h
  · obtain ⟨x, y, h1, h2⟩ := h
    exact ⟨x, y, xx_e_get e h1, h2⟩
  · exact h
  · exact h
  · exact h
  · obtain ⟨x, h1, h2⟩ := h
    exact ⟨x, xx_e_get e' h1, h2⟩
  · obtain ⟨h0, x, h1, h2⟩ := h
    exact ⟨h0, x, xx_e_get e h1, h2⟩
  all_goals first | exact h | exact absurd h id | (obtain ⟨x, y, h1, h2, h3⟩ := h; exact ⟨x, y, xx_e_get e' h1, h2, h3⟩)
/-- the tag is known -/
theorem zv_tag {X : zX} {ρ : List Int32} {lm : List Int64} {a : zV} {v : Value} {t : Nat} (hc : Nat.beq a.1 t = true) (h : zv X ρ lm a v) : zv X ρ lm (t, a.2.1, a.2.2) v := by
  obtain ⟨t', n, c⟩ := a
  have e : t' = t := Nat.eq_of_beq_eq_true hc
  subst e
  exact h
theorem zv_l {X : zX} {ρ : List Int32} {lm : List Int64} {a : zV} {v : Value} (hc : zc_l a = true) (h : zv X ρ lm a v) : ∃ x, v = .long x := by
  unfold zc_l at hc
  rcases Bool.or_eq_true_iff.mp hc with q | q
  · obtain ⟨x, h1, -⟩ := zv_tag q h
    exact ⟨x, h1⟩
  · obtain ⟨x, -, h1⟩ := zv_tag q h
    exact ⟨x, h1⟩
theorem zv_r {X : zX} {ρ : List Int32} {lm : List Int64} {a : zV} {v : Value} (hc : zc_r a = true) (h : zv X ρ lm a v) : ∃ q, v = .ref q := by
  unfold zc_r at hc
  rcases Bool.or_eq_true_iff.mp hc with q | q
  · obtain ⟨x, -, h1⟩ := zv_tag q h
    exact ⟨x, h1⟩
  rcases Bool.or_eq_true_iff.mp q with q | q
  · exact ⟨_, (zv_tag q h).1⟩
  rcases Bool.or_eq_true_iff.mp q with q | q
  · exact ⟨_, zv_tag q h⟩
  · exact ⟨_, zv_tag q h⟩
theorem zv_cat {X : zX} {ρ : List Int32} {lm : List Int64} {a : zV} {v : Value} (h : zv X ρ lm a v) : v.category = if zc_l a = true then 2 else 1 := by
  obtain ⟨t, n, c⟩ := a
  unfold zv at h
  split at h
  all_goals first
    | exact absurd h id
    | (rename_i q; have q' : t = _ := q; subst q'; first
        | (rw [h]; rfl)
        | (obtain ⟨x, e1, e2⟩ := h; rw [e1]; rfl)
        | (obtain ⟨x, e1, e2⟩ := h; rw [e2]; rfl)
        | (obtain ⟨x, y, e1, e2, e3⟩ := h; rw [e2]; rfl)
        | (obtain ⟨x, y, e1, e2, e3⟩ := h; rw [e3]; rfl)
        | (obtain ⟨x, e1⟩ := h; rw [e1]; rfl)
        | (rw [h.1]; rfl)
        | (rcases h with e | ⟨x, e⟩ <;> rw [e] <;> rfl))
theorem zv_not9 {X : zX} {ρ : List Int32} {lm : List Int64} {a : zV} {v : Value} (h : zv X ρ lm a v) : a.1 ≠ 9 := by
  intro e
  unfold zv at h
  rw [e] at h
  exact h
theorem zsat_at {sy : zS} {ρ : List Int32} (hs : zsat sy ρ) {k : Nat} {e : zI} (h : sy[k]? = some e) : ∃ x, ρ[k]? = some x := by
  have h1 := (List.getElem?_eq_some_iff.mp h).1
  rw [hs.1] at h1
  exact ⟨ρ[k], List.getElem?_eq_getElem h1⟩
/-- a range -/
theorem zk_rng_i {sy : zS} {ρ : List Int32} {a : zV} {k : Int → Int → Bool} (h : zk_rng sy a k = true) (hs : zsat sy ρ) : ∃ z lo hi, zi ρ a z ∧ lo ≤ z ∧ z ≤ hi ∧ k lo hi = true := by
  unfold zk_rng at h
  cases hc : Nat.beq a.1 0 with
  | true =>
    rw [hc] at h
    exact ⟨a.2.2, a.2.2, a.2.2, Or.inl ⟨Nat.eq_of_beq_eq_true hc, rfl⟩, Int.le_refl _, Int.le_refl _, h⟩
  | false =>
    rw [hc, cond_false] at h
    obtain ⟨h1, h2⟩ := zcd h rfl
    obtain ⟨e, h3, h4⟩ := zk_nth_ok h2
    rw [zf_eq, zf_eq] at h4
    obtain ⟨x, h5⟩ := zsat_at hs h3
    obtain ⟨b1, b2, -⟩ := hs.2 _ _ _ h3 h5
    exact ⟨x.toInt + a.2.2, _, _, Or.inr ⟨Nat.eq_of_beq_eq_true h1, x, h5, rfl⟩, by omega, by omega, h4⟩
theorem zk_rng_ok {X : zX} {sy : zS} {ρ : List Int32} {lm : List Int64} {a : zV} {v : Value} {k : Int → Int → Bool} (h : zk_rng sy a k = true) (hs : zsat sy ρ) (hv : zv X ρ lm a v) : ∃ (x : Int32) (lo hi : Int), v = .int x ∧ zi ρ a x.toInt ∧ lo ≤ x.toInt ∧ x.toInt ≤ hi ∧ k lo hi = true := by
  obtain ⟨z, lo, hi, h1, h2, h3, h4⟩ := zk_rng_i h hs
  obtain ⟨x, e1, e2⟩ := zv_int (zi_c h1) hv
  rw [zi_fun h1 e2] at h2 h3
  exact ⟨x, lo, hi, e1, e2, h2, h3, h4⟩
theorem zsat_push {sy : zS} {ρ : List Int32} (hs : zsat sy ρ) {e : zI} {x : Int32} (h1 : e.1 ≤ x.toInt) (h2 : x.toInt ≤ e.2.1) (h4 : e.2.2.1 ≤ sy.length) (h3 : ∀ (p : Nat) (y : Int32), e.2.2.1 = p + 1 → ρ[p]? = some y → y.toInt + e.2.2.2 ≤ x.toInt) : zsat (sy ++ [e]) (ρ ++ [x]) := by
  have e1 : [e].length = 1 := rfl
  refine ⟨by rw [List.length_append, List.length_append, hs.1]; rfl, fun k e' x' q1 q2 => ?_⟩
  by_cases hk : k < sy.length
  · rw [List.getElem?_append_left hk] at q1
    rw [List.getElem?_append_left (by rw [← hs.1]; exact hk)] at q2
    obtain ⟨b1, b2, b4, b3⟩ := hs.2 _ _ _ q1 q2
    refine ⟨b1, b2, by rw [List.length_append]; omega, fun p y r1 r2 => b3 p y r1 ?_⟩
    rw [List.getElem?_append_left (by rw [← hs.1]; omega)] at r2
    exact r2
  · have hk2 : k = sy.length := by
      have := (List.getElem?_eq_some_iff.mp q1).1
      rw [List.length_append] at this
      omega
    subst hk2
    rw [List.getElem?_append_right (Nat.le_refl _), Nat.sub_self] at q1
    rw [hs.1, List.getElem?_append_right (Nat.le_refl _), Nat.sub_self] at q2
    cases q1
    cases q2
    refine ⟨h1, h2, by rw [List.length_append]; omega, fun p y r1 r2 => h3 p y r1 ?_⟩
    rw [List.getElem?_append_left (by rw [← hs.1]; omega)] at r2
    exact r2
theorem zk_fresh_ok {sy : zS} {ρ : List Int32} {lo hi : Int} {k : zV → zS → Bool} (h : zk_fresh sy lo hi k = true) (hs : zsat sy ρ) {x : Int32} (h1 : lo ≤ x.toInt) (h2 : x.toInt ≤ hi) : ∃ a sy' ρ', k a sy' = true ∧ xx_e ρ ρ' ∧ zsat sy' ρ' ∧ zi ρ' a x.toInt := by
  unfold zk_fresh at h
  cases hc : zle hi lo with
  | true =>
    rw [hc] at h
    have := zle_ok.mp hc
    exact ⟨_, _, ρ, h, xx_e_rf _, hs, Or.inl ⟨rfl, by show x.toInt = lo; omega⟩⟩
  | false =>
    rw [hc, cond_false] at h
    have h3 := zk_push_ok h
    refine ⟨_, _, ρ ++ [x], h3, xx_e_one _ _, zsat_push hs h1 h2 (Nat.zero_le _) (fun p y r1 _ => by cases r1), Or.inr ⟨rfl, x, ?_, ?_⟩⟩
    · show (ρ ++ [x])[0 + sy.length]? = some x
      rw [Nat.zero_add, hs.1]
      simp
    · show x.toInt = x.toInt + 0
      omega
theorem zsat_set {sy : zS} {ρ : List Int32} (hs : zsat sy ρ) {n : Nat} {e : zI} {x : Int32} (hx : ρ[n]? = some x) (h1 : e.1 ≤ x.toInt) (h2 : x.toInt ≤ e.2.1) (h4 : e.2.2.1 ≤ sy.length) (h3 : ∀ (p : Nat) (y : Int32), e.2.2.1 = p + 1 → ρ[p]? = some y → y.toInt + e.2.2.2 ≤ x.toInt) : zsat (sy.set n e) ρ := by
  refine ⟨by rw [List.length_set]; exact hs.1, fun k e' x' q1 q2 => ?_⟩
  rw [List.length_set]
  by_cases hk : k = n
  · subst hk
    have hl : k < sy.length := by rw [hs.1]; exact (List.getElem?_eq_some_iff.mp hx).1
    rw [List.getElem?_set_self hl] at q1
    cases q1
    rw [hx] at q2
    cases q2
    exact ⟨h1, h2, h4, h3⟩
  · rw [List.getElem?_set_ne (fun e => hk e.symm)] at q1
    exact hs.2 k e' x' q1 q2
theorem zk_put_ok {sy : zS} {ρ : List Int32} {a : zV} {iv : Int × Int} {k : zS → Bool} {z : Int} (h : zk_put sy a iv k = true) (hs : zsat sy ρ) (ha : zi ρ a z) (h1 : iv.1 ≤ z) (h2 : z ≤ iv.2) : ∃ sy', k sy' = true ∧ zsat sy' ρ := by
  unfold zk_put at h
  cases hc : Nat.beq a.1 1 with
  | false =>
    rw [hc] at h
    exact ⟨sy, h, hs⟩
  | true =>
    rw [hc, cond_true] at h
    obtain ⟨e, h3, h4⟩ := zk_nth_ok h
    rw [zf_eq, zf_eq] at h4
    obtain ⟨h5, h6⟩ := zk_set_ok h4
    rcases ha with ⟨q, -⟩ | ⟨-, y, q1, q2⟩
    · rw [q] at hc; cases hc
    obtain ⟨b1, b2, b4, b3⟩ := hs.2 _ _ _ h3 q1
    exact ⟨_, h6, zsat_set hs q1 (show iv.1 - a.2.2 ≤ y.toInt by omega) (show y.toInt ≤ iv.2 - a.2.2 by omega) b4 b3⟩
theorem zk_link_ok {sy : zS} {ρ : List Int32} {a b : zV} {dl : Int} {k : zS → Bool} {z w : Int} (h : zk_link sy a b dl k = true) (hs : zsat sy ρ) (ha : zi ρ a z) (hb : zi ρ b w) (h1 : z + dl ≤ w) : ∃ sy', k sy' = true ∧ zsat sy' ρ := by
  unfold zk_link at h
  cases hc : and (Nat.beq a.1 1) (and (Nat.beq b.1 1) (not (Nat.beq a.2.1 b.2.1))) with
  | false =>
    rw [hc] at h
    exact ⟨sy, h, hs⟩
  | true =>
    rw [hc, cond_true] at h
    have c1 := xan hc
    have c2 := xan c1.2
    obtain ⟨e, h3, h4⟩ := zk_nth_ok h
    rw [zf_eq] at h4
    obtain ⟨h5, h6⟩ := zk_set_ok h4
    rcases ha with ⟨q, -⟩ | ⟨-, y, q1, q2⟩
    · rw [q] at c1; exact absurd c1.1 (by decide)
    rcases hb with ⟨q, -⟩ | ⟨-, u, r1, r2⟩
    · rw [q] at c2; exact absurd c2.1 (by decide)
    obtain ⟨b1, b2, b4, b3⟩ := hs.2 _ _ _ h3 r1
    refine ⟨_, h6, zsat_set hs r1 b1 b2 ?_ (fun p t t1 t2 => ?_)⟩
    · show a.2.1 + 1 ≤ sy.length
      rw [hs.1]
      exact (List.getElem?_eq_some_iff.mp q1).1
    · have e1 : a.2.1 = p := by
        have : a.2.1 + 1 = p + 1 := t1
        omega
      subst e1
      rw [q1] at t2
      cases t2
      show y.toInt + (a.2.2 + dl - b.2.2) ≤ u.toInt
      omega
theorem zor {a b : Bool} (h : or a b = true) : a = true ∨ b = true := Bool.or_eq_true_iff.mp h
theorem zge_ok {sy : zS} {ρ : List Int32} (hs : zsat sy ρ) : ∀ {n : Nat} {a b : zV} {dl w : Int}, zge sy n a b dl = true → zi ρ b w → ∃ z, zi ρ a z ∧ w + dl ≤ z
  | 0, _, _, _, _, h, _ => nomatch (show false = true from h)
  | n + 1, a, b, dl, w, h, hb => by
    rcases zor h with h | h
    · obtain ⟨z, la, ha, h1, h2, h3, h4⟩ := zk_rng_i h hs
      obtain ⟨w', lb, hb', k1, k2, k3, k4⟩ := zk_rng_i h4 hs
      rw [zi_fun k1 hb] at k2 k3
      have := zle_ok.mp k4
      exact ⟨z, h1, by omega⟩
    rcases zor h with h | h
    · have c1 := xan h
      have c2 := xan c1.2
      have c3 := xan c2.2
      rcases hb with ⟨q, -⟩ | ⟨-, u, r1, r2⟩
      · rw [q] at c2; exact absurd c2.1 (by decide)
      have := zle_ok.mp c3.2
      refine ⟨u.toInt + a.2.2, Or.inr ⟨Nat.eq_of_beq_eq_true c1.1, u, by rw [Nat.eq_of_beq_eq_true c3.1]; exact r1, rfl⟩, by omega⟩
    · have c1 := xan h
      obtain ⟨e, h3, h4⟩ := zk_nth_ok c1.2
      cases hz : Nat.beq e.2.2.1 0 with
      | true => rw [hz] at h4; cases h4
      | false =>
        rw [hz, cond_false, zf_eq] at h4
        obtain ⟨z, k1, k2⟩ := zge_ok hs h4 hb
        obtain ⟨x, h5⟩ := zsat_at hs h3
        obtain ⟨b1, b2, b4, b3⟩ := hs.2 _ _ _ h3 h5
        rcases k1 with ⟨q, -⟩ | ⟨-, y, q1, q2⟩
        · cases q
        have hp : e.2.2.1 = Nat.pred e.2.2.1 + 1 := by
          cases he : e.2.2.1 with
          | zero => rw [he] at hz; cases hz
          | succ m => rfl
        have := b3 _ y hp q1
        have q2' : z = y.toInt + (e.2.2.2 + a.2.2) := q2
        exact ⟨x.toInt + a.2.2, Or.inr ⟨Nat.eq_of_beq_eq_true c1.1, x, h5, rfl⟩, by omega⟩
/-! places -/
def zat (e : va_E) (j : Nat) : Option Value := match e with
  | .inr (_, fs) => fs[j]?
  | .inl (_, n, .inl f) => if j < n then some (.int (f j)) else none
  | .inl (_, n, .inr (.inl f)) => if j < n then some (.long (f j)) else none
  | _ => none
/-- a place is written -/
def zw (e : va_E) (j : Nat) (v : Value) : va_E := match e, v with
  | .inr (ci, fs), v => .inr (ci, fs.set j v)
  | .inl (c, n, .inl f), .int x => .inl (c, n, .inl (upd f j x))
  | .inl (c, n, .inr (.inl f)), .long x => .inl (c, n, .inr (.inl (vp_updL f j x)))
  | e, _ => e
theorem zat_o {e : va_E} {j i : Nat} {v : Value} (h : i ≠ j) : zat (zw e j v) i = zat e i := by
  unfold zw
  split
  · show (List.set _ _ _)[i]? = _
    rw [List.getElem?_set_ne (fun q => h q.symm)]
    rfl
  · show (if i < _ then some (Value.int (upd _ j _ i)) else none) = _
    rw [pk_un h]
    rfl
  · show (if i < _ then some (Value.long (vp_updL _ j _ i)) else none) = _
    rw [pk_uLn h]
    rfl
  · rfl
def zfit (X : zX) (t : zT) (v : Value) : Prop := match t.1 with
  | 0 => ∃ x : Int32, v = .int x ∧ t.2.1 ≤ x.toInt ∧ x.toInt ≤ t.2.2
  | 1 => ∃ q, X.2[t.2.1.toNat]? = some q ∧ v = .ref q
  | 2 => v = .null ∨ ∃ q, v = .ref q
  | 3 => ∃ x, v = .long x ∧ zdig t.2.1.toNat x
  | _ => False
def zspec (y : zY) (j : Nat) : Option zT := match y with
  | .inl o => o.2[j]?
  | .inr r => if j < r.2.1 then r.2.2[j % r.2.2.length]? else none
def zcell (g : yG) (X : zX) (y : zY) (e : va_E) : Prop := (match y with
  | .inl o => ∃ fs, e = .inr (o.1, fs) ∧ fs.length = o.2.length
  | .inr r => ∃ cA, (cA, r.1) ∈ g.2 ∧ r.2.1 < 2 ^ 31 ∧ ((∃ f, e = .inl (cA, r.2.1, .inl f) ∧ xh_kind r.1 < 2) ∨ ∃ f, e = .inl (cA, r.2.1, .inr (.inl f)) ∧ xh_kind r.1 = 2)) ∧ ∀ (j : Nat) (t : zT) (v : Value), zspec y j = some t → zat e j = some v → zfit X t v
/-- the kinds, twelve to a row -/
def zsp (SP : List (List zY)) (k : Nat) : Option zY := (SP[k / 12]?).bind fun c => c[k % 12]?
def zTw (g : yG) (SP : List (List zY)) (X : zX) (ws : va_W) : Prop := X.1 = (g.1.2.1, g.1.2.2.2.2.1) ∧ X.2 = ws.map Prod.fst ∧ ∀ (k : Nat) (y : zY) (p : Nat × va_E), zsp SP k = some y → ws[k]? = some p → zcell g X y p.2
/-- places of md -/
def zP (ρ : List Int32) (md : zM) (k j : Nat) : Prop := ∃ m ∈ md, m.1 = k ∧ ∃ lo hi, zi ρ m.2.1 lo ∧ zi ρ m.2.2 hi ∧ lo ≤ (j : Int) ∧ (j : Int) ≤ hi
abbrev zPl : Type := Nat → Nat → Prop
/-- what is known of the world, from 1000 on: two numbers, the cells -/
abbrev zJp : Type := Nat → Int → Int → va_W → Prop
def zmd (md : zM) (P : zPl) (ρ0 ρ : List Int32) : Prop := xx_e ρ0 ρ ∧ ∀ m ∈ md, ∃ lo hi, zi ρ m.2.1 lo ∧ zi ρ m.2.2 hi ∧ ∀ j : Nat, lo ≤ (j : Int) → (j : Int) ≤ hi → P m.1 j
theorem zmd_ext {md : zM} {P : zPl} {ρ0 ρ ρ' : List Int32} (e : xx_e ρ ρ') (h : zmd md P ρ0 ρ) : zmd md P ρ0 ρ' := ⟨xx_e_tr h.1 e, fun m hm => by
  obtain ⟨lo, hi, h1, h2, h3⟩ := h.2 m hm
  exact ⟨lo, hi, zi_mono e h1, zi_mono e h2, h3⟩⟩
theorem zmd_use {md : zM} {P : zPl} {ρ0 ρ : List Int32} (h : zmd md P ρ0 ρ) {k j : Nat} (hj : zP ρ md k j) : P k j := by
  obtain ⟨m, hm, rfl, lo, hi, h1, h2, h3, h4⟩ := hj
  obtain ⟨lo', hi', k1, k2, k3⟩ := h.2 m hm
  rw [zi_fun k1 h1, zi_fun k2 h2] at k3
  exact k3 j h3 h4
def zag (P : zPl) (ws ws' : va_W) : Prop := ws'.map Prod.fst = ws.map Prod.fst ∧ ∀ (k : Nat) (p p' : Nat × va_E), ws[k]? = some p → ws'[k]? = some p' → ∀ j, ¬ P k j → zat p'.2 j = zat p.2 j
theorem zag_rf (P : zPl) (ws : va_W) : zag P ws ws := ⟨rfl, fun k p p' h h' j _ => by rw [h] at h'; cases h'; rfl⟩
theorem zag_tr {P : zPl} {a b c : va_W} (h : zag P a b) (k : zag P b c) : zag P a c := by
  refine ⟨k.1.trans h.1, fun i p p' h1 h2 j hj => ?_⟩
  have hl : i < b.length := by
    have := (List.getElem?_eq_some_iff.mp h1).1
    have e := congrArg List.length h.1
    rw [List.length_map, List.length_map] at e
    omega
  have e1 := h.2 i p _ h1 (List.getElem?_eq_getElem hl) j hj
  have e2 := k.2 i _ p' (List.getElem?_eq_getElem hl) h2 j hj
  rw [e2, e1]
theorem zag_sub {P P' : zPl} (hs : ∀ k j, P k j → P' k j) {a b : va_W} (h : zag P a b) : zag P' a b := ⟨h.1, fun k p p' h1 h2 j hj => h.2 k p p' h1 h2 j (fun q => hj (hs k j q))⟩
theorem zag_at {P : zPl} {a b : va_W} (h : zag P a b) {k : Nat} {p : Nat × va_E} (hp : a[k]? = some p) : ∃ p', b[k]? = some p' ∧ p'.1 = p.1 ∧ ∀ j, ¬ P k j → zat p'.2 j = zat p.2 j := by
  have hl : k < b.length := by
    have := (List.getElem?_eq_some_iff.mp hp).1
    have e := congrArg List.length h.1
    rw [List.length_map, List.length_map] at e
    omega
  refine ⟨b[k], List.getElem?_eq_getElem hl, ?_, fun j hj => h.2 k p _ hp (List.getElem?_eq_getElem hl) j hj⟩
  have e1 : (b.map Prod.fst)[k]? = some b[k].1 := by rw [List.getElem?_map, List.getElem?_eq_getElem hl]; rfl
  have e2 : (a.map Prod.fst)[k]? = some p.1 := by rw [List.getElem?_map, hp]; rfl
  rw [h.1, e2] at e1
  exact (Option.some.inj e1).symm
def zfpP (m : Nat × Nat × Int × Int) (z w : Int) (j : Nat) : Prop := m.2.2.1 ≤ (j : Int) ∧ match m.2.1 with
  | 0 => (j : Int) ≤ m.2.2.2
  | 1 => (j : Int) < z
  | 2 => (j : Int) < w
  | 3 => (j : Int) ≠ z
  | 4 => z ≤ (j : Int) ∧ (j : Int) < w
  | _ => True
/-- what is known hangs on its places alone -/
def zJof (FP : List zFp) (J : zJp) : Prop := ∀ (id : Nat) (z w : Int) (fp : zFp) (P : zPl) (ws ws' : va_W), 1000 ≤ id → FP[id - 1000]? = some fp → zag P ws ws' → (∀ m ∈ fp, ∀ j : Nat, zfpP m z w j → ¬ P m.1 j) → J id z w ws → J id z w ws'
/-- and 1047 says what stands in the script -/
def zJok (g : yG) (FP : List zFp) (J : zJp) : Prop := zJof FP J ∧ ∀ (z w : Int) (ws : va_W), J 1047 z w ws ↔ 0 ≤ z ∧ w = (g.1.2.2.2.2.2 z.toNat).toInt
def zfa1 (X : zX) (J : zJp) (ρ : List Int32) (lm : List Int64) (ws : va_W) (f : Nat × zV × zV) : Prop := (1000 ≤ f.1 → ∃ z w, zi ρ f.2.1 z ∧ zi ρ f.2.2 w ∧ J f.1 z w ws) ∧ (f.1 < 1000 → ∃ p v z, ws[f.1]? = some p ∧ zi ρ f.2.1 z ∧ 0 ≤ z ∧ zat p.2 z.toNat = some v ∧ zv X ρ lm f.2.2 v)
def zfa (X : zX) (J : zJp) (ρ : List Int32) (lm : List Int64) (ws : va_W) (F : zF) : Prop := ∀ f ∈ F, zfa1 X J ρ lm ws f
theorem zfa1_mono {X : zX} {J : zJp} {ρ ρ' : List Int32} {lm lm' : List Int64} (e : xx_e ρ ρ') (e' : xx_e lm lm') {ws : va_W} {f : Nat × zV × zV} (h : zfa1 X J ρ lm ws f) : zfa1 X J ρ' lm' ws f := by
  refine ⟨fun hf => ?_, fun hf => ?_⟩
  · obtain ⟨z, w, h1, h2, h3⟩ := h.1 hf
    exact ⟨z, w, zi_mono e h1, zi_mono e h2, h3⟩
  · obtain ⟨p, v, z, h1, h2, h3, h4, h5⟩ := h.2 hf
    exact ⟨p, v, z, h1, zi_mono e h2, h3, h4, zv_mono e e' h5⟩
theorem zfa_mono {X : zX} {J : zJp} {ρ ρ' : List Int32} {lm lm' : List Int64} (e : xx_e ρ ρ') (e' : xx_e lm lm') {ws : va_W} {F : zF} (h : zfa X J ρ lm ws F) : zfa X J ρ' lm' ws F := fun f hf => zfa1_mono e e' (h f hf)
theorem zk_find_ok {F : zF} {r : Nat} {key : zV} {kt : zV → Bool} {kf : Bool} (h : zk_find F r key kt kf = true) : (∃ a, (r, key, a) ∈ F ∧ kt a = true) ∨ kf = true := by
  induction F with
  | nil => exact Or.inr h
  | cons f F ih =>
    have h' : cond (and (Nat.beq f.1 r) (zveq f.2.1 key)) (kt f.2.2) (zk_find F r key kt kf) = true := h
    cases hc : and (Nat.beq f.1 r) (zveq f.2.1 key) with
    | true =>
      rw [hc] at h'
      have c1 := xan hc
      obtain ⟨f1, f2, f3⟩ := f
      have e1 : f1 = r := Nat.eq_of_beq_eq_true c1.1
      have e2 : f2 = key := zveq_ok c1.2
      subst e1
      subst e2
      exact Or.inl ⟨f3, List.mem_cons_self, h'⟩
    | false =>
      rw [hc] at h'
      rcases ih h' with ⟨a, h1, h2⟩ | h1
      · exact Or.inl ⟨a, List.mem_cons_of_mem _ h1, h2⟩
      · exact Or.inr h1
theorem zapart_ok {sy : zS} {ρ : List Int32} {a b : zV} {z w : Int} (hs : zsat sy ρ) (h : zapart sy a b = true) (ha : zi ρ a z) (hb : zi ρ b w) : z ≠ w := by
  rcases zor h with h | h
  · obtain ⟨z', h1, h2⟩ := zge_ok hs h hb
    rw [zi_fun h1 ha] at h2
    omega
  · obtain ⟨z', h1, h2⟩ := zge_ok hs h ha
    rw [zi_fun h1 hb] at h2
    omega
theorem zfil_ok {t : Nat × zV × zV → Bool} {F : zF} {f : Nat × zV × zV} (h : f ∈ zfil t F) : f ∈ F ∧ t f = true := by
  induction F with
  | nil => exact absurd h List.not_mem_nil
  | cons a F ih =>
    have h' : f ∈ cond (t a) (a :: zfil t F) (zfil t F) := h
    cases hc : t a with
    | false =>
      rw [hc] at h'
      exact ⟨List.mem_cons_of_mem _ (ih h').1, (ih h').2⟩
    | true =>
      rw [hc] at h'
      rcases List.mem_cons.mp h' with rfl | h'
      · exact ⟨List.mem_cons_self, hc⟩
      · exact ⟨List.mem_cons_of_mem _ (ih h').1, (ih h').2⟩
theorem zsame_ok {sy : zS} {ρ : List Int32} {a b : zV} {z : Int} (hs : zsat sy ρ) (h : zsame sy a b = true) (ha : zi ρ a z) : zi ρ b z := by
  rcases zor h with q | q
  · rw [← zveq_ok q]; exact ha
  · have c := xan q
    obtain ⟨w, w1, w2⟩ := zge_ok hs c.2 ha
    obtain ⟨w', v1, v2⟩ := zge_ok hs c.1 w1
    rw [zi_fun v1 ha] at v2
    have : w = z := by omega
    rw [← this]
    exact w1
theorem zdis1_ok {sy : zS} {ρ : List Int32} {f : Nat × zV × zV} {r : Nat} {lo hi : zV} {m : Nat × Nat × Int × Int} {z w zl zh : Int} (hs : zsat sy ρ) (h : zdis1 sy f r lo hi m = true) (hz : zi ρ f.2.1 z) (hw : zi ρ f.2.2 w) (hl : zi ρ lo zl) (hh : zi ρ hi zh) (j : Nat) (hj : zfpP m z w j) : ¬ (r = m.1 ∧ zl ≤ (j : Int) ∧ (j : Int) ≤ zh) := by
  rintro ⟨rfl, h3, h4⟩
  obtain ⟨j1, j2⟩ := hj
  rcases zor h with qa | qa
  · rw [Nat.beq_refl] at qa
    cases qa
  rcases zor qa with qb | qb
  · obtain ⟨x, l, u, x1, x2, x3, x4⟩ := zk_rng_i qb hs
    rw [zi_fun x1 hh] at x2 x3
    have := zle_ok.mp x4
    omega
  obtain ⟨mc, mm, ml, mh⟩ := m
  cases h0 : Nat.beq mm 0 with
  | true =>
    rw [h0, cond_true] at qb
    have hq := qb
    have e : mm = 0 := Nat.eq_of_beq_eq_true h0
    subst e
    obtain ⟨x, l, u, x1, x2, x3, x4⟩ := zk_rng_i hq hs
    rw [zi_fun x1 hl] at x2 x3
    have a1 := zle_ok.mp x4
    have a2 : (j : Int) ≤ mh := j2
    have a3 : mh + 1 ≤ l := a1
    omega
  | false =>
  rw [h0, cond_false] at qb
  cases h1 : Nat.beq mm 1 with
  | true =>
    rw [h1, cond_true] at qb
    have hq := qb
    have e : mm = 1 := Nat.eq_of_beq_eq_true h1
    subst e
    have a2 : (j : Int) < z := j2
    obtain ⟨x, x1, x2⟩ := zge_ok hs hq hz
    rw [zi_fun x1 hl] at x2
    omega
  | false =>
  rw [h1, cond_false] at qb
  cases h2 : Nat.beq mm 2 with
  | true =>
    rw [h2, cond_true] at qb
    have hq := qb
    have e : mm = 2 := Nat.eq_of_beq_eq_true h2
    subst e
    have a2 : (j : Int) < w := j2
    obtain ⟨x, x1, x2⟩ := zge_ok hs hq hw
    rw [zi_fun x1 hl] at x2
    omega
  | false =>
  rw [h2, cond_false] at qb
  cases h3' : Nat.beq mm 3 with
  | true =>
    rw [h3', cond_true] at qb
    have hq := qb
    have e : mm = 3 := Nat.eq_of_beq_eq_true h3'
    subst e
    have a2 : (j : Int) ≠ z := j2
    have c := xan hq
    have e1 := zi_fun (zsame_ok hs c.1 hl) hz
    have e2 := zi_fun (zsame_ok hs c.2 hh) hz
    omega
  | false =>
  rw [h3', cond_false] at qb
  obtain ⟨h4', hq⟩ := zcd qb rfl
  have e : mm = 4 := Nat.eq_of_beq_eq_true h4'
  have a2 : z ≤ (j : Int) ∧ (j : Int) < w := by
    rw [show (mc, mm, ml, mh).2.1 = 4 from e] at j2
    exact j2
  rcases zor hq with qc | qc
  · obtain ⟨x, x1, x2⟩ := zge_ok hs qc hw
    rw [zi_fun x1 hl] at x2
    omega
  · obtain ⟨x, x1, x2⟩ := zge_ok hs qc hh
    rw [zi_fun x1 hz] at x2
    omega
/-- facts, behind what changes places of md alone -/
theorem zfa_keep {FP : List zFp} {X : zX} {J : zJp} {sy : zS} {ρ : List Int32} {lm : List Int64} {ws ws' : va_W} {md : zM} {F : zF} (hJ : zJof FP J) (hs : zsat sy ρ) (h : zfa X J ρ lm ws F) (ha : zag (zP ρ md) ws ws') : zfa X J ρ lm ws' (zfil (zkeep1 FP sy md) F) := fun f hf => by
  obtain ⟨h1, h2⟩ := zfil_ok hf
  unfold zkeep1 at h2
  refine ⟨fun hq => ?_, fun hq => ?_⟩
  · obtain ⟨z, w, k1, k2, k3⟩ := (h f h1).1 hq
    rw [Nat.ble_eq_true_of_le hq, cond_true] at h2
    obtain ⟨fp, g1, g2⟩ := zk_nth_ok h2
    refine ⟨z, w, k1, k2, hJ f.1 z w fp (zP ρ md) ws ws' hq g1 ha (fun m hm j b1 hP => ?_) k3⟩
    obtain ⟨m', hm', e1, lo, hi, q1, q2, q3, q4⟩ := hP
    exact zdis1_ok hs (zk_all_ok (zk_all_ok g2 m' hm') m hm) k1 k2 q1 q2 j b1 ⟨e1, q3, q4⟩
  · obtain ⟨p, v, z, k1, k2, k3, k4, k5⟩ := (h f h1).2 hq
    have hb : Nat.ble 1000 f.1 = false := by
      cases hz : Nat.ble 1000 f.1 with
      | false => rfl
      | true => exact absurd (Nat.le_of_ble_eq_true hz) (by omega)
    rw [hb, cond_false] at h2
    obtain ⟨p', g1, g2, g3⟩ := zag_at ha k1
    refine ⟨p', v, z, g1, k2, k3, ?_, k5⟩
    rw [g3 z.toNat (fun hP => ?_)]
    · exact k4
    · obtain ⟨m', hm', e1, lo, hi, q1, q2, q3, q4⟩ := hP
      have e2 : ((z.toNat : Nat) : Int) = z := by omega
      rw [e2] at q3 q4
      rcases zor (zk_all_ok h2 m' hm') with q | q
      · rw [e1, Nat.beq_refl] at q
        cases q
      · rcases zor q with q | q
        · obtain ⟨z', r1, r2⟩ := zge_ok hs q q2
          rw [zi_fun r1 k2] at r2
          omega
        · obtain ⟨z', r1, r2⟩ := zge_ok hs q k2
          rw [zi_fun r1 q1] at r2
          omega
theorem zmay_ok {sy : zS} {ρ : List Int32} {md : zM} {r : Nat} {lo hi : zV} {zl zh : Int} (hs : zsat sy ρ) (h : zmay sy md r lo hi = true) (hl : zi ρ lo zl) (hh : zi ρ hi zh) {j : Nat} (h1 : zl ≤ (j : Int)) (h2 : (j : Int) ≤ zh) (hw : ∀ m ∈ md, ∃ lo hi, zi ρ m.2.1 lo ∧ zi ρ m.2.2 hi) : zP ρ md r j := by
  obtain ⟨m, hm, q⟩ := zk_any_ok h
  have c1 := xan q
  have c2 := xan c1.2
  obtain ⟨lo', hi', w1, w2⟩ := hw m hm
  obtain ⟨z1, r1, r2⟩ := zge_ok hs c2.1 w1
  obtain ⟨z2, t1, t2⟩ := zge_ok hs c2.2 hh
  rw [zi_fun r1 hl] at r2
  rw [zi_fun t1 w2] at t2
  exact ⟨m, hm, Nat.eq_of_beq_eq_true c1.1, lo', hi', w1, w2, by omega, by omega⟩
theorem zmay_use {sy : zS} {ρ0 ρ : List Int32} {md : zM} {P : zPl} {r : Nat} {lo hi : zV} {zl zh : Int} (hs : zsat sy ρ) (hm : zmd md P ρ0 ρ) (h : zmay sy md r lo hi = true) (hl : zi ρ lo zl) (hh : zi ρ hi zh) {j : Nat} (h1 : zl ≤ (j : Int)) (h2 : (j : Int) ≤ zh) : P r j :=
  zmd_use hm (zmay_ok hs h hl hh h1 h2 (fun m hm' => by
    obtain ⟨a, b, h1, h2, -⟩ := hm.2 m hm'
    exact ⟨a, b, h1, h2⟩))
/-- a contract's places are among those of the run -/
theorem zsub_use {sy : zS} {ρ0 ρ : List Int32} {md md' : zM} {P : zPl} (hs : zsat sy ρ) (hm : zmd md' P ρ0 ρ) (h : zsub sy md md' = true) {k j : Nat} (hj : zP ρ md k j) : P k j := by
  obtain ⟨m, hm', rfl, lo, hi, h1, h2, h3, h4⟩ := hj
  exact zmay_use hs hm (zk_all_ok h m hm') h1 h2 h3 h4
