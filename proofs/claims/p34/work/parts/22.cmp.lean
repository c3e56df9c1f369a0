/-! forks -/
theorem xall_ok {α : Type} {k : α → xR} : ∀ {l : List α} {r : List xO}, xh_all l k = some r → ∀ o ∈ l, ∃ r', k o = some r' ∧ ∀ x ∈ r', x ∈ r
  | [], _, _, o, ho => absurd ho List.not_mem_nil
  | a :: l, r, h, o, ho => by
    unfold xh_all at h
    split at h
    · cases h
    · rename_i x hx
      split at h
      · cases h
      · rename_i y hy
        cases h
        rcases List.mem_cons.mp ho with rfl | ho
        · exact ⟨x, hx, fun z hz => List.mem_append_left _ hz⟩
        · obtain ⟨r', h1, h2⟩ := xall_ok hy o ho
          exact ⟨r', h1, fun z hz => List.mem_append_right _ (h2 z hz)⟩
theorem xput_ok {X : xX} {sy : xS} {ρ : List Int32} {aw : List Nat} {a : xV} {x : Int32} {iv : Int × Int} (hs : xsat sy ρ) (hv : xv X ρ aw a (.int x)) (hi : iv.1 ≤ x.toInt ∧ x.toInt ≤ iv.2) : xsat (xh_put sy a iv) ρ := by
  unfold xh_put
  split
  · rename_i q
    obtain ⟨t, n⟩ := a
    have q' : t = 1 := q
    subst q'
    obtain ⟨y, e1, e2⟩ := hv
    cases e2
    have h1 := xx_2_set hs n (a := iv) (b := x) hi
    have h2 : ρ.set n x = ρ := by
      apply List.ext_getElem?
      intro j
      by_cases hj : j = n
      · subst hj
        rw [List.getElem?_set_self (List.getElem?_eq_some_iff.mp e1).1, e1]
      · rw [List.getElem?_set_ne (fun e => hj e.symm)]
    rw [h2] at h1
    exact h1
  · exact hs
def xci (c : ClassFile.Cond) (x y : Int) : Prop := match c with
  | .eq => x = y
  | .ne => ¬ x = y
  | .lt => x < y
  | .ge => y ≤ x
  | .gt => y < x
  | .le => x ≤ y
theorem xcc_ok (c : ClassFile.Cond) (m n : Nat) : xh_cc c m n = true ↔ xci c (Int32.ofNat m).toInt (Int32.ofNat n).toInt := by
  have h1 := xo_toInt m
  have h2 := xo_toInt n
  cases c
  · show Nat.beq (xo m) (xo n) = true ↔ (_ : Int) = _
    rw [Nat.beq_eq]; omega
  · show (!(Nat.beq (xo m) (xo n))) = true ↔ ¬ (_ : Int) = _
    rw [Bool.not_eq_true', ← Bool.not_eq_true, Nat.beq_eq]; omega
  · show Nat.ble (xo m + 1) (xo n) = true ↔ (_ : Int) < _
    rw [Nat.ble_eq]; omega
  · show Nat.ble (xo n) (xo m) = true ↔ (_ : Int) ≤ _
    rw [Nat.ble_eq]; omega
  · show Nat.ble (xo n + 1) (xo m) = true ↔ (_ : Int) < _
    rw [Nat.ble_eq]; omega
  · show Nat.ble (xo m) (xo n) = true ↔ (_ : Int) ≤ _
    rw [Nat.ble_eq]; omega
/-- what the ranges say of a comparison -/
def xqok (P : Prop) (q : xQ) (x y : Int) : Prop := (P → q.1 = true ∧ (q.2.2.1.1 ≤ x ∧ x ≤ q.2.2.1.2) ∧ (q.2.2.2.1.1 ≤ y ∧ y ≤ q.2.2.2.1.2)) ∧ (¬ P → q.2.1 = true ∧ (q.2.2.2.2.1.1 ≤ x ∧ x ≤ q.2.2.2.2.1.2) ∧ (q.2.2.2.2.2.1 ≤ y ∧ y ≤ q.2.2.2.2.2.2))
theorem xflip_ok {P : Prop} {q : xQ} {x y : Int} (h : xqok P q x y) : xqok (¬ P) (xh_flip q) x y := ⟨fun hp => h.2 hp, fun hp => h.1 (Classical.byContradiction hp)⟩
theorem xlt_ok {a b : Int × Int} {x y : Int} (h1 : a.1 ≤ x) (h2 : x ≤ a.2) (h3 : b.1 ≤ y) (h4 : y ≤ b.2) : xqok (x < y) (xh_lt a b) x y := by
  refine ⟨fun hp => ⟨decide_eq_true (by omega), ⟨h1, ?_⟩, ⟨?_, h4⟩⟩, fun hp => ⟨decide_eq_true (by omega), ⟨?_, h2⟩, ⟨h3, ?_⟩⟩⟩
  · show x ≤ min a.2 (b.2 - 1); omega
  · show max b.1 (a.1 + 1) ≤ y; omega
  · show max a.1 b.1 ≤ x; omega
  · show y ≤ min b.2 a.2; omega
theorem xle_ok {a b : Int × Int} {x y : Int} (h1 : a.1 ≤ x) (h2 : x ≤ a.2) (h3 : b.1 ≤ y) (h4 : y ≤ b.2) : xqok (x ≤ y) (xh_le a b) x y := by
  refine ⟨fun hp => ⟨decide_eq_true (by omega), ⟨h1, ?_⟩, ⟨?_, h4⟩⟩, fun hp => ⟨decide_eq_true (by omega), ⟨?_, h2⟩, ⟨h3, ?_⟩⟩⟩
  · show x ≤ min a.2 b.2; omega
  · show max b.1 a.1 ≤ y; omega
  · show max a.1 (b.1 + 1) ≤ x; omega
  · show y ≤ min b.2 (a.2 - 1); omega
theorem xtrim_ok {a b : Int × Int} {x y : Int} (h1 : a.1 ≤ x) (h2 : x ≤ a.2) (h3 : b.1 ≤ y) (h4 : y ≤ b.2) (hn : ¬ x = y) : (xh_trim a b).1 ≤ x ∧ x ≤ (xh_trim a b).2 := by
  unfold xh_trim
  split
  · refine ⟨?_, ?_⟩
    · show (if a.1 = b.1 then a.1 + 1 else a.1) ≤ x
      split <;> omega
    · show x ≤ (if a.2 = b.1 then a.2 - 1 else a.2)
      split <;> omega
  · exact ⟨h1, h2⟩
theorem xeq_ok {a b : Int × Int} {x y : Int} (h1 : a.1 ≤ x) (h2 : x ≤ a.2) (h3 : b.1 ≤ y) (h4 : y ≤ b.2) : xqok (x = y) (xh_eq a b) x y := by
  refine ⟨fun hp => ⟨?_, ⟨?_, ?_⟩, ⟨?_, ?_⟩⟩, fun hp => ⟨?_, xtrim_ok h1 h2 h3 h4 hp, xtrim_ok h3 h4 h1 h2 (fun e => hp e.symm)⟩⟩
  · show (decide (a.1 ≤ b.2) && decide (b.1 ≤ a.2)) = true
    rw [Bool.and_eq_true, decide_eq_true_eq, decide_eq_true_eq]; omega
  · show max a.1 b.1 ≤ x; omega
  · show x ≤ min a.2 b.2; omega
  · show max a.1 b.1 ≤ y; omega
  · show y ≤ min a.2 b.2; omega
  · show (!(decide (a.1 = a.2) && decide (b.1 = b.2) && decide (a.1 = b.1))) = true
    rw [Bool.not_eq_true', ← Bool.not_eq_true, Bool.and_eq_true, Bool.and_eq_true, decide_eq_true_eq, decide_eq_true_eq, decide_eq_true_eq]; omega
theorem xcq_ok (c : ClassFile.Cond) {a b : Int × Int} {x y : Int} (h1 : a.1 ≤ x) (h2 : x ≤ a.2) (h3 : b.1 ≤ y) (h4 : y ≤ b.2) : xqok (xci c x y) (xh_cq c a b) x y := by
  cases c
  · exact xeq_ok h1 h2 h3 h4
  · exact xflip_ok (xeq_ok h1 h2 h3 h4)
  · exact xlt_ok h1 h2 h3 h4
  · have h := xflip_ok (xlt_ok h1 h2 h3 h4)
    exact ⟨fun hp => h.1 (by have hp' : y ≤ x := hp; omega), fun hp => h.2 (by have hp' : ¬ y ≤ x := hp; omega)⟩
  · have h := xflip_ok (xle_ok h1 h2 h3 h4)
    exact ⟨fun hp => h.1 (by have hp' : y < x := hp; omega), fun hp => h.2 (by have hp' : ¬ y < x := hp; omega)⟩
  · exact xle_ok h1 h2 h3 h4
theorem xboth_ok {a b : xR} {r : List xO} (h : xh_both a b = some r) : ∃ x y, a = some x ∧ b = some y ∧ (∀ z ∈ x, z ∈ r) ∧ ∀ z ∈ y, z ∈ r := by
  unfold xh_both at h
  split at h
  · cases h
  · split at h
    · cases h
    · cases h
      exact ⟨_, _, rfl, rfl, fun z hz => List.mem_append_left _ hz, fun z hz => List.mem_append_right _ hz⟩
theorem xbr_ok {X : xX} {c : ClassFile.Cond} {a b : xV} {sy : xS} {ρ : List Int32} {aw : List Nat} {va vb : Value} {kt kf : xS → xR} {r : List xO} (h : xh_br c a b sy kt kf = some r) (hs : xsat sy ρ) (ha : xv X ρ aw a va) (hb : xv X ρ aw b vb) :
    ∃ x y, va = .int x ∧ vb = .int y ∧ (xci c x.toInt y.toInt → ∃ sy' r', kt sy' = some r' ∧ xsat sy' ρ ∧ ∀ z ∈ r', z ∈ r) ∧ (¬ xci c x.toInt y.toInt → ∃ sy' r', kf sy' = some r' ∧ xsat sy' ρ ∧ ∀ z ∈ r', z ∈ r) := by
  unfold xh_br at h
  cases hc : and (Nat.beq a.1 0) (Nat.beq b.1 0) with
  | true =>
    rw [hc] at h
    have hc' := (Bool.and_eq_true_iff).mp hc
    have e1 := xv_0 hc'.1 ha
    have e2 := xv_0 hc'.2 hb
    have h' : cond (xh_cc c a.2 b.2) (kt sy) (kf sy) = some r := h
    refine ⟨_, _, e1, e2, fun hp => ?_, fun hp => ?_⟩
    · rw [(xcc_ok c a.2 b.2).mpr hp] at h'
      exact ⟨sy, r, h', hs, fun _ hz => hz⟩
    · cases hq : xh_cc c a.2 b.2 with
      | true => exact absurd ((xcc_ok c a.2 b.2).mp hq) hp
      | false =>
        rw [hq] at h'
        exact ⟨sy, r, h', hs, fun _ hz => hz⟩
  | false =>
    rw [hc] at h
    have h' : xh_brS c a b sy kt kf = some r := h
    unfold xh_brS at h'
    cases hd : and (Nat.beq a.1 1) (and (Nat.beq b.1 1) (Nat.beq a.2 b.2)) with
    | true =>
      rw [hd] at h'
      have hd1 := (Bool.and_eq_true_iff).mp hd
      have hd2 := (Bool.and_eq_true_iff).mp hd1.2
      obtain ⟨x, e1, e2⟩ := xv_1 hd1.1 ha
      obtain ⟨y, e3, e4⟩ := xv_1 hd2.1 hb
      rw [← Nat.eq_of_beq_eq_true hd2.2, e1] at e3
      cases e3
      have h2 : cond (xh_cc c 0 0) (kt sy) (kf sy) = some r := h'
      have hz : ∀ z : Int, xci c z z ↔ xci c 0 0 := fun z => by cases c <;> simp [xci]
      have h0 : (Int32.ofNat 0).toInt = 0 := by decide
      refine ⟨x, x, e2, e4, fun hp => ?_, fun hp => ?_⟩
      · rw [(xcc_ok c 0 0).mpr (by rw [h0]; exact (hz _).mp hp)] at h2
        exact ⟨sy, r, h2, hs, fun _ hz => hz⟩
      · cases hq : xh_cc c 0 0 with
        | true =>
          have := (xcc_ok c 0 0).mp hq
          rw [h0] at this
          exact absurd ((hz _).mpr this) hp
        | false =>
          rw [hq] at h2
          exact ⟨sy, r, h2, hs, fun _ hz => hz⟩
    | false =>
      rw [hd] at h'
      dsimp only [cond] at h'
      split at h'
      · cases h'
      · rename_i ia q1
        split at h'
        · cases h'
        · rename_i ib q2
          obtain ⟨x, e1, b1, b2⟩ := xrng_ok q1 hs ha
          obtain ⟨y, e2, b3, b4⟩ := xrng_ok q2 hs hb
          obtain ⟨r1, r2, g1, g2, g3, g4⟩ := xboth_ok h'
          subst e1
          subst e2
          obtain ⟨k1, k2⟩ := xcq_ok c b1 b2 b3 b4
          refine ⟨x, y, rfl, rfl, fun hp => ?_, fun hp => ?_⟩
          · obtain ⟨j1, j2, j3⟩ := k1 hp
            rw [j1] at g1
            exact ⟨_, r1, g1, xput_ok (xput_ok hs ha j2) hb j3, g3⟩
          · obtain ⟨j1, j2, j3⟩ := k2 hp
            rw [j1] at g2
            exact ⟨_, r2, g2, xput_ok (xput_ok hs ha j2) hb j3, g4⟩
theorem xnum_mem : ∀ (n : Nat) (lo z : Int), lo ≤ z → z < lo + n → z ∈ xh_num lo n
  | 0, lo, z, h1, h2 => by omega
  | n + 1, lo, z, h1, h2 => by
    unfold xh_num
    by_cases e : z = lo
    · rw [e]; exact List.mem_cons_self
    · exact List.mem_cons_of_mem _ (xnum_mem n (lo + 1) z (by omega) (by omega))
theorem xconc_ok {X : xX} {a : xV} {sy : xS} {ρ : List Int32} {aw : List Nat} {v : Value} {k : xV → xS → xR} {r : List xO} (h : xh_conc sy a k = some r) (hs : xsat sy ρ) (ha : xv X ρ aw a v) :
    ∃ a' sy' r', k a' sy' = some r' ∧ xsat sy' ρ ∧ xv X ρ aw a' v ∧ ∀ z ∈ r', z ∈ r := by
  unfold xh_conc at h
  split at h
  · cases h
  · rename_i iv q
    split at h
    · obtain ⟨x, e, b1, b2⟩ := xrng_ok q hs ha
      subst e
      obtain ⟨r', g1, g2⟩ := xall_ok h x.toInt (xnum_mem _ _ _ b1 (by omega))
      rw [xx_f_eq] at g1
      refine ⟨_, _, r', g1, xput_ok hs ha ⟨Int.le_refl _, Int.le_refl _⟩, ?_, g2⟩
      show Value.int x = .int (Int32.ofNat (xx_n (Int32.ofInt x.toInt)))
      rw [Int32.ofInt_toInt]
      exact congrArg Value.int (xx_n_of x).symm
    · cases h
theorem xcut_ok : ∀ (ks : List Int) (l u x : Int), l ≤ x → x ≤ u → ∃ q ∈ xh_cut ks l u, q.1 ≤ x ∧ x ≤ q.2
  | [], l, u, x, h1, h2 => ⟨(l, u), List.mem_cons_self, h1, h2⟩
  | m :: ms, l, u, x, h1, h2 => by
    unfold xh_cut
    split
    · exact xcut_ok ms l u x h1 h2
    · split
      · exact ⟨(l, u), List.mem_cons_self, h1, h2⟩
      · by_cases e1 : x < m
        · refine ⟨(l, m - 1), List.mem_append_left _ ?_, h1, by show x ≤ m - 1; omega⟩
          rw [if_pos (by omega)]
          exact List.mem_cons_self
        · by_cases e2 : x = m
          · exact ⟨(m, m), List.mem_append_right _ List.mem_cons_self, by show m ≤ x; omega, by show x ≤ m; omega⟩
          · obtain ⟨q, g1, g2⟩ := xcut_ok ms (m + 1) u x (by omega) h2
            refine ⟨q, List.mem_append_right _ (List.mem_cons_of_mem _ ?_), g2⟩
            rw [if_pos (by omega)]
            exact g1
/-- a switch: all numbers of a part go to one place -/
theorem xsw_ok {X : xX} {keys : List Int} {t : Int × Int → Option Nat} {a : xV} {sy : xS} {ρ : List Int32} {aw : List Nat} {v : Value} {k : Nat → xS → xR} {r : List xO} (h : xh_sw keys t a sy k = some r) (hs : xsat sy ρ) (ha : xv X ρ aw a v) :
    ∃ x iv j sy' r', v = .int x ∧ iv.1 ≤ x.toInt ∧ x.toInt ≤ iv.2 ∧ t iv = some j ∧ k j sy' = some r' ∧ xsat sy' ρ ∧ ∀ z ∈ r', z ∈ r := by
  unfold xh_sw at h
  cases hc : Nat.beq a.1 0 with
  | true =>
    rw [hc] at h
    dsimp only [cond] at h
    split at h
    · cases h
    · rename_i j q
      rw [xx_f_eq] at h
      exact ⟨_, _, j, sy, r, xv_0 hc ha, Int.le_refl _, Int.le_refl _, q, h, hs, fun _ hz => hz⟩
  | false =>
    rw [hc] at h
    dsimp only [cond] at h
    split at h
    · cases h
    · rename_i iv q
      obtain ⟨x, e, b1, b2⟩ := xrng_ok q hs ha
      subst e
      obtain ⟨p, g1, g2, g3⟩ := xcut_ok keys iv.1 iv.2 x.toInt b1 b2
      obtain ⟨r', g4, g5⟩ := xall_ok h p g1
      split at g4
      · cases g4
      · rename_i j q2
        rw [xx_f_eq] at g4
        exact ⟨x, p, j, _, r', rfl, g2, g3, q2, g4, xput_ok hs ha ⟨g2, g3⟩, g5⟩
