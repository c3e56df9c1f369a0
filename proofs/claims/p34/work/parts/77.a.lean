/-! the start: what the constructors leave is what the loop wants -/
def zty (a b : FieldType) : Bool := match a, b with
  | .int, .int => true
  | .byte, .byte => true
  | .boolean, .boolean => true
  | .long, .long => true
  | _, _ => false
theorem zty_ok {a b : FieldType} (h : zty a b = true) : a = b := by
  unfold zty at h
  split at h
  · rfl
  · rfl
  · rfl
  · rfl
  · cases h
/-- a value is of a kind -/
def zx_v (t : zT) (a : xV) : Bool := match t.1 with
  | 0 => and (Nat.beq a.1 0) (or (and (zle t.2.1 (-2147483648)) (zle 2147483647 t.2.2)) (or (and (Nat.beq a.2 4294967295) (and (zle t.2.1 (-1)) (zle (-1) t.2.2))) (and (Nat.ble a.2 2147483647) (and (zle t.2.1 (.ofNat a.2)) (zle (.ofNat a.2) t.2.2)))))
  | 1 => and (Nat.beq a.1 3) (Nat.beq a.2 t.2.1.toNat)
  | 2 => or (Nat.beq a.1 2) (Nat.beq a.1 3)
  | 3 => and (Nat.beq a.1 4) (or (Nat.beq t.2.1.toNat 0) (Nat.beq a.2 0))
  | _ => false
theorem zx_v_ok {X : xX} {L : Nat} {ρ : List Int32} {aw : List Nat} {t : zT} {a : xV} {v : Value} (h : zx_v t a = true) (hv : xv X ρ aw a v) : zfit ((X, L), aw) t v := by
  obtain ⟨t1, t2, t3⟩ := t
  obtain ⟨a1, a2⟩ := a
  unfold zx_v at h
  match t1, h with
  | 0, h =>
    have c := xan h
    have e : a1 = 0 := Nat.eq_of_beq_eq_true c.1
    subst e
    have ev : v = .int (Int32.ofNat a2) := hv
    refine ⟨Int32.ofNat a2, ev, ?_⟩
    rcases zor c.2 with q | q
    · have q2 := xan q
      have l1 : t2 ≤ -2147483648 := zle_ok.mp q2.1
      have l2 : 2147483647 ≤ t3 := zle_ok.mp q2.2
      have f1 : -2147483648 ≤ (Int32.ofNat a2).toInt := (zfull_ok (Int32.ofNat a2)).1
      have f2 : (Int32.ofNat a2).toInt ≤ 2147483647 := (zfull_ok (Int32.ofNat a2)).2
      exact ⟨Int.le_trans l1 f1, Int.le_trans f2 l2⟩
    rcases zor q with q | q
    · have q2 := xan q
      have q3 := xan q2.2
      have e2 : a2 = 4294967295 := Nat.eq_of_beq_eq_true q2.1
      have l1 : t2 ≤ -1 := zle_ok.mp q3.1
      have l2 : -1 ≤ t3 := zle_ok.mp q3.2
      subst e2
      have e1 : (Int32.ofNat 4294967295).toInt = -1 := by decide
      exact ⟨by show t2 ≤ _; omega, by show _ ≤ t3; omega⟩
    · have q2 := xan q
      have q3 := xan q2.2
      have l0 : a2 ≤ 2147483647 := Nat.le_of_ble_eq_true q2.1
      have l1 : t2 ≤ (a2 : Int) := zle_ok.mp q3.1
      have l2 : (a2 : Int) ≤ t3 := zle_ok.mp q3.2
      have e1 : (Int32.ofNat a2).toInt = (a2 : Int) := nI_toInt (by omega)
      exact ⟨by show t2 ≤ _; omega, by show _ ≤ t3; omega⟩
  | 1, h =>
    have c := xan h
    have e : a1 = 3 := Nat.eq_of_beq_eq_true c.1
    subst e
    obtain ⟨q, q1, q2⟩ := (hv : ∃ q, aw[a2]? = some q ∧ v = .ref q)
    have e2 : a2 = t2.toNat := Nat.eq_of_beq_eq_true c.2
    exact ⟨q, by rw [← e2]; exact q1, q2⟩
  | 2, h =>
    rcases zor h with q | q
    · have e : a1 = 2 := Nat.eq_of_beq_eq_true q
      subst e
      exact Or.inl hv
    · have e : a1 = 3 := Nat.eq_of_beq_eq_true q
      subst e
      obtain ⟨q, -, q2⟩ := (hv : ∃ q, aw[a2]? = some q ∧ v = .ref q)
      exact Or.inr ⟨q, q2⟩
  | 3, h =>
    have c := xan h
    have e : a1 = 4 := Nat.eq_of_beq_eq_true c.1
    subst e
    have ev : v = .long (Int64.ofNat a2) := hv
    refine ⟨_, ev, ?_⟩
    rcases zor c.2 with q | q
    · have e2 : t2.toNat = 0 := Nat.eq_of_beq_eq_true q
      intro i hi
      have hi' : i < t2.toNat := hi
      omega
    · have e2 : a2 = 0 := Nat.eq_of_beq_eq_true q
      subst e2
      intro i hi
      show (Int64.ofNat 0).toUInt64.toNat / 32 ^ i % 32 ≤ 26
      rw [show (Int64.ofNat 0).toUInt64.toNat = 0 from rfl, Nat.zero_div]
      decide
  | n + 4, h => cases h
/-- a cell is of its kind -/
def zx_c (y : zY) (c : xC) : Bool := match y, c with
  | .inl o, .inl p => and (Nat.beq o.1 p.1) (and (Nat.beq o.2.length p.2.length) ((List.range o.2.length).all fun j => match o.2[j]?, p.2[j]? with
    | some t, some a => zx_v t a
    | _, _ => true))
  | .inr r, .inr q => and (zty r.1 q.1) (and (Nat.beq r.2.1 q.2.1) (match q.2.2 with
    | .inl N => cond (Nat.beq (xh_kind r.1) 2) (r.2.2.all fun t => and (Nat.beq t.1 3) (Nat.beq t.2.1.toNat 0)) ((List.range r.2.1).all fun j => match r.2.2[j % r.2.2.length]? with
      | some t => zx_v t (0, xx_g 32 N j)
      | none => true)
    | .inr _ => false))
  | _, _ => false
theorem zx_c_ok {g : yG} {X : xX} {L : Nat} {ρ : List Int32} {aw : List Nat} {y : zY} {c : xC} {e : va_E} (h : zx_c y c = true) (hc : xcell X ρ aw g.2 c e) : zcell g ((X, L), aw) y e := by
  unfold zx_c at h
  split at h
  · rename_i o p
    have c1 := xan h
    have c2 := xan c1.2
    obtain ⟨vs, rfl, hv⟩ := hc
    have el := xx_2_len hv
    have e1 : o.1 = p.1 := Nat.eq_of_beq_eq_true c1.1
    have e2 : o.2.length = p.2.length := Nat.eq_of_beq_eq_true c2.1
    refine ⟨⟨vs, by rw [e1], by omega⟩, fun j t v ht hz => ?_⟩
    have ht' : o.2[j]? = some t := ht
    have hz' : vs[j]? = some v := hz
    have hj := (List.getElem?_eq_some_iff.mp ht').1
    have h3 := List.all_eq_true.mp c2.2 j (List.mem_range.mpr hj)
    cases hp : p.2[j]? with
    | none =>
      rw [List.getElem?_eq_none_iff] at hp
      omega
    | some a =>
      obtain ⟨v', v1, v2⟩ := xx_2_get hv hp
      rw [hz'] at v1
      cases v1
      rw [ht', hp] at h3
      exact zx_v_ok h3 v2
  · rename_i r q
    have c1 := xan h
    have c2 := xan c1.2
    have e1 := zty_ok c1.1
    have e2 : r.2.1 = q.2.1 := Nat.eq_of_beq_eq_true c2.1
    obtain ⟨cA, hA, hl, hr⟩ := hc
    cases hq : q.2.2 with
    | inr iv => rw [hq] at c2; cases c2.2
    | inl N =>
      rw [hq] at c2
      have c3 := c2.2
      dsimp only at c3
      refine ⟨⟨cA, by rw [e1]; exact hA, by rw [e2]; exact hl, ?_⟩, fun j t v ht hz => ?_⟩
      · rw [e1, e2]
        rcases hr with ⟨f, f1, f2, -⟩ | ⟨f, f1, f2, -⟩
        · exact Or.inl ⟨f, f1, f2⟩
        · exact Or.inr ⟨f, f1, f2⟩
      · have ht' : (if j < r.2.1 then r.2.2[j % r.2.2.length]? else none) = some t := ht
        split at ht'
        · rename_i hj
          rcases hr with ⟨f, rfl, f2, f3⟩ | ⟨f, rfl, f2, f3⟩
          · rw [← e1] at f2
            have hk : Nat.beq (xh_kind r.1) 2 = false := by
              cases hz2 : Nat.beq (xh_kind r.1) 2 with
              | false => rfl
              | true =>
                have := Nat.eq_of_beq_eq_true hz2
                omega
            rw [hk, cond_false] at c3
            have h3 := List.all_eq_true.mp c3 j (List.mem_range.mpr hj)
            rw [ht'] at h3
            rw [hq] at f3
            have f4 : f j = Int32.ofNat (xx_g 32 N j) := f3 j (by omega)
            have hz' : (if j < q.2.1 then some (Value.int (f j)) else none) = some v := hz
            rw [if_pos (by omega)] at hz'
            cases hz'
            exact zx_v_ok (X := X) (ρ := ρ) h3 (show Value.int (f j) = .int (Int32.ofNat (xx_g 32 N j)) by rw [f4])
          · rw [← e1] at f2
            rw [f2] at c3
            have c4 : (r.2.2.all fun t => and (Nat.beq t.1 3) (Nat.beq t.2.1.toNat 0)) = true := c3
            have h3 := xan (List.all_eq_true.mp c4 t (List.mem_of_getElem? ht'))
            have hz' : (if j < q.2.1 then some (Value.long (f j)) else none) = some v := hz
            rw [if_pos (by omega)] at hz'
            cases hz'
            obtain ⟨t1, t2, t3⟩ := t
            have e3 : t1 = 3 := Nat.eq_of_beq_eq_true h3.1
            subst e3
            refine ⟨f j, rfl, fun i hi => ?_⟩
            have e4 : t2.toNat = 0 := Nat.eq_of_beq_eq_true h3.2
            have hi' : i < t2.toNat := hi
            omega
        · cases ht'
  · cases h
/-- the number at a place -/
def zx_n (h : xH) (k j : Nat) : Option Nat := (xl h k).bind fun c => match c with
  | .inl o => (o.2[j]?).bind fun a => cond (Nat.beq a.1 0) (some a.2) none
  | .inr r => match r.2.2 with
    | .inl N => cond (and (Nat.ble (j + 1) r.2.1) (Nat.ble (xh_kind r.1) 1)) (some (xx_g 32 N j)) none
    | .inr _ => none
/-- the cell that a place refers to -/
def zx_r (h : xH) (k j : Nat) : Option Nat := (xl h k).bind fun c => match c with
  | .inl o => (o.2[j]?).bind fun a => cond (Nat.beq a.1 3) (some a.2) none
  | .inr _ => none
theorem zx_n_ok {X : xX} {ρ : List Int32} {ws : va_W} {tys : List (ClassId × FieldType)} {h : xH} (hc : ∀ (k : Nat) (p : Nat × va_E) (c : xC), ws[k]? = some p → xl h k = some c → xcell X ρ (xaw ws) tys c p.2) {k j n : Nat} (hk : k < ws.length) (e : zx_n h k j = some n) : zwo ws k j = some (Int32.ofNat n).toInt := by
  unfold zx_n at e
  cases hl : xl h k with
  | none => rw [hl] at e; cases e
  | some c =>
    rw [hl] at e
    have hw : ws[k]? = some ws[k] := List.getElem?_eq_getElem hk
    have h1 := hc k _ c hw hl
    cases c with
    | inl o =>
      have e' : ((o.2[j]?).bind fun a => cond (Nat.beq a.1 0) (some a.2) none) = some n := e
      obtain ⟨vs, hv1, hv2⟩ := h1
      cases ha : o.2[j]? with
      | none => rw [ha] at e'; cases e'
      | some a =>
        rw [ha] at e'
        have e2 : cond (Nat.beq a.1 0) (some a.2) none = some n := e'
        obtain ⟨v, v1, v2⟩ := xx_2_get hv2 ha
        cases h0 : Nat.beq a.1 0 with
        | false => rw [h0] at e2; cases e2
        | true =>
          rw [h0, cond_true] at e2
          cases e2
          refine zwo_of hw ?_
          rw [hv1]
          show vs[j]? = _
          rw [v1]
          obtain ⟨a1, a2⟩ := a
          have e3 : a1 = 0 := Nat.eq_of_beq_eq_true h0
          subst e3
          have v2' : v = .int (Int32.ofNat a2) := v2
          rw [v2']
    | inr r =>
      cases hr : r.2.2 with
      | inr iv =>
        have e' : (match r.2.2 with | .inl N => cond (and (Nat.ble (j + 1) r.2.1) (Nat.ble (xh_kind r.1) 1)) (some (xx_g 32 N j)) none | .inr _ => none) = some n := e
        rw [hr] at e'
        cases e'
      | inl N =>
        have e' : (match r.2.2 with | .inl N => cond (and (Nat.ble (j + 1) r.2.1) (Nat.ble (xh_kind r.1) 1)) (some (xx_g 32 N j)) none | .inr _ => none) = some n := e
        rw [hr] at e'
        have e2 : cond (and (Nat.ble (j + 1) r.2.1) (Nat.ble (xh_kind r.1) 1)) (some (xx_g 32 N j)) none = some n := e'
        cases hb : and (Nat.ble (j + 1) r.2.1) (Nat.ble (xh_kind r.1) 1) with
        | false => rw [hb] at e2; cases e2
        | true =>
          rw [hb, cond_true] at e2
          cases e2
          have c1 := xan hb
          have l1 := Nat.le_of_ble_eq_true c1.1
          have l2 := Nat.le_of_ble_eq_true c1.2
          obtain ⟨cA, -, -, h2⟩ := h1
          rcases h2 with ⟨f, f1, f2, f3⟩ | ⟨f, f1, f2, f3⟩
          · rw [hr] at f3
            have f4 : f j = Int32.ofNat (xx_g 32 N j) := f3 j (by omega)
            refine zwo_of hw ?_
            rw [f1]
            show (if j < r.2.1 then some (Value.int (f j)) else none) = _
            rw [if_pos (by omega), f4]
          · omega
theorem zx_r_ok {X : xX} {ρ : List Int32} {ws : va_W} {tys : List (ClassId × FieldType)} {h : xH} (hc : ∀ (k : Nat) (p : Nat × va_E) (c : xC), ws[k]? = some p → xl h k = some c → xcell X ρ (xaw ws) tys c p.2) {k j n : Nat} (hk : k < ws.length) (e : zx_r h k j = some n) : ∃ p q, ws[k]? = some p ∧ zat p.2 j = some (.ref q) ∧ (xaw ws)[n]? = some q := by
  unfold zx_r at e
  cases hl : xl h k with
  | none => rw [hl] at e; cases e
  | some c =>
    rw [hl] at e
    have hw : ws[k]? = some ws[k] := List.getElem?_eq_getElem hk
    have h1 := hc k _ c hw hl
    cases c with
    | inr r => cases e
    | inl o =>
      have e' : ((o.2[j]?).bind fun a => cond (Nat.beq a.1 3) (some a.2) none) = some n := e
      obtain ⟨vs, hv1, hv2⟩ := h1
      cases ha : o.2[j]? with
      | none => rw [ha] at e'; cases e'
      | some a =>
        rw [ha] at e'
        have e2 : cond (Nat.beq a.1 3) (some a.2) none = some n := e'
        obtain ⟨v, v1, v2⟩ := xx_2_get hv2 ha
        cases h0 : Nat.beq a.1 3 with
        | false => rw [h0] at e2; cases e2
        | true =>
          rw [h0, cond_true] at e2
          cases e2
          obtain ⟨a1, a2⟩ := a
          have e3 : a1 = 3 := Nat.eq_of_beq_eq_true h0
          subst e3
          obtain ⟨q, q1, q2⟩ := (v2 : ∃ q, (xaw ws)[a2]? = some q ∧ v = .ref q)
          refine ⟨_, q, hw, ?_, q1⟩
          rw [hv1]
          show vs[j]? = _
          rw [v1, q2]
