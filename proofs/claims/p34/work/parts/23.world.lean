/-! the world: cells side by side -/
def xrow (ct : Nat ⊕ (Int × Int)) (n : Nat) (f : Nat → Int32) : Prop := match ct with
  | .inl N => ∀ j, j < n → f j = Int32.ofNat (xx_g 32 N j)
  | .inr iv => ∀ j, j < n → iv.1 ≤ (f j).toInt ∧ (f j).toInt ≤ iv.2
def xrowl (ct : Nat ⊕ (Int × Int)) (n : Nat) (f : Nat → Int64) : Prop := match ct with
  | .inl N => ∀ j, j < n → f j = Int64.ofNat (xx_g 64 N j)
  | .inr _ => True
def xcell (X : xX) (ρ : List Int32) (aw : List Nat) (tys : List (ClassId × FieldType)) (c : xC) (e : va_E) : Prop := match c with
  | .inl o => ∃ vs, e = .inr (o.1, vs) ∧ xx_2 (xv X ρ aw) o.2 vs
  | .inr r => ∃ cA, (cA, r.1) ∈ tys ∧ r.2.1 < 2 ^ 31 ∧ ((∃ f : Nat → Int32, e = .inl (cA, r.2.1, .inl f) ∧ xh_kind r.1 < 2 ∧ xrow r.2.2 r.2.1 f) ∨ ∃ f : Nat → Int64, e = .inl (cA, r.2.1, .inr (.inl f)) ∧ xh_kind r.1 = 2 ∧ xrowl r.2.2 r.2.1 f)
theorem xcell_mono {X : xX} {ρ ρ' : List Int32} {aw aw' : List Nat} {tys tys' : List (ClassId × FieldType)} (h1 : xx_e ρ ρ') (h2 : xx_e aw aw') (h3 : ∀ t ∈ tys, t ∈ tys') {c : xC} {e : va_E} (h : xcell X ρ aw tys c e) : xcell X ρ' aw' tys' c e := by
  cases c with
  | inl o =>
    obtain ⟨vs, e1, e2⟩ := h
    exact ⟨vs, e1, xx_2_mono (fun _ _ q => xv_mono h1 h2 q) e2⟩
  | inr r =>
    obtain ⟨cA, e1, e2⟩ := h
    exact ⟨cA, h3 _ e1, e2⟩
abbrev xaw (ws : va_W) : List Nat := ws.map Prod.fst
theorem xaw_at {ws : va_W} {k q : Nat} (h : (xaw ws)[k]? = some q) : ∃ e, ws[k]? = some (q, e) := by
  rw [List.getElem?_map] at h
  cases hw : ws[k]? with
  | none => rw [hw] at h; cases h
  | some p =>
    rw [hw] at h
    have e : p.1 = q := Option.some.inj h
    exact ⟨p.2, by rw [← e]⟩
theorem xaw_set {ws : va_W} {k q : Nat} {e e' : va_E} (h : ws[k]? = some (q, e)) : xaw (ws.set k (q, e')) = xaw ws := by
  apply List.ext_getElem?
  intro j
  show (List.map Prod.fst (ws.set k (q, e')))[j]? = (List.map Prod.fst ws)[j]?
  rw [List.getElem?_map, List.getElem?_map]
  by_cases hj : j = k
  · subst hj
    rw [List.getElem?_set_self (List.getElem?_eq_some_iff.mp h).1, h]
    rfl
  · rw [List.getElem?_set_ne (fun e => hj e.symm)]
theorem xaw_app (ws : va_W) (p : Nat × va_E) : xx_e (xaw ws) (xaw (ws ++ [p])) := ⟨[p.1], by simp [xaw]⟩
/-- what may change: all that was made since the law began -/
abbrev xAA (bs : Nat) : Nat → Prop := fun q => bs ≤ q
def xWd (X : xX) (D : va_G) (bs : Nat) (ρ : List Int32) (ws : va_W) (tys : List (ClassId × FieldType)) (h : xH) (H : Heap) (s : State) (locs : List Loc) : Prop :=
  va_P D xcl ws H ∧ va_D (xAA bs) ws ∧ va_S (xAA bs) s.heap H locs ∧ va_K D xcl tys s ∧ h.1 = ws.length ∧ ∀ (k : Nat) (p : Nat × va_E) (c : xC), ws[k]? = some p → xl h k = some c → xcell X ρ (xaw ws) tys c p.2
theorem xWd_mono {X : xX} {D : va_G} {bs : Nat} {ρ ρ' : List Int32} {ws : va_W} {tys : List (ClassId × FieldType)} {h : xH} {H : Heap} {s : State} {locs : List Loc} (e : xx_e ρ ρ') (w : xWd X D bs ρ ws tys h H s locs) : xWd X D bs ρ' ws tys h H s locs := by
  obtain ⟨h1, h2, h3, h4, h5, h6⟩ := w
  exact ⟨h1, h2, h3, h4, h5, fun k p c q1 q2 => xcell_mono e (xx_e_rf _) (fun _ t => t) (h6 k p c q1 q2)⟩
/-- a cell is looked at -/
theorem xWd_get {X : xX} {D : va_G} {bs : Nat} {ρ : List Int32} {ws : va_W} {tys : List (ClassId × FieldType)} {h : xH} {H : Heap} {s : State} {locs : List Loc} (w : xWd X D bs ρ ws tys h H s locs) {a : xV} {v : Value} (ha : Nat.beq a.1 3 = true) (hv : xv X ρ (xaw ws) a v) {c : xC} (hc : xl h a.2 = some c) : ∃ q e, v = .ref q ∧ ws[a.2]? = some (q, e) ∧ xcell X ρ (xaw ws) tys c e := by
  obtain ⟨q, e1, e2⟩ := xv_3 ha hv
  obtain ⟨e, e3⟩ := xaw_at e1
  exact ⟨q, e, e2, e3, w.2.2.2.2.2 _ _ _ e3 hc⟩
/-- a cell is written -/
theorem xWd_set {X : xX} {D : va_G} {bs : Nat} {ρ : List Int32} {ws : va_W} {tys : List (ClassId × FieldType)} {h h' : xH} {H H1 : Heap} {s : State} {locs locs1 : List Loc} (w : xWd X D bs ρ ws tys h H s locs) {k q : Nat} {e e' : va_E} {c : xC} (hk : ws[k]? = some (q, e)) (hP : va_P D xcl (ws.set k (q, e')) H1) (hD : va_D (xAA bs) (ws.set k (q, e'))) (hS : va_S (xAA bs) s.heap H1 locs1) (h1 : h'.1 = h.1) (h2 : ∀ j, xl h' j = if j = k then some c else xl h j) (hc : xcell X ρ (xaw ws) tys c e') : xWd X D bs ρ (ws.set k (q, e')) tys h' H1 s locs1 := by
  obtain ⟨-, -, -, w4, w5, w6⟩ := w
  refine ⟨hP, hD, hS, w4, by rw [h1, w5, List.length_set], fun j p x q1 q2 => ?_⟩
  rw [xaw_set hk]
  rw [h2 j] at q2
  by_cases hj : j = k
  · subst hj
    rw [List.getElem?_set_self (List.getElem?_eq_some_iff.mp hk).1] at q1
    cases q1
    rw [if_pos rfl] at q2
    cases q2
    exact hc
  · rw [List.getElem?_set_ne (fun e => hj e.symm)] at q1
    rw [if_neg hj] at q2
    exact w6 j p x q1 q2
/-- a cell is made -/
theorem xWd_new {X : xX} {D : va_G} {bs : Nat} {ρ : List Int32} {ws : va_W} {tys tys' : List (ClassId × FieldType)} {h h' : xH} {H H1 : Heap} {s : State} {locs locs1 : List Loc} (w : xWd X D bs ρ ws tys h H s locs) {q : Nat} {e : va_E} {c : xC} (hP : va_P D xcl (ws ++ [(q, e)]) H1) (hD : va_D (xAA bs) (ws ++ [(q, e)])) (hS : va_S (xAA bs) s.heap H1 locs1) (hK : va_K D xcl tys' s) (ht : ∀ t ∈ tys, t ∈ tys') (h1 : h'.1 = h.1) (h2 : ∀ j, xl h' j = if j = h.1 then some c else xl h j) (hc : xcell X ρ (xaw (ws ++ [(q, e)])) tys' c e) : xWd X D bs ρ (ws ++ [(q, e)]) tys' (Nat.succ h'.1, h'.2) H1 s locs1 := by
  obtain ⟨-, -, -, w4, w5, w6⟩ := w
  refine ⟨hP, hD, hS, hK, ?_, fun j p x q1 q2 => ?_⟩
  · show h'.1 + 1 = _
    rw [h1, w5, List.length_append]
    rfl
  · have q2' : xl h' j = some x := q2
    rw [h2 j] at q2'
    by_cases hj : j = h.1
    · rw [if_pos hj] at q2'
      cases q2'
      rw [hj, w5, List.getElem?_append_right (Nat.le_refl _), Nat.sub_self] at q1
      cases q1
      exact hc
    · rw [if_neg hj] at q2'
      have hl : j < ws.length := by
        have := (List.getElem?_eq_some_iff.mp q1).1
        rw [List.length_append] at this
        have e1 : [(q, e)].length = 1 := rfl
        omega
      rw [List.getElem?_append_left hl] at q1
      exact xcell_mono (xx_e_rf _) (xaw_app ws (q, e)) ht (w6 j p x q1 q2')
/-! the locals -/
def xLv (X : xX) (ρ : List Int32) (aw : List Nat) (nL : Nat) (lv : List xV) (ls : Array Slot) : Prop := lv.length = nL ∧ ls.size = nL ∧ lv_wf ls ∧ ∀ (i : Nat) (a : xV), lv[i]? = some a → a.1 ≠ 9 → ∃ v, ls[i]? = some (.val v) ∧ xv X ρ aw a v
theorem xLv_mono {X : xX} {ρ ρ' : List Int32} {aw aw' : List Nat} {nL : Nat} {lv : List xV} {ls : Array Slot} (h1 : xx_e ρ ρ') (h2 : xx_e aw aw') (h : xLv X ρ aw nL lv ls) : xLv X ρ' aw' nL lv ls := by
  obtain ⟨a1, a2, a3, a4⟩ := h
  refine ⟨a1, a2, a3, fun i a q1 q2 => ?_⟩
  obtain ⟨v, e1, e2⟩ := a4 i a q1 q2
  exact ⟨v, e1, xv_mono h1 h2 e2⟩
def xvals (ls : Array Slot) (n : Nat) : List (Nat × Value) := (List.range n).filterMap fun (j : Nat) => match (ls[j]? : Option Slot) with
  | some (.val v) => some (j, v)
  | _ => none
theorem xvals_mem {ls : Array Slot} {n j : Nat} {v : Value} (h : ls[j]? = some (.val v)) (hj : j < n) : (j, v) ∈ xvals ls n := by
  refine List.mem_filterMap.mpr ⟨j, List.mem_range.mpr hj, ?_⟩
  rw [h]
theorem xvals_has {ls : Array Slot} {n : Nat} (h1 : ls.size = n) (h2 : lv_wf ls) : lv_has ls n (xvals ls n) := by
  refine ⟨h1, h2, fun q hq => ?_⟩
  obtain ⟨j, -, h⟩ := List.mem_filterMap.mp hq
  split at h
  · rename_i v e
    cases h
    exact e
  · cases h
theorem xnl_ok {X : xX} {ρ : List Int32} {aw : List Nat} {lv : List xV} {i : Nat} (h : xh_nl lv i = true) {j : Nat} {a : xV} {v : Value} (hj : j + 1 = i) (ha : lv[j]? = some a) (hv : xv X ρ aw a v) : v.category = 1 := by
  subst hj
  have h' : (match xk_at lv j with
    | some a => not (xc_l a)
    | none => false) = true := h
  rw [xk_at_eq, ha] at h'
  have h2 : xc_l a = false := by simpa using h'
  rw [xv_cat hv, h2]
  rfl
theorem xLv_st1 {X : xX} {ρ : List Int32} {aw : List Nat} {nL i : Nat} {lv : List xV} {ls ls' : Array Slot} {a : xV} {v : Value} (h : xLv X ρ aw nL lv ls) (hn : xh_nl lv i = true) (hi : i < lv.length) (hv : xv X ρ aw a v) (h' : lv_has ls' nL ((i, v) :: (xvals ls nL).filter (fun q => !(q.1 == i) && !(q.1 + 1 == i && q.2.category == 2)))) : xLv X ρ aw nL (lv.set i a) ls' := by
  obtain ⟨a1, a2, a3, a4⟩ := h
  refine ⟨by rw [List.length_set]; exact a1, h'.1, h'.2.1, fun j b q1 q2 => ?_⟩
  by_cases hj : j = i
  · subst hj
    rw [List.getElem?_set_self hi] at q1
    cases q1
    exact ⟨v, h'.2.2 (j, v) List.mem_cons_self, hv⟩
  · rw [List.getElem?_set_ne (fun e => hj e.symm)] at q1
    obtain ⟨w, e1, e2⟩ := a4 j b q1 q2
    have hjl : j < nL := by rw [← a1]; exact (List.getElem?_eq_some_iff.mp q1).1
    refine ⟨w, h'.2.2 (j, w) (List.mem_cons_of_mem _ (List.mem_filter.mpr ⟨xvals_mem e1 hjl, ?_⟩)), e2⟩
    simp only [Bool.and_eq_true, Bool.not_eq_true', beq_eq_false_iff_ne, ne_eq, Bool.and_eq_false_iff]
    refine ⟨hj, ?_⟩
    by_cases hq : j + 1 = i
    · right
      rw [xnl_ok hn hq q1 e2]
      decide
    · exact Or.inl hq
theorem xLv_st2 {X : xX} {ρ : List Int32} {aw : List Nat} {nL i : Nat} {lv : List xV} {ls ls' : Array Slot} {a : xV} {v : Value} (h : xLv X ρ aw nL lv ls) (hn : xh_nl lv i = true) (hi : i < lv.length) (hi2 : i + 1 < lv.length) (hv : xv X ρ aw a v) (h' : lv_has ls' nL ((i, v) :: (xvals ls nL).filter (fun q => !(q.1 == i) && (!(q.1 == i + 1) && !(q.1 + 1 == i && q.2.category == 2))))) : xLv X ρ aw nL ((lv.set i a).set (i + 1) (9, 0)) ls' := by
  obtain ⟨a1, a2, a3, a4⟩ := h
  refine ⟨by rw [List.length_set, List.length_set]; exact a1, h'.1, h'.2.1, fun j b q1 q2 => ?_⟩
  by_cases hj1 : j = i + 1
  · subst hj1
    rw [List.getElem?_set_self (by rw [List.length_set]; exact hi2)] at q1
    cases q1
    exact absurd rfl q2
  · rw [List.getElem?_set_ne (fun e => hj1 e.symm)] at q1
    by_cases hj : j = i
    · subst hj
      rw [List.getElem?_set_self hi] at q1
      cases q1
      exact ⟨v, h'.2.2 (j, v) List.mem_cons_self, hv⟩
    · rw [List.getElem?_set_ne (fun e => hj e.symm)] at q1
      obtain ⟨w, e1, e2⟩ := a4 j b q1 q2
      have hjl : j < nL := by rw [← a1]; exact (List.getElem?_eq_some_iff.mp q1).1
      refine ⟨w, h'.2.2 (j, w) (List.mem_cons_of_mem _ (List.mem_filter.mpr ⟨xvals_mem e1 hjl, ?_⟩)), e2⟩
      simp only [Bool.and_eq_true, Bool.not_eq_true', beq_eq_false_iff_ne, ne_eq, Bool.and_eq_false_iff]
      refine ⟨hj, hj1, ?_⟩
      by_cases hq : j + 1 = i
      · right
        rw [xnl_ok hn hq q1 e2]
        decide
      · exact Or.inl hq
