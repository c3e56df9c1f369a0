/-! rules, in a form that is easy to prove -/
/-- the number at a place -/
def zwo (ws : va_W) (r i : Nat) : Option Int := (ws[r]?).bind fun p => match zat p.2 i with
  | some (.int x) => some x.toInt
  | _ => none
theorem zwo_of {ws : va_W} {r i : Nat} {p : Nat × va_E} {x : Int32} (h : ws[r]? = some p) (h2 : zat p.2 i = some (.int x)) : zwo ws r i = some x.toInt := by
  unfold zwo
  rw [h]
  show (match zat p.2 i with | some (.int x) => some x.toInt | _ => none) = _
  rw [h2]
theorem zwo_inv {ws : va_W} {r i : Nat} {v : Int} (h : zwo ws r i = some v) : ∃ p x, ws[r]? = some p ∧ zat p.2 i = some (.int x) ∧ x.toInt = v := by
  unfold zwo at h
  cases hp : ws[r]? with
  | none => rw [hp] at h; cases h
  | some p =>
    rw [hp] at h
    have h' : (match zat p.2 i with | some (.int x) => some x.toInt | _ => none) = some v := h
    split at h'
    · rename_i x hx
      exact ⟨p, x, rfl, hx, Option.some.inj h'⟩
    · cases h'
theorem zwo_ag {P : zPl} {ws ws' : va_W} (h : zag P ws ws') {r i : Nat} (hn : ¬ P r i) : zwo ws' r i = zwo ws r i := by
  cases hp : ws[r]? with
  | none =>
    have hl : ws'[r]? = none := by
      have e := congrArg List.length h.1
      rw [List.length_map, List.length_map] at e
      rw [List.getElem?_eq_none_iff] at hp ⊢
      omega
    unfold zwo
    rw [hp, hl]
  | some p =>
    obtain ⟨p', h1, -, h3⟩ := zag_at h hp
    unfold zwo
    rw [hp, h1]
    show (match zat p'.2 i with | some (.int x) => some x.toInt | _ => none) = (match zat p.2 i with | some (.int x) => some x.toInt | _ => none)
    rw [h3 i hn]
abbrev zR : Type := Nat → Nat → Option Int
/-- the n-th number -/
def zn (zs : List Int) (n : Nat) : Int := zs.getD n 0
def zs1 (J : zJp) (ws : va_W) (pr : List Int) (s : zSrc) (z : Int) : Prop := match s.1 with
  | 1 => zwo ws s.2.1 s.2.2 = some z
  | 2 => z = (s.2.1 : Int)
  | 3 => 0 ≤ zn pr s.2.2 ∧ zwo ws s.2.1 (zn pr s.2.2).toNat = some z
  | 4 => z = zn pr (s.2.2 / 1000) + zn pr s.2.1 * ((s.2.2 % 1000 : Nat) : Int)
  | 5 => J s.2.1 (zn pr s.2.2) z ws
  | 6 => J 1047 (zn pr s.2.1 + (s.2.2 : Int)) z ws
  | _ => True
def zsC (J : zJp) (ws : va_W) (K : List Int → Prop) : List zSrc → List Int → Prop
  | [], pr => K pr
  | s :: ss, pr => ∀ z, zs1 J ws pr s z → zsC J ws K ss (pr ++ [z])
def zcR (zs : List Int) (K : Prop) : List (Nat × Int × Int) → Prop
  | [] => K
  | q :: qs => q.2.1 ≤ zn zs q.1 → zn zs q.1 ≤ q.2.2 → zcR zs K qs
def zcG (zs : List Int) (K : Prop) : List (Nat × Nat × Int) → Prop
  | [] => K
  | q :: qs => zn zs q.2.1 + q.2.2 ≤ zn zs q.1 → zcG zs K qs
def zcP (ws : va_W) (zs : List Int) (K : Prop) : List zPc → Prop
  | [] => K
  | q :: qs => ∀ x, 0 ≤ zn zs q.2.1 + q.2.2.1 → zwo ws q.1 (zn zs q.2.1 + q.2.2.1).toNat = some x → q.2.2.2.1 ≤ x → x ≤ q.2.2.2.2 → zcP ws zs K qs
def zoR (zs : List Int) : List (Nat × Int × Int) → Prop
  | [] => True
  | q :: qs => (q.2.1 ≤ zn zs q.1 ∧ zn zs q.1 ≤ q.2.2) ∧ zoR zs qs
def zoP (ws : va_W) (zs : List Int) : List zPc → Prop
  | [] => True
  | q :: qs => (∀ x, 0 ≤ zn zs q.2.1 + q.2.2.1 → zwo ws q.1 (zn zs q.2.1 + q.2.2.1).toNat = some x → q.2.2.2.1 ≤ x ∧ x ≤ q.2.2.2.2) ∧ zoP ws zs qs
def zoF1 (J : zJp) (ws : va_W) (zs : List Int) (q : Nat × Nat × Int × Nat × Int) : Prop := if 1000 ≤ q.1 then J q.1 (zn zs q.2.1 + q.2.2.1) (zn zs q.2.2.2.1 + q.2.2.2.2) ws else if q.1 = 999 then zn zs q.2.2.2.1 + q.2.2.2.2 ≤ zn zs q.2.1 + q.2.2.1 else 0 ≤ zn zs q.2.1 + q.2.2.1 ∧ zwo ws q.1 (zn zs q.2.1 + q.2.2.1).toNat = some (zn zs q.2.2.2.1 + q.2.2.2.2)
def zoF (J : zJp) (ws : va_W) (zs : List Int) : List (Nat × Nat × Int × Nat × Int) → Prop
  | [] => True
  | q :: qs => zoF1 J ws zs q ∧ zoF J ws zs qs
def zoA (J : zJp) (ws : va_W) (zs : List Int) : List zAl → Prop
  | [] => False
  | a :: as => (zoR zs a.1 ∧ zoP ws zs a.2.1 ∧ zoF J ws zs a.2.2) ∨ zoA J ws zs as
def zRuN (J : zJp) (r : zRu) : Prop := ∀ (ws : va_W) (z w : Int), (r.1 = 0 ∨ J r.1 z w ws) → zsC J ws (fun zs => zcR zs (zcG zs (zcP ws zs (zoA J ws zs r.2.2.2.2.2) r.2.2.2.2.1) r.2.2.2.1) r.2.2.1) r.2.1 [z, w]
theorem zsC_use {J : zJp} {ws : va_W} {K : List Int → Prop} : ∀ {ss : List zSrc} {pr l : List Int}, zsC J ws K ss pr → zsrc J ws pr ss l → ∃ l1 l2, l = l1 ++ l2 ∧ l1.length = ss.length ∧ K (pr ++ l1)
  | [], pr, l, h, _ => ⟨[], l, rfl, rfl, by rw [List.append_nil]; exact h⟩
  | s :: ss, pr, [], h, h2 => h2.elim
  | s :: ss, pr, z :: l, h, h2 => by
    obtain ⟨a1, a2, a3, a4, a5, a6, h3⟩ := h2
    have hz : zs1 J ws pr s z := by
      unfold zs1
      split
      · rename_i q
        obtain ⟨p, x, x1, x2, x3⟩ := a1 q
        rw [x3]
        exact zwo_of x1 x2
      · rename_i q
        exact a2 q
      · rename_i q
        obtain ⟨x, ⟨p, x1, x2, x3⟩, x4⟩ := a3 q
        have x2' : 0 ≤ pr.getD s.2.2 0 + 0 := x2
        have x3' : zat p.2 (pr.getD s.2.2 0 + 0).toNat = some (.int x) := x3
        rw [Int.add_zero] at x2' x3'
        refine ⟨x2', ?_⟩
        rw [x4]
        exact zwo_of x1 x3'
      · rename_i q
        exact a4 q
      · rename_i q
        exact a5 q
      · rename_i q
        exact a6 q
      · trivial
    obtain ⟨l1, l2, e, e2, e3⟩ := zsC_use (h z hz) h3
    refine ⟨z :: l1, l2, by rw [e]; rfl, by rw [List.length_cons, List.length_cons, e2], ?_⟩
    rw [List.append_assoc] at e3
    exact e3
theorem zcR_use {zs : List Int} {K : Prop} : ∀ {qs : List (Nat × Int × Int)}, zcR zs K qs → (∀ q ∈ qs, q.2.1 ≤ zs.getD q.1 0 ∧ zs.getD q.1 0 ≤ q.2.2) → K
  | [], h, _ => h
  | q :: qs, h, h2 => zcR_use (h (h2 q List.mem_cons_self).1 (h2 q List.mem_cons_self).2) (fun q' hq' => h2 q' (List.mem_cons_of_mem _ hq'))
theorem zcG_use {zs : List Int} {K : Prop} : ∀ {qs : List (Nat × Nat × Int)}, zcG zs K qs → (∀ q ∈ qs, zs.getD q.2.1 0 + q.2.2 ≤ zs.getD q.1 0) → K
  | [], h, _ => h
  | q :: qs, h, h2 => zcG_use (h (h2 q List.mem_cons_self)) (fun q' hq' => h2 q' (List.mem_cons_of_mem _ hq'))
theorem zcP_use {ws : va_W} {zs : List Int} {K : Prop} : ∀ {qs : List zPc}, zcP ws zs K qs → (∀ q ∈ qs, ∃ x, zpc ws zs q x ∧ q.2.2.2.1 ≤ x.toInt ∧ x.toInt ≤ q.2.2.2.2) → K
  | [], h, _ => h
  | q :: qs, h, h2 => by
    obtain ⟨x, ⟨p, x1, x2, x3⟩, x4, x5⟩ := h2 q List.mem_cons_self
    exact zcP_use (h _ x2 (zwo_of x1 x3) x4 x5) (fun q' hq' => h2 q' (List.mem_cons_of_mem _ hq'))
theorem zoR_out {zs : List Int} : ∀ {qs : List (Nat × Int × Int)}, zoR zs qs → ∀ q ∈ qs, q.2.1 ≤ zs.getD q.1 0 ∧ zs.getD q.1 0 ≤ q.2.2
  | [], _, q, hq => absurd hq List.not_mem_nil
  | q :: qs, h, q', hq' => by
    rcases List.mem_cons.mp hq' with rfl | hq'
    · exact h.1
    · exact zoR_out h.2 q' hq'
theorem zoP_out {ws : va_W} {zs : List Int} : ∀ {qs : List zPc}, zoP ws zs qs → ∀ q ∈ qs, ∀ x, zpc ws zs q x → q.2.2.2.1 ≤ x.toInt ∧ x.toInt ≤ q.2.2.2.2
  | [], _, q, hq => absurd hq List.not_mem_nil
  | q :: qs, h, q', hq' => by
    rcases List.mem_cons.mp hq' with rfl | hq'
    · rintro x ⟨p, x1, x2, x3⟩
      exact h.1 _ x2 (zwo_of x1 x3)
    · exact zoP_out h.2 q' hq'
theorem zoF_out {J : zJp} {ws : va_W} {zs : List Int} : ∀ {qs : List (Nat × Nat × Int × Nat × Int)}, zoF J ws zs qs → ∀ q ∈ qs, zcas J ws zs q
  | [], _, q, hq => absurd hq List.not_mem_nil
  | q :: qs, h, q', hq' => by
    rcases List.mem_cons.mp hq' with rfl | hq'
    · have h1 := h.1
      unfold zoF1 at h1
      refine ⟨fun a => ?_, fun a => ?_, fun a => ?_⟩
      · rw [if_pos a] at h1
        exact h1
      · rw [if_neg (by omega), if_neg (by omega)] at h1
        obtain ⟨p, x, p1, p2, p3⟩ := zwo_inv h1.2
        exact ⟨x, ⟨p, p1, h1.1, p2⟩, p3⟩
      · rw [if_neg (by omega), if_pos a] at h1
        exact h1
    · exact zoF_out h.2 q' hq'
theorem zoA_out {J : zJp} {ws : va_W} {zs : List Int} : ∀ {as : List zAl}, zoA J ws zs as → ∃ a ∈ as, zoR zs a.1 ∧ zoP ws zs a.2.1 ∧ zoF J ws zs a.2.2
  | [], h => h.elim
  | a :: as, h => by
    rcases h with h | h
    · exact ⟨a, List.mem_cons_self, h⟩
    · obtain ⟨b, b1, b2⟩ := zoA_out h
      exact ⟨b, List.mem_cons_of_mem _ b1, b2⟩
theorem zgetD_app {l1 l2 : List Int} : ∀ {n : Nat}, n < l1.length → (l1 ++ l2).getD n 0 = l1.getD n 0 := fun {n} h => by
  rw [List.getD_eq_getElem?_getD, List.getD_eq_getElem?_getD, List.getElem?_append_left h]
/-- no number of a rule lies behind its sources -/
def zRuB (r : zRu) : Bool := (r.2.2.1.all fun q => decide (q.1 < r.2.1.length + 2)) && (r.2.2.2.1.all fun q => decide (q.1 < r.2.1.length + 2) && decide (q.2.1 < r.2.1.length + 2)) && (r.2.2.2.2.1.all fun q => decide (q.2.1 < r.2.1.length + 2)) && (r.2.2.2.2.2.all fun a => (a.1.all fun q => decide (q.1 < r.2.1.length + 2)) && (a.2.1.all fun q => decide (q.2.1 < r.2.1.length + 2)) && (a.2.2.all fun q => decide (q.2.1 < r.2.1.length + 2) && decide (q.2.2.2.1 < r.2.1.length + 2))) && decide (0 < r.2.1.length)
theorem zRuN_ok {J : zJp} {r : zRu} (hb : zRuB r = true) (h : zRuN J r) : zRuOk J r := by
  unfold zRuB at hb
  simp only [Bool.and_eq_true, List.all_eq_true, decide_eq_true_eq] at hb
  obtain ⟨⟨⟨⟨b1, b2⟩, b3⟩, b4⟩, b5⟩ := hb
  intro ws zs hs hj hr hg hp
  match zs, hs, hj, hr, hg, hp with
  | [], hs, _, _, _, _ =>
    cases hc : r.2.1 with
    | nil => rw [hc] at b5; exact absurd b5 (by decide)
    | cons s ss => rw [hc] at hs; exact hs.elim
  | [z], hs, _, _, _, _ =>
    cases hc : r.2.1 with
    | nil => rw [hc] at b5; exact absurd b5 (by decide)
    | cons s ss => rw [hc] at hs; exact hs.elim
  | z :: w :: l, hs, hj, hr, hg, hp =>
    obtain ⟨l1, l2, e, e2, e3⟩ := zsC_use (h ws z w hj) hs
    have e' : z :: w :: l = ([z, w] ++ l1) ++ l2 := by
      have : l = l1 ++ l2 := e
      rw [this]
      rfl
    rw [e'] at hr hg hp ⊢
    have el : ([z, w] ++ l1).length = r.2.1.length + 2 := by
      rw [List.length_append, e2]
      show 2 + _ = _
      omega
    have gd : ∀ n, n < r.2.1.length + 2 → (([z, w] ++ l1) ++ l2).getD n 0 = ([z, w] ++ l1).getD n 0 := fun n hn => zgetD_app (by rw [el]; exact hn)
    have f := zcP_use (zcG_use (zcR_use e3 (fun q hq => by have := hr q hq; rw [gd _ (b1 q hq)] at this; exact this)) (fun q hq => by have := hg q hq; rw [gd _ (b2 q hq).1, gd _ (b2 q hq).2] at this; exact this)) (fun q hq => by
      obtain ⟨x, ⟨p, x1, x2, x3⟩, x4⟩ := hp q hq
      rw [gd _ (b3 q hq)] at x2 x3
      exact ⟨x, ⟨p, x1, x2, x3⟩, x4⟩)
    obtain ⟨a, a1, a2, a3, a4⟩ := zoA_out f
    obtain ⟨⟨c1, c2⟩, c3⟩ := b4 a a1
    refine ⟨a, a1, fun q hq => ?_, fun q hq x hx => ?_, fun q hq => ?_⟩
    · rw [gd _ (c1 q hq)]
      exact zoR_out a2 q hq
    · obtain ⟨p, x1, x2, x3⟩ := hx
      rw [gd _ (c2 q hq)] at x2 x3
      exact zoP_out a3 q hq x ⟨p, x1, x2, x3⟩
    · have t := zoF_out a4 q hq
      unfold zcas at t ⊢
      rw [gd _ (c3 q hq).1, gd _ (c3 q hq).2]
      refine ⟨t.1, fun a => ?_, t.2.2⟩
      obtain ⟨x, ⟨p, x1, x2, x3⟩, x4⟩ := t.2.1 a
      refine ⟨x, ⟨p, x1, ?_, ?_⟩, x4⟩
      · show 0 ≤ (([z, w] ++ l1) ++ l2).getD q.2.1 0 + q.2.2.1
        rw [gd _ (c3 q hq).1]
        exact x2
      · show zat p.2 ((([z, w] ++ l1) ++ l2).getD q.2.1 0 + q.2.2.1).toNat = _
        rw [gd _ (c3 q hq).1]
        exact x3
