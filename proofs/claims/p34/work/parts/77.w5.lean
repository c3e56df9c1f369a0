/-! for scripts of any length: printed by wip/p34/genw.py out of my rows of p1 -/
/-! what is decided of the rows, and what it gives -/
theorem xwd_ok_w {i : Nat} {w : Cond} (h : xwd i w = true) : w ∈ xTb := by
  unfold xwd at h
  rw [xk_at_eq] at h
  split at h
  · rename_i l hl
    rw [xk_at_eq] at h
    split at h
    · rename_i w' e
      have h' := xan h
      have e2 : w' = w := of_decide_eq_true h'.1
      rw [e2] at e
      exact List.mem_filter.mpr ⟨xch_ok l (List.mem_of_getElem? hl) w (List.mem_of_getElem? e), h'.2⟩
    · cases h
  · cases h
theorem xlayb_ok_w {C : String} {T : u_T} : ∀ {l : List Nat} {k : Nat}, xlayb C T k l = true → ∀ j, j < l.length → u_lay C T (k + j) ∈ xTb
  | [], _, _, j, hj => absurd hj (Nat.not_lt_zero j)
  | i :: l, k, h, 0, _ => xwd_ok_w (xan h).1
  | i :: l, k, h, j + 1, hj => by
    have := xlayb_ok_w (xan h).2 j (by simpa using hj)
    rw [show k + (j + 1) = k + 1 + j by omega]
    exact this
theorem xlays_ok_w {C : String} {T : u_T} {N : Nat} (l : List Nat) (hl : l.length = N) (h : xlayb C T 0 l = true) : ∀ w ∈ u_ws C T N, w ∈ xTb := by
  intro w hw
  obtain ⟨k, hk, rfl⟩ := List.mem_map.mp hw
  have := xlayb_ok_w h k (by rw [hl]; exact List.mem_range.mp hk)
  rw [Nat.zero_add] at this
  exact this
def xCf_w (ci : Nat) (q : vw_C) (ty0 : Nat → FieldType) (df : List xV) : Prop := (∀ w ∈ u_ws q.1 q.2.1 q.2.2, w ∈ xTb) ∧ (∀ k, k < q.2.2 → parseFieldDescriptor (q.2.1 k).2.2.1 = some (ty0 k)) ∧ (∀ a, a < q.2.2 → ∀ b, b < q.2.2 → a ≠ b → (q.2.1 a).2.1 ≠ (q.2.1 b).2.1) ∧ xDF[ci]? = some df ∧ df.length = q.2.2 ∧ df.all xdok_w = true ∧ (∀ j, j < q.2.2 → defaultValue (ty0 j) = vp_V (df.map xdv_w) j) ∧ Cond.instantiable q.1 q.2.2 ∈ xTb ∧ Cond.initialized q.1 ∈ xTb
theorem xnst_ok_w {j : Nat} {w : Cond} (h : xnst j w = true) : w ∈ xNW := by
  unfold xnst at h
  rw [xk_at_eq] at h
  split at h
  · rename_i w' e
    have e2 : w' = w := of_decide_eq_true h
    rw [e2] at e
    exact List.mem_of_getElem? e
  · cases h
theorem xjmp_ok_w {ents : List xE} {pc : Nat} {off : Int} {j : Nat} (h : xjmp ents pc off j = true) : ∃ e, ents[j]? = some e ∧ (pc : Int) + off = (e.1 : Int) := by
  unfold xjmp at h
  rw [xk_at_eq] at h
  split at h
  · rename_i e q
    exact ⟨e, q, of_decide_eq_true h⟩
  · cases h
theorem xtabs_ok_w {ents : List xE} {pc N : Nat} : ∀ {l : List Int} {j : Nat}, xtabs ents pc N l j = true → ∀ i o, l[i]? = some o → xjmp ents pc o (xx_g 16 N (j + i)) = true
  | [], _, _, i, o, h => by simp at h
  | a :: l, j, H, 0, o, h => by
    cases h
    exact (xan H).1
  | a :: l, j, H, i + 1, o, h => by
    rw [List.getElem?_cons_succ] at h
    have := xtabs_ok_w (xan H).2 i o h
    rw [show j + (i + 1) = j + 1 + i by omega]
    exact this
theorem xstr_ok_w {cls : String} {i n : Nat} (h : xstr cls i n = true) : ∃ tx, (cls, i, tx, n) ∈ xSR := by
  obtain ⟨q, h1, h2⟩ := List.any_eq_true.mp h
  have h3 := xan h2
  have h4 := xan h3.2
  obtain ⟨a, b, c, d⟩ := q
  have e1 : a = cls := of_decide_eq_true h3.1
  have e2 : b = i := of_decide_eq_true h4.1
  have e3 : d = n := of_decide_eq_true h4.2
  subst e1
  subst e2
  subst e3
  exact ⟨c, h1⟩
/-- what is known of Object's constructor, arraycopy, Math -/
def xJd_w : Prop := (Cond.instanceMethod objectInit ∈ xTb ∧ Cond.code objectInit ⟨#[0xb1]⟩ 1 none ∈ xTb) ∧ (Cond.native arraycopyName ∈ xTb ∧ Cond.static arraycopyName ∈ xTb ∧ Cond.initialized "java/lang/System" ∈ xTb) ∧ Cond.initialized "java/lang/Math" ∈ xTb ∧ (Cond.static Lib.Math.max.name ∈ xTb ∧ Cond.code Lib.Math.max.name Lib.Math.max.code 2 (some .int) ∈ xTb) ∧ Cond.static Lib.Math.min.name ∈ xTb ∧ Cond.code Lib.Math.min.name Lib.Math.min.code 2 (some .int) ∈ xTb
theorem xmb_ok_w {N : xM} {q : Nat × Nat × Nat × Nat} (h : xmb N q = true) : xNf_w N := by
  have h1 := xan h
  have h2 := xan h1.2
  have h3 := xan h2.2
  have h4 := xan h3.2
  have h5 := xan h4.2
  exact ⟨h1.1, xwd_ok_w h2.1, xwd_ok_w h3.1, of_decide_eq_true h4.1, of_decide_eq_true h5.1, of_decide_eq_true h5.2⟩
theorem xlnk_ok_w {own : String} {i a2 w : Nat} {y : MethodName} (h : xlnk own i a2 w y = true) : Cond.methodLink own i y ∈ xTb ∨ ∃ host, Cond.methodLinkNest own i y host ∈ xNW := by
  unfold xlnk at h
  cases hc : Nat.beq a2 1 with
  | true => rw [hc] at h; exact Or.inr ⟨_, xnst_ok_w h⟩
  | false => rw [hc] at h; exact Or.inl (xwd_ok_w h)
theorem xinv_ok_w {a1 : Nat} {k : xM → Nat × Nat × Nat × Nat → Bool} (h : xinv a1 k = true) : ∃ N q, xMT[a1]? = some N ∧ xNf_w N ∧ xk_at xNA a1 = some N.2.2.2.2.2.2.1 ∧ (∀ (e : xE) (r : List xE), N.2.2.2.2.2.2.2 = e :: r → e.1 = 0) ∧ k N q = true := by
  unfold xinv at h
  split at h
  · cases h
  · rename_i N hN
    split at h
    · cases h
    · rename_i q hq
      have h1 := xan h
      have h2 := xan h1.2
      have h3 := xan h2.2
      rw [xk_at_eq] at hN
      refine ⟨N, q, hN, xmb_ok_w h1.1, ?_, fun e r he => ?_, h3.2⟩
      · have h4 := h2.1
        split at h4
        · rename_i n hn
          rw [hn, Nat.eq_of_beq_eq_true h4]
        · cases h4
      · have h4 := h3.1
        rw [he] at h4
        exact Nat.eq_of_beq_eq_true h4
theorem xallb_ok_w {M : xM} : ∀ {l : List xE}, xallb M l = true → ∀ e ∈ l, xvb M e = true
  | [], _, e, h => absurd h List.not_mem_nil
  | a :: l, H, e, h => by
    have H' : cond (xvb M a) (xallb M l) false = true := H
    cases hv : xvb M a with
    | false => rw [hv] at H'; cases H'
    | true =>
      rw [hv] at H'
      rcases List.mem_cons.mp h with rfl | h
      · exact hv
      · exact xallb_ok_w H' e h
theorem xchain_ok_w : ∀ {pre : List xE} {e f : xE} {r : List xE}, xchain (pre ++ e :: f :: r) = true → f.1 = e.1 + e.2.1
  | [], e, f, r, h => Nat.eq_of_beq_eq_true (xan h).1
  | [a], e, f, r, h => xchain_ok_w (pre := []) (xan h).2
  | a :: b :: pre, e, f, r, h => xchain_ok_w (pre := b :: pre) (xan h).2
