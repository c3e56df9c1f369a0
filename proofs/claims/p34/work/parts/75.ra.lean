/-! the rules hold: what is wanted again and again -/
theorem zoA_mem {J : zJp} {ws : va_W} {zs : List Int} {as : List zAl} {a : zAl} (h : a ∈ as) (h2 : zoR zs a.1 ∧ zoP ws zs a.2.1 ∧ zoF J ws zs a.2.2) : zoA J ws zs as := by
  induction as with
  | nil => exact absurd h List.not_mem_nil
  | cons b bs ih =>
    rcases List.mem_cons.mp h with rfl | h
    · exact Or.inl h2
    · exact Or.inr (ih h)
theorem zwo_rng {ws : va_W} {r i : Nat} {x : Int} (h : zwo ws r i = some x) : -2147483648 ≤ x ∧ x ≤ 2147483647 := by
  obtain ⟨p, y, -, -, rfl⟩ := zwo_inv h
  exact zfull_ok y
theorem zhs_le {c : Int} {h h' : Nat} (e : zhs c h = some h') (hh : h ≤ 59) : h' ≤ 59 := by
  unfold zhs at e
  split at e
  · split at e
    · cases e; exact hh
    · cases e
  · split at e
    · split at e
      · cases e; omega
      · cases e
    · split at e
      · cases e; omega
      · cases e
theorem zhg_le {f : Nat → Int} {b : Nat} : ∀ {n h : Nat}, zhg f b n = some h → h ≤ 59
  | 0, h, e => by
    have : some 0 = some h := e
    cases this
    omega
  | n + 1, h, e => by
    have e' : (zhg f b n).bind (zhs (f (b + n))) = some h := e
    cases hp : zhg f b n with
    | none => rw [hp] at e'; cases e'
    | some h0 =>
      rw [hp] at e'
      exact zhs_le e' (zhg_le hp)
theorem zhg_some {f : Nat → Int} {b : Nat} : ∀ {n m : Nat}, m ≤ n → zhg f b n ≠ none → zhg f b m ≠ none
  | 0, m, hm, h => by
    have : m = 0 := by omega
    subst this
    exact h
  | n + 1, m, hm, h => by
    by_cases e : m = n + 1
    · subst e
      exact h
    · refine zhg_some (n := n) (by omega) (fun q => h ?_)
      show (zhg f b n).bind _ = none
      rw [q]
      rfl
theorem zcnt_le {f : Nat → Int} : ∀ {n : Nat}, 0 ≤ zcnt f n ∧ (1 ≤ n → zcnt f n ≤ (n : Int) - 1)
  | 0 => ⟨Int.le_refl _, fun h => by omega⟩
  | n + 1 => by
    have h := zcnt_le (f := f) (n := n)
    show 0 ≤ zcnt f n + (if 1 ≤ n ∧ (f n = 3 ∨ f n = 7) then 1 else 0) ∧ (1 ≤ n + 1 → zcnt f n + (if 1 ≤ n ∧ (f n = 3 ∨ f n = 7) then 1 else 0) ≤ ((n + 1 : Nat) : Int) - 1)
    by_cases hn : 1 ≤ n
    · have h2 := h.2 hn
      split
      · exact ⟨by omega, fun _ => by omega⟩
      · exact ⟨by omega, fun _ => by omega⟩
    · have e : n = 0 := by omega
      subst e
      rw [if_neg (fun q => by omega)]
      exact ⟨by omega, fun _ => by show zcnt f 0 + 0 ≤ _; show (0 : Int) + 0 ≤ _; omega⟩
theorem zcnt_s {f : Nat → Int} {n : Nat} (hn : 1 ≤ n) : zcnt f (n + 1) = zcnt f n + (if f n = 3 ∨ f n = 7 then 1 else 0) := by
  show zcnt f n + (if 1 ≤ n ∧ (f n = 3 ∨ f n = 7) then 1 else 0) = _
  by_cases h : f n = 3 ∨ f n = 7
  · rw [if_pos ⟨hn, h⟩, if_pos h]
  · rw [if_neg (fun q => h q.2), if_neg h]
/-- the pile grows by one -/
theorem zK_push {G : zR} {wt C S u w x y : Int} {r : Nat} (h : zKp G wt r C S u w) (hx : zgv G 116 S.toNat = x) (hy : zgv G 117 S.toNat = y) (hp : zpe x y) : zcnt (zgv G 116) (S + 1).toNat = w + (if x = 3 ∨ x = 7 then 1 else 0) ∧ ∀ i : Nat, 1 ≤ i → (i : Int) < S + 1 → zpe (zgv G 116 i) (zgv G 117 i) := by
  obtain ⟨a1, a2, a3, a4, a5, a6, a7, a8, a9, b0, b1⟩ := h
  have e : (S + 1).toNat = S.toNat + 1 := by omega
  refine ⟨?_, fun i hi hs => ?_⟩
  · rw [e, zcnt_s (by omega), ← a9, hx]
  · by_cases q : (i : Int) < S
    · exact a8 i hi q
    · have e2 : i = S.toNat := by omega
      subst e2
      rw [hx, hy]
      exact hp
/-- its top is taken off -/
theorem zK_pop {G : zR} {wt C S u w : Int} {r : Nat} (h : zKp G wt r C (S + 1) u w) (hS : 1 ≤ S) : zcnt (zgv G 116) S.toNat = w - (if zgv G 116 S.toNat = 3 ∨ zgv G 116 S.toNat = 7 then 1 else 0) ∧ (∀ i : Nat, 1 ≤ i → (i : Int) < S → zpe (zgv G 116 i) (zgv G 117 i)) ∧ zpe (zgv G 116 S.toNat) (zgv G 117 S.toNat) ∧ 0 ≤ zcnt (zgv G 116) S.toNat ∧ zcnt (zgv G 116) S.toNat ≤ S - 1 := by
  obtain ⟨a1, a2, a3, a4, a5, a6, a7, a8, a9, b0, b1⟩ := h
  have e : (S + 1).toNat = S.toNat + 1 := by omega
  rw [e, zcnt_s (by omega)] at a9
  have hc := zcnt_le (f := zgv G 116) (n := S.toNat)
  have hc2 := hc.2 (by omega)
  refine ⟨by omega, fun i hi hs => a8 i hi (by omega), a8 _ (by omega) (by omega), hc.1, by omega⟩
/-- one more is written -/
theorem zhg_step {f : Nat → Int} {b : Nat} {C : Int} {h h' : Nat} {c : Int} (hb : (b : Int) ≤ C) (hg : zhg f b (C - b).toNat = some h) (hc : f C.toNat = c) (hs : zhs c h = some h') : zhg f b (C + 1 - b).toNat = some h' := by
  have e : (C + 1 - b).toNat = (C - b).toNat + 1 := by omega
  rw [e]
  show (zhg f b (C - b).toNat).bind (zhs (f (b + (C - b).toNat))) = _
  rw [hg, show b + (C - b).toNat = C.toNat by omega, hc]
  exact hs
