/-! laws of the lists' words -/
theorem xk_nth_ok {α β : Type} {k : α → Option β} {r : β} : ∀ {l : List α} {n : Nat}, xk_nth l n k = some r → ∃ a, l[n]? = some a ∧ k a = some r
  | [], _, h => nomatch (show (none : Option β) = some r from h)
  | a :: _, 0, h => ⟨a, rfl, h⟩
  | _ :: l, n + 1, h => by
    obtain ⟨b, h1, h2⟩ := xk_nth_ok (l := l) (n := n) h
    exact ⟨b, by simpa using h1, h2⟩
theorem xk_set_ok {α β : Type} {r : β} {v : α} : ∀ {l : List α} {n : Nat} {k : List α → Option β}, xk_set l n v k = some r → n < l.length ∧ k (l.set n v) = some r
  | [], _, _, h => nomatch (show (none : Option β) = some r from h)
  | a :: l, 0, _, h => ⟨by simp, h⟩
  | a :: l, n + 1, k, h => by
    obtain ⟨h1, h2⟩ := xk_set_ok (l := l) (n := n) (k := fun t' => k (a :: t')) h
    exact ⟨by simpa using h1, by simpa using h2⟩
theorem xk_push_ok {α β : Type} {r : β} {x : α} : ∀ {l : List α} {n : Nat} {k : List α → Nat → Option β}, xk_push l x n k = some r → k (l ++ [x]) (n + l.length) = some r
  | [], n, k, h => by simpa [xk_push] using h
  | a :: l, n, k, h => by
    have h1 := xk_push_ok (l := l) (n := Nat.succ n) (k := fun l' m => k (a :: l') m) (by simpa [xk_push] using h)
    have e : Nat.succ n + l.length = n + (a :: l).length := by simp; omega
    rw [e] at h1
    simpa using h1
theorem xk_take_ok {α β : Type} {r : β} : ∀ {n : Nat} {acc l : List α} {k : List α → List α → Option β}, xk_take n acc l k = some r → ∃ l1 l2, l = l1 ++ l2 ∧ l1.length = n ∧ k (l1.reverse ++ acc) l2 = some r
  | 0, acc, l, k, h => ⟨[], l, rfl, rfl, h⟩
  | n + 1, acc, [], k, h => nomatch (show (none : Option β) = some r from h)
  | n + 1, acc, a :: l, k, h => by
    obtain ⟨l1, l2, h1, h2, h3⟩ := xk_take_ok (n := n) (acc := a :: acc) (l := l) h
    exact ⟨a :: l1, l2, by rw [h1]; rfl, by simp [h2], by simpa using h3⟩
theorem xk_drop_eq {α : Type} : ∀ (n : Nat) (l : List α), xk_drop n l = l.drop n
  | 0, l => rfl
  | n + 1, [] => rfl
  | n + 1, a :: l => xk_drop_eq n l
theorem xk_at_eq {α : Type} : ∀ (l : List α) (n : Nat), xk_at l n = l[n]?
  | [], _ => rfl
  | _ :: _, 0 => rfl
  | _ :: l, n + 1 => by
    rw [List.getElem?_cons_succ]
    exact xk_at_eq l n
theorem xk_pad_ok {β : Type} {r : β} : ∀ {n : Nat} {l : List xV} {k : List xV → Option β}, xk_pad n l k = some r → l.length ≤ n ∧ k (l ++ List.replicate (n - l.length) (9, 0)) = some r
  | 0, [], k, h => ⟨Nat.le_refl 0, h⟩
  | 0, a :: l, k, h => nomatch (show (none : Option β) = some r from h)
  | n + 1, [], k, h => by
    obtain ⟨-, h2⟩ := xk_pad_ok (n := n) (l := []) (k := fun t => k ((9, 0) :: t)) h
    exact ⟨Nat.zero_le _, by simpa [List.replicate_succ] using h2⟩
  | n + 1, a :: l, k, h => by
    obtain ⟨h1, h2⟩ := xk_pad_ok (n := n) (l := l) (k := fun t => k (a :: t)) h
    exact ⟨by simpa using h1, by simpa using h2⟩
/-- the cell at a place -/
def xl (h : xH) (i : Nat) : Option xC := (h.2[i / 12]?).bind fun c => c[i % 12]?
theorem xk_hget_ok {β : Type} {r : β} {h : xH} {i : Nat} {k : xC → Option β} (hk : xk_hget h i k = some r) : ∃ c, xl h i = some c ∧ k c = some r := by
  obtain ⟨c, h1, h2⟩ := xk_nth_ok hk
  obtain ⟨x, h3, h4⟩ := xk_nth_ok h2
  refine ⟨x, ?_, h4⟩
  show (h.2[Nat.div i 12]?).bind _ = _
  rw [h1]
  exact h3
theorem xk_hset_ok {β : Type} {r : β} {h : xH} {i : Nat} {v : xC} {k : xH → Option β} (hk : xk_hset h i v k = some r) : ∃ h', h'.1 = h.1 ∧ (∀ j, xl h' j = if j = i then some v else xl h j) ∧ k h' = some r := by
  obtain ⟨c, h1, h2⟩ := xk_nth_ok hk
  obtain ⟨h3, h4⟩ := xk_set_ok h2
  obtain ⟨h5, h6⟩ := xk_set_ok h4
  refine ⟨(h.1, h.2.set (Nat.div i 12) (c.set (Nat.mod i 12) v)), rfl, fun j => ?_, h6⟩
  have h1' : h.2[i / 12]? = some c := h1
  have h3' : i % 12 < c.length := h3
  have h5' : i / 12 < h.2.length := h5
  show ((h.2.set (i / 12) (c.set (i % 12) v))[j / 12]?).bind (fun c => c[j % 12]?) = _
  by_cases hq : j / 12 = i / 12
  · rw [hq, List.getElem?_set_self h5']
    show (c.set (i % 12) v)[j % 12]? = _
    by_cases hr : j % 12 = i % 12
    · have : j = i := by omega
      rw [if_pos this, hr, List.getElem?_set_self h3']
    · have : ¬ j = i := fun e => hr (by rw [e])
      rw [if_neg this, List.getElem?_set_ne (fun e => hr e.symm)]
      show _ = (h.2[j / 12]?).bind _
      rw [hq, h1']
      rfl
  · have : ¬ j = i := fun e => hq (by rw [e])
    rw [if_neg this, List.getElem?_set_ne (fun e => hq e.symm)]
    rfl
/-! numbers -/
theorem xo_toInt (n : Nat) : (Int32.ofNat n).toInt = (xo n : Int) - 2147483648 := by
  have h : (Int32.ofNat n).toInt = (n : Int).bmod (2 ^ 32) := by
    first | exact Int32.toInt_ofNat' | exact Int32.toInt_ofNat | simp [Int32.toInt_ofNat']
  have e : (xo n : Int) = ((n : Int) + 2147483648) % 4294967296 := by
    show (((n + 2147483648) % 4294967296 : Nat) : Int) = _
    omega
  rw [h, e, Int.bmod_def]
  split <;> omega
theorem xh_in_ok {n len : Nat} (h : xh_in n len = true) (hl : len < 2 ^ 31) : vp_in (Int32.ofNat n) len ∧ (Int32.ofNat n).toNatClampNeg = xh_ix n ∧ xh_ix n < len := by
  unfold xh_in at h
  rw [Bool.and_eq_true] at h
  have h1 := Nat.le_of_ble_eq_true h.1
  have h2 : xo n + 1 ≤ len + 2147483648 := Nat.le_of_ble_eq_true h.2
  have hi := xo_toInt n
  have hx : xh_ix n = xo n - 2147483648 := rfl
  refine ⟨vp_in_iff.mpr ⟨by omega, by omega⟩, ?_, by omega⟩
  show (Int32.ofNat n).toInt.toNat = _
  omega
theorem xn_add_ok (a b : Nat) : Int32.ofNat (xn_add a b) = Int32.ofNat a + Int32.ofNat b := by
  show Int32.ofNat ((a + b) % 4294967296) = _
  rw [xx_n_mod, Int32.ofNat_add]
theorem xn_mul_ok (a b : Nat) : Int32.ofNat (xn_mul a b) = Int32.ofNat a * Int32.ofNat b := by
  show Int32.ofNat ((a * b) % 4294967296) = _
  rw [xx_n_mod, Int32.ofNat_mul]
theorem xn_sub_ok (a b : Nat) : Int32.ofNat (xn_sub a b) = Int32.ofNat a - Int32.ofNat b := by
  show Int32.ofNat ((a + (4294967296 - b % 4294967296)) % 4294967296) = _
  rw [xx_n_mod, Int32.ofNat_add]
  have h : Int32.ofNat (4294967296 - b % 4294967296) = - Int32.ofNat b := by
    have h0 : Int32.ofNat (4294967296 - b % 4294967296) + Int32.ofNat b = 0 := by
      rw [← xx_n_mod b, ← Int32.ofNat_add, show 4294967296 - b % 4294967296 + b % 4294967296 = 4294967296 by omega]
      decide
    have h1 : Int32.ofNat (4294967296 - b % 4294967296) = Int32.ofNat (4294967296 - b % 4294967296) + Int32.ofNat b - Int32.ofNat b := by rw [Int32.add_sub_cancel]
    rw [h1, h0, Int32.zero_sub]
  rw [h, Int32.sub_eq_add_neg]
theorem xn_of_ok (f : Int32 → Int32 → Int32) (a b : Nat) : Int32.ofNat (xn_of f a b) = f (Int32.ofNat a) (Int32.ofNat b) := xx_n_of _
