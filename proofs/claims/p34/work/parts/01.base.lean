/-! values, symbols, cells of the checked run: lists side by side, numbers packed in one -/
theorem xx_n_of (x : Int32) : Int32.ofNat x.toUInt32.toNat = x := by
  apply Int32.toBitVec_inj.mp
  simp
theorem xx_l_of (x : Int64) : Int64.ofNat x.toUInt64.toNat = x := by
  apply Int64.toBitVec_inj.mp
  simp
def xx_n (x : Int32) : Nat := x.toUInt32.toNat
def xx_ln (x : Int64) : Nat := x.toUInt64.toNat
theorem xx_n_mod (n : Nat) : Int32.ofNat (n % 4294967296) = Int32.ofNat n := by
  apply Int32.toBitVec_inj.mp
  apply BitVec.eq_of_toNat_eq
  simp
theorem xx_l_mod (n : Nat) : Int64.ofNat (n % 18446744073709551616) = Int64.ofNat n := by
  apply Int64.toBitVec_inj.mp
  apply BitVec.eq_of_toNat_eq
  simp
/-- a number, made plain before it goes on -/
def xx_f {α : Type} (n : Nat) (k : Nat → α) : α := Nat.rec (motive := fun _ => α) (k 0) (fun m _ => k (Nat.succ m)) n
theorem xx_f_eq {α : Type} (n : Nat) (k : Nat → α) : xx_f n k = k n := by cases n <;> rfl
/-! two lists, entry by entry -/
def xx_2 {α β : Type} (R : α → β → Prop) : List α → List β → Prop
  | [], [] => True
  | a :: l, b :: m => R a b ∧ xx_2 R l m
  | _, _ => False
section X2
variable {α β : Type} {R R' : α → β → Prop}
theorem xx_2_nil {m : List β} (h : xx_2 R [] m) : m = [] := by
  cases m with
  | nil => rfl
  | cons b m => exact absurd h id
theorem xx_2_cons {a : α} {l : List α} {m : List β} (h : xx_2 R (a :: l) m) : ∃ b m', m = b :: m' ∧ R a b ∧ xx_2 R l m' := by
  cases m with
  | nil => exact absurd h id
  | cons b m => exact ⟨b, m, rfl, h.1, h.2⟩
theorem xx_2_len : ∀ {l : List α} {m : List β}, xx_2 R l m → l.length = m.length
  | [], [], _ => rfl
  | _ :: l, _ :: m, h => by simp [xx_2_len h.2]
  | [], _ :: _, h => absurd h id
  | _ :: _, [], h => absurd h id
theorem xx_2_get : ∀ {l : List α} {m : List β}, xx_2 R l m → ∀ {k : Nat} {a : α}, l[k]? = some a → ∃ b, m[k]? = some b ∧ R a b
  | [], [], _, k, a, h => by simp at h
  | x :: l, y :: m, H, 0, a, h => by
    simp at h
    subst h
    exact ⟨y, rfl, H.1⟩
  | x :: l, y :: m, H, k + 1, a, h => by
    simp at h
    obtain ⟨b, h1, h2⟩ := xx_2_get H.2 h
    exact ⟨b, by simpa using h1, h2⟩
  | [], _ :: _, h, _, _, _ => absurd h id
  | _ :: _, [], h, _, _, _ => absurd h id
theorem xx_2_set : ∀ {l : List α} {m : List β}, xx_2 R l m → ∀ (k : Nat) {a : α} {b : β}, R a b → xx_2 R (l.set k a) (m.set k b)
  | [], [], _, k, a, b, _ => by simp [xx_2]
  | x :: l, y :: m, H, 0, a, b, h => ⟨h, H.2⟩
  | x :: l, y :: m, H, k + 1, a, b, h => ⟨H.1, xx_2_set H.2 k h⟩
  | [], _ :: _, h, _, _, _, _ => absurd h id
  | _ :: _, [], h, _, _, _, _ => absurd h id
theorem xx_2_app : ∀ {l : List α} {m : List β}, xx_2 R l m → ∀ {l' : List α} {m' : List β}, xx_2 R l' m' → xx_2 R (l ++ l') (m ++ m')
  | [], [], _, _, _, h => h
  | _ :: _, _ :: _, H, _, _, h => ⟨H.1, xx_2_app H.2 h⟩
  | [], _ :: _, h, _, _, _ => absurd h id
  | _ :: _, [], h, _, _, _ => absurd h id
theorem xx_2_mono (hr : ∀ a b, R a b → R' a b) : ∀ {l : List α} {m : List β}, xx_2 R l m → xx_2 R' l m
  | [], [], _ => trivial
  | _ :: _, _ :: _, H => ⟨hr _ _ H.1, xx_2_mono hr H.2⟩
  | [], _ :: _, h => absurd h id
  | _ :: _, [], h => absurd h id
theorem xx_2_split : ∀ {l : List α} {l' : List α} {m : List β}, xx_2 R (l ++ l') m → ∃ m1 m2, m = m1 ++ m2 ∧ xx_2 R l m1 ∧ xx_2 R l' m2
  | [], l', m, h => ⟨[], m, rfl, trivial, h⟩
  | a :: l, l', [], h => absurd h id
  | a :: l, l', b :: m, h => by
    obtain ⟨m1, m2, e, h1, h2⟩ := xx_2_split h.2
    exact ⟨b :: m1, m2, by rw [e]; rfl, ⟨h.1, h1⟩, h2⟩
theorem xx_2_rev {l : List α} {m : List β} (h : xx_2 R l m) : xx_2 R l.reverse m.reverse := by
  induction l generalizing m with
  | nil => rw [xx_2_nil h]; trivial
  | cons a l ih =>
    obtain ⟨b, m', rfl, h1, h2⟩ := xx_2_cons h
    simp only [List.reverse_cons]
    exact xx_2_app (ih h2) ⟨h1, trivial⟩
end X2
/-- one list goes on where another ends -/
def xx_e {α : Type} (l l' : List α) : Prop := ∃ t, l' = l ++ t
theorem xx_e_rf {α : Type} (l : List α) : xx_e l l := ⟨[], by simp⟩
theorem xx_e_tr {α : Type} {a b c : List α} (h : xx_e a b) (k : xx_e b c) : xx_e a c := by
  obtain ⟨t, rfl⟩ := h
  obtain ⟨u, rfl⟩ := k
  exact ⟨t ++ u, by simp⟩
theorem xx_e_get {α : Type} {a b : List α} (h : xx_e a b) {k : Nat} {x : α} (hx : a[k]? = some x) : b[k]? = some x := by
  obtain ⟨t, rfl⟩ := h
  rw [List.getElem?_append_left (List.getElem?_eq_some_iff.mp hx).1]
  exact hx
theorem xx_e_one {α : Type} (l : List α) (x : α) : xx_e l (l ++ [x]) := ⟨[x], rfl⟩
/-! rows of numbers in one number -/
def xx_g (w N i : Nat) : Nat := (N >>> (w * i)) % 2 ^ w
def xx_p (w N i v : Nat) : Nat := N ^^^ ((xx_g w N i ^^^ (v % 2 ^ w)) <<< (w * i))
theorem xx_gp_same (w N i v : Nat) : xx_g w (xx_p w N i v) i = v % 2 ^ w := by
  apply Nat.eq_of_testBit_eq
  intro j
  simp only [xx_g, xx_p, Nat.testBit_mod_two_pow, Nat.testBit_shiftRight, Nat.testBit_xor, Nat.testBit_shiftLeft]
  by_cases hj : j < w
  · simp [hj]
  · simp [hj]
theorem xx_gp_other (w N i v k : Nat) (h : k ≠ i) : xx_g w (xx_p w N i v) k = xx_g w N k := by
  apply Nat.eq_of_testBit_eq
  intro j
  simp only [xx_g, xx_p, Nat.testBit_mod_two_pow, Nat.testBit_shiftRight, Nat.testBit_xor, Nat.testBit_shiftLeft]
  by_cases hj : j < w
  · simp only [hj, decide_true, Bool.true_and]
    rcases Nat.lt_or_gt_of_ne h with q | q
    · have : ¬ w * i ≤ w * k + j := by
        have := Nat.mul_le_mul_left w (show k + 1 ≤ i from q)
        rw [Nat.mul_add] at this
        omega
      simp [this]
    · have h1 := Nat.mul_le_mul_left w (show i + 1 ≤ k from q)
      rw [Nat.mul_add] at h1
      have : ¬ w * k + j - w * i < w := by omega
      simp [this]
  · simp [hj]
