/-! ranges of numbers -/
abbrev zQ : Type := Int → Int → Int → Int → Int × Int
def zfull : Int × Int := (zlo, zhi)
def zmin (a b : Int) : Int := cond (zle a b) a b
def zmax (a b : Int) : Int := cond (zle a b) b a
def zcap (iv : Int × Int) : Int × Int := cond (zin iv.1 iv.2) iv zfull
theorem zfull_ok (x : Int32) : zfull.1 ≤ x.toInt ∧ x.toInt ≤ zfull.2 := by
  have h1 := Int32.le_toInt x
  have h2 := Int32.toInt_lt x
  have e1 : zfull.1 = -2147483648 := by decide
  have e2 : zfull.2 = 2147483647 := by decide
  omega
theorem zin_ok {lo hi : Int} (h : zin lo hi = true) : -2147483648 ≤ lo ∧ hi ≤ 2147483647 := by
  have h1 := xan h
  have e1 := zle_ok.mp h1.1
  have e2 := zle_ok.mp h1.2
  have f1 : zlo = -2147483648 := by decide
  have f2 : zhi = 2147483647 := by decide
  omega
theorem zmin_ok (a b : Int) : zmin a b ≤ a ∧ zmin a b ≤ b := by
  unfold zmin
  cases h : zle a b with
  | true => have := zle_ok.mp h; show a ≤ a ∧ a ≤ b; omega
  | false =>
    have : ¬ a ≤ b := fun q => by rw [zle_ok.mpr q] at h; cases h
    show b ≤ a ∧ b ≤ b
    omega
theorem zmax_ok (a b : Int) : a ≤ zmax a b ∧ b ≤ zmax a b := by
  unfold zmax
  cases h : zle a b with
  | true => have := zle_ok.mp h; show a ≤ b ∧ b ≤ b; omega
  | false =>
    have : ¬ a ≤ b := fun q => by rw [zle_ok.mpr q] at h; cases h
    show a ≤ a ∧ b ≤ a
    omega
theorem zmin_or (a b : Int) : zmin a b = a ∨ zmin a b = b := by
  unfold zmin
  cases zle a b with
  | true => exact Or.inl rfl
  | false => exact Or.inr rfl
theorem zmax_or (a b : Int) : zmax a b = a ∨ zmax a b = b := by
  unfold zmax
  cases zle a b with
  | true => exact Or.inr rfl
  | false => exact Or.inl rfl
theorem zcap_ok {iv : Int × Int} {x : Int32} (h : -2147483648 ≤ iv.1 → iv.2 ≤ 2147483647 → iv.1 ≤ x.toInt ∧ x.toInt ≤ iv.2) : (zcap iv).1 ≤ x.toInt ∧ x.toInt ≤ (zcap iv).2 := by
  unfold zcap
  cases hc : zin iv.1 iv.2 with
  | true => exact h (zin_ok hc).1 (zin_ok hc).2
  | false => exact zfull_ok x
/-- the range of what comes of two -/
def zgood (F : Int32 → Int32 → Int32) (g : zQ) : Prop := ∀ (la ha lb hb : Int) (x y : Int32), la ≤ x.toInt → x.toInt ≤ ha → lb ≤ y.toInt → y.toInt ≤ hb → (g la ha lb hb).1 ≤ (F x y).toInt ∧ (F x y).toInt ≤ (g la ha lb hb).2
def zg_any : zQ := fun _ _ _ _ => zfull
theorem zgood_any (F : Int32 → Int32 → Int32) : zgood F zg_any := fun _ _ _ _ _ _ _ _ _ _ => zfull_ok _
def zg_mul : zQ := fun la ha lb hb => zcap (zmin (zmin (la * lb) (la * hb)) (zmin (ha * lb) (ha * hb)), zmax (zmax (la * lb) (la * hb)) (zmax (ha * lb) (ha * hb)))
theorem zmul_b {la ha lb hb x y : Int} (h1 : la ≤ x) (h2 : x ≤ ha) (h3 : lb ≤ y) (h4 : y ≤ hb) : zmin (zmin (la * lb) (la * hb)) (zmin (ha * lb) (ha * hb)) ≤ x * y ∧ x * y ≤ zmax (zmax (la * lb) (la * hb)) (zmax (ha * lb) (ha * hb)) := by
  have m1 := zmin_ok (zmin (la * lb) (la * hb)) (zmin (ha * lb) (ha * hb))
  have m2 := zmin_ok (la * lb) (la * hb)
  have m3 := zmin_ok (ha * lb) (ha * hb)
  have n1 := zmax_ok (zmax (la * lb) (la * hb)) (zmax (ha * lb) (ha * hb))
  have n2 := zmax_ok (la * lb) (la * hb)
  have n3 := zmax_ok (ha * lb) (ha * hb)
  -- x * y lies between la * y and ha * y
  rcases Int.le_total 0 y with hy | hy
  · have a1 : la * y ≤ x * y := Int.mul_le_mul_of_nonneg_right h1 hy
    have a2 : x * y ≤ ha * y := Int.mul_le_mul_of_nonneg_right h2 hy
    constructor
    · rcases Int.le_total 0 la with hl | hl
      · have : la * lb ≤ la * y := Int.mul_le_mul_of_nonneg_left h3 hl
        omega
      · have : la * hb ≤ la * y := Int.mul_le_mul_of_nonpos_left hl h4
        omega
    · rcases Int.le_total 0 ha with hl | hl
      · have : ha * y ≤ ha * hb := Int.mul_le_mul_of_nonneg_left h4 hl
        omega
      · have : ha * y ≤ ha * lb := Int.mul_le_mul_of_nonpos_left hl h3
        omega
  · have a1 : ha * y ≤ x * y := Int.mul_le_mul_of_nonpos_right h2 hy
    have a2 : x * y ≤ la * y := Int.mul_le_mul_of_nonpos_right h1 hy
    constructor
    · rcases Int.le_total 0 ha with hl | hl
      · have : ha * lb ≤ ha * y := Int.mul_le_mul_of_nonneg_left h3 hl
        omega
      · have : ha * hb ≤ ha * y := Int.mul_le_mul_of_nonpos_left hl h4
        omega
    · rcases Int.le_total 0 la with hl | hl
      · have : la * y ≤ la * hb := Int.mul_le_mul_of_nonneg_left h4 hl
        omega
      · have : la * y ≤ la * lb := Int.mul_le_mul_of_nonpos_left hl h3
        omega
theorem zgood_mul : zgood (fun x y => x * y) zg_mul := by
  intro la ha lb hb x y h1 h2 h3 h4
  have hb' := zmul_b h1 h2 h3 h4
  refine zcap_ok (fun q1 q2 => ?_)
  have q1' : -2147483648 ≤ zmin (zmin (la * lb) (la * hb)) (zmin (ha * lb) (ha * hb)) := q1
  have q2' : zmax (zmax (la * lb) (la * hb)) (zmax (ha * lb) (ha * hb)) ≤ 2147483647 := q2
  have e : (x * y).toInt = x.toInt * y.toInt := by rw [Int32.toInt_mul, xbmod (by omega) (by omega)]
  show zmin (zmin (la * lb) (la * hb)) (zmin (ha * lb) (ha * hb)) ≤ (x * y).toInt ∧ (x * y).toInt ≤ zmax (zmax (la * lb) (la * hb)) (zmax (ha * lb) (ha * hb))
  rw [e]
  exact hb'
/-! bits -/
theorem znn {x : Int32} (h : 0 ≤ x.toInt) : x.toInt = (x.toBitVec.toNat : Int) ∧ x.toBitVec.toNat < 2147483648 := by
  have e : x.toInt = x.toBitVec.toInt := rfl
  rw [e] at h ⊢
  have h2 := x.toBitVec.isLt
  rw [BitVec.toInt_eq_toNat_cond] at h ⊢
  split at h
  · rename_i q
    rw [if_pos q]
    exact ⟨rfl, by omega⟩
  · exfalso
    omega
theorem zof_nn {x : Int32} (h : x.toBitVec.toNat < 2147483648) : x.toInt = (x.toBitVec.toNat : Int) := by
  have e : x.toInt = x.toBitVec.toInt := rfl
  rw [e, BitVec.toInt_eq_toNat_cond, if_pos (by omega)]
theorem zand_l {x y : Int32} (h : 0 ≤ x.toInt) : 0 ≤ (x &&& y).toInt ∧ (x &&& y).toInt ≤ x.toInt := by
  obtain ⟨h1, h2⟩ := znn h
  have e : (x &&& y).toBitVec.toNat = x.toBitVec.toNat &&& y.toBitVec.toNat := by simp
  have h3 : (x &&& y).toBitVec.toNat ≤ x.toBitVec.toNat := by rw [e]; exact Nat.and_le_left
  rw [zof_nn (by omega), h1]
  omega
theorem zand_r {x y : Int32} (h : 0 ≤ y.toInt) : 0 ≤ (x &&& y).toInt ∧ (x &&& y).toInt ≤ y.toInt := by
  rw [Int32.and_comm]
  exact zand_l h
def zg_and : zQ := fun la ha lb hb => cond (zle 0 la) (0, cond (zle 0 lb) (zmin ha hb) ha) (cond (zle 0 lb) (0, hb) zfull)
theorem zgood_and : zgood (fun x y => x &&& y) zg_and := by
  intro la ha lb hb x y h1 h2 h3 h4
  unfold zg_and
  cases hc : zle 0 la with
  | true =>
    have := zle_ok.mp hc
    have a1 := zand_l (x := x) (y := y) (by omega)
    cases hd : zle 0 lb with
    | true =>
      have := zle_ok.mp hd
      have a2 := zand_r (x := x) (y := y) (by omega)
      show (0 : Int) ≤ (x &&& y).toInt ∧ (x &&& y).toInt ≤ zmin ha hb
      rcases zmin_or ha hb with e | e <;> rw [e] <;> omega
    | false =>
      show (0 : Int) ≤ (x &&& y).toInt ∧ (x &&& y).toInt ≤ ha
      omega
  | false =>
    cases hd : zle 0 lb with
    | true =>
      have := zle_ok.mp hd
      have a2 := zand_r (x := x) (y := y) (by omega)
      show (0 : Int) ≤ (x &&& y).toInt ∧ (x &&& y).toInt ≤ hb
      omega
    | false => exact zfull_ok _
/-- the next power of two, less one -/
def znp (n : Int) : Int := .ofNat (Nat.sub (Nat.pow 2 (Nat.succ (Nat.log2 n.toNat))) 1)
theorem znp_lt (n : Nat) : n < 2 ^ (Nat.log2 n + 1) := Nat.lt_log2_self
def zg_or : zQ := fun la ha lb hb => cond (and (zle 0 la) (and (zle 0 lb) (and (zle ha zhi) (zle hb zhi)))) (0, znp (zmax ha hb)) zfull
theorem zor_b {x y : Int32} {h : Int} (hx : 0 ≤ x.toInt) (hy : 0 ≤ y.toInt) (h1 : x.toInt ≤ h) (h2 : y.toInt ≤ h) (hh : h ≤ 2147483647) (f : BitVec 32 → BitVec 32 → BitVec 32) (z : Int32) (hz : z.toBitVec = f x.toBitVec y.toBitVec) (hf : ∀ k, x.toBitVec.toNat < 2 ^ k → y.toBitVec.toNat < 2 ^ k → (f x.toBitVec y.toBitVec).toNat < 2 ^ k) : 0 ≤ z.toInt ∧ z.toInt ≤ znp h := by
  obtain ⟨a1, a2⟩ := znn hx
  obtain ⟨b1, b2⟩ := znn hy
  have hn := znp_lt h.toNat
  have e := hf (Nat.log2 h.toNat + 1) (by omega) (by omega)
  have e31 := hf 31 (by omega) (by omega)
  rw [← hz] at e e31
  rw [zof_nn (by omega)]
  have ez : znp h = ((2 ^ (Nat.log2 h.toNat + 1) - 1 : Nat) : Int) := rfl
  rw [ez]
  omega
theorem zgood_or : zgood (fun x y => x ||| y) zg_or := by
  intro la ha lb hb x y h1 h2 h3 h4
  unfold zg_or
  cases hc : and (zle 0 la) (and (zle 0 lb) (and (zle ha zhi) (zle hb zhi))) with
  | false => exact zfull_ok _
  | true =>
    have c1 := xan hc
    have c2 := xan c1.2
    have c3 := xan c2.2
    have d1 := zle_ok.mp c1.1
    have d2 := zle_ok.mp c2.1
    have d3 := zle_ok.mp c3.1
    have d4 := zle_ok.mp c3.2
    have f2 : zhi = 2147483647 := by decide
    have m := zmax_ok ha hb
    have m2 := zmax_or ha hb
    exact zor_b (x := x) (y := y) (h := zmax ha hb) (by omega) (by omega) (by omega) (by omega) (by omega) (fun a b => a ||| b) (x ||| y) (by simp) (fun k p q => by rw [BitVec.toNat_or]; exact Nat.or_lt_two_pow p q)
def zg_xor : zQ := fun la ha lb hb => cond (and (zeq lb (.negSucc 0)) (zeq hb (.negSucc 0))) (.negSucc 0 - ha, .negSucc 0 - la) (cond (and (zle 0 la) (and (zle 0 lb) (and (zle ha zhi) (zle hb zhi)))) (0, znp (zmax ha hb)) zfull)
theorem znot (x : Int32) : (x ^^^ (-1)).toInt = -1 - x.toInt := by
  have e : x ^^^ (-1) = ~~~ x := by
    apply Int32.toBitVec_inj.mp
    rw [Int32.toBitVec_xor, Int32.toBitVec_not]
    have : (-1 : Int32).toBitVec = BitVec.allOnes 32 := by decide
    rw [this, BitVec.xor_allOnes]
  rw [e]
  have e2 : (~~~ x).toInt = (~~~ x.toBitVec).toInt := by
    show (~~~ x).toBitVec.toInt = _
    rw [Int32.toBitVec_not]
  rw [e2, BitVec.toInt_not]
  have h1 := Int32.le_toInt x
  have h2 := Int32.toInt_lt x
  have e3 : x.toInt = x.toBitVec.toInt := rfl
  have e4 : ((2 ^ 32 - 1 - x.toBitVec.toNat : Int)).bmod (2 ^ 32) = -1 - x.toBitVec.toInt := by
    have h3 := x.toBitVec.isLt
    rw [BitVec.toInt_eq_toNat_cond]
    rw [Int.bmod_def]
    split <;> split <;> omega
  rw [e3]
  exact e4
theorem zgood_xor : zgood (fun x y => x ^^^ y) zg_xor := by
  intro la ha lb hb x y h1 h2 h3 h4
  unfold zg_xor
  cases hn : and (zeq lb (.negSucc 0)) (zeq hb (.negSucc 0)) with
  | true =>
    have c1 := xan hn
    have e1 := zeq_ok.mp c1.1
    have e2 := zeq_ok.mp c1.2
    have ey : y = -1 := Int32.toInt_inj.mp (by
      have f : (-1 : Int32).toInt = -1 := by decide
      have f2 : (Int.negSucc 0 : Int) = -1 := by decide
      omega)
    subst ey
    show _ ≤ (x ^^^ (-1)).toInt ∧ (x ^^^ (-1)).toInt ≤ _
    rw [znot]
    have f2 : (Int.negSucc 0 : Int) = -1 := by decide
    show (Int.negSucc 0 - ha : Int) ≤ _ ∧ _ ≤ (Int.negSucc 0 - la : Int)
    omega
  | false =>
  cases hc : and (zle 0 la) (and (zle 0 lb) (and (zle ha zhi) (zle hb zhi))) with
  | false => exact zfull_ok _
  | true =>
    have c1 := xan hc
    have c2 := xan c1.2
    have c3 := xan c2.2
    have d1 := zle_ok.mp c1.1
    have d2 := zle_ok.mp c2.1
    have d3 := zle_ok.mp c3.1
    have d4 := zle_ok.mp c3.2
    have f2 : zhi = 2147483647 := by decide
    have m := zmax_ok ha hb
    have m2 := zmax_or ha hb
    exact zor_b (x := x) (y := y) (h := zmax ha hb) (by omega) (by omega) (by omega) (by omega) (by omega) (fun a b => a ^^^ b) (x ^^^ y) (by simp) (fun k p q => by rw [BitVec.toNat_xor]; exact Nat.xor_lt_two_pow p q)
/-- shifts to the left by less than 31 that stay ints -/
def zg_shl : zQ := fun la ha lb hb => cond (and (zle 0 la) (and (zle 0 lb) (and (zle hb 30) (zle (ha * .ofNat (Nat.pow 2 hb.toNat)) zhi)))) (la * .ofNat (Nat.pow 2 lb.toNat), ha * .ofNat (Nat.pow 2 hb.toNat)) zfull
theorem zg31 {y : Int32} (h0 : 0 ≤ y.toInt) (h1 : y.toInt ≤ 30) : (y &&& 31) = y := by
  obtain ⟨a1, a2⟩ := znn h0
  apply Int32.toBitVec_inj.mp
  apply BitVec.eq_of_toNat_eq
  rw [Int32.toBitVec_and, BitVec.toNat_and]
  have e : (31 : Int32).toBitVec.toNat = 2 ^ 5 - 1 := by decide
  rw [e, Nat.and_two_pow_sub_one_eq_mod, Nat.mod_eq_of_lt (by omega)]
theorem zshl_nat {x y : Int32} (hx : 0 ≤ x.toInt) (h0 : 0 ≤ y.toInt) (h1 : y.toInt ≤ 30) (hm : x.toInt * (2 ^ y.toInt.toNat : Nat) ≤ 2147483647) : (x <<< (y &&& 31)).toInt = x.toInt * (2 ^ y.toInt.toNat : Nat) := by
  rw [zg31 h0 h1]
  obtain ⟨a1, a2⟩ := znn hx
  obtain ⟨b1, b2⟩ := znn h0
  have ey : y.toInt.toNat = y.toBitVec.toNat := by omega
  have e : (x <<< y).toBitVec.toNat = x.toBitVec.toNat * 2 ^ y.toBitVec.toNat % 2 ^ 32 := by
    rw [Int32.toBitVec_shiftLeft, BitVec.shiftLeft_eq', BitVec.toNat_shiftLeft, Nat.shiftLeft_eq]
    have : (y.toBitVec.smod 32).toNat = y.toBitVec.toNat := by
      have hs : y.toBitVec.smod 32 = y.toBitVec := by
        apply BitVec.eq_of_toInt_eq
        rw [BitVec.toInt_smod]
        have e3 : y.toBitVec.toInt = y.toInt := rfl
        rw [e3]
        have : (32 : BitVec 32).toInt = 32 := by decide
        rw [this]
        exact Int.fmod_eq_of_lt h0 (by omega)
      rw [hs]
    rw [this]
  rw [ey] at hm ⊢
  rw [a1] at hm ⊢
  have hm2 : x.toBitVec.toNat * 2 ^ y.toBitVec.toNat < 2147483648 := by
    have : ((x.toBitVec.toNat * 2 ^ y.toBitVec.toNat : Nat) : Int) ≤ 2147483647 := by
      rw [Int.natCast_mul]; exact hm
    omega
  rw [Nat.mod_eq_of_lt (by omega)] at e
  rw [zof_nn (by omega), e, Int.natCast_mul]
theorem zgood_shl : zgood (fun x y => x <<< (y &&& 31)) zg_shl := by
  intro la ha lb hb x y h1 h2 h3 h4
  unfold zg_shl
  cases hc : and (zle 0 la) (and (zle 0 lb) (and (zle hb 30) (zle (ha * .ofNat (Nat.pow 2 hb.toNat)) zhi))) with
  | false => exact zfull_ok _
  | true =>
    have c1 := xan hc
    have c2 := xan c1.2
    have c3 := xan c2.2
    have d1 := zle_ok.mp c1.1
    have d2 := zle_ok.mp c2.1
    have d3 := zle_ok.mp c3.1
    have d4 : ha * ((2 ^ hb.toNat : Nat) : Int) ≤ zhi := zle_ok.mp c3.2
    have f2 : zhi = 2147483647 := by decide
    have p1 : (2 ^ lb.toNat : Nat) ≤ 2 ^ y.toInt.toNat := Nat.pow_le_pow_right (by decide) (by omega)
    have p2 : (2 ^ y.toInt.toNat : Nat) ≤ 2 ^ hb.toNat := Nat.pow_le_pow_right (by decide) (by omega)
    have q1 : la * ((2 ^ lb.toNat : Nat) : Int) ≤ x.toInt * ((2 ^ y.toInt.toNat : Nat) : Int) := Int.mul_le_mul h1 (Int.ofNat_le.mpr p1) (Int.natCast_nonneg _) (by omega)
    have q2 : x.toInt * ((2 ^ y.toInt.toNat : Nat) : Int) ≤ ha * ((2 ^ hb.toNat : Nat) : Int) := Int.mul_le_mul h2 (Int.ofNat_le.mpr p2) (Int.natCast_nonneg _) (by omega)
    have e := zshl_nat (x := x) (y := y) (by omega) (by omega) (by omega) (by omega)
    show la * ((2 ^ lb.toNat : Nat) : Int) ≤ (x <<< (y &&& 31)).toInt ∧ (x <<< (y &&& 31)).toInt ≤ ha * ((2 ^ hb.toNat : Nat) : Int)
    rw [e]
    exact ⟨q1, q2⟩
/-- shifts to the right of what is not below 0 -/
def zg_ushr : zQ := fun la ha lb hb => cond (zle 0 la) (cond (and (zle lb hb) (and (zle hb lb) (and (zle 0 lb) (zle hb 30)))) (.ofNat (Nat.div la.toNat (Nat.pow 2 lb.toNat)), .ofNat (Nat.div ha.toNat (Nat.pow 2 lb.toNat))) (0, ha)) zfull
theorem zushr_nat (x y : Int32) : ∃ k, (x.toUInt32 >>> (y.toUInt32 &&& Int32.toUInt32 31)).toInt32.toBitVec.toNat = x.toBitVec.toNat / 2 ^ k ∧ (0 ≤ y.toInt → y.toInt ≤ 30 → k = y.toInt.toNat) := by
  refine ⟨_, pk_ushr x y _ rfl, fun h0 h1 => ?_⟩
  obtain ⟨b1, b2⟩ := znn h0
  have e : (y.toUInt32 &&& Int32.toUInt32 31).toBitVec = (y &&& 31).toBitVec := rfl
  rw [e, zg31 h0 h1, BitVec.toNat_umod]
  have : (32 : BitVec 32).toNat = 32 := by decide
  rw [this, Nat.mod_eq_of_lt (by omega)]
  omega
theorem zgood_ushr : zgood (fun x y => (x.toUInt32 >>> (y.toUInt32 &&& Int32.toUInt32 31)).toInt32) zg_ushr := by
  intro la ha lb hb x y h1 h2 h3 h4
  unfold zg_ushr
  cases hc : zle 0 la with
  | false => exact zfull_ok _
  | true =>
    have d1 := zle_ok.mp hc
    obtain ⟨a1, a2⟩ := znn (x := x) (by omega)
    obtain ⟨k, k1, k2⟩ := zushr_nat x y
    have k3 : x.toBitVec.toNat / 2 ^ k ≤ x.toBitVec.toNat := Nat.div_le_self _ _
    cases hd : and (zle lb hb) (and (zle hb lb) (and (zle 0 lb) (zle hb 30))) with
    | false =>
      show (0 : Int) ≤ (x.toUInt32 >>> (y.toUInt32 &&& Int32.toUInt32 31)).toInt32.toInt ∧ (x.toUInt32 >>> (y.toUInt32 &&& Int32.toUInt32 31)).toInt32.toInt ≤ ha
      rw [zof_nn (by omega), k1]
      omega
    | true =>
      have c1 := xan hd
      have c2 := xan c1.2
      have c3 := xan c2.2
      have e1 := zle_ok.mp c1.1
      have e2 := zle_ok.mp c2.1
      have e3 := zle_ok.mp c3.1
      have e4 := zle_ok.mp c3.2
      have hk := k2 (by omega) (by omega)
      have ey : y.toInt = lb := by omega
      rw [ey] at hk
      subst hk
      show ((la.toNat / 2 ^ lb.toNat : Nat) : Int) ≤ (x.toUInt32 >>> (y.toUInt32 &&& Int32.toUInt32 31)).toInt32.toInt ∧ (x.toUInt32 >>> (y.toUInt32 &&& Int32.toUInt32 31)).toInt32.toInt ≤ ((ha.toNat / 2 ^ lb.toNat : Nat) : Int)
      rw [zof_nn (by omega), k1]
      have q1 : la.toNat / 2 ^ lb.toNat ≤ x.toBitVec.toNat / 2 ^ lb.toNat := Nat.div_le_div_right (by omega)
      have q2 : x.toBitVec.toNat / 2 ^ lb.toNat ≤ ha.toNat / 2 ^ lb.toNat := Nat.div_le_div_right (by omega)
      omega
def zg_rem : zQ := fun la ha lb hb => cond (and (zle 0 la) (zle 1 lb)) (cond (and (zle ha la) (zle hb lb)) (la % lb, la % lb) (0, zmin ha (hb - 1))) zfull
theorem zrem_nat {x y : Int32} (hx : 0 ≤ x.toInt) (hy : 1 ≤ y.toInt) : (x - x / y * y).toInt = x.toInt % y.toInt := by
  have b1 := Int32.toInt_lt x
  have b2 := Int32.toInt_lt y
  have q0 : 0 ≤ x.toInt / y.toInt := Int.ediv_nonneg hx (by omega)
  have q1 : x.toInt / y.toInt * y.toInt ≤ x.toInt := Int.ediv_mul_le _ (by omega)
  have q2 : x.toInt / y.toInt ≤ x.toInt := Int.ediv_le_self _ hx
  have q3 : 0 ≤ x.toInt / y.toInt * y.toInt := Int.mul_nonneg q0 (by omega)
  have e1 : (x / y).toInt = x.toInt / y.toInt := by
    rw [Int32.toInt_div, Int.tdiv_eq_ediv_of_nonneg hx, xbmod (by omega) (by omega)]
  have e2 : (x / y * y).toInt = x.toInt / y.toInt * y.toInt := by
    rw [Int32.toInt_mul, e1, xbmod (by omega) (by omega)]
  rw [Int32.toInt_sub, e2, xbmod (by omega) (by omega)]
  have := Int.emod_def x.toInt y.toInt
  rw [this, Int.mul_comm]
theorem zgood_rem : zgood (fun x y => x - x / y * y) zg_rem := by
  intro la ha lb hb x y h1 h2 h3 h4
  unfold zg_rem
  cases hc : and (zle 0 la) (zle 1 lb) with
  | false => exact zfull_ok _
  | true =>
    have c1 := xan hc
    have d1 := zle_ok.mp c1.1
    have d2 := zle_ok.mp c1.2
    rw [cond_true]
    cases hq : and (zle ha la) (zle hb lb) with
    | true =>
      have c2 := xan hq
      have d3 := zle_ok.mp c2.1
      have d4 := zle_ok.mp c2.2
      have ex : x.toInt = la := by omega
      have ey : y.toInt = lb := by omega
      show la % lb ≤ (x - x / y * y).toInt ∧ (x - x / y * y).toInt ≤ la % lb
      rw [zrem_nat (by omega) (by omega), ex, ey]
      exact ⟨Int.le_refl _, Int.le_refl _⟩
    | false =>
    show (0 : Int) ≤ (x - x / y * y).toInt ∧ (x - x / y * y).toInt ≤ zmin ha (hb - 1)
    rw [zrem_nat (by omega) (by omega)]
    have r0 : 0 ≤ x.toInt % y.toInt := Int.emod_nonneg _ (by omega)
    have r1 : x.toInt % y.toInt < y.toInt := Int.emod_lt_of_pos _ (by omega)
    have r3 : 0 ≤ y.toInt * (x.toInt / y.toInt) := Int.mul_nonneg (by omega) (Int.ediv_nonneg (by omega) (by omega))
    have r2 : x.toInt % y.toInt ≤ x.toInt := by rw [Int.emod_def]; omega
    rcases zmin_or ha (hb - 1) with e | e <;> rw [e] <;> omega
def zg_max : zQ := fun la ha lb hb => (zmax la lb, zmax ha hb)
def zg_min : zQ := fun la ha lb hb => (zmin la lb, zmin ha hb)
theorem zgood_max : zgood xf_max zg_max := by
  intro la ha lb hb x y h1 h2 h3 h4
  show zmax la lb ≤ (xf_max x y).toInt ∧ (xf_max x y).toInt ≤ zmax ha hb
  have m := zmax_ok ha hb
  unfold xf_max
  split
  · rename_i q
    have q' := Int32.lt_iff_toInt_lt.mp q
    rcases zmax_or la lb with e | e <;> rw [e] <;> omega
  · rename_i q
    have q' : ¬ x.toInt < y.toInt := fun z => q (Int32.lt_iff_toInt_lt.mpr z)
    rcases zmax_or la lb with e | e <;> rw [e] <;> omega
theorem zgood_min : zgood xf_min zg_min := by
  intro la ha lb hb x y h1 h2 h3 h4
  show zmin la lb ≤ (xf_min x y).toInt ∧ (xf_min x y).toInt ≤ zmin ha hb
  have m := zmin_ok la lb
  unfold xf_min
  split
  · rename_i q
    have q' := Int32.lt_iff_toInt_lt.mp q
    rcases zmin_or ha hb with e | e <;> rw [e] <;> omega
  · rename_i q
    have q' : ¬ y.toInt < x.toInt := fun z => q (Int32.lt_iff_toInt_lt.mpr z)
    rcases zmin_or ha hb with e | e <;> rw [e] <;> omega
/-- one int -/
def zu_neg (la ha : Int) : Int × Int := zcap (.negSucc 0 * ha, .negSucc 0 * la)
def zu_i2b (la ha : Int) : Int × Int := cond (and (zle (.negSucc 127) la) (zle ha 127)) (la, ha) (.negSucc 127, 127)
def zu_i2c (la ha : Int) : Int × Int := cond (and (zle 0 la) (zle ha 65535)) (la, ha) (0, 65535)
def zgood1 (F : Int32 → Int32) (g : Int → Int → Int × Int) : Prop := ∀ (la ha : Int) (x : Int32), la ≤ x.toInt → x.toInt ≤ ha → (g la ha).1 ≤ (F x).toInt ∧ (F x).toInt ≤ (g la ha).2
theorem zgood_neg : zgood1 (fun x => -x) zu_neg := by
  intro la ha x h1 h2
  refine zcap_ok (fun q1 q2 => ?_)
  have q1' : -2147483648 ≤ Int.negSucc 0 * ha := q1
  have q2' : Int.negSucc 0 * la ≤ 2147483647 := q2
  have f2 : (Int.negSucc 0 : Int) = -1 := by decide
  rw [f2] at q1' q2'
  show Int.negSucc 0 * ha ≤ (-x).toInt ∧ (-x).toInt ≤ Int.negSucc 0 * la
  rw [f2, Int32.toInt_neg, xbmod (by omega) (by omega)]
  omega
theorem zgood_i2b : zgood1 (fun x => x.toInt8.toInt32) zu_i2b := by
  intro la ha x h1 h2
  unfold zu_i2b
  show _ ≤ x.toInt8.toInt32.toInt ∧ x.toInt8.toInt32.toInt ≤ _
  rw [Int8.toInt_toInt32, Int32.toInt_toInt8]
  have f2 : (Int.negSucc 127 : Int) = -128 := by decide
  cases hc : and (zle (.negSucc 127) la) (zle ha 127) with
  | true =>
    have c1 := xan hc
    have d1 := zle_ok.mp c1.1
    have d2 := zle_ok.mp c1.2
    show la ≤ _ ∧ _ ≤ ha
    rw [Int.bmod_def]
    split <;> omega
  | false =>
    show Int.negSucc 127 ≤ _ ∧ _ ≤ (127 : Int)
    rw [Int.bmod_def]
    split <;> omega
theorem zgood_i2c : zgood1 (fun x => (x.toUInt32 % 65536).toInt32) zu_i2c := by
  intro la ha x h1 h2
  have e : (x.toUInt32 % 65536).toInt32.toBitVec.toNat = x.toBitVec.toNat % 65536 := by
    show (x.toUInt32 % 65536).toBitVec.toNat = _
    rw [UInt32.toBitVec_mod, BitVec.toNat_umod]
    rfl
  unfold zu_i2c
  cases hc : and (zle 0 la) (zle ha 65535) with
  | true =>
    have c1 := xan hc
    have d1 := zle_ok.mp c1.1
    have d2 := zle_ok.mp c1.2
    obtain ⟨a1, a2⟩ := znn (x := x) (by omega)
    show la ≤ (x.toUInt32 % 65536).toInt32.toInt ∧ (x.toUInt32 % 65536).toInt32.toInt ≤ ha
    rw [zof_nn (by omega), e, Nat.mod_eq_of_lt (by omega)]
    omega
  | false =>
    show (0 : Int) ≤ (x.toUInt32 % 65536).toInt32.toInt ∧ (x.toUInt32 % 65536).toInt32.toInt ≤ 65535
    rw [zof_nn (by omega), e]
    omega
