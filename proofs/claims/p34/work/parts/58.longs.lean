/-! longs of the typed run -/
def zl_any : zJ := (0, 0, [], [])
noncomputable def zk_newl (h : zH) (e : zJ) (k : zV → zH → Bool) : Bool := zk_push h.2 e 0 fun ly n => k (5, n, 0) (h.1, ly)
noncomputable def zd_i2l : zD := fun nx _ _ _ rt lv st h sy => match st with
  | a :: st' => zk_rng sy a fun lo hi => zk_newl h (cond (and (zle 0 lo) (zle hi 26)) (1, 0, [], []) zl_any) fun v h' => nx rt lv (v :: st') h' sy
  | _ => false
noncomputable def zd_l2i : zD := fun nx _ _ _ rt lv st h sy => match st with
  | a :: st' => cond (Nat.beq a.1 5) (zk_nth h.2 a.2.1 fun e => cond (Nat.beq e.1 1) (zk_fresh sy 0 26 fun v sy' => nx rt lv (v :: st') h sy') (cond (Nat.beq e.1 3) (zk_fresh sy 0 31 fun v sy' => nx rt lv (v :: st') h sy') (zk_fresh sy zlo zhi fun v sy' => nx rt lv (v :: st') h sy'))) (cond (Nat.beq a.1 4) (zk_fresh sy zlo zhi fun v sy' => nx rt lv (v :: st') h sy') false)
  | _ => false
/-- what comes of two longs: the sort's rule, or nothing known -/
noncomputable def zd_lbin (t : List zJ → zV → zV → zJ) : zD := fun nx _ _ _ rt lv st h sy => match st with
  | b :: a :: st' => cond (and (zc_l a) (zc_l b)) (zk_newl h (t h.2 a b) fun v h' => nx rt lv (v :: st') h' sy) false
  | _ => false
noncomputable def zl_at (ly : List zJ) (a : zV) (k : zJ → zJ) : zJ := cond (Nat.beq a.1 5) (List.rec (motive := fun _ => Nat → zJ) (fun _ => zl_any) (fun e _ ih n => Nat.rec (motive := fun _ => zJ) (k e) (fun m _ => ih m) n) ly a.2.1) zl_any
/-- a number times 32 -/
noncomputable def zl_mul (ly : List zJ) (a b : zV) : zJ := cond (and (Nat.beq b.1 4) (zeq b.2.2 32)) (zl_at ly a fun e => cond (Nat.beq e.1 0) (2, e.2.1, [], []) zl_any) zl_any
noncomputable def zl_add (ly : List zJ) (a b : zV) : zJ := zl_at ly a fun e => cond (and (Nat.beq e.1 2) (Nat.ble e.2.1 10)) (zl_at ly b fun e' => cond (Nat.beq e'.1 1) (0, Nat.succ e.2.1, [], []) zl_any) zl_any
noncomputable def zl_and (ly : List zJ) (a b : zV) : zJ := cond (and (Nat.beq b.1 4) (zeq b.2.2 31)) (zl_at ly a fun e => cond (and (Nat.beq e.1 0) (Nat.ble 1 e.2.1)) (1, 0, [], []) (3, 0, [], [])) zl_any
def zl_none (_ : List zJ) (_ _ : zV) : zJ := zl_any
noncomputable def zd_lsh (t : List zJ → zV → zV → zJ) : zD := fun nx _ _ _ rt lv st h sy => match st with
  | b :: a :: st' => cond (and (zc_l a) (zc_i b)) (zk_newl h (t h.2 a b) fun v h' => nx rt lv (v :: st') h' sy) false
  | _ => false
noncomputable def zl_ushr (ly : List zJ) (a b : zV) : zJ := cond (and (Nat.beq b.1 0) (zeq b.2.2 5)) (zl_at ly a fun e => cond (and (Nat.beq e.1 0) (Nat.ble e.2.1 12)) (0, Nat.pred e.2.1, [], []) zl_any) zl_any
noncomputable def zd_lcmp : zD := fun nx _ _ _ rt lv st h sy => match st with
  | b :: a :: st' => cond (and (zc_l a) (zc_l b)) (cond (and (Nat.beq a.1 5) (Nat.beq b.1 4)) (nx rt lv ((11, a.2.1, b.2.2) :: st') h sy) (nx rt lv ((12, 0, 0) :: st') h sy)) false
  | _ => false
theorem zlong_any (x : Int64) : zlong zl_any x := ⟨fun i hi => absurd hi (Nat.not_lt_zero i), fun c hc => absurd hc List.not_mem_nil, fun c hc => absurd hc List.not_mem_nil⟩
theorem zlong_of {s m : Nat} {x : Int64} (h : match s with
  | 0 => zdig m x
  | 1 => 0 ≤ x.toInt ∧ x.toInt ≤ 26
  | 2 => ∃ y, x = y * 32 ∧ zdig m y
  | 3 => 0 ≤ x.toInt ∧ x.toInt ≤ 31
  | _ => False) : zlong (s, m, [], []) x := ⟨h, fun c hc => absurd hc List.not_mem_nil, fun c hc => absurd hc List.not_mem_nil⟩
theorem zl_at_ok {ly : List zJ} {a : zV} {k : zJ → zJ} {lm : List Int64} {X : zX} {ρ : List Int32} {x : Int64} {P : zJ → Prop} (hl : zsatL ly lm) (ha : zv X ρ lm a (.long x)) (h0 : P zl_any) (h1 : ∀ e, zlong e x → P (k e)) : P (zl_at ly a k) := by
  unfold zl_at
  cases hc : Nat.beq a.1 5 with
  | false => exact h0
  | true =>
    rw [cond_true]
    obtain ⟨x', q1, q2⟩ := zv_tag hc ha
    injection q2 with q2
    subst q2
    have q1' : lm[a.2.1]? = some x := q1
    have gen : ∀ (ly : List zJ) (lm : List Int64) (n : Nat), zsatL ly lm → lm[n]? = some x → P ((List.rec (motive := fun _ => Nat → zJ) (fun _ => zl_any) (fun e _ ih n => Nat.rec (motive := fun _ => zJ) (k e) (fun m _ => ih m) n) ly : Nat → zJ) n) := by
      intro ly
      induction ly with
      | nil => intro lm n _ _; exact h0
      | cons e ly ih =>
        intro lm n h hx
        obtain ⟨b, lm', rfl, r1, r2⟩ := xx_2_cons h
        cases n with
        | zero =>
          cases hx
          exact h1 e r1
        | succ n => exact ih lm' n r2 (by simpa using hx)
    exact gen ly lm a.2.1 hl q1'
theorem zmodd (N i : Nat) (hi : i ≤ 11) : (N % 2 ^ 64) / 32 ^ i % 32 = N / 32 ^ i % 32 := by
  have e : (2 : Nat) ^ 64 = 32 ^ i * (32 * 2 ^ (59 - 5 * i)) := by
    rw [show (32 : Nat) = 2 ^ 5 by decide, ← Nat.pow_mul, ← Nat.pow_add, ← Nat.pow_add]
    congr 1
    omega
  rw [e, Nat.mod_mul_right_div_self, Nat.mod_mod_of_dvd _ (Nat.dvd_mul_right 32 _)]
theorem zl64 (x : Int64) (h : 0 ≤ x.toInt) : x.toInt = (x.toUInt64.toNat : Int) := by
  have h1 : x.toInt = x.toBitVec.toInt := rfl
  have h2 : x.toUInt64.toNat = x.toBitVec.toNat := rfl
  rw [h1, BitVec.toInt_eq_toNat_bmod] at h ⊢
  rw [h2]
  have := x.toBitVec.isLt
  by_cases hb : x.toBitVec.toNat < 2 ^ 63
  · rw [Int.bmod_eq_of_le (by omega) (by omega)]
  · exfalso
    rw [Int.bmod_def] at h
    omega
theorem zdig_step {m : Nat} {y d : Int64} (hy : zdig m y) (hm : m ≤ 10) (h0 : 0 ≤ d.toInt) (h1 : d.toInt ≤ 26) : zdig (m + 1) (y * 32 + d) := by
  have hd := zl64 d h0
  have hdn : d.toUInt64.toNat ≤ 26 := by omega
  have e : (y * 32 + d).toUInt64.toNat = (y.toUInt64.toNat * 32 + d.toUInt64.toNat) % 2 ^ 64 := by
    show (y.toUInt64 * 32 + d.toUInt64).toNat = _
    rw [UInt64.toNat_add, UInt64.toNat_mul]
    show (y.toUInt64.toNat * 32 % 2 ^ 64 + d.toUInt64.toNat) % 2 ^ 64 = _
    rw [Nat.mod_add_mod]
  intro i hi
  rw [e, zmodd _ _ (by omega)]
  cases i with
  | zero => omega
  | succ j =>
    have e2 : (y.toUInt64.toNat * 32 + d.toUInt64.toNat) / 32 ^ (j + 1) = y.toUInt64.toNat / 32 ^ j := by
      rw [Nat.pow_succ, Nat.mul_comm (32 ^ j) 32, ← Nat.div_div_eq_div_mul]
      congr 1
      omega
    rw [e2]
    exact hy j (by omega)
theorem zand31 (x : Int64) : (x &&& 31).toUInt64.toNat = x.toUInt64.toNat % 32 := by
  show (x.toUInt64 &&& 31).toNat = _
  rw [UInt64.toNat_and]
  exact Nat.and_two_pow_sub_one_eq_mod x.toUInt64.toNat 5
theorem zand31i (x : Int64) : (x &&& 31).toInt = (x.toUInt64.toNat % 32 : Nat) := by
  have h2 := zand31 x
  have h1 : (x &&& 31).toInt = (x &&& 31).toBitVec.toInt := rfl
  have h3 : (x &&& 31).toUInt64.toNat = (x &&& 31).toBitVec.toNat := rfl
  rw [h1, BitVec.toInt_eq_toNat_bmod, ← h3, h2]
  rw [Int.bmod_eq_of_le (by omega) (by omega)]
theorem zint64 {x : Int64} {c : Int} {k : Int64} (h : x.toInt = c) (hk : k.toInt = c) : x = k := by
  rw [← Int64.toInt_inj, h, hk]
theorem zl_mul_ok {ly : List zJ} {lm : List Int64} {X : zX} {ρ : List Int32} {a b : zV} {x y : Int64} (hl : zsatL ly lm) (ha : zv X ρ lm a (.long x)) (hb : zv X ρ lm b (.long y)) : zlong (zl_mul ly a b) (x * y) := by
  unfold zl_mul
  cases hc : and (Nat.beq b.1 4) (zeq b.2.2 32) with
  | false => exact zlong_any _
  | true =>
    rw [cond_true]
    have c1 := xan hc
    obtain ⟨y', q1, q2⟩ := zv_tag c1.1 hb
    injection q1 with q1
    subst q1
    have q3 : y = 32 := zint64 (c := 32) (by have : y.toInt = b.2.2 := q2; rw [this, zeq_ok.mp c1.2]) (by decide)
    subst q3
    refine zl_at_ok (P := fun e => zlong e (x * 32)) hl ha (zlong_any _) (fun e he => ?_)
    cases he0 : Nat.beq e.1 0 with
    | false => exact zlong_any _
    | true =>
      rw [cond_true]
      obtain ⟨s, m, eq, ne⟩ := e
      have es : s = 0 := Nat.eq_of_beq_eq_true he0
      subst es
      exact zlong_of ⟨x, rfl, he.1⟩
theorem zl_add_ok {ly : List zJ} {lm : List Int64} {X : zX} {ρ : List Int32} {a b : zV} {x y : Int64} (hl : zsatL ly lm) (ha : zv X ρ lm a (.long x)) (hb : zv X ρ lm b (.long y)) : zlong (zl_add ly a b) (x + y) := by
  unfold zl_add
  refine zl_at_ok (P := fun e => zlong e (x + y)) hl ha (zlong_any _) (fun e he => ?_)
  cases he0 : and (Nat.beq e.1 2) (Nat.ble e.2.1 10) with
  | false => exact zlong_any _
  | true =>
    rw [cond_true]
    have c1 := xan he0
    refine zl_at_ok (P := fun e => zlong e (x + y)) hl hb (zlong_any _) (fun e' he' => ?_)
    cases he1 : Nat.beq e'.1 1 with
    | false => exact zlong_any _
    | true =>
      rw [cond_true]
      obtain ⟨s, m, eq, ne⟩ := e
      have es : s = 2 := Nat.eq_of_beq_eq_true c1.1
      subst es
      obtain ⟨s', m', eq', ne'⟩ := e'
      have es' : s' = 1 := Nat.eq_of_beq_eq_true he1
      subst es'
      obtain ⟨w, rfl, hw⟩ := he.1
      exact zlong_of (zdig_step hw (Nat.le_of_ble_eq_true c1.2) he'.1.1 he'.1.2)
theorem zl_and_ok {ly : List zJ} {lm : List Int64} {X : zX} {ρ : List Int32} {a b : zV} {x y : Int64} (hl : zsatL ly lm) (ha : zv X ρ lm a (.long x)) (hb : zv X ρ lm b (.long y)) : zlong (zl_and ly a b) (x &&& y) := by
  unfold zl_and
  cases hc : and (Nat.beq b.1 4) (zeq b.2.2 31) with
  | false => exact zlong_any _
  | true =>
    rw [cond_true]
    have c1 := xan hc
    obtain ⟨y', q1, q2⟩ := zv_tag c1.1 hb
    injection q1 with q1
    subst q1
    have q3 : y = 31 := zint64 (c := 31) (by have : y.toInt = b.2.2 := q2; rw [this, zeq_ok.mp c1.2]) (by decide)
    subst q3
    refine zl_at_ok (P := fun e => zlong e (x &&& 31)) hl ha (zlong_any _) (fun e he => ?_)
    have e1 := zand31i x
    cases he0 : and (Nat.beq e.1 0) (Nat.ble 1 e.2.1) with
    | false =>
      rw [cond_false]
      exact zlong_of (s := 3) ⟨by omega, by omega⟩
    | true =>
      rw [cond_true]
      have c2 := xan he0
      obtain ⟨s, m, eq, ne⟩ := e
      have es : s = 0 := Nat.eq_of_beq_eq_true c2.1
      subst es
      have := he.1 0 (Nat.le_of_ble_eq_true c2.2)
      rw [Nat.pow_zero, Nat.div_one] at this
      exact zlong_of (s := 1) ⟨by omega, by omega⟩
theorem zl_ushr_ok {ly : List zJ} {lm : List Int64} {X : zX} {ρ : List Int32} {a b : zV} {x : Int64} {y : Int32} (hl : zsatL ly lm) (ha : zv X ρ lm a (.long x)) (hb : zv X ρ lm b (.int y)) : zlong (zl_ushr ly a b) (x.toUInt64 >>> (y.toInt64.toUInt64 &&& Int64.toUInt64 63)).toInt64 := by
  unfold zl_ushr
  cases hc : and (Nat.beq b.1 0) (zeq b.2.2 5) with
  | false => exact zlong_any _
  | true =>
    rw [cond_true]
    have c1 := xan hc
    obtain ⟨y', q1, q2⟩ := zv_tag c1.1 hb
    injection q1 with q1
    subst q1
    have q3 : y = 5 := by
      have h5 : y.toInt = (5 : Int32).toInt := by
        have : y.toInt = b.2.2 := q2
        rw [this, zeq_ok.mp c1.2]
        rfl
      exact Int32.toInt_inj.mp h5
    subst q3
    refine zl_at_ok (P := fun e => zlong e _) hl ha (zlong_any _) (fun e he => ?_)
    cases he0 : and (Nat.beq e.1 0) (Nat.ble e.2.1 12) with
    | false => exact zlong_any _
    | true =>
      rw [cond_true]
      have c2 := xan he0
      obtain ⟨s, m, eq, ne⟩ := e
      have es : s = 0 := Nat.eq_of_beq_eq_true c2.1
      subst es
      refine zlong_of (s := 0) (fun i hi => ?_)
      have e1 : (x.toUInt64 >>> ((5 : Int32).toInt64.toUInt64 &&& Int64.toUInt64 63)).toInt64.toUInt64.toNat = x.toUInt64.toNat / 32 := by
        show (x.toUInt64 >>> ((5 : Int32).toInt64.toUInt64 &&& Int64.toUInt64 63)).toNat = _
        rw [show ((5 : Int32).toInt64.toUInt64 &&& Int64.toUInt64 63) = 5 by decide, UInt64.toNat_shiftRight]
        show x.toUInt64.toNat >>> 5 = _
        rw [Nat.shiftRight_eq_div_pow]
      rw [e1, Nat.div_div_eq_div_mul, Nat.mul_comm 32, ← Nat.pow_succ]
      exact he.1 (i + 1) (by have : i < Nat.pred m := hi; have := Nat.pred_le m; rw [Nat.pred_eq_sub_one] at *; omega)
section ZL
variable {E : zEn} {M : xM} {d pc : Nat} {nx ag : zN} {jp : Nat → zN} {ca : zKc}
theorem zk_newl_ok {h : zH} {e : zJ} {k : zV → zH → Bool} {lm : List Int64} (hk : zk_newl h e k = true) (hl : zsatL h.2 lm) {x : Int64} (hx : zlong e x) (X : zX) (ρ : List Int32) : ∃ a l, k a (h.1, l) = true ∧ zsatL l (lm ++ [x]) ∧ zv X ρ (lm ++ [x]) a (.long x) := by
  have h5 := zk_push_ok hk
  refine ⟨_, _, h5, xx_2_app hl ⟨hx, trivial⟩, x, ?_, rfl⟩
  show (lm ++ [x])[0 + h.2.length]? = some x
  rw [Nat.zero_add, xx_2_len hl]
  simp
theorem zRel_lm {ρ : List Int32} {lm lm' : List Int64} {lv st : List zV} {h : zH} {l : List zJ} {sy : zS} {lvC : yL} {stC : List Value} {ws : va_W} (e : xx_e lm lm') (hl : zsatL l lm') (hR : zRel E ρ lm lv st h sy lvC stC ws) : zRel E ρ lm' lv st (h.1, l) sy lvC stC ws :=
  zRel_ext2 (xx_e_rf _) e hR.1 hl (zfa_mono (xx_e_rf _) e hR.2.2.2.1) hR
theorem zs_i2l (hd : decode M.2.1 pc = .ok (.i2l, 1)) (hn : zNok E M d (pc + 1) nx) : zNok E M d pc (zd_i2l nx jp ag ca) := by
  intro rt lv st h sy hk ρ lm lvC stC ws ws0 K hR hA hJ hT
  cases st with
  | nil => cases hk
  | cons a st =>
    obtain ⟨va, s2, rfl, ha, hR2⟩ := zRel_pop hR
    unfold zd_i2l at hk
    dsimp only at hk
    obtain ⟨x, lo, hi, rfl, zx, h1, h2, h3⟩ := zk_rng_ok hk hR.1 ha
    have hx : zlong (cond (and (zle 0 lo) (zle hi 26)) (1, 0, [], []) zl_any) x.toInt64 := by
      cases hc : and (zle 0 lo) (zle hi 26) with
      | false => exact zlong_any _
      | true =>
        have c := xan hc
        have a1 := zle_ok.mp c.1
        have a2 := zle_ok.mp c.2
        rw [cond_true]
        refine zlong_of (s := 1) ?_
        show 0 ≤ x.toInt64.toInt ∧ x.toInt64.toInt ≤ 26
        rw [Int32.toInt_toInt64]
        omega
    obtain ⟨b, l, g1, g2, g3⟩ := zk_newl_ok h3 hR.2.1 hx E.2.2.1 ρ
    exact yo_i2l hd (hn rt lv _ _ sy g1 ρ _ lvC _ ws ws0 K (zRel_push g3 (zRel_lm (xx_e_one _ _) g2 hR2)) hA hJ (zRT_ext (xx_e_rf _) (xx_e_one _ _) hT))
theorem zs_l2i (hd : decode M.2.1 pc = .ok (.l2i, 1)) (hn : zNok E M d (pc + 1) nx) : zNok E M d pc (zd_l2i nx jp ag ca) := by
  intro rt lv st h sy hk ρ lm lvC stC ws ws0 K hR hA hJ hT
  cases st with
  | nil => cases hk
  | cons a st =>
    obtain ⟨va, s2, rfl, ha, hR2⟩ := zRel_pop hR
    unfold zd_l2i at hk
    dsimp only at hk
    have go : ∀ (x : Int64) (lo hi : Int), va = .long x → (zk_fresh sy lo hi fun v sy' => nx rt lv (v :: st) h sy') = true → lo ≤ x.toInt32.toInt → x.toInt32.toInt ≤ hi → yOk E.1 M d pc lvC (va :: s2) ws K := by
      intro x lo hi ev hq b1 b2
      subst ev
      obtain ⟨b, sy', ρ', g1, g2, g3, g4⟩ := zk_fresh_ok hq hR.1 b1 b2
      exact yo_l2i hd (hn rt lv _ h sy' g1 ρ' lm lvC _ ws ws0 K (zRel_push (zv_of_zi g4) (zRel_ext g2 g3 hR2)) hA (zmd_ext g2 hJ) (zRT_ext g2 (xx_e_rf _) hT))
    have small : ∀ x : Int64, 0 ≤ x.toInt → x.toInt ≤ 31 → x.toInt32.toInt = x.toInt := by
      intro x b1 b2
      rw [Int64.toInt_toInt32, Int.bmod_eq_of_le (by omega) (by omega)]
    cases h5 : Nat.beq a.1 5 with
    | true =>
      rw [h5, cond_true] at hk
      obtain ⟨e, e1, e2⟩ := zk_nth_ok hk
      obtain ⟨x', e3, e4⟩ := xx_2_get hR.2.1 e1
      obtain ⟨x, q1, q2⟩ := zv_tag h5 ha
      have q1' : lm[a.2.1]? = some x := q1
      rw [e3] at q1'
      cases q1'
      obtain ⟨s, m, eq, ne⟩ := e
      cases c1 : Nat.beq s 1 with
      | true =>
        rw [c1, cond_true] at e2
        have es : s = 1 := Nat.eq_of_beq_eq_true c1
        subst es
        have e5 : 0 ≤ x'.toInt ∧ x'.toInt ≤ 26 := e4.1
        have := small x' (by omega) (by omega)
        exact go x' 0 26 q2 e2 (by omega) (by omega)
      | false =>
        rw [c1, cond_false] at e2
        cases c3 : Nat.beq s 3 with
        | true =>
          rw [c3, cond_true] at e2
          have es : s = 3 := Nat.eq_of_beq_eq_true c3
          subst es
          have e5 : 0 ≤ x'.toInt ∧ x'.toInt ≤ 31 := e4.1
          have := small x' (by omega) (by omega)
          exact go x' 0 31 q2 e2 (by omega) (by omega)
        | false =>
          rw [c3, cond_false] at e2
          exact go x' _ _ q2 e2 (zfull_ok _).1 (zfull_ok _).2
    | false =>
      rw [h5, cond_false] at hk
      obtain ⟨c4, hk2⟩ := zcd hk rfl
      obtain ⟨x, q1, -⟩ := zv_tag c4 ha
      exact go x _ _ q1 hk2 (zfull_ok _).1 (zfull_ok _).2
theorem zs_lbin {t : List zJ → zV → zV → zJ} {F : Int64 → Int64 → Int64} (ht : ∀ {ly : List zJ} {lm : List Int64} {X : zX} {ρ : List Int32} {a b : zV} {x y : Int64}, zsatL ly lm → zv X ρ lm a (.long x) → zv X ρ lm b (.long y) → zlong (t ly a b) (F x y)) (hS : ∀ {lv : yL} {st : List Value} {ws : va_W} {K : yK} {x y : Int64}, yOk E.1 M d (pc + 1) lv (.long (F x y) :: st) ws K → yOk E.1 M d pc lv (.long y :: .long x :: st) ws K) (hn : zNok E M d (pc + 1) nx) : zNok E M d pc (zd_lbin t nx jp ag ca) := by
  intro rt lv st h sy hk ρ lm lvC stC ws ws0 K hR hA hJ hT
  match st, hk, hR with
  | [], hk, _ => cases hk
  | [b], hk, _ => cases hk
  | b :: a :: st, hk, hR =>
    obtain ⟨vb, s1, rfl, hb, hR1⟩ := zRel_pop hR
    obtain ⟨va, s2, rfl, ha, hR2⟩ := zRel_pop hR1
    obtain ⟨c0, hk1⟩ := zcd (show cond (and (zc_l a) (zc_l b)) (zk_newl h (t h.2 a b) fun v h' => nx rt lv (v :: st) h' sy) false = true from hk) rfl
    have c1 := xan c0
    obtain ⟨x, rfl⟩ := zv_l c1.1 ha
    obtain ⟨y, rfl⟩ := zv_l c1.2 hb
    obtain ⟨c, l, g1, g2, g3⟩ := zk_newl_ok hk1 hR.2.1 (ht hR.2.1 ha hb) E.2.2.1 ρ
    exact hS (hn rt lv _ _ sy g1 ρ _ lvC _ ws ws0 K (zRel_push g3 (zRel_lm (xx_e_one _ _) g2 hR2)) hA hJ (zRT_ext (xx_e_rf _) (xx_e_one _ _) hT))
theorem zs_lsh {t : List zJ → zV → zV → zJ} {F : Int64 → Int32 → Int64} (ht : ∀ {ly : List zJ} {lm : List Int64} {X : zX} {ρ : List Int32} {a b : zV} {x : Int64} {y : Int32}, zsatL ly lm → zv X ρ lm a (.long x) → zv X ρ lm b (.int y) → zlong (t ly a b) (F x y)) (hS : ∀ {lv : yL} {st : List Value} {ws : va_W} {K : yK} {x : Int64} {y : Int32}, yOk E.1 M d (pc + 1) lv (.long (F x y) :: st) ws K → yOk E.1 M d pc lv (.int y :: .long x :: st) ws K) (hn : zNok E M d (pc + 1) nx) : zNok E M d pc (zd_lsh t nx jp ag ca) := by
  intro rt lv st h sy hk ρ lm lvC stC ws ws0 K hR hA hJ hT
  match st, hk, hR with
  | [], hk, _ => cases hk
  | [b], hk, _ => cases hk
  | b :: a :: st, hk, hR =>
    obtain ⟨vb, s1, rfl, hb, hR1⟩ := zRel_pop hR
    obtain ⟨va, s2, rfl, ha, hR2⟩ := zRel_pop hR1
    obtain ⟨c0, hk1⟩ := zcd (show cond (and (zc_l a) (zc_i b)) (zk_newl h (t h.2 a b) fun v h' => nx rt lv (v :: st) h' sy) false = true from hk) rfl
    have c1 := xan c0
    obtain ⟨x, rfl⟩ := zv_l c1.1 ha
    obtain ⟨y, rfl, -⟩ := zv_int c1.2 hb
    obtain ⟨c, l, g1, g2, g3⟩ := zk_newl_ok hk1 hR.2.1 (ht hR.2.1 ha hb) E.2.2.1 ρ
    exact hS (hn rt lv _ _ sy g1 ρ _ lvC _ ws ws0 K (zRel_push g3 (zRel_lm (xx_e_one _ _) g2 hR2)) hA hJ (zRT_ext (xx_e_rf _) (xx_e_one _ _) hT))
theorem zs_lcmp (hd : decode M.2.1 pc = .ok (.lcmp, 1)) (hn : zNok E M d (pc + 1) nx) : zNok E M d pc (zd_lcmp nx jp ag ca) := by
  intro rt lv st h sy hk ρ lm lvC stC ws ws0 K hR hA hJ hT
  match st, hk, hR with
  | [], hk, _ => cases hk
  | [b], hk, _ => cases hk
  | b :: a :: st, hk, hR =>
    obtain ⟨vb, s1, rfl, hb, hR1⟩ := zRel_pop hR
    obtain ⟨va, s2, rfl, ha, hR2⟩ := zRel_pop hR1
    unfold zd_lcmp at hk
    dsimp only at hk
    obtain ⟨c0, hk1⟩ := zcd hk rfl
    have c1 := xan c0
    obtain ⟨x, rfl⟩ := zv_l c1.1 ha
    obtain ⟨y, rfl⟩ := zv_l c1.2 hb
    cases hc : and (Nat.beq a.1 5) (Nat.beq b.1 4) with
    | true =>
      rw [hc, cond_true] at hk1
      have c2 := xan hc
      obtain ⟨x', q1, q2⟩ := zv_tag c2.1 ha
      injection q2 with q2
      subst q2
      obtain ⟨y', q3, q4⟩ := zv_tag c2.2 hb
      injection q3 with q3
      subst q3
      exact yo_lcmp hd (hn rt lv _ h sy hk1 ρ lm lvC _ ws ws0 K (zRel_push (show zv E.2.2.1 ρ lm (11, a.2.1, b.2.2) _ from ⟨x, y, q1, q4, rfl⟩) hR2) hA hJ hT)
    | false =>
      rw [hc, cond_false] at hk1
      exact yo_lcmp hd (hn rt lv _ h sy hk1 ρ lm lvC _ ws ws0 K (zRel_push (show zv E.2.2.1 ρ lm (12, 0, 0) _ from ⟨_, rfl⟩) hR2) hA hJ hT)
end ZL
