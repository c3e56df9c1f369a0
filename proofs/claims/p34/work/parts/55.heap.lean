/-! fields and rows of the typed run -/
noncomputable def zk_sp (SP : List (List zY)) (k : Nat) (c : zY → Bool) : Bool := zk_nth SP (Nat.div k 12) fun l => zk_nth l (Nat.mod k 12) c
def zteq (a b : zT) : Bool := and (Nat.beq a.1 b.1) (and (zeq a.2.1 b.2.1) (zeq a.2.2 b.2.2))
/-- the first n are all t -/
noncomputable def zun (t : zT) (n : Nat) : List zT → Bool := Nat.rec (motive := fun _ => List zT → Bool) (fun _ => true) (fun _ ih l => List.rec (motive := fun _ => Bool) false (fun a r _ => cond (zteq t a) (ih r) false) l) n
theorem zun_ok {t : zT} : ∀ {n : Nat} {l : List zT}, zun t n l = true → ∀ j, j < n → l[j]? = some t
  | 0, _, _, j, hj => absurd hj (Nat.not_lt_zero j)
  | n + 1, [], h, _, _ => nomatch (show false = true from h)
  | n + 1, a :: l, h, j, hj => by
    obtain ⟨h1, h2⟩ := zcd (show cond (zteq t a) (zun t n l) false = true from h) rfl
    cases j with
    | zero =>
      have c1 := xan h1
      have c2 := xan c1.2
      obtain ⟨t1, t2, t3⟩ := t
      obtain ⟨a1, a2, a3⟩ := a
      have e1 : t1 = a1 := Nat.eq_of_beq_eq_true c1.1
      have e2 : t2 = a2 := zeq_ok.mp c2.1
      have e3 : t3 = a3 := zeq_ok.mp c2.2
      rw [e1, e2, e3]
      rfl
    | succ j =>
      have := zun_ok h2 j (by omega)
      simpa using this
/-- what the place of a cell's kind may hold -/
noncomputable def zk_spec (y : zY) (key : zV) (sy : zS) (k : zT → Bool) : Bool := match y with
  | .inl o => cond (Nat.beq key.1 0) (cond (zle 0 key.2.2) (zk_nth o.2 key.2.2.toNat k) false) false
  | .inr r => zk_rng sy key fun lo hi => cond (and (zle 0 lo) (zle (hi + 1) (.ofNat r.2.1))) (match r.2.2 with
    | [t] => k t
    | l => cond (zle hi lo) (zk_nth l (Nat.mod lo.toNat l.length) k) (zk_nth l lo.toNat fun t => cond (zun t (hi - lo + 1).toNat (xk_drop lo.toNat l)) (k t) false)) false
/-- a value of a kind, named -/
noncomputable def zk_mk (t : zT) (sy : zS) (ly : List zJ) (k : zV → zS → List zJ → Bool) : Bool := cond (Nat.beq t.1 0) (zk_fresh sy t.2.1 t.2.2 fun v sy' => k v sy' ly) (cond (Nat.beq t.1 1) (k (3, t.2.1.toNat, 0) sy ly) (cond (Nat.beq t.1 2) (k (10, 0, 0) sy ly) (cond (Nat.beq t.1 3) (zk_push ly (0, t.2.1.toNat, [], []) 0 fun ly' n => k (5, n, 0) sy ly') false)))
noncomputable def zk_load (y : zY) (sy : zS) (h : zH) (r : Nat) (key : zV) (k : zV → zH → zS → Bool) : Bool := zk_find h.1 r key (fun a => k a h sy) (zk_spec y key sy fun t => zk_mk t sy h.2 fun v sy' ly' => k v ((r, key, v) :: h.1, ly') sy')
/-- does a value fit -/
noncomputable def zfv (t : zT) (v : zV) (sy : zS) (ly : List zJ) : Bool := cond (Nat.beq t.1 0) (zk_rng sy v fun lo hi => and (zle t.2.1 lo) (zle hi t.2.2)) (cond (Nat.beq t.1 1) (and (Nat.beq v.1 3) (Nat.beq v.2.1 t.2.1.toNat)) (cond (Nat.beq t.1 2) (or (zc_r v) (or (Nat.beq v.1 2) (Nat.beq v.1 10))) (cond (Nat.beq t.1 3) (and (zc_l v) (or (or (Nat.beq t.2.1.toNat 0) (and (Nat.beq v.1 4) (zeq v.2.2 0))) (and (Nat.beq v.1 5) (zk_nth ly v.2.1 fun e => and (Nat.beq e.1 0) (Nat.ble t.2.1.toNat e.2.1))))) false)))
/-- does it fit the type; 0 int .. 4 short, 5 long, 6 reference -/
noncomputable def zft (tc : Nat) (v : zV) (sy : zS) : Bool := cond (Nat.ble tc 4) (zk_rng sy v fun lo hi => xh_fit tc (1, 0) [(lo, hi)]) (cond (Nat.beq tc 5) (zc_l v) (cond (Nat.beq tc 6) (or (zc_r v) (or (Nat.beq v.1 2) (Nat.beq v.1 10))) false))
noncomputable def zk_store (C : zCf) (md : zM) (y : zY) (sy : zS) (h : zH) (r : Nat) (key v : zV) (k : zH → Bool) : Bool := zk_spec y key sy fun t => cond (and (Nat.ble (Nat.succ r) 1000) (and (zfv t v sy h.2) (zmay sy md r key key))) (zk_fil (zdrop1 C.2 sy r key) h.1 fun F => k ((r, key, v) :: F, h.2)) false
noncomputable def zd_get (SP : List (List zY)) (nt a1 a2 : Nat) : zD := fun nx _ _ _ rt lv st h sy => match st with
  | a :: st' => cond (Nat.beq a.1 3) (zk_sp SP a.2.1 fun y => match y with
      | .inl o => cond (Nat.beq o.1 a1) (zk_load y sy h a.2.1 (0, 0, .ofNat a2) fun v h' sy' => nx rt lv (v :: st') h' sy') false
      | .inr _ => false) (cond (and (Nat.beq a.1 7) (and (Nat.beq a1 1000) (Nat.ble (Nat.succ a.2.1) nt))) (cond (Nat.beq a2 0) (nx rt lv ((0, 0, 0) :: st') h sy) (cond (Nat.beq a2 1) (nx rt lv ((8, a.2.1, 0) :: st') h sy) false)) false)
  | _ => false
noncomputable def zd_put (C : zCf) (md : zM) (a1 a2 a3 : Nat) : zD := fun nx _ _ _ rt lv st h sy => match st with
  | v :: a :: st' => cond (and (Nat.beq a.1 3) (zft a3 v sy)) (zk_sp C.1 a.2.1 fun y => match y with
      | .inl o => cond (Nat.beq o.1 a1) (zk_store C md y sy h a.2.1 (0, 0, .ofNat a2) v fun h' => nx rt lv st' h' sy) false
      | .inr _ => false) false
  | _ => false
/-- the place in a row: numbers, where the row's places are of several sorts -/
noncomputable def zk_key (r : FieldType × Nat × List zT) (i : zV) (sy : zS) (k : zV → zS → Bool) : Bool := zk_rng sy i fun lo hi => cond (zle hi lo) (k (0, 0, lo) sy) (match r.2.2 with
  | [_] => k i sy
  | l => cond (and (zle 0 lo) (zk_nth l lo.toNat fun t => zun t (hi - lo + 1).toNat (xk_drop lo.toNat l))) (k i sy) (zk_all (xh_num lo (hi - lo + 1).toNat) fun z => zf z fun z' => zk_put sy i (z', z') fun sy' => k (0, 0, z') sy'))
noncomputable def zd_ald (SP : List (List zY)) (BY : List (List Int32)) (kd : Nat) : zD := fun nx _ _ _ rt lv st h sy => match st with
  | i :: a :: st' => cond (Nat.beq a.1 3) (zk_sp SP a.2.1 fun y => match y with
      | .inl _ => false
      | .inr r => cond (Nat.beq (xh_kind r.1) kd) (zk_key r i sy fun key sy1 => zk_load y sy1 h a.2.1 key fun v h' sy' => nx rt lv (v :: st') h' sy') false)
    (cond (and (Nat.beq a.1 6) (Nat.beq kd 0)) (cond (and (zk_rng sy i fun lo _ => zle 0 lo) (zge sy 3 (1, a.2.1, 0) i 1)) (zk_find h.1 1047 i (fun v => cond (zc_i v) (nx rt lv (v :: st') h sy) false) (zk_fresh sy zlo zhi fun v sy' => nx rt lv (v :: st') h sy')) false)
    (cond (and (Nat.beq a.1 8) (Nat.beq kd 1)) (zk_nth BY a.2.1 fun bs => zk_rng sy i fun lo hi => cond (and (zle 0 lo) (zle (hi + 1) (.ofNat bs.length))) (zk_fresh sy (.negSucc 127) 127 fun v sy' => nx rt lv (v :: st') h sy') false) false))
  | _ => false
noncomputable def zd_ast (C : zCf) (md : zM) (kd : Nat) : zD := fun nx _ _ _ rt lv st h sy => match st with
  | v :: i :: a :: st' => cond (Nat.beq a.1 3) (zk_sp C.1 a.2.1 fun y => match y with
      | .inl _ => false
      | .inr r => cond (and (Nat.beq (xh_kind r.1) kd) (zft (xh_tc r.1) v sy)) (zk_key r i sy fun key sy1 => zk_store C md y sy1 h a.2.1 key v fun h' => nx rt lv st' h' sy1) false) false
  | _ => false
noncomputable def zd_alen (SP : List (List zY)) (BY : List (List Int32)) : zD := fun nx _ _ _ rt lv st h sy => match st with
  | a :: st' => cond (Nat.beq a.1 3) (zk_sp SP a.2.1 fun y => match y with
      | .inl _ => false
      | .inr r => nx rt lv ((0, 0, .ofNat r.2.1) :: st') h sy)
    (cond (Nat.beq a.1 6) (nx rt lv ((1, a.2.1, 0) :: st') h sy)
    (cond (Nat.beq a.1 8) (zk_nth BY a.2.1 fun bs => xx_f bs.length fun n => nx rt lv ((0, 0, .ofNat n) :: st') h sy) false))
  | _ => false
noncomputable def zd_iret (tc : Nat) : zD := fun _ _ _ _ rt _ st h sy => match st with
  | [v] => cond (and (Nat.ble tc 4) (zft tc v sy)) (rt (some v) h sy) false
  | _ => false
/-! what they give -/
theorem zk_sp_ok {SP : List (List zY)} {k : Nat} {c : zY → Bool} (h : zk_sp SP k c = true) : ∃ y, zsp SP k = some y ∧ c y = true := by
  obtain ⟨l, h1, h2⟩ := zk_nth_ok h
  obtain ⟨y, h3, h4⟩ := zk_nth_ok h2
  refine ⟨y, ?_, h4⟩
  show (SP[Nat.div k 12]?).bind _ = _
  rw [h1]
  exact h3
theorem zk_spec_ok {y : zY} {key : zV} {sy : zS} {ρ : List Int32} {k : zT → Bool} {z : Int} (h : zk_spec y key sy k = true) (hs : zsat sy ρ) (hz : zi ρ key z) : ∃ t, zspec y z.toNat = some t ∧ k t = true ∧ 0 ≤ z := by
  cases y with
  | inl o =>
    obtain ⟨c1, h1⟩ := zcd (show cond (Nat.beq key.1 0) (cond (zle 0 key.2.2) (zk_nth o.2 key.2.2.toNat k) false) false = true from h) rfl
    obtain ⟨c2, h2⟩ := zcd h1 rfl
    obtain ⟨t, h3, h4⟩ := zk_nth_ok h2
    have e := zi_0 c1 hz
    have := zle_ok.mp c2
    rw [e]
    exact ⟨t, h3, h4, this⟩
  | inr r =>
    obtain ⟨w, lo, hi, k1, k2, k3, k4⟩ := zk_rng_i (show (zk_rng sy key fun lo hi => cond (and (zle 0 lo) (zle (hi + 1) (.ofNat r.2.1))) (match r.2.2 with
      | [t] => k t
      | l => cond (zle hi lo) (zk_nth l (Nat.mod lo.toNat l.length) k) (zk_nth l lo.toNat fun t => cond (zun t (hi - lo + 1).toNat (xk_drop lo.toNat l)) (k t) false)) false) = true from h) hs
    rw [zi_fun k1 hz] at k2 k3
    obtain ⟨c1, h1⟩ := zcd k4 rfl
    have c2 := xan c1
    have b1 := zle_ok.mp c2.1
    have b2 : hi + 1 ≤ (r.2.1 : Int) := zle_ok.mp c2.2
    have hlt : z.toNat < r.2.1 := by omega
    have e : zspec (.inr r) z.toNat = r.2.2[z.toNat % r.2.2.length]? := if_pos hlt
    have gen : ∀ l : List zT, r.2.2 = l → (cond (zle hi lo) (zk_nth l (Nat.mod lo.toNat l.length) k) (zk_nth l lo.toNat fun t => cond (zun t (hi - lo + 1).toNat (xk_drop lo.toNat l)) (k t) false)) = true → ∃ t, zspec (.inr r) z.toNat = some t ∧ k t = true ∧ 0 ≤ z := by
      intro l hl hq
      cases hc : zle hi lo with
      | true =>
        rw [hc, cond_true] at hq
        have := zle_ok.mp hc
        obtain ⟨t, h3, h4⟩ := zk_nth_ok hq
        refine ⟨t, ?_, h4, by omega⟩
        rw [e, hl, show z = lo by omega]
        exact h3
      | false =>
        rw [hc, cond_false] at hq
        obtain ⟨t, h3, h4⟩ := zk_nth_ok hq
        obtain ⟨d1, d2⟩ := zcd h4 rfl
        rw [xk_drop_eq] at d1
        have h5 := zun_ok d1 (z.toNat - lo.toNat) (by omega)
        rw [List.getElem?_drop, show lo.toNat + (z.toNat - lo.toNat) = z.toNat by omega] at h5
        have h6 := (List.getElem?_eq_some_iff.mp h5).1
        refine ⟨t, ?_, d2, by omega⟩
        rw [e, hl, Nat.mod_eq_of_lt h6]
        exact h5
    cases hl : r.2.2 with
    | nil =>
      rw [hl] at h1
      exact gen [] hl h1
    | cons t l =>
      cases l with
      | nil =>
        rw [hl] at h1
        refine ⟨t, ?_, h1, by omega⟩
        rw [e, hl]
        show [t][z.toNat % 1]? = some t
        rw [Nat.mod_one]
        rfl
      | cons t2 l =>
        rw [hl] at h1
        exact gen (t :: t2 :: l) hl h1
theorem zk_mk_ok {X : zX} {t : zT} {sy : zS} {ly : List zJ} {ρ : List Int32} {lm : List Int64} {k : zV → zS → List zJ → Bool} {v : Value} (h : zk_mk t sy ly k = true) (hs : zsat sy ρ) (hl : zsatL ly lm) (hv : zfit X t v) : ∃ a sy' ly' ρ' lm', k a sy' ly' = true ∧ xx_e ρ ρ' ∧ xx_e lm lm' ∧ zsat sy' ρ' ∧ zsatL ly' lm' ∧ zv X ρ' lm' a v := by
  obtain ⟨t1, t2, t3⟩ := t
  unfold zk_mk at h
  cases h0 : Nat.beq t1 0 with
  | true =>
    rw [h0, cond_true] at h
    have e : t1 = 0 := Nat.eq_of_beq_eq_true h0
    subst e
    obtain ⟨x, rfl, b1, b2⟩ := hv
    obtain ⟨c, sy', ρ', g1, g2, g3, g4⟩ := zk_fresh_ok h hs b1 b2
    exact ⟨c, sy', ly, ρ', lm, g1, g2, xx_e_rf _, g3, hl, zv_of_zi g4⟩
  | false =>
    rw [h0, cond_false] at h
    cases h1 : Nat.beq t1 1 with
    | true =>
      rw [h1, cond_true] at h
      have e : t1 = 1 := Nat.eq_of_beq_eq_true h1
      subst e
      exact ⟨_, sy, ly, ρ, lm, h, xx_e_rf _, xx_e_rf _, hs, hl, hv⟩
    | false =>
      rw [h1, cond_false] at h
      cases h2 : Nat.beq t1 2 with
      | true =>
        rw [h2, cond_true] at h
        have e : t1 = 2 := Nat.eq_of_beq_eq_true h2
        subst e
        exact ⟨_, sy, ly, ρ, lm, h, xx_e_rf _, xx_e_rf _, hs, hl, hv⟩
      | false =>
        rw [h2, cond_false] at h
        obtain ⟨h3, h4⟩ := zcd h rfl
        have e : t1 = 3 := Nat.eq_of_beq_eq_true h3
        subst e
        obtain ⟨x, rfl, b1⟩ := hv
        have h5 := zk_push_ok h4
        refine ⟨_, sy, _, ρ, lm ++ [x], h5, xx_e_rf _, xx_e_one _ _, hs, xx_2_app hl ⟨⟨b1, fun c hc => absurd hc List.not_mem_nil, fun c hc => absurd hc List.not_mem_nil⟩, trivial⟩, x, ?_, rfl⟩
        show (lm ++ [x])[0 + ly.length]? = some x
        rw [Nat.zero_add, xx_2_len hl]
        simp
/-- a cell's place -/
theorem zat_some {g : yG} {X : zX} {y : zY} {e : va_E} {j : Nat} {t : zT} (hc : zcell g X y e) (h : zspec y j = some t) : ∃ v, zat e j = some v := by
  cases y with
  | inl o =>
    obtain ⟨⟨fs, rfl, hl⟩, -⟩ := hc
    have hj : j < fs.length := by
      have := (List.getElem?_eq_some_iff.mp (show o.2[j]? = some t from h)).1
      omega
    exact ⟨fs[j], List.getElem?_eq_getElem hj⟩
  | inr r =>
    obtain ⟨⟨cA, -, -, hk⟩, -⟩ := hc
    have hj : j < r.2.1 := by
      by_cases hj : j < r.2.1
      · exact hj
      · exact absurd (show (if j < r.2.1 then r.2.2[j % r.2.2.length]? else none) = some t from h) (by rw [if_neg hj]; exact fun q => nomatch q)
    rcases hk with ⟨f, rfl, -⟩ | ⟨f, rfl, -⟩
    · exact ⟨.int (f j), if_pos hj⟩
    · exact ⟨.long (f j), if_pos hj⟩
theorem zk_load_ok {g : yG} {SP : List (List zY)} {X : zX} {J : zJp} {y : zY} {sy : zS} {h : zH} {r : Nat} {key : zV} {k : zV → zH → zS → Bool} {ρ : List Int32} {lm : List Int64} {ws : va_W} (hk : zk_load y sy h r key k = true) (hs : zsat sy ρ) (hl : zsatL h.2 lm) (hF : zfa X J ρ lm ws h.1) (hT : zTw g SP X ws) (hy : zsp SP r = some y) (hr : r < 1000) (hw : r < ws.length) :
    ∃ p v z a h' sy' ρ' lm', ws[r]? = some p ∧ zi ρ key z ∧ 0 ≤ z ∧ zat p.2 z.toNat = some v ∧ k a h' sy' = true ∧ xx_e ρ ρ' ∧ xx_e lm lm' ∧ zsat sy' ρ' ∧ zsatL h'.2 lm' ∧ zfa X J ρ' lm' ws h'.1 ∧ zv X ρ' lm' a v := by
  rcases zk_find_ok hk with ⟨a, h1, h2⟩ | h1
  · obtain ⟨p', v', z', k1, k2, k3, k4, k5⟩ := (hF _ h1).2 hr
    exact ⟨p', v', z', a, h, sy, ρ, lm, k1, k2, k3, k4, h2, xx_e_rf _, xx_e_rf _, hs, hl, hF, k5⟩
  · have hz : ∃ z, zi ρ key z := by
      cases y with
      | inl o =>
        obtain ⟨c1, -⟩ := zcd (show cond (Nat.beq key.1 0) (cond (zle 0 key.2.2) (zk_nth o.2 key.2.2.toNat _) false) false = true from h1) rfl
        exact ⟨key.2.2, Or.inl ⟨Nat.eq_of_beq_eq_true c1, rfl⟩⟩
      | inr q =>
        have h1' := h1
        unfold zk_spec at h1'
        obtain ⟨z, lo, hi, k1, -⟩ := zk_rng_i h1' hs
        exact ⟨z, k1⟩
    obtain ⟨z, hz⟩ := hz
    obtain ⟨t, h2, h3, h0⟩ := zk_spec_ok h1 hs hz
    have hp : ws[r]? = some ws[r] := List.getElem?_eq_getElem hw
    have hc := hT.2.2 _ _ _ hy hp
    obtain ⟨v, hv⟩ := zat_some hc h2
    have hfit := hc.2 _ _ _ h2 hv
    obtain ⟨a, sy', ly', ρ', lm', g1, g2, g3, g4, g5, g6⟩ := zk_mk_ok h3 hs hl hfit
    refine ⟨ws[r], v, z, a, _, sy', ρ', lm', hp, hz, h0, hv, g1, g2, g3, g4, g5, fun f hf => ?_, g6⟩
    rcases List.mem_cons.mp hf with rfl | hf
    · exact ⟨fun q => absurd q (Nat.not_le.mpr hr), fun _ => ⟨ws[r], v, z, hp, zi_mono g2 hz, h0, hv, g6⟩⟩
    · exact zfa_mono g2 g3 hF f hf
theorem zfv_ok {X : zX} {t : zT} {a : zV} {sy : zS} {ly : List zJ} {ρ : List Int32} {lm : List Int64} {v : Value} (h : zfv t a sy ly = true) (hs : zsat sy ρ) (hl : zsatL ly lm) (hv : zv X ρ lm a v) : zfit X t v := by
  obtain ⟨t1, t2, t3⟩ := t
  unfold zfv at h
  cases h0 : Nat.beq t1 0 with
  | true =>
    rw [h0, cond_true] at h
    have e : t1 = 0 := Nat.eq_of_beq_eq_true h0
    subst e
    obtain ⟨x, lo, hi, rfl, -, b1, b2, b3⟩ := zk_rng_ok h hs hv
    have c1 := xan b3
    have d1 := zle_ok.mp c1.1
    have d2 := zle_ok.mp c1.2
    refine ⟨x, rfl, ?_, ?_⟩
    · show t2 ≤ x.toInt
      have : t2 ≤ lo := d1
      omega
    · show x.toInt ≤ t3
      have : hi ≤ t3 := d2
      omega
  | false =>
    rw [h0, cond_false] at h
    cases h1 : Nat.beq t1 1 with
    | true =>
      rw [h1, cond_true] at h
      have e : t1 = 1 := Nat.eq_of_beq_eq_true h1
      subst e
      have c1 := xan h
      obtain ⟨q, q1, q2⟩ := zv_tag c1.1 hv
      rw [Nat.eq_of_beq_eq_true c1.2] at q1
      exact ⟨q, q1, q2⟩
    | false =>
      rw [h1, cond_false] at h
      cases h2 : Nat.beq t1 2 with
      | true =>
        rw [h2, cond_true] at h
        have e : t1 = 2 := Nat.eq_of_beq_eq_true h2
        subst e
        rcases zor h with q | q
        · exact Or.inr (zv_r q hv)
        · rcases zor q with q | q
          · exact Or.inl (zv_tag q hv)
          · exact zv_tag q hv
      | false =>
        rw [h2, cond_false] at h
        obtain ⟨h3, h4⟩ := zcd h rfl
        have e : t1 = 3 := Nat.eq_of_beq_eq_true h3
        subst e
        have c1 := xan h4
        rcases zor c1.2 with q | q
        · rcases zor q with q | q
          · obtain ⟨x, rfl⟩ := zv_l c1.1 hv
            refine ⟨x, rfl, ?_⟩
            show zdig t2.toNat x
            rw [Nat.eq_of_beq_eq_true q]
            exact fun i hi => absurd hi (Nat.not_lt_zero i)
          · have c2 := xan q
            obtain ⟨x, rfl, q2⟩ := zv_tag c2.1 hv
            have q3 : x.toInt = 0 := by
              have : x.toInt = a.2.2 := q2
              rw [this, zeq_ok.mp c2.2]
            have q4 : x = 0 := by
              rw [← Int64.toInt_inj, q3]
              rfl
            refine ⟨x, rfl, fun i _ => ?_⟩
            rw [q4]
            show 0 / 32 ^ i % 32 ≤ 26
            rw [Nat.zero_div]
            decide
        · have c2 := xan q
          obtain ⟨x, q1, rfl⟩ := zv_tag c2.1 hv
          obtain ⟨e, e1, e2⟩ := zk_nth_ok c2.2
          have c3 := xan e2
          obtain ⟨x', e3, e4⟩ := xx_2_get hl e1
          have q1' : lm[a.2.1]? = some x := q1
          rw [e3] at q1'
          cases q1'
          obtain ⟨s, m, eq, ne⟩ := e
          have es : s = 0 := Nat.eq_of_beq_eq_true c3.1
          subst es
          have hm : t2.toNat ≤ m := Nat.le_of_ble_eq_true c3.2
          exact ⟨_, rfl, fun i hi => e4.1 i (Nat.lt_of_lt_of_le hi hm)⟩
theorem zft_int {X : zX} {ty : FieldType} {a : zV} {sy : zS} {ρ : List Int32} {lm : List Int64} {v : Value} (h : zft (xh_tc ty) a sy = true) (h4 : xh_tc ty ≤ 4) (hs : zsat sy ρ) (hv : zv X ρ lm a v) : ∃ x : Int32, v = .int x ∧ narrow ty (.int x) = .int x ∧ fits ty (.int x) = true := by
  unfold zft at h
  rw [Nat.ble_eq_true_of_le h4, cond_true] at h
  obtain ⟨x, lo, hi, rfl, -, b1, b2, b3⟩ := zk_rng_ok h hs hv
  have hq := xfit_ok (X := X.1.1) (aw := []) (ρ := [x]) (v := .int x) b3 ⟨⟨b1, b2⟩, trivial⟩ ⟨x, rfl, rfl⟩
  exact ⟨x, rfl, hq.1, hq.2⟩
theorem zft_ok {X : zX} {ty : FieldType} {a : zV} {sy : zS} {ρ : List Int32} {lm : List Int64} {v : Value} (h : zft (xh_tc ty) a sy = true) (hs : zsat sy ρ) (hv : zv X ρ lm a v) : narrow ty v = v ∧ fits ty v = true := by
  by_cases h4 : xh_tc ty ≤ 4
  · obtain ⟨x, rfl, h1, h2⟩ := zft_int h h4 hs hv
    exact ⟨h1, h2⟩
  · unfold zft at h
    have hf : Nat.ble (xh_tc ty) 4 = false := by
      cases hq : Nat.ble (xh_tc ty) 4 with
      | false => rfl
      | true => exact absurd (Nat.le_of_ble_eq_true hq) h4
    rw [hf, cond_false] at h
    have gref : or (zc_r a) (or (Nat.beq a.1 2) (Nat.beq a.1 10)) = true → v = .null ∨ ∃ q, v = .ref q := by
      intro h
      rcases zor h with q | q
      · exact Or.inr (zv_r q hv)
      · rcases zor q with q | q
        · exact Or.inl (zv_tag q hv)
        · exact zv_tag q hv
    cases ty with
    | long =>
      obtain ⟨x, rfl⟩ := zv_l (show zc_l a = true from h) hv
      exact ⟨rfl, rfl⟩
    | object C =>
      rcases gref h with rfl | ⟨q, rfl⟩
      · exact ⟨rfl, rfl⟩
      · exact ⟨rfl, rfl⟩
    | array C =>
      rcases gref h with rfl | ⟨q, rfl⟩
      · exact ⟨rfl, rfl⟩
      · exact ⟨rfl, rfl⟩
    | int => exact absurd (by decide) h4
    | boolean => exact absurd (by decide) h4
    | byte => exact absurd (by decide) h4
    | char => exact absurd (by decide) h4
    | short => exact absurd (by decide) h4
    | _ => cases h
theorem zRel_ext2 {E : zEn} {ρ ρ' : List Int32} {lm lm' : List Int64} {lv st : List zV} {h h' : zH} {sy sy' : zS} {lvC : yL} {stC : List Value} {ws : va_W} (e : xx_e ρ ρ') (e' : xx_e lm lm') (hs : zsat sy' ρ') (hl : zsatL h'.2 lm') (hF : zfa E.2.2.1 E.2.2.2.2.1 ρ' lm' ws h'.1) (hR : zRel E ρ lm lv st h sy lvC stC ws) : zRel E ρ' lm' lv st h' sy' lvC stC ws :=
  ⟨hs, hl, hR.2.2.1, hF, xx_2_mono (fun _ _ q => zlv_mono e e' q) hR.2.2.2.2.1, xx_2_mono (fun _ _ q => zv_mono e e' q) hR.2.2.2.2.2⟩
/-- a cell's shape -/
def zshape (g : yG) (y : zY) (e : va_E) : Prop := match y with
  | .inl o => ∃ fs, e = .inr (o.1, fs) ∧ fs.length = o.2.length
  | .inr r => ∃ cA, (cA, r.1) ∈ g.2 ∧ r.2.1 < 2 ^ 31 ∧ ((∃ f, e = .inl (cA, r.2.1, .inl f) ∧ xh_kind r.1 < 2) ∨ ∃ f, e = .inl (cA, r.2.1, .inr (.inl f)) ∧ xh_kind r.1 = 2)
theorem zcell_sh {g : yG} {X : zX} {y : zY} {e : va_E} (h : zcell g X y e) : zshape g y e := by
  cases y with
  | inl o => exact h.1
  | inr r => exact h.1
theorem zcell_of {g : yG} {X : zX} {y : zY} {e : va_E} (h : zshape g y e) (k : ∀ (j : Nat) (t : zT) (v : Value), zspec y j = some t → zat e j = some v → zfit X t v) : zcell g X y e := by
  cases y with
  | inl o => exact ⟨h, k⟩
  | inr r => exact ⟨h, k⟩
/-- the world behind a write -/
theorem zTw_w {g : yG} {SP : List (List zY)} {X : zX} {ws : va_W} (hT : zTw g SP X ws) {k q j : Nat} {e : va_E} {y : zY} {t : zT} {v : Value} (hk : ws[k]? = some (q, e)) (hy : zsp SP k = some y) (ht : zspec y j = some t) (hv : zfit X t v) (w1 : zshape g y (zw e j v)) (w2 : ∀ v', zat (zw e j v) j = some v' → v' = v) : zTw g SP X (ws.set k (q, zw e j v)) := by
  obtain ⟨h1, h2, h3⟩ := hT
  have hkl := (List.getElem?_eq_some_iff.mp hk).1
  refine ⟨h1, ?_, fun i y' p hy' hp => ?_⟩
  · rw [h2]
    exact (xaw_set hk).symm
  · by_cases hi : i = k
    · subst hi
      rw [List.getElem?_set_self hkl] at hp
      cases hp
      rw [hy] at hy'
      cases hy'
      have hc := h3 _ _ _ hy hk
      refine zcell_of w1 (fun i t' v' s1 s2 => ?_)
      by_cases hij : i = j
      · subst hij
        rw [ht] at s1
        cases s1
        rw [w2 v' s2]
        exact hv
      · rw [zat_o hij] at s2
        exact hc.2 i t' v' s1 s2
    · rw [List.getElem?_set_ne (fun e => hi e.symm)] at hp
      exact h3 _ _ _ hy' hp
theorem zag_w1 {ws : va_W} {k q j : Nat} {e : va_E} {v : Value} (hk : ws[k]? = some (q, e)) : zag (fun a b => a = k ∧ b = j) ws (ws.set k (q, zw e j v)) := by
  refine ⟨xaw_set hk, fun i p p' h1 h2 i' hi' => ?_⟩
  have hkl := (List.getElem?_eq_some_iff.mp hk).1
  by_cases hi : i = k
  · subst hi
    rw [List.getElem?_set_self hkl] at h2
    cases h2
    rw [hk] at h1
    cases h1
    show zat (zw e j v) i' = _
    rw [zat_o (fun q => hi' ⟨rfl, q⟩)]
  · rw [List.getElem?_set_ne (fun e => hi e.symm), h1] at h2
    cases h2
    rfl
theorem zfa_w {FP : List zFp} {X : zX} {J : zJp} {sy : zS} {ρ : List Int32} {lm : List Int64} {ws : va_W} {F : zF} (hJ : zJof FP J) (hs : zsat sy ρ) (hF : zfa X J ρ lm ws F) {k q : Nat} {e : va_E} {key : zV} {z : Int} {v : Value} (hk : ws[k]? = some (q, e)) (hz : zi ρ key z) (h0 : 0 ≤ z) : zfa X J ρ lm (ws.set k (q, zw e z.toNat v)) (zfil (zdrop1 FP sy k key) F) := fun f hf => by
  obtain ⟨h1, h2⟩ := zfil_ok hf
  unfold zdrop1 at h2
  refine ⟨fun hq => ?_, fun hq => ?_⟩
  · obtain ⟨z', w, k1, k2, k3⟩ := (hF f h1).1 hq
    rw [Nat.ble_eq_true_of_le hq, cond_true] at h2
    obtain ⟨fp, g1, g2⟩ := zk_nth_ok h2
    refine ⟨z', w, k1, k2, hJ f.1 z' w fp _ ws _ hq g1 (zag_w1 hk) (fun m hm j b1 hP => ?_) k3⟩
    have e3 := hP.2
    exact zdis1_ok hs (zk_all_ok g2 m hm) k1 k2 hz hz j b1 ⟨hP.1.symm, by omega, by omega⟩
  · obtain ⟨p, v', z', k1, k2, k3, k4, k5⟩ := (hF f h1).2 hq
    have hb : Nat.ble 1000 f.1 = false := by
      cases hz : Nat.ble 1000 f.1 with
      | false => rfl
      | true => exact absurd (Nat.le_of_ble_eq_true hz) (by omega)
    rw [hb, cond_false] at h2
    have hkl := (List.getElem?_eq_some_iff.mp hk).1
    by_cases hi : f.1 = k
    · rw [hi, hk] at k1
      cases k1
      refine ⟨_, v', z', by rw [hi, List.getElem?_set_self hkl], k2, k3, ?_, k5⟩
      rcases zor h2 with q | q
      · rw [hi, Nat.beq_refl] at q
        cases q
      have := zapart_ok hs q k2 hz
      show zat (zw e z.toNat v) z'.toNat = some v'
      rw [zat_o (by omega)]
      exact k4
    · exact ⟨p, v', z', by rw [List.getElem?_set_ne (fun e => hi e.symm)]; exact k1, k2, k3, k4, k5⟩
theorem zag_w {P : zPl} {ws0 ws : va_W} (hA : zag P ws0 ws) {k q j : Nat} {e : va_E} {v : Value} (hk : ws[k]? = some (q, e)) (hm : P k j) : zag P ws0 (ws.set k (q, zw e j v)) :=
  zag_tr hA (zag_sub (fun a b h => by rw [h.1, h.2]; exact hm) (zag_w1 hk))
