/-! contracts: a state held against a template -/
/-- a template's value in the run's words -/
noncomputable def zren (σ τ : List zV) (a : zV) (k : zV → Bool) : Bool := cond (Nat.beq a.1 1) (zk_nth σ a.2.1 fun b => zf (b.2.2 + a.2.2) fun c => k (b.1, b.2.1, c)) (cond (Nat.beq a.1 5) (zk_nth τ a.2.1 k) (cond (or (Nat.beq a.1 6) (Nat.beq a.1 11)) false (k a)))
noncomputable def zrenF (σ τ : List zV) (F : zF) : zF → (zF → Bool) → Bool := List.rec (motive := fun _ => zF → (zF → Bool) → Bool) (fun acc k => k acc) (fun f _ ih acc k => zren σ τ f.2.1 fun a => zren σ τ f.2.2 fun b => ih ((f.1, a, b) :: acc) k) F
noncomputable def zrenM (σ τ : List zV) (md : zM) : zM → (zM → Bool) → Bool := List.rec (motive := fun _ => zM → (zM → Bool) → Bool) (fun acc k => k acc) (fun f _ ih acc k => zren σ τ f.2.1 fun a => zren σ τ f.2.2 fun b => ih ((f.1, a, b) :: acc) k) md
noncomputable def zmv (σ τ : List zV) (sy : zS) (t a : zV) (k : List zV → List zV → Bool) : Bool :=
  cond (Nat.beq t.1 1) (cond (Nat.ble (Nat.succ t.2.1) σ.length) (zk_nth σ t.2.1 fun b => zf (b.2.2 + t.2.2) fun c => cond (and (zc_i a) (zsame sy (b.1, b.2.1, c) a)) (k σ τ) false) (cond (and (Nat.beq t.2.1 σ.length) (and (zeq t.2.2 0) (zc_i a))) (zk_push σ a 0 fun σ' _ => k σ' τ) false))
  (cond (Nat.beq t.1 0) (cond (zk_rng sy a fun lo hi => and (zle t.2.2 lo) (zle hi t.2.2)) (k σ τ) false)
  (cond (Nat.beq t.1 5) (cond (Nat.ble (Nat.succ t.2.1) τ.length) (zk_nth τ t.2.1 fun b => cond (zveq b a) (k σ τ) false) (cond (and (Nat.beq t.2.1 τ.length) (zc_l a)) (zk_push τ a 0 fun τ' _ => k σ τ') false))
  (cond (Nat.beq t.1 10) (cond (or (zc_r a) (or (Nat.beq a.1 2) (Nat.beq a.1 10))) (k σ τ) false)
  (cond (Nat.beq t.1 6) (cond (Nat.beq a.1 6) (cond (Nat.ble (Nat.succ t.2.1) σ.length) (cond (zk_nth σ t.2.1 fun b => zveq b (1, a.2.1, 0)) (k σ τ) false) (cond (Nat.beq t.2.1 σ.length) (zk_push σ (1, a.2.1, 0) 0 fun σ' _ => k σ' τ) false)) false)
  (cond (and (Nat.ble t.1 8) (zveq t a)) (k σ τ) false)))))
noncomputable def zmvs (sy : zS) (ts : List zV) : List zV → List zV → List zV → (List zV → List zV → Bool) → Bool := List.rec (motive := fun _ => List zV → List zV → List zV → (List zV → List zV → Bool) → Bool) (fun as σ τ k => match as with
    | [] => k σ τ
    | _ => false) (fun t _ ih as σ τ k => match as with
    | a :: as' => cond (Nat.beq t.1 9) (ih as' σ τ k) (cond (Nat.beq a.1 9) false (zmv σ τ sy t a fun σ' τ' => ih as' σ' τ' k))
    | _ => false) ts
abbrev zKf : Type := List zV → List zV → zH → zS → Bool
noncomputable def zmf (C : zCf) (F : zF) : List zV → List zV → zH → zS → zKf → Bool := List.rec (motive := fun _ => List zV → List zV → zH → zS → zKf → Bool) (fun σ τ h sy k => k σ τ h sy) (fun f _ ih σ τ h sy k => cond (Nat.ble 1000 f.1) (zk_any h.1 fun f' => cond (and (Nat.beq f'.1 f.1) (and (zk_rng sy f'.2.1 zin) (and (zk_rng sy f'.2.2 zin) (and (Nat.ble f.2.1.1 8) (Nat.ble f.2.2.1 8))))) (zmv σ τ sy f.2.1 f'.2.1 fun σ1 τ1 => zmv σ1 τ1 sy f.2.2 f'.2.2 fun σ2 τ2 => ih σ2 τ2 h sy k) false) (zren σ τ f.2.1 fun key => zk_sp C.1 f.1 fun y => zk_load y sy h f.1 key fun v h' sy' => zmv σ τ sy' f.2.2 v fun σ1 τ1 => ih σ1 τ1 h' sy' k)) F
noncomputable def zms1 (σ : List zV) (sy : zS) (e : zI) (b : zV) : Bool := and (zin e.1 e.2.1) (and (zk_rng sy b fun lo hi => and (zle e.1 lo) (zle hi e.2.1)) (cond (Nat.beq e.2.2.1 0) true (zk_nth σ (Nat.pred e.2.2.1) fun p => zge sy 10 b p e.2.2.2)))
noncomputable def zms (σ : List zV) (sy : zS) (es : zS) : List zV → Bool := List.rec (motive := fun _ => List zV → Bool) (fun bs => match bs with
    | [] => true
    | _ => false) (fun e _ ih bs => match bs with
    | b :: bs' => cond (zms1 σ sy e b) (ih bs') false
    | _ => false) es
noncomputable def zml1 (ly : List zJ) (e : zJ) (b : zV) : Bool := and (and (Nat.beq e.1 0) (and (znil e.2.2.1) (znil e.2.2.2))) (or (Nat.beq e.2.1 0) (and (Nat.beq b.1 5) (zk_nth ly b.2.1 fun e' => and (Nat.beq e'.1 0) (Nat.ble e.2.1 e'.2.1))))
noncomputable def zml (ly : List zJ) (es : List zJ) : List zV → Bool := List.rec (motive := fun _ => List zV → Bool) (fun bs => match bs with
    | [] => true
    | _ => false) (fun e _ ih bs => match bs with
    | b :: bs' => cond (zml1 ly e b) (ih bs') false
    | _ => false) es
/-! what it gives -/
def zsm (ρ : List Int32) (σ : List zV) (ρt : List Int32) : Prop := xx_2 (fun (a : zV) (x : Int32) => zi ρ a x.toInt) σ ρt
def ztm (X : zX) (ρ : List Int32) (lm : List Int64) (τ : List zV) (lt : List Int64) : Prop := xx_2 (fun (a : zV) (x : Int64) => zv X ρ lm a (.long x)) τ lt
theorem zsm_mono {ρ ρ' : List Int32} (e : xx_e ρ ρ') {σ : List zV} {ρt : List Int32} (h : zsm ρ σ ρt) : zsm ρ' σ ρt := xx_2_mono (fun _ _ q => zi_mono e q) h
theorem ztm_mono {X : zX} {ρ ρ' : List Int32} {lm lm' : List Int64} (e : xx_e ρ ρ') (e' : xx_e lm lm') {τ : List zV} {lt : List Int64} (h : ztm X ρ lm τ lt) : ztm X ρ' lm' τ lt := xx_2_mono (fun _ _ q => zv_mono e e' q) h
theorem zv_plain {X : zX} {ρ ρ' : List Int32} {lm lm' : List Int64} {a : zV} {v : Value} (h1 : Nat.beq a.1 1 = false) (h5 : Nat.beq a.1 5 = false) (h6 : Nat.beq a.1 6 = false) (h11 : Nat.beq a.1 11 = false) (h : zv X ρ lm a v) : zv X ρ' lm' a v := by
  obtain ⟨t, n, c⟩ := a
  have n1 : t ≠ 1 := fun e => by rw [e] at h1; cases h1
  have n5 : t ≠ 5 := fun e => by rw [e] at h5; cases h5
  have n6 : t ≠ 6 := fun e => by rw [e] at h6; cases h6
  have n11 : t ≠ 11 := fun e => by rw [e] at h11; cases h11
  unfold zv at h ⊢
  split at h
  all_goals first
    | exact h
    | (rename_i q; exact absurd q n1)
    | (rename_i q; exact absurd q n5)
    | (rename_i q; exact absurd q n6)
    | (rename_i q; exact absurd q n11)
    | exact absurd h id
theorem zren_ok {X : zX} {ρ ρt : List Int32} {lm lt : List Int64} {σ τ : List zV} {a : zV} {k : zV → Bool} (h : zren σ τ a k = true) (hσ : zsm ρ σ ρt) (hτ : ztm X ρ lm τ lt) : ∃ a', k a' = true ∧ (∀ z, zi ρt a z → zi ρ a' z) ∧ (∀ z, zi ρ a' z → zi ρt a z) ∧ ∀ v, zv X ρt lt a v → zv X ρ lm a' v := by
  unfold zren at h
  obtain ⟨t, n, c⟩ := a
  cases h1 : Nat.beq t 1 with
  | true =>
    rw [h1, cond_true] at h
    have e : t = 1 := Nat.eq_of_beq_eq_true h1
    subst e
    obtain ⟨b, b1, b2⟩ := zk_nth_ok h
    rw [zf_eq] at b2
    obtain ⟨x, x1, x2⟩ := xx_2_get hσ b1
    have x3 : zi ρ (b.1, b.2.1, b.2.2 + c) (x.toInt + c) := zi_add x2
    refine ⟨_, b2, fun z hz => ?_, fun z hz => ?_, fun v hv => ?_⟩
    · obtain ⟨y, y1, y2⟩ := zi_1 rfl hz
      have y1' : ρt[n]? = some y := y1
      rw [x1] at y1'
      cases y1'
      have y2' : z = x.toInt + c := y2
      rw [y2']
      exact x3
    · rw [zi_fun hz x3]
      exact Or.inr ⟨rfl, x, x1, rfl⟩
    · obtain ⟨y, w, w1, rfl, w3⟩ := hv
      have w1' : ρt[n]? = some w := w1
      rw [x1] at w1'
      cases w1'
      have w3' : y.toInt = x.toInt + c := w3
      rw [← w3'] at x3
      exact zv_of_zi x3
  | false =>
    rw [h1, cond_false] at h
    cases h5 : Nat.beq t 5 with
    | true =>
      rw [h5, cond_true] at h
      have e : t = 5 := Nat.eq_of_beq_eq_true h5
      subst e
      obtain ⟨b, b1, b2⟩ := zk_nth_ok h
      obtain ⟨x, x1, x2⟩ := xx_2_get hτ b1
      refine ⟨b, b2, fun z hz => ?_, fun z hz => ?_, fun v hv => ?_⟩
      · rcases hz with ⟨q, -⟩ | ⟨q, -⟩ <;> cases q
      · obtain ⟨x', q1, -⟩ := zv_int (X := X) (lm := lm) (zi_c hz) x2
        cases q1
      · obtain ⟨x', w1, rfl⟩ := hv
        have w1' : lt[n]? = some x' := w1
        rw [x1] at w1'
        cases w1'
        exact x2
    | false =>
      rw [h5, cond_false] at h
      cases h6 : or (Nat.beq t 6) (Nat.beq t 11) with
      | true => rw [h6] at h; cases h
      | false =>
        rw [h6, cond_false] at h
        have c6 := Bool.or_eq_false_iff.mp h6
        refine ⟨_, h, fun z hz => ?_, fun z hz => ?_, fun v hv => zv_plain h1 h5 c6.1 c6.2 hv⟩
        · rcases hz with ⟨q1, q2⟩ | ⟨q1, -⟩
          · exact Or.inl ⟨q1, q2⟩
          · have q1' : t = 1 := q1
            rw [q1'] at h1; cases h1
        · rcases hz with ⟨q1, q2⟩ | ⟨q1, -⟩
          · exact Or.inl ⟨q1, q2⟩
          · have q1' : t = 1 := q1
            rw [q1'] at h1; cases h1
theorem zmv_ok {X : zX} {ρ ρt : List Int32} {lm lt : List Int64} {σ τ : List zV} {sy : zS} {t a : zV} {k : List zV → List zV → Bool} {v : Value} (h : zmv σ τ sy t a k = true) (hs : zsat sy ρ) (hσ : zsm ρ σ ρt) (hτ : ztm X ρ lm τ lt) (hv : zv X ρ lm a v) : ∃ σ' τ' ρt' lt', k σ' τ' = true ∧ zsm ρ σ' ρt' ∧ ztm X ρ lm τ' lt' ∧ xx_e ρt ρt' ∧ xx_e lt lt' ∧ zv X ρt' lt' t v := by
  unfold zmv at h
  obtain ⟨tt, tn, tc⟩ := t
  cases h1 : Nat.beq tt 1 with
  | true =>
    rw [h1, cond_true] at h
    have e : tt = 1 := Nat.eq_of_beq_eq_true h1
    subst e
    cases hl : Nat.ble (Nat.succ tn) σ.length with
    | true =>
      rw [hl, cond_true] at h
      obtain ⟨b, b1, b2⟩ := zk_nth_ok h
      rw [zf_eq] at b2
      obtain ⟨c1, b3⟩ := zcd b2 rfl
      have c2 := xan c1
      obtain ⟨x, x1, x2⟩ := xx_2_get hσ b1
      have x3 : zi ρ (b.1, b.2.1, b.2.2 + tc) (x.toInt + tc) := zi_add x2
      obtain ⟨y, rfl, zy⟩ := zv_int c2.1 hv
      have := zi_fun (zsame_ok hs c2.2 x3) zy
      exact ⟨σ, τ, ρt, lt, b3, hσ, hτ, xx_e_rf _, xx_e_rf _, y, x, x1, rfl, this.symm⟩
    | false =>
      rw [hl, cond_false] at h
      obtain ⟨c1, h2⟩ := zcd h rfl
      have c2 := xan c1
      have c3 := xan c2.2
      obtain ⟨y, rfl, zy⟩ := zv_int c3.2 hv
      have h3 := zk_push_ok h2
      refine ⟨_, τ, ρt ++ [y], lt, h3, xx_2_app hσ ⟨zy, trivial⟩, hτ, xx_e_one _ _, xx_e_rf _, y, y, ?_, rfl, ?_⟩
      · show (ρt ++ [y])[tn]? = some y
        rw [show tn = σ.length from Nat.eq_of_beq_eq_true c2.1, xx_2_len hσ]
        simp
      · show y.toInt = y.toInt + tc
        rw [show tc = 0 from zeq_ok.mp c3.1]
        omega
  | false =>
    rw [h1, cond_false] at h
    cases h0 : Nat.beq tt 0 with
    | true =>
      rw [h0, cond_true] at h
      have e : tt = 0 := Nat.eq_of_beq_eq_true h0
      subst e
      obtain ⟨c1, h2⟩ := zcd h rfl
      obtain ⟨y, lo, hi, rfl, zy, l1, l2, l3⟩ := zk_rng_ok c1 hs hv
      have c2 := xan l3
      have a1 : tc ≤ lo := zle_ok.mp c2.1
      have a2 : hi ≤ tc := zle_ok.mp c2.2
      exact ⟨σ, τ, ρt, lt, h2, hσ, hτ, xx_e_rf _, xx_e_rf _, y, rfl, by show y.toInt = tc; omega⟩
    | false =>
      rw [h0, cond_false] at h
      cases h5 : Nat.beq tt 5 with
      | true =>
        rw [h5, cond_true] at h
        have e : tt = 5 := Nat.eq_of_beq_eq_true h5
        subst e
        cases hl : Nat.ble (Nat.succ tn) τ.length with
        | true =>
          rw [hl, cond_true] at h
          obtain ⟨b, b1, b2⟩ := zk_nth_ok h
          obtain ⟨c1, b3⟩ := zcd b2 rfl
          obtain ⟨x, x1, x2⟩ := xx_2_get hτ b1
          have eb := zveq_ok c1
          subst eb
          refine ⟨σ, τ, ρt, lt, b3, hσ, hτ, xx_e_rf _, xx_e_rf _, x, x1, ?_⟩
          by_cases hb : zc_l b = true
          · have q1 : ∃ n c, b = (4, n, c) ∨ b = (5, n, c) := by
              obtain ⟨bt, bn, bc⟩ := b
              rcases Bool.or_eq_true_iff.mp hb with q | q
              · have : bt = 4 := Nat.eq_of_beq_eq_true q
                subst this
                exact ⟨bn, bc, Or.inl rfl⟩
              · have : bt = 5 := Nat.eq_of_beq_eq_true q
                subst this
                exact ⟨bn, bc, Or.inr rfl⟩
            obtain ⟨bn, bc, q1 | q1⟩ := q1
            · subst q1
              obtain ⟨u, rfl, u2⟩ := hv
              obtain ⟨w, w1, w2⟩ := x2
              cases w1
              have : u = x := Int64.toInt_inj.mp (by
                have u2' : u.toInt = bc := u2
                have w2' : x.toInt = bc := w2
                rw [u2', w2'])
              rw [this]
            · subst q1
              obtain ⟨u, u1, rfl⟩ := hv
              obtain ⟨w, w1, w2⟩ := x2
              have u1' : lm[bn]? = some u := u1
              have w1' : lm[bn]? = some w := w1
              rw [u1'] at w1'
              cases w1'
              exact w2.symm
          · exfalso
            have := zv_cat x2
            rw [if_neg hb] at this
            cases this
        | false =>
          rw [hl, cond_false] at h
          obtain ⟨c1, h2⟩ := zcd h rfl
          have c2 := xan c1
          obtain ⟨y, rfl⟩ := zv_l c2.2 hv
          have h3 := zk_push_ok h2
          refine ⟨σ, _, ρt, lt ++ [y], h3, hσ, xx_2_app hτ ⟨hv, trivial⟩, xx_e_rf _, xx_e_one _ _, y, ?_, rfl⟩
          show (lt ++ [y])[tn]? = some y
          rw [show tn = τ.length from Nat.eq_of_beq_eq_true c2.1, xx_2_len hτ]
          simp
      | false =>
        rw [h5, cond_false] at h
        cases h10 : Nat.beq tt 10 with
        | true =>
          rw [h10, cond_true] at h
          have e : tt = 10 := Nat.eq_of_beq_eq_true h10
          subst e
          obtain ⟨c1, h2⟩ := zcd h rfl
          refine ⟨σ, τ, ρt, lt, h2, hσ, hτ, xx_e_rf _, xx_e_rf _, ?_⟩
          rcases zor c1 with q | q
          · exact Or.inr (zv_r q hv)
          · rcases zor q with q | q
            · exact Or.inl (zv_tag q hv)
            · exact zv_tag q hv
        | false =>
          rw [h10, cond_false] at h
          cases h6 : Nat.beq tt 6 with
          | true =>
            rw [h6, cond_true] at h
            have e : tt = 6 := Nat.eq_of_beq_eq_true h6
            subst e
            obtain ⟨c6, h0⟩ := zcd h rfl
            obtain ⟨q1, y, q2, q3⟩ := zv_tag c6 hv
            cases hl : Nat.ble (Nat.succ tn) σ.length with
            | false =>
              rw [hl, cond_false] at h0
              obtain ⟨c7, h2⟩ := zcd h0 rfl
              have h3 := zk_push_ok h2
              refine ⟨_, τ, ρt ++ [y], lt, h3, xx_2_app hσ ⟨Or.inr ⟨rfl, y, q2, (Int.add_zero _).symm⟩, trivial⟩, hτ, xx_e_one _ _, xx_e_rf _, q1, y, ?_, q3⟩
              show (ρt ++ [y])[tn]? = some y
              rw [show tn = σ.length from Nat.eq_of_beq_eq_true c7, xx_2_len hσ]
              simp
            | true =>
            rw [hl, cond_true] at h0
            obtain ⟨c8, h2⟩ := zcd h0 rfl
            obtain ⟨b, b1, b2⟩ := zk_nth_ok c8
            have eb := zveq_ok b2
            subst eb
            obtain ⟨x, x1, x2⟩ := xx_2_get hσ b1
            obtain ⟨u, u1, u2⟩ := zi_1 rfl x2
            have u1' : ρ[a.2.1]? = some u := u1
            have q2' : ρ[a.2.1]? = some y := q2
            rw [u1'] at q2'
            have eu : u = y := Option.some.inj q2'
            have u2' : x.toInt = u.toInt + 0 := u2
            have q3' : y.toInt = X.1.2 := q3
            rw [← eu] at q3'
            exact ⟨σ, τ, ρt, lt, h2, hσ, hτ, xx_e_rf _, xx_e_rf _, q1, x, x1, by omega⟩
          | false =>
            rw [h6, cond_false] at h
            obtain ⟨c1, h2⟩ := zcd h rfl
            have c2 := xan c1
            have ea := zveq_ok c2.2
            subst ea
            have h11 : Nat.beq tt 11 = false := by
              cases hq : Nat.beq tt 11 with
              | false => rfl
              | true =>
                have := Nat.le_of_ble_eq_true c2.1
                have e : tt = 11 := Nat.eq_of_beq_eq_true hq
                have : tt ≤ 8 := this
                omega
            exact ⟨σ, τ, ρt, lt, h2, hσ, hτ, xx_e_rf _, xx_e_rf _, zv_plain h1 h5 h6 h11 hv⟩
/-- locals of which less is known -/
def yWk (a b : yL) : Prop := xx_2 (fun (o o' : Option Value) => o' = none ∨ o' = o) a b
theorem zmvs_ok {X : zX} {ρ : List Int32} {lm : List Int64} {sy : zS} (hs : zsat sy ρ) : ∀ {ts as : List zV} {σ τ : List zV} {ρt : List Int32} {lt : List Int64} {lvC : yL} {k : List zV → List zV → Bool}, zmvs sy ts as σ τ k = true → zsm ρ σ ρt → ztm X ρ lm τ lt → xx_2 (zlv X ρ lm) as lvC → ∃ σ' τ' ρt' lt' lvC', k σ' τ' = true ∧ zsm ρ σ' ρt' ∧ ztm X ρ lm τ' lt' ∧ xx_e ρt ρt' ∧ xx_e lt lt' ∧ yWk lvC lvC' ∧ xx_2 (zlv X ρt' lt') ts lvC'
  | [], as, σ, τ, ρt, lt, lvC, k, h, hσ, hτ, hv => by
    cases as with
    | nil =>
      rw [xx_2_nil hv]
      exact ⟨σ, τ, ρt, lt, [], h, hσ, hτ, xx_e_rf _, xx_e_rf _, trivial, trivial⟩
    | cons a as => cases h
  | t :: ts, as, σ, τ, ρt, lt, lvC, k, h, hσ, hτ, hv => by
    cases as with
    | nil => cases h
    | cons a as =>
      obtain ⟨o, lvC', rfl, h1, h2⟩ := xx_2_cons hv
      have h' : cond (Nat.beq t.1 9) (zmvs sy ts as σ τ k) (cond (Nat.beq a.1 9) false (zmv σ τ sy t a fun σ' τ' => zmvs sy ts as σ' τ' k)) = true := h
      cases h9 : Nat.beq t.1 9 with
      | true =>
        rw [h9, cond_true] at h'
        obtain ⟨σ', τ', ρt', lt', lv', g1, g2, g3, g4, g5, g6, g7⟩ := zmvs_ok hs h' hσ hτ h2
        exact ⟨σ', τ', ρt', lt', none :: lv', g1, g2, g3, g4, g5, ⟨Or.inl rfl, g6⟩, ⟨Or.inl ⟨Nat.eq_of_beq_eq_true h9, rfl⟩, g7⟩⟩
      | false =>
        rw [h9, cond_false] at h'
        cases ha9 : Nat.beq a.1 9 with
        | true => rw [ha9] at h'; cases h'
        | false =>
          rw [ha9, cond_false] at h'
          rcases h1 with ⟨q, -⟩ | ⟨v, rfl, hv1⟩
          · rw [q] at ha9; cases ha9
          obtain ⟨σ1, τ1, ρ1, l1, k1, k2, k3, k4, k5, k6⟩ := zmv_ok h' hs hσ hτ hv1
          obtain ⟨σ', τ', ρt', lt', lv', g1, g2, g3, g4, g5, g6, g7⟩ := zmvs_ok hs k1 k2 k3 h2
          exact ⟨σ', τ', ρt', lt', some v :: lv', g1, g2, g3, xx_e_tr k4 g4, xx_e_tr k5 g5, ⟨Or.inr rfl, g6⟩, ⟨Or.inr ⟨v, rfl, zv_mono g4 g5 k6⟩, g7⟩⟩
theorem zv_noti {X : zX} {ρ : List Int32} {lm : List Int64} {a : zV} {x : Int32} (h : ¬ zc_i a = true) (h8 : Nat.ble a.1 8 = true) : ¬ zv X ρ lm a (.int x) := by
  obtain ⟨t, n, c⟩ := a
  intro hv
  have h8' : t ≤ 8 := Nat.le_of_ble_eq_true h8
  unfold zv at hv
  split at hv
  · rename_i q
    have q' : t = 0 := q
    subst q'
    exact h rfl
  · rename_i q
    have q' : t = 1 := q
    subst q'
    exact h rfl
  · cases hv
  · obtain ⟨q, -, e⟩ := hv; cases e
  · obtain ⟨q, e, -⟩ := hv; cases e
  · obtain ⟨q, -, e⟩ := hv; cases e
  · cases hv.1
  · cases hv
  · cases hv
  · rename_i q
    have q' : t = 10 := q
    omega
  · rename_i q
    have q' : t = 11 := q
    omega
  · rename_i q
    have q' : t = 12 := q
    omega
  · exact hv
theorem zofInt {z : Int} (h1 : -2147483648 ≤ z) (h2 : z ≤ 2147483647) : (Int32.ofInt z).toInt = z := by
  rw [Int32.toInt_ofInt]
  exact xbmod h1 h2
set_option maxHeartbeats 1000000 in
theorem zmf_ok {g : yG} {C : zCf} {X : zX} {J : zJp} {ws : va_W} (hSP : C.1.length ≤ 83) (hT : zTw g C.1 X ws) (hlen : ∀ (k : Nat) (y : zY), zsp C.1 k = some y → k < ws.length) : ∀ {F : zF} {σ τ : List zV} {h : zH} {sy : zS} {k : zKf} {ρ ρt : List Int32} {lm lt : List Int64}, zmf C F σ τ h sy k = true → zsat sy ρ → zsatL h.2 lm → zfa X J ρ lm ws h.1 → zsm ρ σ ρt → ztm X ρ lm τ lt → ∃ σ' τ' h' sy' ρ' ρt' lm' lt', k σ' τ' h' sy' = true ∧ xx_e ρ ρ' ∧ xx_e lm lm' ∧ zsat sy' ρ' ∧ zsatL h'.2 lm' ∧ zfa X J ρ' lm' ws h'.1 ∧ zsm ρ' σ' ρt' ∧ ztm X ρ' lm' τ' lt' ∧ xx_e ρt ρt' ∧ xx_e lt lt' ∧ zfa X J ρt' lt' ws F
  | [], σ, τ, h, sy, k, ρ, ρt, lm, lt, hk, hs, hl, hF, hσ, hτ => ⟨σ, τ, h, sy, ρ, ρt, lm, lt, hk, xx_e_rf _, xx_e_rf _, hs, hl, hF, hσ, hτ, xx_e_rf _, xx_e_rf _, fun f hf => absurd hf List.not_mem_nil⟩
  | f :: F, σ, τ, h, sy, k, ρ, ρt, lm, lt, hk, hs, hl, hF, hσ, hτ => by
    have hk' : cond (Nat.ble 1000 f.1) (zk_any h.1 fun f' => cond (and (Nat.beq f'.1 f.1) (and (zk_rng sy f'.2.1 zin) (and (zk_rng sy f'.2.2 zin) (and (Nat.ble f.2.1.1 8) (Nat.ble f.2.2.1 8))))) (zmv σ τ sy f.2.1 f'.2.1 fun σ1 τ1 => zmv σ1 τ1 sy f.2.2 f'.2.2 fun σ2 τ2 => zmf C F σ2 τ2 h sy k) false) (zren σ τ f.2.1 fun key => zk_sp C.1 f.1 fun y => zk_load y sy h f.1 key fun v h' sy' => zmv σ τ sy' f.2.2 v fun σ1 τ1 => zmf C F σ1 τ1 h' sy' k) = true := hk
    cases hb : Nat.ble 1000 f.1 with
    | true =>
      rw [hb, cond_true] at hk'
      have h1000 := Nat.le_of_ble_eq_true hb
      obtain ⟨f', m1, m2⟩ := zk_any_ok hk'
      obtain ⟨c1, m3⟩ := zcd m2 rfl
      have c2 := xan c1
      have c3 := xan c2.2
      have c4 := xan c3.2
      have c5 := xan c4.2
      have ef := Nat.eq_of_beq_eq_true c2.1
      obtain ⟨z, w, z1, w1, j1⟩ := (hF f' m1).1 (by rw [ef]; exact h1000)
      obtain ⟨z', lo, hi, u1, u2, u3, u4⟩ := zk_rng_i c3.1 hs
      obtain ⟨w', lo', hi', v1, v2, v3, v4⟩ := zk_rng_i c4.1 hs
      rw [zi_fun u1 z1] at u2 u3
      rw [zi_fun v1 w1] at v2 v3
      have bz := zin_ok u4
      have bw := zin_ok v4
      have ez : (Int32.ofInt z).toInt = z := zofInt (by omega) (by omega)
      have ew : (Int32.ofInt w).toInt = w := zofInt (by omega) (by omega)
      obtain ⟨σ1, τ1, ρ1, l1, k1, k2, k3, k4, k5, k6⟩ := zmv_ok m3 hs hσ hτ (zv_of_zi (x := Int32.ofInt z) (by rw [ez]; exact z1))
      obtain ⟨σ2, τ2, ρ2, l2, g1, g2, g3, g4, g5, g6⟩ := zmv_ok k1 hs k2 k3 (zv_of_zi (x := Int32.ofInt w) (by rw [ew]; exact w1))
      obtain ⟨σ', τ', h', sy', ρ', ρt', lm', lt', r1, r2, r3, r4, r5, r6, r7, r8, r9, r10, r11⟩ := zmf_ok hSP hT hlen g1 hs hl hF g2 g3
      refine ⟨σ', τ', h', sy', ρ', ρt', lm', lt', r1, r2, r3, r4, r5, r6, r7, r8, xx_e_tr k4 (xx_e_tr g4 r9), xx_e_tr k5 (xx_e_tr g5 r10), fun q hq => ?_⟩
      rcases List.mem_cons.mp hq with rfl | hq
      · refine ⟨fun _ => ?_, fun hlt => absurd h1000 (by omega)⟩
        have a1 := zv_mono (xx_e_tr g4 r9) (xx_e_tr g5 r10) k6
        have a2 := zv_mono r9 r10 g6
        have i1 : zi ρt' q.2.1 z := by
          have hci : zc_i q.2.1 = true := by
            by_cases hq : zc_i q.2.1 = true
            · exact hq
            · exact absurd a1 (zv_noti hq c5.1)
          obtain ⟨x, x1, x2⟩ := zv_int hci a1
          cases x1
          rw [ez] at x2
          exact x2
        have i2 : zi ρt' q.2.2 w := by
          have hci : zc_i q.2.2 = true := by
            by_cases hq : zc_i q.2.2 = true
            · exact hq
            · exact absurd a2 (zv_noti hq c5.2)
          obtain ⟨x, x1, x2⟩ := zv_int hci a2
          cases x1
          rw [ew] at x2
          exact x2
        exact ⟨z, w, i1, i2, by rw [← ef]; exact j1⟩
      · exact r11 q hq
    | false =>
      rw [hb, cond_false] at hk'
      have hlt : f.1 < 1000 := by
        by_cases hq : 1000 ≤ f.1
        · rw [Nat.ble_eq_true_of_le hq] at hb; cases hb
        · omega
      obtain ⟨key, n1, n2, n3, n4⟩ := zren_ok hk' hσ hτ
      obtain ⟨y, y1, y2⟩ := zk_sp_ok n1
      obtain ⟨p, v, z, a, h1, sy1, ρ1, lm1, g1, g2, g3, g4, g5, g6, g7, g8, g9, g10, g11⟩ := zk_load_ok y2 hs hl hF hT y1 hlt (hlen _ _ y1)
      obtain ⟨σ2, τ2, ρ2, l2, k1, k2, k3, k4, k5, k6⟩ := zmv_ok g5 g8 (zsm_mono g6 hσ) (ztm_mono g6 g7 hτ) g11
      obtain ⟨σ', τ', h', sy', ρ', ρt', lm', lt', r1, r2, r3, r4, r5, r6, r7, r8, r9, r10, r11⟩ := zmf_ok hSP hT hlen k1 g8 g9 g10 k2 k3
      refine ⟨σ', τ', h', sy', ρ', ρt', lm', lt', r1, xx_e_tr g6 r2, xx_e_tr g7 r3, r4, r5, r6, r7, r8, xx_e_tr k4 r9, xx_e_tr k5 r10, fun q hq => ?_⟩
      rcases List.mem_cons.mp hq with rfl | hq
      · exact ⟨fun q1 => absurd hlt (by omega), fun _ => ⟨p, v, z, g1, zi_mono (xx_e_tr k4 r9) (n3 z g2), g3, g4, zv_mono r9 r10 k6⟩⟩
      · exact r11 q hq
theorem zms_ok {σ : List zV} {sy : zS} : ∀ {es : zS} {bs : List zV}, zms σ sy es bs = true → es.length = bs.length ∧ ∀ (k : Nat) (e : zI) (b : zV), es[k]? = some e → bs[k]? = some b → zms1 σ sy e b = true
  | [], bs, h => by
    cases bs with
    | nil => exact ⟨rfl, fun k e b h1 => by simp at h1⟩
    | cons b bs => cases h
  | e :: es, bs, h => by
    cases bs with
    | nil => cases h
    | cons b bs =>
      obtain ⟨h1, h2⟩ := zcd (show cond (zms1 σ sy e b) (zms σ sy es bs) false = true from h) rfl
      obtain ⟨h3, h4⟩ := zms_ok h2
      refine ⟨by simp [h3], fun k e' b' q1 q2 => ?_⟩
      cases k with
      | zero =>
        cases q1
        cases q2
        exact h1
      | succ k => exact h4 k e' b' (by simpa using q1) (by simpa using q2)
theorem zms_sat {σ : List zV} {sy es : zS} {ρ ρt : List Int32} (h : zms σ sy es σ = true) (hs : zsat sy ρ) (hσ : zsm ρ σ ρt) : zsat es ρt := by
  obtain ⟨h1, h2⟩ := zms_ok h
  have hl := xx_2_len hσ
  refine ⟨by rw [h1, hl], fun k e x q1 q2 => ?_⟩
  have hk : k < σ.length := by rw [← h1]; exact (List.getElem?_eq_some_iff.mp q1).1
  have hb : σ[k]? = some σ[k] := List.getElem?_eq_getElem hk
  have hc := h2 k e _ q1 hb
  obtain ⟨x', x1, x2⟩ := xx_2_get hσ hb
  rw [q2] at x1
  cases x1
  have c1 := xan hc
  have c2 := xan c1.2
  obtain ⟨z, lo, hi, z1, z2, z3, z4⟩ := zk_rng_i c2.1 hs
  rw [zi_fun z1 x2] at z2 z3
  have c3 := xan z4
  have a1 := zle_ok.mp c3.1
  have a2 := zle_ok.mp c3.2
  refine ⟨by omega, by omega, ?_, fun p y r1 r2 => ?_⟩
  · cases hz : Nat.beq e.2.2.1 0 with
    | true => rw [Nat.eq_of_beq_eq_true hz]; exact Nat.zero_le _
    | false =>
      have c4 := c2.2
      rw [hz, cond_false] at c4
      obtain ⟨b, b1, -⟩ := zk_nth_ok c4
      have := (List.getElem?_eq_some_iff.mp b1).1
      have hp : e.2.2.1 = Nat.pred e.2.2.1 + 1 := by
        cases he : e.2.2.1 with
        | zero => rw [he] at hz; cases hz
        | succ m => rfl
      omega
  · have hz : Nat.beq e.2.2.1 0 = false := by rw [r1]; rfl
    have c4 := c2.2
    rw [hz, cond_false, r1] at c4
    obtain ⟨b, b1, b2⟩ := zk_nth_ok c4
    obtain ⟨y', y1, y2⟩ := xx_2_get hσ (show σ[p]? = some b from b1)
    rw [r2] at y1
    cases y1
    obtain ⟨w, w1, w2⟩ := zge_ok hs b2 y2
    rw [zi_fun w1 x2] at w2
    exact w2
theorem znil_ok {l : List Int} (h : znil l = true) : l = [] := by
  cases l with
  | nil => rfl
  | cons a l => cases h
theorem zml_sat {X : zX} {ρ : List Int32} {lm : List Int64} {ly : List zJ} (hl : zsatL ly lm) : ∀ {es : List zJ} {bs : List zV} {lt : List Int64}, zml ly es bs = true → ztm X ρ lm bs lt → zsatL es lt
  | [], bs, lt, h, ht => by
    cases bs with
    | nil => rw [xx_2_nil ht]; trivial
    | cons b bs => cases h
  | e :: es, bs, lt, h, ht => by
    cases bs with
    | nil => cases h
    | cons b bs =>
      obtain ⟨h1, h2⟩ := zcd (show cond (zml1 ly e b) (zml ly es bs) false = true from h) rfl
      obtain ⟨x, lt', rfl, x1, x2⟩ := xx_2_cons ht
      refine ⟨?_, zml_sat hl h2 x2⟩
      have c1 := xan h1
      have c2 := xan c1.1
      have c3 := xan c2.2
      obtain ⟨s, m, eq, ne⟩ := e
      have es0 : s = 0 := Nat.eq_of_beq_eq_true c2.1
      have e1 : eq = [] := znil_ok c3.1
      have e2 : ne = [] := znil_ok c3.2
      subst es0
      subst e1
      subst e2
      refine zlong_of (s := 0) ?_
      show zdig m x
      rcases zor c1.2 with q | q
      · rw [show m = 0 from Nat.eq_of_beq_eq_true q]
        exact fun i hi => absurd hi (Nat.not_lt_zero i)
      · have c4 := xan q
        obtain ⟨e', f1, f2⟩ := zk_nth_ok c4.2
        have c5 := xan f2
        obtain ⟨u, u1, u2⟩ := xx_2_get hl f1
        obtain ⟨w, w1, w2⟩ := zv_tag c4.1 x1
        cases w2
        have w1' : lm[b.2.1]? = some x := w1
        rw [u1] at w1'
        cases w1'
        obtain ⟨s', m', eq', ne'⟩ := e'
        have es1 : s' = 0 := Nat.eq_of_beq_eq_true c5.1
        subst es1
        have hm : m ≤ m' := Nat.le_of_ble_eq_true c5.2
        exact fun i hi => u2.1 i (Nat.lt_of_lt_of_le hi hm)
