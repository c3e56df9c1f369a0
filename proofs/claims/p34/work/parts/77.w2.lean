/-! for scripts of any length: printed by wip/p34/genw.py out of my rows of p1 -/
/-! ends and calls -/
section XU
variable {g : xGl} {M : xM} {d pc : Nat} {nx ag : xN} {jp : Nat → xN} {ca : xK} {G : xG}
theorem xfit_int_w {X : xX} {sy : xS} {ρ : List Int32} {aw : List Nat} {a : xV} {v : Value} {ty : FieldType} (h : xh_fit (xh_tc ty) a sy = true) (h4 : xh_tc ty ≤ 4) (hs : xsat sy ρ) (hv : xv X ρ aw a v) : ∃ x, v = .int x := by
  cases ty with
  | int => exact xv_i (show xc_i a = true from h) hv
  | boolean =>
    obtain ⟨x, e, -⟩ := xwithin_ok (show xh_within sy a 0 1 = true from h) hs hv
    exact ⟨x, e⟩
  | byte =>
    obtain ⟨x, e, -⟩ := xwithin_ok (show xh_within sy a (-128) 127 = true from h) hs hv
    exact ⟨x, e⟩
  | char =>
    obtain ⟨x, e, -⟩ := xwithin_ok (show xh_within sy a 0 65535 = true from h) hs hv
    exact ⟨x, e⟩
  | short =>
    obtain ⟨x, e, -⟩ := xwithin_ok (show xh_within sy a (-32768) 32767 = true from h) hs hv
    exact ⟨x, e⟩
  | long => exact absurd h4 (by decide)
  | object C => exact absurd h4 (by show ¬ 6 ≤ 4; decide)
  | array C => exact absurd h4 (by show ¬ 6 ≤ 4; decide)
  | _ => exact absurd h4 (by decide)
theorem xs_iret_w (hd : decode M.2.1 pc = .ok (.ireturn, 1)) : xNok g M d pc (xd_ret M.2.2.2.2.1 M.2.2.2.2.2.1 false M.2.2.2.1 nx jp ag ca) := by
  intro lv st h sy ce sl outs hk p e R s m args below meth c Q H locs ls vs ρ ws tys hF hW hs hr hst hlv hRT
  match st, hk, hst with
  | [], hk, _ => cases hk
  | _ :: _ :: _, hk, _ => cases hk
  | [a], hk, hst =>
    obtain ⟨v, vs1, rfl, hv, hs1⟩ := xx_2_cons hst
    have e1 := xx_2_nil hs1
    subst e1
    cases hret : M.2.2.2.1 with
    | none => rw [hret] at hk; cases hk
    | some ty =>
      rw [hret] at hk
      have h0 : cond (and (Nat.ble ce M.2.2.2.2.1) (and (Nat.ble sl M.2.2.2.2.2.1) (and (xh_fit (xh_tc ty) a sy) (Nat.ble (xh_tc ty) 4)))) (some [(some a, h, sy)]) none = some outs := hk
      obtain ⟨c0, h1⟩ := xcd h0 rfl
      have c1 := xan c0
      have c2 := xan c1.2
      have c3 := xan c2.2
      cases h1
      obtain ⟨x, rfl⟩ := xfit_int_w c3.1 (Nat.le_of_ble_eq_true c3.2) hs hv
      exact (hRT (some a, h, sy) List.mem_cons_self ρ ws tys H locs ls pc ce sl (xx_e_rf _) (xx_e_rf _) hs hW (Nat.le_of_ble_eq_true c1.1) (Nat.le_of_ble_eq_true c2.1)).2.1 a x ty rfl hret hv (xfit_ok c3.1 hs hv).1 hd
theorem xs_lret_w (hd : decode M.2.1 pc = .ok (.lreturn, 1)) : xNok g M d pc (xd_ret M.2.2.2.2.1 M.2.2.2.2.2.1 true M.2.2.2.1 nx jp ag ca) := by
  intro lv st h sy ce sl outs hk p e R s m args below meth c Q H locs ls vs ρ ws tys hF hW hs hr hst hlv hRT
  match st, hk, hst with
  | [], hk, _ => cases hk
  | _ :: _ :: _, hk, _ => cases hk
  | [a], hk, hst =>
    obtain ⟨v, vs1, rfl, hv, hs1⟩ := xx_2_cons hst
    have e1 := xx_2_nil hs1
    subst e1
    cases hret : M.2.2.2.1 with
    | none => rw [hret] at hk; cases hk
    | some ty =>
      rw [hret] at hk
      have h0 : cond (and (Nat.ble ce M.2.2.2.2.1) (and (Nat.ble sl M.2.2.2.2.2.1) (and (xh_fit (xh_tc ty) a sy) (Nat.beq (xh_tc ty) 5)))) (some [(some a, h, sy)]) none = some outs := hk
      obtain ⟨c0, h1⟩ := xcd h0 rfl
      have c1 := xan c0
      have c2 := xan c1.2
      have c3 := xan c2.2
      cases h1
      have ety : ty = .long := by
        have h5 := c3.2
        cases ty <;> first | rfl | cases h5
      subst ety
      obtain ⟨x, rfl⟩ := xv_l (show xc_l a = true from c3.1) hv
      exact (hRT (some a, h, sy) List.mem_cons_self ρ ws tys H locs ls pc ce sl (xx_e_rf _) (xx_e_rf _) hs hW (Nat.le_of_ble_eq_true c1.1) (Nat.le_of_ble_eq_true c2.1)).2.2 a x rfl hret hv hd
theorem xs_vret_w (hd : decode M.2.1 pc = .ok (.return_, 1)) : xNok g M d pc (xd_vret M.2.2.2.2.1 M.2.2.2.2.2.1 M.2.2.2.1 nx jp ag ca) := by
  intro lv st h sy ce sl outs hk p e R s m args below meth c Q H locs ls vs ρ ws tys hF hW hs hr hst hlv hRT
  match st, hk, hst with
  | _ :: _, hk, _ => cases hk
  | [], hk, hst =>
    have e1 := xx_2_nil hst
    subst e1
    cases hret : M.2.2.2.1 with
    | some ty => rw [hret] at hk; cases hk
    | none =>
      rw [hret] at hk
      have h0 : cond (and (Nat.ble ce M.2.2.2.2.1) (Nat.ble sl M.2.2.2.2.2.1)) (some [(none, h, sy)]) none = some outs := hk
      obtain ⟨c0, h1⟩ := xcd h0 rfl
      have c1 := xan c0
      cases h1
      exact (hRT (none, h, sy) List.mem_cons_self ρ ws tys H locs ls pc ce sl (xx_e_rf _) (xx_e_rf _) hs hW (Nat.le_of_ble_eq_true c1.1) (Nat.le_of_ble_eq_true c1.2)).1 rfl hret hd
/-- arraycopy of ints -/
theorem xs_copy_w {idx : Nat} (hd : decode M.2.1 pc = .ok (.invokestatic idx, 3)) (hl : Cond.methodLink M.1.cls idx arraycopyName ∈ xTb) (hnat : Cond.native arraycopyName ∈ xTb) (hst' : Cond.static arraycopyName ∈ xTb) (hini : Cond.initialized "java/lang/System" ∈ xTb) (hn : xNok g M d (pc + 3) nx) : xNok g M d pc (xd_copy nx jp ag ca) := by
  intro lv st h sy ce sl outs hk p e R s m args below meth c Q H locs ls vs ρ ws tys hF hW hs hr hst hlv hRT
  match st, hk, hst with
  | [], hk, _ => cases hk
  | [_], hk, _ => cases hk
  | [_, _], hk, _ => cases hk
  | [_, _, _], hk, _ => cases hk
  | [_, _, _, _], hk, _ => cases hk
  | n :: dp :: b :: sp :: a :: st, hk, hst =>
    obtain ⟨vn, vs1, rfl, hvn, hs1⟩ := xx_2_cons hst
    obtain ⟨vd, vs2, rfl, hvd, hs2⟩ := xx_2_cons hs1
    obtain ⟨vb, vs3, rfl, hvb, hs3⟩ := xx_2_cons hs2
    obtain ⟨vsp, vs4, rfl, hvs, hs4⟩ := xx_2_cons hs3
    obtain ⟨va, vs5, rfl, hva, hs5⟩ := xx_2_cons hs4
    have h0 : cond (and (Nat.beq n.1 0) (and (Nat.beq dp.1 0) (and (Nat.beq sp.1 0) (and (Nat.beq a.1 3) (and (Nat.beq b.1 3) (and (not (Nat.beq a.2 b.2)) (Nat.ble (xh_words st) 8))))))) (xk_hget h a.2 fun ca => xk_hget h b.2 fun cb => match ca with
      | .inl _ => none
      | .inr ra => match cb with
        | .inl _ => none
        | .inr rb => cond (and (Nat.beq (xh_kind ra.1) 0) (and (Nat.beq (xh_kind rb.1) 0) (and (Nat.ble 2147483648 (xo n.2)) (and (Nat.ble 2147483648 (xo dp.2)) (and (Nat.ble 2147483648 (xo sp.2)) (and (Nat.ble (Nat.add (xh_ix sp.2) (xh_ix n.2)) ra.2.1) (Nat.ble (Nat.add (xh_ix dp.2) (xh_ix n.2)) rb.2.1))))))) (match ra.2.2 with
          | .inr _ => none
          | .inl N0 => match rb.2.2 with
            | .inr _ => none
            | .inl N1 => xx_f (xh_cpy N0 (xh_ix n.2) (xh_ix sp.2) (xh_ix dp.2) N1) fun N2 => xk_hset h b.2 (.inr (rb.1, rb.2.1, .inl N2)) fun h' => nx lv st h' sy ce sl) none) none = some outs := hk
    obtain ⟨c0, h1⟩ := xcd h0 rfl
    have c1 := xan c0
    have c2 := xan c1.2
    have c3 := xan c2.2
    have c4 := xan c3.2
    have c5 := xan c4.2
    have c6 := xan c5.2
    obtain ⟨xa, ga1, ga2⟩ := xk_hget_ok h1
    obtain ⟨xb, gb1, gb2⟩ := xk_hget_ok ga2
    cases xa with
    | inl o => cases gb2
    | inr ra =>
      cases xb with
      | inl o => cases gb2
      | inr rb =>
        have h2 : cond (and (Nat.beq (xh_kind ra.1) 0) (and (Nat.beq (xh_kind rb.1) 0) (and (Nat.ble 2147483648 (xo n.2)) (and (Nat.ble 2147483648 (xo dp.2)) (and (Nat.ble 2147483648 (xo sp.2)) (and (Nat.ble (Nat.add (xh_ix sp.2) (xh_ix n.2)) ra.2.1) (Nat.ble (Nat.add (xh_ix dp.2) (xh_ix n.2)) rb.2.1))))))) (match ra.2.2 with
          | .inr _ => none
          | .inl N0 => match rb.2.2 with
            | .inr _ => none
            | .inl N1 => xx_f (xh_cpy N0 (xh_ix n.2) (xh_ix sp.2) (xh_ix dp.2) N1) fun N2 => xk_hset h b.2 (.inr (rb.1, rb.2.1, .inl N2)) fun h' => nx lv st h' sy ce sl) none = some outs := gb2
        obtain ⟨d0, h3⟩ := xcd h2 rfl
        have d1 := xan d0
        have d2 := xan d1.2
        have d3 := xan d2.2
        have d4 := xan d3.2
        have d5 := xan d4.2
        have d6 := xan d5.2
        have en := xv_0 c1.1 hvn
        have ed := xv_0 c2.1 hvd
        have es := xv_0 c3.1 hvs
        subst en
        subst ed
        subst es
        obtain ⟨qa, ea, rfl, ea2, cA, ea3, ea4, ea5⟩ := xWd_get hW c4.1 hva ga1
        obtain ⟨qb, eb, rfl, eb2, cB, eb3, eb4, eb5⟩ := xWd_get hW c5.1 hvb gb1
        have nneg : ∀ k : Nat, Nat.ble 2147483648 (xo k) = true → ¬ Int32.ofNat k < 0 ∧ (Int32.ofNat k).toNatClampNeg = xh_ix k := by
          intro k hk
          have h1 := Nat.le_of_ble_eq_true hk
          have h2 := xo_toInt k
          refine ⟨fun z => ?_, ?_⟩
          · have := Int32.lt_iff_toInt_lt.mp z
            rw [Int32.toInt_zero] at this
            omega
          · show (Int32.ofNat k).toInt.toNat = Nat.sub (xo k) 2147483648
            have e : Nat.sub (xo k) 2147483648 = xo k - 2147483648 := rfl
            omega
        obtain ⟨n1, n2⟩ := nneg n.2 d3.1
        obtain ⟨m1, m2⟩ := nneg dp.2 d4.1
        obtain ⟨k1, k2⟩ := nneg sp.2 d5.1
        have l1 : xh_ix sp.2 + xh_ix n.2 ≤ ra.2.1 := Nat.le_of_ble_eq_true d6.1
        have l2 : xh_ix dp.2 + xh_ix n.2 ≤ rb.2.1 := Nat.le_of_ble_eq_true d6.2
        obtain ⟨t0, ht0⟩ := List.getElem?_of_mem ea3
        obtain ⟨t1, ht1⟩ := List.getElem?_of_mem eb3
        rw [xkind0 d1.1] at ht0
        rw [xkind0 d2.1] at ht1
        have kk0 := Nat.eq_of_beq_eq_true d1.1
        have kk1 := Nat.eq_of_beq_eq_true d2.1
        rcases ea5 with ⟨f, rfl, ea6, ea7⟩ | ⟨f, rfl, ea6, ea7⟩
        · rcases eb5 with ⟨f2, rfl, eb6, eb7⟩ | ⟨f2, rfl, eb6, eb7⟩
          · have hw := Nat.le_of_ble_eq_true c6.2
            have hfr := hF.2.2.2.2.2.2.2.2.1
            have hlo := hF.2.2.2.2.2.2.2.2.2.1
            have hnf : nativeFrameWords "java/lang/System" "arraycopy" 5 ≤ 45 := by decide
            refine va_copyi hF.1 hF.2.1 (by rw [hF.2.2.1]; exact hlv.2.1.symm) hF.2.2.2.2.1 (hF.2.2.2.1 _ hl) (hF.2.2.2.1 _ hnat) (hF.2.2.2.1 _ hst') (hF.2.2.2.1 _ hini) hW.2.2.2.1 hW.1 hW.2.1 hW.2.2.1 a.2 b.2 t0 t1 ea2 eb2 ht0 ht1 (by decide) k1 m1 n1 (by rw [k2, n2]; exact l1) (by rw [m2, n2]; exact l2) (fun _ _ => rfl) (by omega) (by rw [xwords_ok_w hs5]; omega) hd (fun H1 locs1 hP1 hD1 hS1 => ?_)
            rw [k2, m2, n2] at hP1 hD1
            cases hra : ra.2.2 with
            | inr iv => rw [hra] at h3; cases h3
            | inl N0 =>
              cases hrb : rb.2.2 with
              | inr iv => rw [hra, hrb] at h3; cases h3
              | inl N1 =>
                rw [hra, hrb] at h3
                rw [hra] at ea7
                rw [hrb] at eb7
                generalize xh_ix sp.2 = isp at *
                generalize xh_ix dp.2 = idp at *
                generalize xh_ix n.2 = inn at *
                have h4 : xx_f (xh_cpy N0 inn isp idp N1) (fun N2 => xk_hset h b.2 (.inr (rb.1, rb.2.1, .inl N2)) fun h' => nx lv st h' sy ce sl) = some outs := h3
                rw [xx_f_eq] at h4
                obtain ⟨h', q6, q7, q8⟩ := xk_hset_ok h4
                have hrow : xrow (.inl (xh_cpy N0 inn isp idp N1)) rb.2.1 (va_cpy f f2 isp idp inn) := by
                  intro j hj
                  rw [xcpy_ok]
                  show (if idp ≤ j ∧ j < idp + inn then f (isp + (j - idp)) else f2 j) = _
                  by_cases hq : idp ≤ j ∧ j < idp + inn
                  · rw [if_pos hq, if_pos hq]
                    exact ea7 _ (by omega)
                  · rw [if_neg hq, if_neg hq]
                    exact eb7 _ hj
                have hW' := xWd_set hW eb2 hP1 hD1 hS1 q6 q7 (show xcell g.2.1 ρ (xaw ws) tys (.inr (rb.1, rb.2.1, .inl (xh_cpy N0 inn isp idp N1))) (.inl (cB, rb.2.1, .inl (va_cpy f f2 isp idp inn))) from ⟨cB, eb3, eb4, Or.inl ⟨_, rfl, eb6, hrow⟩⟩)
                have ew := xaw_set (e' := (.inl (cB, rb.2.1, .inl (va_cpy f f2 isp idp inn)) : va_E)) eb2
                exact hn _ _ _ _ _ _ _ q8 p e R s m args below meth c Q H1 locs1 ls _ ρ _ tys hF hW' hs hr (by rw [ew]; exact hs5) (by rw [ew]; exact hlv) (xRT_mono hRT (fun _ z => z) (xx_e_rf _) (by rw [ew]; exact xx_e_rf _))
          · omega
        · omega
/-- the greater, the less of two -/
theorem xs_mm_w {F : Int32 → Int32 → Int32} (hS : ∀ (p : Program) (e : Env) (R : Room) (s : State) (m : MethodId) (args : Array Value) (below : List Frame) (meth : Method) (c : Code) (Q : State → Prop) (H : Heap) (locs : List Loc) (ls : Array Slot) (rest : List Value) (x y : Int32) (ce sl : Nat), xF g M d p R s m args meth c → ls.size = M.2.2.1 → (rest.map fun v => v.category).sum ≤ 8 → ce ≤ M.2.2.2.2.1 → sl ≤ M.2.2.2.2.2.1 → W p g.1 e R s m args below meth c H locs ce sl Q (F0 m (pc + 3) ls (.int (F x y) :: rest)) → W p g.1 e R s m args below meth c H locs ce sl Q (F0 m pc ls (.int y :: .int x :: rest))) (hn : xNok g M d (pc + 3) nx) : xNok g M d pc (xd_mm M.2.2.2.2.1 M.2.2.2.2.2.1 F nx jp ag ca) := by
  intro lv st h sy ce sl outs hk p e R s m args below meth c Q H locs ls vs ρ ws tys hF' hW hs hr hst hlv hRT
  match st, hk, hst with
  | [], hk, _ => cases hk
  | [b], hk, _ => cases hk
  | b :: a :: st, hk, hst =>
    have hk' : cond (and (Nat.ble (xh_words st) 8) (and (Nat.ble ce M.2.2.2.2.1) (Nat.ble sl M.2.2.2.2.2.1))) (xh_bin (xn_of F) xg_any b a sy fun v sy' => nx lv (v :: st) h sy' ce sl) none = some outs := hk
    obtain ⟨c0, h1⟩ := xcd hk' rfl
    have c1 := xan c0
    have c2 := xan c1.2
    obtain ⟨vb, vs1, rfl, hb, hs1⟩ := xx_2_cons hst
    obtain ⟨va, vs2, rfl, ha, hs2⟩ := xx_2_cons hs1
    obtain ⟨x, y, v, sy', ρ', rfl, rfl, g1, g2, g3, g4, g5⟩ := xbin_ok (X := g.2.1) (aw := xaw ws) (xn_of_ok F) (xgood_any F) h1 hs ha hb
    refine hS p e R s m args below meth c Q H locs ls vs2 x y ce sl hF' hlv.2.1 (by rw [xwords_ok_w hs2]; exact Nat.le_of_ble_eq_true c1.1) (Nat.le_of_ble_eq_true c2.1) (Nat.le_of_ble_eq_true c2.2) ?_
    exact hn _ _ _ _ _ _ _ g1 p e R s m args below meth c Q H locs ls _ ρ' ws tys hF' (xWd_mono g2 hW) g3 (xx_e_tr hr g2) ⟨g4, xx_2_mono (fun _ _ q => xv_mono g2 (xx_e_rf _) q) hs2⟩ (xLv_mono g2 (xx_e_rf _) hlv) (xRT_mono hRT (fun _ z => z) g2 (xx_e_rf _))
theorem xs_max_w {idx : Nat} (hd : decode M.2.1 pc = .ok (.invokestatic idx, 3)) (hl : Cond.methodLink M.1.cls idx Lib.Math.max.name ∈ xTb) (hst' : Cond.static Lib.Math.max.name ∈ xTb) (hini : Cond.initialized "java/lang/Math" ∈ xTb) (hcode : Cond.code Lib.Math.max.name Lib.Math.max.code 2 (some .int) ∈ xTb) (hn : xNok g M d (pc + 3) nx) : xNok g M d pc (xd_mm M.2.2.2.2.1 M.2.2.2.2.2.1 xf_max nx jp ag ca) := by
  refine xs_mm_w (fun p e R s m args below meth c Q H locs ls rest x y ce sl hF hls hwd hce hsl k => ?_) hn
  have hfr := hF.2.2.2.2.2.2.2.2.1
  have hlo := hF.2.2.2.2.2.2.2.2.2.1
  have hcl := hF.2.2.2.2.2.2.2.2.2.2.1
  have hsll := hF.2.2.2.2.2.2.2.2.2.2.2
  exact va_mmax hF.1 hF.2.1 (by rw [hF.2.2.1]; exact hls.symm) hF.2.2.2.2.1 (hF.2.2.2.1 _ hl) (hF.2.2.2.1 _ hst') (hF.2.2.2.1 _ hini) (hF.2.2.2.1 _ hcode) (by omega) (by omega) (by omega) (by omega) hd k
theorem xs_min_w {idx : Nat} (hd : decode M.2.1 pc = .ok (.invokestatic idx, 3)) (hl : Cond.methodLink M.1.cls idx Lib.Math.min.name ∈ xTb) (hst' : Cond.static Lib.Math.min.name ∈ xTb) (hini : Cond.initialized "java/lang/Math" ∈ xTb) (hcode : Cond.code Lib.Math.min.name Lib.Math.min.code 2 (some .int) ∈ xTb) (hn : xNok g M d (pc + 3) nx) : xNok g M d pc (xd_mm M.2.2.2.2.1 M.2.2.2.2.2.1 xf_min nx jp ag ca) := by
  refine xs_mm_w (fun p e R s m args below meth c Q H locs ls rest x y ce sl hF hls hwd hce hsl k => ?_) hn
  have hfr := hF.2.2.2.2.2.2.2.2.1
  have hlo := hF.2.2.2.2.2.2.2.2.2.1
  have hcl := hF.2.2.2.2.2.2.2.2.2.2.1
  have hsll := hF.2.2.2.2.2.2.2.2.2.2.2
  exact va_mmin hF.1 hF.2.1 (by rw [hF.2.2.1]; exact hls.symm) hF.2.2.2.2.1 (hF.2.2.2.1 _ hl) (hF.2.2.2.1 _ hst') (hF.2.2.2.1 _ hini) (hF.2.2.2.1 _ hcode) (by omega) (by omega) (by omega) (by omega) hd k
end XU
