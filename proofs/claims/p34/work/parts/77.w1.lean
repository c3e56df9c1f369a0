/-! for scripts of any length: printed by wip/p34/genw.py out of my rows of p1 -/
section XT
variable {g : xGl} {M : xM} {d pc : Nat} {nx ag : xN} {jp : Nat → xN} {ca : xK} {G : xG}
theorem xs_lald_w (hd : decode M.2.1 pc = .ok (.laload, 1)) (hn : xNok g M d (pc + 1) nx) : xNok g M d pc (xd_lald nx jp ag ca) := by
  intro lv st h sy ce sl outs hk p e R s m args below meth c Q H locs ls vs ρ ws tys hF hW hs hr hst hlv hRT
  match st, hk, hst with
  | [], hk, _ => cases hk
  | [b], hk, _ => cases hk
  | i :: a :: st, hk, hst =>
    obtain ⟨vi, vs1, rfl, hi, hs1⟩ := xx_2_cons hst
    obtain ⟨va, vs2, rfl, ha, hs2⟩ := xx_2_cons hs1
    have h0 : cond (and (Nat.beq i.1 0) (Nat.beq a.1 3)) (xk_hget h a.2 fun c => match c with
      | .inl _ => none
      | .inr r => cond (and (Nat.beq (xh_kind r.1) 2) (xh_in i.2 r.2.1)) (match r.2.2 with
          | .inl N => xx_f (xx_g 64 N (xh_ix i.2)) fun n => nx lv ((4, n) :: st) h sy ce sl
          | .inr _ => nx lv ((5, 0) :: st) h sy ce sl) none) none = some outs := hk
    obtain ⟨c0, h1⟩ := xcd h0 rfl
    have c0' := xan c0
    have ei := xv_0 c0'.1 hi
    subst ei
    obtain ⟨x, g1, g2⟩ := xk_hget_ok h1
    cases x with
    | inl o => cases g2
    | inr r =>
      have g3 : cond (and (Nat.beq (xh_kind r.1) 2) (xh_in i.2 r.2.1)) (match r.2.2 with
          | .inl N => xx_f (xx_g 64 N (xh_ix i.2)) fun n => nx lv ((4, n) :: st) h sy ce sl
          | .inr _ => nx lv ((5, 0) :: st) h sy ce sl) none = some outs := g2
      obtain ⟨q1, q2⟩ := xcd g3 rfl
      have q1' := xan q1
      obtain ⟨q, en, rfl, e2, cA, e3, e4, e5⟩ := xWd_get hW c0'.2 ha g1
      obtain ⟨b1, b2, b3⟩ := xh_in_ok q1'.2 e4
      obtain ⟨t0, ht0⟩ := List.getElem?_of_mem e3
      rcases e5 with ⟨f, rfl, e6, e7⟩ | ⟨f, rfl, e6, e7⟩
      · have := Nat.eq_of_beq_eq_true q1'.1
        omega
      · rw [xkind2 q1'.1] at ht0
        refine va_lald hF.1 hF.2.1 hW.2.2.2.1 hW.1 a.2 t0 e2 ht0 b1 hd ?_
        rw [b2]
        cases hr2 : r.2.2 with
        | inl N =>
          rw [hr2] at q2 e7
          have q3 : xx_f (xx_g 64 N (xh_ix i.2)) (fun n => nx lv ((4, n) :: st) h sy ce sl) = some outs := q2
          rw [xx_f_eq] at q3
          exact hn _ _ _ _ _ _ _ q3 p e R s m args below meth c Q H locs ls _ ρ ws tys hF hW hs hr ⟨congrArg Value.long (e7 _ b3), hs2⟩ hlv hRT
        | inr iv =>
          rw [hr2] at q2
          exact hn _ _ _ _ _ _ _ q2 p e R s m args below meth c Q H locs ls _ ρ ws tys hF hW hs hr ⟨⟨_, rfl⟩, hs2⟩ hlv hRT
theorem xs_last_w (hd : decode M.2.1 pc = .ok (.lastore, 1)) (hn : xNok g M d (pc + 1) nx) : xNok g M d pc (xd_last nx jp ag ca) := by
  intro lv st h sy ce sl outs hk p e R s m args below meth c Q H locs ls vs ρ ws tys hF hW hs hr hst hlv hRT
  match st, hk, hst with
  | [], hk, _ => cases hk
  | [b], hk, _ => cases hk
  | [b, b2], hk, _ => cases hk
  | v :: i :: a :: st, hk, hst =>
    obtain ⟨vv, vs0, rfl, hv, hs0⟩ := xx_2_cons hst
    obtain ⟨vi, vs1, rfl, hi, hs1⟩ := xx_2_cons hs0
    obtain ⟨va, vs2, rfl, ha, hs2⟩ := xx_2_cons hs1
    have h0 : cond (and (Nat.beq i.1 0) (and (Nat.beq a.1 3) (xc_l v))) (xk_hget h a.2 fun c => match c with
      | .inl _ => none
      | .inr r => cond (and (Nat.beq (xh_kind r.1) 2) (xh_in i.2 r.2.1)) (match r.2.2 with
          | .inl N => cond (Nat.beq v.1 4) (xx_f (xx_p 64 N (xh_ix i.2) v.2) fun N' => xk_hset h a.2 (.inr (r.1, r.2.1, .inl N')) fun h' => nx lv st h' sy ce sl) (xk_hset h a.2 (.inr (r.1, r.2.1, .inr xs_full)) fun h' => nx lv st h' sy ce sl)
          | .inr _ => xk_hset h a.2 (.inr (r.1, r.2.1, .inr xs_full)) fun h' => nx lv st h' sy ce sl) none) none = some outs := hk
    obtain ⟨c0, h1⟩ := xcd h0 rfl
    have c0' := xan c0
    have c1' := xan c0'.2
    have ei := xv_0 c0'.1 hi
    subst ei
    obtain ⟨y, rfl⟩ := xv_l c1'.2 hv
    obtain ⟨x, g1, g2⟩ := xk_hget_ok h1
    cases x with
    | inl o => cases g2
    | inr r =>
      have g3 : cond (and (Nat.beq (xh_kind r.1) 2) (xh_in i.2 r.2.1)) (match r.2.2 with
          | .inl N => cond (Nat.beq v.1 4) (xx_f (xx_p 64 N (xh_ix i.2) v.2) fun N' => xk_hset h a.2 (.inr (r.1, r.2.1, .inl N')) fun h' => nx lv st h' sy ce sl) (xk_hset h a.2 (.inr (r.1, r.2.1, .inr xs_full)) fun h' => nx lv st h' sy ce sl)
          | .inr _ => xk_hset h a.2 (.inr (r.1, r.2.1, .inr xs_full)) fun h' => nx lv st h' sy ce sl) none = some outs := g2
      obtain ⟨q1, q2⟩ := xcd g3 rfl
      have q1' := xan q1
      obtain ⟨q, en, rfl, e2, cA, e3, e4, e5⟩ := xWd_get hW c1'.1 ha g1
      obtain ⟨b1, b2, b3⟩ := xh_in_ok q1'.2 e4
      obtain ⟨t0, ht0⟩ := List.getElem?_of_mem e3
      rcases e5 with ⟨f, rfl, e6, e7⟩ | ⟨f, rfl, e6, e7⟩
      · have := Nat.eq_of_beq_eq_true q1'.1
        omega
      · rw [xkind2 q1'.1] at ht0
        refine va_last hF.1 hF.2.1 hW.2.2.2.1 hW.1 hW.2.1 hW.2.2.1 a.2 t0 e2 ht0 b1 hd (fun H1 locs1 hP1 hD1 hS1 => ?_)
        rw [b2] at hP1 hD1
        have ea := xaw_set (e' := (.inl (cA, r.2.1, .inr (.inl (vp_updL f (xh_ix i.2) y))) : va_E)) e2
        have fin : ∀ ct : Nat ⊕ (Int × Int), xrowl ct r.2.1 (vp_updL f (xh_ix i.2) y) → xk_hset h a.2 (.inr (r.1, r.2.1, ct)) (fun h' => nx lv st h' sy ce sl) = some outs → W p g.1 e R s m args below meth c H1 locs1 ce sl Q (F0 m (pc + 1) ls vs2) := by
          intro ct hct hset
          obtain ⟨h', q6, q7, q8⟩ := xk_hset_ok hset
          have hW' := xWd_set hW e2 hP1 hD1 hS1 q6 q7 (show xcell g.2.1 ρ (xaw ws) tys (.inr (r.1, r.2.1, ct)) (.inl (cA, r.2.1, .inr (.inl (vp_updL f (xh_ix i.2) y)))) from ⟨cA, e3, e4, Or.inr ⟨_, rfl, e6, hct⟩⟩)
          exact hn _ _ _ _ _ _ _ q8 p e R s m args below meth c Q H1 locs1 ls _ ρ _ tys hF hW' hs hr (by rw [ea]; exact hs2) (by rw [ea]; exact hlv) (xRT_mono hRT (fun _ z => z) (xx_e_rf _) (by rw [ea]; exact xx_e_rf _))
        cases hr2 : r.2.2 with
        | inr iv =>
          rw [hr2] at q2
          exact fin (.inr xs_full) trivial q2
        | inl N =>
          rw [hr2] at q2 e7
          have q3 : cond (Nat.beq v.1 4) (xx_f (xx_p 64 N (xh_ix i.2) v.2) fun N' => xk_hset h a.2 (.inr (r.1, r.2.1, .inl N')) fun h' => nx lv st h' sy ce sl) (xk_hset h a.2 (.inr (r.1, r.2.1, .inr xs_full)) fun h' => nx lv st h' sy ce sl) = some outs := q2
          cases hv0 : Nat.beq v.1 4 with
          | false =>
            rw [hv0] at q3
            exact fin (.inr xs_full) trivial q3
          | true =>
            rw [hv0] at q3
            have q4 : xx_f (xx_p 64 N (xh_ix i.2) v.2) (fun N' => xk_hset h a.2 (.inr (r.1, r.2.1, .inl N')) fun h' => nx lv st h' sy ce sl) = some outs := q3
            rw [xx_f_eq] at q4
            refine fin _ (xrowl_put e7 ?_) q4
            have ey := xv_4 hv0 hv
            injection ey with ey
            exact ey.symm
theorem xs_alen_w (hG : xGok_w g G) (hd : decode M.2.1 pc = .ok (.arraylength, 1)) (hn : xNok g M d (pc + 1) nx) : xNok g M d pc (xd_alen G nx jp ag ca) := by
  intro lv st h sy ce sl outs hk p e R s m args below meth c Q H locs ls vs ρ ws tys hF hW hs hr hst hlv hRT
  cases st with
  | nil => cases hk
  | cons a st =>
    obtain ⟨v, vs, rfl, hv, hs2⟩ := xx_2_cons hst
    have h0 : cond (Nat.beq a.1 3) (xk_hget h a.2 fun c => match c with
      | .inl _ => none
      | .inr r => nx lv ((0, r.2.1) :: st) h sy ce sl)
      (cond (Nat.beq a.1 6) (nx lv (G.2.2.2 :: st) h sy ce sl)
      (cond (Nat.beq a.1 8) (xk_nth G.2.2.1 a.2 fun bs => nx lv ((0, bs.length) :: st) h sy ce sl) none)) = some outs := hk
    cases h3 : Nat.beq a.1 3 with
    | true =>
      rw [h3] at h0
      have h0' : (xk_hget h a.2 fun c => match c with
        | .inl _ => none
        | .inr r => nx lv ((0, r.2.1) :: st) h sy ce sl) = some outs := h0
      obtain ⟨x, g1, g2⟩ := xk_hget_ok h0'
      cases x with
      | inl o => cases g2
      | inr r =>
        have g3 : nx lv ((0, r.2.1) :: st) h sy ce sl = some outs := g2
        obtain ⟨q, en, rfl, e2, cA, e3, e4, e5⟩ := xWd_get hW h3 hv g1
        obtain ⟨t0, ht0⟩ := List.getElem?_of_mem e3
        have hkk := hn _ _ _ _ _ _ _ g3 p e R s m args below meth c Q H locs ls _ ρ ws tys hF hW hs hr (show xx_2 (xv g.2.1 ρ (xaw ws)) ((0, r.2.1) :: st) (.int (Int32.ofNat r.2.1) :: vs) from ⟨rfl, hs2⟩) hlv hRT
        rcases e5 with ⟨f, rfl, e6, e7⟩ | ⟨f, rfl, e6, e7⟩
        · exact va_alen hF.1 hF.2.1 hW.2.2.2.1 hW.1 a.2 t0 e2 ht0 rfl hd hkk
        · exact va_alen hF.1 hF.2.1 hW.2.2.2.1 hW.1 a.2 t0 e2 ht0 rfl hd hkk
    | false =>
      rw [h3] at h0
      have h1 : cond (Nat.beq a.1 6) (nx lv (G.2.2.2 :: st) h sy ce sl) (cond (Nat.beq a.1 8) (xk_nth G.2.2.1 a.2 fun bs => nx lv ((0, bs.length) :: st) h sy ce sl) none) = some outs := h0
      cases h6 : Nat.beq a.1 6 with
      | true =>
        rw [h6] at h1
        have h2 : nx lv (G.2.2.2 :: st) h sy ce sl = some outs := h1
        have ev := xv_6 h6 hv
        subst ev
        have hE := hF.2.2.2.2.2.2.1.2.2.2.2.2
        refine va_slen hF.1 hF.2.1 hE.1 (Nat.lt_of_lt_of_le hE.2 hF.2.2.2.2.2.2.2.1) (Nat.not_le.mpr hE.2) hW.2.2.1 hd ?_
        refine hn _ _ _ _ _ _ _ h2 p e R s m args below meth c Q H locs ls _ ρ ws tys hF hW hs hr ⟨?_, hs2⟩ hlv hRT
        rcases hG.2.2 with ⟨q1, q2⟩ | ⟨q1, q2⟩
        · rw [q1, q2]
          rfl
        · rw [q1]
          refine ⟨_, ?_, rfl⟩
          refine xx_e_get hr ?_
          unfold xrho
          rw [if_neg (by omega)]
          rfl
      | false =>
        rw [h6] at h1
        have h2 : cond (Nat.beq a.1 8) (xk_nth G.2.2.1 a.2 fun bs => nx lv ((0, bs.length) :: st) h sy ce sl) none = some outs := h1
        obtain ⟨q1, q2⟩ := xcd h2 rfl
        obtain ⟨bs, q3, q4⟩ := xk_nth_ok q2
        have ev := xv_8 q1 hv
        subst ev
        rw [hG.2.1] at q3
        have hlt := (List.getElem?_eq_some_iff.mp q3).1
        have hE := (hF.2.2.2.2.2.2.1.2.2.1.1 a.2 hlt).2.2.2
        have el : (xBY.map List.length).getD a.2 0 = bs.length := by
          rw [List.getD_eq_getElem?_getD, List.getElem?_map, q3]
          rfl
        rw [el] at hE
        obtain ⟨cell, k1, k2, k3, k4, k5, k6, k7⟩ := hE
        exact W.alen (n := Int32.ofNat bs.length) hF.1 hF.2.1 (by rw [hW.2.2.1.2.1 _ (Array.getElem?_eq_some_iff.mp k1).1 k7]; exact k1) k2 k5 rfl rfl hd (hn _ _ _ _ _ _ _ q4 p e R s m args below meth c Q H locs ls _ ρ ws tys hF hW hs hr ⟨rfl, hs2⟩ hlv hRT)
/-- a row is made -/
theorem xs_newa_w {t : ArrayType} (hd : decode M.2.1 pc = .ok (.newarray t, 2)) (hw : Cond.arrayClass (newarray.typeOf t) ∈ xTb) (hn : xNok g M d (pc + 2) nx) : xNok g M d pc (xd_newa M.2.2.2.2.1 M.2.2.2.2.2.1 (newarray.typeOf t) nx jp ag ca) := by
  intro lv st h sy ce sl outs hk p e R s m args below meth c Q H locs ls vs ρ ws tys hF hW hs hr hst hlv hRT
  cases st with
  | nil => cases hk
  | cons a st =>
    obtain ⟨v, vs, rfl, hv, hs2⟩ := xx_2_cons hst
    have h0 : cond (and (Nat.beq a.1 0) (and (xh_in a.2 65537) (and (Nat.ble (Nat.succ ce) M.2.2.2.2.1) (and (Nat.ble (Nat.add sl (xh_ix a.2)) M.2.2.2.2.2.1) (Nat.ble (xh_kind (newarray.typeOf t)) 2))))) (xx_f (xh_ix a.2) fun n => xk_hset h h.1 (.inr (newarray.typeOf t, n, .inl 0)) fun h' => nx lv ((3, h.1) :: st) (Nat.succ h'.1, h'.2) sy (Nat.succ ce) (Nat.add sl n)) none = some outs := hk
    obtain ⟨c0, h1⟩ := xcd h0 rfl
    rw [xx_f_eq] at h1
    have c1 := xan c0
    have c2 := xan c1.2
    have c3 := xan c2.2
    have c4 := xan c3.2
    obtain ⟨h', q6, q7, q8⟩ := xk_hset_ok h1
    have ev := xv_0 c1.1 hv
    subst ev
    obtain ⟨b1, b2, b3⟩ := xh_in_ok c2.1 (by decide)
    have hce : ce + 1 ≤ R.cells := Nat.le_trans (Nat.le_of_ble_eq_true c3.1) hF.2.2.2.2.2.2.2.2.2.2.1
    have hsl : sl + xh_ix a.2 ≤ R.slots := Nat.le_trans (Nat.le_of_ble_eq_true c4.1) hF.2.2.2.2.2.2.2.2.2.2.2
    clear h0 h1 c0 c1 c2 c3
    have c42 := c4.2
    clear c4
    generalize xh_ix a.2 = ixn at b2 b3 hsl q7 q8
    have hkd : xh_kind (newarray.typeOf t) ≤ 2 := Nat.le_of_ble_eq_true c42
    have hnn : ¬ Int32.ofNat a.2 < 0 := fun z => b1 (Or.inl z)
    have hA : ∀ q, s.heap.size ≤ q → xAA g.2.2.2.1 q := fun q hq => Nat.le_trans hF.2.2.2.2.2.2.2.1 hq
    have hbytes : ixn * componentBytes (newarray.typeOf t) ≤ 536870912 := by
      have : componentBytes (newarray.typeOf t) ≤ 8 := by cases t <;> decide
      have := Nat.mul_le_mul (Nat.le_of_lt b3) this
      omega
    have fin : ∀ (a0 : vp_A), (∀ cA : ClassId, vp_cell cA a0 = arrV cA (ixn) (fun _ => defaultValue (newarray.typeOf t))) → (∀ (cA : ClassId) (tys' : List (ClassId × FieldType)) (aw' : List Nat), (cA, newarray.typeOf t) ∈ tys' → xcell g.2.1 ρ aw' tys' (.inr (newarray.typeOf t, ixn, .inl 0)) (.inl (cA, a0))) → W p g.1 e R s m args below meth c H locs ce sl Q (F0 m pc ls (.int (Int32.ofNat a.2) :: vs)) := by
      intro a0 ha0 hcell
      refine va_newa hF.1 hF.2.1 (hF.2.2.2.1 _ hw) rfl hW.2.2.2.1 hW.1 hW.2.1 hW.2.2.1 hA (N' := ixn) (a0 := a0) ha0 hnn b2 hbytes hce hsl hd (fun q cA H1 hK1 hP1 hD1 hS1 => ?_)
      have hmem : (cA, newarray.typeOf t) ∈ tys ++ [(cA, newarray.typeOf t)] := List.mem_append_right _ List.mem_cons_self
      have hW' := xWd_new hW hP1 hD1 hS1 hK1 (fun _ z => List.mem_append_left _ z) q6 q7 (hcell cA _ _ hmem)
      have ea := xaw_app ws (q, (.inl (cA, a0) : va_E))
      refine hn _ _ _ _ _ _ _ q8 p e R s m args below meth c Q H1 locs ls _ ρ _ _ hF hW' hs hr ⟨⟨q, ?_, rfl⟩, xx_2_mono (fun _ _ z => xv_mono (xx_e_rf _) ea z) hs2⟩ (xLv_mono (xx_e_rf _) ea hlv) (xRT_mono hRT (fun _ z => z) (xx_e_rf _) ea)
      show (xaw (ws ++ [(q, (.inl (cA, a0) : va_E))]))[h.1]? = some q
      rw [hW.2.2.2.2.1]
      simp [xaw]
    have z0 : ∀ w j, xx_g w 0 j = 0 := fun w j => by simp [xx_g]
    have hlt31 : ixn < 2 ^ 31 := by omega
    cases t with
    | long =>
      refine fin (ixn, .inr (.inl fun _ => 0)) (fun cA => rfl) (fun cA tys' aw' hm => ⟨cA, hm, hlt31, Or.inr ⟨_, rfl, rfl, fun j _ => ?_⟩⟩)
      rw [z0]
      rfl
    | boolean =>
      refine fin (ixn, .inl fun _ => 0) (fun cA => rfl) (fun cA tys' aw' hm => ⟨cA, hm, hlt31, Or.inl ⟨_, rfl, Nat.le_of_ble_eq_true rfl, fun j _ => ?_⟩⟩)
      rw [z0]
      rfl
    | byte =>
      refine fin (ixn, .inl fun _ => 0) (fun cA => rfl) (fun cA tys' aw' hm => ⟨cA, hm, hlt31, Or.inl ⟨_, rfl, Nat.le_of_ble_eq_true rfl, fun j _ => ?_⟩⟩)
      rw [z0]
      rfl
    | int =>
      refine fin (ixn, .inl fun _ => 0) (fun cA => rfl) (fun cA tys' aw' hm => ⟨cA, hm, hlt31, Or.inl ⟨_, rfl, Nat.le_of_ble_eq_true rfl, fun j _ => ?_⟩⟩)
      rw [z0]
      rfl
    | _ => exact absurd hkd (by decide)
/-- the value that a field begins with -/
def xdv_w (a : xV) : Value := match a.1 with
  | 0 => .int (Int32.ofNat a.2)
  | 4 => .long (Int64.ofNat a.2)
  | _ => .null
def xdok_w (a : xV) : Bool := or (Nat.beq a.1 0) (or (Nat.beq a.1 2) (Nat.beq a.1 4))
theorem xdv_ok_w (X : xX) (ρ : List Int32) (aw : List Nat) : ∀ {l : List xV}, l.all xdok_w = true → xx_2 (xv X ρ aw) l (l.map xdv_w)
  | [], _ => trivial
  | (t, n) :: l, h => by
    rw [List.all_cons] at h
    have h' := xan h
    refine ⟨?_, xdv_ok_w X ρ aw h'.2⟩
    have h1 : or (Nat.beq t 0) (or (Nat.beq t 2) (Nat.beq t 4)) = true := h'.1
    rcases Bool.or_eq_true_iff.mp h1 with q | q
    · have e : t = 0 := Nat.eq_of_beq_eq_true q
      subst e
      rfl
    · rcases Bool.or_eq_true_iff.mp q with q | q
      · have e : t = 2 := Nat.eq_of_beq_eq_true q
        subst e
        rfl
      · have e : t = 4 := Nat.eq_of_beq_eq_true q
        subst e
        rfl
/-- an object is made -/
theorem xs_new_w {a1 idx : Nat} {C : String} {T : u_T} {N : Nat} {ty0 : Nat → FieldType} {df : List xV} (hG : xGok_w g G) (hd : decode M.2.1 pc = .ok (.new idx, 3)) (hc : xcl[a1]? = some (C, T, N)) (hin : ∀ w ∈ u_ws C T N, w ∈ xTb) (hty : ∀ k, k < N → parseFieldDescriptor (T k).2.2.1 = some (ty0 k)) (hdf : xDF[a1]? = some df) (hdl : df.length = N) (hda : df.all xdok_w = true) (hdv : ∀ j, j < N → defaultValue (ty0 j) = vp_V (df.map xdv_w) j) (hl : Cond.classLink M.1.cls idx C ∈ xTb) (hi : Cond.instantiable C N ∈ xTb) (hini : Cond.initialized C ∈ xTb) (hn : xNok g M d (pc + 3) nx) : xNok g M d pc (xd_new G M.2.2.2.2.1 M.2.2.2.2.2.1 a1 nx jp ag ca) := by
  intro lv st h sy ce sl outs hk p e R s m args below meth c Q H locs ls vs ρ ws tys hF hW hs hr hst hlv hRT
  obtain ⟨df', h1, h2⟩ := xk_nth_ok hk
  rw [hG.1, hdf] at h1
  cases h1
  have h3 : cond (and (Nat.ble (Nat.succ ce) M.2.2.2.2.1) (Nat.ble (Nat.add sl df.length) M.2.2.2.2.2.1)) (xk_hset h h.1 (.inl (a1, df)) fun h' => nx lv ((3, h.1) :: st) (Nat.succ h'.1, h'.2) sy (Nat.succ ce) (Nat.add sl df.length)) none = some outs := h2
  obtain ⟨c0, h4⟩ := xcd h3 rfl
  have c1 := xan c0
  obtain ⟨h', q6, q7, q8⟩ := xk_hset_ok h4
  have hce : ce + 1 ≤ R.cells := Nat.le_trans (Nat.le_of_ble_eq_true c1.1) hF.2.2.2.2.2.2.2.2.2.2.1
  have hsl : sl + N ≤ R.slots := Nat.le_trans (by rw [← hdl]; exact Nat.le_of_ble_eq_true c1.2) hF.2.2.2.2.2.2.2.2.2.2.2
  have hA : ∀ q, s.heap.size ≤ q → xAA g.2.2.2.1 q := fun q hq => Nat.le_trans hF.2.2.2.2.2.2.2.1 hq
  refine va_new hF.1 hF.2.1 hF.2.2.2.1 hin ty0 hty hF.2.2.2.2.1 (hF.2.2.2.1 _ hl) (hF.2.2.2.1 _ hi) (hF.2.2.2.1 _ hini) hW.2.2.2.1 hW.1 hW.2.1 hW.2.2.1 hA hc (fs := df.map xdv_w) hdv hce hsl hd (fun q H1 hP1 hD1 hS1 => ?_)
  have hW' := xWd_new hW hP1 hD1 hS1 hW.2.2.2.1 (fun _ z => z) q6 q7 (show xcell g.2.1 ρ _ tys (.inl (a1, df)) (.inr (a1, df.map xdv_w)) from ⟨_, rfl, xdv_ok_w _ _ _ hda⟩)
  have ea := xaw_app ws (q, (.inr (a1, df.map xdv_w) : va_E))
  rw [← hdl]
  refine hn _ _ _ _ _ _ _ q8 p e R s m args below meth c Q H1 locs ls _ ρ _ _ hF hW' hs hr ⟨⟨q, ?_, rfl⟩, xx_2_mono (fun _ _ z => xv_mono (xx_e_rf _) ea z) hst⟩ (xLv_mono (xx_e_rf _) ea hlv) (xRT_mono hRT (fun _ z => z) (xx_e_rf _) ea)
  show (xaw (ws ++ [(q, (.inr (a1, df.map xdv_w) : va_E))]))[h.1]? = some q
  rw [hW.2.2.2.2.1]
  simp [xaw]
theorem xwords_ok_w {X : xX} {ρ : List Int32} {aw : List Nat} : ∀ {l : List xV} {vs : List Value}, xx_2 (xv X ρ aw) l vs → (vs.map fun v => v.category).sum = xh_words l
  | [], [], _ => rfl
  | a :: l, v :: vs, h => by
    rw [List.map_cons, List.sum_cons, xwords_ok_w h.2, xv_cat h.1]
    show _ = Nat.add (cond (xc_l a) 2 1) (xh_words l)
    cases xc_l a <;> rfl
  | [], _ :: _, h => absurd h id
  | _ :: _, [], h => absurd h id
theorem xs_obj_w {idx : Nat} (hd : decode M.2.1 pc = .ok (.invokespecial idx, 3)) (hl : Cond.methodLink M.1.cls idx objectInit ∈ xTb) (hi : Cond.instanceMethod objectInit ∈ xTb) (hc : Cond.code objectInit ⟨#[0xb1]⟩ 1 none ∈ xTb) (hn : xNok g M d (pc + 3) nx) : xNok g M d pc (xd_obj nx jp ag ca) := by
  intro lv st h sy ce sl outs hk p e R s m args below meth c Q H locs ls vs ρ ws tys hF hW hs hr hst hlv hRT
  cases st with
  | nil => cases hk
  | cons a st =>
    obtain ⟨v, vs, rfl, hv, hs2⟩ := xx_2_cons hst
    have h0 : cond (and (Nat.beq a.1 3) (Nat.ble (xh_words st) 8)) (nx lv st h sy ce sl) none = some outs := hk
    obtain ⟨c0, h1⟩ := xcd h0 rfl
    have c1 := xan c0
    obtain ⟨q, -, rfl⟩ := xv_3 c1.1 hv
    have hw := Nat.le_of_ble_eq_true c1.2
    have hfr := hF.2.2.2.2.2.2.2.2.1
    have hlo := hF.2.2.2.2.2.2.2.2.2.1
    refine W.objInit hF.1 hF.2.1 hF.2.2.2.2.1 (hF.2.2.2.1 _ hl) (hF.2.2.2.1 _ hi) (hF.2.2.2.1 _ hc) (g := F0 m pc ls (.ref q :: vs)) rfl (by rw [hF.2.2.1]; exact hlv.2.1) rfl hd (by omega) ?_ (hn _ _ _ _ _ _ _ h1 p e R s m args below meth c Q H locs ls _ ρ ws tys hF hW hs hr hs2 hlv hRT)
    rw [xwords_ok_w hs2]
    show 2 * 0 + _ + 12 ≤ _
    omega
end XT
