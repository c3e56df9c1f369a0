/-! for scripts of any length: printed by wip/p34/genw.py out of my rows of p1 -/
section XR
variable {g : xGl} {M : xM} {d pc : Nat} {nx ag : xN} {jp : Nat → xN} {ca : xK} {G : xG}
/-- what the run knows of the script -/
def xGok_w (g : xGl) (G : xG) : Prop := G.2.1 = xDF ∧ G.2.2.1 = xBY ∧ ((G.2.2.2 = (0, 6) ∧ g.2.2.2.2.1 = 6) ∨ (G.2.2.2 = (1, 0) ∧ g.2.2.2.2.1 ≠ 6))
theorem xlen6_w (hG : xGok_w g G) (h1 : Nat.beq G.2.2.2.1 0 = true) : g.2.2.2.2.1 = 6 := by
  rcases hG.2.2 with h | h
  · exact h.2
  · rw [h.1] at h1
    cases h1
theorem xrho6_w {ρ : List Int32} (h6 : g.2.2.2.2.1 = 6) (hr : xx_e (xrho g) ρ) {j : Nat} (hj : j < 6) : ρ[j]? = some (g.2.2.2.2.2 j) := by
  refine xx_e_get hr ?_
  unfold xrho
  rw [if_pos h6]
  match j, hj with
  | 0, _ => rfl
  | 1, _ => rfl
  | 2, _ => rfl
  | 3, _ => rfl
  | 4, _ => rfl
  | 5, _ => rfl
theorem xrho7_w {ρ : List Int32} (h6 : g.2.2.2.2.1 = 6) (hr : xx_e (xrho g) ρ) : ρ[6]? = some (g.2.2.2.2.2 0 &&& 63) := by
  refine xx_e_get hr ?_
  unfold xrho
  rw [if_pos h6]
  rfl
theorem xs_iand_w (hG : xGok_w g G) (hd : decode M.2.1 pc = .ok (.iand, 1)) (hn : xNok g M d (pc + 1) nx) : xNok g M d pc (xd_and G nx jp ag ca) := by
  intro lv st h sy ce sl outs hk p e R s m args below meth c Q H locs ls vs ρ ws tys hF hW hs hr hst hlv hRT
  match st, hk, hst with
  | [], hk, _ => cases hk
  | [b], hk, _ => cases hk
  | b :: a :: st, hk, hst =>
    have hk' : cond (and (Nat.beq a.1 1) (and (Nat.beq a.2 0) (and (Nat.beq b.1 0) (and (Nat.beq b.2 63) (and (Nat.beq G.2.2.2.1 0) (Nat.beq G.2.2.2.2 6)))))) (nx lv ((1, 6) :: st) h sy ce sl) (xh_bin (xn_of fun x y => x &&& y) xg_any b a sy fun v sy' => nx lv (v :: st) h sy' ce sl) = some outs := hk
    cases hc : and (Nat.beq a.1 1) (and (Nat.beq a.2 0) (and (Nat.beq b.1 0) (and (Nat.beq b.2 63) (and (Nat.beq G.2.2.2.1 0) (Nat.beq G.2.2.2.2 6))))) with
    | false =>
      rw [hc] at hk'
      exact xs_bin_any (ag := ag) (jp := jp) (ca := ca) (f := xn_of fun x y => x &&& y) (r := xg_any) (F := fun x y => x &&& y) (xn_of_ok _) (xgood_any _) (fun p e R s m args below meth c Q H locs ls rest x y ce sl hx hb k => lv_iand hx hb hd k) hn lv (b :: a :: st) h sy ce sl outs hk' p e R s m args below meth c Q H locs ls vs ρ ws tys hF hW hs hr hst hlv hRT
    | true =>
      rw [hc] at hk'
      dsimp only [cond] at hk'
      have c1 := xan hc
      have c2 := xan c1.2
      have c3 := xan c2.2
      have c4 := xan c3.2
      have c5 := xan c4.2
      obtain ⟨vb, vs1, rfl, hb, hs1⟩ := xx_2_cons hst
      obtain ⟨va, vs2, rfl, ha, hs2⟩ := xx_2_cons hs1
      have h6 := xlen6_w hG c5.1
      obtain ⟨x, e1, rfl⟩ := xv_1 c1.1 ha
      rw [Nat.eq_of_beq_eq_true c2.1, xrho6_w h6 hr (by decide)] at e1
      cases e1
      have eb := xv_0 c3.1 hb
      rw [Nat.eq_of_beq_eq_true c4.1] at eb
      subst eb
      exact lv_iand hF.1 hF.2.1 hd (hn _ _ _ _ _ _ _ hk' p e R s m args below meth c Q H locs ls _ ρ ws tys hF hW hs hr ⟨⟨_, xrho7_w h6 hr, rfl⟩, hs2⟩ hlv hRT)
/-- a row's number -/
theorem xs_ald_w {kd : Nat} (hG : xGok_w g G) (hkd : (kd = 0 ∧ decode M.2.1 pc = .ok (.iaload, 1)) ∨ (kd = 1 ∧ decode M.2.1 pc = .ok (.baload, 1))) (hn : xNok g M d (pc + 1) nx) (hag : xNok g M d pc ag) : xNok g M d pc (xd_ald G kd nx jp ag ca) := by
  intro lv st h sy ce sl outs hk p e R s m args below meth c Q H locs ls vs ρ ws tys hF hW hs hr hst hlv hRT
  match st, hk, hst with
  | [], hk, _ => cases hk
  | [b], hk, _ => cases hk
  | i :: a :: st, hk, hst =>
    obtain ⟨vi, vs1, rfl, hi, hs1⟩ := xx_2_cons hst
    obtain ⟨va, vs2, rfl, ha, hs2⟩ := xx_2_cons hs1
    have h0 : cond (Nat.beq i.1 0) (cond (Nat.beq a.1 3) (xk_hget h a.2 fun c => match c with
        | .inl _ => none
        | .inr r => cond (and (Nat.beq (xh_kind r.1) kd) (xh_in i.2 r.2.1)) (match r.2.2 with
            | .inl N => xx_f (xx_g 32 N (xh_ix i.2)) fun n => nx lv ((0, n) :: st) h sy ce sl
            | .inr iv => xh_fresh sy iv fun v sy' => nx lv (v :: st) h sy' ce sl) none)
      (cond (and (Nat.beq a.1 6) (Nat.beq kd 0)) (cond (and (xh_in i.2 6) (and (Nat.beq G.2.2.2.1 0) (Nat.beq G.2.2.2.2 6))) (xx_f (xh_ix i.2) fun n => nx lv ((1, n) :: st) h sy ce sl) none)
      (cond (and (Nat.beq a.1 8) (Nat.beq kd 1)) (xk_nth G.2.2.1 a.2 fun bs => cond (xh_in i.2 bs.length) (xx_f (xx_n (bs.getD (xh_ix i.2) 0)) fun n => nx lv ((0, n) :: st) h sy ce sl) none) none)))
      (xh_conc sy i fun i' sy' => ag lv (i' :: a :: st) h sy' ce sl) = some outs := hk
    cases hc : Nat.beq i.1 0 with
    | false =>
      rw [hc] at h0
      dsimp only [cond] at h0
      obtain ⟨i', sy', r', g1, g2, g3, g4⟩ := xconc_ok (X := g.2.1) (aw := xaw ws) h0 hs hi
      exact hag _ _ _ _ _ _ _ g1 p e R s m args below meth c Q H locs ls _ ρ ws tys hF hW g2 hr ⟨g3, ha, hs2⟩ hlv (xRT_mono hRT g4 (xx_e_rf _) (xx_e_rf _))
    | true =>
      rw [hc] at h0
      have ei := xv_0 hc hi
      subst ei
      have h1 : cond (Nat.beq a.1 3) (xk_hget h a.2 fun c => match c with
        | .inl _ => none
        | .inr r => cond (and (Nat.beq (xh_kind r.1) kd) (xh_in i.2 r.2.1)) (match r.2.2 with
            | .inl N => xx_f (xx_g 32 N (xh_ix i.2)) fun n => nx lv ((0, n) :: st) h sy ce sl
            | .inr iv => xh_fresh sy iv fun v sy' => nx lv (v :: st) h sy' ce sl) none)
        (cond (and (Nat.beq a.1 6) (Nat.beq kd 0)) (cond (and (xh_in i.2 6) (and (Nat.beq G.2.2.2.1 0) (Nat.beq G.2.2.2.2 6))) (xx_f (xh_ix i.2) fun n => nx lv ((1, n) :: st) h sy ce sl) none)
        (cond (and (Nat.beq a.1 8) (Nat.beq kd 1)) (xk_nth G.2.2.1 a.2 fun bs => cond (xh_in i.2 bs.length) (xx_f (xx_n (bs.getD (xh_ix i.2) 0)) fun n => nx lv ((0, n) :: st) h sy ce sl) none) none)) = some outs := h0
      cases h3 : Nat.beq a.1 3 with
      | true =>
        rw [h3] at h1
        dsimp only [cond] at h1
        obtain ⟨x, g1, g2⟩ := xk_hget_ok h1
        cases x with
        | inl o => cases g2
        | inr r =>
          dsimp only at g2
          obtain ⟨q1, q2⟩ := xcd g2 rfl
          have q1' := xan q1
          obtain ⟨q, en, rfl, e2, cA, e3, e4, e5⟩ := xWd_get hW h3 ha g1
          obtain ⟨b1, b2, b3⟩ := xh_in_ok q1'.2 e4
          obtain ⟨t0, ht0⟩ := List.getElem?_of_mem e3
          rcases e5 with ⟨f, rfl, e6, e7⟩ | ⟨f, rfl, e6, e7⟩
          · have hkk : W p g.1 e R s m args below meth c H locs ce sl Q (F0 m (pc + 1) ls (.int (f (Int32.ofNat i.2).toNatClampNeg) :: vs2)) := by
              rw [b2]
              cases hr2 : r.2.2 with
              | inl N =>
                rw [hr2] at q2 e7
                have q3 : xx_f (xx_g 32 N (xh_ix i.2)) (fun n => nx lv ((0, n) :: st) h sy ce sl) = some outs := q2
                rw [xx_f_eq] at q3
                exact hn _ _ _ _ _ _ _ q3 p e R s m args below meth c Q H locs ls _ ρ ws tys hF hW hs hr ⟨congrArg Value.int (e7 _ b3), hs2⟩ hlv hRT
              | inr iv =>
                rw [hr2] at q2 e7
                obtain ⟨sy', a', k1, k3, k4, k5⟩ := xfresh_ok (show xh_fresh sy iv (fun v sy' => nx lv (v :: st) h sy' ce sl) = some outs from q2) hs (f (xh_ix i.2)) (e7 _ b3) g.2.1 (xaw ws)
                have k2 := xx_e_one ρ (f (xh_ix i.2))
                exact hn _ _ _ _ _ _ _ k1 p e R s m args below meth c Q H locs ls _ _ ws tys hF (xWd_mono k2 hW) k3 (xx_e_tr hr k2) ⟨k4, xx_2_mono (fun _ _ q => xv_mono k2 (xx_e_rf _) q) hs2⟩ (xLv_mono k2 (xx_e_rf _) hlv) (xRT_mono hRT (fun _ z => z) k2 (xx_e_rf _))
            rcases hkd with ⟨rfl, hd⟩ | ⟨rfl, hd⟩
            · rw [xkind0 q1'.1] at ht0
              exact va_iald hF.1 hF.2.1 hW.2.2.2.1 hW.1 a.2 t0 e2 ht0 b1 hd hkk
            · rcases xkind1 q1'.1 with z | z
              · rw [z] at ht0
                exact va_bald hF.1 hF.2.1 hW.2.2.2.1 hW.1 a.2 t0 e2 ht0 b1 hd hkk
              · rw [z] at ht0
                exact va_zald hF.1 hF.2.1 hW.2.2.2.1 hW.1 a.2 t0 e2 ht0 b1 hd hkk
          · have := Nat.eq_of_beq_eq_true q1'.1
            rcases hkd with ⟨rfl, -⟩ | ⟨rfl, -⟩ <;> omega
      | false =>
        rw [h3] at h1
        have h2 : cond (and (Nat.beq a.1 6) (Nat.beq kd 0)) (cond (and (xh_in i.2 6) (and (Nat.beq G.2.2.2.1 0) (Nat.beq G.2.2.2.2 6))) (xx_f (xh_ix i.2) fun n => nx lv ((1, n) :: st) h sy ce sl) none)
          (cond (and (Nat.beq a.1 8) (Nat.beq kd 1)) (xk_nth G.2.2.1 a.2 fun bs => cond (xh_in i.2 bs.length) (xx_f (xx_n (bs.getD (xh_ix i.2) 0)) fun n => nx lv ((0, n) :: st) h sy ce sl) none) none) = some outs := h1
        cases h6 : and (Nat.beq a.1 6) (Nat.beq kd 0) with
        | true =>
          rw [h6, cond_true] at h2
          obtain ⟨q1, q2⟩ := xcd h2 rfl
          rw [xx_f_eq] at q2
          have q1' := xan q1
          have q1'' := xan q1'.2
          have h6' := xan h6
          have ev := xv_6 h6'.1 ha
          subst ev
          have hL := xlen6_w hG q1''.1
          obtain ⟨b1, b2, b3⟩ := xh_in_ok q1'.1 (by decide)
          rcases hkd with ⟨rfl, hd⟩ | ⟨rfl, hd⟩
          · have hE := hF.2.2.2.2.2.2.1.2.2.2.2.2
            refine va_sld hF.1 hF.2.1 hE.1 (Nat.lt_of_lt_of_le hE.2 hF.2.2.2.2.2.2.2.1) (Nat.not_le.mpr hE.2) hW.2.2.1 (by rw [hL]; exact b1) hd ?_
            rw [b2]
            generalize xh_ix i.2 = j at q2 b3 ⊢
            exact hn _ _ _ _ _ _ _ q2 p e R s m args below meth c Q H locs ls _ ρ ws tys hF hW hs hr ⟨⟨_, xrho6_w hL hr b3, rfl⟩, hs2⟩ hlv hRT
          · exact absurd h6'.2 (by decide)
        | false =>
          rw [h6, cond_false] at h2
          have h2' : cond (and (Nat.beq a.1 8) (Nat.beq kd 1)) (xk_nth G.2.2.1 a.2 fun bs => cond (xh_in i.2 bs.length) (xx_f (xx_n (bs.getD (xh_ix i.2) 0)) fun n => nx lv ((0, n) :: st) h sy ce sl) none) none = some outs := h2
          obtain ⟨q1, q2⟩ := xcd h2' rfl
          have q1' := xan q1
          obtain ⟨bs, q3, q4⟩ := xk_nth_ok q2
          have q4' : cond (xh_in i.2 bs.length) (xx_f (xx_n (bs.getD (xh_ix i.2) 0)) fun n => nx lv ((0, n) :: st) h sy ce sl) none = some outs := q4
          obtain ⟨q5, q6⟩ := xcd q4' rfl
          rw [xx_f_eq] at q6
          have ev := xv_8 q1'.1 ha
          subst ev
          rw [hG.2.1] at q3
          have hlt := (List.getElem?_eq_some_iff.mp q3).1
          have hE := (hF.2.2.2.2.2.2.1.2.2.1.1 a.2 hlt).2.2.2
          have hbl : bs.length < 2 ^ 31 := xBYs bs (List.mem_of_getElem? q3)
          obtain ⟨b1, b2, b3⟩ := xh_in_ok q5 hbl
          have el : (xBY.map List.length).getD a.2 0 = bs.length := by
            rw [List.getD_eq_getElem?_getD, List.getElem?_map, q3]
            rfl
          have eb : xBY.getD a.2 [] = bs := by
            rw [List.getD_eq_getElem?_getD, q3]
            rfl
          rw [el, eb] at hE
          rcases hkd with ⟨rfl, hd⟩ | ⟨rfl, hd⟩
          · exact absurd q1'.2 (by decide)
          · refine va_tb hF.1 hF.2.1 hE hW.2.2.1 b1 rfl hd ?_
            rw [b2]
            exact hn _ _ _ _ _ _ _ q6 p e R s m args below meth c Q H locs ls _ ρ ws tys hF hW hs hr ⟨congrArg Value.int (xx_n_of _).symm, hs2⟩ hlv hRT
/-- a row's number is written -/
theorem xs_ast_w {kd : Nat} (hkd : (kd = 0 ∧ decode M.2.1 pc = .ok (.iastore, 1)) ∨ (kd = 1 ∧ decode M.2.1 pc = .ok (.bastore, 1))) (hn : xNok g M d (pc + 1) nx) (hag : xNok g M d pc ag) : xNok g M d pc (xd_ast kd nx jp ag ca) := by
  intro lv st h sy ce sl outs hk p e R s m args below meth c Q H locs ls vs ρ ws tys hF hW hs hr hst hlv hRT
  match st, hk, hst with
  | [], hk, _ => cases hk
  | [b], hk, _ => cases hk
  | [b, b2], hk, _ => cases hk
  | v :: i :: a :: st, hk, hst =>
    obtain ⟨vv, vs0, rfl, hv, hs0⟩ := xx_2_cons hst
    obtain ⟨vi, vs1, rfl, hi, hs1⟩ := xx_2_cons hs0
    obtain ⟨va, vs2, rfl, ha, hs2⟩ := xx_2_cons hs1
    have h0 : cond (Nat.beq i.1 0) (cond (and (Nat.beq a.1 3) (xc_i v)) (xk_hget h a.2 fun c => match c with
        | .inl _ => none
        | .inr r => cond (and (Nat.beq (xh_kind r.1) kd) (xh_in i.2 r.2.1)) (match r.2.2 with
            | .inl N => cond (Nat.beq v.1 0) (xx_f (xx_p 32 N (xh_ix i.2) (cond (Nat.beq kd 0) v.2 (xx_n (vp_nar r.1 (Int32.ofNat v.2))))) fun N' => xk_hset h a.2 (.inr (r.1, r.2.1, .inl N')) fun h' => nx lv st h' sy ce sl) (xk_hset h a.2 (.inr (r.1, r.2.1, .inr xs_full)) fun h' => nx lv st h' sy ce sl)
            | .inr _ => xk_hset h a.2 (.inr (r.1, r.2.1, .inr xs_full)) fun h' => nx lv st h' sy ce sl) none) none)
      (xh_conc sy i fun i' sy' => ag lv (v :: i' :: a :: st) h sy' ce sl) = some outs := hk
    cases hc : Nat.beq i.1 0 with
    | false =>
      rw [hc] at h0
      dsimp only [cond] at h0
      obtain ⟨i', sy', r', g1, g2, g3, g4⟩ := xconc_ok (X := g.2.1) (aw := xaw ws) h0 hs hi
      exact hag _ _ _ _ _ _ _ g1 p e R s m args below meth c Q H locs ls _ ρ ws tys hF hW g2 hr ⟨hv, g3, ha, hs2⟩ hlv (xRT_mono hRT g4 (xx_e_rf _) (xx_e_rf _))
    | true =>
      rw [hc] at h0
      have ei := xv_0 hc hi
      subst ei
      have h1 : cond (and (Nat.beq a.1 3) (xc_i v)) (xk_hget h a.2 fun c => match c with
        | .inl _ => none
        | .inr r => cond (and (Nat.beq (xh_kind r.1) kd) (xh_in i.2 r.2.1)) (match r.2.2 with
            | .inl N => cond (Nat.beq v.1 0) (xx_f (xx_p 32 N (xh_ix i.2) (cond (Nat.beq kd 0) v.2 (xx_n (vp_nar r.1 (Int32.ofNat v.2))))) fun N' => xk_hset h a.2 (.inr (r.1, r.2.1, .inl N')) fun h' => nx lv st h' sy ce sl) (xk_hset h a.2 (.inr (r.1, r.2.1, .inr xs_full)) fun h' => nx lv st h' sy ce sl)
            | .inr _ => xk_hset h a.2 (.inr (r.1, r.2.1, .inr xs_full)) fun h' => nx lv st h' sy ce sl) none) none = some outs := h0
      obtain ⟨c1, h2⟩ := xcd h1 rfl
      have c1' := xan c1
      obtain ⟨y, rfl⟩ := xv_i c1'.2 hv
      obtain ⟨x, g1, g2⟩ := xk_hget_ok h2
      cases x with
      | inl o => cases g2
      | inr r =>
        dsimp only at g2
        obtain ⟨q1, q2⟩ := xcd g2 rfl
        have q1' := xan q1
        obtain ⟨q, en, rfl, e2, cA, e3, e4, e5⟩ := xWd_get hW c1'.1 ha g1
        obtain ⟨b1, b2, b3⟩ := xh_in_ok q1'.2 e4
        obtain ⟨t0, ht0⟩ := List.getElem?_of_mem e3
        rcases e5 with ⟨f, rfl, e6, e7⟩ | ⟨f, rfl, e6, e7⟩
        · have hkk : ∀ z : Int32, z = (if kd = 0 then y else vp_nar r.1 y) → ∀ (H1 : Heap) (locs1 : List Loc), va_P g.2.2.1 xcl (ws.set a.2 (q, .inl (cA, r.2.1, .inl (upd f (Int32.ofNat i.2).toNatClampNeg z)))) H1 → va_D (xAA g.2.2.2.1) (ws.set a.2 (q, .inl (cA, r.2.1, .inl (upd f (Int32.ofNat i.2).toNatClampNeg z)))) → va_S (xAA g.2.2.2.1) s.heap H1 locs1 → W p g.1 e R s m args below meth c H1 locs1 ce sl Q (F0 m (pc + 1) ls vs2) := by
            intro z hz H1 locs1 hP1 hD1 hS1
            rw [b2] at hP1 hD1
            have ea := xaw_set (e' := (.inl (cA, r.2.1, .inl (upd f (xh_ix i.2) z)) : va_E)) e2
            have fin : ∀ ct : Nat ⊕ (Int × Int), xrow ct r.2.1 (upd f (xh_ix i.2) z) → xk_hset h a.2 (.inr (r.1, r.2.1, ct)) (fun h' => nx lv st h' sy ce sl) = some outs → W p g.1 e R s m args below meth c H1 locs1 ce sl Q (F0 m (pc + 1) ls vs2) := by
              intro ct hct hset
              obtain ⟨h', q6, q7, q8⟩ := xk_hset_ok hset
              have hW' := xWd_set hW e2 hP1 hD1 hS1 q6 q7 (show xcell g.2.1 ρ (xaw ws) tys (.inr (r.1, r.2.1, ct)) (.inl (cA, r.2.1, .inl (upd f (xh_ix i.2) z))) from ⟨cA, e3, e4, Or.inl ⟨_, rfl, e6, hct⟩⟩)
              exact hn _ _ _ _ _ _ _ q8 p e R s m args below meth c Q H1 locs1 ls _ ρ _ tys hF hW' hs hr (by rw [ea]; exact hs2) (by rw [ea]; exact hlv) (xRT_mono hRT (fun _ z => z) (xx_e_rf _) (by rw [ea]; exact xx_e_rf _))
            cases hr2 : r.2.2 with
            | inr iv =>
              rw [hr2] at q2
              exact fin (.inr xs_full) (xrow_any _ _) q2
            | inl N =>
              rw [hr2] at q2 e7
              have q3 : cond (Nat.beq v.1 0) (xx_f (xx_p 32 N (xh_ix i.2) (cond (Nat.beq kd 0) v.2 (xx_n (vp_nar r.1 (Int32.ofNat v.2))))) fun N' => xk_hset h a.2 (.inr (r.1, r.2.1, .inl N')) fun h' => nx lv st h' sy ce sl) (xk_hset h a.2 (.inr (r.1, r.2.1, .inr xs_full)) fun h' => nx lv st h' sy ce sl) = some outs := q2
              cases hv0 : Nat.beq v.1 0 with
              | false =>
                rw [hv0] at q3
                exact fin (.inr xs_full) (xrow_any _ _) q3
              | true =>
                rw [hv0] at q3
                have q4 : xx_f (xx_p 32 N (xh_ix i.2) (cond (Nat.beq kd 0) v.2 (xx_n (vp_nar r.1 (Int32.ofNat v.2))))) (fun N' => xk_hset h a.2 (.inr (r.1, r.2.1, .inl N')) fun h' => nx lv st h' sy ce sl) = some outs := q3
                rw [xx_f_eq] at q4
                refine fin _ (xrow_put e7 ?_) q4
                have ey := xv_0 hv0 hv
                injection ey with ey
                rw [hz]
                rcases hkd with ⟨rfl, -⟩ | ⟨rfl, -⟩
                · rw [if_pos rfl]
                  exact ey.symm
                · rw [if_neg (by decide), ey]
                  exact xx_n_of _
          rcases hkd with ⟨rfl, hd⟩ | ⟨rfl, hd⟩
          · rw [xkind0 q1'.1] at ht0
            exact va_iast hF.1 hF.2.1 hW.2.2.2.1 hW.1 hW.2.1 hW.2.2.1 a.2 t0 e2 ht0 b1 hd (hkk y (by rw [if_pos rfl]))
          · rcases xkind1 q1'.1 with z | z
            · rw [z] at ht0 hkk
              exact va_bast hF.1 hF.2.1 hW.2.2.2.1 hW.1 hW.2.1 hW.2.2.1 a.2 t0 e2 ht0 b1 hd (hkk _ (by rw [if_neg (by decide)]))
            · rw [z] at ht0 hkk
              exact va_zast hF.1 hF.2.1 hW.2.2.2.1 hW.1 hW.2.1 hW.2.2.1 a.2 t0 e2 ht0 b1 hd (hkk _ (by rw [if_neg (by decide)]))
        · have := Nat.eq_of_beq_eq_true q1'.1
          rcases hkd with ⟨rfl, -⟩ | ⟨rfl, -⟩ <;> omega
end XR
