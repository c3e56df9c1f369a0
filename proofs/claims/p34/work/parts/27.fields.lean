section XK
variable {g : xGl} {M : xM} {d pc : Nat} {nx ag : xN} {jp : Nat → xN} {ca : xK} {G : xG}
theorem xcd {b : Bool} {x y : xR} {r : List xO} (h : cond b x y = some r) (hy : y = none) : b = true ∧ x = some r := by
  cases b with
  | true => exact ⟨rfl, h⟩
  | false => rw [hy] at h; cases h
theorem xan {a b : Bool} (h : and a b = true) : a = true ∧ b = true := Bool.and_eq_true_iff.mp h
/-- getfield, of a cell -/
theorem xs_get {a1 a2 idx : Nat} {C : String} {T : u_T} {N : Nat} (hG : G.2.2.1 = xBY) (hd : decode M.2.1 pc = .ok (.getfield idx, 3)) (hc : xcl[a1]? = some (C, T, N)) (hin : ∀ w ∈ u_ws C T N, w ∈ xTb) (hk : a2 < N) (hl : Cond.fieldLink M.1.cls idx (T a2).1 (T a2).2.1 (T a2).2.2.1 ∈ xTb ∨ ∃ host, Cond.fieldLinkNest M.1.cls idx (T a2).1 (T a2).2.1 (T a2).2.2.1 host ∈ xNW) (h1000 : Nat.beq a1 1000 = false) (hn : xNok g M d (pc + 3) nx) : xNok g M d pc (xd_get G a1 a2 nx jp ag ca) := by
  intro lv st h sy ce sl outs hk' p e R s m args below meth c Q H locs ls vs ρ ws tys hF hW hs hr hst hlv hRT
  cases st with
  | nil => cases hk'
  | cons a st =>
    obtain ⟨v, vs, rfl, hv, hs2⟩ := xx_2_cons hst
    have h0 : cond (Nat.beq a.1 3) (xk_hget h a.2 fun c => match c with
      | .inl o => cond (Nat.beq o.1 a1) (xk_nth o.2 a2 fun v => nx lv (v :: st) h sy ce sl) none
      | .inr _ => none) (cond (and (Nat.beq a.1 7) (and (Nat.beq a1 1000) (Nat.ble (Nat.succ a.2) G.2.2.1.length))) (cond (Nat.beq a2 0) (nx lv ((0, 0) :: st) h sy ce sl) (cond (Nat.beq a2 1) (nx lv ((8, a.2) :: st) h sy ce sl) none)) none) = some outs := hk'
    cases h3 : Nat.beq a.1 3 with
    | false =>
      rw [h3] at h0
      dsimp only [cond] at h0
      obtain ⟨q1, -⟩ := xcd h0 rfl
      rw [(xan (xan q1).2).1] at h1000
      cases h1000
    | true =>
      rw [h3] at h0
      dsimp only [cond] at h0
      obtain ⟨x, g1, g2⟩ := xk_hget_ok h0
      cases x with
      | inr r => cases g2
      | inl o =>
        dsimp only at g2
        obtain ⟨q1, q2⟩ := xcd g2 rfl
        obtain ⟨b, q3, q4⟩ := xk_nth_ok q2
        obtain ⟨q, en, rfl, e2, vs', rfl, e4⟩ := xWd_get hW h3 hv g1
        obtain ⟨w, e5, e6⟩ := xx_2_get e4 q3
        have eo : o.1 = a1 := Nat.eq_of_beq_eq_true q1
        rw [eo] at e2
        have hkk := hn _ _ _ _ _ _ _ q4 p e R s m args below meth c Q H locs ls _ ρ ws tys hF hW hs hr (show xx_2 (xv g.2.1 ρ (xaw ws)) (b :: st) (w :: vs) from ⟨e6, hs2⟩) hlv hRT
        rcases hl with hl | ⟨host, hl⟩
        · exact va_get hF.1 hF.2.1 hF.2.2.2.1 hin hF.2.2.2.2.1 hW.2.2.2.1 hW.1 a.2 e2 hc a2 hk (hF.2.2.2.1 _ hl) (fun _ z => z) e5 hd hkk
        · exact va_getN hF.1 hF.2.1 hF.2.2.2.1 hin hF.2.2.2.2.1 hW.2.2.2.1 hW.1 a.2 e2 hc a2 hk (va_Nw.use rfl (hF.2.2.2.2.2.2.1.1 _ hl)) (fun _ z => z) e5 hd hkk
/-- getfield, of a text -/
theorem xs_getS {a2 idx : Nat} (hG : G.2.2.1 = xBY) (hd : decode M.2.1 pc = .ok (.getfield idx, 3)) (hl : (a2 = 0 ∧ Cond.fieldLink M.1.cls idx "java/lang/String" "coder" "B" ∈ xTb) ∨ (a2 = 1 ∧ Cond.fieldLink M.1.cls idx "java/lang/String" "value" "[B" ∈ xTb)) (hc : ∀ (o : Nat × List xV), Nat.beq o.1 1000 = true → xcl[o.1]? = none) (hn : xNok g M d (pc + 3) nx) : xNok g M d pc (xd_get G 1000 a2 nx jp ag ca) := by
  intro lv st h sy ce sl outs hk' p e R s m args below meth c Q H locs ls vs ρ ws tys hF hW hs hr hst hlv hRT
  cases st with
  | nil => cases hk'
  | cons a st =>
    obtain ⟨v, vs, rfl, hv, hs2⟩ := xx_2_cons hst
    have h0 : cond (Nat.beq a.1 3) (xk_hget h a.2 fun c => match c with
      | .inl o => cond (Nat.beq o.1 1000) (xk_nth o.2 a2 fun v => nx lv (v :: st) h sy ce sl) none
      | .inr _ => none) (cond (and (Nat.beq a.1 7) (and (Nat.beq 1000 1000) (Nat.ble (Nat.succ a.2) G.2.2.1.length))) (cond (Nat.beq a2 0) (nx lv ((0, 0) :: st) h sy ce sl) (cond (Nat.beq a2 1) (nx lv ((8, a.2) :: st) h sy ce sl) none)) none) = some outs := hk'
    cases h3 : Nat.beq a.1 3 with
    | true =>
      rw [h3] at h0
      dsimp only [cond] at h0
      obtain ⟨x, g1, g2⟩ := xk_hget_ok h0
      cases x with
      | inr r => cases g2
      | inl o =>
        dsimp only at g2
        obtain ⟨q1, q2⟩ := xcd g2 rfl
        obtain ⟨q, en, rfl, e2, vs', rfl, e4⟩ := xWd_get hW h3 hv g1
        obtain ⟨r, r1, -⟩ := hW.1 _ _ e2
        rw [hc o q1] at r1
        cases r1
    | false =>
      rw [h3] at h0
      dsimp only [cond] at h0
      obtain ⟨q1, q2⟩ := xcd h0 rfl
      have q3 := xan q1
      have q4 := xan q3.2
      have hlt : a.2 < xBY.length := by
        rw [hG] at q4
        exact Nat.le_of_ble_eq_true q4.2
      have ev := xv_7 q3.1 hv
      subst ev
      have hE := (hF.2.2.2.2.2.2.1.2.2.1.1 a.2 hlt)
      rcases hl with ⟨rfl, hl⟩ | ⟨rfl, hl⟩
      · have h5 : nx lv ((0, 0) :: st) h sy ce sl = some outs := q2
        exact vk_getf hF.1 hF.2.1 hE.2.1 hW.2.2.1 hF.2.2.2.2.1 (hF.2.2.2.1 _ hl) (fun _ z => z) hd (hn _ _ _ _ _ _ _ h5 p e R s m args below meth c Q H locs ls _ ρ ws tys hF hW hs hr ⟨rfl, hs2⟩ hlv hRT)
      · have h5 : nx lv ((8, a.2) :: st) h sy ce sl = some outs := q2
        exact vk_getf hF.1 hF.2.1 hE.2.2.1 hW.2.2.1 hF.2.2.2.2.1 (hF.2.2.2.1 _ hl) (fun _ z => z) hd (hn _ _ _ _ _ _ _ h5 p e R s m args below meth c Q H locs ls _ ρ ws tys hF hW hs hr ⟨rfl, hs2⟩ hlv hRT)
/-- putfield -/
theorem xs_putf {a1 a2 a3 idx : Nat} {C : String} {T : u_T} {N : Nat} {ty0 : Nat → FieldType} (hd : decode M.2.1 pc = .ok (.putfield idx, 3)) (hc : xcl[a1]? = some (C, T, N)) (hin : ∀ w ∈ u_ws C T N, w ∈ xTb) (hty : ∀ k, k < N → parseFieldDescriptor (T k).2.2.1 = some (ty0 k)) (hnm : ∀ a, a < N → ∀ b, b < N → a ≠ b → (T a).2.1 ≠ (T b).2.1) (hk : a2 < N) (hl : Cond.fieldLink M.1.cls idx (T a2).1 (T a2).2.1 (T a2).2.2.1 ∈ xTb) (h3 : a3 = xh_tc (ty0 a2)) (hfin : (T a2).2.2.2 = false ∨ ((T a2).2.2.2 = true ∧ M.1.name = "<init>" ∧ (T a2).1 = M.1.cls)) (hn : xNok g M d (pc + 3) nx) : xNok g M d pc (xd_putf a1 a2 a3 nx jp ag ca) := by
  intro lv st h sy ce sl outs hk' p e R s m args below meth c Q H locs ls vs ρ ws tys hF hW hs hr hst hlv hRT
  match st, hk', hst with
  | [], hk', _ => cases hk'
  | [b], hk', _ => cases hk'
  | b :: a :: st, hk', hst =>
    obtain ⟨vb, vs1, rfl, hb, hs1⟩ := xx_2_cons hst
    obtain ⟨va, vs2, rfl, ha, hs2⟩ := xx_2_cons hs1
    have h0 : cond (and (Nat.beq a.1 3) (xh_fit a3 b sy)) (xk_hget h a.2 fun c => match c with
      | .inl o => cond (Nat.beq o.1 a1) (xk_set o.2 a2 b fun fs => xk_hset h a.2 (.inl (o.1, fs)) fun h' => nx lv st h' sy ce sl) none
      | .inr _ => none) none = some outs := hk'
    obtain ⟨q0, q1⟩ := xcd h0 rfl
    have q0' := xan q0
    obtain ⟨x, g1, g2⟩ := xk_hget_ok q1
    cases x with
    | inr r => cases g2
    | inl o =>
      dsimp only at g2
      obtain ⟨q2, q3⟩ := xcd g2 rfl
      obtain ⟨q4, q5⟩ := xk_set_ok q3
      obtain ⟨h', q6, q7, q8⟩ := xk_hset_ok q5
      obtain ⟨q, en, rfl, e2, vs', rfl, e4⟩ := xWd_get hW q0'.1 ha g1
      have eo : o.1 = a1 := Nat.eq_of_beq_eq_true q2
      rw [eo] at e2 q7
      have hf := xfit_ok (ty := ty0 a2) (by rw [← h3]; exact q0'.2) hs hb
      have hlen : a2 < vs'.length := by rw [← xx_2_len e4]; exact q4
      have hkk : ∀ (H1 : Heap) (locs1 : List Loc), va_P g.2.2.1 xcl (ws.set a.2 (q, .inr (a1, vs'.set a2 vb))) H1 → va_D (xAA g.2.2.2.1) (ws.set a.2 (q, .inr (a1, vs'.set a2 vb))) → va_S (xAA g.2.2.2.1) s.heap H1 locs1 → W p g.1 e R s m args below meth c H1 locs1 ce sl Q (F0 m (pc + 3) ls vs2) := by
        intro H1 locs1 hP1 hD1 hS1
        have hW' := xWd_set hW e2 hP1 hD1 hS1 q6 q7 (show xcell g.2.1 ρ (xaw ws) tys (.inl (a1, o.2.set a2 b)) (.inr (a1, vs'.set a2 vb)) from ⟨_, rfl, xx_2_set e4 a2 hb⟩)
        have ea := xaw_set (e' := .inr (a1, vs'.set a2 vb)) e2
        exact hn _ _ _ _ _ _ _ q8 p e R s m args below meth c Q H1 locs1 ls _ ρ _ tys hF hW' hs hr (by rw [ea]; exact hs2) (by rw [ea]; exact hlv) (xRT_mono hRT (fun _ z => z) (xx_e_rf _) (by rw [ea]; exact xx_e_rf _))
      rcases hfin with hfin | ⟨hfin, hi1, hi2⟩
      · exact va_put hF.1 hF.2.1 hF.2.2.2.1 hin ty0 hty hnm hF.2.2.2.2.1 hW.2.2.2.1 hW.1 hW.2.1 hW.2.2.1 a.2 e2 hc a2 hk (hF.2.2.2.1 _ hl) (fun _ z => z) hfin (hty a2 hk) hf.1 hf.2 hlen hd hkk
      · exact va_putF hF.1 hF.2.1 hF.2.2.2.1 hin ty0 hty hnm hF.2.2.2.2.1 hW.2.2.2.1 hW.1 hW.2.1 hW.2.2.1 a.2 e2 hc a2 hk (hF.2.2.2.1 _ hl) (fun _ z => z) hfin (hF.2.2.2.2.2.1 hi1) hi2 (hty a2 hk) hf.1 hf.2 hlen hd hkk
/-- getstatic -/
theorem xs_gets0 {idx : Nat} (hd : decode M.2.1 pc = .ok (.getstatic idx, 3)) (hl : Cond.fieldLink M.1.cls idx "java/lang/String" "COMPACT_STRINGS" "Z" ∈ xTb) (hn : xNok g M d (pc + 3) nx) : xNok g M d pc (xd_push (0, 1) nx jp ag ca) := by
  intro lv st h sy ce sl outs hk p e R s m args below meth c Q H locs ls vs ρ ws tys hF hW hs hr hst hlv hRT
  exact va_gets hF.1 hF.2.1 hF.2.2.2.2.2.2.1.2.2.2.1 hW.2.2.1 hF.2.2.2.2.1 (hF.2.2.2.1 _ hl) (fun _ z => z) hd (hn _ _ _ _ _ _ _ hk p e R s m args below meth c Q H locs ls _ ρ ws tys hF hW hs hr ⟨rfl, hst⟩ hlv hRT)
theorem xs_gets1 {idx : Nat} (hd : decode M.2.1 pc = .ok (.getstatic idx, 3)) (hl : Cond.fieldLink M.1.cls idx "jdk/internal/util/Preconditions" "SIOOBE_FORMATTER" "Ljava/util/function/BiFunction;" ∈ xTb) (hn : xNok g M d (pc + 3) nx) : xNok g M d pc (xd_push (10, 0) nx jp ag ca) := by
  intro lv st h sy ce sl outs hk p e R s m args below meth c Q H locs ls vs ρ ws tys hF hW hs hr hst hlv hRT
  rcases hF.2.2.2.2.2.2.1.2.2.2.2.1 with hZ | ⟨t, hZ⟩
  · exact va_gets hF.1 hF.2.1 hZ hW.2.2.1 hF.2.2.2.2.1 (hF.2.2.2.1 _ hl) (fun _ z => z) hd (hn _ _ _ _ _ _ _ hk p e R s m args below meth c Q H locs ls _ ρ ws tys hF hW hs hr ⟨Or.inl rfl, hst⟩ hlv hRT)
  · exact va_gets hF.1 hF.2.1 hZ hW.2.2.1 hF.2.2.2.2.1 (hF.2.2.2.1 _ hl) (fun _ z => z) hd (hn _ _ _ _ _ _ _ hk p e R s m args below meth c Q H locs ls _ ρ ws tys hF hW hs hr ⟨Or.inr ⟨t, rfl⟩, hst⟩ hlv hRT)
end XK
