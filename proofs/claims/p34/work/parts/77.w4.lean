/-! for scripts of any length: printed by wip/p34/genw.py out of my rows of p1 -/
/-! calls -/
section XC
variable {g : xGl} {M : xM} {d pc : Nat} {nx ag : xN} {jp : Nat → xN} {G : xG} {ih : xI}
noncomputable abbrev xrows_w (G : xG) (N : xM) (l : List xE) : List xD := xd_rows G xNA N.2.2.2.2.1 N.2.2.2.2.2.1 N.2.2.2.1 l
theorem xd_meths_at_w (NA : List Nat) : ∀ (l : List xM) (i : Nat), (xd_meths G NA l)[i]? = (l[i]?).map (xd_meth G NA)
  | [], i => by show ([] : List xP)[i]? = _; simp
  | M :: l, 0 => rfl
  | M :: l, i + 1 => by
    show (xd_meth G NA M :: xd_meths G NA l)[i + 1]? = _
    rw [List.getElem?_cons_succ, List.getElem?_cons_succ]
    exact xd_meths_at_w NA l i
/-- what the run gives of a call -/
theorem xcall_un_w {mi mc ms : Nat} {as rest : List xV} {lv : List xV} {h : xH} {sy : xS} {ce sl : Nat} {outs : List xO} (hk : xh_call (xd_meths G xNA xMT) ih d mc ms nx mi as rest lv h sy ce sl = some outs) :
    ∃ d' N outs', d = d' + 1 ∧ xMT[mi]? = some N ∧ ce + N.2.2.2.2.1 ≤ mc ∧ sl + N.2.2.2.2.2.1 ≤ ms ∧ xh_words rest ≤ 8 ∧ N.2.2.1 ≤ 40 ∧ (xh_lay as).length ≤ N.2.2.1 ∧ ih d' N.2.2.2.2.1 N.2.2.2.2.2.1 (xrows_w G N N.2.2.2.2.2.2.2) (xrows_w G N N.2.2.2.2.2.2.2) (xh_lay as ++ List.replicate (N.2.2.1 - (xh_lay as).length) (9, 0)) [] h sy 0 0 = some outs' ∧
      ∀ o ∈ outs', ∃ r', nx lv (match o.1 with
        | none => rest
        | some v => v :: rest) o.2.1 o.2.2 (ce + N.2.2.2.2.1) (sl + N.2.2.2.2.2.1) = some r' ∧ ∀ x ∈ r', x ∈ outs := by
  cases d with
  | zero => cases hk
  | succ d' =>
    have h0 : (match xk_at (xd_meths G xNA xMT) mi with
      | none => none
      | some N => cond (and (Nat.ble (Nat.add ce N.2.1) mc) (and (Nat.ble (Nat.add sl N.2.2.1) ms) (and (Nat.ble (xh_words rest) 8) (Nat.ble N.1 40))))
          (xk_pad N.1 (xh_lay as) fun lv' => match ih d' N.2.1 N.2.2.1 N.2.2.2.2 N.2.2.2.2 lv' [] h sy 0 0 with
          | none => none
          | some outs => xh_all outs fun o => xx_f (Nat.add ce N.2.1) fun ce' => xx_f (Nat.add sl N.2.2.1) fun sl' => nx lv (match o.1 with
            | none => rest
            | some v => v :: rest) o.2.1 o.2.2 ce' sl') none) = some outs := hk
    rw [xk_at_eq, xd_meths_at_w] at h0
    cases hm : xMT[mi]? with
    | none => rw [hm] at h0; cases h0
    | some N =>
      rw [hm] at h0
      have h1 : cond (and (Nat.ble (Nat.add ce N.2.2.2.2.1) mc) (and (Nat.ble (Nat.add sl N.2.2.2.2.2.1) ms) (and (Nat.ble (xh_words rest) 8) (Nat.ble N.2.2.1 40))))
          (xk_pad N.2.2.1 (xh_lay as) fun lv' => match ih d' N.2.2.2.2.1 N.2.2.2.2.2.1 (xrows_w G N N.2.2.2.2.2.2.2) (xrows_w G N N.2.2.2.2.2.2.2) lv' [] h sy 0 0 with
          | none => none
          | some outs => xh_all outs fun o => xx_f (Nat.add ce N.2.2.2.2.1) fun ce' => xx_f (Nat.add sl N.2.2.2.2.2.1) fun sl' => nx lv (match o.1 with
            | none => rest
            | some v => v :: rest) o.2.1 o.2.2 ce' sl') none = some outs := h0
      obtain ⟨c0, h2⟩ := xcd h1 rfl
      have c1 := xan c0
      have c2 := xan c1.2
      have c3 := xan c2.2
      obtain ⟨hp, h3⟩ := xk_pad_ok h2
      have h3' : (match ih d' N.2.2.2.2.1 N.2.2.2.2.2.1 (xrows_w G N N.2.2.2.2.2.2.2) (xrows_w G N N.2.2.2.2.2.2.2) (xh_lay as ++ List.replicate (N.2.2.1 - (xh_lay as).length) (9, 0)) [] h sy 0 0 with
          | none => none
          | some outs => xh_all outs fun o => xx_f (Nat.add ce N.2.2.2.2.1) fun ce' => xx_f (Nat.add sl N.2.2.2.2.2.1) fun sl' => nx lv (match o.1 with
            | none => rest
            | some v => v :: rest) o.2.1 o.2.2 ce' sl') = some outs := h3
      cases hih : ih d' N.2.2.2.2.1 N.2.2.2.2.2.1 (xrows_w G N N.2.2.2.2.2.2.2) (xrows_w G N N.2.2.2.2.2.2.2) (xh_lay as ++ List.replicate (N.2.2.1 - (xh_lay as).length) (9, 0)) [] h sy 0 0 with
      | none => rw [hih] at h3'; cases h3'
      | some outs' =>
        rw [hih] at h3'
        have h4 : (xh_all outs' fun o => xx_f (Nat.add ce N.2.2.2.2.1) fun ce' => xx_f (Nat.add sl N.2.2.2.2.2.1) fun sl' => nx lv (match o.1 with
            | none => rest
            | some v => v :: rest) o.2.1 o.2.2 ce' sl') = some outs := h3'
        refine ⟨d', N, outs', rfl, rfl, Nat.le_of_ble_eq_true c1.1, Nat.le_of_ble_eq_true c2.1, Nat.le_of_ble_eq_true c3.1, Nat.le_of_ble_eq_true c3.2, hp, hih, fun o ho => ?_⟩
        obtain ⟨r', k1, k2⟩ := xall_ok h4 o ho
        rw [xx_f_eq, xx_f_eq] at k1
        exact ⟨r', k1, k2⟩
/-- the runs that are shorter are right -/
def xIok_w (g : xGl) (G : xG) (ih : xI) : Prop := ∀ N ∈ xMT, ∀ (pre suf : List xE), N.2.2.2.2.2.2.2 = pre ++ suf → ∀ (pc : Nat), (∀ (q : xE) (r : List xE), suf = q :: r → q.1 = pc) → ∀ d', xNok g N d' pc (ih d' N.2.2.2.2.1 N.2.2.2.2.2.1 (xrows_w G N N.2.2.2.2.2.2.2) (xrows_w G N suf))
/-- how a caller goes on -/
theorem xcont_w {N : xM} {outs outs' : List xO} {lv rest : List xV} {h : xH} {ce sl : Nat} {p : Program} {e : Env} {R : Room} {s : State} {m : MethodId} {args aargs : Array Value} {below : List Frame} {meth : Method} {c : Code} {Q : State → Prop} {H : Heap} {locs : List Loc} {ls : Array Slot} {vrest st0 : List Value} {ρ : List Int32} {ws : va_W} {tys : List (ClassId × FieldType)}
    (hF : xF g M d p R s m args meth c) (hW : xWg g ρ ws tys h H s locs) (hr : xx_e (xrho g) ρ) (hst : xx_2 (xv g.2.1 ρ (xaw ws)) rest vrest) (hlv : xLv g.2.1 ρ (xaw ws) M.2.2.1 lv ls) (hRT : xRT g M p e R s m args below meth c Q outs ρ ws) (hn : xNok g M d (pc + 3) nx)
    (hall : ∀ o ∈ outs', ∃ r', nx lv (match o.1 with
        | none => rest
        | some v => v :: rest) o.2.1 o.2.2 (ce + N.2.2.2.2.1) (sl + N.2.2.2.2.2.1) = some r' ∧ ∀ x ∈ r', x ∈ outs)
    (hrun : va_Run p g.1 e R s m args below meth c H locs ce sl N.2.2.2.2.1 N.2.2.2.2.2.1 (F0 m pc ls st0) vrest (xQc_w g ρ ws outs' aargs) (xAA g.2.2.2.1)) : W p g.1 e R s m args below meth c H locs ce sl Q (F0 m pc ls st0) := by
  refine xafter_w hrun (fun v st₀ t L h0 hvm hL hq => ?_)
  obtain ⟨⟨hz, hk⟩, o, ho, ρ', ws', tys', e1, e2, e3, w1, w2, w4, w5, w6, hret⟩ := hq
  rw [h0] at hz hk
  have hS := hW.2.2.1
  have hS' : va_S (xAA g.2.2.2.1) s.heap t.heap (locs ++ L) := ⟨Nat.le_trans hS.1 hz, fun q h1 h2 => by rw [hk q (Nat.lt_of_lt_of_le h1 hS.1) h2]; exact hS.2.1 q h1 h2, fun q hq => by
    rcases List.mem_append.mp hq with h | h
    · exact hS.2.2 q h
    · exact hL q h⟩
  have hW' : xWg g ρ' ws' tys' o.2.1 t.heap s (locs ++ L) := ⟨w1, w2, hS', va_K.moved hvm.symm w4, w5, w6⟩
  obtain ⟨r', k1, k2⟩ := hall o ho
  have hlv' := xLv_mono e1 e2 hlv
  have hst' := xx_2_mono (fun _ _ z => xv_mono (X := g.2.1) e1 e2 z) hst
  have hRT' := xRT_mono hRT k2 e1 e2
  rcases hret with ⟨o1, o2⟩ | ⟨a, w, o1, o2, o3⟩
  · injection o2 with o2
    subst o2
    rw [o1] at k1
    exact hn _ _ _ _ _ _ _ k1 p e R s m args below meth c Q t.heap _ ls _ ρ' ws' tys' hF hW' e3 (xx_e_tr hr e1) hst' hlv' hRT'
  · injection o2 with o2
    subst o2
    rw [o1] at k1
    exact hn _ _ _ _ _ _ _ k1 p e R s m args below meth c Q t.heap _ ls _ ρ' ws' tys' hF hW' e3 (xx_e_tr hr e1) ⟨o3, hst'⟩ hlv' hRT'
theorem xgoodin_w {N : xM} (hN : xNf_w N) : GoodIn xTb (xws_w N) := by
  intro w hw
  rcases List.mem_cons.mp hw with rfl | hw
  · exact ⟨hN.2.1, good_of_word (xTb_good _ hN.2.1)⟩
  · exact ⟨hw, good_of_word (xTb_good _ hw)⟩
theorem xpre_w {s : State} {H : Heap} {locs : List Loc} {h : xH} {ρ : List Int32} {ws : va_W} {tys : List (ClassId × FieldType)} {vs : List Value} {R : Room} {p : Program} {m : MethodId} {args : Array Value} {meth : Method} {c : Code} (hF : xF g M d p R s m args meth c) (hW : xWg g ρ ws tys h H s locs) : PreS s H (xPc_w g ws tys vs) vs := by
  refine ⟨xPc_blind_w ws tys vs, fun U hU hWm => ⟨rfl, ?_, ?_, hW.2.1, va_K.moved hWm.alike hW.2.2.2.1, ?_⟩⟩
  · rw [hU]
    exact Nat.le_trans hF.2.2.2.2.2.2.2.1 hW.2.2.1.1
  · rw [hU]
    exact hW.1
  · exact xEX_kept_w hF.2.2.2.2.2.2.1 hF.2.2.2.2.2.2.2.1 hW.2.2.1 hU hWm
/-- a static method -/
theorem xs_stat_w {mi idx : Nat} {N : xM} (hI : xIok_w g G ih) (hd : decode M.2.1 pc = .ok (.invokestatic idx, 3)) (hm : xMT[mi]? = some N) (hN : xNf_w N) (h0 : ∀ (q : xE) (r : List xE), N.2.2.2.2.2.2.2 = q :: r → q.1 = 0) (hl : Cond.methodLink M.1.cls idx N.1 ∈ xTb ∨ ∃ host, Cond.methodLinkNest M.1.cls idx N.1 host ∈ xNW) (hstat : Cond.static N.1 ∈ xTb) (hn : xNok g M d (pc + 3) nx) : xNok g M d pc (xd_stat N.2.2.2.2.2.2.1 mi nx jp ag (xh_call (xd_meths G xNA xMT) ih d M.2.2.2.2.1 M.2.2.2.2.2.1 nx)) := by
  intro lv st h sy ce sl outs hk p e R s m args below meth c Q H locs ls vs ρ ws tys hF hW hs hr hst hlv hRT
  obtain ⟨st1, st2, rfl, hlen, hk2⟩ := xk_take_ok hk
  rw [List.append_nil] at hk2
  obtain ⟨vs1, vs2, rfl, ha, hrest⟩ := xx_2_split hst
  obtain ⟨d', N', outs', rfl, hm', hce, hsl, hwd, hml40, hlay, hih, hall⟩ := xcall_un_w hk2
  cases hm.symm.trans hm'
  have hok := hI N (List.mem_of_getElem? hm) [] _ rfl 0 h0 d' _ _ _ _ _ _ _ hih
  have hav := xx_2_rev ha
  have hM := xmet_w hN hlay hok hs hr hav hW.2.2.2.2.1 hW.2.2.2.2.2
  have hfr := hF.2.2.2.2.2.2.2.2.1
  have hlo := hF.2.2.2.2.2.2.2.2.2.1
  have hR : (xrm_w N d').frames + 1 ≤ R.frames ∧ 8 + (N.2.2.1 + 11) + (xrm_w N d').locals ≤ R.locals := ⟨hfr, by show 8 + (N.2.2.1 + 11) + 64 * (d' + 1) ≤ _; omega⟩
  have hlen2 : vs1.reverse.length = N.2.2.2.2.2.2.1 := by rw [List.length_reverse, ← xx_2_len ha, hlen]
  have hcells : ce + N.2.2.2.2.1 ≤ R.cells ∧ sl + N.2.2.2.2.2.1 ≤ R.slots := ⟨Nat.le_trans hce hF.2.2.2.2.2.2.2.2.2.2.1, Nat.le_trans hsl hF.2.2.2.2.2.2.2.2.2.2.2⟩
  have hwords : 2 * (F0 m pc ls (vs1 ++ vs2)).monitorRoom + (vs2.map fun v => v.category).sum ≤ 8 := lv_room (by rw [xwords_ok_w hrest]; exact hwd)
  refine xcont_w (N := N) (aargs := vs1.reverse.toArray) hF hW hr hrest hlv hRT hn hall ?_
  rcases hl with hl | ⟨host, hl⟩
  · exact va_runS (As := vs1.reverse) (rest := vs2) ⟨hF.1, hF.2.1, hF.2.2.1, hF.2.2.2.2.1, hF.2.2.2.1⟩ hM ⟨callB_of N.2.2.2.2.2.2.1 hF.2.2.2.1 (xgoodin_w hN) rfl rfl rfl (hF.2.2.2.1 _ hN.2.2.1) (hF.2.2.2.1 _ hl) ⟨hN.2.2.2.1, hN.2.2.2.2.1, hN.2.2.2.2.2⟩ hR, hF.2.2.2.1 _ hstat⟩ (xpre_w hF hW) rfl hlen2 hlv.2.1 (by rw [List.reverse_reverse]) hwords hd hcells
  · exact va_runSN (As := vs1.reverse) (rest := vs2) (host := host) ⟨hF.1, hF.2.1, hF.2.2.1, hF.2.2.2.2.1, hF.2.2.2.1⟩ hM ⟨va_cnB N.2.2.2.2.2.2.1 hF.2.2.2.1 (xgoodin_w hN) rfl rfl rfl (hF.2.2.2.2.2.2.1.1 _ hl) (hF.2.2.2.1 _ hN.2.2.1) ⟨hN.2.2.2.1, hN.2.2.2.2.1, hN.2.2.2.2.2⟩ hR, hF.2.2.2.1 _ hstat, trivial⟩ (xpre_w hF hW) rfl hlen2 hlv.2.1 (by rw [List.reverse_reverse]) hwords hd hcells
/-- a constructor -/
theorem xs_init_w {mi idx : Nat} {N : xM} (hI : xIok_w g G ih) (hd : decode M.2.1 pc = .ok (.invokespecial idx, 3)) (hm : xMT[mi]? = some N) (hN : xNf_w N) (h0 : ∀ (q : xE) (r : List xE), N.2.2.2.2.2.2.2 = q :: r → q.1 = 0) (hl : Cond.methodLink M.1.cls idx N.1 ∈ xTb ∨ ∃ host, Cond.methodLinkNest M.1.cls idx N.1 host ∈ xNW) (hinst : Cond.instanceMethod N.1 ∈ xTb) (hname : N.1.name = "<init>") (hret : N.2.2.2.1 = none) (hn : xNok g M d (pc + 3) nx) : xNok g M d pc (xd_init N.2.2.2.2.2.2.1 mi nx jp ag (xh_call (xd_meths G xNA xMT) ih d M.2.2.2.2.1 M.2.2.2.2.2.1 nx)) := by
  intro lv st h sy ce sl outs hk p e R s m args below meth c Q H locs ls vs ρ ws tys hF hW hs hr hst hlv hRT
  obtain ⟨st1, st2, rfl, hlen, hk2⟩ := xk_take_ok hk
  rw [List.append_nil] at hk2
  obtain ⟨vs1, vs2, rfl, ha, hrest⟩ := xx_2_split hst
  cases st2 with
  | nil => cases hk2
  | cons b rest =>
    have hk3 : cond (Nat.beq b.1 3) (xh_call (xd_meths G xNA xMT) ih d M.2.2.2.2.1 M.2.2.2.2.2.1 nx mi (b :: st1.reverse) rest lv h sy ce sl) none = some outs := hk2
    obtain ⟨c0, hk4⟩ := xcd hk3 rfl
    obtain ⟨vb, vs3, rfl, hb, hrest2⟩ := xx_2_cons hrest
    obtain ⟨q, hq1, rfl⟩ := xv_3 c0 hb
    obtain ⟨d', N', outs', rfl, hm', hce, hsl, hwd, hml40, hlay, hih, hall⟩ := xcall_un_w hk4
    cases hm.symm.trans hm'
    have hok := hI N (List.mem_of_getElem? hm) [] _ rfl 0 h0 d' _ _ _ _ _ _ _ hih
    have hav : xx_2 (xv g.2.1 ρ (xaw ws)) (b :: st1.reverse) (.ref q :: vs1.reverse) := ⟨hb, xx_2_rev ha⟩
    have hM := xmet_w hN hlay hok hs hr hav hW.2.2.2.2.1 hW.2.2.2.2.2
    have hfr := hF.2.2.2.2.2.2.2.2.1
    have hlo := hF.2.2.2.2.2.2.2.2.2.1
    have hR : (xrm_w N d').frames + 1 ≤ R.frames ∧ 8 + (N.2.2.1 + 11) + (xrm_w N d').locals ≤ R.locals := ⟨hfr, by show 8 + (N.2.2.1 + 11) + 64 * (d' + 1) ≤ _; omega⟩
    have hlen2 : vs1.reverse.length = N.2.2.2.2.2.2.1 := by rw [List.length_reverse, ← xx_2_len ha, hlen]
    have hcells : ce + N.2.2.2.2.1 ≤ R.cells ∧ sl + N.2.2.2.2.2.1 ≤ R.slots := ⟨Nat.le_trans hce hF.2.2.2.2.2.2.2.2.2.2.1, Nat.le_trans hsl hF.2.2.2.2.2.2.2.2.2.2.2⟩
    have hwords : 2 * (F0 m pc ls (vs1 ++ .ref q :: vs3)).monitorRoom + (vs3.map fun v => v.category).sum ≤ 8 := lv_room (by rw [xwords_ok_w hrest2]; exact hwd)
    have hrw : xws_w N = Cond.code N.1 N.2.1 N.2.2.1 none :: xTb := by rw [← hret]
    refine xcont_w (N := N) (aargs := (Value.ref q :: vs1.reverse).toArray) hF hW hr hrest2 hlv hRT hn hall ?_
    rcases hl with hl | ⟨host, hl⟩
    · exact va_runI (As := vs1.reverse) (rest := vs3) ⟨hF.1, hF.2.1, hF.2.2.1, hF.2.2.2.2.1, hF.2.2.2.1⟩ hM ⟨callB_of N.2.2.2.2.2.2.1 hF.2.2.2.1 (xgoodin_w hN) hrw rfl rfl (hF.2.2.2.1 _ hN.2.2.1) (hF.2.2.2.1 _ hl) ⟨hN.2.2.2.1, hN.2.2.2.2.1, hN.2.2.2.2.2⟩ hR, hname, hF.2.2.2.1 _ hinst⟩ (xpre_w hF hW) rfl hlen2 hlv.2.1 (by rw [List.reverse_reverse]) hwords hd hcells
    · exact va_runIN (As := vs1.reverse) (rest := vs3) (host := host) ⟨hF.1, hF.2.1, hF.2.2.1, hF.2.2.2.2.1, hF.2.2.2.1⟩ hM ⟨va_cnB N.2.2.2.2.2.2.1 hF.2.2.2.1 (xgoodin_w hN) hrw rfl rfl (hF.2.2.2.2.2.2.1.1 _ hl) (hF.2.2.2.1 _ hN.2.2.1) ⟨hN.2.2.2.1, hN.2.2.2.2.1, hN.2.2.2.2.2⟩ hR, hname, hF.2.2.2.1 _ hinst⟩ (xpre_w hF hW) rfl hlen2 hlv.2.1 (by rw [List.reverse_reverse]) hwords hd hcells
/-- an instance method -/
theorem xs_virt_w {mi ci idx : Nat} {N : xM} (hG : xGok_w g G) (hI : xIok_w g G ih) (hd : decode M.2.1 pc = .ok (.invokevirtual idx, 3)) (hm : xMT[mi]? = some N) (hN : xNf_w N) (h0 : ∀ (q : xE) (r : List xE), N.2.2.2.2.2.2.2 = q :: r → q.1 = 0) (hl : Cond.methodLink M.1.cls idx N.1 ∈ xTb ∨ ∃ host, Cond.methodLinkNest M.1.cls idx N.1 host ∈ xNW) (hinst : Cond.instanceMethod N.1 ∈ xTb) (hsel : Cond.selects N.1.cls N.1 N.1 ∈ xTb) (hci : (∃ q, xcl[ci]? = some q ∧ q.1 = N.1.cls) ∨ (ci = 1000 ∧ N.1.cls = "java/lang/String" ∧ xcl[1000]? = none)) (hn : xNok g M d (pc + 3) nx) : xNok g M d pc (xd_virt G N.2.2.2.2.2.2.1 mi ci nx jp ag (xh_call (xd_meths G xNA xMT) ih d M.2.2.2.2.1 M.2.2.2.2.2.1 nx)) := by
  intro lv st h sy ce sl outs hk p e R s m args below meth c Q H locs ls vs ρ ws tys hF hW hs hr hst hlv hRT
  obtain ⟨st1, st2, rfl, hlen, hk2⟩ := xk_take_ok hk
  rw [List.append_nil] at hk2
  obtain ⟨vs1, vs2, rfl, ha, hrest⟩ := xx_2_split hst
  cases st2 with
  | nil => cases hk2
  | cons b rest =>
    obtain ⟨vb, vs3, rfl, hb, hrest2⟩ := xx_2_cons hrest
    have hk3 : cond (Nat.beq b.1 3) (xk_hget h b.2 fun c => match c with
      | .inl o => cond (Nat.beq o.1 ci) (xh_call (xd_meths G xNA xMT) ih d M.2.2.2.2.1 M.2.2.2.2.2.1 nx mi (b :: st1.reverse) rest lv h sy ce sl) none
      | .inr _ => none) (cond (and (Nat.beq b.1 7) (and (Nat.beq ci 1000) (Nat.ble (Nat.succ b.2) G.2.2.1.length))) (xh_call (xd_meths G xNA xMT) ih d M.2.2.2.2.1 M.2.2.2.2.2.1 nx mi (b :: st1.reverse) rest lv h sy ce sl) none) = some outs := hk2
    -- the receiver
    have hrc : ∃ q, vb = .ref q ∧ (∃ cell : Cell, H[q]? = some cell ∧ cell.vm.isStatics = false ∧ s.vm.findClass N.1.cls = some cell.cls) ∧ xh_call (xd_meths G xNA xMT) ih d M.2.2.2.2.1 M.2.2.2.2.2.1 nx mi (b :: st1.reverse) rest lv h sy ce sl = some outs := by
      cases h3 : Nat.beq b.1 3 with
      | true =>
        rw [h3] at hk3
        have hk4 : (xk_hget h b.2 fun c => match c with
          | .inl o => cond (Nat.beq o.1 ci) (xh_call (xd_meths G xNA xMT) ih d M.2.2.2.2.1 M.2.2.2.2.2.1 nx mi (b :: st1.reverse) rest lv h sy ce sl) none
          | .inr _ => none) = some outs := hk3
        obtain ⟨x, g1, g2⟩ := xk_hget_ok hk4
        cases x with
        | inr r => cases g2
        | inl o =>
          have g3 : cond (Nat.beq o.1 ci) (xh_call (xd_meths G xNA xMT) ih d M.2.2.2.2.1 M.2.2.2.2.2.1 nx mi (b :: st1.reverse) rest lv h sy ce sl) none = some outs := g2
          obtain ⟨q1, q2⟩ := xcd g3 rfl
          obtain ⟨q, en, rfl, e2, vs', rfl, e4⟩ := xWd_get hW h3 hb g1
          rw [Nat.eq_of_beq_eq_true q1] at e2
          refine ⟨q, rfl, ?_, q2⟩
          rcases hci with ⟨r, r1, r2⟩ | ⟨r1, -, r3⟩
          · rw [← r2]
            exact va_recv hW.2.2.2.1 hW.1 r1 e2
          · obtain ⟨r, r4, -⟩ := hW.1 _ _ e2
            rw [r1] at r4
            rw [r3] at r4
            cases r4
      | false =>
        rw [h3] at hk3
        have hk4 : cond (and (Nat.beq b.1 7) (and (Nat.beq ci 1000) (Nat.ble (Nat.succ b.2) G.2.2.1.length))) (xh_call (xd_meths G xNA xMT) ih d M.2.2.2.2.1 M.2.2.2.2.2.1 nx mi (b :: st1.reverse) rest lv h sy ce sl) none = some outs := hk3
        obtain ⟨q1, q2⟩ := xcd hk4 rfl
        have q1' := xan q1
        have q1'' := xan q1'.2
        have ev := xv_7 q1'.1 hb
        subst ev
        refine ⟨_, rfl, ?_, q2⟩
        have hlt : b.2 < xBY.length := by
          have := q1''.2
          rw [hG.2.1] at this
          exact Nat.le_of_ble_eq_true this
        have e1000 : ci = 1000 := Nat.eq_of_beq_eq_true q1''.1
        rcases hci with ⟨r, r1, r2⟩ | ⟨r1, r2, r3⟩
        · rw [e1000, xcl_1000] at r1
          cases r1
        · rw [r2]
          exact vk_recv hF.2.2.2.2.2.2.1.2.2.1 hlt hW.2.2.1
    obtain ⟨q, rfl, hcellB, hk4⟩ := hrc
    obtain ⟨d', N', outs', rfl, hm', hce, hsl, hwd, hml40, hlay, hih, hall⟩ := xcall_un_w hk4
    cases hm.symm.trans hm'
    have hok := hI N (List.mem_of_getElem? hm) [] _ rfl 0 h0 d' _ _ _ _ _ _ _ hih
    have hav : xx_2 (xv g.2.1 ρ (xaw ws)) (b :: st1.reverse) (.ref q :: vs1.reverse) := ⟨hb, xx_2_rev ha⟩
    have hM := xmet_w hN hlay hok hs hr hav hW.2.2.2.2.1 hW.2.2.2.2.2
    have hfr := hF.2.2.2.2.2.2.2.2.1
    have hlo := hF.2.2.2.2.2.2.2.2.2.1
    have hR : (xrm_w N d').frames + 1 ≤ R.frames ∧ 8 + (N.2.2.1 + 11) + (xrm_w N d').locals ≤ R.locals := ⟨hfr, by show 8 + (N.2.2.1 + 11) + 64 * (d' + 1) ≤ _; omega⟩
    have hlen2 : vs1.reverse.length = N.2.2.2.2.2.2.1 := by rw [List.length_reverse, ← xx_2_len ha, hlen]
    have hcells : ce + N.2.2.2.2.1 ≤ R.cells ∧ sl + N.2.2.2.2.2.1 ≤ R.slots := ⟨Nat.le_trans hce hF.2.2.2.2.2.2.2.2.2.2.1, Nat.le_trans hsl hF.2.2.2.2.2.2.2.2.2.2.2⟩
    have hwords : 2 * (F0 m pc ls (vs1 ++ .ref q :: vs3)).monitorRoom + (vs3.map fun v => v.category).sum ≤ 8 := lv_room (by rw [xwords_ok_w hrest2]; exact hwd)
    have hp := xpre_w (vs := .ref q :: vs1.reverse) hF hW
    refine xcont_w (N := N) (aargs := (Value.ref q :: vs1.reverse).toArray) hF hW hr hrest2 hlv hRT hn hall ?_
    rcases hl with hl | ⟨host, hl⟩
    · exact va_runV (C := N.1.cls) (As := vs1.reverse) (rest := vs3) ⟨hF.1, hF.2.1, hF.2.2.1, hF.2.2.2.2.1, hF.2.2.2.1⟩ hM ⟨callB_of N.2.2.2.2.2.2.1 hF.2.2.2.1 (xgoodin_w hN) rfl rfl rfl (hF.2.2.2.1 _ hN.2.2.1) (hF.2.2.2.1 _ hl) ⟨hN.2.2.2.1, hN.2.2.2.2.1, hN.2.2.2.2.2⟩ hR, hF.2.2.2.1 _ hinst, hF.2.2.2.1 _ hsel⟩ ⟨hp.1, hcellB, hp.2⟩ rfl hlen2 hlv.2.1 (by rw [List.reverse_reverse]) hwords hd hcells
    · exact va_runVN (C := N.1.cls) (As := vs1.reverse) (rest := vs3) (host := host) ⟨hF.1, hF.2.1, hF.2.2.1, hF.2.2.2.2.1, hF.2.2.2.1⟩ hM ⟨va_cnB N.2.2.2.2.2.2.1 hF.2.2.2.1 (xgoodin_w hN) rfl rfl rfl (hF.2.2.2.2.2.2.1.1 _ hl) (hF.2.2.2.1 _ hN.2.2.1) ⟨hN.2.2.2.1, hN.2.2.2.2.1, hN.2.2.2.2.2⟩ hR, hF.2.2.2.1 _ hinst, hF.2.2.2.1 _ hsel⟩ ⟨hp.1, hcellB, hp.2⟩ rfl hlen2 hlv.2.1 (by rw [List.reverse_reverse]) hwords hd hcells
end XC
