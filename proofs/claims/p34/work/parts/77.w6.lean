/-! for scripts of any length: printed by wip/p34/genw.py out of my rows of p1 -/
/-! every row is right: then every run is -/
section XZ
variable {g : xGl} {G : xG} {ih : xI}
theorem xd_rows_drop_w (NA : List Nat) (mc ms : Nat) (ret : Option FieldType) : ∀ (l : List xE) (j : Nat), (xd_rows G NA mc ms ret l).drop j = xd_rows G NA mc ms ret (l.drop j)
  | l, 0 => rfl
  | [], j + 1 => rfl
  | e :: l, j + 1 => xd_rows_drop_w NA mc ms ret l j
theorem xnok_none_w {M : xM} {d pc : Nat} {k : xN} (h : ∀ lv st h sy ce sl, k lv st h sy ce sl = none) : xNok g M d pc k := by
  intro lv st h' sy ce sl outs hk
  rw [h] at hk
  cases hk
theorem xtlook_ok_w {x : Int32} {iv : Int × Int} {d : Int} {dft N : Nat} (b1 : iv.1 ≤ x.toInt) (b2 : x.toInt ≤ iv.2) : ∀ {l : List (Int × Int)} {j0 j : Nat}, xh_tlook l j0 dft N iv = some j → (j = dft ∧ Op.lookupswitch.offset l d x.toInt = d) ∨ ∃ i o, l[i]? = some o ∧ j = xx_g 16 N (j0 + i) ∧ Op.lookupswitch.offset l d x.toInt = o.2
  | [], j0, j, h => by
    cases h
    exact Or.inl ⟨rfl, rfl⟩
  | (a, o) :: l, j0, j, h => by
    unfold xh_tlook at h
    split at h
    · rename_i q
      have hne : ¬ x.toInt = a := by
        rcases Bool.or_eq_true_iff.mp q with q | q
        · have := of_decide_eq_true q
          have : iv.2 < a := this
          omega
        · have := of_decide_eq_true q
          have : a < iv.1 := this
          omega
      have e : Op.lookupswitch.offset ((a, o) :: l) d x.toInt = Op.lookupswitch.offset l d x.toInt := by
        rw [Op.lookupswitch.offset_cons, if_neg]
        intro z
        exact hne z.symm
      rcases xtlook_ok_w (d := d) b1 b2 h with ⟨h1, h2⟩ | ⟨i, p, h1, h2, h3⟩
      · exact Or.inl ⟨h1, by rw [e]; exact h2⟩
      · exact Or.inr ⟨i + 1, p, by rw [List.getElem?_cons_succ]; exact h1, by rw [h2, show j0 + 1 + i = j0 + (i + 1) by omega], by rw [e]; exact h3⟩
    · rename_i q
      split at h
      · rename_i q2
        cases h
        have hq2 := of_decide_eq_true q2
        have hx : x.toInt = a := by
          have q' : ¬ (iv.2 < a) ∧ ¬ (a < iv.1) := by
            rw [Bool.or_eq_true_iff, not_or] at q
            exact ⟨fun z => q.1 (decide_eq_true z), fun z => q.2 (decide_eq_true z)⟩
          omega
        refine Or.inr ⟨0, (a, o), rfl, rfl, ?_⟩
        rw [Op.lookupswitch.offset_cons, if_pos hx.symm]
      · cases h
theorem xlooks_ok_w {ents : List xE} {pc N : Nat} : ∀ {l : List (Int × Int)} {j : Nat}, xlooks ents pc N l j = true → ∀ i o, l[i]? = some o → xjmp ents pc o.2 (xx_g 16 N (j + i)) = true
  | [], _, _, i, o, h => by simp at h
  | a :: l, j, H, 0, o, h => by
    cases h
    exact (xan H).1
  | a :: l, j, H, i + 1, o, h => by
    rw [List.getElem?_cons_succ] at h
    have := xlooks_ok_w (xan H).2 i o h
    rw [show j + (i + 1) = j + 1 + i by omega]
    exact this
set_option maxHeartbeats 4000000 in
theorem xstep_ok_w (hcls : ∀ (ci : Nat) (q : vw_C), xcl[ci]? = some q → ∃ df, xCf_w ci q (xTY ci) df) (hJ : xJd_w) (hG : xGok_w g G) (hI : xIok_w g G ih) {M : xM} {d pc len : Nat} {ins : Instr} {a1 a2 a3 w : Nat} {nx ag : xN} {jp : Nat → xN} (hv : xvb M (pc, len, ins, a1, a2, a3, w) = true) (hn : xNok g M d (pc + len) nx) (hag : xNok g M d pc ag) (hj : ∀ (j : Nat) (t : xE), M.2.2.2.2.2.2.2[j]? = some t → xNok g M d t.1 (jp j)) :
    xNok g M d pc (xd_of G xNA M.2.2.2.2.1 M.2.2.2.2.2.1 M.2.2.2.1 (pc, len, ins, a1, a2, a3, w) nx jp ag (xh_call (xd_meths G xNA xMT) ih d M.2.2.2.2.1 M.2.2.2.2.2.1 nx)) := by
  obtain ⟨ho, hac, hmi, hmx, hmn⟩ := hJ
  cases hdead : Nat.beq w 999999 with
  | true =>
    unfold xd_of
    dsimp only
    rw [hdead]
    exact xnok_none_w (fun _ _ _ _ _ _ => rfl)
  | false =>
  unfold xvb at hv
  unfold xd_of
  dsimp only at hv ⊢
  rw [hdead, cond_false] at hv
  rw [hdead, cond_false]
  have hv1 := xan hv
  have hv2 := xan hv1.1
  have hd : decode M.2.1 pc = .ok (ins, len) := of_decide_eq_true hv2.1
  have hlen := hv2.2
  have hv3 := hv1.2
  have hjm : ∀ (off : Int) (j : Nat), xjmp M.2.2.2.2.2.2.2 pc off j = true → ∃ tgt : Nat, (pc : Int) + off = (tgt : Int) ∧ xNok g M d tgt (jp j) := by
    intro off j h
    obtain ⟨e, e1, e2⟩ := xjmp_ok_w h
    exact ⟨e.1, e2, hj j e e1⟩
  cases ins with
  | iconst n =>
    have el : len = 1 := Nat.eq_of_beq_eq_true hlen
    subst el
    show xNok g M d pc (xx_f (xx_n (Int32.ofInt n)) (fun v => xd_push (0, v)) nx jp ag (xh_call (xd_meths G xNA xMT) ih d M.2.2.2.2.1 M.2.2.2.2.2.1 nx))
    rw [xx_f_eq]
    exact xs_iconst (jp := jp) (ag := ag) (ca := xh_call (xd_meths G xNA xMT) ih d M.2.2.2.2.1 M.2.2.2.2.2.1 nx) hd hn
  | bipush n =>
    have el : len = 2 := Nat.eq_of_beq_eq_true hlen
    subst el
    show xNok g M d pc (xx_f (xx_n (Int8.ofInt n).toInt32) (fun v => xd_push (0, v)) nx jp ag (xh_call (xd_meths G xNA xMT) ih d M.2.2.2.2.1 M.2.2.2.2.2.1 nx))
    rw [xx_f_eq]
    exact xs_bipush (jp := jp) (ag := ag) (ca := xh_call (xd_meths G xNA xMT) ih d M.2.2.2.2.1 M.2.2.2.2.2.1 nx) hd hn
  | sipush n =>
    have el : len = 3 := Nat.eq_of_beq_eq_true hlen
    subst el
    show xNok g M d pc (xx_f (xx_n (Int16.ofInt n).toInt32) (fun v => xd_push (0, v)) nx jp ag (xh_call (xd_meths G xNA xMT) ih d M.2.2.2.2.1 M.2.2.2.2.2.1 nx))
    rw [xx_f_eq]
    exact xs_sipush (jp := jp) (ag := ag) (ca := xh_call (xd_meths G xNA xMT) ih d M.2.2.2.2.1 M.2.2.2.2.2.1 nx) hd hn
  | lconst n =>
    have el : len = 1 := Nat.eq_of_beq_eq_true hlen
    subst el
    show xNok g M d pc (xx_f n.val (fun v => xd_push (4, v)) nx jp ag (xh_call (xd_meths G xNA xMT) ih d M.2.2.2.2.1 M.2.2.2.2.2.1 nx))
    rw [xx_f_eq]
    exact xs_lconst (jp := jp) (ag := ag) (ca := xh_call (xd_meths G xNA xMT) ih d M.2.2.2.2.1 M.2.2.2.2.2.1 nx) hd hn
  | ldc i =>
    have el : len = 2 := Nat.eq_of_beq_eq_true hlen
    subst el
    have h0 : cond (Nat.beq a1 0) (xwd w (Cond.constant M.1.cls i (Int32.ofNat a2))) (xstr M.1.cls i a2) = true := hv3
    show xNok g M d pc (cond (Nat.beq a1 0) (xd_push (0, a2)) (xd_push (7, a2)) nx jp ag (xh_call (xd_meths G xNA xMT) ih d M.2.2.2.2.1 M.2.2.2.2.2.1 nx))
    cases hc : Nat.beq a1 0 with
    | true =>
      rw [hc] at h0
      exact xs_ldc (jp := jp) (ag := ag) (ca := xh_call (xd_meths G xNA xMT) ih d M.2.2.2.2.1 M.2.2.2.2.2.1 nx) hd (xwd_ok_w h0) hn
    | false =>
      rw [hc] at h0
      obtain ⟨tx, ht⟩ := xstr_ok_w h0
      exact xs_ldcS (jp := jp) (ag := ag) (ca := xh_call (xd_meths G xNA xMT) ih d M.2.2.2.2.1 M.2.2.2.2.2.1 nx) hd ht hn
  | ldc_w i =>
    have el : len = 3 := Nat.eq_of_beq_eq_true hlen
    subst el
    exact xs_ldcw (jp := jp) (ag := ag) (ca := xh_call (xd_meths G xNA xMT) ih d M.2.2.2.2.1 M.2.2.2.2.2.1 nx) hd (xwd_ok_w hv3) hn
  | ldc2_w i =>
    have el : len = 3 := Nat.eq_of_beq_eq_true hlen
    subst el
    exact xs_ldc2 (jp := jp) (ag := ag) (ca := xh_call (xd_meths G xNA xMT) ih d M.2.2.2.2.1 M.2.2.2.2.2.1 nx) hd (xwd_ok_w hv3) hn
  | iload i =>
    have el : len = 2 := Nat.eq_of_beq_eq_true hlen
    subst el
    exact xs_iload (jp := jp) (ag := ag) (ca := xh_call (xd_meths G xNA xMT) ih d M.2.2.2.2.1 M.2.2.2.2.2.1 nx) (Or.inl ⟨hd, rfl⟩) hn
  | iload_n i =>
    have el : len = 1 := Nat.eq_of_beq_eq_true hlen
    subst el
    show xNok g M d pc (xx_f i.val (fun j => xd_ld xc_i j) nx jp ag (xh_call (xd_meths G xNA xMT) ih d M.2.2.2.2.1 M.2.2.2.2.2.1 nx))
    rw [xx_f_eq]
    exact xs_iload (jp := jp) (ag := ag) (ca := xh_call (xd_meths G xNA xMT) ih d M.2.2.2.2.1 M.2.2.2.2.2.1 nx) (Or.inr ⟨i, hd, rfl, rfl⟩) hn
  | lload i =>
    have el : len = 2 := Nat.eq_of_beq_eq_true hlen
    subst el
    exact xs_lload (jp := jp) (ag := ag) (ca := xh_call (xd_meths G xNA xMT) ih d M.2.2.2.2.1 M.2.2.2.2.2.1 nx) (Or.inl ⟨hd, rfl⟩) hn
  | lload_n i =>
    have el : len = 1 := Nat.eq_of_beq_eq_true hlen
    subst el
    show xNok g M d pc (xx_f i.val (fun j => xd_ld xc_l j) nx jp ag (xh_call (xd_meths G xNA xMT) ih d M.2.2.2.2.1 M.2.2.2.2.2.1 nx))
    rw [xx_f_eq]
    exact xs_lload (jp := jp) (ag := ag) (ca := xh_call (xd_meths G xNA xMT) ih d M.2.2.2.2.1 M.2.2.2.2.2.1 nx) (Or.inr ⟨i, hd, rfl, rfl⟩) hn
  | aload i =>
    have el : len = 2 := Nat.eq_of_beq_eq_true hlen
    subst el
    exact xs_aload (jp := jp) (ag := ag) (ca := xh_call (xd_meths G xNA xMT) ih d M.2.2.2.2.1 M.2.2.2.2.2.1 nx) (Or.inl ⟨hd, rfl⟩) hn
  | aload_n i =>
    have el : len = 1 := Nat.eq_of_beq_eq_true hlen
    subst el
    show xNok g M d pc (xx_f i.val (fun j => xd_ld xc_r j) nx jp ag (xh_call (xd_meths G xNA xMT) ih d M.2.2.2.2.1 M.2.2.2.2.2.1 nx))
    rw [xx_f_eq]
    exact xs_aload (jp := jp) (ag := ag) (ca := xh_call (xd_meths G xNA xMT) ih d M.2.2.2.2.1 M.2.2.2.2.2.1 nx) (Or.inr ⟨i, hd, rfl, rfl⟩) hn
  | istore i =>
    have el : len = 2 := Nat.eq_of_beq_eq_true hlen
    subst el
    exact xs_istore (jp := jp) (ag := ag) (ca := xh_call (xd_meths G xNA xMT) ih d M.2.2.2.2.1 M.2.2.2.2.2.1 nx) (Or.inl ⟨hd, rfl⟩) hn
  | istore_n i =>
    have el : len = 1 := Nat.eq_of_beq_eq_true hlen
    subst el
    show xNok g M d pc (xx_f i.val (fun j => xd_st1 xc_i j) nx jp ag (xh_call (xd_meths G xNA xMT) ih d M.2.2.2.2.1 M.2.2.2.2.2.1 nx))
    rw [xx_f_eq]
    exact xs_istore (jp := jp) (ag := ag) (ca := xh_call (xd_meths G xNA xMT) ih d M.2.2.2.2.1 M.2.2.2.2.2.1 nx) (Or.inr ⟨i, hd, rfl, rfl⟩) hn
  | astore i =>
    have el : len = 2 := Nat.eq_of_beq_eq_true hlen
    subst el
    exact xs_astore (jp := jp) (ag := ag) (ca := xh_call (xd_meths G xNA xMT) ih d M.2.2.2.2.1 M.2.2.2.2.2.1 nx) (Or.inl ⟨hd, rfl⟩) hn
  | astore_n i =>
    have el : len = 1 := Nat.eq_of_beq_eq_true hlen
    subst el
    show xNok g M d pc (xx_f i.val (fun j => xd_st1 xc_r j) nx jp ag (xh_call (xd_meths G xNA xMT) ih d M.2.2.2.2.1 M.2.2.2.2.2.1 nx))
    rw [xx_f_eq]
    exact xs_astore (jp := jp) (ag := ag) (ca := xh_call (xd_meths G xNA xMT) ih d M.2.2.2.2.1 M.2.2.2.2.2.1 nx) (Or.inr ⟨i, hd, rfl, rfl⟩) hn
  | lstore i =>
    have el : len = 2 := Nat.eq_of_beq_eq_true hlen
    subst el
    exact xs_lstore (jp := jp) (ag := ag) (ca := xh_call (xd_meths G xNA xMT) ih d M.2.2.2.2.1 M.2.2.2.2.2.1 nx) (Or.inl ⟨hd, rfl⟩) hn
  | lstore_n i =>
    have el : len = 1 := Nat.eq_of_beq_eq_true hlen
    subst el
    show xNok g M d pc (xx_f i.val (fun j => xd_st2 j) nx jp ag (xh_call (xd_meths G xNA xMT) ih d M.2.2.2.2.1 M.2.2.2.2.2.1 nx))
    rw [xx_f_eq]
    exact xs_lstore (jp := jp) (ag := ag) (ca := xh_call (xd_meths G xNA xMT) ih d M.2.2.2.2.1 M.2.2.2.2.2.1 nx) (Or.inr ⟨i, hd, rfl, rfl⟩) hn
  | iinc i n =>
    have el : len = 3 := Nat.eq_of_beq_eq_true hlen
    subst el
    show xNok g M d pc (xx_f (xx_n (Int32.ofInt n)) (fun v => xd_inc i v) nx jp ag (xh_call (xd_meths G xNA xMT) ih d M.2.2.2.2.1 M.2.2.2.2.2.1 nx))
    rw [xx_f_eq]
    exact xs_iinc (jp := jp) (ag := ag) (ca := xh_call (xd_meths G xNA xMT) ih d M.2.2.2.2.1 M.2.2.2.2.2.1 nx) hd hn
  | iadd =>
    have el : len = 1 := Nat.eq_of_beq_eq_true hlen
    subst el
    exact xs_iadd (jp := jp) (ag := ag) (ca := xh_call (xd_meths G xNA xMT) ih d M.2.2.2.2.1 M.2.2.2.2.2.1 nx) hd hn
  | isub =>
    have el : len = 1 := Nat.eq_of_beq_eq_true hlen
    subst el
    exact xs_bin_any (jp := jp) (ag := ag) (ca := xh_call (xd_meths G xNA xMT) ih d M.2.2.2.2.1 M.2.2.2.2.2.1 nx) (F := fun x y => x - y) xn_sub_ok xgood_sub (fun p e R s m args below meth c Q H locs ls rest x y ce sl hx hb k => lv_isub hx hb hd k) hn
  | imul =>
    have el : len = 1 := Nat.eq_of_beq_eq_true hlen
    subst el
    exact xs_imul (jp := jp) (ag := ag) (ca := xh_call (xd_meths G xNA xMT) ih d M.2.2.2.2.1 M.2.2.2.2.2.1 nx) hd hn hag
  | iand =>
    have el : len = 1 := Nat.eq_of_beq_eq_true hlen
    subst el
    exact xs_iand_w (jp := jp) (ag := ag) (ca := xh_call (xd_meths G xNA xMT) ih d M.2.2.2.2.1 M.2.2.2.2.2.1 nx) hG hd hn
  | ior =>
    have el : len = 1 := Nat.eq_of_beq_eq_true hlen
    subst el
    exact xs_bin_any (jp := jp) (ag := ag) (ca := xh_call (xd_meths G xNA xMT) ih d M.2.2.2.2.1 M.2.2.2.2.2.1 nx) (F := fun x y => x ||| y) (xn_of_ok _) (xgood_any _) (fun p e R s m args below meth c Q H locs ls rest x y ce sl hx hb k => lv_ior hx hb hd k) hn
  | ixor =>
    have el : len = 1 := Nat.eq_of_beq_eq_true hlen
    subst el
    exact xs_bin_any (jp := jp) (ag := ag) (ca := xh_call (xd_meths G xNA xMT) ih d M.2.2.2.2.1 M.2.2.2.2.2.1 nx) (F := fun x y => x ^^^ y) (xn_of_ok _) (xgood_any _) (fun p e R s m args below meth c Q H locs ls rest x y ce sl hx hb k => lv_ixor hx hb hd k) hn
  | ishl =>
    have el : len = 1 := Nat.eq_of_beq_eq_true hlen
    subst el
    exact xs_bin_any (jp := jp) (ag := ag) (ca := xh_call (xd_meths G xNA xMT) ih d M.2.2.2.2.1 M.2.2.2.2.2.1 nx) (F := fun x y => x <<< (y &&& 31)) (xn_of_ok _) (xgood_any _) (fun p e R s m args below meth c Q H locs ls rest x y ce sl hx hb k => lv_ishl hx hb hd k) hn
  | ishr =>
    have el : len = 1 := Nat.eq_of_beq_eq_true hlen
    subst el
    exact xs_bin_any (jp := jp) (ag := ag) (ca := xh_call (xd_meths G xNA xMT) ih d M.2.2.2.2.1 M.2.2.2.2.2.1 nx) (F := fun x y => x >>> (y &&& 31)) (xn_of_ok _) (xgood_any _) (fun p e R s m args below meth c Q H locs ls rest x y ce sl hx hb k => lv_ishr hx hb hd k) hn
  | iushr =>
    have el : len = 1 := Nat.eq_of_beq_eq_true hlen
    subst el
    exact xs_bin_any (jp := jp) (ag := ag) (ca := xh_call (xd_meths G xNA xMT) ih d M.2.2.2.2.1 M.2.2.2.2.2.1 nx) (F := fun x y => (x.toUInt32 >>> (y.toUInt32 &&& Int32.toUInt32 31)).toInt32) (xn_of_ok _) (xgood_any _) (fun p e R s m args below meth c Q H locs ls rest x y ce sl hx hb k => lv_iushr hx hb hd rfl k) hn
  | idiv =>
    have el : len = 1 := Nat.eq_of_beq_eq_true hlen
    subst el
    exact xs_div (jp := jp) (ag := ag) (ca := xh_call (xd_meths G xNA xMT) ih d M.2.2.2.2.1 M.2.2.2.2.2.1 nx) (F := fun x y => x / y) (xn_of_ok _) (fun p e R s m args below meth c Q H locs ls rest x y ce sl hx hb h0 k => lv_idiv hx hb hd h0 k) hn
  | irem =>
    have el : len = 1 := Nat.eq_of_beq_eq_true hlen
    subst el
    exact xs_div (jp := jp) (ag := ag) (ca := xh_call (xd_meths G xNA xMT) ih d M.2.2.2.2.1 M.2.2.2.2.2.1 nx) (F := fun x y => x - x / y * y) (xn_of_ok _) (fun p e R s m args below meth c Q H locs ls rest x y ce sl hx hb h0 k => lv_irem hx hb hd h0 k) hn
  | ineg =>
    have el : len = 1 := Nat.eq_of_beq_eq_true hlen
    subst el
    exact xs_un (jp := jp) (ag := ag) (ca := xh_call (xd_meths G xNA xMT) ih d M.2.2.2.2.1 M.2.2.2.2.2.1 nx) (f := fun x => -x) (fun p e R s m args below meth c Q H locs ls rest x ce sl hx hb k => lv_ineg hx hb hd k) hn
  | i2b =>
    have el : len = 1 := Nat.eq_of_beq_eq_true hlen
    subst el
    exact xs_un (jp := jp) (ag := ag) (ca := xh_call (xd_meths G xNA xMT) ih d M.2.2.2.2.1 M.2.2.2.2.2.1 nx) (f := fun x => x.toInt8.toInt32) (fun p e R s m args below meth c Q H locs ls rest x ce sl hx hb k => lv_i2b hx hb hd rfl k) hn
  | i2c =>
    have el : len = 1 := Nat.eq_of_beq_eq_true hlen
    subst el
    exact xs_un (jp := jp) (ag := ag) (ca := xh_call (xd_meths G xNA xMT) ih d M.2.2.2.2.1 M.2.2.2.2.2.1 nx) (f := fun x => (x.toUInt32 % 65536).toInt32) (fun p e R s m args below meth c Q H locs ls rest x ce sl hx hb k => lv_i2c hx hb hd rfl k) hn
  | i2l =>
    have el : len = 1 := Nat.eq_of_beq_eq_true hlen
    subst el
    exact xs_i2l (jp := jp) (ag := ag) (ca := xh_call (xd_meths G xNA xMT) ih d M.2.2.2.2.1 M.2.2.2.2.2.1 nx) hd hn
  | l2i =>
    have el : len = 1 := Nat.eq_of_beq_eq_true hlen
    subst el
    exact xs_l2i (jp := jp) (ag := ag) (ca := xh_call (xd_meths G xNA xMT) ih d M.2.2.2.2.1 M.2.2.2.2.2.1 nx) hd hn
  | ladd =>
    have el : len = 1 := Nat.eq_of_beq_eq_true hlen
    subst el
    exact xs_lbin (jp := jp) (ag := ag) (ca := xh_call (xd_meths G xNA xMT) ih d M.2.2.2.2.1 M.2.2.2.2.2.1 nx) (f := fun x y => x + y) (fun p e R s m args below meth c Q H locs ls rest x y ce sl hx hb k => lv_ladd hx hb hd k) hn
  | lmul =>
    have el : len = 1 := Nat.eq_of_beq_eq_true hlen
    subst el
    exact xs_lbin (jp := jp) (ag := ag) (ca := xh_call (xd_meths G xNA xMT) ih d M.2.2.2.2.1 M.2.2.2.2.2.1 nx) (f := fun x y => x * y) (fun p e R s m args below meth c Q H locs ls rest x y ce sl hx hb k => lv_lmul hx hb hd k) hn
  | land =>
    have el : len = 1 := Nat.eq_of_beq_eq_true hlen
    subst el
    exact xs_lbin (jp := jp) (ag := ag) (ca := xh_call (xd_meths G xNA xMT) ih d M.2.2.2.2.1 M.2.2.2.2.2.1 nx) (f := fun x y => x &&& y) (fun p e R s m args below meth c Q H locs ls rest x y ce sl hx hb k => lv_land hx hb hd k) hn
  | lor =>
    have el : len = 1 := Nat.eq_of_beq_eq_true hlen
    subst el
    exact xs_lbin (jp := jp) (ag := ag) (ca := xh_call (xd_meths G xNA xMT) ih d M.2.2.2.2.1 M.2.2.2.2.2.1 nx) (f := fun x y => x ||| y) (fun p e R s m args below meth c Q H locs ls rest x y ce sl hx hb k => lv_lor hx hb hd k) hn
  | lshl =>
    have el : len = 1 := Nat.eq_of_beq_eq_true hlen
    subst el
    exact xs_lsh (jp := jp) (ag := ag) (ca := xh_call (xd_meths G xNA xMT) ih d M.2.2.2.2.1 M.2.2.2.2.2.1 nx) (f := fun x y => x <<< (y.toInt64 &&& 63)) (fun p e R s m args below meth c Q H locs ls rest x y ce sl hx hb k => lv_lshl hx hb hd rfl k) hn
  | lushr =>
    have el : len = 1 := Nat.eq_of_beq_eq_true hlen
    subst el
    exact xs_lsh (jp := jp) (ag := ag) (ca := xh_call (xd_meths G xNA xMT) ih d M.2.2.2.2.1 M.2.2.2.2.2.1 nx) (f := fun x y => (x.toUInt64 >>> (y.toInt64.toUInt64 &&& Int64.toUInt64 63)).toInt64) (fun p e R s m args below meth c Q H locs ls rest x y ce sl hx hb k => lv_lushr hx hb hd rfl k) hn
  | lcmp =>
    have el : len = 1 := Nat.eq_of_beq_eq_true hlen
    subst el
    exact xs_lcmp (jp := jp) (ag := ag) (ca := xh_call (xd_meths G xNA xMT) ih d M.2.2.2.2.1 M.2.2.2.2.2.1 nx) hd hn
  | dup =>
    have el : len = 1 := Nat.eq_of_beq_eq_true hlen
    subst el
    exact xs_dup (jp := jp) (ag := ag) (ca := xh_call (xd_meths G xNA xMT) ih d M.2.2.2.2.1 M.2.2.2.2.2.1 nx) hd hn
  | pop =>
    have el : len = 1 := Nat.eq_of_beq_eq_true hlen
    subst el
    exact xs_pop (jp := jp) (ag := ag) (ca := xh_call (xd_meths G xNA xMT) ih d M.2.2.2.2.1 M.2.2.2.2.2.1 nx) hd hn
  | dup2 =>
    have el : len = 1 := Nat.eq_of_beq_eq_true hlen
    subst el
    exact xs_dup2 (jp := jp) (ag := ag) (ca := xh_call (xd_meths G xNA xMT) ih d M.2.2.2.2.1 M.2.2.2.2.2.1 nx) hd hn
  | goto off =>
    have el : len = 3 := Nat.eq_of_beq_eq_true hlen
    subst el
    obtain ⟨tgt, t1, t2⟩ := hjm off a1 hv3
    exact xs_goto (nx := nx) (jp := jp) (ag := ag) (ca := xh_call (xd_meths G xNA xMT) ih d M.2.2.2.2.1 M.2.2.2.2.2.1 nx) hd t1 t2
  | ifCond cd off =>
    have el : len = 3 := Nat.eq_of_beq_eq_true hlen
    subst el
    obtain ⟨tgt, t1, t2⟩ := hjm off a1 hv3
    exact xs_if (jp := jp) (ag := ag) (ca := xh_call (xd_meths G xNA xMT) ih d M.2.2.2.2.1 M.2.2.2.2.2.1 nx) hd t1 t2 hn
  | if_icmp cd off =>
    have el : len = 3 := Nat.eq_of_beq_eq_true hlen
    subst el
    obtain ⟨tgt, t1, t2⟩ := hjm off a1 hv3
    exact xs_icmp (jp := jp) (ag := ag) (ca := xh_call (xd_meths G xNA xMT) ih d M.2.2.2.2.1 M.2.2.2.2.2.1 nx) hd t1 t2 hn
  | tableswitch dflt lo hi offs =>
    have h0 := xan (show and (xjmp M.2.2.2.2.2.2.2 pc dflt a1) (and (decide (hi - lo + 1 = (offs.toList.length : Int))) (xtabs M.2.2.2.2.2.2.2 pc a2 offs.toList 0)) = true from hv3)
    have h1 := xan h0.2
    have hsz : hi - lo + 1 = (offs.toList.length : Int) := of_decide_eq_true h1.1
    show xNok g M d pc (xd_sw (xh_num lo (hi - lo + 1).toNat) (xh_ttab lo hi a1 a2) nx jp ag (xh_call (xd_meths G xNA xMT) ih d M.2.2.2.2.1 M.2.2.2.2.2.1 nx))
    refine xs_sw (nx := nx) (ag := ag) (ca := xh_call (xd_meths G xNA xMT) ih d M.2.2.2.2.1 M.2.2.2.2.2.1 nx) (fun iv j x ht b1 b2 => ?_)
    unfold xh_ttab at ht
    split at ht
    · rename_i q
      cases ht
      obtain ⟨tgt, t1, t2⟩ := hjm dflt a1 h0.1
      refine ⟨tgt, t2, fun p e R s m args below meth c Q H locs ls rest ce sl hx hb k => lv_tableOut hx hb hd ?_ t1 k⟩
      rcases Bool.or_eq_true_iff.mp q with q | q
      · have := of_decide_eq_true q
        exact Or.inl (by omega)
      · have := of_decide_eq_true q
        exact Or.inr (by omega)
    · rename_i q
      rw [Bool.or_eq_true_iff, not_or] at q
      have q1 : ¬ iv.2 < lo := fun z => q.1 (decide_eq_true z)
      have q2 : ¬ hi < iv.1 := fun z => q.2 (decide_eq_true z)
      split at ht
      · rename_i q3
        cases ht
        have hq3 := of_decide_eq_true q3
        have hx : x.toInt = iv.1 := by omega
        have hlt : (iv.1 - lo).toNat < offs.toList.length := by omega
        have hget : offs.toList[(iv.1 - lo).toNat]? = some offs.toList[(iv.1 - lo).toNat] := List.getElem?_eq_getElem hlt
        have hj2 := xtabs_ok_w h1.2 _ _ hget
        rw [Nat.zero_add] at hj2
        obtain ⟨tgt, t1, t2⟩ := hjm _ _ hj2
        refine ⟨tgt, t2, fun p e R s m args below meth c Q H locs ls rest ce sl hx' hb k => lv_tableIn hx' hb hd (by omega) (by omega) ?_ t1 k⟩
        rw [hx, ← Array.getElem?_toList]
        exact hget
      · cases ht
  | lookupswitch dflt ps =>
    have h0 := xan (show and (xjmp M.2.2.2.2.2.2.2 pc dflt a1) (and ((ps.toList.zip (ps.toList.drop 1)).all (fun (a, next) => a.1 < next.1)) (xlooks M.2.2.2.2.2.2.2 pc a2 ps.toList 0)) = true from hv3)
    have h1 := xan h0.2
    show xNok g M d pc (xd_sw (ps.toList.map Prod.fst) (xh_tlook ps.toList 0 a1 a2) nx jp ag (xh_call (xd_meths G xNA xMT) ih d M.2.2.2.2.1 M.2.2.2.2.2.1 nx))
    refine xs_sw (nx := nx) (ag := ag) (ca := xh_call (xd_meths G xNA xMT) ih d M.2.2.2.2.1 M.2.2.2.2.2.1 nx) (fun iv j x ht b1 b2 => ?_)
    rcases xtlook_ok_w (d := dflt) b1 b2 ht with ⟨rfl, h2⟩ | ⟨i, o, h2, h3, h4⟩
    · obtain ⟨tgt, t1, t2⟩ := hjm dflt j h0.1
      exact ⟨tgt, t2, fun p e R s m args below meth c Q H locs ls rest ce sl hx hb k => lv_lookup hx hb hd h1.1 h2 t1 k⟩
    · have hj2 := xlooks_ok_w h1.2 _ _ h2
      obtain ⟨tgt, t1, t2⟩ := hjm _ _ hj2
      rw [← h3] at t2
      exact ⟨tgt, t2, fun p e R s m args below meth c Q H locs ls rest ce sl hx hb k => lv_lookup hx hb hd h1.1 h4 t1 k⟩
  | getfield i =>
    have el : len = 3 := Nat.eq_of_beq_eq_true hlen
    subst el
    have h0 : (match xk_at xcl a1 with
      | some q => and (Nat.ble (Nat.succ a2) q.2.2) (cond (Nat.ble 100000 w) (xnst (Nat.sub w 100000) (Cond.fieldLinkNest M.1.cls i (q.2.1 a2).1 (q.2.1 a2).2.1 (q.2.1 a2).2.2.1 "GridLaws")) (xwd w (Cond.fieldLink M.1.cls i (q.2.1 a2).1 (q.2.1 a2).2.1 (q.2.1 a2).2.2.1)))
      | none => and (Nat.beq a1 1000) (cond (Nat.beq a2 0) (xwd w (Cond.fieldLink M.1.cls i "java/lang/String" "coder" "B")) (and (Nat.beq a2 1) (xwd w (Cond.fieldLink M.1.cls i "java/lang/String" "value" "[B"))))) = true := hv3
    rw [xk_at_eq] at h0
    show xNok g M d pc (xd_get G a1 a2 nx jp ag (xh_call (xd_meths G xNA xMT) ih d M.2.2.2.2.1 M.2.2.2.2.2.1 nx))
    cases hc : xcl[a1]? with
    | some q =>
      rw [hc] at h0
      obtain ⟨df, hcf⟩ := hcls a1 q hc
      have h1 := xan h0
      have h1000 : Nat.beq a1 1000 = false := by
        cases hz : Nat.beq a1 1000 with
        | false => rfl
        | true =>
          rw [Nat.eq_of_beq_eq_true hz, xcl_1000] at hc
          cases hc
      refine xs_get (jp := jp) (ag := ag) (ca := xh_call (xd_meths G xNA xMT) ih d M.2.2.2.2.1 M.2.2.2.2.2.1 nx) (C := q.1) (T := q.2.1) (N := q.2.2) hG.2.1 hd hc hcf.1 (Nat.le_of_ble_eq_true h1.1) ?_ h1000 hn
      have h2 := h1.2
      cases hw : Nat.ble 100000 w with
      | true =>
        rw [hw, cond_true] at h2
        generalize Nat.sub w 100000 = jw at h2
        exact Or.inr ⟨"GridLaws", xnst_ok_w h2⟩
      | false =>
        rw [hw] at h2
        exact Or.inl (xwd_ok_w h2)
    | none =>
      rw [hc] at h0
      have h1 := xan h0
      have e1 : a1 = 1000 := Nat.eq_of_beq_eq_true h1.1
      subst e1
      refine xs_getS (jp := jp) (ag := ag) (ca := xh_call (xd_meths G xNA xMT) ih d M.2.2.2.2.1 M.2.2.2.2.2.1 nx) hG.2.1 hd ?_ (fun o ho => by rw [Nat.eq_of_beq_eq_true ho]; exact xcl_1000) hn
      have h2 := h1.2
      cases hw : Nat.beq a2 0 with
      | true =>
        rw [hw] at h2
        exact Or.inl ⟨Nat.eq_of_beq_eq_true hw, xwd_ok_w h2⟩
      | false =>
        rw [hw] at h2
        have h3 := xan h2
        exact Or.inr ⟨Nat.eq_of_beq_eq_true h3.1, xwd_ok_w h3.2⟩
  | putfield i =>
    have el : len = 3 := Nat.eq_of_beq_eq_true hlen
    subst el
    have h0 : (match xk_at xcl a1 with
      | some q => and (Nat.ble (Nat.succ a2) q.2.2) (and (xwd w (Cond.fieldLink M.1.cls i (q.2.1 a2).1 (q.2.1 a2).2.1 (q.2.1 a2).2.2.1)) (and (Nat.beq a3 (xh_tc (xTY a1 a2))) (cond (q.2.1 a2).2.2.2 (and (decide (M.1.name = "<init>")) (decide ((q.2.1 a2).1 = M.1.cls))) true)))
      | none => false) = true := hv3
    rw [xk_at_eq] at h0
    show xNok g M d pc (xd_putf a1 a2 a3 nx jp ag (xh_call (xd_meths G xNA xMT) ih d M.2.2.2.2.1 M.2.2.2.2.2.1 nx))
    cases hc : xcl[a1]? with
    | none => rw [hc] at h0; cases h0
    | some q =>
      rw [hc] at h0
      obtain ⟨df, hcf⟩ := hcls a1 q hc
      have h1 := xan h0
      have h2 := xan h1.2
      have h3 := xan h2.2
      refine xs_putf (jp := jp) (ag := ag) (ca := xh_call (xd_meths G xNA xMT) ih d M.2.2.2.2.1 M.2.2.2.2.2.1 nx) (C := q.1) (T := q.2.1) (N := q.2.2) (ty0 := xTY a1) hd hc hcf.1 hcf.2.1 hcf.2.2.1 (Nat.le_of_ble_eq_true h1.1) (xwd_ok_w h2.1) (Nat.eq_of_beq_eq_true h3.1) ?_ hn
      have h4 := h3.2
      cases hf : (q.2.1 a2).2.2.2 with
      | false => exact Or.inl rfl
      | true =>
        rw [hf] at h4
        have h5 := xan h4
        exact Or.inr ⟨rfl, of_decide_eq_true h5.1, of_decide_eq_true h5.2⟩
  | getstatic i =>
    have el : len = 3 := Nat.eq_of_beq_eq_true hlen
    subst el
    have h0 : cond (Nat.beq a1 0) (and (Nat.beq a2 1) (xwd w (Cond.fieldLink M.1.cls i "java/lang/String" "COMPACT_STRINGS" "Z"))) (xwd w (Cond.fieldLink M.1.cls i "jdk/internal/util/Preconditions" "SIOOBE_FORMATTER" "Ljava/util/function/BiFunction;")) = true := hv3
    show xNok g M d pc (cond (Nat.beq a1 0) (xd_push (0, a2)) (xd_push (10, 0)) nx jp ag (xh_call (xd_meths G xNA xMT) ih d M.2.2.2.2.1 M.2.2.2.2.2.1 nx))
    cases hc : Nat.beq a1 0 with
    | true =>
      rw [hc] at h0
      have h1 := xan h0
      have e1 : a2 = 1 := Nat.eq_of_beq_eq_true h1.1
      subst e1
      exact xs_gets0 (jp := jp) (ag := ag) (ca := xh_call (xd_meths G xNA xMT) ih d M.2.2.2.2.1 M.2.2.2.2.2.1 nx) hd (xwd_ok_w h1.2) hn
    | false =>
      rw [hc] at h0
      exact xs_gets1 (jp := jp) (ag := ag) (ca := xh_call (xd_meths G xNA xMT) ih d M.2.2.2.2.1 M.2.2.2.2.2.1 nx) hd (xwd_ok_w h0) hn
  | iaload =>
    have el : len = 1 := Nat.eq_of_beq_eq_true hlen
    subst el
    exact xs_ald_w (jp := jp) (ag := ag) (ca := xh_call (xd_meths G xNA xMT) ih d M.2.2.2.2.1 M.2.2.2.2.2.1 nx) hG (Or.inl ⟨rfl, hd⟩) hn hag
  | baload =>
    have el : len = 1 := Nat.eq_of_beq_eq_true hlen
    subst el
    exact xs_ald_w (jp := jp) (ag := ag) (ca := xh_call (xd_meths G xNA xMT) ih d M.2.2.2.2.1 M.2.2.2.2.2.1 nx) hG (Or.inr ⟨rfl, hd⟩) hn hag
  | iastore =>
    have el : len = 1 := Nat.eq_of_beq_eq_true hlen
    subst el
    exact xs_ast_w (jp := jp) (ag := ag) (ca := xh_call (xd_meths G xNA xMT) ih d M.2.2.2.2.1 M.2.2.2.2.2.1 nx) (Or.inl ⟨rfl, hd⟩) hn hag
  | bastore =>
    have el : len = 1 := Nat.eq_of_beq_eq_true hlen
    subst el
    exact xs_ast_w (jp := jp) (ag := ag) (ca := xh_call (xd_meths G xNA xMT) ih d M.2.2.2.2.1 M.2.2.2.2.2.1 nx) (Or.inr ⟨rfl, hd⟩) hn hag
  | laload =>
    have el : len = 1 := Nat.eq_of_beq_eq_true hlen
    subst el
    exact xs_lald_w (jp := jp) (ag := ag) (ca := xh_call (xd_meths G xNA xMT) ih d M.2.2.2.2.1 M.2.2.2.2.2.1 nx) hd hn
  | lastore =>
    have el : len = 1 := Nat.eq_of_beq_eq_true hlen
    subst el
    exact xs_last_w (jp := jp) (ag := ag) (ca := xh_call (xd_meths G xNA xMT) ih d M.2.2.2.2.1 M.2.2.2.2.2.1 nx) hd hn
  | arraylength =>
    have el : len = 1 := Nat.eq_of_beq_eq_true hlen
    subst el
    exact xs_alen_w (jp := jp) (ag := ag) (ca := xh_call (xd_meths G xNA xMT) ih d M.2.2.2.2.1 M.2.2.2.2.2.1 nx) hG hd hn
  | newarray t =>
    have el : len = 2 := Nat.eq_of_beq_eq_true hlen
    subst el
    exact xs_newa_w (jp := jp) (ag := ag) (ca := xh_call (xd_meths G xNA xMT) ih d M.2.2.2.2.1 M.2.2.2.2.2.1 nx) hd (xwd_ok_w hv3) hn
  | new i =>
    have el : len = 3 := Nat.eq_of_beq_eq_true hlen
    subst el
    have h0 : (match xk_at xcl a1 with
      | some q => xwd w (Cond.classLink M.1.cls i q.1)
      | none => false) = true := hv3
    rw [xk_at_eq] at h0
    cases hc : xcl[a1]? with
    | none => rw [hc] at h0; cases h0
    | some q =>
      rw [hc] at h0
      obtain ⟨df, c1, c2, c3, c4, c5, c6, c7, c8, c9⟩ := hcls a1 q hc
      exact xs_new_w (jp := jp) (ag := ag) (ca := xh_call (xd_meths G xNA xMT) ih d M.2.2.2.2.1 M.2.2.2.2.2.1 nx) (C := q.1) (T := q.2.1) (N := q.2.2) (ty0 := xTY a1) hG hd hc c1 c2 c4 c5 c6 c7 (xwd_ok_w h0) c8 c9 hn
  | invokevirtual i =>
    have el : len = 3 := Nat.eq_of_beq_eq_true hlen
    subst el
    obtain ⟨N, q, n1, n2, n3, n4, n5⟩ := xinv_ok_w hv3
    have k1 := xan n5
    have k2 := xan k1.2
    have k3 := xan k2.2
    show xNok g M d pc ((match xk_at xNA a1 with
      | none => xd_none
      | some n => xd_virt G n a1 a3) nx jp ag (xh_call (xd_meths G xNA xMT) ih d M.2.2.2.2.1 M.2.2.2.2.2.1 nx))
    rw [n3]
    refine xs_virt_w (jp := jp) (ag := ag) hG hI hd n1 n2 n4 (xlnk_ok_w k1.1) (xwd_ok_w k2.1) (xwd_ok_w k3.1) ?_ hn
    have k4 := k3.2
    rw [xk_at_eq] at k4
    cases hc : xcl[a3]? with
    | some q =>
      rw [hc] at k4
      exact Or.inl ⟨q, rfl, of_decide_eq_true k4⟩
    | none =>
      rw [hc] at k4
      have k5 := xan k4
      exact Or.inr ⟨Nat.eq_of_beq_eq_true k5.1, of_decide_eq_true k5.2, xcl_1000⟩
  | invokespecial i =>
    have el : len = 3 := Nat.eq_of_beq_eq_true hlen
    subst el
    have h0 : cond (Nat.beq a2 2) (xwd w (Cond.methodLink M.1.cls i objectInit)) (xinv a1 fun N q => and (xlnk M.1.cls i a2 w N.1) (and (xwd q.2.1 (Cond.instanceMethod N.1)) (and (decide (N.1.name = "<init>")) (decide (N.2.2.2.1 = none))))) = true := hv3
    show xNok g M d pc (cond (Nat.beq a2 2) xd_obj (match xk_at xNA a1 with
      | none => xd_none
      | some n => xd_init n a1) nx jp ag (xh_call (xd_meths G xNA xMT) ih d M.2.2.2.2.1 M.2.2.2.2.2.1 nx))
    cases hc : Nat.beq a2 2 with
    | true =>
      rw [hc] at h0
      exact xs_obj_w (jp := jp) (ag := ag) (ca := xh_call (xd_meths G xNA xMT) ih d M.2.2.2.2.1 M.2.2.2.2.2.1 nx) hd (xwd_ok_w h0) ho.1 ho.2 hn
    | false =>
      rw [hc] at h0
      obtain ⟨N, q, n1, n2, n3, n4, n5⟩ := xinv_ok_w h0
      have k1 := xan n5
      have k2 := xan k1.2
      have k3 := xan k2.2
      rw [n3]
      exact xs_init_w (jp := jp) (ag := ag) hI hd n1 n2 n4 (xlnk_ok_w k1.1) (xwd_ok_w k2.1) (of_decide_eq_true k3.1) (of_decide_eq_true k3.2) hn
  | invokestatic i =>
    have el : len = 3 := Nat.eq_of_beq_eq_true hlen
    subst el
    have h0 : cond (Nat.beq a2 3) (xwd w (Cond.methodLink M.1.cls i arraycopyName)) (cond (Nat.beq a2 4) (xwd w (Cond.methodLink M.1.cls i Lib.Math.max.name)) (cond (Nat.beq a2 5) (xwd w (Cond.methodLink M.1.cls i Lib.Math.min.name)) (xinv a1 fun N q => and (xlnk M.1.cls i a2 w N.1) (xwd q.2.1 (Cond.static N.1))))) = true := hv3
    show xNok g M d pc (cond (Nat.beq a2 3) xd_copy (cond (Nat.beq a2 4) (xd_mm M.2.2.2.2.1 M.2.2.2.2.2.1 xf_max) (cond (Nat.beq a2 5) (xd_mm M.2.2.2.2.1 M.2.2.2.2.2.1 xf_min) (match xk_at xNA a1 with
      | none => xd_none
      | some n => xd_stat n a1))) nx jp ag (xh_call (xd_meths G xNA xMT) ih d M.2.2.2.2.1 M.2.2.2.2.2.1 nx))
    cases hc : Nat.beq a2 3 with
    | true =>
      rw [hc] at h0
      exact xs_copy_w (jp := jp) (ag := ag) (ca := xh_call (xd_meths G xNA xMT) ih d M.2.2.2.2.1 M.2.2.2.2.2.1 nx) hd (xwd_ok_w h0) hac.1 hac.2.1 hac.2.2 hn
    | false =>
      rw [hc, cond_false] at h0
      rw [cond_false]
      cases hc4 : Nat.beq a2 4 with
      | true =>
        rw [hc4] at h0
        exact xs_max_w (jp := jp) (ag := ag) (ca := xh_call (xd_meths G xNA xMT) ih d M.2.2.2.2.1 M.2.2.2.2.2.1 nx) hd (xwd_ok_w h0) hmx.1 hmi hmx.2 hn
      | false =>
        rw [hc4, cond_false] at h0
        rw [cond_false]
        cases hc5 : Nat.beq a2 5 with
        | true =>
          rw [hc5] at h0
          exact xs_min_w (jp := jp) (ag := ag) (ca := xh_call (xd_meths G xNA xMT) ih d M.2.2.2.2.1 M.2.2.2.2.2.1 nx) hd (xwd_ok_w h0) hmn.1 hmi hmn.2 hn
        | false =>
          rw [hc5] at h0
          obtain ⟨N, q, n1, n2, n3, n4, n5⟩ := xinv_ok_w h0
          have k1 := xan n5
          rw [n3]
          exact xs_stat_w (jp := jp) (ag := ag) hI hd n1 n2 n4 (xlnk_ok_w k1.1) (xwd_ok_w k1.2) hn
  | ireturn =>
    have el : len = 1 := Nat.eq_of_beq_eq_true hlen
    subst el
    exact xs_iret_w (nx := nx) (jp := jp) (ag := ag) (ca := xh_call (xd_meths G xNA xMT) ih d M.2.2.2.2.1 M.2.2.2.2.2.1 nx) hd
  | lreturn =>
    have el : len = 1 := Nat.eq_of_beq_eq_true hlen
    subst el
    exact xs_lret_w (nx := nx) (jp := jp) (ag := ag) (ca := xh_call (xd_meths G xNA xMT) ih d M.2.2.2.2.1 M.2.2.2.2.2.1 nx) hd
  | return_ =>
    have el : len = 1 := Nat.eq_of_beq_eq_true hlen
    subst el
    exact xs_vret_w (nx := nx) (jp := jp) (ag := ag) (ca := xh_call (xd_meths G xNA xMT) ih d M.2.2.2.2.1 M.2.2.2.2.2.1 nx) hd
  | _ => exact xnok_none_w (fun _ _ _ _ _ _ => rfl)
theorem xrun_ok_w (hcls : ∀ (ci : Nat) (q : vw_C), xcl[ci]? = some q → ∃ df, xCf_w ci q (xTY ci) df) (hJ : xJd_w) (hMT : ∀ M ∈ xMT, xmvb M = true) (hG : xGok_w g G) : ∀ fuel, xIok_w g G (xh_run (xd_meths G xNA xMT) fuel)
  | 0 => fun _ _ _ _ _ _ _ _ => xnok_none_w (fun _ _ _ _ _ _ => rfl)
  | n + 1 => by
    have hI := xrun_ok_w hcls hJ hMT hG n
    intro N hN pre suf hsuf pc hpc d
    cases suf with
    | nil => exact xnok_none_w (fun _ _ _ _ _ _ => rfl)
    | cons e r =>
      have hm := xan (hMT N hN)
      have he : xvb N e = true := xallb_ok_w hm.2 e (by rw [hsuf]; exact List.mem_append_right _ List.mem_cons_self)
      have hpe : e.1 = pc := hpc e r rfl
      have hn : xNok g N d (e.1 + e.2.1) (xh_run (xd_meths G xNA xMT) n d N.2.2.2.2.1 N.2.2.2.2.2.1 (xrows_w G N N.2.2.2.2.2.2.2) (xrows_w G N r)) := by
        refine hI N hN (pre ++ [e]) r (by rw [hsuf]; simp) _ (fun f t hf => ?_) d
        have hch := hm.1
        rw [hsuf, hf] at hch
        exact xchain_ok_w hch
      have hag := hI N hN pre (e :: r) hsuf pc hpc d
      have hj : ∀ (j : Nat) (t : xE), N.2.2.2.2.2.2.2[j]? = some t → xNok g N d t.1 ((fun j => xh_run (xd_meths G xNA xMT) n d N.2.2.2.2.1 N.2.2.2.2.2.1 (xrows_w G N N.2.2.2.2.2.2.2) (xk_drop j (xrows_w G N N.2.2.2.2.2.2.2))) j) := by
        intro j t ht
        have e1 : xk_drop j (xrows_w G N N.2.2.2.2.2.2.2) = xrows_w G N (N.2.2.2.2.2.2.2.drop j) := by rw [xk_drop_eq, xd_rows_drop_w]
        show xNok g N d t.1 (xh_run (xd_meths G xNA xMT) n d N.2.2.2.2.1 N.2.2.2.2.2.1 (xrows_w G N N.2.2.2.2.2.2.2) (xk_drop j (xrows_w G N N.2.2.2.2.2.2.2)))
        rw [e1]
        refine hI N hN (N.2.2.2.2.2.2.2.take j) _ (List.take_append_drop j _).symm t.1 (fun q r' hq => ?_) d
        have h1 : (N.2.2.2.2.2.2.2.drop j)[0]? = some t := by rw [List.getElem?_drop, Nat.add_zero]; exact ht
        rw [hq] at h1
        cases h1
        rfl
      rw [← hpe] at hag ⊢
      obtain ⟨pc', len, ins, a1, a2, a3, w⟩ := e
      exact xstep_ok_w hcls hJ hG hI he hn hag hj
end XZ
