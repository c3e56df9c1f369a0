/-! a row made ready; every row is right -/
noncomputable def zd_of (C : zCf) (md : zM) (nt : Nat) (BY : List (List Int32)) (ret : Option FieldType) (e : xE) : zD := match e with
  | (_, _, ins, a1, a2, a3, w) => cond (Nat.beq w 999999) zd_none (match ins with
    | .iconst n => zf (Int32.ofInt n).toInt fun v => zd_push (0, 0, v)
    | .bipush n => zf (Int8.ofInt n).toInt32.toInt fun v => zd_push (0, 0, v)
    | .sipush n => zf (Int16.ofInt n).toInt32.toInt fun v => zd_push (0, 0, v)
    | .lconst n => zf (Int64.ofNat n.val).toInt fun v => zd_push (4, 0, v)
    | .ldc _ => cond (Nat.beq a1 0) (zf (Int32.ofNat a2).toInt fun v => zd_push (0, 0, v)) (zd_push (7, a2, 0))
    | .ldc_w _ => zf (Int32.ofNat a2).toInt fun v => zd_push (0, 0, v)
    | .ldc2_w _ => zf (Int64.ofNat a2).toInt fun v => zd_push (4, 0, v)
    | .iload i => zd_ld zc_i i
    | .iload_n i => xx_f i.val fun j => zd_ld zc_i j
    | .lload i => zd_ld zc_l i
    | .lload_n i => xx_f i.val fun j => zd_ld zc_l j
    | .aload i => zd_ld zc_r i
    | .aload_n i => xx_f i.val fun j => zd_ld zc_r j
    | .istore i => zd_st1 zc_i i
    | .istore_n i => xx_f i.val fun j => zd_st1 zc_i j
    | .astore i => zd_st1 zc_r i
    | .astore_n i => xx_f i.val fun j => zd_st1 zc_r j
    | .lstore i => zd_st2 i
    | .lstore_n i => xx_f i.val fun j => zd_st2 j
    | .iinc i n => zf (Int32.ofInt n).toInt fun v => zd_inc i v
    | .iadd => zd_bin zadd
    | .isub => zd_bin zsubt
    | .imul => zd_bin (zbin zg_mul)
    | .iand => zd_and
    | .ior => zd_bin (zbin zg_or)
    | .ixor => zd_bin (zbin zg_xor)
    | .ishl => zd_bin (zbin zg_shl)
    | .ishr => zd_bin (zbin zg_any)
    | .iushr => zd_bin (zbin zg_ushr)
    | .idiv => zd_div (zbin zg_any)
    | .irem => zd_div (zbin zg_rem)
    | .ineg => zd_un zu_neg
    | .i2b => zd_un zu_i2b
    | .i2c => zd_un zu_i2c
    | .i2l => zd_i2l
    | .l2i => zd_l2i
    | .ladd => zd_lbin zl_add
    | .lmul => zd_lbin zl_mul
    | .land => zd_lbin zl_and
    | .lor => zd_lbin zl_none
    | .lshl => zd_lsh zl_none
    | .lushr => zd_lsh zl_ushr
    | .lcmp => zd_lcmp
    | .dup => zd_dup
    | .pop => zd_pop
    | .dup2 => zd_dup2
    | .goto _ => zd_goto a1
    | .ifCond c _ => zd_if c a1
    | .if_icmp c _ => zd_icmp c a1
    | .tableswitch _ lo hi _ => zd_sw (xh_num lo (hi - lo + 1).toNat) (xh_ttab lo hi a1 a2)
    | .lookupswitch _ ps => zd_sw (ps.toList.map Prod.fst) (xh_tlook ps.toList 0 a1 a2)
    | .getfield _ => zd_get C.1 nt a1 a2
    | .putfield _ => zd_put C md a1 a2 a3
    | .getstatic _ => cond (Nat.beq a1 0) (zd_push (0, 0, 1)) zd_none
    | .iaload => zd_ald C.1 BY 0
    | .baload => zd_ald C.1 BY 1
    | .laload => zd_ald C.1 BY 2
    | .iastore => zd_ast C md 0
    | .bastore => zd_ast C md 1
    | .lastore => zd_ast C md 2
    | .arraylength => zd_alen C.1 BY
    | .invokevirtual _ => (match xk_at xMT a1 with
      | none => zd_none
      | some N => cond (and (Nat.beq N.2.2.2.2.1 0) (Nat.beq N.2.2.2.2.2.1 0)) (zd_virt C nt N.2.2.2.2.2.2.1 a1 a3) zd_none)
    | .invokestatic _ => cond (Nat.beq a2 3) (zd_copy C md) (cond (Nat.beq a2 4) (zd_mm zg_max) (cond (Nat.beq a2 5) (zd_mm zg_min) (match xk_at xMT a1 with
      | none => zd_none
      | some N => cond (and (Nat.beq N.2.2.2.2.1 0) (Nat.beq N.2.2.2.2.2.1 0)) (zd_stat N.2.2.2.2.2.2.1 a1) zd_none)))
    | .ireturn => (match ret with
      | none => zd_none
      | some ty => xx_f (xh_tc ty) zd_iret)
    | .lreturn => (match ret with
      | some .long => zd_ret 1
      | _ => zd_none)
    | .return_ => (match ret with
      | none => zd_vret
      | some _ => zd_none)
    | _ => zd_none)
theorem znok_none {E : zEn} {M : xM} {d pc : Nat} {k : zN} (h : ∀ rt lv st h sy, k rt lv st h sy = false) : zNok E M d pc k := by
  intro rt lv st h' sy hk
  rw [h] at hk
  cases hk
set_option maxHeartbeats 4000000 in
theorem zstep_ok {E : zEn} (hcls : ∀ (ci : Nat) (q : vw_C), xcl[ci]? = some q → ∃ df, xCf ci q (xTY ci) df) (hJd : xJd) (hJo : zJok E.1 E.2.1.2 E.2.2.2.2.1) (hSP : E.2.1.1.length ≤ 83) (hno : ∀ (k : Nat) (o : Nat × List zT), zsp E.2.1.1 k = some (.inl o) → Nat.beq o.1 1000 = false) {nt : Nat} {BY : List (List Int32)} (hnt : nt = xBY.length) (hBY : BY = xBY) {M : xM} {d pc len : Nat} {ins : Instr} {a1 a2 a3 w : Nat} (hinit : M.1.name ≠ "<init>") (hv : xvb M (pc, len, ins, a1, a2, a3, w) = true) : zHok E M d (pc, len, ins, a1, a2, a3, w) (zd_of E.2.1 E.2.2.2.1.1 nt BY M.2.2.2.1 (pc, len, ins, a1, a2, a3, w)) := by
  intro nx jp ag ca hn hj hag hca
  obtain ⟨ho, hac, hmi, hmx, hmn⟩ := hJd
  cases hdead : Nat.beq w 999999 with
  | true =>
    unfold zd_of
    dsimp only
    rw [hdead]
    exact znok_none (fun _ _ _ _ _ => rfl)
  | false =>
  unfold xvb at hv
  unfold zd_of
  dsimp only at hv hn hag ⊢
  rw [hdead, cond_false] at hv
  rw [hdead, cond_false]
  have hv1 := xan hv
  have hv2 := xan hv1.1
  have hd : decode M.2.1 pc = .ok (ins, len) := of_decide_eq_true hv2.1
  have hlen := hv2.2
  have hv3 := hv1.2
  have hjm : ∀ (off : Int) (j : Nat), xjmp M.2.2.2.2.2.2.2 pc off j = true → ∃ tgt : Nat, (pc : Int) + off = (tgt : Int) ∧ zNok E M d tgt (jp j) := by
    intro off j h
    obtain ⟨e, e1, e2⟩ := xjmp_ok h
    exact ⟨e.1, e2, hj j e e1⟩
  cases ins with
  | iconst n =>
    have el : len = 1 := Nat.eq_of_beq_eq_true hlen
    subst el
    show zNok E M d pc (zf (Int32.ofInt n).toInt (fun v => zd_push (0, 0, v)) nx jp ag ca)
    rw [zf_eq]
    exact zs_iconst (jp := jp) (ag := ag) (ca := ca) hd rfl hn
  | bipush n =>
    have el : len = 2 := Nat.eq_of_beq_eq_true hlen
    subst el
    show zNok E M d pc (zf (Int8.ofInt n).toInt32.toInt (fun v => zd_push (0, 0, v)) nx jp ag ca)
    rw [zf_eq]
    exact zs_bipush (jp := jp) (ag := ag) (ca := ca) hd rfl hn
  | sipush n =>
    have el : len = 3 := Nat.eq_of_beq_eq_true hlen
    subst el
    show zNok E M d pc (zf (Int16.ofInt n).toInt32.toInt (fun v => zd_push (0, 0, v)) nx jp ag ca)
    rw [zf_eq]
    exact zs_sipush (jp := jp) (ag := ag) (ca := ca) hd rfl hn
  | lconst n =>
    have el : len = 1 := Nat.eq_of_beq_eq_true hlen
    subst el
    show zNok E M d pc (zf (Int64.ofNat n.val).toInt (fun v => zd_push (4, 0, v)) nx jp ag ca)
    rw [zf_eq]
    exact zs_lconst (jp := jp) (ag := ag) (ca := ca) hd rfl hn
  | ldc i =>
    have el : len = 2 := Nat.eq_of_beq_eq_true hlen
    subst el
    have h0 : cond (Nat.beq a1 0) (xwd w (Cond.constant M.1.cls i (Int32.ofNat a2))) (xstr M.1.cls i a2) = true := hv3
    show zNok E M d pc (cond (Nat.beq a1 0) (zf (Int32.ofNat a2).toInt fun v => zd_push (0, 0, v)) (zd_push (7, a2, 0)) nx jp ag ca)
    cases hc : Nat.beq a1 0 with
    | true =>
      rw [hc] at h0
      rw [cond_true, zf_eq]
      exact zs_ldc (jp := jp) (ag := ag) (ca := ca) hd (xwd_ok h0) rfl hn
    | false =>
      rw [hc] at h0
      obtain ⟨tx, ht⟩ := xstr_ok h0
      exact zs_ldcS (jp := jp) (ag := ag) (ca := ca) hd ht hn
  | ldc_w i =>
    have el : len = 3 := Nat.eq_of_beq_eq_true hlen
    subst el
    show zNok E M d pc (zf (Int32.ofNat a2).toInt (fun v => zd_push (0, 0, v)) nx jp ag ca)
    rw [zf_eq]
    exact zs_ldcw (jp := jp) (ag := ag) (ca := ca) hd (xwd_ok hv3) rfl hn
  | ldc2_w i =>
    have el : len = 3 := Nat.eq_of_beq_eq_true hlen
    subst el
    show zNok E M d pc (zf (Int64.ofNat a2).toInt (fun v => zd_push (4, 0, v)) nx jp ag ca)
    rw [zf_eq]
    exact zs_ldc2 (jp := jp) (ag := ag) (ca := ca) hd (xwd_ok hv3) rfl hn
  | iload i =>
    have el : len = 2 := Nat.eq_of_beq_eq_true hlen
    subst el
    exact zs_iload (jp := jp) (ag := ag) (ca := ca) (Or.inl ⟨hd, rfl⟩) hn
  | iload_n i =>
    have el : len = 1 := Nat.eq_of_beq_eq_true hlen
    subst el
    show zNok E M d pc (xx_f i.val (fun j => zd_ld zc_i j) nx jp ag ca)
    rw [xx_f_eq]
    exact zs_iload (jp := jp) (ag := ag) (ca := ca) (Or.inr ⟨i, hd, rfl, rfl⟩) hn
  | lload i =>
    have el : len = 2 := Nat.eq_of_beq_eq_true hlen
    subst el
    exact zs_lload (jp := jp) (ag := ag) (ca := ca) (Or.inl ⟨hd, rfl⟩) hn
  | lload_n i =>
    have el : len = 1 := Nat.eq_of_beq_eq_true hlen
    subst el
    show zNok E M d pc (xx_f i.val (fun j => zd_ld zc_l j) nx jp ag ca)
    rw [xx_f_eq]
    exact zs_lload (jp := jp) (ag := ag) (ca := ca) (Or.inr ⟨i, hd, rfl, rfl⟩) hn
  | aload i =>
    have el : len = 2 := Nat.eq_of_beq_eq_true hlen
    subst el
    exact zs_aload (jp := jp) (ag := ag) (ca := ca) (Or.inl ⟨hd, rfl⟩) hn
  | aload_n i =>
    have el : len = 1 := Nat.eq_of_beq_eq_true hlen
    subst el
    show zNok E M d pc (xx_f i.val (fun j => zd_ld zc_r j) nx jp ag ca)
    rw [xx_f_eq]
    exact zs_aload (jp := jp) (ag := ag) (ca := ca) (Or.inr ⟨i, hd, rfl, rfl⟩) hn
  | istore i =>
    have el : len = 2 := Nat.eq_of_beq_eq_true hlen
    subst el
    exact zs_istore (jp := jp) (ag := ag) (ca := ca) (Or.inl ⟨hd, rfl⟩) hn
  | istore_n i =>
    have el : len = 1 := Nat.eq_of_beq_eq_true hlen
    subst el
    show zNok E M d pc (xx_f i.val (fun j => zd_st1 zc_i j) nx jp ag ca)
    rw [xx_f_eq]
    exact zs_istore (jp := jp) (ag := ag) (ca := ca) (Or.inr ⟨i, hd, rfl, rfl⟩) hn
  | astore i =>
    have el : len = 2 := Nat.eq_of_beq_eq_true hlen
    subst el
    exact zs_astore (jp := jp) (ag := ag) (ca := ca) (Or.inl ⟨hd, rfl⟩) hn
  | astore_n i =>
    have el : len = 1 := Nat.eq_of_beq_eq_true hlen
    subst el
    show zNok E M d pc (xx_f i.val (fun j => zd_st1 zc_r j) nx jp ag ca)
    rw [xx_f_eq]
    exact zs_astore (jp := jp) (ag := ag) (ca := ca) (Or.inr ⟨i, hd, rfl, rfl⟩) hn
  | lstore i =>
    have el : len = 2 := Nat.eq_of_beq_eq_true hlen
    subst el
    exact zs_lstore (jp := jp) (ag := ag) (ca := ca) (Or.inl ⟨hd, rfl⟩) hn
  | lstore_n i =>
    have el : len = 1 := Nat.eq_of_beq_eq_true hlen
    subst el
    show zNok E M d pc (xx_f i.val (fun j => zd_st2  j) nx jp ag ca)
    rw [xx_f_eq]
    exact zs_lstore (jp := jp) (ag := ag) (ca := ca) (Or.inr ⟨i, hd, rfl, rfl⟩) hn
  | iinc i n =>
    have el : len = 3 := Nat.eq_of_beq_eq_true hlen
    subst el
    show zNok E M d pc (zf (Int32.ofInt n).toInt (fun v => zd_inc i v) nx jp ag ca)
    rw [zf_eq]
    exact zs_iinc (jp := jp) (ag := ag) (ca := ca) hd rfl hn
  | iadd =>
    have el : len = 1 := Nat.eq_of_beq_eq_true hlen
    subst el
    exact zs_bin (jp := jp) (ag := ag) (ca := ca) (F := fun x y => x + y) zOp2_add (fun p e R s m args below meth c Q H locs ls rest x y ce sl hx hb k => lv_iadd hx hb hd k) hn
  | isub =>
    have el : len = 1 := Nat.eq_of_beq_eq_true hlen
    subst el
    exact zs_bin (jp := jp) (ag := ag) (ca := ca) (F := fun x y => x - y) zOp2_sub (fun p e R s m args below meth c Q H locs ls rest x y ce sl hx hb k => lv_isub hx hb hd k) hn
  | imul =>
    have el : len = 1 := Nat.eq_of_beq_eq_true hlen
    subst el
    exact zs_bin (jp := jp) (ag := ag) (ca := ca) (F := fun x y => x * y) (zOp2_bin zgood_mul) (fun p e R s m args below meth c Q H locs ls rest x y ce sl hx hb k => lv_imul hx hb hd k) hn
  | iand =>
    have el : len = 1 := Nat.eq_of_beq_eq_true hlen
    subst el
    exact zs_and (jp := jp) (ag := ag) (ca := ca) hd hn
  | ior =>
    have el : len = 1 := Nat.eq_of_beq_eq_true hlen
    subst el
    exact zs_bin (jp := jp) (ag := ag) (ca := ca) (F := fun x y => x ||| y) (zOp2_bin zgood_or) (fun p e R s m args below meth c Q H locs ls rest x y ce sl hx hb k => lv_ior hx hb hd k) hn
  | ixor =>
    have el : len = 1 := Nat.eq_of_beq_eq_true hlen
    subst el
    exact zs_bin (jp := jp) (ag := ag) (ca := ca) (F := fun x y => x ^^^ y) (zOp2_bin zgood_xor) (fun p e R s m args below meth c Q H locs ls rest x y ce sl hx hb k => lv_ixor hx hb hd k) hn
  | ishl =>
    have el : len = 1 := Nat.eq_of_beq_eq_true hlen
    subst el
    exact zs_bin (jp := jp) (ag := ag) (ca := ca) (F := fun x y => x <<< (y &&& 31)) (zOp2_bin zgood_shl) (fun p e R s m args below meth c Q H locs ls rest x y ce sl hx hb k => lv_ishl hx hb hd k) hn
  | iushr =>
    have el : len = 1 := Nat.eq_of_beq_eq_true hlen
    subst el
    exact zs_bin (jp := jp) (ag := ag) (ca := ca) (F := fun x y => (x.toUInt32 >>> (y.toUInt32 &&& Int32.toUInt32 31)).toInt32) (zOp2_bin zgood_ushr) (fun p e R s m args below meth c Q H locs ls rest x y ce sl hx hb k => lv_iushr hx hb hd rfl k) hn
  | ishr =>
    have el : len = 1 := Nat.eq_of_beq_eq_true hlen
    subst el
    exact zs_bin (jp := jp) (ag := ag) (ca := ca) (F := fun x y => x >>> (y &&& 31)) (zOp2_bin (zgood_any _)) (fun p e R s m args below meth c Q H locs ls rest x y ce sl hx hb k => lv_ishr hx hb hd k) hn
  | idiv =>
    have el : len = 1 := Nat.eq_of_beq_eq_true hlen
    subst el
    exact zs_div (jp := jp) (ag := ag) (ca := ca) (F := fun x y => x / y) (zOp2_bin (zgood_any _)) (fun h0 k => yo_idiv hd h0 k) hn
  | irem =>
    have el : len = 1 := Nat.eq_of_beq_eq_true hlen
    subst el
    exact zs_div (jp := jp) (ag := ag) (ca := ca) (F := fun x y => x - x / y * y) (zOp2_bin zgood_rem) (fun h0 k => yo_irem hd h0 k) hn
  | ineg =>
    have el : len = 1 := Nat.eq_of_beq_eq_true hlen
    subst el
    exact zs_un (jp := jp) (ag := ag) (ca := ca) (F := fun x => -x) zgood_neg (fun k => yo_ineg hd k) hn
  | i2b =>
    have el : len = 1 := Nat.eq_of_beq_eq_true hlen
    subst el
    exact zs_un (jp := jp) (ag := ag) (ca := ca) (F := fun x => x.toInt8.toInt32) zgood_i2b (fun k => yo_i2b hd k) hn
  | i2c =>
    have el : len = 1 := Nat.eq_of_beq_eq_true hlen
    subst el
    exact zs_un (jp := jp) (ag := ag) (ca := ca) (F := fun x => (x.toUInt32 % 65536).toInt32) zgood_i2c (fun k => yo_i2c hd k) hn
  | i2l =>
    have el : len = 1 := Nat.eq_of_beq_eq_true hlen
    subst el
    exact zs_i2l (jp := jp) (ag := ag) (ca := ca) hd hn
  | l2i =>
    have el : len = 1 := Nat.eq_of_beq_eq_true hlen
    subst el
    exact zs_l2i (jp := jp) (ag := ag) (ca := ca) hd hn
  | ladd =>
    have el : len = 1 := Nat.eq_of_beq_eq_true hlen
    subst el
    exact zs_lbin (jp := jp) (ag := ag) (ca := ca) (F := fun x y => x + y) zl_add_ok (fun k => yo_ladd hd k) hn
  | lmul =>
    have el : len = 1 := Nat.eq_of_beq_eq_true hlen
    subst el
    exact zs_lbin (jp := jp) (ag := ag) (ca := ca) (F := fun x y => x * y) zl_mul_ok (fun k => yo_lmul hd k) hn
  | land =>
    have el : len = 1 := Nat.eq_of_beq_eq_true hlen
    subst el
    exact zs_lbin (jp := jp) (ag := ag) (ca := ca) (F := fun x y => x &&& y) zl_and_ok (fun k => yo_land hd k) hn
  | lor =>
    have el : len = 1 := Nat.eq_of_beq_eq_true hlen
    subst el
    exact zs_lbin (jp := jp) (ag := ag) (ca := ca) (F := fun x y => x ||| y) (fun _ _ _ => zlong_any _) (fun k => yo_lor hd k) hn
  | lshl =>
    have el : len = 1 := Nat.eq_of_beq_eq_true hlen
    subst el
    exact zs_lsh (jp := jp) (ag := ag) (ca := ca) (F := fun x y => x <<< (y.toInt64 &&& 63)) (fun _ _ _ => zlong_any _) (fun k => yo_lshl hd k) hn
  | lushr =>
    have el : len = 1 := Nat.eq_of_beq_eq_true hlen
    subst el
    exact zs_lsh (jp := jp) (ag := ag) (ca := ca) (F := fun x y => (x.toUInt64 >>> (y.toInt64.toUInt64 &&& Int64.toUInt64 63)).toInt64) zl_ushr_ok (fun k => yo_lushr hd k) hn
  | lcmp =>
    have el : len = 1 := Nat.eq_of_beq_eq_true hlen
    subst el
    exact zs_lcmp (jp := jp) (ag := ag) (ca := ca) hd hn
  | dup =>
    have el : len = 1 := Nat.eq_of_beq_eq_true hlen
    subst el
    exact zs_dup (jp := jp) (ag := ag) (ca := ca) hd hn
  | pop =>
    have el : len = 1 := Nat.eq_of_beq_eq_true hlen
    subst el
    exact zs_pop (jp := jp) (ag := ag) (ca := ca) hd hn
  | dup2 =>
    have el : len = 1 := Nat.eq_of_beq_eq_true hlen
    subst el
    exact zs_dup2 (jp := jp) (ag := ag) (ca := ca) hd hn
  | goto off =>
    have el : len = 3 := Nat.eq_of_beq_eq_true hlen
    subst el
    obtain ⟨tgt, t1, t2⟩ := hjm off a1 hv3
    exact zs_goto (nx := nx) (jp := jp) (ag := ag) (ca := ca) hd t1 t2
  | ifCond cd off =>
    have el : len = 3 := Nat.eq_of_beq_eq_true hlen
    subst el
    obtain ⟨tgt, t1, t2⟩ := hjm off a1 hv3
    exact zs_if (jp := jp) (ag := ag) (ca := ca) hd t1 t2 hn
  | if_icmp cd off =>
    have el : len = 3 := Nat.eq_of_beq_eq_true hlen
    subst el
    obtain ⟨tgt, t1, t2⟩ := hjm off a1 hv3
    exact zs_icmp (jp := jp) (ag := ag) (ca := ca) hd t1 t2 hn
  | tableswitch dflt lo hi offs =>
    have h0 := xan (show and (xjmp M.2.2.2.2.2.2.2 pc dflt a1) (and (decide (hi - lo + 1 = (offs.toList.length : Int))) (xtabs M.2.2.2.2.2.2.2 pc a2 offs.toList 0)) = true from hv3)
    have h1 := xan h0.2
    have hsz : hi - lo + 1 = (offs.toList.length : Int) := of_decide_eq_true h1.1
    show zNok E M d pc (zd_sw (xh_num lo (hi - lo + 1).toNat) (xh_ttab lo hi a1 a2) nx jp ag ca)
    refine zs_sw (nx := nx) (ag := ag) (ca := ca) (fun iv j x ht b1 b2 => ?_)
    unfold xh_ttab at ht
    split at ht
    · rename_i q
      cases ht
      obtain ⟨tgt, t1, t2⟩ := hjm dflt a1 h0.1
      refine ⟨tgt, t2, fun k => yo_tabOut hd ?_ t1 k⟩
      rcases Bool.or_eq_true_iff.mp q with q | q
      · have := of_decide_eq_true q
        exact Or.inl (by omega)
      · have := of_decide_eq_true q
        exact Or.inr (by omega)
    · rename_i q
      rw [Bool.or_eq_true_iff, not_or] at q
      have q1 : ¬ iv.2 < lo := fun z => q.1 (decide_eq_true z)
      have q2 : ¬ hi < iv.1 := fun z => q.2 (decide_eq_true z)
      split at ht
      · rename_i q3
        cases ht
        have hq3 := of_decide_eq_true q3
        have hx : x.toInt = iv.1 := by omega
        have hlt : (iv.1 - lo).toNat < offs.toList.length := by omega
        have hget : offs.toList[(iv.1 - lo).toNat]? = some offs.toList[(iv.1 - lo).toNat] := List.getElem?_eq_getElem hlt
        have hj2 := xtabs_ok h1.2 _ _ hget
        rw [Nat.zero_add] at hj2
        obtain ⟨tgt, t1, t2⟩ := hjm _ _ hj2
        refine ⟨tgt, t2, fun k => yo_tabIn hd (by omega) (by omega) ?_ t1 k⟩
        rw [hx, ← Array.getElem?_toList]
        exact hget
      · cases ht
  | lookupswitch dflt ps =>
    have h0 := xan (show and (xjmp M.2.2.2.2.2.2.2 pc dflt a1) (and ((ps.toList.zip (ps.toList.drop 1)).all (fun (a, next) => a.1 < next.1)) (xlooks M.2.2.2.2.2.2.2 pc a2 ps.toList 0)) = true from hv3)
    have h1 := xan h0.2
    show zNok E M d pc (zd_sw (ps.toList.map Prod.fst) (xh_tlook ps.toList 0 a1 a2) nx jp ag ca)
    refine zs_sw (nx := nx) (ag := ag) (ca := ca) (fun iv j x ht b1 b2 => ?_)
    rcases xtlook_ok (d := dflt) b1 b2 ht with ⟨rfl, h2⟩ | ⟨i, o, h2, h3, h4⟩
    · obtain ⟨tgt, t1, t2⟩ := hjm dflt j h0.1
      exact ⟨tgt, t2, fun k => yo_look hd h1.1 h2 t1 k⟩
    · have hj2 := xlooks_ok h1.2 _ _ h2
      obtain ⟨tgt, t1, t2⟩ := hjm _ _ hj2
      rw [← h3] at t2
      exact ⟨tgt, t2, fun k => yo_look hd h1.1 h4 t1 k⟩
  | getfield i =>
    have el : len = 3 := Nat.eq_of_beq_eq_true hlen
    subst el
    have h0 : (match xk_at xcl a1 with
      | some q => and (Nat.ble (Nat.succ a2) q.2.2) (cond (Nat.ble 100000 w) (xnst (Nat.sub w 100000) (Cond.fieldLinkNest M.1.cls i (q.2.1 a2).1 (q.2.1 a2).2.1 (q.2.1 a2).2.2.1 "GridLaws")) (xwd w (Cond.fieldLink M.1.cls i (q.2.1 a2).1 (q.2.1 a2).2.1 (q.2.1 a2).2.2.1)))
      | none => and (Nat.beq a1 1000) (cond (Nat.beq a2 0) (xwd w (Cond.fieldLink M.1.cls i "java/lang/String" "coder" "B")) (and (Nat.beq a2 1) (xwd w (Cond.fieldLink M.1.cls i "java/lang/String" "value" "[B"))))) = true := hv3
    rw [xk_at_eq] at h0
    show zNok E M d pc (zd_get E.2.1.1 nt a1 a2 nx jp ag ca)
    cases hc : xcl[a1]? with
    | some q =>
      rw [hc] at h0
      obtain ⟨df, hcf⟩ := hcls a1 q hc
      have h1 := xan h0
      have h1000 : Nat.beq a1 1000 = false := by
        cases hz : Nat.beq a1 1000 with
        | false => rfl
        | true =>
          rw [Nat.eq_of_beq_eq_true hz, xcl_1000] at hc
          cases hc
      refine zs_get (jp := jp) (ag := ag) (ca := ca) (C := q.1) (T := q.2.1) (N := q.2.2) hSP hd hc hcf.1 (Nat.le_of_ble_eq_true h1.1) ?_ h1000 hn
      have h2 := h1.2
      cases hw : Nat.ble 100000 w with
      | true =>
        rw [hw, cond_true] at h2
        generalize Nat.sub w 100000 = jw at h2
        exact Or.inr ⟨"GridLaws", xnst_ok h2⟩
      | false =>
        rw [hw] at h2
        exact Or.inl (xwd_ok h2)
    | none =>
      rw [hc] at h0
      have h1 := xan h0
      have e1 : a1 = 1000 := Nat.eq_of_beq_eq_true h1.1
      subst e1
      refine zs_getS (jp := jp) (ag := ag) (ca := ca) hnt hd ?_ hno hn
      have h2 := h1.2
      cases hw : Nat.beq a2 0 with
      | true =>
        rw [hw] at h2
        exact Or.inl ⟨Nat.eq_of_beq_eq_true hw, xwd_ok h2⟩
      | false =>
        rw [hw] at h2
        have h3 := xan h2
        exact Or.inr ⟨Nat.eq_of_beq_eq_true h3.1, xwd_ok h3.2⟩
  | putfield i =>
    have el : len = 3 := Nat.eq_of_beq_eq_true hlen
    subst el
    have h0 : (match xk_at xcl a1 with
      | some q => and (Nat.ble (Nat.succ a2) q.2.2) (and (xwd w (Cond.fieldLink M.1.cls i (q.2.1 a2).1 (q.2.1 a2).2.1 (q.2.1 a2).2.2.1)) (and (Nat.beq a3 (xh_tc (xTY a1 a2))) (cond (q.2.1 a2).2.2.2 (and (decide (M.1.name = "<init>")) (decide ((q.2.1 a2).1 = M.1.cls))) true)))
      | none => false) = true := hv3
    rw [xk_at_eq] at h0
    show zNok E M d pc (zd_put E.2.1 E.2.2.2.1.1 a1 a2 a3 nx jp ag ca)
    cases hc : xcl[a1]? with
    | none => rw [hc] at h0; cases h0
    | some q =>
      rw [hc] at h0
      obtain ⟨df, hcf⟩ := hcls a1 q hc
      have h1 := xan h0
      have h2 := xan h1.2
      have h3 := xan h2.2
      cases hf : (q.2.1 a2).2.2.2 with
      | false => exact zs_put (jp := jp) (ag := ag) (ca := ca) (C := q.1) (T := q.2.1) (N := q.2.2) (ty0 := xTY a1) hJo hd hc hcf.1 hcf.2.1 hcf.2.2.1 (Nat.le_of_ble_eq_true h1.1) (xwd_ok h2.1) (Nat.eq_of_beq_eq_true h3.1) hf hn
      | true =>
        have h4 := h3.2
        rw [hf] at h4
        exact absurd (of_decide_eq_true (xan h4).1) hinit
  | getstatic i =>
    have el : len = 3 := Nat.eq_of_beq_eq_true hlen
    subst el
    have h0 : cond (Nat.beq a1 0) (and (Nat.beq a2 1) (xwd w (Cond.fieldLink M.1.cls i "java/lang/String" "COMPACT_STRINGS" "Z"))) (xwd w (Cond.fieldLink M.1.cls i "jdk/internal/util/Preconditions" "SIOOBE_FORMATTER" "Ljava/util/function/BiFunction;")) = true := hv3
    show zNok E M d pc (cond (Nat.beq a1 0) (zd_push (0, 0, 1)) zd_none nx jp ag ca)
    cases hc : Nat.beq a1 0 with
    | true =>
      rw [hc] at h0
      exact zs_gets0 (jp := jp) (ag := ag) (ca := ca) hd (xwd_ok (xan h0).2) hn
    | false => exact znok_none (fun _ _ _ _ _ => rfl)
  | iaload =>
    have el : len = 1 := Nat.eq_of_beq_eq_true hlen
    subst el
    exact zs_ald (jp := jp) (ag := ag) (ca := ca) hJo hSP hBY (Or.inl ⟨rfl, hd⟩) hn
  | baload =>
    have el : len = 1 := Nat.eq_of_beq_eq_true hlen
    subst el
    exact zs_ald (jp := jp) (ag := ag) (ca := ca) hJo hSP hBY (Or.inr (Or.inl ⟨rfl, hd⟩)) hn
  | laload =>
    have el : len = 1 := Nat.eq_of_beq_eq_true hlen
    subst el
    exact zs_ald (jp := jp) (ag := ag) (ca := ca) hJo hSP hBY (Or.inr (Or.inr ⟨rfl, hd⟩)) hn
  | iastore =>
    have el : len = 1 := Nat.eq_of_beq_eq_true hlen
    subst el
    exact zs_ast (jp := jp) (ag := ag) (ca := ca) hJo (Or.inl ⟨rfl, hd⟩) hn
  | bastore =>
    have el : len = 1 := Nat.eq_of_beq_eq_true hlen
    subst el
    exact zs_ast (jp := jp) (ag := ag) (ca := ca) hJo (Or.inr (Or.inl ⟨rfl, hd⟩)) hn
  | lastore =>
    have el : len = 1 := Nat.eq_of_beq_eq_true hlen
    subst el
    exact zs_ast (jp := jp) (ag := ag) (ca := ca) hJo (Or.inr (Or.inr ⟨rfl, hd⟩)) hn
  | arraylength =>
    have el : len = 1 := Nat.eq_of_beq_eq_true hlen
    subst el
    exact zs_alen (jp := jp) (ag := ag) (ca := ca) hBY hd hn
  | invokevirtual i =>
    have el : len = 3 := Nat.eq_of_beq_eq_true hlen
    subst el
    obtain ⟨N, q, n1, n2, n3, n4, n5⟩ := xinv_ok hv3
    have k1 := xan n5
    have k2 := xan k1.2
    have k3 := xan k2.2
    show zNok E M d pc ((match xk_at xMT a1 with
      | none => zd_none
      | some N => cond (and (Nat.beq N.2.2.2.2.1 0) (Nat.beq N.2.2.2.2.2.1 0)) (zd_virt E.2.1 nt N.2.2.2.2.2.2.1 a1 a3) zd_none) nx jp ag ca)
    rw [xk_at_eq, n1]
    dsimp only
    cases hz : and (Nat.beq N.2.2.2.2.1 0) (Nat.beq N.2.2.2.2.2.1 0) with
    | false => exact znok_none (fun _ _ _ _ _ => rfl)
    | true =>
      have z1 := xan hz
      rw [cond_true]
      refine zs_virt (jp := jp) (ag := ag) hnt hno hd n1 n2 n4 (xlnk_ok k1.1) (xwd_ok k2.1) (xwd_ok k3.1) ?_ (Nat.eq_of_beq_eq_true z1.1) (Nat.eq_of_beq_eq_true z1.2) rfl hn hca
      have k4 := k3.2
      rw [xk_at_eq] at k4
      cases hc : xcl[a3]? with
      | some q =>
        rw [hc] at k4
        exact Or.inl ⟨q, rfl, of_decide_eq_true k4⟩
      | none =>
        rw [hc] at k4
        have k5 := xan k4
        exact Or.inr ⟨Nat.eq_of_beq_eq_true k5.1, of_decide_eq_true k5.2⟩
  | invokestatic i =>
    have el : len = 3 := Nat.eq_of_beq_eq_true hlen
    subst el
    have h0 : cond (Nat.beq a2 3) (xwd w (Cond.methodLink M.1.cls i arraycopyName)) (cond (Nat.beq a2 4) (xwd w (Cond.methodLink M.1.cls i Lib.Math.max.name)) (cond (Nat.beq a2 5) (xwd w (Cond.methodLink M.1.cls i Lib.Math.min.name)) (xinv a1 fun N q => and (xlnk M.1.cls i a2 w N.1) (xwd q.2.1 (Cond.static N.1))))) = true := hv3
    show zNok E M d pc (cond (Nat.beq a2 3) (zd_copy E.2.1 E.2.2.2.1.1) (cond (Nat.beq a2 4) (zd_mm zg_max) (cond (Nat.beq a2 5) (zd_mm zg_min) (match xk_at xMT a1 with
      | none => zd_none
      | some N => cond (and (Nat.beq N.2.2.2.2.1 0) (Nat.beq N.2.2.2.2.2.1 0)) (zd_stat N.2.2.2.2.2.2.1 a1) zd_none))) nx jp ag ca)
    cases hc : Nat.beq a2 3 with
    | true =>
      rw [hc] at h0
      exact zs_copy (jp := jp) (ag := ag) (ca := ca) hJo hd (xwd_ok h0) hac.1 hac.2.1 hac.2.2 hn
    | false =>
      rw [hc, cond_false] at h0
      rw [cond_false]
      cases hc4 : Nat.beq a2 4 with
      | true =>
        rw [hc4] at h0
        exact zs_mm (jp := jp) (ag := ag) (ca := ca) (F := xf_max) zgood_max (fun hw k => yo_max hd (xwd_ok h0) hmx.1 hmi hmx.2 hw k) hn
      | false =>
        rw [hc4, cond_false] at h0
        rw [cond_false]
        cases hc5 : Nat.beq a2 5 with
        | true =>
          rw [hc5] at h0
          exact zs_mm (jp := jp) (ag := ag) (ca := ca) (F := xf_min) zgood_min (fun hw k => yo_min hd (xwd_ok h0) hmn.1 hmi hmn.2 hw k) hn
        | false =>
          rw [hc5] at h0
          obtain ⟨N, q, n1, n2, n3, n4, n5⟩ := xinv_ok h0
          have k1 := xan n5
          rw [cond_false, xk_at_eq, n1]
          dsimp only
          cases hz : and (Nat.beq N.2.2.2.2.1 0) (Nat.beq N.2.2.2.2.2.1 0) with
          | false => exact znok_none (fun _ _ _ _ _ => rfl)
          | true =>
            have z1 := xan hz
            rw [cond_true]
            exact zs_stat (jp := jp) (ag := ag) hd n1 n2 n4 (xlnk_ok k1.1) (xwd_ok k1.2) (Nat.eq_of_beq_eq_true z1.1) (Nat.eq_of_beq_eq_true z1.2) rfl hn hca
  | ireturn =>
    have el : len = 1 := Nat.eq_of_beq_eq_true hlen
    subst el
    cases hr : M.2.2.2.1 with
    | none => exact znok_none (fun _ _ _ _ _ => rfl)
    | some ty =>
      show zNok E M d pc (xx_f (xh_tc ty) zd_iret nx jp ag ca)
      rw [xx_f_eq]
      exact zs_iret (nx := nx) (jp := jp) (ag := ag) (ca := ca) hd hr rfl
  | lreturn =>
    have el : len = 1 := Nat.eq_of_beq_eq_true hlen
    subst el
    cases hr : M.2.2.2.1 with
    | none => exact znok_none (fun _ _ _ _ _ => rfl)
    | some ty =>
      cases ty with
      | long => exact zs_lret (nx := nx) (jp := jp) (ag := ag) (ca := ca) hd hr
      | _ => exact znok_none (fun _ _ _ _ _ => rfl)
  | return_ =>
    have el : len = 1 := Nat.eq_of_beq_eq_true hlen
    subst el
    cases hr : M.2.2.2.1 with
    | none => exact zs_vret (nx := nx) (jp := jp) (ag := ag) (ca := ca) hd hr
    | some ty => exact znok_none (fun _ _ _ _ _ => rfl)
  | _ => exact znok_none (fun _ _ _ _ _ => rfl)
