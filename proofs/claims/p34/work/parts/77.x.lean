/-! the law's first rows: the two objects are made, the loop is entered -/
def zno : xN := fun _ _ _ _ _ _ => none
noncomputable def zrow (G : xG) (ih : xI) (e : xE) (k : xN) : xN := xd_of G xNA 600000 7302250 (some .boolean) e k (fun _ => zno) zno (xh_call (xd_meths G xNA xMT) ih 58 600000 7302250 k)
noncomputable def zpre (G : xG) (ih : xI) : xN := zrow G ih (xe_4 0 3 (.new 7) 11 0 0 1023) (zrow G ih (xe_0 3 1 .dup) (zrow G ih (xe_4 4 3 (.invokespecial 9) 135 0 11 1025) (zrow G ih (xe_0 7 1 (.astore_n 1)) (zrow G ih (xe_4 8 3 (.new 10) 12 0 0 6144) (zrow G ih (xe_0 11 1 .dup) (zrow G ih (xe_4 12 3 (.invokespecial 12) 179 0 12 6146) (zrow G ih (xe_0 15 1 (.astore_n 2)) (zrow G ih (xe_0 16 1 (.iconst 0)) (zrow G ih (xe_0 17 1 (.istore_n 3)) zstop)))))))))
theorem zpre_ok {gl : xGl} {G : xG} {ih : xI} (hcls : ∀ (ci : Nat) (q : vw_C), xcl[ci]? = some q → ∃ df, xCf_w ci q (xTY ci) df) (hJ : xJd_w) (hMT : ∀ M ∈ xMT, xmvb M = true) (hG : xGok_w gl G) (hI : xIok_w gl G ih) (hS : xNok gl xLW 58 18 zstop) : xNok gl xLW 58 0 (zpre G ih) := by
  have hm : ∀ e ∈ xt_312, xvb xLW e = true := xallb_ok (xan (hMT xLW (List.mem_of_getElem? (i := 312) rfl))).2
  have st : ∀ (i pc len : Nat) (ins : Instr) (a1 a2 a3 w : Nat) (k : xN), xt_312[i]? = some (pc, len, ins, a1, a2, a3, w) → xNok gl xLW 58 (pc + len) k → xNok gl xLW 58 pc (zrow G ih (pc, len, ins, a1, a2, a3, w) k) := fun i pc len ins a1 a2 a3 w k hi hk => xstep_ok_w hcls hJ hG hI (M := xLW) (hm _ (List.mem_of_getElem? hi)) hk (xnok_none (fun _ _ _ _ _ _ => rfl)) (fun _ _ _ => xnok_none (fun _ _ _ _ _ _ => rfl))
  exact st 0 0 3 _ _ _ _ _ _ rfl (st 1 3 1 _ _ _ _ _ _ rfl (st 2 4 3 _ _ _ _ _ _ rfl (st 3 7 1 _ _ _ _ _ _ rfl (st 4 8 3 _ _ _ _ _ _ rfl (st 5 11 1 _ _ _ _ _ _ rfl (st 6 12 3 _ _ _ _ _ _ rfl (st 7 15 1 _ _ _ _ _ _ rfl (st 8 16 1 _ _ _ _ _ _ rfl (st 9 17 1 _ _ _ _ _ _ rfl hS)))))))))
def xH0 : xH := (0, List.replicate 12 (List.replicate 12 (.inl (999, []))))
def zGA : xG := ([], xDF, xBY, (1, 0))
def zGB : xG := ([], xDF, xBY, (0, 6))
def zone (o : xR) : Bool := match o with
  | some l => l.all fun q => match q.1 with
    | some v => and (Nat.beq v.1 0) (Nat.beq v.2 1)
    | none => false
  | none => false
def zfl : Int × Int := (-2147483648, 2147483647)
noncomputable def zrA : xR := zpre zGA (xh_run (xd_meths zGA xNA xMT) 30000) [(6, 0), (9, 0), (9, 0), (9, 0)] [] xH0 [(0, 3072)] 0 0
noncomputable def zrB : xR := zpre zGB (xh_run (xd_meths zGB xNA xMT) 30000) [(6, 0), (9, 0), (9, 0), (9, 0)] [] xH0 [zfl, zfl, zfl, zfl, zfl, zfl, (0, 63)] 0 0
theorem zrA_ok : zone zrA = true := by decide +kernel
theorem zrB_ok : zone zrB = true := by decide +kernel
