/-! what is decided of the rows -/
noncomputable def xlayb (C : String) (T : u_T) : Nat → List Nat → Bool
  | _, [] => true
  | k, i :: l => and (xwd i (u_lay C T k)) (xlayb C T (k + 1) l)
noncomputable def xnst (j : Nat) (w : Cond) : Bool := match xk_at xNW j with
  | some w' => decide (w' = w)
  | none => false
noncomputable def xjmp (ents : List xE) (pc : Nat) (off : Int) (j : Nat) : Bool := match xk_at ents j with
  | some e => decide ((pc : Int) + off = (e.1 : Int))
  | none => false
noncomputable def xtabs (ents : List xE) (pc N : Nat) : List Int → Nat → Bool
  | [], _ => true
  | o :: l, j => and (xjmp ents pc o (xx_g 16 N j)) (xtabs ents pc N l (j + 1))
noncomputable def xlooks (ents : List xE) (pc N : Nat) : List (Int × Int) → Nat → Bool
  | [], _ => true
  | o :: l, j => and (xjmp ents pc o.2 (xx_g 16 N j)) (xlooks ents pc N l (j + 1))
def xstr (cls : String) (i n : Nat) : Bool := xSR.any fun q => decide (q.1 = cls) && (decide (q.2.1 = i) && decide (q.2.2.2 = n))
/-- a called method -/
noncomputable def xmb (N : xM) (q : Nat × Nat × Nat × Nat) : Bool := and (plainName N.1.cls) (and (xwd q.1 (Cond.code N.1 N.2.1 N.2.2.1 N.2.2.2.1)) (and (xwd q.2.2.2 (Cond.initialized N.1.cls)) (and (decide (N.1.cls ≠ "java/lang/invoke/MethodHandle")) (and (decide (N.1.cls ≠ "java/lang/invoke/VarHandle")) (decide ((parseMethodDescriptor N.1.desc).map (fun d => d.parameters.length) = some N.2.2.2.2.2.2.1))))))
noncomputable def xlnk (own : String) (i a2 w : Nat) (y : MethodName) : Bool := cond (Nat.beq a2 1) (xnst w (Cond.methodLinkNest own i y "GridLaws")) (xwd w (Cond.methodLink own i y))
noncomputable def xinv (a1 : Nat) (k : xM → Nat × Nat × Nat × Nat → Bool) : Bool := match xk_at xMT a1 with
  | none => false
  | some N => match xk_at xMW a1 with
    | none => false
    | some q => and (xmb N q) (and (match xk_at xNA a1 with
      | some n => Nat.beq n N.2.2.2.2.2.2.1
      | none => false) (and (match N.2.2.2.2.2.2.2 with
      | [] => true
      | e :: _ => Nat.beq e.1 0) (k N q)))
/-- how long an instruction is (0: a switch) -/
def xilen (i : Instr) : Nat := match i with
  | .bipush _ => 2
  | .ldc _ => 2
  | .iload _ => 2
  | .lload _ => 2
  | .aload _ => 2
  | .istore _ => 2
  | .lstore _ => 2
  | .astore _ => 2
  | .newarray _ => 2
  | .sipush _ => 3
  | .ldc_w _ => 3
  | .ldc2_w _ => 3
  | .iinc _ _ => 3
  | .goto _ => 3
  | .ifCond _ _ => 3
  | .if_icmp _ _ => 3
  | .getfield _ => 3
  | .putfield _ => 3
  | .getstatic _ => 3
  | .new _ => 3
  | .invokevirtual _ => 3
  | .invokespecial _ => 3
  | .invokestatic _ => 3
  | .tableswitch _ _ _ _ => 0
  | .lookupswitch _ _ => 0
  | _ => 1
noncomputable def xvb (M : xM) (e : xE) : Bool := match e with
  | (pc, len, ins, a1, a2, a3, w) => cond (Nat.beq w 999999) true (and (and (decide (decode M.2.1 pc = .ok (ins, len))) (or (Nat.beq (xilen ins) 0) (Nat.beq len (xilen ins)))) (match ins with
    | .ldc i => cond (Nat.beq a1 0) (xwd w (Cond.constant M.1.cls i (Int32.ofNat a2))) (xstr M.1.cls i a2)
    | .ldc_w i => xwd w (Cond.constant M.1.cls i (Int32.ofNat a2))
    | .ldc2_w i => xwd w (Cond.constantLong M.1.cls i (Int64.ofNat a2))
    | .goto off => xjmp M.2.2.2.2.2.2.2 pc off a1
    | .ifCond _ off => xjmp M.2.2.2.2.2.2.2 pc off a1
    | .if_icmp _ off => xjmp M.2.2.2.2.2.2.2 pc off a1
    | .tableswitch dflt lo hi offs => and (xjmp M.2.2.2.2.2.2.2 pc dflt a1) (and (decide (hi - lo + 1 = (offs.toList.length : Int))) (xtabs M.2.2.2.2.2.2.2 pc a2 offs.toList 0))
    | .lookupswitch dflt ps => and (xjmp M.2.2.2.2.2.2.2 pc dflt a1) (and ((ps.toList.zip (ps.toList.drop 1)).all (fun (a, next) => a.1 < next.1)) (xlooks M.2.2.2.2.2.2.2 pc a2 ps.toList 0))
    | .getfield i => (match xk_at xcl a1 with
      | some q => and (Nat.ble (Nat.succ a2) q.2.2) (cond (Nat.ble 100000 w) (xnst (Nat.sub w 100000) (Cond.fieldLinkNest M.1.cls i (q.2.1 a2).1 (q.2.1 a2).2.1 (q.2.1 a2).2.2.1 "GridLaws")) (xwd w (Cond.fieldLink M.1.cls i (q.2.1 a2).1 (q.2.1 a2).2.1 (q.2.1 a2).2.2.1)))
      | none => and (Nat.beq a1 1000) (cond (Nat.beq a2 0) (xwd w (Cond.fieldLink M.1.cls i "java/lang/String" "coder" "B")) (and (Nat.beq a2 1) (xwd w (Cond.fieldLink M.1.cls i "java/lang/String" "value" "[B")))))
    | .putfield i => (match xk_at xcl a1 with
      | some q => and (Nat.ble (Nat.succ a2) q.2.2) (and (xwd w (Cond.fieldLink M.1.cls i (q.2.1 a2).1 (q.2.1 a2).2.1 (q.2.1 a2).2.2.1)) (and (Nat.beq a3 (xh_tc (xTY a1 a2))) (cond (q.2.1 a2).2.2.2 (and (decide (M.1.name = "<init>")) (decide ((q.2.1 a2).1 = M.1.cls))) true)))
      | none => false)
    | .getstatic i => cond (Nat.beq a1 0) (and (Nat.beq a2 1) (xwd w (Cond.fieldLink M.1.cls i "java/lang/String" "COMPACT_STRINGS" "Z"))) (xwd w (Cond.fieldLink M.1.cls i "jdk/internal/util/Preconditions" "SIOOBE_FORMATTER" "Ljava/util/function/BiFunction;"))
    | .newarray t => xwd w (Cond.arrayClass (newarray.typeOf t))
    | .new i => (match xk_at xcl a1 with
      | some q => xwd w (Cond.classLink M.1.cls i q.1)
      | none => false)
    | .invokevirtual i => xinv a1 fun N q => and (xlnk M.1.cls i a2 w N.1) (and (xwd q.2.1 (Cond.instanceMethod N.1)) (and (xwd q.2.2.1 (Cond.selects N.1.cls N.1 N.1)) (match xk_at xcl a3 with
      | some q => decide (q.1 = N.1.cls)
      | none => and (Nat.beq a3 1000) (decide (N.1.cls = "java/lang/String")))))
    | .invokespecial i => cond (Nat.beq a2 2) (xwd w (Cond.methodLink M.1.cls i objectInit)) (xinv a1 fun N q => and (xlnk M.1.cls i a2 w N.1) (and (xwd q.2.1 (Cond.instanceMethod N.1)) (and (decide (N.1.name = "<init>")) (decide (N.2.2.2.1 = none)))))
    | .invokestatic i => cond (Nat.beq a2 3) (xwd w (Cond.methodLink M.1.cls i arraycopyName)) (cond (Nat.beq a2 4) (xwd w (Cond.methodLink M.1.cls i Lib.Math.max.name)) (cond (Nat.beq a2 5) (xwd w (Cond.methodLink M.1.cls i Lib.Math.min.name)) (xinv a1 fun N q => and (xlnk M.1.cls i a2 w N.1) (xwd q.2.1 (Cond.static N.1)))))
    | _ => true))
/-- each row goes on where the one ahead ends -/
def xchain : List xE → Bool
  | [] => true
  | e :: l => match l with
    | [] => true
    | f :: _ => and (Nat.beq f.1 (Nat.add e.1 e.2.1)) (xchain l)
noncomputable def xallb (M : xM) (l : List xE) : Bool := List.rec (motive := fun _ => Bool) true (fun e _ ih => cond (xvb M e) ih false) l
noncomputable def xmvb (M : xM) : Bool := and (xchain M.2.2.2.2.2.2.2) (xallb M M.2.2.2.2.2.2.2)
