/-! what holds at a place of a method, over the world's cells themselves: locals, stack, cells; K: what its end must give -/
abbrev yL : Type := List (Option Value)
/-- what is fixed: as in xGl, and the classes of rows -/
abbrev yG : Type := xGl × List (ClassId × FieldType)
abbrev yK : Type := Option Value → va_W → Prop
def yLv (nL : Nat) (lv : yL) (ls : Array Slot) : Prop := lv.length = nL ∧ ls.size = nL ∧ lv_wf ls ∧ ∀ (i : Nat) (v : Value), lv[i]? = some (some v) → ls[i]? = some (.val v)
def yWd (g : yG) (ws : va_W) (H : Heap) (s : State) (locs : List Loc) : Prop := va_P g.1.2.2.1 xcl ws H ∧ va_D (xAA g.1.2.2.2.1) ws ∧ va_S (xAA g.1.2.2.2.1) s.heap H locs ∧ va_K g.1.2.2.1 xcl g.2 s
def yRT (g : yG) (M : xM) (p : Program) (e : Env) (R : Room) (s : State) (m : MethodId) (args : Array Value) (below : List Frame) (meth : Method) (c : Code) (Q : State → Prop) (ce sl : Nat) (K : yK) : Prop :=
  ∀ (r : Option Value) (ws : va_W) (H : Heap) (locs : List Loc) (ls : Array Slot) (pc : Nat), K r ws → yWd g ws H s locs →
    (r = none → M.2.2.2.1 = none → decode M.2.1 pc = .ok (.return_, 1) → W p g.1.1 e R s m args below meth c H locs ce sl Q (F0 m pc ls [])) ∧
    (∀ (x : Int32) (ty : FieldType), r = some (.int x) → M.2.2.2.1 = some ty → narrow ty (.int x) = .int x → decode M.2.1 pc = .ok (.ireturn, 1) → W p g.1.1 e R s m args below meth c H locs ce sl Q (F0 m pc ls [.int x])) ∧
    (∀ (x : Int64), r = some (.long x) → M.2.2.2.1 = some .long → decode M.2.1 pc = .ok (.lreturn, 1) → W p g.1.1 e R s m args below meth c H locs ce sl Q (F0 m pc ls [.long x]))
def yOk (g : yG) (M : xM) (d pc : Nat) (lv : yL) (st : List Value) (ws : va_W) (K : yK) : Prop :=
  ∀ (p : Program) (e : Env) (R : Room) (s : State) (m : MethodId) (args : Array Value) (below : List Frame) (meth : Method) (c : Code) (Q : State → Prop) (H : Heap) (locs : List Loc) (ls : Array Slot) (ce sl : Nat),
    xF g.1 M d p R s m args meth c → yWd g ws H s locs → yLv M.2.2.1 lv ls → ce ≤ M.2.2.2.2.1 → sl ≤ M.2.2.2.2.2.1 → yRT g M p e R s m args below meth c Q ce sl K → W p g.1.1 e R s m args below meth c H locs ce sl Q (F0 m pc ls st)
theorem yOk_mono {g : yG} {M : xM} {d pc : Nat} {lv : yL} {st : List Value} {ws : va_W} {K K' : yK} (hK : ∀ r w, K r w → K' r w) (h : yOk g M d pc lv st ws K) : yOk g M d pc lv st ws K' :=
  fun p e R s m args below meth c Q H locs ls ce sl hF hW hlv hce hsl hRT => h p e R s m args below meth c Q H locs ls ce sl hF hW hlv hce hsl (fun r w H' locs' ls' pc' hk => hRT r w H' locs' ls' pc' (hK r w hk))
theorem yLv_st1 {nL i : Nat} {lv : yL} {ls ls' : Array Slot} {v : Value} (h : yLv nL lv ls) (hn : ∀ (j : Nat) (w : Value), j + 1 = i → lv[j]? = some (some w) → w.category = 1) (hi : i < lv.length) (h' : lv_has ls' nL ((i, v) :: (xvals ls nL).filter (fun q => !(q.1 == i) && !(q.1 + 1 == i && q.2.category == 2)))) : yLv nL (lv.set i (some v)) ls' := by
  obtain ⟨a1, a2, a3, a4⟩ := h
  refine ⟨by rw [List.length_set]; exact a1, h'.1, h'.2.1, fun j b q1 => ?_⟩
  by_cases hj : j = i
  · subst hj
    rw [List.getElem?_set_self hi] at q1
    cases q1
    exact h'.2.2 (j, v) List.mem_cons_self
  · rw [List.getElem?_set_ne (fun e => hj e.symm)] at q1
    have e1 := a4 j b q1
    have hjl : j < nL := by rw [← a1]; exact (List.getElem?_eq_some_iff.mp q1).1
    refine h'.2.2 (j, b) (List.mem_cons_of_mem _ (List.mem_filter.mpr ⟨xvals_mem e1 hjl, ?_⟩))
    simp only [Bool.and_eq_true, Bool.not_eq_true', beq_eq_false_iff_ne, ne_eq, Bool.and_eq_false_iff]
    refine ⟨hj, ?_⟩
    by_cases hq : j + 1 = i
    · right
      rw [hn j b hq q1]
      decide
    · exact Or.inl hq
theorem yLv_st2 {nL i : Nat} {lv : yL} {ls ls' : Array Slot} {v : Value} (h : yLv nL lv ls) (hn : ∀ (j : Nat) (w : Value), j + 1 = i → lv[j]? = some (some w) → w.category = 1) (hi : i < lv.length) (hi2 : i + 1 < lv.length) (h' : lv_has ls' nL ((i, v) :: (xvals ls nL).filter (fun q => !(q.1 == i) && (!(q.1 == i + 1) && !(q.1 + 1 == i && q.2.category == 2))))) : yLv nL ((lv.set i (some v)).set (i + 1) none) ls' := by
  obtain ⟨a1, a2, a3, a4⟩ := h
  refine ⟨by rw [List.length_set, List.length_set]; exact a1, h'.1, h'.2.1, fun j b q1 => ?_⟩
  by_cases hj1 : j = i + 1
  · subst hj1
    rw [List.getElem?_set_self (by rw [List.length_set]; exact hi2)] at q1
    cases q1
  · rw [List.getElem?_set_ne (fun e => hj1 e.symm)] at q1
    by_cases hj : j = i
    · subst hj
      rw [List.getElem?_set_self hi] at q1
      cases q1
      exact h'.2.2 (j, v) List.mem_cons_self
    · rw [List.getElem?_set_ne (fun e => hj e.symm)] at q1
      have e1 := a4 j b q1
      have hjl : j < nL := by rw [← a1]; exact (List.getElem?_eq_some_iff.mp q1).1
      refine h'.2.2 (j, b) (List.mem_cons_of_mem _ (List.mem_filter.mpr ⟨xvals_mem e1 hjl, ?_⟩))
      simp only [Bool.and_eq_true, Bool.not_eq_true', beq_eq_false_iff_ne, ne_eq, Bool.and_eq_false_iff]
      refine ⟨hj, hj1, ?_⟩
      by_cases hq : j + 1 = i
      · right
        rw [hn j b hq q1]
        decide
      · exact Or.inl hq
section YI
variable {g : yG} {M : xM} {d pc : Nat} {lv : yL} {st : List Value} {ws : va_W} {K : yK}
theorem yo_iconst {n : Int} (hd : decode M.2.1 pc = .ok (.iconst n, 1)) (h : yOk g M d (pc + 1) lv (.int (Int32.ofInt n) :: st) ws K) : yOk g M d pc lv st ws K :=
  fun p e R s m args below meth c Q H locs ls ce sl hF hW hlv hce hsl hRT => lv_iconst hF.1 hF.2.1 hd rfl (h p e R s m args below meth c Q H locs ls ce sl hF hW hlv hce hsl hRT)
theorem yo_bipush {n : Int} (hd : decode M.2.1 pc = .ok (.bipush n, 2)) (h : yOk g M d (pc + 2) lv (.int (Int8.ofInt n).toInt32 :: st) ws K) : yOk g M d pc lv st ws K :=
  fun p e R s m args below meth c Q H locs ls ce sl hF hW hlv hce hsl hRT => lv_bipush hF.1 hF.2.1 hd rfl (h p e R s m args below meth c Q H locs ls ce sl hF hW hlv hce hsl hRT)
theorem yo_sipush {n : Int} (hd : decode M.2.1 pc = .ok (.sipush n, 3)) (h : yOk g M d (pc + 3) lv (.int (Int16.ofInt n).toInt32 :: st) ws K) : yOk g M d pc lv st ws K :=
  fun p e R s m args below meth c Q H locs ls ce sl hF hW hlv hce hsl hRT => lv_sipush hF.1 hF.2.1 hd rfl (h p e R s m args below meth c Q H locs ls ce sl hF hW hlv hce hsl hRT)
theorem yo_lconst {n : Fin 2} (hd : decode M.2.1 pc = .ok (.lconst n, 1)) (h : yOk g M d (pc + 1) lv (.long (Int64.ofNat n.val) :: st) ws K) : yOk g M d pc lv st ws K :=
  fun p e R s m args below meth c Q H locs ls ce sl hF hW hlv hce hsl hRT => lv_lconst hF.1 hF.2.1 hd rfl (h p e R s m args below meth c Q H locs ls ce sl hF hW hlv hce hsl hRT)
theorem yo_ldc {i : Nat} {n : Int32} (hd : decode M.2.1 pc = .ok (.ldc i, 2)) (hw : Cond.constant M.1.cls i n ∈ xTb) (h : yOk g M d (pc + 2) lv (.int n :: st) ws K) : yOk g M d pc lv st ws K :=
  fun p e R s m args below meth c Q H locs ls ce sl hF hW hlv hce hsl hRT => lv_ldc hF.1 hF.2.1 hF.2.2.2.2.1 (hF.2.2.2.1 _ hw) hd (h p e R s m args below meth c Q H locs ls ce sl hF hW hlv hce hsl hRT)
theorem yo_ldcw {i : Nat} {n : Int32} (hd : decode M.2.1 pc = .ok (.ldc_w i, 3)) (hw : Cond.constant M.1.cls i n ∈ xTb) (h : yOk g M d (pc + 3) lv (.int n :: st) ws K) : yOk g M d pc lv st ws K :=
  fun p e R s m args below meth c Q H locs ls ce sl hF hW hlv hce hsl hRT => lv_ldcw hF.1 hF.2.1 hF.2.2.2.2.1 (hF.2.2.2.1 _ hw) hd (h p e R s m args below meth c Q H locs ls ce sl hF hW hlv hce hsl hRT)
theorem yo_ldc2 {i : Nat} {n : Int64} (hd : decode M.2.1 pc = .ok (.ldc2_w i, 3)) (hw : Cond.constantLong M.1.cls i n ∈ xTb) (h : yOk g M d (pc + 3) lv (.long n :: st) ws K) : yOk g M d pc lv st ws K :=
  fun p e R s m args below meth c Q H locs ls ce sl hF hW hlv hce hsl hRT => lv_ldc2 hF.1 hF.2.1 hF.2.2.2.2.1 (hF.2.2.2.1 _ hw) hd (h p e R s m args below meth c Q H locs ls ce sl hF hW hlv hce hsl hRT)
theorem yo_ldcS {i n : Nat} {tx : String} (hd : decode M.2.1 pc = .ok (.ldc i, 2)) (hw : (M.1.cls, i, tx, n) ∈ xSR) (h : yOk g M d (pc + 2) lv (.ref (g.1.2.1.2.1 n) :: st) ws K) : yOk g M d pc lv st ws K :=
  fun p e R s m args below meth c Q H locs ls ce sl hF hW hlv hce hsl hRT => va_ldcS hF.1 hF.2.1 hF.2.2.2.2.1 (hF.2.2.2.2.2.2.1.2.1 _ hw) hd (h p e R s m args below meth c Q H locs ls ce sl hF hW hlv hce hsl hRT)
theorem yo_iload {i len : Nat} {x : Int32} (hd : (decode M.2.1 pc = .ok (.iload i, 2) ∧ len = 2) ∨ ∃ k : Fin 4, decode M.2.1 pc = .ok (.iload_n k, 1) ∧ k.val = i ∧ len = 1) (hi : lv[i]? = some (some (.int x))) (h : yOk g M d (pc + len) lv (.int x :: st) ws K) : yOk g M d pc lv st ws K := by
  intro p e R s m args below meth c Q H locs ls ce sl hF hW hlv hce hsl hRT
  have e1 := hlv.2.2.2 i _ hi
  rcases hd with ⟨hd, rfl⟩ | ⟨k, hd, rfl, rfl⟩
  · exact lv_iload hF.1 hF.2.1 hd e1 (h p e R s m args below meth c Q H locs ls ce sl hF hW hlv hce hsl hRT)
  · exact lv_iload_n hF.1 hF.2.1 hd rfl e1 (h p e R s m args below meth c Q H locs ls ce sl hF hW hlv hce hsl hRT)
theorem yo_lload {i len : Nat} {x : Int64} (hd : (decode M.2.1 pc = .ok (.lload i, 2) ∧ len = 2) ∨ ∃ k : Fin 4, decode M.2.1 pc = .ok (.lload_n k, 1) ∧ k.val = i ∧ len = 1) (hi : lv[i]? = some (some (.long x))) (h : yOk g M d (pc + len) lv (.long x :: st) ws K) : yOk g M d pc lv st ws K := by
  intro p e R s m args below meth c Q H locs ls ce sl hF hW hlv hce hsl hRT
  have e1 := hlv.2.2.2 i _ hi
  rcases hd with ⟨hd, rfl⟩ | ⟨k, hd, rfl, rfl⟩
  · exact lv_lload hF.1 hF.2.1 hd e1 (h p e R s m args below meth c Q H locs ls ce sl hF hW hlv hce hsl hRT)
  · exact lv_lload_n hF.1 hF.2.1 hd rfl e1 (h p e R s m args below meth c Q H locs ls ce sl hF hW hlv hce hsl hRT)
theorem yo_aload {i len : Nat} {q : Nat} (hd : (decode M.2.1 pc = .ok (.aload i, 2) ∧ len = 2) ∨ ∃ k : Fin 4, decode M.2.1 pc = .ok (.aload_n k, 1) ∧ k.val = i ∧ len = 1) (hi : lv[i]? = some (some (.ref q))) (h : yOk g M d (pc + len) lv (.ref q :: st) ws K) : yOk g M d pc lv st ws K := by
  intro p e R s m args below meth c Q H locs ls ce sl hF hW hlv hce hsl hRT
  have e1 := hlv.2.2.2 i _ hi
  rcases hd with ⟨hd, rfl⟩ | ⟨k, hd, rfl, rfl⟩
  · exact lv_aload hF.1 hF.2.1 hd e1 (h p e R s m args below meth c Q H locs ls ce sl hF hW hlv hce hsl hRT)
  · exact lv_aload_n hF.1 hF.2.1 hd rfl e1 (h p e R s m args below meth c Q H locs ls ce sl hF hW hlv hce hsl hRT)
theorem yo_istore {i len : Nat} {x : Int32} (hd : (decode M.2.1 pc = .ok (.istore i, 2) ∧ len = 2) ∨ ∃ k : Fin 4, decode M.2.1 pc = .ok (.istore_n k, 1) ∧ k.val = i ∧ len = 1) (hn : ∀ (j : Nat) (w : Value), j + 1 = i → lv[j]? = some (some w) → w.category = 1) (hi : i < lv.length) (h : yOk g M d (pc + len) (lv.set i (some (.int x))) st ws K) : yOk g M d pc lv (.int x :: st) ws K := by
  intro p e R s m args below meth c Q H locs ls ce sl hF hW hlv hce hsl hRT
  have hi' : i < M.2.2.1 := by rw [← hlv.1]; exact hi
  rcases hd with ⟨hd, rfl⟩ | ⟨k, hd, rfl, rfl⟩
  · exact lv_istore hF.1 hF.2.1 hd (xvals_has hlv.2.1 hlv.2.2.1) hi' rfl (fun ls' hl => h p e R s m args below meth c Q H locs ls' ce sl hF hW (yLv_st1 hlv hn hi hl) hce hsl hRT)
  · exact lv_istore_n hF.1 hF.2.1 hd rfl (xvals_has hlv.2.1 hlv.2.2.1) hi' rfl (fun ls' hl => h p e R s m args below meth c Q H locs ls' ce sl hF hW (yLv_st1 hlv hn hi hl) hce hsl hRT)
theorem yo_astore {i len : Nat} {q : Nat} (hd : (decode M.2.1 pc = .ok (.astore i, 2) ∧ len = 2) ∨ ∃ k : Fin 4, decode M.2.1 pc = .ok (.astore_n k, 1) ∧ k.val = i ∧ len = 1) (hn : ∀ (j : Nat) (w : Value), j + 1 = i → lv[j]? = some (some w) → w.category = 1) (hi : i < lv.length) (h : yOk g M d (pc + len) (lv.set i (some (.ref q))) st ws K) : yOk g M d pc lv (.ref q :: st) ws K := by
  intro p e R s m args below meth c Q H locs ls ce sl hF hW hlv hce hsl hRT
  have hi' : i < M.2.2.1 := by rw [← hlv.1]; exact hi
  rcases hd with ⟨hd, rfl⟩ | ⟨k, hd, rfl, rfl⟩
  · exact lv_astore hF.1 hF.2.1 hd (xvals_has hlv.2.1 hlv.2.2.1) hi' rfl (fun ls' hl => h p e R s m args below meth c Q H locs ls' ce sl hF hW (yLv_st1 hlv hn hi hl) hce hsl hRT)
  · exact lv_astore_n hF.1 hF.2.1 hd rfl (xvals_has hlv.2.1 hlv.2.2.1) hi' rfl (fun ls' hl => h p e R s m args below meth c Q H locs ls' ce sl hF hW (yLv_st1 hlv hn hi hl) hce hsl hRT)
theorem yo_lstore {i len : Nat} {x : Int64} (hd : (decode M.2.1 pc = .ok (.lstore i, 2) ∧ len = 2) ∨ ∃ k : Fin 4, decode M.2.1 pc = .ok (.lstore_n k, 1) ∧ k.val = i ∧ len = 1) (hn : ∀ (j : Nat) (w : Value), j + 1 = i → lv[j]? = some (some w) → w.category = 1) (hi : i + 1 < lv.length) (h : yOk g M d (pc + len) ((lv.set i (some (.long x))).set (i + 1) none) st ws K) : yOk g M d pc lv (.long x :: st) ws K := by
  intro p e R s m args below meth c Q H locs ls ce sl hF hW hlv hce hsl hRT
  have hi' : i + 1 < M.2.2.1 := by rw [← hlv.1]; exact hi
  rcases hd with ⟨hd, rfl⟩ | ⟨k, hd, rfl, rfl⟩
  · exact lv_lstore hF.1 hF.2.1 hd (xvals_has hlv.2.1 hlv.2.2.1) hi' rfl (fun ls' hl => h p e R s m args below meth c Q H locs ls' ce sl hF hW (yLv_st2 hlv hn (Nat.lt_of_succ_lt hi) hi hl) hce hsl hRT)
  · exact lv_lstore_n hF.1 hF.2.1 hd rfl (xvals_has hlv.2.1 hlv.2.2.1) hi' rfl (fun ls' hl => h p e R s m args below meth c Q H locs ls' ce sl hF hW (yLv_st2 hlv hn (Nat.lt_of_succ_lt hi) hi hl) hce hsl hRT)
theorem yo_iinc {i : Nat} {n : Int} {x : Int32} (hd : decode M.2.1 pc = .ok (.iinc i n, 3)) (hi : lv[i]? = some (some (.int x))) (hn : ∀ (j : Nat) (w : Value), j + 1 = i → lv[j]? = some (some w) → w.category = 1) (h : yOk g M d (pc + 3) (lv.set i (some (.int (x + Int32.ofInt n)))) st ws K) : yOk g M d pc lv st ws K := by
  intro p e R s m args below meth c Q H locs ls ce sl hF hW hlv hce hsl hRT
  have e1 := hlv.2.2.2 i _ hi
  have h5 := (List.getElem?_eq_some_iff.mp hi).1
  have hi' : i < M.2.2.1 := by rw [← hlv.1]; exact h5
  obtain ⟨k, hk2⟩ := List.getElem?_of_mem (xvals_mem e1 hi')
  exact lv_iinc hF.1 hF.2.1 hd (xvals_has hlv.2.1 hlv.2.2.1) hk2 rfl hi' rfl (fun ls' hl => h p e R s m args below meth c Q H locs ls' ce sl hF hW (yLv_st1 hlv hn h5 hl) hce hsl hRT)
/-- two ints, one int -/
theorem yo_bin {F : Int32 → Int32 → Int32} {x y : Int32} (hS : xStep2 g.1 M pc F) (h : yOk g M d (pc + 1) lv (.int (F x y) :: st) ws K) : yOk g M d pc lv (.int y :: .int x :: st) ws K :=
  fun p e R s m args below meth c Q H locs ls ce sl hF hW hlv hce hsl hRT => hS p e R s m args below meth c Q H locs ls st x y ce sl hF.1 hF.2.1 (h p e R s m args below meth c Q H locs ls ce sl hF hW hlv hce hsl hRT)
theorem yo_iadd {x y : Int32} (hd : decode M.2.1 pc = .ok (.iadd, 1)) (h : yOk g M d (pc + 1) lv (.int (x + y) :: st) ws K) : yOk g M d pc lv (.int y :: .int x :: st) ws K :=
  yo_bin (F := fun x y => x + y) (fun p e R s m args below meth c Q H locs ls rest x y ce sl hx hb k => lv_iadd hx hb hd k) h
theorem yo_isub {x y : Int32} (hd : decode M.2.1 pc = .ok (.isub, 1)) (h : yOk g M d (pc + 1) lv (.int (x - y) :: st) ws K) : yOk g M d pc lv (.int y :: .int x :: st) ws K :=
  yo_bin (F := fun x y => x - y) (fun p e R s m args below meth c Q H locs ls rest x y ce sl hx hb k => lv_isub hx hb hd k) h
theorem yo_imul {x y : Int32} (hd : decode M.2.1 pc = .ok (.imul, 1)) (h : yOk g M d (pc + 1) lv (.int (x * y) :: st) ws K) : yOk g M d pc lv (.int y :: .int x :: st) ws K :=
  yo_bin (F := fun x y => x * y) (fun p e R s m args below meth c Q H locs ls rest x y ce sl hx hb k => lv_imul hx hb hd k) h
theorem yo_iand {x y : Int32} (hd : decode M.2.1 pc = .ok (.iand, 1)) (h : yOk g M d (pc + 1) lv (.int (x &&& y) :: st) ws K) : yOk g M d pc lv (.int y :: .int x :: st) ws K :=
  yo_bin (F := fun x y => x &&& y) (fun p e R s m args below meth c Q H locs ls rest x y ce sl hx hb k => lv_iand hx hb hd k) h
theorem yo_ior {x y : Int32} (hd : decode M.2.1 pc = .ok (.ior, 1)) (h : yOk g M d (pc + 1) lv (.int (x ||| y) :: st) ws K) : yOk g M d pc lv (.int y :: .int x :: st) ws K :=
  yo_bin (F := fun x y => x ||| y) (fun p e R s m args below meth c Q H locs ls rest x y ce sl hx hb k => lv_ior hx hb hd k) h
theorem yo_ixor {x y : Int32} (hd : decode M.2.1 pc = .ok (.ixor, 1)) (h : yOk g M d (pc + 1) lv (.int (x ^^^ y) :: st) ws K) : yOk g M d pc lv (.int y :: .int x :: st) ws K :=
  yo_bin (F := fun x y => x ^^^ y) (fun p e R s m args below meth c Q H locs ls rest x y ce sl hx hb k => lv_ixor hx hb hd k) h
theorem yo_ishl {x y : Int32} (hd : decode M.2.1 pc = .ok (.ishl, 1)) (h : yOk g M d (pc + 1) lv (.int (x <<< (y &&& 31)) :: st) ws K) : yOk g M d pc lv (.int y :: .int x :: st) ws K :=
  yo_bin (F := fun x y => x <<< (y &&& 31)) (fun p e R s m args below meth c Q H locs ls rest x y ce sl hx hb k => lv_ishl hx hb hd k) h
theorem yo_ishr {x y : Int32} (hd : decode M.2.1 pc = .ok (.ishr, 1)) (h : yOk g M d (pc + 1) lv (.int (x >>> (y &&& 31)) :: st) ws K) : yOk g M d pc lv (.int y :: .int x :: st) ws K :=
  yo_bin (F := fun x y => x >>> (y &&& 31)) (fun p e R s m args below meth c Q H locs ls rest x y ce sl hx hb k => lv_ishr hx hb hd k) h
theorem yo_iushr {x y : Int32} (hd : decode M.2.1 pc = .ok (.iushr, 1)) (h : yOk g M d (pc + 1) lv (.int (x.toUInt32 >>> (y.toUInt32 &&& Int32.toUInt32 31)).toInt32 :: st) ws K) : yOk g M d pc lv (.int y :: .int x :: st) ws K :=
  yo_bin (F := fun x y => (x.toUInt32 >>> (y.toUInt32 &&& Int32.toUInt32 31)).toInt32) (fun p e R s m args below meth c Q H locs ls rest x y ce sl hx hb k => lv_iushr hx hb hd rfl k) h
theorem yo_idiv {x y : Int32} (hd : decode M.2.1 pc = .ok (.idiv, 1)) (h0 : ¬ y = 0) (h : yOk g M d (pc + 1) lv (.int (x / y) :: st) ws K) : yOk g M d pc lv (.int y :: .int x :: st) ws K :=
  fun p e R s m args below meth c Q H locs ls ce sl hF hW hlv hce hsl hRT => lv_idiv hF.1 hF.2.1 hd h0 (h p e R s m args below meth c Q H locs ls ce sl hF hW hlv hce hsl hRT)
theorem yo_irem {x y : Int32} (hd : decode M.2.1 pc = .ok (.irem, 1)) (h0 : ¬ y = 0) (h : yOk g M d (pc + 1) lv (.int (x - x / y * y) :: st) ws K) : yOk g M d pc lv (.int y :: .int x :: st) ws K :=
  fun p e R s m args below meth c Q H locs ls ce sl hF hW hlv hce hsl hRT => lv_irem hF.1 hF.2.1 hd h0 (h p e R s m args below meth c Q H locs ls ce sl hF hW hlv hce hsl hRT)
theorem yo_ineg {x : Int32} (hd : decode M.2.1 pc = .ok (.ineg, 1)) (h : yOk g M d (pc + 1) lv (.int (-x) :: st) ws K) : yOk g M d pc lv (.int x :: st) ws K :=
  fun p e R s m args below meth c Q H locs ls ce sl hF hW hlv hce hsl hRT => lv_ineg hF.1 hF.2.1 hd (h p e R s m args below meth c Q H locs ls ce sl hF hW hlv hce hsl hRT)
theorem yo_i2b {x : Int32} (hd : decode M.2.1 pc = .ok (.i2b, 1)) (h : yOk g M d (pc + 1) lv (.int x.toInt8.toInt32 :: st) ws K) : yOk g M d pc lv (.int x :: st) ws K :=
  fun p e R s m args below meth c Q H locs ls ce sl hF hW hlv hce hsl hRT => lv_i2b hF.1 hF.2.1 hd rfl (h p e R s m args below meth c Q H locs ls ce sl hF hW hlv hce hsl hRT)
theorem yo_i2c {x : Int32} (hd : decode M.2.1 pc = .ok (.i2c, 1)) (h : yOk g M d (pc + 1) lv (.int (x.toUInt32 % 65536).toInt32 :: st) ws K) : yOk g M d pc lv (.int x :: st) ws K :=
  fun p e R s m args below meth c Q H locs ls ce sl hF hW hlv hce hsl hRT => lv_i2c hF.1 hF.2.1 hd rfl (h p e R s m args below meth c Q H locs ls ce sl hF hW hlv hce hsl hRT)
theorem yo_i2l {x : Int32} (hd : decode M.2.1 pc = .ok (.i2l, 1)) (h : yOk g M d (pc + 1) lv (.long x.toInt64 :: st) ws K) : yOk g M d pc lv (.int x :: st) ws K :=
  fun p e R s m args below meth c Q H locs ls ce sl hF hW hlv hce hsl hRT => lv_i2l hF.1 hF.2.1 hd rfl (h p e R s m args below meth c Q H locs ls ce sl hF hW hlv hce hsl hRT)
theorem yo_l2i {x : Int64} (hd : decode M.2.1 pc = .ok (.l2i, 1)) (h : yOk g M d (pc + 1) lv (.int x.toInt32 :: st) ws K) : yOk g M d pc lv (.long x :: st) ws K :=
  fun p e R s m args below meth c Q H locs ls ce sl hF hW hlv hce hsl hRT => lv_l2i hF.1 hF.2.1 hd rfl (h p e R s m args below meth c Q H locs ls ce sl hF hW hlv hce hsl hRT)
theorem yo_ladd {x y : Int64} (hd : decode M.2.1 pc = .ok (.ladd, 1)) (h : yOk g M d (pc + 1) lv (.long (x + y) :: st) ws K) : yOk g M d pc lv (.long y :: .long x :: st) ws K :=
  fun p e R s m args below meth c Q H locs ls ce sl hF hW hlv hce hsl hRT => lv_ladd hF.1 hF.2.1 hd (h p e R s m args below meth c Q H locs ls ce sl hF hW hlv hce hsl hRT)
theorem yo_lmul {x y : Int64} (hd : decode M.2.1 pc = .ok (.lmul, 1)) (h : yOk g M d (pc + 1) lv (.long (x * y) :: st) ws K) : yOk g M d pc lv (.long y :: .long x :: st) ws K :=
  fun p e R s m args below meth c Q H locs ls ce sl hF hW hlv hce hsl hRT => lv_lmul hF.1 hF.2.1 hd (h p e R s m args below meth c Q H locs ls ce sl hF hW hlv hce hsl hRT)
theorem yo_land {x y : Int64} (hd : decode M.2.1 pc = .ok (.land, 1)) (h : yOk g M d (pc + 1) lv (.long (x &&& y) :: st) ws K) : yOk g M d pc lv (.long y :: .long x :: st) ws K :=
  fun p e R s m args below meth c Q H locs ls ce sl hF hW hlv hce hsl hRT => lv_land hF.1 hF.2.1 hd (h p e R s m args below meth c Q H locs ls ce sl hF hW hlv hce hsl hRT)
theorem yo_lor {x y : Int64} (hd : decode M.2.1 pc = .ok (.lor, 1)) (h : yOk g M d (pc + 1) lv (.long (x ||| y) :: st) ws K) : yOk g M d pc lv (.long y :: .long x :: st) ws K :=
  fun p e R s m args below meth c Q H locs ls ce sl hF hW hlv hce hsl hRT => lv_lor hF.1 hF.2.1 hd (h p e R s m args below meth c Q H locs ls ce sl hF hW hlv hce hsl hRT)
theorem yo_lshl {x : Int64} {y : Int32} (hd : decode M.2.1 pc = .ok (.lshl, 1)) (h : yOk g M d (pc + 1) lv (.long (x <<< (y.toInt64 &&& 63)) :: st) ws K) : yOk g M d pc lv (.int y :: .long x :: st) ws K :=
  fun p e R s m args below meth c Q H locs ls ce sl hF hW hlv hce hsl hRT => lv_lshl hF.1 hF.2.1 hd rfl (h p e R s m args below meth c Q H locs ls ce sl hF hW hlv hce hsl hRT)
theorem yo_lushr {x : Int64} {y : Int32} (hd : decode M.2.1 pc = .ok (.lushr, 1)) (h : yOk g M d (pc + 1) lv (.long (x.toUInt64 >>> (y.toInt64.toUInt64 &&& Int64.toUInt64 63)).toInt64 :: st) ws K) : yOk g M d pc lv (.int y :: .long x :: st) ws K :=
  fun p e R s m args below meth c Q H locs ls ce sl hF hW hlv hce hsl hRT => lv_lushr hF.1 hF.2.1 hd rfl (h p e R s m args below meth c Q H locs ls ce sl hF hW hlv hce hsl hRT)
theorem yo_lcmp {x y : Int64} (hd : decode M.2.1 pc = .ok (.lcmp, 1)) (h : yOk g M d (pc + 1) lv (.int (lg_cmp x y) :: st) ws K) : yOk g M d pc lv (.long y :: .long x :: st) ws K :=
  fun p e R s m args below meth c Q H locs ls ce sl hF hW hlv hce hsl hRT => W.lcmp hF.1 hF.2.1 hd (h p e R s m args below meth c Q H locs ls ce sl hF hW hlv hce hsl hRT)
theorem yo_dup {v : Value} (hd : decode M.2.1 pc = .ok (.dup, 1)) (hc : v.category = 1) (h : yOk g M d (pc + 1) lv (v :: v :: st) ws K) : yOk g M d pc lv (v :: st) ws K :=
  fun p e R s m args below meth c Q H locs ls ce sl hF hW hlv hce hsl hRT => lv_dup hF.1 hF.2.1 hd hc (h p e R s m args below meth c Q H locs ls ce sl hF hW hlv hce hsl hRT)
theorem yo_pop {v : Value} (hd : decode M.2.1 pc = .ok (.pop, 1)) (hc : v.category = 1) (h : yOk g M d (pc + 1) lv st ws K) : yOk g M d pc lv (v :: st) ws K :=
  fun p e R s m args below meth c Q H locs ls ce sl hF hW hlv hce hsl hRT => lv_pop hF.1 hF.2.1 hd hc (h p e R s m args below meth c Q H locs ls ce sl hF hW hlv hce hsl hRT)
theorem yo_dup2 {v w : Value} (hd : decode M.2.1 pc = .ok (.dup2, 1)) (hc : v.category = 1) (hc2 : w.category = 1) (h : yOk g M d (pc + 1) lv (v :: w :: v :: w :: st) ws K) : yOk g M d pc lv (v :: w :: st) ws K :=
  fun p e R s m args below meth c Q H locs ls ce sl hF hW hlv hce hsl hRT => lv_dup2_11 hF.1 hF.2.1 hd hc hc2 (h p e R s m args below meth c Q H locs ls ce sl hF hW hlv hce hsl hRT)
theorem yo_goto {off : Int} {tgt : Nat} (hd : decode M.2.1 pc = .ok (.goto off, 3)) (ht : (pc : Int) + off = (tgt : Int)) (h : yOk g M d tgt lv st ws K) : yOk g M d pc lv st ws K :=
  fun p e R s m args below meth c Q H locs ls ce sl hF hW hlv hce hsl hRT => lv_goto hF.1 hF.2.1 hd ht (h p e R s m args below meth c Q H locs ls ce sl hF hW hlv hce hsl hRT)
theorem yo_icmp {cd : ClassFile.Cond} {off : Int} {tgt : Nat} {x y : Int32} (hd : decode M.2.1 pc = .ok (.if_icmp cd off, 3)) (ht : (pc : Int) + off = (tgt : Int)) (hj : xci cd x.toInt y.toInt → yOk g M d tgt lv st ws K) (hn : ¬ xci cd x.toInt y.toInt → yOk g M d (pc + 3) lv st ws K) : yOk g M d pc lv (.int y :: .int x :: st) ws K := by
  intro p e R s m args below meth c Q H locs ls ce sl hF hW hlv hce hsl hRT
  have t1 := fun hp => hj hp p e R s m args below meth c Q H locs ls ce sl hF hW hlv hce hsl hRT
  have t2 := fun hp => hn hp p e R s m args below meth c Q H locs ls ce sl hF hW hlv hce hsl hRT
  cases cd
  · exact lv_icmp_eq hF.1 hF.2.1 hd ht (fun q => t1 (show x.toInt = y.toInt by rw [q])) (fun q => t2 (fun z => q (Int32.toInt_inj.mp z)))
  · exact lv_icmp_ne hF.1 hF.2.1 hd ht (fun q => t1 (fun z => q (Int32.toInt_inj.mp z))) (fun q => t2 (fun z => z (by rw [q])))
  · exact lv_icmp_lt hF.1 hF.2.1 hd ht (fun q => t1 (Int32.lt_iff_toInt_lt.mp q)) (fun q => t2 (fun z => q (Int32.lt_iff_toInt_lt.mpr z)))
  · exact lv_icmp_ge hF.1 hF.2.1 hd ht (fun q => t1 (Int32.le_iff_toInt_le.mp q)) (fun q => t2 (fun z => q (Int32.le_iff_toInt_le.mpr z)))
  · exact lv_icmp_gt hF.1 hF.2.1 hd ht (fun q => t1 (Int32.lt_iff_toInt_lt.mp q)) (fun q => t2 (fun z => q (Int32.lt_iff_toInt_lt.mpr z)))
  · exact lv_icmp_le hF.1 hF.2.1 hd ht (fun q => t1 (Int32.le_iff_toInt_le.mp q)) (fun q => t2 (fun z => q (Int32.le_iff_toInt_le.mpr z)))
theorem yo_if {cd : ClassFile.Cond} {off : Int} {tgt : Nat} {x : Int32} (hd : decode M.2.1 pc = .ok (.ifCond cd off, 3)) (ht : (pc : Int) + off = (tgt : Int)) (hj : xci cd x.toInt 0 → yOk g M d tgt lv st ws K) (hn : ¬ xci cd x.toInt 0 → yOk g M d (pc + 3) lv st ws K) : yOk g M d pc lv (.int x :: st) ws K := by
  intro p e R s m args below meth c Q H locs ls ce sl hF hW hlv hce hsl hRT
  have t1 := fun hp => hj hp p e R s m args below meth c Q H locs ls ce sl hF hW hlv hce hsl hRT
  have t2 := fun hp => hn hp p e R s m args below meth c Q H locs ls ce sl hF hW hlv hce hsl hRT
  have e0 : ∀ z : Int32, z.toInt = 0 ↔ z = 0 := fun z => by rw [← Int32.toInt_zero]; exact Int32.toInt_inj
  have e1 : ∀ z : Int32, z.toInt < 0 ↔ z < 0 := fun z => by rw [Int32.lt_iff_toInt_lt, Int32.toInt_zero]
  have e2 : ∀ z : Int32, 0 ≤ z.toInt ↔ 0 ≤ z := fun z => by rw [Int32.le_iff_toInt_le, Int32.toInt_zero]
  have e3 : ∀ z : Int32, 0 < z.toInt ↔ 0 < z := fun z => by rw [Int32.lt_iff_toInt_lt, Int32.toInt_zero]
  have e4 : ∀ z : Int32, z.toInt ≤ 0 ↔ z ≤ 0 := fun z => by rw [Int32.le_iff_toInt_le, Int32.toInt_zero]
  cases cd
  · exact lv_if_eq hF.1 hF.2.1 hd ht (fun q => t1 ((e0 x).mpr q)) (fun q => t2 (fun z => q ((e0 x).mp z)))
  · exact lv_if_ne hF.1 hF.2.1 hd ht (fun q => t1 (fun z => q ((e0 x).mp z))) (fun q => t2 (fun z => z ((e0 x).mpr q)))
  · exact lv_if_lt hF.1 hF.2.1 hd ht (fun q => t1 ((e1 x).mpr q)) (fun q => t2 (fun z => q ((e1 x).mp z)))
  · exact lv_if_ge hF.1 hF.2.1 hd ht (fun q => t1 ((e2 x).mpr q)) (fun q => t2 (fun z => q ((e2 x).mp z)))
  · exact lv_if_gt hF.1 hF.2.1 hd ht (fun q => t1 ((e3 x).mpr q)) (fun q => t2 (fun z => q ((e3 x).mp z)))
  · exact lv_if_le hF.1 hF.2.1 hd ht (fun q => t1 ((e4 x).mpr q)) (fun q => t2 (fun z => q ((e4 x).mp z)))
theorem yo_tabOut {dflt lo hi : Int} {offs : Array Int} {len tgt : Nat} {x : Int32} (hd : decode M.2.1 pc = .ok (.tableswitch dflt lo hi offs, len)) (hx : x.toInt < lo ∨ hi < x.toInt) (ht : (pc : Int) + dflt = (tgt : Int)) (h : yOk g M d tgt lv st ws K) : yOk g M d pc lv (.int x :: st) ws K :=
  fun p e R s m args below meth c Q H locs ls ce sl hF hW hlv hce hsl hRT => lv_tableOut hF.1 hF.2.1 hd hx ht (h p e R s m args below meth c Q H locs ls ce sl hF hW hlv hce hsl hRT)
theorem yo_tabIn {dflt lo hi o : Int} {offs : Array Int} {len tgt : Nat} {x : Int32} (hd : decode M.2.1 pc = .ok (.tableswitch dflt lo hi offs, len)) (h1 : lo ≤ x.toInt) (h2 : x.toInt ≤ hi) (ho : offs[(x.toInt - lo).toNat]? = some o) (ht : (pc : Int) + o = (tgt : Int)) (h : yOk g M d tgt lv st ws K) : yOk g M d pc lv (.int x :: st) ws K :=
  fun p e R s m args below meth c Q H locs ls ce sl hF hW hlv hce hsl hRT => lv_tableIn hF.1 hF.2.1 hd (Int.not_lt.mpr h1) (Int.not_lt.mpr h2) ho ht (h p e R s m args below meth c Q H locs ls ce sl hF hW hlv hce hsl hRT)
theorem yo_look {dflt o : Int} {ps : Array (Int × Int)} {len tgt : Nat} {x : Int32} (hd : decode M.2.1 pc = .ok (.lookupswitch dflt ps, len)) (h1 : (ps.toList.zip (ps.toList.drop 1)).all (fun (a, next) => a.1 < next.1) = true) (ho : Op.lookupswitch.offset ps.toList dflt x.toInt = o) (ht : (pc : Int) + o = (tgt : Int)) (h : yOk g M d tgt lv st ws K) : yOk g M d pc lv (.int x :: st) ws K :=
  fun p e R s m args below meth c Q H locs ls ce sl hF hW hlv hce hsl hRT => lv_lookup hF.1 hF.2.1 hd h1 ho ht (h p e R s m args below meth c Q H locs ls ce sl hF hW hlv hce hsl hRT)
end YI
