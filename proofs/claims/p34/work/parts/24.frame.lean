/-! a method's frame: what is fixed in it; what its end must give -/
/-- what lies below: links of nest mates, texts, two statics, the script -/
def xEX (X : xX) (bs L : Nat) (xs : Nat → Int32) (U : State) (H : Heap) : Prop :=
  (∀ w ∈ xNW, va_Nw w U) ∧ (∀ q ∈ xSR, vk_R q.1 q.2.1 q.2.2.1 (X.2.1 q.2.2.2) U) ∧ vk_S xBY.length (xBY.map List.length) xBY X.2.1 X.2.2 (xAA bs) U H ∧ va_Z "java/lang/String" "COMPACT_STRINGS" "Z" (.int 1) (xAA bs) U H ∧ va_Zq "jdk/internal/util/Preconditions" "SIOOBE_FORMATTER" "Ljava/util/function/BiFunction;" (xAA bs) U H ∧ va_X X.1 L xs U H ∧ X.1 < bs
/-- the launch, what lies below, the classes' numbers, where the law began, the script -/
abbrev xGl : Type := Launch × xX × va_G × Nat × Nat × (Nat → Int32)
def xF (g : xGl) (M : xM) (d : Nat) (p : Program) (R : Room) (s : State) (m : MethodId) (args : Array Value) (meth : Method) (c : Code) : Prop :=
  p.tables.exec = Jvm.exec ∧ c.code = M.2.1 ∧ c.maxLocals = M.2.2.1 ∧ (∀ w ∈ xTb, w.before args s = true) ∧ s.vm.findClass M.1.cls = some m.cls ∧ (M.1.name = "<init>" → meth.name = "<init>") ∧ xEX g.2.1 g.2.2.2.1 g.2.2.2.2.1 g.2.2.2.2.2 s s.heap ∧ g.2.2.2.1 ≤ s.heap.size ∧ d + 1 ≤ R.frames ∧ 64 * (d + 1) ≤ R.locals ∧ M.2.2.2.2.1 ≤ R.cells ∧ M.2.2.2.2.2.1 ≤ R.slots
abbrev xWg (g : xGl) (ρ : List Int32) (ws : va_W) (tys : List (ClassId × FieldType)) (h : xH) (H : Heap) (s : State) (locs : List Loc) : Prop := xWd g.2.1 g.2.2.1 g.2.2.2.1 ρ ws tys h H s locs
def xRT (g : xGl) (M : xM) (p : Program) (e : Env) (R : Room) (s : State) (m : MethodId) (args : Array Value) (below : List Frame) (meth : Method) (c : Code) (Q : State → Prop) (outs : List xO) (ρ : List Int32) (ws : va_W) : Prop :=
  ∀ o ∈ outs, ∀ (ρ' : List Int32) (ws' : va_W) (tys' : List (ClassId × FieldType)) (H' : Heap) (locs' : List Loc) (ls' : Array Slot) (pc' ce' sl' : Nat), xx_e ρ ρ' → xx_e (xaw ws) (xaw ws') → xsat o.2.2 ρ' → xWg g ρ' ws' tys' o.2.1 H' s locs' → ce' ≤ M.2.2.2.2.1 → sl' ≤ M.2.2.2.2.2.1 →
    (o.1 = none → M.2.2.2.1 = none → decode M.2.1 pc' = .ok (.return_, 1) → W p g.1 e R s m args below meth c H' locs' ce' sl' Q (F0 m pc' ls' [])) ∧
    (∀ (a : xV) (x : Int32) (ty : FieldType), o.1 = some a → M.2.2.2.1 = some ty → xv g.2.1 ρ' (xaw ws') a (.int x) → narrow ty (.int x) = .int x → decode M.2.1 pc' = .ok (.ireturn, 1) → W p g.1 e R s m args below meth c H' locs' ce' sl' Q (F0 m pc' ls' [.int x])) ∧
    (∀ (a : xV) (x : Int64), o.1 = some a → M.2.2.2.1 = some .long → xv g.2.1 ρ' (xaw ws') a (.long x) → decode M.2.1 pc' = .ok (.lreturn, 1) → W p g.1 e R s m args below meth c H' locs' ce' sl' Q (F0 m pc' ls' [.long x]))
theorem xRT_mono {g : xGl} {M : xM} {p : Program} {e : Env} {R : Room} {s : State} {m : MethodId} {args : Array Value} {below : List Frame} {meth : Method} {c : Code} {Q : State → Prop} {outs outs' : List xO} {ρ ρ1 : List Int32} {ws ws1 : va_W} (h : xRT g M p e R s m args below meth c Q outs ρ ws) (h1 : ∀ o ∈ outs', o ∈ outs) (h2 : xx_e ρ ρ1) (h3 : xx_e (xaw ws) (xaw ws1)) : xRT g M p e R s m args below meth c Q outs' ρ1 ws1 :=
  fun o ho ρ' ws' tys' H' locs' ls' pc' ce' sl' e1 e2 => h o (h1 o ho) ρ' ws' tys' H' locs' ls' pc' ce' sl' (xx_e_tr h2 e1) (xx_e_tr h3 e2)
/-- the symbols of the script: its six ints and the first one's call; or its length -/
def xrho (g : xGl) : List Int32 := if g.2.2.2.2.1 = 6 then [g.2.2.2.2.2 0, g.2.2.2.2.2 1, g.2.2.2.2.2 2, g.2.2.2.2.2 3, g.2.2.2.2.2 4, g.2.2.2.2.2 5, g.2.2.2.2.2 0 &&& 63] else [Int32.ofNat g.2.2.2.2.1]
/-- at place pc, in a state as the run has it, the machine comes to the method's end -/
def xOk (g : xGl) (M : xM) (d pc : Nat) (lv st : List xV) (h : xH) (sy : xS) (ce sl : Nat) (outs : List xO) : Prop :=
  ∀ (p : Program) (e : Env) (R : Room) (s : State) (m : MethodId) (args : Array Value) (below : List Frame) (meth : Method) (c : Code) (Q : State → Prop) (H : Heap) (locs : List Loc) (ls : Array Slot) (vs : List Value) (ρ : List Int32) (ws : va_W) (tys : List (ClassId × FieldType)),
    xF g M d p R s m args meth c → xWg g ρ ws tys h H s locs → xsat sy ρ → xx_e (xrho g) ρ → xx_2 (xv g.2.1 ρ (xaw ws)) st vs → xLv g.2.1 ρ (xaw ws) M.2.2.1 lv ls → xRT g M p e R s m args below meth c Q outs ρ ws → W p g.1 e R s m args below meth c H locs ce sl Q (F0 m pc ls vs)
def xNok (g : xGl) (M : xM) (d pc : Nat) (k : xN) : Prop := ∀ (lv st : List xV) (h : xH) (sy : xS) (ce sl : Nat) (outs : List xO), k lv st h sy ce sl = some outs → xOk g M d pc lv st h sy ce sl outs
section XI
variable {g : xGl} {M : xM} {d pc : Nat} {nx ag : xN} {jp : Nat → xN} {ca : xK}
/-- a value is pushed -/
theorem xs_iconst {n : Int} (hd : decode M.2.1 pc = .ok (.iconst n, 1)) (hn : xNok g M d (pc + 1) nx) : xNok g M d pc (xd_push (0, xx_n (Int32.ofInt n)) nx jp ag ca) := by
  intro lv st h sy ce sl outs hk p e R s m args below meth c Q H locs ls vs ρ ws tys hF hW hs hr hst hlv hRT
  refine lv_iconst hF.1 hF.2.1 hd rfl ?_
  exact hn _ _ _ _ _ _ _ hk p e R s m args below meth c Q H locs ls _ ρ ws tys hF hW hs hr ⟨congrArg Value.int (xx_n_of _).symm, hst⟩ hlv hRT
theorem xs_bipush {n : Int} (hd : decode M.2.1 pc = .ok (.bipush n, 2)) (hn : xNok g M d (pc + 2) nx) : xNok g M d pc (xd_push (0, xx_n (Int8.ofInt n).toInt32) nx jp ag ca) := by
  intro lv st h sy ce sl outs hk p e R s m args below meth c Q H locs ls vs ρ ws tys hF hW hs hr hst hlv hRT
  refine lv_bipush hF.1 hF.2.1 hd rfl ?_
  exact hn _ _ _ _ _ _ _ hk p e R s m args below meth c Q H locs ls _ ρ ws tys hF hW hs hr ⟨congrArg Value.int (xx_n_of _).symm, hst⟩ hlv hRT
theorem xs_sipush {n : Int} (hd : decode M.2.1 pc = .ok (.sipush n, 3)) (hn : xNok g M d (pc + 3) nx) : xNok g M d pc (xd_push (0, xx_n (Int16.ofInt n).toInt32) nx jp ag ca) := by
  intro lv st h sy ce sl outs hk p e R s m args below meth c Q H locs ls vs ρ ws tys hF hW hs hr hst hlv hRT
  refine lv_sipush hF.1 hF.2.1 hd rfl ?_
  exact hn _ _ _ _ _ _ _ hk p e R s m args below meth c Q H locs ls _ ρ ws tys hF hW hs hr ⟨congrArg Value.int (xx_n_of _).symm, hst⟩ hlv hRT
theorem xs_lconst {n : Fin 2} (hd : decode M.2.1 pc = .ok (.lconst n, 1)) (hn : xNok g M d (pc + 1) nx) : xNok g M d pc (xd_push (4, n.val) nx jp ag ca) := by
  intro lv st h sy ce sl outs hk p e R s m args below meth c Q H locs ls vs ρ ws tys hF hW hs hr hst hlv hRT
  refine lv_lconst hF.1 hF.2.1 hd rfl ?_
  exact hn _ _ _ _ _ _ _ hk p e R s m args below meth c Q H locs ls _ ρ ws tys hF hW hs hr ⟨rfl, hst⟩ hlv hRT
theorem xs_ldc {i n : Nat} (hd : decode M.2.1 pc = .ok (.ldc i, 2)) (hw : Cond.constant M.1.cls i (Int32.ofNat n) ∈ xTb) (hn : xNok g M d (pc + 2) nx) : xNok g M d pc (xd_push (0, n) nx jp ag ca) := by
  intro lv st h sy ce sl outs hk p e R s m args below meth c Q H locs ls vs ρ ws tys hF hW hs hr hst hlv hRT
  refine lv_ldc hF.1 hF.2.1 hF.2.2.2.2.1 (hF.2.2.2.1 _ hw) hd ?_
  exact hn _ _ _ _ _ _ _ hk p e R s m args below meth c Q H locs ls _ ρ ws tys hF hW hs hr ⟨rfl, hst⟩ hlv hRT
theorem xs_ldcw {i n : Nat} (hd : decode M.2.1 pc = .ok (.ldc_w i, 3)) (hw : Cond.constant M.1.cls i (Int32.ofNat n) ∈ xTb) (hn : xNok g M d (pc + 3) nx) : xNok g M d pc (xd_push (0, n) nx jp ag ca) := by
  intro lv st h sy ce sl outs hk p e R s m args below meth c Q H locs ls vs ρ ws tys hF hW hs hr hst hlv hRT
  refine lv_ldcw hF.1 hF.2.1 hF.2.2.2.2.1 (hF.2.2.2.1 _ hw) hd ?_
  exact hn _ _ _ _ _ _ _ hk p e R s m args below meth c Q H locs ls _ ρ ws tys hF hW hs hr ⟨rfl, hst⟩ hlv hRT
theorem xs_ldc2 {i n : Nat} (hd : decode M.2.1 pc = .ok (.ldc2_w i, 3)) (hw : Cond.constantLong M.1.cls i (Int64.ofNat n) ∈ xTb) (hn : xNok g M d (pc + 3) nx) : xNok g M d pc (xd_push (4, n) nx jp ag ca) := by
  intro lv st h sy ce sl outs hk p e R s m args below meth c Q H locs ls vs ρ ws tys hF hW hs hr hst hlv hRT
  refine lv_ldc2 hF.1 hF.2.1 hF.2.2.2.2.1 (hF.2.2.2.1 _ hw) hd ?_
  exact hn _ _ _ _ _ _ _ hk p e R s m args below meth c Q H locs ls _ ρ ws tys hF hW hs hr ⟨rfl, hst⟩ hlv hRT
theorem xs_ldcS {i n : Nat} {tx : String} (hd : decode M.2.1 pc = .ok (.ldc i, 2)) (hw : (M.1.cls, i, tx, n) ∈ xSR) (hn : xNok g M d (pc + 2) nx) : xNok g M d pc (xd_push (7, n) nx jp ag ca) := by
  intro lv st h sy ce sl outs hk p e R s m args below meth c Q H locs ls vs ρ ws tys hF hW hs hr hst hlv hRT
  refine va_ldcS hF.1 hF.2.1 hF.2.2.2.2.1 (hF.2.2.2.2.2.2.1.2.1 _ hw) hd ?_
  exact hn _ _ _ _ _ _ _ hk p e R s m args below meth c Q H locs ls _ ρ ws tys hF hW hs hr ⟨rfl, hst⟩ hlv hRT
/-- loads -/
theorem xs_iload {i len : Nat} (hd : (decode M.2.1 pc = .ok (.iload i, 2) ∧ len = 2) ∨ ∃ k : Fin 4, decode M.2.1 pc = .ok (.iload_n k, 1) ∧ k.val = i ∧ len = 1) (hn : xNok g M d (pc + len) nx) : xNok g M d pc (xd_ld xc_i i nx jp ag ca) := by
  intro lv st h sy ce sl outs hk p e R s m args below meth c Q H locs ls vs ρ ws tys hF hW hs hr hst hlv hRT
  obtain ⟨a, h1, h2⟩ := xk_nth_ok hk
  cases hc : xc_i a with
  | false => rw [hc] at h2; cases h2
  | true =>
    rw [hc] at h2
    obtain ⟨v, e1, e2⟩ := hlv.2.2.2 i a h1 (fun q => by unfold xc_i at hc; rw [q] at hc; exact absurd hc (by decide))
    obtain ⟨x, rfl⟩ := xv_i hc e2
    rcases hd with ⟨hd, rfl⟩ | ⟨k, hd, rfl, rfl⟩
    · exact lv_iload hF.1 hF.2.1 hd e1 (hn _ _ _ _ _ _ _ h2 p e R s m args below meth c Q H locs ls _ ρ ws tys hF hW hs hr ⟨e2, hst⟩ hlv hRT)
    · exact lv_iload_n hF.1 hF.2.1 hd rfl e1 (hn _ _ _ _ _ _ _ h2 p e R s m args below meth c Q H locs ls _ ρ ws tys hF hW hs hr ⟨e2, hst⟩ hlv hRT)
theorem xs_lload {i len : Nat} (hd : (decode M.2.1 pc = .ok (.lload i, 2) ∧ len = 2) ∨ ∃ k : Fin 4, decode M.2.1 pc = .ok (.lload_n k, 1) ∧ k.val = i ∧ len = 1) (hn : xNok g M d (pc + len) nx) : xNok g M d pc (xd_ld xc_l i nx jp ag ca) := by
  intro lv st h sy ce sl outs hk p e R s m args below meth c Q H locs ls vs ρ ws tys hF hW hs hr hst hlv hRT
  obtain ⟨a, h1, h2⟩ := xk_nth_ok hk
  cases hc : xc_l a with
  | false => rw [hc] at h2; cases h2
  | true =>
    rw [hc] at h2
    obtain ⟨v, e1, e2⟩ := hlv.2.2.2 i a h1 (fun q => by unfold xc_l at hc; rw [q] at hc; exact absurd hc (by decide))
    obtain ⟨x, rfl⟩ := xv_l hc e2
    rcases hd with ⟨hd, rfl⟩ | ⟨k, hd, rfl, rfl⟩
    · exact lv_lload hF.1 hF.2.1 hd e1 (hn _ _ _ _ _ _ _ h2 p e R s m args below meth c Q H locs ls _ ρ ws tys hF hW hs hr ⟨e2, hst⟩ hlv hRT)
    · exact lv_lload_n hF.1 hF.2.1 hd rfl e1 (hn _ _ _ _ _ _ _ h2 p e R s m args below meth c Q H locs ls _ ρ ws tys hF hW hs hr ⟨e2, hst⟩ hlv hRT)
theorem xs_aload {i len : Nat} (hd : (decode M.2.1 pc = .ok (.aload i, 2) ∧ len = 2) ∨ ∃ k : Fin 4, decode M.2.1 pc = .ok (.aload_n k, 1) ∧ k.val = i ∧ len = 1) (hn : xNok g M d (pc + len) nx) : xNok g M d pc (xd_ld xc_r i nx jp ag ca) := by
  intro lv st h sy ce sl outs hk p e R s m args below meth c Q H locs ls vs ρ ws tys hF hW hs hr hst hlv hRT
  obtain ⟨a, h1, h2⟩ := xk_nth_ok hk
  cases hc : xc_r a with
  | false => rw [hc] at h2; cases h2
  | true =>
    rw [hc] at h2
    obtain ⟨v, e1, e2⟩ := hlv.2.2.2 i a h1 (fun q => by unfold xc_r at hc; rw [q] at hc; exact absurd hc (by decide))
    obtain ⟨x, rfl⟩ := xv_r hc e2
    rcases hd with ⟨hd, rfl⟩ | ⟨k, hd, rfl, rfl⟩
    · exact lv_aload hF.1 hF.2.1 hd e1 (hn _ _ _ _ _ _ _ h2 p e R s m args below meth c Q H locs ls _ ρ ws tys hF hW hs hr ⟨e2, hst⟩ hlv hRT)
    · exact lv_aload_n hF.1 hF.2.1 hd rfl e1 (hn _ _ _ _ _ _ _ h2 p e R s m args below meth c Q H locs ls _ ρ ws tys hF hW hs hr ⟨e2, hst⟩ hlv hRT)
/-- stores -/
theorem xs_istore {i len : Nat} (hd : (decode M.2.1 pc = .ok (.istore i, 2) ∧ len = 2) ∨ ∃ k : Fin 4, decode M.2.1 pc = .ok (.istore_n k, 1) ∧ k.val = i ∧ len = 1) (hn : xNok g M d (pc + len) nx) : xNok g M d pc (xd_st1 xc_i i nx jp ag ca) := by
  intro lv st h sy ce sl outs hk p e R s m args below meth c Q H locs ls vs ρ ws tys hF hW hs hr hst hlv hRT
  cases st with
  | nil => cases hk
  | cons a st =>
    obtain ⟨v, vs, rfl, hv, hs2⟩ := xx_2_cons hst
    have hk' : cond (and (xc_i a) (xh_nl lv i)) (xk_set lv i a fun lv' => nx lv' st h sy ce sl) none = some outs := hk
    cases hc : and (xc_i a) (xh_nl lv i) with
    | false => rw [hc] at hk'; cases hk'
    | true =>
      rw [hc] at hk'
      have hc' := Bool.and_eq_true_iff.mp hc
      obtain ⟨h1, h2⟩ := xk_set_ok hk'
      obtain ⟨x, rfl⟩ := xv_i hc'.1 hv
      have hi : i < M.2.2.1 := by rw [← hlv.1]; exact h1
      rcases hd with ⟨hd, rfl⟩ | ⟨k, hd, rfl, rfl⟩
      · exact lv_istore hF.1 hF.2.1 hd (xvals_has hlv.2.1 hlv.2.2.1) hi rfl (fun ls' hl => hn _ _ _ _ _ _ _ h2 p e R s m args below meth c Q H locs ls' _ ρ ws tys hF hW hs hr hs2 (xLv_st1 hlv hc'.2 h1 hv hl) hRT)
      · exact lv_istore_n hF.1 hF.2.1 hd rfl (xvals_has hlv.2.1 hlv.2.2.1) hi rfl (fun ls' hl => hn _ _ _ _ _ _ _ h2 p e R s m args below meth c Q H locs ls' _ ρ ws tys hF hW hs hr hs2 (xLv_st1 hlv hc'.2 h1 hv hl) hRT)
theorem xs_astore {i len : Nat} (hd : (decode M.2.1 pc = .ok (.astore i, 2) ∧ len = 2) ∨ ∃ k : Fin 4, decode M.2.1 pc = .ok (.astore_n k, 1) ∧ k.val = i ∧ len = 1) (hn : xNok g M d (pc + len) nx) : xNok g M d pc (xd_st1 xc_r i nx jp ag ca) := by
  intro lv st h sy ce sl outs hk p e R s m args below meth c Q H locs ls vs ρ ws tys hF hW hs hr hst hlv hRT
  cases st with
  | nil => cases hk
  | cons a st =>
    obtain ⟨v, vs, rfl, hv, hs2⟩ := xx_2_cons hst
    have hk' : cond (and (xc_r a) (xh_nl lv i)) (xk_set lv i a fun lv' => nx lv' st h sy ce sl) none = some outs := hk
    cases hc : and (xc_r a) (xh_nl lv i) with
    | false => rw [hc] at hk'; cases hk'
    | true =>
      rw [hc] at hk'
      have hc' := Bool.and_eq_true_iff.mp hc
      obtain ⟨h1, h2⟩ := xk_set_ok hk'
      obtain ⟨x, rfl⟩ := xv_r hc'.1 hv
      have hi : i < M.2.2.1 := by rw [← hlv.1]; exact h1
      rcases hd with ⟨hd, rfl⟩ | ⟨k, hd, rfl, rfl⟩
      · exact lv_astore hF.1 hF.2.1 hd (xvals_has hlv.2.1 hlv.2.2.1) hi rfl (fun ls' hl => hn _ _ _ _ _ _ _ h2 p e R s m args below meth c Q H locs ls' _ ρ ws tys hF hW hs hr hs2 (xLv_st1 hlv hc'.2 h1 hv hl) hRT)
      · exact lv_astore_n hF.1 hF.2.1 hd rfl (xvals_has hlv.2.1 hlv.2.2.1) hi rfl (fun ls' hl => hn _ _ _ _ _ _ _ h2 p e R s m args below meth c Q H locs ls' _ ρ ws tys hF hW hs hr hs2 (xLv_st1 hlv hc'.2 h1 hv hl) hRT)
theorem xs_lstore {i len : Nat} (hd : (decode M.2.1 pc = .ok (.lstore i, 2) ∧ len = 2) ∨ ∃ k : Fin 4, decode M.2.1 pc = .ok (.lstore_n k, 1) ∧ k.val = i ∧ len = 1) (hn : xNok g M d (pc + len) nx) : xNok g M d pc (xd_st2 i nx jp ag ca) := by
  intro lv st h sy ce sl outs hk p e R s m args below meth c Q H locs ls vs ρ ws tys hF hW hs hr hst hlv hRT
  cases st with
  | nil => cases hk
  | cons a st =>
    obtain ⟨v, vs, rfl, hv, hs2⟩ := xx_2_cons hst
    have hk' : cond (and (xc_l a) (xh_nl lv i)) (xk_set lv i a fun lv' => xk_set lv' (Nat.succ i) (9, 0) fun lv'' => nx lv'' st h sy ce sl) none = some outs := hk
    cases hc : and (xc_l a) (xh_nl lv i) with
    | false => rw [hc] at hk'; cases hk'
    | true =>
      rw [hc] at hk'
      have hc' := Bool.and_eq_true_iff.mp hc
      obtain ⟨h1, h2⟩ := xk_set_ok hk'
      obtain ⟨h3, h4⟩ := xk_set_ok h2
      rw [List.length_set] at h3
      obtain ⟨x, rfl⟩ := xv_l hc'.1 hv
      have hi : i + 1 < M.2.2.1 := by rw [← hlv.1]; exact h3
      rcases hd with ⟨hd, rfl⟩ | ⟨k, hd, rfl, rfl⟩
      · exact lv_lstore hF.1 hF.2.1 hd (xvals_has hlv.2.1 hlv.2.2.1) hi rfl (fun ls' hl => hn _ _ _ _ _ _ _ h4 p e R s m args below meth c Q H locs ls' _ ρ ws tys hF hW hs hr hs2 (xLv_st2 hlv hc'.2 h1 h3 hv hl) hRT)
      · exact lv_lstore_n hF.1 hF.2.1 hd rfl (xvals_has hlv.2.1 hlv.2.2.1) hi rfl (fun ls' hl => hn _ _ _ _ _ _ _ h4 p e R s m args below meth c Q H locs ls' _ ρ ws tys hF hW hs hr hs2 (xLv_st2 hlv hc'.2 h1 h3 hv hl) hRT)
theorem xs_iinc {i : Nat} {n : Int} (hd : decode M.2.1 pc = .ok (.iinc i n, 3)) (hn : xNok g M d (pc + 3) nx) : xNok g M d pc (xd_inc i (xx_n (Int32.ofInt n)) nx jp ag ca) := by
  intro lv st h sy ce sl outs hk p e R s m args below meth c Q H locs ls vs ρ ws tys hF hW hs hr hst hlv hRT
  obtain ⟨a, h1, h2⟩ := xk_nth_ok hk
  cases hc : xh_nl lv i with
  | false => rw [hc] at h2; cases h2
  | true =>
    rw [hc] at h2
    have h2' : xh_bin xn_add xg_add (0, xx_n (Int32.ofInt n)) a sy (fun v sy' => xk_set lv i v fun lv' => nx lv' st h sy' ce sl) = some outs := h2
    have hc9 : a.1 ≠ 9 := by
      intro q
      unfold xh_bin at h2'
      rw [q] at h2'
      have h3 : xh_binS xg_add (0, xx_n (Int32.ofInt n)) a sy (fun v sy' => xk_set lv i v fun lv' => nx lv' st h sy' ce sl) = some outs := h2'
      unfold xh_binS xh_rng at h3
      rw [q] at h3
      cases h3
    obtain ⟨v, e1, e2⟩ := hlv.2.2.2 i a h1 hc9
    obtain ⟨x, y, b, sy', ρ', rfl, ey, g1, g2, g3, g4, g5⟩ := xbin_ok (X := g.2.1) (aw := xaw ws) xn_add_ok xgood_add h2' hs e2 (show xv g.2.1 ρ (xaw ws) (0, xx_n (Int32.ofInt n)) (.int (Int32.ofInt n)) from congrArg Value.int (xx_n_of _).symm)
    cases ey
    obtain ⟨h5, h6⟩ := xk_set_ok g1
    have hi : i < M.2.2.1 := by rw [← hlv.1]; exact h5
    obtain ⟨k, hk2⟩ := List.getElem?_of_mem (xvals_mem e1 hi)
    refine lv_iinc hF.1 hF.2.1 hd (xvals_has hlv.2.1 hlv.2.2.1) hk2 rfl hi rfl (fun ls' hl => ?_)
    have hlv' := xLv_mono (aw' := xaw ws) g2 (xx_e_rf _) hlv
    exact hn _ _ _ _ _ _ _ h6 p e R s m args below meth c Q H locs ls' _ ρ' ws tys hF (xWd_mono g2 hW) g3 (xx_e_tr hr g2) (xx_2_mono (fun _ _ q => xv_mono g2 (xx_e_rf _) q) hst) (xLv_st1 hlv' hc h5 g4 hl) (xRT_mono hRT (fun _ z => z) g2 (xx_e_rf _))
end XI
