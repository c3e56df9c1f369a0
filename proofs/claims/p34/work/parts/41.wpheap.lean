/-! fields, rows -/
section YH
variable {g : yG} {M : xM} {d pc : Nat} {lv : yL} {st : List Value} {ws : va_W} {K : yK}
theorem yo_get {a1 a2 idx k q : Nat} {C : String} {T : u_T} {N : Nat} {fs : List Value} {v : Value} (hd : decode M.2.1 pc = .ok (.getfield idx, 3)) (hc : xcl[a1]? = some (C, T, N)) (hin : ∀ w ∈ u_ws C T N, w ∈ xTb) (hk : a2 < N) (hl : Cond.fieldLink M.1.cls idx (T a2).1 (T a2).2.1 (T a2).2.2.1 ∈ xTb ∨ ∃ host, Cond.fieldLinkNest M.1.cls idx (T a2).1 (T a2).2.1 (T a2).2.2.1 host ∈ xNW) (hw : ws[k]? = some (q, .inr (a1, fs))) (hv : fs[a2]? = some v) (h : yOk g M d (pc + 3) lv (v :: st) ws K) : yOk g M d pc lv (.ref q :: st) ws K := by
  intro p e R s m args below meth c Q H locs ls ce sl hF hW hlv hce hsl hRT
  have hkk := h p e R s m args below meth c Q H locs ls ce sl hF hW hlv hce hsl hRT
  rcases hl with hl | ⟨host, hl⟩
  · exact va_get hF.1 hF.2.1 hF.2.2.2.1 hin hF.2.2.2.2.1 hW.2.2.2 hW.1 k hw hc a2 hk (hF.2.2.2.1 _ hl) (fun _ z => z) hv hd hkk
  · exact va_getN hF.1 hF.2.1 hF.2.2.2.1 hin hF.2.2.2.2.1 hW.2.2.2 hW.1 k hw hc a2 hk (va_Nw.use rfl (hF.2.2.2.2.2.2.1.1 _ hl)) (fun _ z => z) hv hd hkk
theorem yo_getS0 {idx n : Nat} (hd : decode M.2.1 pc = .ok (.getfield idx, 3)) (hl : Cond.fieldLink M.1.cls idx "java/lang/String" "coder" "B" ∈ xTb) (hn : n < xBY.length) (h : yOk g M d (pc + 3) lv (.int 0 :: st) ws K) : yOk g M d pc lv (.ref (g.1.2.1.2.1 n) :: st) ws K := by
  intro p e R s m args below meth c Q H locs ls ce sl hF hW hlv hce hsl hRT
  have hE := (hF.2.2.2.2.2.2.1.2.2.1.1 n hn)
  exact vk_getf hF.1 hF.2.1 hE.2.1 hW.2.2.1 hF.2.2.2.2.1 (hF.2.2.2.1 _ hl) (fun _ z => z) hd (h p e R s m args below meth c Q H locs ls ce sl hF hW hlv hce hsl hRT)
theorem yo_getS1 {idx n : Nat} (hd : decode M.2.1 pc = .ok (.getfield idx, 3)) (hl : Cond.fieldLink M.1.cls idx "java/lang/String" "value" "[B" ∈ xTb) (hn : n < xBY.length) (h : yOk g M d (pc + 3) lv (.ref (g.1.2.1.2.2 n) :: st) ws K) : yOk g M d pc lv (.ref (g.1.2.1.2.1 n) :: st) ws K := by
  intro p e R s m args below meth c Q H locs ls ce sl hF hW hlv hce hsl hRT
  have hE := (hF.2.2.2.2.2.2.1.2.2.1.1 n hn)
  exact vk_getf hF.1 hF.2.1 hE.2.2.1 hW.2.2.1 hF.2.2.2.2.1 (hF.2.2.2.1 _ hl) (fun _ z => z) hd (h p e R s m args below meth c Q H locs ls ce sl hF hW hlv hce hsl hRT)
theorem yo_put {a1 a2 idx k q : Nat} {C : String} {T : u_T} {N : Nat} {ty0 : Nat → FieldType} {fs : List Value} {v : Value} (hd : decode M.2.1 pc = .ok (.putfield idx, 3)) (hc : xcl[a1]? = some (C, T, N)) (hin : ∀ w ∈ u_ws C T N, w ∈ xTb) (hty : ∀ k, k < N → parseFieldDescriptor (T k).2.2.1 = some (ty0 k)) (hnm : ∀ a, a < N → ∀ b, b < N → a ≠ b → (T a).2.1 ≠ (T b).2.1) (hk : a2 < N) (hl : Cond.fieldLink M.1.cls idx (T a2).1 (T a2).2.1 (T a2).2.2.1 ∈ xTb) (hfin : (T a2).2.2.2 = false) (hw : ws[k]? = some (q, .inr (a1, fs))) (hlen : a2 < fs.length) (hf1 : narrow (ty0 a2) v = v) (hf2 : fits (ty0 a2) v = true) (h : yOk g M d (pc + 3) lv st (ws.set k (q, .inr (a1, fs.set a2 v))) K) : yOk g M d pc lv (v :: .ref q :: st) ws K := by
  intro p e R s m args below meth c Q H locs ls ce sl hF hW hlv hce hsl hRT
  exact va_put hF.1 hF.2.1 hF.2.2.2.1 hin ty0 hty hnm hF.2.2.2.2.1 hW.2.2.2 hW.1 hW.2.1 hW.2.2.1 k hw hc a2 hk (hF.2.2.2.1 _ hl) (fun _ z => z) hfin (hty a2 hk) hf1 hf2 hlen hd (fun H1 locs1 hP1 hD1 hS1 => h p e R s m args below meth c Q H1 locs1 ls ce sl hF ⟨hP1, hD1, hS1, hW.2.2.2⟩ hlv hce hsl hRT)
theorem yo_gets0 {idx : Nat} (hd : decode M.2.1 pc = .ok (.getstatic idx, 3)) (hl : Cond.fieldLink M.1.cls idx "java/lang/String" "COMPACT_STRINGS" "Z" ∈ xTb) (h : yOk g M d (pc + 3) lv (.int 1 :: st) ws K) : yOk g M d pc lv st ws K := by
  intro p e R s m args below meth c Q H locs ls ce sl hF hW hlv hce hsl hRT
  exact va_gets hF.1 hF.2.1 hF.2.2.2.2.2.2.1.2.2.2.1 hW.2.2.1 hF.2.2.2.2.1 (hF.2.2.2.1 _ hl) (fun _ z => z) hd (h p e R s m args below meth c Q H locs ls ce sl hF hW hlv hce hsl hRT)
theorem yo_iald {k q n : Nat} {cA : ClassId} {f : Nat → Int32} {x : Int32} (hd : decode M.2.1 pc = .ok (.iaload, 1)) (hw : ws[k]? = some (q, .inl (cA, n, .inl f))) (ht : (cA, FieldType.int) ∈ g.2) (hx : vp_in x n) (h : yOk g M d (pc + 1) lv (.int (f x.toNatClampNeg) :: st) ws K) : yOk g M d pc lv (.int x :: .ref q :: st) ws K := by
  intro p e R s m args below meth c Q H locs ls ce sl hF hW hlv hce hsl hRT
  obtain ⟨t0, ht0⟩ := List.getElem?_of_mem ht
  exact va_iald hF.1 hF.2.1 hW.2.2.2 hW.1 k t0 hw ht0 hx hd (h p e R s m args below meth c Q H locs ls ce sl hF hW hlv hce hsl hRT)
theorem yo_bald {k q n : Nat} {cA : ClassId} {f : Nat → Int32} {x : Int32} (hd : decode M.2.1 pc = .ok (.baload, 1)) (hw : ws[k]? = some (q, .inl (cA, n, .inl f))) (ht : (cA, FieldType.byte) ∈ g.2 ∨ (cA, FieldType.boolean) ∈ g.2) (hx : vp_in x n) (h : yOk g M d (pc + 1) lv (.int (f x.toNatClampNeg) :: st) ws K) : yOk g M d pc lv (.int x :: .ref q :: st) ws K := by
  intro p e R s m args below meth c Q H locs ls ce sl hF hW hlv hce hsl hRT
  rcases ht with ht | ht
  · obtain ⟨t0, ht0⟩ := List.getElem?_of_mem ht
    exact va_bald hF.1 hF.2.1 hW.2.2.2 hW.1 k t0 hw ht0 hx hd (h p e R s m args below meth c Q H locs ls ce sl hF hW hlv hce hsl hRT)
  · obtain ⟨t0, ht0⟩ := List.getElem?_of_mem ht
    exact va_zald hF.1 hF.2.1 hW.2.2.2 hW.1 k t0 hw ht0 hx hd (h p e R s m args below meth c Q H locs ls ce sl hF hW hlv hce hsl hRT)
theorem yo_lald {k q n : Nat} {cA : ClassId} {f : Nat → Int64} {x : Int32} (hd : decode M.2.1 pc = .ok (.laload, 1)) (hw : ws[k]? = some (q, .inl (cA, n, .inr (.inl f)))) (ht : (cA, FieldType.long) ∈ g.2) (hx : vp_in x n) (h : yOk g M d (pc + 1) lv (.long (f x.toNatClampNeg) :: st) ws K) : yOk g M d pc lv (.int x :: .ref q :: st) ws K := by
  intro p e R s m args below meth c Q H locs ls ce sl hF hW hlv hce hsl hRT
  obtain ⟨t0, ht0⟩ := List.getElem?_of_mem ht
  exact va_lald hF.1 hF.2.1 hW.2.2.2 hW.1 k t0 hw ht0 hx hd (h p e R s m args below meth c Q H locs ls ce sl hF hW hlv hce hsl hRT)
theorem yo_iast {k q n : Nat} {cA : ClassId} {f : Nat → Int32} {x y : Int32} (hd : decode M.2.1 pc = .ok (.iastore, 1)) (hw : ws[k]? = some (q, .inl (cA, n, .inl f))) (ht : (cA, FieldType.int) ∈ g.2) (hx : vp_in x n) (h : yOk g M d (pc + 1) lv st (ws.set k (q, .inl (cA, n, .inl (upd f x.toNatClampNeg y)))) K) : yOk g M d pc lv (.int y :: .int x :: .ref q :: st) ws K := by
  intro p e R s m args below meth c Q H locs ls ce sl hF hW hlv hce hsl hRT
  obtain ⟨t0, ht0⟩ := List.getElem?_of_mem ht
  exact va_iast hF.1 hF.2.1 hW.2.2.2 hW.1 hW.2.1 hW.2.2.1 k t0 hw ht0 hx hd (fun H1 locs1 hP1 hD1 hS1 => h p e R s m args below meth c Q H1 locs1 ls ce sl hF ⟨hP1, hD1, hS1, hW.2.2.2⟩ hlv hce hsl hRT)
theorem yo_bast {k q n : Nat} {cA : ClassId} {f : Nat → Int32} {x y : Int32} (hd : decode M.2.1 pc = .ok (.bastore, 1)) (hw : ws[k]? = some (q, .inl (cA, n, .inl f))) (ht : (cA, FieldType.byte) ∈ g.2) (hx : vp_in x n) (h : yOk g M d (pc + 1) lv st (ws.set k (q, .inl (cA, n, .inl (upd f x.toNatClampNeg (vp_nar .byte y))))) K) : yOk g M d pc lv (.int y :: .int x :: .ref q :: st) ws K := by
  intro p e R s m args below meth c Q H locs ls ce sl hF hW hlv hce hsl hRT
  obtain ⟨t0, ht0⟩ := List.getElem?_of_mem ht
  exact va_bast hF.1 hF.2.1 hW.2.2.2 hW.1 hW.2.1 hW.2.2.1 k t0 hw ht0 hx hd (fun H1 locs1 hP1 hD1 hS1 => h p e R s m args below meth c Q H1 locs1 ls ce sl hF ⟨hP1, hD1, hS1, hW.2.2.2⟩ hlv hce hsl hRT)
theorem yo_zast {k q n : Nat} {cA : ClassId} {f : Nat → Int32} {x y : Int32} (hd : decode M.2.1 pc = .ok (.bastore, 1)) (hw : ws[k]? = some (q, .inl (cA, n, .inl f))) (ht : (cA, FieldType.boolean) ∈ g.2) (hx : vp_in x n) (h : yOk g M d (pc + 1) lv st (ws.set k (q, .inl (cA, n, .inl (upd f x.toNatClampNeg (vp_nar .boolean y))))) K) : yOk g M d pc lv (.int y :: .int x :: .ref q :: st) ws K := by
  intro p e R s m args below meth c Q H locs ls ce sl hF hW hlv hce hsl hRT
  obtain ⟨t0, ht0⟩ := List.getElem?_of_mem ht
  exact va_zast hF.1 hF.2.1 hW.2.2.2 hW.1 hW.2.1 hW.2.2.1 k t0 hw ht0 hx hd (fun H1 locs1 hP1 hD1 hS1 => h p e R s m args below meth c Q H1 locs1 ls ce sl hF ⟨hP1, hD1, hS1, hW.2.2.2⟩ hlv hce hsl hRT)
theorem yo_last {k q n : Nat} {cA : ClassId} {f : Nat → Int64} {x : Int32} {y : Int64} (hd : decode M.2.1 pc = .ok (.lastore, 1)) (hw : ws[k]? = some (q, .inl (cA, n, .inr (.inl f)))) (ht : (cA, FieldType.long) ∈ g.2) (hx : vp_in x n) (h : yOk g M d (pc + 1) lv st (ws.set k (q, .inl (cA, n, .inr (.inl (vp_updL f x.toNatClampNeg y))))) K) : yOk g M d pc lv (.long y :: .int x :: .ref q :: st) ws K := by
  intro p e R s m args below meth c Q H locs ls ce sl hF hW hlv hce hsl hRT
  obtain ⟨t0, ht0⟩ := List.getElem?_of_mem ht
  exact va_last hF.1 hF.2.1 hW.2.2.2 hW.1 hW.2.1 hW.2.2.1 k t0 hw ht0 hx hd (fun H1 locs1 hP1 hD1 hS1 => h p e R s m args below meth c Q H1 locs1 ls ce sl hF ⟨hP1, hD1, hS1, hW.2.2.2⟩ hlv hce hsl hRT)
theorem yo_alen {k q n : Nat} {cA : ClassId} {ty : FieldType} {f : (Nat → Int32) ⊕ ((Nat → Int64) ⊕ _)} (hd : decode M.2.1 pc = .ok (.arraylength, 1)) (hw : ws[k]? = some (q, .inl (cA, n, f))) (ht : (cA, ty) ∈ g.2) (h : yOk g M d (pc + 1) lv (.int (Int32.ofNat n) :: st) ws K) : yOk g M d pc lv (.ref q :: st) ws K := by
  intro p e R s m args below meth c Q H locs ls ce sl hF hW hlv hce hsl hRT
  obtain ⟨t0, ht0⟩ := List.getElem?_of_mem ht
  exact va_alen hF.1 hF.2.1 hW.2.2.2 hW.1 k t0 hw ht0 rfl hd (h p e R s m args below meth c Q H locs ls ce sl hF hW hlv hce hsl hRT)
/-- the script -/
theorem yo_slen (hd : decode M.2.1 pc = .ok (.arraylength, 1)) (h : yOk g M d (pc + 1) lv (.int (Int32.ofNat g.1.2.2.2.2.1) :: st) ws K) : yOk g M d pc lv (.ref g.1.2.1.1 :: st) ws K := by
  intro p e R s m args below meth c Q H locs ls ce sl hF hW hlv hce hsl hRT
  have hE := hF.2.2.2.2.2.2.1.2.2.2.2.2
  exact va_slen hF.1 hF.2.1 hE.1 (Nat.lt_of_lt_of_le hE.2 hF.2.2.2.2.2.2.2.1) (Nat.not_le.mpr hE.2) hW.2.2.1 hd (h p e R s m args below meth c Q H locs ls ce sl hF hW hlv hce hsl hRT)
theorem yo_sld {x : Int32} (hd : decode M.2.1 pc = .ok (.iaload, 1)) (hx : vp_in x g.1.2.2.2.2.1) (h : yOk g M d (pc + 1) lv (.int (g.1.2.2.2.2.2 x.toNatClampNeg) :: st) ws K) : yOk g M d pc lv (.int x :: .ref g.1.2.1.1 :: st) ws K := by
  intro p e R s m args below meth c Q H locs ls ce sl hF hW hlv hce hsl hRT
  have hE := hF.2.2.2.2.2.2.1.2.2.2.2.2
  exact va_sld hF.1 hF.2.1 hE.1 (Nat.lt_of_lt_of_le hE.2 hF.2.2.2.2.2.2.2.1) (Nat.not_le.mpr hE.2) hW.2.2.1 hx hd (h p e R s m args below meth c Q H locs ls ce sl hF hW hlv hce hsl hRT)
/-- a text's bytes -/
theorem yo_tb {n : Nat} {bs : List Int32} {x : Int32} (hd : decode M.2.1 pc = .ok (.baload, 1)) (hn : xBY[n]? = some bs) (hx : vp_in x bs.length) (h : yOk g M d (pc + 1) lv (.int (bs.getD x.toNatClampNeg 0) :: st) ws K) : yOk g M d pc lv (.int x :: .ref (g.1.2.1.2.2 n) :: st) ws K := by
  intro p e R s m args below meth c Q H locs ls ce sl hF hW hlv hce hsl hRT
  have hlt := (List.getElem?_eq_some_iff.mp hn).1
  have hE := (hF.2.2.2.2.2.2.1.2.2.1.1 n hlt).2.2.2
  have el : (xBY.map List.length).getD n 0 = bs.length := by
    rw [List.getD_eq_getElem?_getD, List.getElem?_map, hn]
    rfl
  have eb : xBY.getD n [] = bs := by
    rw [List.getD_eq_getElem?_getD, hn]
    rfl
  rw [el, eb] at hE
  exact va_tb hF.1 hF.2.1 hE hW.2.2.1 hx rfl hd (h p e R s m args below meth c Q H locs ls ce sl hF hW hlv hce hsl hRT)
theorem yo_tlen {n : Nat} {bs : List Int32} (hd : decode M.2.1 pc = .ok (.arraylength, 1)) (hn : xBY[n]? = some bs) (h : yOk g M d (pc + 1) lv (.int (Int32.ofNat bs.length) :: st) ws K) : yOk g M d pc lv (.ref (g.1.2.1.2.2 n) :: st) ws K := by
  intro p e R s m args below meth c Q H locs ls ce sl hF hW hlv hce hsl hRT
  have hlt := (List.getElem?_eq_some_iff.mp hn).1
  have hE := (hF.2.2.2.2.2.2.1.2.2.1.1 n hlt).2.2.2
  have el : (xBY.map List.length).getD n 0 = bs.length := by
    rw [List.getD_eq_getElem?_getD, List.getElem?_map, hn]
    rfl
  rw [el] at hE
  obtain ⟨cell, k1, k2, k3, k4, k5, k6, k7⟩ := hE
  exact W.alen (n := Int32.ofNat bs.length) hF.1 hF.2.1 (by rw [hW.2.2.1.2.1 _ (Array.getElem?_eq_some_iff.mp k1).1 k7]; exact k1) k2 k5 rfl rfl hd (h p e R s m args below meth c Q H locs ls ce sl hF hW hlv hce hsl hRT)
/-- ends -/
theorem yo_iret {x : Int32} {ty : FieldType} (hd : decode M.2.1 pc = .ok (.ireturn, 1)) (hr : M.2.2.2.1 = some ty) (hx : narrow ty (.int x) = .int x) (h : K (some (.int x)) ws) : yOk g M d pc lv [.int x] ws K :=
  fun _ _ _ _ _ _ _ _ _ _ H locs ls _ _ _ hW _ _ _ hRT => (hRT (some (.int x)) ws H locs ls pc h hW).2.1 x ty rfl hr hx hd
theorem yo_lret {x : Int64} (hd : decode M.2.1 pc = .ok (.lreturn, 1)) (hr : M.2.2.2.1 = some .long) (h : K (some (.long x)) ws) : yOk g M d pc lv [.long x] ws K :=
  fun _ _ _ _ _ _ _ _ _ _ H locs ls _ _ _ hW _ _ _ hRT => (hRT (some (.long x)) ws H locs ls pc h hW).2.2 x rfl hr hd
theorem yo_vret (hd : decode M.2.1 pc = .ok (.return_, 1)) (hr : M.2.2.2.1 = none) (h : K none ws) : yOk g M d pc lv [] ws K :=
  fun _ _ _ _ _ _ _ _ _ _ H locs ls _ _ _ hW _ _ _ hRT => (hRT none ws H locs ls pc h hW).1 rfl hr hd
/-- arraycopy of ints -/
theorem yo_copy {idx ka kb qa qb na nb : Nat} {cA cB : ClassId} {fa fb : Nat → Int32} {sp dp n : Int32} (hd : decode M.2.1 pc = .ok (.invokestatic idx, 3)) (hl : Cond.methodLink M.1.cls idx arraycopyName ∈ xTb) (hnat : Cond.native arraycopyName ∈ xTb) (hst' : Cond.static arraycopyName ∈ xTb) (hini : Cond.initialized "java/lang/System" ∈ xTb) (hwa : ws[ka]? = some (qa, .inl (cA, na, .inl fa))) (hwb : ws[kb]? = some (qb, .inl (cB, nb, .inl fb))) (hta : (cA, FieldType.int) ∈ g.2) (htb : (cB, FieldType.int) ∈ g.2) (h1 : ¬ sp < 0) (h2 : ¬ dp < 0) (h3 : ¬ n < 0) (h4 : sp.toNatClampNeg + n.toNatClampNeg ≤ na) (h5 : dp.toNatClampNeg + n.toNatClampNeg ≤ nb) (hwd : (st.map fun v => v.category).sum ≤ 8) (h : yOk g M d (pc + 3) lv st (ws.set kb (qb, .inl (cB, nb, .inl (va_cpy fa fb sp.toNatClampNeg dp.toNatClampNeg n.toNatClampNeg)))) K) : yOk g M d pc lv (.int n :: .int dp :: .ref qb :: .int sp :: .ref qa :: st) ws K := by
  intro p e R s m args below meth c Q H locs ls ce sl hF hW hlv hce hsl hRT
  obtain ⟨t0, ht0⟩ := List.getElem?_of_mem hta
  obtain ⟨t1, ht1⟩ := List.getElem?_of_mem htb
  have hfr := hF.2.2.2.2.2.2.2.2.1
  have hlo := hF.2.2.2.2.2.2.2.2.2.1
  have hnf : nativeFrameWords "java/lang/System" "arraycopy" 5 ≤ 45 := by decide
  exact va_copyi hF.1 hF.2.1 (by rw [hF.2.2.1]; exact hlv.2.1.symm) hF.2.2.2.2.1 (hF.2.2.2.1 _ hl) (hF.2.2.2.1 _ hnat) (hF.2.2.2.1 _ hst') (hF.2.2.2.1 _ hini) hW.2.2.2 hW.1 hW.2.1 hW.2.2.1 ka kb t0 t1 hwa hwb ht0 ht1 (by decide) h1 h2 h3 h4 h5 (fun _ _ => rfl) (by omega) (by omega) hd (fun H1 locs1 hP1 hD1 hS1 => h p e R s m args below meth c Q H1 locs1 ls ce sl hF ⟨hP1, hD1, hS1, hW.2.2.2⟩ hlv hce hsl hRT)
theorem yo_max {idx : Nat} {x y : Int32} (hd : decode M.2.1 pc = .ok (.invokestatic idx, 3)) (hl : Cond.methodLink M.1.cls idx Lib.Math.max.name ∈ xTb) (hst' : Cond.static Lib.Math.max.name ∈ xTb) (hini : Cond.initialized "java/lang/Math" ∈ xTb) (hcode : Cond.code Lib.Math.max.name Lib.Math.max.code 2 (some .int) ∈ xTb) (hwd : (st.map fun v => v.category).sum ≤ 8) (h : yOk g M d (pc + 3) lv (.int (xf_max x y) :: st) ws K) : yOk g M d pc lv (.int y :: .int x :: st) ws K := by
  intro p e R s m args below meth c Q H locs ls ce sl hF hW hlv hce hsl hRT
  have hfr := hF.2.2.2.2.2.2.2.2.1
  have hlo := hF.2.2.2.2.2.2.2.2.2.1
  have hcl := hF.2.2.2.2.2.2.2.2.2.2.1
  have hsll := hF.2.2.2.2.2.2.2.2.2.2.2
  exact va_mmax hF.1 hF.2.1 (by rw [hF.2.2.1]; exact hlv.2.1.symm) hF.2.2.2.2.1 (hF.2.2.2.1 _ hl) (hF.2.2.2.1 _ hst') (hF.2.2.2.1 _ hini) (hF.2.2.2.1 _ hcode) (by omega) (by omega) (by omega) (by omega) hd (h p e R s m args below meth c Q H locs ls ce sl hF hW hlv hce hsl hRT)
theorem yo_min {idx : Nat} {x y : Int32} (hd : decode M.2.1 pc = .ok (.invokestatic idx, 3)) (hl : Cond.methodLink M.1.cls idx Lib.Math.min.name ∈ xTb) (hst' : Cond.static Lib.Math.min.name ∈ xTb) (hini : Cond.initialized "java/lang/Math" ∈ xTb) (hcode : Cond.code Lib.Math.min.name Lib.Math.min.code 2 (some .int) ∈ xTb) (hwd : (st.map fun v => v.category).sum ≤ 8) (h : yOk g M d (pc + 3) lv (.int (xf_min x y) :: st) ws K) : yOk g M d pc lv (.int y :: .int x :: st) ws K := by
  intro p e R s m args below meth c Q H locs ls ce sl hF hW hlv hce hsl hRT
  have hfr := hF.2.2.2.2.2.2.2.2.1
  have hlo := hF.2.2.2.2.2.2.2.2.2.1
  have hcl := hF.2.2.2.2.2.2.2.2.2.2.1
  have hsll := hF.2.2.2.2.2.2.2.2.2.2.2
  exact va_mmin hF.1 hF.2.1 (by rw [hF.2.2.1]; exact hlv.2.1.symm) hF.2.2.2.2.1 (hF.2.2.2.1 _ hl) (hF.2.2.2.1 _ hst') (hF.2.2.2.1 _ hini) (hF.2.2.2.1 _ hcode) (by omega) (by omega) (by omega) (by omega) hd (h p e R s m args below meth c Q H locs ls ce sl hF hW hlv hce hsl hRT)
end YH
/-! calls -/
section YC
variable {g : yG} {M : xM} {d pc : Nat} {lv : yL} {st : List Value} {ws : va_W} {K : yK}
/-- arguments as locals -/
def yLay : List Value → yL
  | [] => []
  | v :: l => if v.category = 2 then some v :: none :: yLay l else some v :: yLay l
def yEnt (n : Nat) (vs : List Value) : yL := yLay vs ++ List.replicate (n - (yLay vs).length) none
theorem yLay_ok : ∀ (vs : List Value), xx_2 (fun (a : Option Value) (sl : Slot) => ∀ v, a = some v → sl = .val v) (yLay vs) (lg_sl vs)
  | [] => trivial
  | v :: vs => by
    have ih := yLay_ok vs
    have e : lg_sl (v :: vs) = (if v.category = 2 then [Slot.val v, .second] else [.val v]) ++ lg_sl vs := by simp [lg_sl]
    rw [e]
    by_cases hc : v.category = 2
    · show xx_2 _ (if v.category = 2 then some v :: none :: yLay vs else some v :: yLay vs) _
      rw [if_pos hc, if_pos hc]
      exact ⟨fun w h => by cases h; rfl, (fun w h => by cases h), ih⟩
    · show xx_2 _ (if v.category = 2 then some v :: none :: yLay vs else some v :: yLay vs) _
      rw [if_neg hc, if_neg hc]
      exact ⟨fun w h => by cases h; rfl, ih⟩
theorem yEnt_ok {vs : List Value} {n : Nat} (hn : (yLay vs).length ≤ n) : yLv n (yEnt n vs) ((lg_sl vs ++ List.replicate (n - (lg_sl vs).length) Slot.unset).toArray) := by
  have h2 := yLay_ok vs
  have hl := xx_2_len h2
  have he := lv_entry vs (n := n) (by rw [← hl]; exact hn)
  refine ⟨by unfold yEnt; rw [List.length_append, List.length_replicate]; omega, he.1, he.2.1, fun i v q1 => ?_⟩
  unfold yEnt at q1
  by_cases hi : i < (yLay vs).length
  · rw [List.getElem?_append_left hi] at q1
    obtain ⟨sl, e1, e2⟩ := xx_2_get h2 q1
    rw [List.getElem?_toArray, List.getElem?_append_left (by rw [← hl]; exact hi), e1, e2 v rfl]
  · rw [List.getElem?_append_right (by omega)] at q1
    have := List.eq_of_mem_replicate (List.mem_of_getElem? q1)
    cases this
def yPc (g : yG) (ws : va_W) (vs : List Value) : Array Value → State → Prop := va_Pc vs fun U => g.1.2.2.2.1 ≤ U.heap.size ∧ va_P g.1.2.2.1 xcl ws U.heap ∧ va_D (xAA g.1.2.2.2.1) ws ∧ va_K g.1.2.2.1 xcl g.2 U ∧ xEX g.1.2.1 g.1.2.2.2.1 g.1.2.2.2.2.1 g.1.2.2.2.2.2 U U.heap
def yQc (g : yG) (K : yK) : Array Value → State → Outcome → State → Prop := fun _ st oc t => va_F (xAA g.1.2.2.2.1) st t ∧ ∃ r ws, K r ws ∧ va_P g.1.2.2.1 xcl ws t.heap ∧ va_D (xAA g.1.2.2.2.1) ws ∧ va_K g.1.2.2.1 xcl g.2 t ∧ oc = .returned r
set_option maxHeartbeats 4000000 in
theorem ymet {N : xM} {d : Nat} {vs : List Value} {ws : va_W} {K : yK} (hN : xNf N) (hlay : (yLay vs).length ≤ N.2.2.1) (hok : yOk g N d 0 (yEnt N.2.2.1 vs) [] ws K) :
    Met g.1.1 N.1 (xws N) (xrm N d) (yPc g ws vs) (yQc g K) N.2.2.2.2.1 N.2.2.2.2.2.1 (xAA g.1.2.2.2.1) := by
  refine Met.ofW (cc := N.2.1) (maxL := N.2.2.1) (ret := N.2.2.2.1) hN.1 rfl ?_
  intro p e s m args below meth c s₁ B hml hv
  obtain ⟨rfl, hbs, hP, hD, hK, hE⟩ := hv
  have hts := atoms_spec (ws := xws N) B.pre
  have hown : s.vm.findClass N.1.cls = some m.cls := findClass_of_methodNamed B.named
  have hlocks := B.notSynchronized
  have hname : meth.name = N.1.name := (name_of_methodNamed B.named B.method).1
  rw [lg_entry_eq]
  refine hok p e (headSpec (xws N) (xrm N d)).room s m vs.toArray below meth c (MQ below (yQc g K) vs.toArray s N.2.2.2.2.1 N.2.2.2.2.2.1 (xAA g.1.2.2.2.1)) s.heap [] _ 0 0 ?_ ?_ (yEnt_ok hlay) (Nat.zero_le _) (Nat.zero_le _) ?_
  · exact ⟨B.exec, B.bytes, hml, fun w hw => hts w (List.mem_cons_of_mem _ hw), hown, fun h => by rw [hname]; exact h, hE, hbs, Nat.le_refl _, Nat.le_refl _, Nat.le_refl _, Nat.le_refl _⟩
  · exact ⟨hP, hD, va_S.rf, hK⟩
  · intro r ws' H' locs' ls' pc' hk hW'
    obtain ⟨w1, w2, w3, w4⟩ := hW'
    refine ⟨fun o1 r1 dg => ?_, fun x ty o1 r1 hnar dg => ?_, fun x o1 r1 dg => ?_⟩
    · refine W.widen (Nat.zero_le N.2.2.2.2.1) (Nat.zero_le N.2.2.2.2.2.1) ?_
      refine W.vret (Qc := yQc g K) (free := xAA g.1.2.2.2.1) B.exec B.bytes (by rw [B.returns, r1]) (fun t ht hW => ?_) w3.2.2 dg hlocks
      exact ⟨w3.F ht, r, ws', hk, by rw [ht]; exact w1, w2, va_K.moved hW.alike w4, by rw [o1]⟩
    · refine W.widen (Nat.zero_le N.2.2.2.2.1) (Nat.zero_le N.2.2.2.2.2.1) ?_
      refine W.zret (Qc := yQc g K) (free := xAA g.1.2.2.2.1) (ty := ty) B.exec B.bytes (by rw [B.returns, r1]) hnar (fun t ht hW => ?_) w3.2.2 dg hlocks
      exact ⟨w3.F ht, r, ws', hk, by rw [ht]; exact w1, w2, va_K.moved hW.alike w4, by rw [o1]⟩
    · refine W.widen (Nat.zero_le N.2.2.2.2.1) (Nat.zero_le N.2.2.2.2.2.1) ?_
      refine W.lret (Qc := yQc g K) (free := xAA g.1.2.2.2.1) B.exec B.bytes (by rw [B.returns, r1]) (fun t ht hW => ?_) w3.2.2 dg hlocks
      exact ⟨w3.F ht, r, ws', hk, by rw [ht]; exact w1, w2, va_K.moved hW.alike w4, by rw [o1]⟩
theorem yPc_blind (ws : va_W) (vs : List Value) : FrameBlind (yPc g ws vs) := by
  intro a U f mk h
  obtain ⟨h0, h1, h2, h3, h4, h5⟩ := h
  exact ⟨h0, h1, h2, h3, va_K.moved (u := U) (U := U.calling f mk a) (Vm.Alike.refl U.vm) h4, xEX_call h5⟩
theorem ypre {s : State} {H : Heap} {locs : List Loc} {vs : List Value} {R : Room} {p : Program} {m : MethodId} {args : Array Value} {meth : Method} {c : Code} (hF : xF g.1 M d p R s m args meth c) (hW : yWd g ws H s locs) : PreS s H (yPc g ws vs) vs := by
  refine ⟨yPc_blind ws vs, fun U hU hWm => ⟨rfl, ?_, ?_, hW.2.1, va_K.moved hWm.alike hW.2.2.2, ?_⟩⟩
  · rw [hU]
    exact Nat.le_trans hF.2.2.2.2.2.2.2.1 hW.2.2.1.1
  · rw [hU]
    exact hW.1
  · exact xEX_kept hF.2.2.2.2.2.2.1 hF.2.2.2.2.2.2.2.1 hW.2.2.1 hU hWm
theorem ycont {N : xM} {K' : yK} {rest st0 : List Value} {p : Program} {e : Env} {R : Room} {s : State} {m : MethodId} {args aargs : Array Value} {below : List Frame} {meth : Method} {c : Code} {Q : State → Prop} {H : Heap} {locs : List Loc} {ls : Array Slot} {ce sl : Nat}
    (hF : xF g.1 M d p R s m args meth c) (hW : yWd g ws H s locs) (hlv : yLv M.2.2.1 lv ls) (hce : ce ≤ M.2.2.2.2.1) (hsl : sl ≤ M.2.2.2.2.2.1) (hRT : yRT g M p e R s m args below meth c Q ce sl K) (hN0 : N.2.2.2.2.1 = 0) (hN1 : N.2.2.2.2.2.1 = 0)
    (hn : ∀ r ws', K' r ws' → yOk g M d (pc + 3) lv (r.toList ++ rest) ws' K)
    (hrun : va_Run p g.1.1 e R s m args below meth c H locs ce sl N.2.2.2.2.1 N.2.2.2.2.2.1 (F0 m pc ls st0) rest (yQc g K' aargs) (xAA g.1.2.2.2.1)) : W p g.1.1 e R s m args below meth c H locs ce sl Q (F0 m pc ls st0) := by
  refine xafter hrun (fun v st₀ t L h0 hvm hL hq => ?_)
  obtain ⟨⟨hz, hk⟩, r, ws', hK', w1, w2, w4, ho⟩ := hq
  injection ho with ho
  subst ho
  rw [h0] at hz hk
  have hS := hW.2.2.1
  have hS' : va_S (xAA g.1.2.2.2.1) s.heap t.heap (locs ++ L) := ⟨Nat.le_trans hS.1 hz, fun q h1 h2 => by rw [hk q (Nat.lt_of_lt_of_le h1 hS.1) h2]; exact hS.2.1 q h1 h2, fun q hq => by
    rcases List.mem_append.mp hq with h | h
    · exact hS.2.2 q h
    · exact hL q h⟩
  rw [hN0, hN1]
  exact hn _ _ hK' p e R s m args below meth c Q t.heap _ ls _ _ hF ⟨w1, w2, hS', va_K.moved hvm.symm w4⟩ hlv hce hsl hRT
theorem yo_stat {idx : Nat} {N : xM} {K' : yK} {vs : List Value} (hd : decode M.2.1 pc = .ok (.invokestatic idx, 3)) (hN : xNf N) (hl : Cond.methodLink M.1.cls idx N.1 ∈ xTb ∨ ∃ host, Cond.methodLinkNest M.1.cls idx N.1 host ∈ xNW) (hstat : Cond.static N.1 ∈ xTb) (hN0 : N.2.2.2.2.1 = 0) (hN1 : N.2.2.2.2.2.1 = 0) (hm40 : N.2.2.1 ≤ 40) (hlen : vs.length = N.2.2.2.2.2.2.1) (hwd : (st.map fun v => v.category).sum ≤ 8) (hlay : (yLay vs).length ≤ N.2.2.1)
    (hc : yOk g N d 0 (yEnt N.2.2.1 vs) [] ws K') (h : ∀ r ws', K' r ws' → yOk g M (d + 1) (pc + 3) lv (r.toList ++ st) ws' K) : yOk g M (d + 1) pc lv (vs.reverse ++ st) ws K := by
  intro p e R s m args below meth c Q H locs ls ce sl hF hW hlv hce hsl hRT
  have hM := ymet hN hlay hc
  have hfr := hF.2.2.2.2.2.2.2.2.1
  have hlo := hF.2.2.2.2.2.2.2.2.2.1
  have hR : (xrm N d).frames + 1 ≤ R.frames ∧ 8 + (N.2.2.1 + 11) + (xrm N d).locals ≤ R.locals := ⟨hfr, by show 8 + (N.2.2.1 + 11) + 64 * (d + 1) ≤ _; omega⟩
  have hcells : ce + N.2.2.2.2.1 ≤ R.cells ∧ sl + N.2.2.2.2.2.1 ≤ R.slots := ⟨by rw [hN0]; exact Nat.le_trans hce hF.2.2.2.2.2.2.2.2.2.2.1, by rw [hN1]; exact Nat.le_trans hsl hF.2.2.2.2.2.2.2.2.2.2.2⟩
  have hwords : 2 * (F0 m pc ls (vs.reverse ++ st)).monitorRoom + (st.map fun v => v.category).sum ≤ 8 := lv_room hwd
  refine ycont (N := N) (aargs := vs.toArray) hF hW hlv hce hsl hRT hN0 hN1 h ?_
  rcases hl with hl | ⟨host, hl⟩
  · exact va_runS (As := vs) (rest := st) ⟨hF.1, hF.2.1, hF.2.2.1, hF.2.2.2.2.1, hF.2.2.2.1⟩ hM ⟨callB_of N.2.2.2.2.2.2.1 hF.2.2.2.1 (xgoodin hN) rfl rfl rfl (hF.2.2.2.1 _ hN.2.2.1) (hF.2.2.2.1 _ hl) ⟨hN.2.2.2.1, hN.2.2.2.2.1, hN.2.2.2.2.2⟩ hR, hF.2.2.2.1 _ hstat⟩ (ypre hF hW) rfl hlen hlv.2.1 rfl hwords hd hcells
  · exact va_runSN (As := vs) (rest := st) (host := host) ⟨hF.1, hF.2.1, hF.2.2.1, hF.2.2.2.2.1, hF.2.2.2.1⟩ hM ⟨va_cnB N.2.2.2.2.2.2.1 hF.2.2.2.1 (xgoodin hN) rfl rfl rfl (hF.2.2.2.2.2.2.1.1 _ hl) (hF.2.2.2.1 _ hN.2.2.1) ⟨hN.2.2.2.1, hN.2.2.2.2.1, hN.2.2.2.2.2⟩ hR, hF.2.2.2.1 _ hstat, trivial⟩ (ypre hF hW) rfl hlen hlv.2.1 rfl hwords hd hcells
/-- what is asked of a receiver: a cell of the method's class, or a text -/
def yRec (g : yG) (ws : va_W) (N : xM) (q : Nat) : Prop := (∃ (k ci : Nat) (fs : List Value) (r : vw_C), ws[k]? = some (q, .inr (ci, fs)) ∧ xcl[ci]? = some r ∧ r.1 = N.1.cls) ∨ (N.1.cls = "java/lang/String" ∧ ∃ n, n < xBY.length ∧ q = g.1.2.1.2.1 n)
theorem yo_virt {idx q : Nat} {N : xM} {K' : yK} {vs : List Value} (hd : decode M.2.1 pc = .ok (.invokevirtual idx, 3)) (hN : xNf N) (hl : Cond.methodLink M.1.cls idx N.1 ∈ xTb ∨ ∃ host, Cond.methodLinkNest M.1.cls idx N.1 host ∈ xNW) (hinst : Cond.instanceMethod N.1 ∈ xTb) (hsel : Cond.selects N.1.cls N.1 N.1 ∈ xTb) (hrec : yRec g ws N q) (hN0 : N.2.2.2.2.1 = 0) (hN1 : N.2.2.2.2.2.1 = 0) (hm40 : N.2.2.1 ≤ 40) (hlen : vs.length = N.2.2.2.2.2.2.1) (hwd : (st.map fun v => v.category).sum ≤ 8) (hlay : (yLay (.ref q :: vs)).length ≤ N.2.2.1)
    (hc : yOk g N d 0 (yEnt N.2.2.1 (.ref q :: vs)) [] ws K') (h : ∀ r ws', K' r ws' → yOk g M (d + 1) (pc + 3) lv (r.toList ++ st) ws' K) : yOk g M (d + 1) pc lv (vs.reverse ++ .ref q :: st) ws K := by
  intro p e R s m args below meth c Q H locs ls ce sl hF hW hlv hce hsl hRT
  have hM := ymet hN hlay hc
  have hfr := hF.2.2.2.2.2.2.2.2.1
  have hlo := hF.2.2.2.2.2.2.2.2.2.1
  have hR : (xrm N d).frames + 1 ≤ R.frames ∧ 8 + (N.2.2.1 + 11) + (xrm N d).locals ≤ R.locals := ⟨hfr, by show 8 + (N.2.2.1 + 11) + 64 * (d + 1) ≤ _; omega⟩
  have hcells : ce + N.2.2.2.2.1 ≤ R.cells ∧ sl + N.2.2.2.2.2.1 ≤ R.slots := ⟨by rw [hN0]; exact Nat.le_trans hce hF.2.2.2.2.2.2.2.2.2.2.1, by rw [hN1]; exact Nat.le_trans hsl hF.2.2.2.2.2.2.2.2.2.2.2⟩
  have hwords : 2 * (F0 m pc ls (vs.reverse ++ .ref q :: st)).monitorRoom + (st.map fun v => v.category).sum ≤ 8 := lv_room hwd
  have hp := ypre (vs := .ref q :: vs) hF hW
  have hcellB : ∃ cell : Cell, H[q]? = some cell ∧ cell.vm.isStatics = false ∧ s.vm.findClass N.1.cls = some cell.cls := by
    rcases hrec with ⟨k, ci, fs, r, r1, r2, r3⟩ | ⟨r1, n, r2, rfl⟩
    · rw [← r3]
      exact va_recv hW.2.2.2 hW.1 r2 r1
    · rw [r1]
      exact vk_recv hF.2.2.2.2.2.2.1.2.2.1 r2 hW.2.2.1
  refine ycont (N := N) (aargs := (Value.ref q :: vs).toArray) hF hW hlv hce hsl hRT hN0 hN1 h ?_
  rcases hl with hl | ⟨host, hl⟩
  · exact va_runV (C := N.1.cls) (As := vs) (rest := st) ⟨hF.1, hF.2.1, hF.2.2.1, hF.2.2.2.2.1, hF.2.2.2.1⟩ hM ⟨callB_of N.2.2.2.2.2.2.1 hF.2.2.2.1 (xgoodin hN) rfl rfl rfl (hF.2.2.2.1 _ hN.2.2.1) (hF.2.2.2.1 _ hl) ⟨hN.2.2.2.1, hN.2.2.2.2.1, hN.2.2.2.2.2⟩ hR, hF.2.2.2.1 _ hinst, hF.2.2.2.1 _ hsel⟩ ⟨hp.1, hcellB, hp.2⟩ rfl hlen hlv.2.1 rfl hwords hd hcells
  · exact va_runVN (C := N.1.cls) (As := vs) (rest := st) (host := host) ⟨hF.1, hF.2.1, hF.2.2.1, hF.2.2.2.2.1, hF.2.2.2.1⟩ hM ⟨va_cnB N.2.2.2.2.2.2.1 hF.2.2.2.1 (xgoodin hN) rfl rfl rfl (hF.2.2.2.2.2.2.1.1 _ hl) (hF.2.2.2.1 _ hN.2.2.1) ⟨hN.2.2.2.1, hN.2.2.2.2.1, hN.2.2.2.2.2⟩ hR, hF.2.2.2.1 _ hinst, hF.2.2.2.1 _ hsel⟩ ⟨hp.1, hcellB, hp.2⟩ rfl hlen hlv.2.1 rfl hwords hd hcells
end YC
