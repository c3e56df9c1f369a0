/-! THE CLAIM OUT OF ONE WALK OF THE LAW'S BODY. Your part is whole_start (and what it stands on); all else here is the same for every law, but numbers. -/
def R_law : String := "GridLawsLaw"
def lw_P (b : Addr) (xs : List Int32) (args : Array Value) (s : State) : Prop := args = #[.ref b] ∧ s.IntsAt b xs ∧ xs.length ≤ 3072 ∧ (Jvm.Cond.and given_1 narrow_1).before args s = true
def lw_Q (_ : Array Value) (s : State) (o : Outcome) (t : State) : Prop := o = .returned (some (.int 1)) ∧ Framed s o t [] 600000 7302250
def lw_Z (below : List Frame) (a : Array Value) (s : State) : State → Prop := fun t => ∃ o, t.status = .running ∧ Ended t below o ∧ lw_Q a s o t
/-- the law's own end, with 1 on the stack, nothing written that was there before, its room as the claim has it -/
theorem lw_ret {p : Program} {l : Launch} {e : Env} {s : State} {m : MethodId} {below : List Frame} {meth : Method} {c : Code} {b : Nat} (hx : p.tables.exec = Jvm.exec) (hb : c.code = code) (hr : meth.sig.returnType = ret) (hlocks : meth.locks = false) {pc : Nat} {H : Heap} {ls : Array Slot} (hdg : decode code pc = .ok (.ireturn, 1)) : W p l e room_1 s m #[Value.ref b] below meth c H [] 600000 7302250 (lw_Z below #[Value.ref b] s) (F0 m pc ls [.int 1]) := by
  intro T hT X
  obtain ⟨fs, hret, hrun, hended, hW, hframe⟩ := X.leave (v := some (.int 1)) (hlocks := hlocks) (fun h => by rw [hr] at h; cases h)
  have hmeth' : T.vm.method? m = some meth := X.method'
  refine ⟨T.setFrames fs, ?_, .returned (some (.int 1)), hrun, hended, rfl, ⟨_, rfl⟩, hW, hframe⟩
  jvm_step X.here [X.here.top, hx, hb, hdg, hmeth', hr, ret, narrow_b1]
  (try refine ⟨rfl, ?_⟩); (try refine ⟨rfl, ?_⟩)
  first | (intro acts; rw [hret _ acts rfl rfl rfl]) | rw [hret _ _ rfl rfl rfl]
  exact Steps.refl _
/-- what holds at the law's entry: the machine, the code, the tables' words (any of lw_tbl by 'hts w (by decide +kernel)'), the script of L ints xs at the cell b, what the Statement gives of the start (any of its parts by flat_of_before) -/
def lw_At (p : Program) (s : State) (m : MethodId) (meth : Method) (c : Code) (b L : Nat) (xs : Nat → Int32) : Prop :=
  p.tables.exec = Jvm.exec ∧ c.code = code ∧ meth.sig.returnType = ret ∧ c.maxLocals = 4 ∧ s.vm.findClass R_law = some m.cls ∧ (∀ w ∈ lw_tbl, w.before #[Value.ref b] s = true) ∧ va_X b L xs s s.heap ∧ b < s.heap.size ∧ meth.locks = false ∧ (Jvm.Cond.and given_1 narrow_1).before #[Value.ref b] s = true
/-- what lies below, at the law's entry -/
theorem xlaw_ex {p : Program} {s : State} {m : MethodId} {meth : Method} {c : Code} {b L : Nat} {xs : Nat → Int32} (C0 : lw_At p s m meth c b L xs) : ∃ X : xX, X.1 = b ∧ xEX X s.heap.size L xs s s.heap := by
  obtain ⟨hx, hb, hr, hml, hown, hts, hX, hbl, hlocks, hgv⟩ := C0
  have hf := flat_of_before _ hgv
  have hA : ∀ a : Nat, a < s.heap.size → ¬ xAA s.heap.size a := fun a h => Nat.not_le.mpr h
  obtain ⟨adK, adV, hS, hE⟩ := vk_Sof (A := xAA s.heap.size) (N := 3) (tm := xtm) (len := xBY.map List.length) (byt := xBY) xq_bl (fun i hi => hf _ (xq_ex i hi)) (fun i hi => hf _ (xq_co i hi)) (fun i hi => hf _ (xq_ar i hi)) (fun i hi => hf _ (xq_le i hi)) (fun i hi j hj => hf _ (xq_el i hi j hj)) (fun i j hi hj hij => (xq_ne i hi j hj hij).imp (fun h => hf _ h) (fun h => hf _ h)) hA
  refine ⟨(b, adK, adV), rfl, fun w hw => ?_, fun q hq => ?_, hS, ?_, ?_, hX, hbl⟩
  · exact va_Nw.of (xq_nw w hw).2 (hts w (xq_nw w hw).1)
  · obtain ⟨h1, h2, h3⟩ := xq_sr q hq
    exact vk_R.of (hts _ h1) (by rw [← h2]; exact hE _ h3)
  · exact va_Zof (hts _ xq_l1) (hts _ xq_i1) (va_eqi (hf _ xq_cs)) hA
  · exact va_Zqof (hts _ xq_l2) (hts _ xq_i2) (hf _ xq_si) hA
theorem zand63 (x : Int32) : 0 ≤ (x &&& 63).toInt ∧ (x &&& 63).toInt ≤ 63 := by
  obtain ⟨j, hj, e⟩ := pk_andE x (m := 63) 6 (by decide)
  rw [e, nI_toInt (by omega)]
  omega
theorem zone_ok {o : xR} (h : zone o = true) : ∃ outs, o = some outs ∧ ∀ q ∈ outs, q.1 = some (0, 1) := by
  cases o with
  | none => cases h
  | some l =>
    refine ⟨l, rfl, fun q hq => ?_⟩
    have h1 := List.all_eq_true.mp h q hq
    obtain ⟨r, t⟩ := q
    cases r with
    | none => cases h1
    | some v =>
      have h2 := xan h1
      obtain ⟨v1, v2⟩ := v
      have e1 : v1 = 0 := Nat.eq_of_beq_eq_true h2.1
      have e2 : v2 = 1 := Nat.eq_of_beq_eq_true h2.2
      subst e1
      subst e2
      rfl
theorem zBase_4b : ((xMT.zip zIN).all fun q => or q.2 (not (q.1.1.name == "<init>"))) = true := by decide +kernel
theorem zBase_5b : (xMT.all fun M => match M.2.2.2.2.2.2.2 with
    | [] => false
    | _ :: _ => true) = true := by decide +kernel
theorem zBase_ok : zBase zIN := by
  refine ⟨xcls, xJd_ok, xMT_ok, fun i M b h1 h2 hb hn => ?_, fun i M h1 hn => ?_⟩
  · have hm : (M, b) ∈ xMT.zip zIN := List.mem_of_getElem? (i := i) (by rw [List.getElem?_zip_eq_some]; exact ⟨h1, h2⟩)
    have h3 := List.all_eq_true.mp zBase_4b (M, b) hm
    rw [hb] at h3
    have h4 : (not (M.1.name == "<init>")) = true := h3
    rw [hn] at h4
    exact absurd h4 (by decide)
  · have h3 := List.all_eq_true.mp zBase_5b M (List.mem_of_getElem? h1)
    rw [hn] at h3
    cases h3
set_option maxHeartbeats 4000000 in
/-- THE LAW, from its entry -/
theorem whole_start {p : Program} {e : Env} {s : State} {m : MethodId} {below : List Frame} {meth : Method} {c : Code} (l : Launch) {b L : Nat} {xs : Nat → Int32} (hL : L ≤ 3072) (C0 : lw_At p s m meth c b L xs) : W p l e room_1 s m #[Value.ref b] below meth c s.heap [] 0 0 (lw_Z below #[Value.ref b] s) (entryFrame m ([Value.ref b] : List Value).toArray 4) := by
  obtain ⟨X, hXb, hE⟩ := xlaw_ex C0
  obtain ⟨hx, hb, hr, hml, hown, hts, hX, hbl, hlocks, hgv⟩ := id C0
  obtain ⟨c0, i0, hKn0⟩ := u_known (C := "GridLaws$Board") (T := xT_0) (N := 15) (n := 15) hts (fun w hw => (List.mem_filter.mp (xcf_0.1 w hw)).1) (hts _ (List.mem_filter.mp xcf_0.2.2.2.2.2.2.2.1).1)
  obtain ⟨c1, i1, hKn1⟩ := u_known (C := "GridLaws$Duel") (T := xT_1) (N := 6) (n := 6) hts (fun w hw => (List.mem_filter.mp (xcf_1.1 w hw)).1) (hts _ (List.mem_filter.mp xcf_1.2.2.2.2.2.2.2.1).1)
  obtain ⟨c2, i2, hKn2⟩ := u_known (C := "GridLaws$Filler") (T := xT_2) (N := 13) (n := 13) hts (fun w hw => (List.mem_filter.mp (xcf_2.1 w hw)).1) (hts _ (List.mem_filter.mp xcf_2.2.2.2.2.2.2.2.1).1)
  obtain ⟨c3, i3, hKn3⟩ := u_known (C := "GridLaws$Formula") (T := xT_3) (N := 6) (n := 6) hts (fun w hw => (List.mem_filter.mp (xcf_3.1 w hw)).1) (hts _ (List.mem_filter.mp xcf_3.2.2.2.2.2.2.2.1).1)
  obtain ⟨c4, i4, hKn4⟩ := u_known (C := "GridLaws$History") (T := xT_4) (N := 4) (n := 4) hts (fun w hw => (List.mem_filter.mp (xcf_4.1 w hw)).1) (hts _ (List.mem_filter.mp xcf_4.2.2.2.2.2.2.2.1).1)
  obtain ⟨c5, i5, hKn5⟩ := u_known (C := "GridLaws$Law") (T := xT_5) (N := 17) (n := 17) hts (fun w hw => (List.mem_filter.mp (xcf_5.1 w hw)).1) (hts _ (List.mem_filter.mp xcf_5.2.2.2.2.2.2.2.1).1)
  obtain ⟨c6, i6, hKn6⟩ := u_known (C := "GridLaws$Reader") (T := xT_6) (N := 5) (n := 5) hts (fun w hw => (List.mem_filter.mp (xcf_6.1 w hw)).1) (hts _ (List.mem_filter.mp xcf_6.2.2.2.2.2.2.2.1).1)
  obtain ⟨c7, i7, hKn7⟩ := u_known (C := "GridLaws$Rules") (T := xT_7) (N := 4) (n := 4) hts (fun w hw => (List.mem_filter.mp (xcf_7.1 w hw)).1) (hts _ (List.mem_filter.mp xcf_7.2.2.2.2.2.2.2.1).1)
  obtain ⟨c8, i8, hKn8⟩ := u_known (C := "GridLaws$Shelf") (T := xT_8) (N := 3) (n := 3) hts (fun w hw => (List.mem_filter.mp (xcf_8.1 w hw)).1) (hts _ (List.mem_filter.mp xcf_8.2.2.2.2.2.2.2.1).1)
  obtain ⟨c9, i9, hKn9⟩ := u_known (C := "GridLaws$Sights") (T := xT_9) (N := 7) (n := 7) hts (fun w hw => (List.mem_filter.mp (xcf_9.1 w hw)).1) (hts _ (List.mem_filter.mp xcf_9.2.2.2.2.2.2.2.1).1)
  obtain ⟨c10, i10, hKn10⟩ := u_known (C := "GridLaws$Tape") (T := xT_10) (N := 10) (n := 10) hts (fun w hw => (List.mem_filter.mp (xcf_10.1 w hw)).1) (hts _ (List.mem_filter.mp xcf_10.2.2.2.2.2.2.2.1).1)
  obtain ⟨c11, i11, hKn11⟩ := u_known (C := "GridLaws") (T := xT_11) (N := 13) (n := 13) hts (fun w hw => (List.mem_filter.mp (xcf_11.1 w hw)).1) (hts _ (List.mem_filter.mp xcf_11.2.2.2.2.2.2.2.1).1)
  obtain ⟨c12, i12, hKn12⟩ := u_known (C := "GridLawsModel") (T := xT_12) (N := 84) (n := 84) hts (fun w hw => (List.mem_filter.mp (xcf_12.1 w hw)).1) (hts _ (List.mem_filter.mp xcf_12.2.2.2.2.2.2.2.1).1)
  obtain ⟨dC, dI, hKc⟩ : ∃ (dC : Nat → ClassId) (dI : Nat → Nat → Nat), ∀ (k : Nat) (q : vw_C), xcl[k]? = some q → u_Kn s q.1 q.2.1 q.2.2 (dC k) (dI k) := by
    refine ⟨fun k => if k = 0 then c0 else if k = 1 then c1 else if k = 2 then c2 else if k = 3 then c3 else if k = 4 then c4 else if k = 5 then c5 else if k = 6 then c6 else if k = 7 then c7 else if k = 8 then c8 else if k = 9 then c9 else if k = 10 then c10 else if k = 11 then c11 else c12, fun k => if k = 0 then i0 else if k = 1 then i1 else if k = 2 then i2 else if k = 3 then i3 else if k = 4 then i4 else if k = 5 then i5 else if k = 6 then i6 else if k = 7 then i7 else if k = 8 then i8 else if k = 9 then i9 else if k = 10 then i10 else if k = 11 then i11 else i12, ?_⟩
    intro k q hq
    match k, hq with
    | 0, hq => cases hq; exact hKn0
    | 1, hq => cases hq; exact hKn1
    | 2, hq => cases hq; exact hKn2
    | 3, hq => cases hq; exact hKn3
    | 4, hq => cases hq; exact hKn4
    | 5, hq => cases hq; exact hKn5
    | 6, hq => cases hq; exact hKn6
    | 7, hq => cases hq; exact hKn7
    | 8, hq => cases hq; exact hKn8
    | 9, hq => cases hq; exact hKn9
    | 10, hq => cases hq; exact hKn10
    | 11, hq => cases hq; exact hKn11
    | 12, hq => cases hq; exact hKn12
    | k + 13, hq => exact absurd hq (by simp [xcl])
  have hS : xNok (l, X, (dC, dI), s.heap.size, L, xs) xLW 58 18 zstop := zstop_ok (fun tys => zk_law (zHy_of zBase_ok)) hL
  have go : ∀ (G : xG) (sy : xS), xGok_w (l, X, (dC, dI), s.heap.size, L, xs) G → xsat sy (xrho (l, X, (dC, dI), s.heap.size, L, xs)) → zone (zpre G (xh_run (xd_meths G xNA xMT) 30000) [(6, 0), (9, 0), (9, 0), (9, 0)] [] xH0 sy 0 0) = true → W p l e room_1 s m #[Value.ref b] below meth c s.heap [] 0 0 (lw_Z below #[Value.ref b] s) (entryFrame m ([Value.ref b] : List Value).toArray 4) := by
    intro G sy hG hs hrun
    obtain ⟨outs, hk, hone⟩ := zone_ok hrun
    have hI := xrun_ok_w (g := (l, X, (dC, dI), s.heap.size, L, xs)) (G := G) xcls xJd_ok xMT_ok hG 30000
    have hok := zpre_ok xcls xJd_ok xMT_ok hG hI hS _ _ _ _ _ _ _ hk
    rw [lg_entry_eq]
    refine hok p e room_1 s m #[Value.ref b] below meth c (lw_Z below #[Value.ref b] s) s.heap [] _ [] (xrho (l, X, (dC, dI), s.heap.size, L, xs)) [] [] ?_ ?_ hs (xx_e_rf _) trivial ?_ ?_
    · exact ⟨hx, hb, hml, fun w hw => hts w (List.mem_filter.mp hw).1, hown, fun h => absurd h (by decide), hE, Nat.le_refl _, by decide, by decide, Nat.le_refl _, Nat.le_refl _⟩
    · refine ⟨fun k q h => by simp at h, ⟨fun i j p q h => by simp at h, fun k q h => by simp at h⟩, va_S.rf, ⟨hKc, fun k q h => by simp at h⟩, rfl, fun k p c h => by simp at h⟩
    · exact xentry_ok (as := [(6, 0)]) (vs := [Value.ref b]) (n := 4) ⟨by rw [← hXb]; rfl, trivial⟩ (by decide)
    · intro o ho ρ' ws' tys' H' locs' ls' pc' ce' sl' e1 e2 e3 hW' hce hsl
      have ho1 := hone o ho
      refine ⟨fun o1 => absurd (ho1.symm.trans o1) (fun h => by cases h), fun a x ty o1 r1 hxv hnar dg => ?_, fun a x o1 r1 => absurd r1 (fun h => by cases h)⟩
      rw [ho1] at o1
      cases o1
      have ex : x = 1 := by
        have : Value.int x = .int (Int32.ofNat 1) := hxv
        injection this
      subst ex
      refine va_forget hW'.2.2.1.2.2 ?_
      refine W.widen (k := 600000) (n := 7302250) hce hsl ?_
      exact lw_ret hx hb hr hlocks dg
  by_cases h6 : L = 6
  · subst h6
    refine go zGB _ ⟨rfl, rfl, Or.inl ⟨rfl, rfl⟩⟩ ?_ zrB_ok
    show xsat _ (xrho (l, X, (dC, dI), s.heap.size, 6, xs))
    unfold xrho
    rw [if_pos (show (6 : Nat) = 6 from rfl)]
    exact ⟨zfull_ok _, zfull_ok _, zfull_ok _, zfull_ok _, zfull_ok _, zfull_ok _, zand63 (xs 0), trivial⟩
  · refine go zGA _ ⟨rfl, rfl, Or.inr ⟨rfl, h6⟩⟩ ?_ zrA_ok
    show xsat [(0, 3072)] (xrho (l, X, (dC, dI), s.heap.size, L, xs))
    unfold xrho
    rw [if_neg (show ¬ L = 6 from h6)]
    refine ⟨?_, trivial⟩
    have e1 : (Int32.ofNat L).toInt = (L : Int) := nI_toInt (by omega)
    show (0 : Int) ≤ (Int32.ofNat L).toInt ∧ (Int32.ofNat L).toInt ≤ 3072
    omega
set_option maxHeartbeats 4000000 in
theorem lw_walk (l : Launch) (b : Addr) (xs : List Int32) : MetFree l x (headSpec (Jvm.Cond.code x code maxLocals ret :: tables_1) room_1) (lw_P b xs) (fun _ _ _ _ _ => True) lw_Q := by
  refine MetFree.of_bodyS (code := code) (maxLocals := maxLocals) (ret := ret) (by decide) ?_ ?_
  · intro args s m h hn
    obtain ⟨meth, c, h1, h2, h3, h4, h5, h6, -, -⟩ := Cond.code_spec hn (atoms_spec (ws := Jvm.Cond.code x code maxLocals ret :: tables_1) h _ List.mem_cons_self)
    exact ⟨meth, c, h1, h2, h3, h4, h5, h6⟩
  · intro p e s m args below meth c s₁ B hml0 hP _
    obtain ⟨rfl, hx, hbd, hgv⟩ := hP
    obtain ⟨scr, harrAt, hlist, hof, hsmall⟩ := hx
    obtain ⟨hcb, hkn, -, -⟩ := State.arrayAt?_spec harrAt
    have hown : s.vm.findClass R_law = some m.cls := findClass_of_methodNamed B.named
    have hts0 : ∀ c ∈ (Jvm.Cond.code x code maxLocals ret :: tables_1), c.before #[Value.ref b] s = true := atoms_spec (ws := Jvm.Cond.code x code maxLocals ret :: tables_1) B.pre
    have hts : ∀ w ∈ lw_tbl, w.before #[Value.ref b] s = true := k2_hts_sels lw_privs (fun w hw => hts0 w (List.mem_cons_of_mem _ hw)) lw_privs_ok
    have hml : c.maxLocals = 4 := B.maxLocals_eq (hts0 _ List.mem_cons_self)
    have X₀ : Stand p l e room_1 s m #[Value.ref b] below meth c s₁ [] 0 0 := Stand.of_body B
    have hh0 : s₁.heap = s.heap := by rw [B.state]; rfl
    have hsz : scr.slots.size = xs.length := by rw [← Array.length_toList, hlist, List.length_map]
    have hval : ∀ j : Nat, j < xs.length → scr.slots[j]? = some (.int (xs.getD j 0)) := fun j hj => by
      rw [← Array.getElem?_toList, hlist]
      simp [hj]
    have hbl : b < s.heap.size := (Array.getElem?_eq_some_iff.mp hcb).1
    have hX : va_X b xs.length (fun j => xs.getD j 0) s s.heap := ⟨scr, hcb, hof, hkn, hsz, hval⟩
    have K : W p l e room_1 s m #[Value.ref b] below meth c s₁.heap [] 0 0 (lw_Z below #[Value.ref b] s) (entryFrame m ([Value.ref b] : List Value).toArray 4) := by
      rw [hh0]
      exact whole_start l hbd ⟨B.exec, B.bytes, B.returns, hml, hown, hts, hX, hbl, B.notSynchronized, hgv⟩
    obtain ⟨t, a1, o, b1, b2, b3⟩ := K s₁ rfl X₀
    exact ⟨t, o, a1, b1, b2, b3⟩
theorem lw_pre_spec {args : Array Value} {s : State} (h : (Jvm.Cond.and given_1 narrow_1).before args s = true) (hr : rest_1_c.before args s = true) : ∃ (b : Addr) (xs : List Int32), lw_P b xs args s := by
  have hs := flat_of_before _ h
  have hq := flat_of_before _ hr
  have hc : (Cond.count 1).before args s = true := hs _ (by decide +kernel)
  have harr : (Cond.arrayOf (.arg 0) .int).before args s = true := hs _ (by decide +kernel)
  have hle : (Cond.le (.length (.arg 0)) (.int 3072)).before args s = true := hs _ (by decide +kernel)
  have hlen : (Cond.isInt (.length (.arg 0))).before args s = true := hq _ (by decide +kernel)
  have hall : (Cond.all (.arg 0) (.isInt (.elem (.arg 0) (.index 0)))).before args s = true := hq _ (by decide +kernel)
  obtain ⟨b, xs, hb, hx⟩ := State.ints_of_pre rfl harr hlen hall
  have hsm : xs.length < 2 ^ 31 := hx.choose_spec.2.2.2
  have hev : (Term.length (.arg 0)).eval args s none [] s = some (.int xs.length.toInt32) := hx.length_eval hb
  have hv := Cond.le_ints hev (show (Term.int 3072).eval args s none [] s = some (.int 3072) from rfl)
  have hd : xs.length.toInt32 ≤ 3072 := by
    simpa [Cond.before, Cond.holds, hv] using hle
  have hN : xs.length ≤ 3072 := (Int32.ofNat_le_ofNat hsm (by decide)).mp (show Int32.ofNat xs.length ≤ Int32.ofNat 3072 from hd)
  exact ⟨b, xs, Cond.one_arg hc (show args[0]? = some (.ref b) from hb), hx, hN, h⟩
theorem lw_comes (l : Launch) : Comes l x (Jvm.Cond.code x code maxLocals ret :: tables_1) room_1 (fun tb e args s => Calls_1 tb e args s ∧ rest_1 tb e args s ∧ Pre_1 tb e args s)
    (fun _ _ args s o t => lw_Q args s o t) := by
  intro p e ha hc hk s m args below hf hfit hheap happ hpre
  obtain ⟨b, xs, hP⟩ := lw_pre_spec hpre.2.2 hpre.2.1
  obtain ⟨k, o, h1, h2, h3, hQ⟩ := lw_walk l b xs p e ha hc hk s m args below hf ((Spec.applies_iff_loose hf).mp happ).1 hP trivial
  exact ⟨k, o, h1, h2, h3, hQ⟩
theorem lw_frame {s t : State} {o : Outcome} {args : Array Value} (h : Framed s o t [] 600000 7302250) :
    Framed s o t (fieldLocs frame_1_writes args s ++ arrayLocs frame_1_arrays args s ++ staticLocs frame_1_statics s) 600000 7302250 := h
theorem lw_limb (L : Cond) (hL : ∀ (args : Array Value) (s t : State), L.after args s (.returned (some (.int 1))) t = true) :
    ArmFor flags0 classFile x code maxLocals ret World_1 tables_1 room_1 Calls_1 rest_1 Pre_1
      (fun tb e a s o t => postC L tb e a s o t ∧ Framed s o t (fieldLocs frame_1_writes a s ++ arrayLocs frame_1_arrays a s ++ staticLocs frame_1_statics s) 600000 7302250) := by
  intro l _ _ _ p e ha hc hk s m args below hf hfit hheap happ hpre
  obtain ⟨k, o, h1, h2, h3, rfl, hF⟩ := lw_comes l p e ha hc hk s m args below hf hfit hheap happ hpre
  exact ⟨k, _, h1, h2, h3, hL args s _, lw_frame hF⟩
theorem i_vc : Claimed_1_1 ∧ Claimed_1_2 := ⟨lw_limb limb_1_1 (fun args s t => by simp [limb_1_1, Cond.after, Cond.holds, Cond.value]), lw_limb limb_1_2 (fun args s t => Cond.after_iff.mpr (by
  first | (rw [show limb_1_2 = Cond.eq .result (.int 1) from rfl, Cond.eq_ints (x := 1) (y := 1) rfl rfl]; simp; done) | (simp [limb_1_2, Cond.value, Term.eval]; done)))⟩
