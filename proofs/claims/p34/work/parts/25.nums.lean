/-! numbers, stack, jumps -/
section XJ
variable {g : xGl} {M : xM} {d pc : Nat} {nx ag : xN} {jp : Nat → xN} {ca : xK}
/-- one step of the machine that takes two ints and gives one -/
def xStep2 (g : xGl) (M : xM) (pc : Nat) (F : Int32 → Int32 → Int32) : Prop := ∀ (p : Program) (e : Env) (R : Room) (s : State) (m : MethodId) (args : Array Value) (below : List Frame) (meth : Method) (c : Code) (Q : State → Prop) (H : Heap) (locs : List Loc) (ls : Array Slot) (rest : List Value) (x y : Int32) (ce sl : Nat), p.tables.exec = Jvm.exec → c.code = M.2.1 → W p g.1 e R s m args below meth c H locs ce sl Q (F0 m (pc + 1) ls (.int (F x y) :: rest)) → W p g.1 e R s m args below meth c H locs ce sl Q (F0 m pc ls (.int y :: .int x :: rest))
theorem xs_bin_any {f : Nat → Nat → Nat} {F : Int32 → Int32 → Int32} {r : Int × Int → Int × Int → Int × Int} (hF : ∀ m n, Int32.ofNat (f m n) = F (Int32.ofNat m) (Int32.ofNat n)) (hg : xgood F r) (hS : xStep2 g M pc F) (hn : xNok g M d (pc + 1) nx) : xNok g M d pc (xd_bin f r nx jp ag ca) := by
  intro lv st h sy ce sl outs hk p e R s m args below meth c Q H locs ls vs ρ ws tys hF' hW hs hr hst hlv hRT
  match st, hk, hst with
  | [], hk, _ => cases hk
  | [b], hk, _ => cases hk
  | b :: a :: st, hk, hst =>
    obtain ⟨vb, vs1, rfl, hb, hs1⟩ := xx_2_cons hst
    obtain ⟨va, vs2, rfl, ha, hs2⟩ := xx_2_cons hs1
    obtain ⟨x, y, v, sy', ρ', rfl, rfl, g1, g2, g3, g4, g5⟩ := xbin_ok (X := g.2.1) (aw := xaw ws) hF hg (show xh_bin f r b a sy (fun v sy' => nx lv (v :: st) h sy' ce sl) = some outs from hk) hs ha hb
    refine hS p e R s m args below meth c Q H locs ls vs2 x y ce sl hF'.1 hF'.2.1 ?_
    exact hn _ _ _ _ _ _ _ g1 p e R s m args below meth c Q H locs ls _ ρ' ws tys hF' (xWd_mono g2 hW) g3 (xx_e_tr hr g2) ⟨g4, xx_2_mono (fun _ _ q => xv_mono g2 (xx_e_rf _) q) hs2⟩ (xLv_mono g2 (xx_e_rf _) hlv) (xRT_mono hRT (fun _ z => z) g2 (xx_e_rf _))
/-- a sum -/
theorem xs_iadd (hd : decode M.2.1 pc = .ok (.iadd, 1)) (hn : xNok g M d (pc + 1) nx) : xNok g M d pc (xd_add nx jp ag ca) := by
  intro lv st h sy ce sl outs hk p e R s m args below meth c Q H locs ls vs ρ ws tys hF hW hs hr hst hlv hRT
  match st, hk, hst with
  | [], hk, _ => cases hk
  | [b], hk, _ => cases hk
  | b :: a :: st, hk, hst =>
    have hk' : cond (and (Nat.beq b.1 1) (and (Nat.beq a.1 0) (Nat.beq a.2 0))) (nx lv (b :: st) h sy ce sl) (xh_bin xn_add xg_add b a sy fun v sy' => nx lv (v :: st) h sy' ce sl) = some outs := hk
    cases hc : and (Nat.beq b.1 1) (and (Nat.beq a.1 0) (Nat.beq a.2 0)) with
    | false =>
      rw [hc] at hk'
      dsimp only [cond] at hk'
      exact xs_bin_any (ag := ag) (jp := jp) (ca := ca) (f := xn_add) (r := xg_add) (F := fun x y => x + y) xn_add_ok xgood_add (fun p e R s m args below meth c Q H locs ls rest x y ce sl hx hb k => lv_iadd hx hb hd k) hn lv (b :: a :: st) h sy ce sl outs hk' p e R s m args below meth c Q H locs ls vs ρ ws tys hF hW hs hr hst hlv hRT
    | true =>
      rw [hc] at hk'
      dsimp only [cond] at hk'
      have c1 := Bool.and_eq_true_iff.mp hc
      have c2 := Bool.and_eq_true_iff.mp c1.2
      obtain ⟨vb, vs1, rfl, hb, hs1⟩ := xx_2_cons hst
      obtain ⟨va, vs2, rfl, ha, hs2⟩ := xx_2_cons hs1
      obtain ⟨y, e1, rfl⟩ := xv_1 c1.1 hb
      have ea := xv_0 c2.1 ha
      rw [Nat.eq_of_beq_eq_true c2.2] at ea
      subst ea
      refine lv_iadd hF.1 hF.2.1 hd ?_
      have e0 : Int32.ofNat 0 + y = y := by rw [show Int32.ofNat 0 = 0 from rfl, Int32.zero_add]
      rw [e0]
      exact hn _ _ _ _ _ _ _ hk' p e R s m args below meth c Q H locs ls _ ρ ws tys hF hW hs hr ⟨hb, hs2⟩ hlv hRT
/-- a product -/
theorem xs_imul (hd : decode M.2.1 pc = .ok (.imul, 1)) (hn : xNok g M d (pc + 1) nx) (ha' : xNok g M d pc ag) : xNok g M d pc (xd_mul nx jp ag ca) := by
  intro lv st h sy ce sl outs hk p e R s m args below meth c Q H locs ls vs ρ ws tys hF hW hs hr hst hlv hRT
  match st, hk, hst with
  | [], hk, _ => cases hk
  | [b], hk, _ => cases hk
  | b :: a :: st, hk, hst =>
    have hk' : cond (and (Nat.beq a.1 1) (xh_few sy a)) (xh_conc sy a fun a' sy' => ag lv (b :: a' :: st) h sy' ce sl) (cond (and (Nat.beq b.1 1) (xh_few sy b)) (xh_conc sy b fun b' sy' => ag lv (b' :: a :: st) h sy' ce sl) (xh_bin xn_mul xg_any b a sy fun v sy' => nx lv (v :: st) h sy' ce sl)) = some outs := hk
    obtain ⟨vb, vs1, rfl, hb, hs1⟩ := xx_2_cons hst
    obtain ⟨va, vs2, rfl, ha, hs2⟩ := xx_2_cons hs1
    cases hc : and (Nat.beq a.1 1) (xh_few sy a) with
    | true =>
      rw [hc] at hk'
      dsimp only [cond] at hk'
      obtain ⟨a', sy', r', g1, g2, g3, g4⟩ := xconc_ok (X := g.2.1) (aw := xaw ws) hk' hs ha
      exact ha' _ _ _ _ _ _ _ g1 p e R s m args below meth c Q H locs ls _ ρ ws tys hF hW g2 hr ⟨hb, g3, hs2⟩ hlv (xRT_mono hRT g4 (xx_e_rf _) (xx_e_rf _))
    | false =>
      rw [hc] at hk'
      dsimp only [cond] at hk'
      cases hc2 : and (Nat.beq b.1 1) (xh_few sy b) with
      | true =>
        rw [hc2] at hk'
        dsimp only [cond] at hk'
        obtain ⟨b', sy', r', g1, g2, g3, g4⟩ := xconc_ok (X := g.2.1) (aw := xaw ws) hk' hs hb
        exact ha' _ _ _ _ _ _ _ g1 p e R s m args below meth c Q H locs ls _ ρ ws tys hF hW g2 hr ⟨g3, ha, hs2⟩ hlv (xRT_mono hRT g4 (xx_e_rf _) (xx_e_rf _))
      | false =>
        rw [hc2] at hk'
        dsimp only [cond] at hk'
        exact xs_bin_any (ag := ag) (jp := jp) (ca := ca) (f := xn_mul) (r := xg_any) (F := fun x y => x * y) xn_mul_ok (xgood_any _) (fun p e R s m args below meth c Q H locs ls rest x y ce sl hx hb k => lv_imul hx hb hd k) hn lv (b :: a :: st) h sy ce sl outs hk' p e R s m args below meth c Q H locs ls _ ρ ws tys hF hW hs hr hst hlv hRT
/-- division and rest -/
theorem xs_div {f : Nat → Nat → Nat} {F : Int32 → Int32 → Int32} (hF : ∀ m n, Int32.ofNat (f m n) = F (Int32.ofNat m) (Int32.ofNat n)) (hS : ∀ (p : Program) (e : Env) (R : Room) (s : State) (m : MethodId) (args : Array Value) (below : List Frame) (meth : Method) (c : Code) (Q : State → Prop) (H : Heap) (locs : List Loc) (ls : Array Slot) (rest : List Value) (x y : Int32) (ce sl : Nat), p.tables.exec = Jvm.exec → c.code = M.2.1 → ¬ y = 0 → W p g.1 e R s m args below meth c H locs ce sl Q (F0 m (pc + 1) ls (.int (F x y) :: rest)) → W p g.1 e R s m args below meth c H locs ce sl Q (F0 m pc ls (.int y :: .int x :: rest))) (hn : xNok g M d (pc + 1) nx) : xNok g M d pc (xd_div f nx jp ag ca) := by
  intro lv st h sy ce sl outs hk p e R s m args below meth c Q H locs ls vs ρ ws tys hF' hW hs hr hst hlv hRT
  match st, hk, hst with
  | [], hk, _ => cases hk
  | [b], hk, _ => cases hk
  | b :: a :: st, hk, hst =>
    have hk' : cond (and (Nat.beq b.1 0) (not (Nat.beq (Nat.mod b.2 4294967296) 0))) (xh_bin f xg_any b a sy fun v sy' => nx lv (v :: st) h sy' ce sl) none = some outs := hk
    cases hc : and (Nat.beq b.1 0) (not (Nat.beq (Nat.mod b.2 4294967296) 0)) with
    | false => rw [hc] at hk'; cases hk'
    | true =>
      rw [hc] at hk'
      dsimp only [cond] at hk'
      have c1 := Bool.and_eq_true_iff.mp hc
      obtain ⟨vb, vs1, rfl, hb, hs1⟩ := xx_2_cons hst
      obtain ⟨va, vs2, rfl, ha, hs2⟩ := xx_2_cons hs1
      obtain ⟨x, y, v, sy', ρ', rfl, rfl, g1, g2, g3, g4, g5⟩ := xbin_ok (X := g.2.1) (aw := xaw ws) hF (xgood_any F) hk' hs ha hb
      have hy : ¬ y = 0 := by
        intro e0
        have e1 := xv_0 c1.1 hb
        rw [e0] at e1
        have e2 : (0 : Int32) = Int32.ofNat b.2 := by injection e1
        have e3 : b.2 % 4294967296 = 0 := by
          have e4 := congrArg (fun z : Int32 => z.toUInt32.toNat) e2
          have e5 : (Int32.ofNat b.2).toUInt32.toNat = b.2 % 4294967296 := by
            have : (Int32.ofNat b.2).toUInt32 = UInt32.ofNat b.2 := rfl
            rw [this]
            simp
          have e6 : (0 : Int32).toUInt32.toNat = 0 := rfl
          rw [← e5, ← e6]
          exact e4.symm
        have e7 : Nat.mod b.2 4294967296 = 0 := e3
        rw [e7] at c1
        exact absurd c1.2 (by decide)
      refine hS p e R s m args below meth c Q H locs ls vs2 x y ce sl hF'.1 hF'.2.1 hy ?_
      exact hn _ _ _ _ _ _ _ g1 p e R s m args below meth c Q H locs ls _ ρ' ws tys hF' (xWd_mono g2 hW) g3 (xx_e_tr hr g2) ⟨g4, xx_2_mono (fun _ _ q => xv_mono g2 (xx_e_rf _) q) hs2⟩ (xLv_mono g2 (xx_e_rf _) hlv) (xRT_mono hRT (fun _ z => z) g2 (xx_e_rf _))
/-- one int -/
theorem xs_un {f : Int32 → Int32} (hS : ∀ (p : Program) (e : Env) (R : Room) (s : State) (m : MethodId) (args : Array Value) (below : List Frame) (meth : Method) (c : Code) (Q : State → Prop) (H : Heap) (locs : List Loc) (ls : Array Slot) (rest : List Value) (x : Int32) (ce sl : Nat), p.tables.exec = Jvm.exec → c.code = M.2.1 → W p g.1 e R s m args below meth c H locs ce sl Q (F0 m (pc + 1) ls (.int (f x) :: rest)) → W p g.1 e R s m args below meth c H locs ce sl Q (F0 m pc ls (.int x :: rest))) (hn : xNok g M d (pc + 1) nx) : xNok g M d pc (xd_un f nx jp ag ca) := by
  intro lv st h sy ce sl outs hk p e R s m args below meth c Q H locs ls vs ρ ws tys hF hW hs hr hst hlv hRT
  cases st with
  | nil => cases hk
  | cons a st =>
    obtain ⟨v, vs, rfl, hv, hs2⟩ := xx_2_cons hst
    have hk' : cond (Nat.beq a.1 0) (xx_f (xx_n (f (Int32.ofNat a.2))) fun n => nx lv ((0, n) :: st) h sy ce sl) (cond (xc_i a) (xh_fresh sy xs_full fun v sy' => nx lv (v :: st) h sy' ce sl) none) = some outs := hk
    cases hc : Nat.beq a.1 0 with
    | true =>
      rw [hc] at hk'
      dsimp only [cond] at hk'
      have ea := xv_0 hc hv
      subst ea
      have h1 : xx_f (xx_n (f (Int32.ofNat a.2))) (fun n => nx lv ((0, n) :: st) h sy ce sl) = some outs := hk'
      rw [xx_f_eq] at h1
      refine hS p e R s m args below meth c Q H locs ls vs _ ce sl hF.1 hF.2.1 ?_
      exact hn _ _ _ _ _ _ _ h1 p e R s m args below meth c Q H locs ls _ ρ ws tys hF hW hs hr ⟨congrArg Value.int (xx_n_of _).symm, hs2⟩ hlv hRT
    | false =>
      rw [hc] at hk'
      dsimp only [cond] at hk'
      cases hc2 : xc_i a with
      | false => rw [hc2] at hk'; cases hk'
      | true =>
        rw [hc2] at hk'
        dsimp only [cond] at hk'
        obtain ⟨x, rfl⟩ := xv_i hc2 hv
        obtain ⟨sy', a', g1, g3, g4, g5⟩ := xfresh_ok hk' hs (f x) (xfull_ok _) g.2.1 (xaw ws)
        have g2 := xx_e_one ρ (f x)
        refine hS p e R s m args below meth c Q H locs ls vs _ ce sl hF.1 hF.2.1 ?_
        exact hn _ _ _ _ _ _ _ g1 p e R s m args below meth c Q H locs ls _ _ ws tys hF (xWd_mono g2 hW) g3 (xx_e_tr hr g2) ⟨g4, xx_2_mono (fun _ _ q => xv_mono g2 (xx_e_rf _) q) hs2⟩ (xLv_mono g2 (xx_e_rf _) hlv) (xRT_mono hRT (fun _ z => z) g2 (xx_e_rf _))
/-- longs -/
theorem xs_lbin {f : Int64 → Int64 → Int64} (hS : ∀ (p : Program) (e : Env) (R : Room) (s : State) (m : MethodId) (args : Array Value) (below : List Frame) (meth : Method) (c : Code) (Q : State → Prop) (H : Heap) (locs : List Loc) (ls : Array Slot) (rest : List Value) (x y : Int64) (ce sl : Nat), p.tables.exec = Jvm.exec → c.code = M.2.1 → W p g.1 e R s m args below meth c H locs ce sl Q (F0 m (pc + 1) ls (.long (f x y) :: rest)) → W p g.1 e R s m args below meth c H locs ce sl Q (F0 m pc ls (.long y :: .long x :: rest))) (hn : xNok g M d (pc + 1) nx) : xNok g M d pc (xd_lbin f nx jp ag ca) := by
  intro lv st h sy ce sl outs hk p e R s m args below meth c Q H locs ls vs ρ ws tys hF hW hs hr hst hlv hRT
  match st, hk, hst with
  | [], hk, _ => cases hk
  | [b], hk, _ => cases hk
  | b :: a :: st, hk, hst =>
    obtain ⟨vb, vs1, rfl, hb, hs1⟩ := xx_2_cons hst
    obtain ⟨va, vs2, rfl, ha, hs2⟩ := xx_2_cons hs1
    have hk' : cond (and (Nat.beq a.1 4) (Nat.beq b.1 4)) (xx_f (xx_ln (f (Int64.ofNat a.2) (Int64.ofNat b.2))) fun n => nx lv ((4, n) :: st) h sy ce sl) (cond (and (xc_l a) (xc_l b)) (nx lv ((5, 0) :: st) h sy ce sl) none) = some outs := hk
    cases hc : and (Nat.beq a.1 4) (Nat.beq b.1 4) with
    | true =>
      rw [hc] at hk'
      dsimp only [cond] at hk'
      have c1 := Bool.and_eq_true_iff.mp hc
      have ea := xv_4 c1.1 ha
      have eb := xv_4 c1.2 hb
      subst ea
      subst eb
      have h1 : xx_f (xx_ln (f (Int64.ofNat a.2) (Int64.ofNat b.2))) (fun n => nx lv ((4, n) :: st) h sy ce sl) = some outs := hk'
      rw [xx_f_eq] at h1
      refine hS p e R s m args below meth c Q H locs ls vs2 _ _ ce sl hF.1 hF.2.1 ?_
      exact hn _ _ _ _ _ _ _ h1 p e R s m args below meth c Q H locs ls _ ρ ws tys hF hW hs hr ⟨congrArg Value.long (xx_l_of _).symm, hs2⟩ hlv hRT
    | false =>
      rw [hc] at hk'
      dsimp only [cond] at hk'
      cases hc2 : and (xc_l a) (xc_l b) with
      | false => rw [hc2] at hk'; cases hk'
      | true =>
        rw [hc2] at hk'
        dsimp only [cond] at hk'
        have c1 := Bool.and_eq_true_iff.mp hc2
        obtain ⟨x, rfl⟩ := xv_l c1.1 ha
        obtain ⟨y, rfl⟩ := xv_l c1.2 hb
        refine hS p e R s m args below meth c Q H locs ls vs2 _ _ ce sl hF.1 hF.2.1 ?_
        exact hn _ _ _ _ _ _ _ hk' p e R s m args below meth c Q H locs ls _ ρ ws tys hF hW hs hr ⟨⟨_, rfl⟩, hs2⟩ hlv hRT
theorem xs_lsh {f : Int64 → Int32 → Int64} (hS : ∀ (p : Program) (e : Env) (R : Room) (s : State) (m : MethodId) (args : Array Value) (below : List Frame) (meth : Method) (c : Code) (Q : State → Prop) (H : Heap) (locs : List Loc) (ls : Array Slot) (rest : List Value) (x : Int64) (y : Int32) (ce sl : Nat), p.tables.exec = Jvm.exec → c.code = M.2.1 → W p g.1 e R s m args below meth c H locs ce sl Q (F0 m (pc + 1) ls (.long (f x y) :: rest)) → W p g.1 e R s m args below meth c H locs ce sl Q (F0 m pc ls (.int y :: .long x :: rest))) (hn : xNok g M d (pc + 1) nx) : xNok g M d pc (xd_lsh f nx jp ag ca) := by
  intro lv st h sy ce sl outs hk p e R s m args below meth c Q H locs ls vs ρ ws tys hF hW hs hr hst hlv hRT
  match st, hk, hst with
  | [], hk, _ => cases hk
  | [b], hk, _ => cases hk
  | b :: a :: st, hk, hst =>
    obtain ⟨vb, vs1, rfl, hb, hs1⟩ := xx_2_cons hst
    obtain ⟨va, vs2, rfl, ha, hs2⟩ := xx_2_cons hs1
    have hk' : cond (and (Nat.beq a.1 4) (Nat.beq b.1 0)) (xx_f (xx_ln (f (Int64.ofNat a.2) (Int32.ofNat b.2))) fun n => nx lv ((4, n) :: st) h sy ce sl) (cond (and (xc_l a) (xc_i b)) (nx lv ((5, 0) :: st) h sy ce sl) none) = some outs := hk
    cases hc : and (Nat.beq a.1 4) (Nat.beq b.1 0) with
    | true =>
      rw [hc] at hk'
      dsimp only [cond] at hk'
      have c1 := Bool.and_eq_true_iff.mp hc
      have ea := xv_4 c1.1 ha
      have eb := xv_0 c1.2 hb
      subst ea
      subst eb
      have h1 : xx_f (xx_ln (f (Int64.ofNat a.2) (Int32.ofNat b.2))) (fun n => nx lv ((4, n) :: st) h sy ce sl) = some outs := hk'
      rw [xx_f_eq] at h1
      refine hS p e R s m args below meth c Q H locs ls vs2 _ _ ce sl hF.1 hF.2.1 ?_
      exact hn _ _ _ _ _ _ _ h1 p e R s m args below meth c Q H locs ls _ ρ ws tys hF hW hs hr ⟨congrArg Value.long (xx_l_of _).symm, hs2⟩ hlv hRT
    | false =>
      rw [hc] at hk'
      dsimp only [cond] at hk'
      cases hc2 : and (xc_l a) (xc_i b) with
      | false => rw [hc2] at hk'; cases hk'
      | true =>
        rw [hc2] at hk'
        dsimp only [cond] at hk'
        have c1 := Bool.and_eq_true_iff.mp hc2
        obtain ⟨x, rfl⟩ := xv_l c1.1 ha
        obtain ⟨y, rfl⟩ := xv_i c1.2 hb
        refine hS p e R s m args below meth c Q H locs ls vs2 _ _ ce sl hF.1 hF.2.1 ?_
        exact hn _ _ _ _ _ _ _ hk' p e R s m args below meth c Q H locs ls _ ρ ws tys hF hW hs hr ⟨⟨_, rfl⟩, hs2⟩ hlv hRT
theorem xs_i2l (hd : decode M.2.1 pc = .ok (.i2l, 1)) (hn : xNok g M d (pc + 1) nx) : xNok g M d pc (xd_i2l nx jp ag ca) := by
  intro lv st h sy ce sl outs hk p e R s m args below meth c Q H locs ls vs ρ ws tys hF hW hs hr hst hlv hRT
  cases st with
  | nil => cases hk
  | cons a st =>
    obtain ⟨v, vs, rfl, hv, hs2⟩ := xx_2_cons hst
    have hk' : cond (Nat.beq a.1 0) (xx_f (xx_ln (Int32.ofNat a.2).toInt64) fun n => nx lv ((4, n) :: st) h sy ce sl) (cond (xc_i a) (nx lv ((5, 0) :: st) h sy ce sl) none) = some outs := hk
    cases hc : Nat.beq a.1 0 with
    | true =>
      rw [hc] at hk'
      dsimp only [cond] at hk'
      have ea := xv_0 hc hv
      subst ea
      have h1 : xx_f (xx_ln (Int32.ofNat a.2).toInt64) (fun n => nx lv ((4, n) :: st) h sy ce sl) = some outs := hk'
      rw [xx_f_eq] at h1
      exact lv_i2l hF.1 hF.2.1 hd rfl (hn _ _ _ _ _ _ _ h1 p e R s m args below meth c Q H locs ls _ ρ ws tys hF hW hs hr ⟨congrArg Value.long (xx_l_of _).symm, hs2⟩ hlv hRT)
    | false =>
      rw [hc] at hk'
      dsimp only [cond] at hk'
      cases hc2 : xc_i a with
      | false => rw [hc2] at hk'; cases hk'
      | true =>
        rw [hc2] at hk'
        dsimp only [cond] at hk'
        obtain ⟨x, rfl⟩ := xv_i hc2 hv
        exact lv_i2l hF.1 hF.2.1 hd rfl (hn _ _ _ _ _ _ _ hk' p e R s m args below meth c Q H locs ls _ ρ ws tys hF hW hs hr ⟨⟨_, rfl⟩, hs2⟩ hlv hRT)
theorem xs_l2i (hd : decode M.2.1 pc = .ok (.l2i, 1)) (hn : xNok g M d (pc + 1) nx) : xNok g M d pc (xd_l2i nx jp ag ca) := by
  intro lv st h sy ce sl outs hk p e R s m args below meth c Q H locs ls vs ρ ws tys hF hW hs hr hst hlv hRT
  cases st with
  | nil => cases hk
  | cons a st =>
    obtain ⟨v, vs, rfl, hv, hs2⟩ := xx_2_cons hst
    have hk' : cond (Nat.beq a.1 4) (xx_f (xx_n (Int64.ofNat a.2).toInt32) fun n => nx lv ((0, n) :: st) h sy ce sl) (cond (xc_l a) (xh_fresh sy xs_full fun v sy' => nx lv (v :: st) h sy' ce sl) none) = some outs := hk
    cases hc : Nat.beq a.1 4 with
    | true =>
      rw [hc] at hk'
      dsimp only [cond] at hk'
      have ea := xv_4 hc hv
      subst ea
      have h1 : xx_f (xx_n (Int64.ofNat a.2).toInt32) (fun n => nx lv ((0, n) :: st) h sy ce sl) = some outs := hk'
      rw [xx_f_eq] at h1
      exact lv_l2i hF.1 hF.2.1 hd rfl (hn _ _ _ _ _ _ _ h1 p e R s m args below meth c Q H locs ls _ ρ ws tys hF hW hs hr ⟨congrArg Value.int (xx_n_of _).symm, hs2⟩ hlv hRT)
    | false =>
      rw [hc] at hk'
      dsimp only [cond] at hk'
      cases hc2 : xc_l a with
      | false => rw [hc2] at hk'; cases hk'
      | true =>
        rw [hc2] at hk'
        dsimp only [cond] at hk'
        obtain ⟨x, rfl⟩ := xv_l hc2 hv
        obtain ⟨sy', a', g1, g3, g4, g5⟩ := xfresh_ok hk' hs x.toInt32 (xfull_ok _) g.2.1 (xaw ws)
        have g2 := xx_e_one ρ x.toInt32
        exact lv_l2i hF.1 hF.2.1 hd rfl (hn _ _ _ _ _ _ _ g1 p e R s m args below meth c Q H locs ls _ _ ws tys hF (xWd_mono g2 hW) g3 (xx_e_tr hr g2) ⟨g4, xx_2_mono (fun _ _ q => xv_mono g2 (xx_e_rf _) q) hs2⟩ (xLv_mono g2 (xx_e_rf _) hlv) (xRT_mono hRT (fun _ z => z) g2 (xx_e_rf _)))
theorem xs_lcmp (hd : decode M.2.1 pc = .ok (.lcmp, 1)) (hn : xNok g M d (pc + 1) nx) : xNok g M d pc (xd_lcmp nx jp ag ca) := by
  intro lv st h sy ce sl outs hk p e R s m args below meth c Q H locs ls vs ρ ws tys hF hW hs hr hst hlv hRT
  match st, hk, hst with
  | [], hk, _ => cases hk
  | [b], hk, _ => cases hk
  | b :: a :: st, hk, hst =>
    obtain ⟨vb, vs1, rfl, hb, hs1⟩ := xx_2_cons hst
    obtain ⟨va, vs2, rfl, ha, hs2⟩ := xx_2_cons hs1
    have hk' : cond (and (Nat.beq a.1 4) (Nat.beq b.1 4)) (xx_f (xx_n (lg_cmp (Int64.ofNat a.2) (Int64.ofNat b.2))) fun n => nx lv ((0, n) :: st) h sy ce sl) (cond (and (xc_l a) (xc_l b)) (xh_fresh sy xs_full fun v sy' => nx lv (v :: st) h sy' ce sl) none) = some outs := hk
    cases hc : and (Nat.beq a.1 4) (Nat.beq b.1 4) with
    | true =>
      rw [hc] at hk'
      dsimp only [cond] at hk'
      have c1 := Bool.and_eq_true_iff.mp hc
      have ea := xv_4 c1.1 ha
      have eb := xv_4 c1.2 hb
      subst ea
      subst eb
      have h1 : xx_f (xx_n (lg_cmp (Int64.ofNat a.2) (Int64.ofNat b.2))) (fun n => nx lv ((0, n) :: st) h sy ce sl) = some outs := hk'
      rw [xx_f_eq] at h1
      exact W.lcmp hF.1 hF.2.1 hd (hn _ _ _ _ _ _ _ h1 p e R s m args below meth c Q H locs ls _ ρ ws tys hF hW hs hr ⟨congrArg Value.int (xx_n_of _).symm, hs2⟩ hlv hRT)
    | false =>
      rw [hc] at hk'
      dsimp only [cond] at hk'
      cases hc2 : and (xc_l a) (xc_l b) with
      | false => rw [hc2] at hk'; cases hk'
      | true =>
        rw [hc2] at hk'
        dsimp only [cond] at hk'
        have c1 := Bool.and_eq_true_iff.mp hc2
        obtain ⟨x, rfl⟩ := xv_l c1.1 ha
        obtain ⟨y, rfl⟩ := xv_l c1.2 hb
        obtain ⟨sy', a', g1, g3, g4, g5⟩ := xfresh_ok hk' hs (lg_cmp x y) (xfull_ok _) g.2.1 (xaw ws)
        have g2 := xx_e_one ρ (lg_cmp x y)
        exact W.lcmp hF.1 hF.2.1 hd (hn _ _ _ _ _ _ _ g1 p e R s m args below meth c Q H locs ls _ _ ws tys hF (xWd_mono g2 hW) g3 (xx_e_tr hr g2) ⟨g4, xx_2_mono (fun _ _ q => xv_mono g2 (xx_e_rf _) q) hs2⟩ (xLv_mono g2 (xx_e_rf _) hlv) (xRT_mono hRT (fun _ z => z) g2 (xx_e_rf _)))
/-- the stack -/
theorem xs_dup (hd : decode M.2.1 pc = .ok (.dup, 1)) (hn : xNok g M d (pc + 1) nx) : xNok g M d pc (xd_dup nx jp ag ca) := by
  intro lv st h sy ce sl outs hk p e R s m args below meth c Q H locs ls vs ρ ws tys hF hW hs hr hst hlv hRT
  cases st with
  | nil => cases hk
  | cons a st =>
    obtain ⟨v, vs, rfl, hv, hs2⟩ := xx_2_cons hst
    have hk' : cond (xc_l a) none (nx lv (a :: a :: st) h sy ce sl) = some outs := hk
    cases hc : xc_l a with
    | true => rw [hc] at hk'; cases hk'
    | false =>
      rw [hc] at hk'
      dsimp only [cond] at hk'
      exact lv_dup hF.1 hF.2.1 hd (by rw [xv_cat hv, hc]; rfl) (hn _ _ _ _ _ _ _ hk' p e R s m args below meth c Q H locs ls _ ρ ws tys hF hW hs hr ⟨hv, hv, hs2⟩ hlv hRT)
theorem xs_pop (hd : decode M.2.1 pc = .ok (.pop, 1)) (hn : xNok g M d (pc + 1) nx) : xNok g M d pc (xd_pop nx jp ag ca) := by
  intro lv st h sy ce sl outs hk p e R s m args below meth c Q H locs ls vs ρ ws tys hF hW hs hr hst hlv hRT
  cases st with
  | nil => cases hk
  | cons a st =>
    obtain ⟨v, vs, rfl, hv, hs2⟩ := xx_2_cons hst
    have hk' : cond (xc_l a) none (nx lv st h sy ce sl) = some outs := hk
    cases hc : xc_l a with
    | true => rw [hc] at hk'; cases hk'
    | false =>
      rw [hc] at hk'
      dsimp only [cond] at hk'
      exact lv_pop hF.1 hF.2.1 hd (by rw [xv_cat hv, hc]; rfl) (hn _ _ _ _ _ _ _ hk' p e R s m args below meth c Q H locs ls _ ρ ws tys hF hW hs hr hs2 hlv hRT)
theorem xs_dup2 (hd : decode M.2.1 pc = .ok (.dup2, 1)) (hn : xNok g M d (pc + 1) nx) : xNok g M d pc (xd_dup2 nx jp ag ca) := by
  intro lv st h sy ce sl outs hk p e R s m args below meth c Q H locs ls vs ρ ws tys hF hW hs hr hst hlv hRT
  match st, hk, hst with
  | [], hk, _ => cases hk
  | [b], hk, _ => cases hk
  | a :: b :: st, hk, hst =>
    obtain ⟨va, vs1, rfl, ha, hs1⟩ := xx_2_cons hst
    obtain ⟨vb, vs2, rfl, hb, hs2⟩ := xx_2_cons hs1
    have hk' : cond (or (xc_l a) (xc_l b)) none (nx lv (a :: b :: a :: b :: st) h sy ce sl) = some outs := hk
    cases hc : or (xc_l a) (xc_l b) with
    | true => rw [hc] at hk'; cases hk'
    | false =>
      rw [hc] at hk'
      dsimp only [cond] at hk'
      have c1 := Bool.or_eq_false_iff.mp hc
      exact lv_dup2_11 hF.1 hF.2.1 hd (by rw [xv_cat ha, c1.1]; rfl) (by rw [xv_cat hb, c1.2]; rfl) (hn _ _ _ _ _ _ _ hk' p e R s m args below meth c Q H locs ls _ ρ ws tys hF hW hs hr ⟨ha, hb, ha, hb, hs2⟩ hlv hRT)
/-- jumps -/
theorem xs_goto {off : Int} {j tgt : Nat} (hd : decode M.2.1 pc = .ok (.goto off, 3)) (ht : (pc : Int) + off = (tgt : Int)) (hj : xNok g M d tgt (jp j)) : xNok g M d pc (xd_goto j nx jp ag ca) := by
  intro lv st h sy ce sl outs hk p e R s m args below meth c Q H locs ls vs ρ ws tys hF hW hs hr hst hlv hRT
  exact lv_goto hF.1 hF.2.1 hd ht (hj _ _ _ _ _ _ _ hk p e R s m args below meth c Q H locs ls _ ρ ws tys hF hW hs hr hst hlv hRT)
theorem xs_icmp {cd : ClassFile.Cond} {off : Int} {j tgt : Nat} (hd : decode M.2.1 pc = .ok (.if_icmp cd off, 3)) (ht : (pc : Int) + off = (tgt : Int)) (hj : xNok g M d tgt (jp j)) (hn : xNok g M d (pc + 3) nx) : xNok g M d pc (xd_icmp cd j nx jp ag ca) := by
  intro lv st h sy ce sl outs hk p e R s m args below meth c Q H locs ls vs ρ ws tys hF hW hs hr hst hlv hRT
  match st, hk, hst with
  | [], hk, _ => cases hk
  | [b], hk, _ => cases hk
  | b :: a :: st, hk, hst =>
    obtain ⟨vb, vs1, rfl, hb, hs1⟩ := xx_2_cons hst
    obtain ⟨va, vs2, rfl, ha, hs2⟩ := xx_2_cons hs1
    obtain ⟨x, y, rfl, rfl, kt, kf⟩ := xbr_ok (X := g.2.1) (aw := xaw ws) (show xh_br cd a b sy (fun sy' => jp j lv st h sy' ce sl) (fun sy' => nx lv st h sy' ce sl) = some outs from hk) hs ha hb
    have t1 : xci cd x.toInt y.toInt → W p g.1 e R s m args below meth c H locs ce sl Q (F0 m tgt ls vs2) := fun hp => by
      obtain ⟨sy', r', g1, g2, g3⟩ := kt hp
      exact hj _ _ _ _ _ _ _ g1 p e R s m args below meth c Q H locs ls _ ρ ws tys hF hW g2 hr hs2 hlv (xRT_mono hRT g3 (xx_e_rf _) (xx_e_rf _))
    have t2 : ¬ xci cd x.toInt y.toInt → W p g.1 e R s m args below meth c H locs ce sl Q (F0 m (pc + 3) ls vs2) := fun hp => by
      obtain ⟨sy', r', g1, g2, g3⟩ := kf hp
      exact hn _ _ _ _ _ _ _ g1 p e R s m args below meth c Q H locs ls _ ρ ws tys hF hW g2 hr hs2 hlv (xRT_mono hRT g3 (xx_e_rf _) (xx_e_rf _))
    cases cd
    · exact lv_icmp_eq hF.1 hF.2.1 hd ht (fun q => t1 (show x.toInt = y.toInt by rw [q])) (fun q => t2 (fun z => q (Int32.toInt_inj.mp z)))
    · exact lv_icmp_ne hF.1 hF.2.1 hd ht (fun q => t1 (fun z => q (Int32.toInt_inj.mp z))) (fun q => t2 (fun z => z (by rw [q])))
    · exact lv_icmp_lt hF.1 hF.2.1 hd ht (fun q => t1 (Int32.lt_iff_toInt_lt.mp q)) (fun q => t2 (fun z => q (Int32.lt_iff_toInt_lt.mpr z)))
    · exact lv_icmp_ge hF.1 hF.2.1 hd ht (fun q => t1 (Int32.le_iff_toInt_le.mp q)) (fun q => t2 (fun z => q (Int32.le_iff_toInt_le.mpr z)))
    · exact lv_icmp_gt hF.1 hF.2.1 hd ht (fun q => t1 (Int32.lt_iff_toInt_lt.mp q)) (fun q => t2 (fun z => q (Int32.lt_iff_toInt_lt.mpr z)))
    · exact lv_icmp_le hF.1 hF.2.1 hd ht (fun q => t1 (Int32.le_iff_toInt_le.mp q)) (fun q => t2 (fun z => q (Int32.le_iff_toInt_le.mpr z)))
theorem xs_if {cd : ClassFile.Cond} {off : Int} {j tgt : Nat} (hd : decode M.2.1 pc = .ok (.ifCond cd off, 3)) (ht : (pc : Int) + off = (tgt : Int)) (hj : xNok g M d tgt (jp j)) (hn : xNok g M d (pc + 3) nx) : xNok g M d pc (xd_if cd j nx jp ag ca) := by
  intro lv st h sy ce sl outs hk p e R s m args below meth c Q H locs ls vs ρ ws tys hF hW hs hr hst hlv hRT
  cases st with
  | nil => cases hk
  | cons a st =>
    obtain ⟨va, vs2, rfl, ha, hs2⟩ := xx_2_cons hst
    obtain ⟨x, y, rfl, ey, kt, kf⟩ := xbr_ok (X := g.2.1) (aw := xaw ws) (show xh_br cd a (0, 0) sy (fun sy' => jp j lv st h sy' ce sl) (fun sy' => nx lv st h sy' ce sl) = some outs from hk) hs ha (show xv g.2.1 ρ (xaw ws) (0, 0) (.int 0) from rfl)
    cases ey
    have t1 : xci cd x.toInt 0 → W p g.1 e R s m args below meth c H locs ce sl Q (F0 m tgt ls vs2) := fun hp => by
      obtain ⟨sy', r', g1, g2, g3⟩ := kt (by rw [Int32.toInt_zero]; exact hp)
      exact hj _ _ _ _ _ _ _ g1 p e R s m args below meth c Q H locs ls _ ρ ws tys hF hW g2 hr hs2 hlv (xRT_mono hRT g3 (xx_e_rf _) (xx_e_rf _))
    have t2 : ¬ xci cd x.toInt 0 → W p g.1 e R s m args below meth c H locs ce sl Q (F0 m (pc + 3) ls vs2) := fun hp => by
      obtain ⟨sy', r', g1, g2, g3⟩ := kf (by rw [Int32.toInt_zero]; exact hp)
      exact hn _ _ _ _ _ _ _ g1 p e R s m args below meth c Q H locs ls _ ρ ws tys hF hW g2 hr hs2 hlv (xRT_mono hRT g3 (xx_e_rf _) (xx_e_rf _))
    have e0 : ∀ z : Int32, z.toInt = 0 ↔ z = 0 := fun z => by rw [← Int32.toInt_zero]; exact Int32.toInt_inj
    have e1 : ∀ z : Int32, z.toInt < 0 ↔ z < 0 := fun z => by rw [Int32.lt_iff_toInt_lt, Int32.toInt_zero]
    have e2 : ∀ z : Int32, 0 ≤ z.toInt ↔ 0 ≤ z := fun z => by rw [Int32.le_iff_toInt_le, Int32.toInt_zero]
    have e3 : ∀ z : Int32, 0 < z.toInt ↔ 0 < z := fun z => by rw [Int32.lt_iff_toInt_lt, Int32.toInt_zero]
    have e4 : ∀ z : Int32, z.toInt ≤ 0 ↔ z ≤ 0 := fun z => by rw [Int32.le_iff_toInt_le, Int32.toInt_zero]
    cases cd
    · exact lv_if_eq hF.1 hF.2.1 hd ht (fun q => t1 ((e0 x).mpr q)) (fun q => t2 (fun z => q ((e0 x).mp z)))
    · exact lv_if_ne hF.1 hF.2.1 hd ht (fun q => t1 (fun z => q ((e0 x).mp z))) (fun q => t2 (fun z => z ((e0 x).mpr q)))
    · exact lv_if_lt hF.1 hF.2.1 hd ht (fun q => t1 ((e1 x).mpr q)) (fun q => t2 (fun z => q ((e1 x).mp z)))
    · exact lv_if_ge hF.1 hF.2.1 hd ht (fun q => t1 ((e2 x).mpr q)) (fun q => t2 (fun z => q ((e2 x).mp z)))
    · exact lv_if_gt hF.1 hF.2.1 hd ht (fun q => t1 ((e3 x).mpr q)) (fun q => t2 (fun z => q ((e3 x).mp z)))
    · exact lv_if_le hF.1 hF.2.1 hd ht (fun q => t1 ((e4 x).mpr q)) (fun q => t2 (fun z => q ((e4 x).mp z)))
/-- switches: hT says where a number goes -/
theorem xs_sw {keys : List Int} {t : Int × Int → Option Nat} (hT : ∀ (iv : Int × Int) (j : Nat) (x : Int32), t iv = some j → iv.1 ≤ x.toInt → x.toInt ≤ iv.2 → ∃ tgt, xNok g M d tgt (jp j) ∧ ∀ (p : Program) (e : Env) (R : Room) (s : State) (m : MethodId) (args : Array Value) (below : List Frame) (meth : Method) (c : Code) (Q : State → Prop) (H : Heap) (locs : List Loc) (ls : Array Slot) (rest : List Value) (ce sl : Nat), p.tables.exec = Jvm.exec → c.code = M.2.1 → W p g.1 e R s m args below meth c H locs ce sl Q (F0 m tgt ls rest) → W p g.1 e R s m args below meth c H locs ce sl Q (F0 m pc ls (.int x :: rest))) : xNok g M d pc (xd_sw keys t nx jp ag ca) := by
  intro lv st h sy ce sl outs hk p e R s m args below meth c Q H locs ls vs ρ ws tys hF hW hs hr hst hlv hRT
  cases st with
  | nil => cases hk
  | cons a st =>
    obtain ⟨va, vs2, rfl, ha, hs2⟩ := xx_2_cons hst
    obtain ⟨x, iv, j, sy', r', rfl, b1, b2, g1, g2, g3, g4⟩ := xsw_ok (X := g.2.1) (aw := xaw ws) (show xh_sw keys t a sy (fun j sy' => jp j lv st h sy' ce sl) = some outs from hk) hs ha
    obtain ⟨tgt, h1, h2⟩ := hT iv j x g1 b1 b2
    exact h2 p e R s m args below meth c Q H locs ls vs2 ce sl hF.1 hF.2.1 (h1 _ _ _ _ _ _ _ g2 p e R s m args below meth c Q H locs ls _ ρ ws tys hF hW g3 hr hs2 hlv (xRT_mono hRT g4 (xx_e_rf _) (xx_e_rf _)))
end XJ
