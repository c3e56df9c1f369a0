/-! rows of the typed run; ends -/
/-- texts' bytes -/
theorem zbytes_all : (xBY.all fun bs => bs.all fun x => decide ((-128 : Int) ≤ x.toInt) && decide (x.toInt ≤ 127)) = true := by decide +kernel
theorem zbytes {bs : List Int32} (h : bs ∈ xBY) (j : Nat) : (Int.negSucc 127 : Int) ≤ (bs.getD j 0).toInt ∧ (bs.getD j 0).toInt ≤ 127 := by
  have e : (Int.negSucc 127 : Int) = -128 := by decide
  rw [e]
  by_cases hj : j < bs.length
  · have h1 := List.all_eq_true.mp (List.all_eq_true.mp zbytes_all bs h) bs[j] (List.getElem_mem hj)
    have h2 := xan h1
    rw [List.getD_eq_getElem?_getD, List.getElem?_eq_getElem hj]
    exact ⟨of_decide_eq_true h2.1, of_decide_eq_true h2.2⟩
  · rw [List.getD_eq_getElem?_getD, List.getElem?_eq_none (by omega)]
    decide
section ZR
variable {E : zEn} {M : xM} {d pc : Nat} {nx ag : zN} {jp : Nat → zN} {ca : zKc}
theorem zcell_i {g : yG} {X : zX} {r : FieldType × Nat × List zT} {e : va_E} (h : zcell g X (.inr r) e) (hk : xh_kind r.1 < 2) : ∃ cA f, (cA, r.1) ∈ g.2 ∧ r.2.1 < 2 ^ 31 ∧ e = .inl (cA, r.2.1, .inl f) := by
  obtain ⟨⟨cA, h1, h2, h3⟩, -⟩ := h
  rcases h3 with ⟨f, h3, h4⟩ | ⟨f, h3, h4⟩
  · exact ⟨cA, f, h1, h2, h3⟩
  · rw [h4] at hk; exact absurd hk (by decide)
theorem zcell_l {g : yG} {X : zX} {r : FieldType × Nat × List zT} {e : va_E} (h : zcell g X (.inr r) e) (hk : xh_kind r.1 = 2) : ∃ cA f, (cA, r.1) ∈ g.2 ∧ r.2.1 < 2 ^ 31 ∧ e = .inl (cA, r.2.1, .inr (.inl f)) := by
  obtain ⟨⟨cA, h1, h2, h3⟩, -⟩ := h
  rcases h3 with ⟨f, h3, h4⟩ | ⟨f, h3, h4⟩
  · rw [hk] at h4; exact absurd h4 (by decide)
  · exact ⟨cA, f, h1, h2, h3⟩
theorem zat_i {cA : ClassId} {n j : Nat} {f : Nat → Int32} {v : Value} (h : zat (.inl (cA, n, .inl f)) j = some v) : j < n ∧ v = .int (f j) := by
  by_cases hj : j < n
  · rw [show zat (.inl (cA, n, .inl f)) j = some (.int (f j)) from if_pos hj] at h
    exact ⟨hj, (Option.some.inj h).symm⟩
  · rw [show zat (.inl (cA, n, .inl f)) j = none from if_neg hj] at h
    cases h
theorem zat_l {cA : ClassId} {n j : Nat} {f : Nat → Int64} {v : Value} (h : zat (.inl (cA, n, .inr (.inl f))) j = some v) : j < n ∧ v = .long (f j) := by
  by_cases hj : j < n
  · rw [show zat (.inl (cA, n, .inr (.inl f))) j = some (.long (f j)) from if_pos hj] at h
    exact ⟨hj, (Option.some.inj h).symm⟩
  · rw [show zat (.inl (cA, n, .inr (.inl f))) j = none from if_neg hj] at h
    cases h
set_option maxHeartbeats 1000000 in
theorem zs_ald {BY : List (List Int32)} {kd : Nat} (hJo : zJok E.1 E.2.1.2 E.2.2.2.2.1) (hSP : E.2.1.1.length ≤ 83) (hBY : BY = xBY) (hkd : (kd = 0 ∧ decode M.2.1 pc = .ok (.iaload, 1)) ∨ (kd = 1 ∧ decode M.2.1 pc = .ok (.baload, 1)) ∨ (kd = 2 ∧ decode M.2.1 pc = .ok (.laload, 1))) (hn : zNok E M d (pc + 1) nx) : zNok E M d pc (zd_ald E.2.1.1 BY kd nx jp ag ca) := by
  intro rt lv st h sy hk ρ lm lvC stC ws ws0 K hR hA hJ hT
  match st, hk, hR with
  | [], hk, _ => cases hk
  | [b], hk, _ => cases hk
  | i :: a :: st, hk, hR =>
    obtain ⟨vi, s1, rfl, hi, hR1⟩ := zRel_pop hR
    obtain ⟨va, s2, rfl, ha, hR2⟩ := zRel_pop hR1
    unfold zd_ald at hk
    dsimp only at hk
    cases h3 : Nat.beq a.1 3 with
    | true =>
      rw [h3, cond_true] at hk
      obtain ⟨y, y1, y2⟩ := zk_sp_ok hk
      cases y with
      | inl o => cases y2
      | inr r =>
        obtain ⟨c1, y3⟩ := zcd y2 rfl
        obtain ⟨x, key, sy1, rfl, y4, hs1, zx⟩ := zk_key_ok y3 hR.1 hi
        obtain ⟨q, e, w1, rfl⟩ := z3_ok h3 ha hR.2.2.1
        obtain ⟨p, v, z, b, h', sy', ρ', lm', g1, g2, g3, g4, g5, g6, g7, g8, g9, g10, g11⟩ := zk_load_ok y4 hs1 hR.2.1 hR.2.2.2.1 hR.2.2.1 y1 (zsp_lt hSP y1) (List.getElem?_eq_some_iff.mp w1).1
        rw [w1] at g1
        cases g1
        have ez := zi_fun g2 zx
        subst ez
        have hcl := hR.2.2.1.2.2 _ _ _ y1 w1
        have go := hn rt lv (b :: st) h' sy' g5 ρ' lm' lvC (v :: s2) ws ws0 K (zRel_push g11 (zRel_ext2 g6 g7 g8 g9 g10 hR2)) hA (zmd_ext g6 hJ) (zRT_ext g6 g7 hT)
        rcases hkd with ⟨rfl, hd⟩ | ⟨rfl, hd⟩ | ⟨rfl, hd⟩
        · obtain ⟨cA, f, t1, t2, rfl⟩ := zcell_i hcl (by rw [Nat.eq_of_beq_eq_true c1]; decide)
          obtain ⟨j1, rfl⟩ := zat_i g4
          have hx := zin_of (x := x) (n := r.2.1) g3 (by omega)
          rw [← hx.2] at go
          rw [xkind0 c1] at t1
          exact yo_iald hd w1 t1 hx.1 go
        · obtain ⟨cA, f, t1, t2, rfl⟩ := zcell_i hcl (by rw [Nat.eq_of_beq_eq_true c1]; decide)
          obtain ⟨j1, rfl⟩ := zat_i g4
          have hx := zin_of (x := x) (n := r.2.1) g3 (by omega)
          rw [← hx.2] at go
          refine yo_bald hd w1 ?_ hx.1 go
          rcases xkind1 c1 with e | e
          · rw [e] at t1; exact Or.inl t1
          · rw [e] at t1; exact Or.inr t1
        · obtain ⟨cA, f, t1, t2, rfl⟩ := zcell_l hcl (Nat.eq_of_beq_eq_true c1)
          obtain ⟨j1, rfl⟩ := zat_l g4
          have hx := zin_of (x := x) (n := r.2.1) g3 (by omega)
          rw [← hx.2] at go
          rw [xkind2 c1] at t1
          exact yo_lald hd w1 t1 hx.1 go
    | false =>
      rw [h3, cond_false] at hk
      have eX : E.2.2.1.1 = (E.1.1.2.1, E.1.1.2.2.2.2.1) := hR.2.2.1.1
      cases h6 : and (Nat.beq a.1 6) (Nat.beq kd 0) with
      | true =>
        rw [h6, cond_true] at hk
        have c6 := xan h6
        have hq6 := hk
        have k0 := Nat.eq_of_beq_eq_true c6.2
        subst k0
        obtain ⟨c1, y3⟩ := zcd hq6 rfl
        have c2 := xan c1
        obtain ⟨x, lo, hi', rfl, zx, h1, h2, h3'⟩ := zk_rng_ok c2.1 hR.1 hi
        have := zle_ok.mp h3'
        obtain ⟨ev, y, hy, hy2⟩ := zv_tag c6.1 ha
        have ev' : va = .ref E.2.2.1.1.1.1 := ev
        rw [eX] at ev'
        subst ev'
        obtain ⟨z, z1, z2⟩ := zge_ok hR.1 c2.2 zx
        obtain ⟨y', u1, u2⟩ := zi_1 rfl z1
        have u1' : ρ[a.2.1]? = some y' := u1
        rw [show ρ[a.2.1]? = some y from hy] at u1'
        cases u1'
        have hy3 : y.toInt = (E.1.1.2.2.2.2.1 : Int) := by
          have : y.toInt = (E.2.2.1.1.2 : Int) := hy2
          rw [eX] at this
          exact this
        have u2' : z = y.toInt + 0 := u2
        have hx := zin_of (x := x) (n := E.1.1.2.2.2.2.1) (by omega) (by omega)
        rcases zk_find_ok y3 with ⟨b, f1, f2⟩ | y3
        · obtain ⟨cb, f3⟩ := zcd f2 rfl
          obtain ⟨z', w', z1', w1', j1⟩ := (hR.2.2.2.1 _ f1).1 (show 1000 ≤ 1047 by decide)
          have j2 := (hJo.2 _ _ _).mp j1
          have ez' : z' = x.toInt := zi_fun z1' zx
          have ew : w' = (E.1.1.2.2.2.2.2 x.toNatClampNeg).toInt := by
            rw [j2.2, ez']
            rfl
          rw [ew] at w1'
          rcases hkd with ⟨-, hd⟩ | ⟨hz, -⟩ | ⟨hz, -⟩
          · exact yo_sld hd hx.1 (hn rt lv _ h sy f3 ρ lm lvC _ ws ws0 K (zRel_push (zv_of_zi w1') hR2) hA hJ hT)
          · cases hz
          · cases hz
        obtain ⟨b, sy', ρ', g1, g2, g3, g4⟩ := zk_fresh_ok y3 hR.1 (zfull_ok (E.1.1.2.2.2.2.2 x.toNatClampNeg)).1 (zfull_ok (E.1.1.2.2.2.2.2 x.toNatClampNeg)).2
        rcases hkd with ⟨-, hd⟩ | ⟨hz, -⟩ | ⟨hz, -⟩
        · exact yo_sld hd hx.1 (hn rt lv _ h sy' g1 ρ' lm lvC _ ws ws0 K (zRel_push (zv_of_zi g4) (zRel_ext g2 g3 hR2)) hA (zmd_ext g2 hJ) (zRT_ext g2 (xx_e_rf _) hT))
        · cases hz
        · cases hz
      | false =>
        rw [h6, cond_false] at hk
        obtain ⟨c8, hk2⟩ := zcd hk rfl
        have c9 := xan c8
        have hq8 := hk2
        have k1 := Nat.eq_of_beq_eq_true c9.2
        subst k1
        obtain ⟨bs, b1, b2⟩ := zk_nth_ok hq8
        obtain ⟨x, lo, hi', rfl, zx, h1, h2, h3'⟩ := zk_rng_ok b2 hR.1 hi
        obtain ⟨c1, y3⟩ := zcd h3' rfl
        have c2 := xan c1
        have l1 := zle_ok.mp c2.1
        have l2 : hi' + 1 ≤ (bs.length : Int) := zle_ok.mp c2.2
        have hx := zin_of (x := x) (n := bs.length) (by omega) (by omega)
        have ev : va = .ref (E.2.2.1.1.1.2.2 a.2.1) := zv_tag c9.1 ha
        rw [eX] at ev
        subst ev
        rw [hBY] at b1
        have hby := zbytes (List.mem_of_getElem? b1) x.toNatClampNeg
        obtain ⟨b, sy', ρ', g1, g2, g3, g4⟩ := zk_fresh_ok (x := bs.getD x.toNatClampNeg 0) y3 hR.1 hby.1 hby.2
        rcases hkd with ⟨hz, -⟩ | ⟨-, hd⟩ | ⟨hz, -⟩
        · cases hz
        · exact yo_tb hd b1 hx.1 (hn rt lv _ h sy' g1 ρ' lm lvC _ ws ws0 K (zRel_push (zv_of_zi g4) (zRel_ext g2 g3 hR2)) hA (zmd_ext g2 hJ) (zRT_ext g2 (xx_e_rf _) hT))
        · cases hz
set_option maxHeartbeats 1000000 in
theorem zs_ast {kd : Nat} (hJo : zJok E.1 E.2.1.2 E.2.2.2.2.1) (hkd : (kd = 0 ∧ decode M.2.1 pc = .ok (.iastore, 1)) ∨ (kd = 1 ∧ decode M.2.1 pc = .ok (.bastore, 1)) ∨ (kd = 2 ∧ decode M.2.1 pc = .ok (.lastore, 1))) (hn : zNok E M d (pc + 1) nx) : zNok E M d pc (zd_ast E.2.1 E.2.2.2.1.1 kd nx jp ag ca) := by
  intro rt lv st h sy hk ρ lm lvC stC ws ws0 K hR hA hJ hT
  match st, hk, hR with
  | [], hk, _ => cases hk
  | [b], hk, _ => cases hk
  | [b, c], hk, _ => cases hk
  | b :: i :: a :: st, hk, hR =>
    obtain ⟨vb, s0, rfl, hb, hR0⟩ := zRel_pop hR
    obtain ⟨vi, s1, rfl, hi, hR1⟩ := zRel_pop hR0
    obtain ⟨va, s2, rfl, ha, hR2⟩ := zRel_pop hR1
    unfold zd_ast at hk
    dsimp only at hk
    obtain ⟨h3, hk1⟩ := zcd hk rfl
    obtain ⟨y, y1, y2⟩ := zk_sp_ok hk1
    cases y with
    | inl o => cases y2
    | inr r =>
      obtain ⟨c1, y3⟩ := zcd y2 rfl
      have c2 := xan c1
      obtain ⟨x, key, sy1, rfl, y4, hs1, zx⟩ := zk_key_ok y3 hR.1 hi
      obtain ⟨q, e, w1, rfl⟩ := z3_ok h3 ha hR.2.2.1
      have hcl := hR.2.2.1.2.2 _ _ _ y1 w1
      have hft := zft_ok c2.2 hR.1 hb
      have hlt : ∀ t, zspec (.inr r) x.toInt.toNat = some t → x.toInt.toNat < r.2.1 := fun t ht => by
        by_cases hj : x.toInt.toNat < r.2.1
        · exact hj
        · exact absurd (show (if x.toInt.toNat < r.2.1 then r.2.2[x.toInt.toNat % r.2.2.length]? else none) = some t from ht) (by rw [if_neg hj]; exact fun q => nomatch q)
      have int : xh_kind r.1 < 2 → (∀ (cA : ClassId) (f : Nat → Int32) (z : Int32), vb = .int z → (cA, r.1) ∈ E.1.2 → ws[a.2.1]? = some (q, .inl (cA, r.2.1, .inl f)) → vp_in x r.2.1 → vp_nar r.1 z = z → yOk E.1 M d (pc + 1) lvC s2 (ws.set a.2.1 (q, .inl (cA, r.2.1, .inl (upd f x.toNatClampNeg z)))) K → yOk E.1 M d pc lvC (vb :: .int x :: .ref q :: s2) ws K) → yOk E.1 M d pc lvC (vb :: .int x :: .ref q :: s2) ws K := by
        intro hk2 fin
        obtain ⟨cA, f, t1, t2, rfl⟩ := zcell_i hcl hk2
        have h4 : xh_tc r.1 ≤ 4 := by
          have : ∀ ty : FieldType, xh_kind ty < 2 → xh_tc ty ≤ 4 := fun ty => by cases ty <;> first | (intro _; decide) | (intro q; exact absurd (show 9 < 2 from q) (by decide)) | (intro q; exact absurd (show 2 < 2 from q) (by decide))
          exact this _ hk2
        obtain ⟨z, rfl, hz1, -⟩ := zft_int c2.2 h4 hR.1 hb
        have hsh : ∀ t, 0 ≤ x.toInt → zspec (.inr r) x.toInt.toNat = some t → zfit E.2.2.1 t (.int z) → zshape E.1 (.inr r) (.inl (cA, r.2.1, .inl f)) → zshape E.1 (.inr r) (zw (.inl (cA, r.2.1, .inl f)) x.toInt.toNat (.int z)) ∧ (∀ v', zat (zw (.inl (cA, r.2.1, .inl f)) x.toInt.toNat (.int z)) x.toInt.toNat = some v' → v' = .int z) ∧ zat (zw (.inl (cA, r.2.1, .inl f)) x.toInt.toNat (.int z)) x.toInt.toNat = some (.int z) := by
          intro t _ ht _ _
          have e2 : zat (zw (.inl (cA, r.2.1, .inl f)) x.toInt.toNat (.int z)) x.toInt.toNat = some (.int z) := by
            show (if _ < _ then some (Value.int (upd f x.toInt.toNat z x.toInt.toNat)) else none) = _
            rw [if_pos (hlt t ht), pk_us]
          exact ⟨⟨cA, t1, t2, Or.inl ⟨_, rfl, hk2⟩⟩, fun v' hv' => by rw [e2] at hv'; exact (Option.some.inj hv').symm, e2⟩
        obtain ⟨h', g1, g2, g3, ⟨t, g4, g5⟩, g6, g7, g8⟩ := zk_store_ok hJo y4 hs1 hR.2.1 hR.2.2.2.1 hR.2.2.1 y1 w1 hb hA hJ zx hsh
        have hx := zin_of (x := x) (n := r.2.1) g3 (by have := hlt t g4; omega)
        have hnar : vp_nar r.1 z = z := by
          unfold vp_nar
          rw [hz1]
        refine fin cA f z rfl t1 w1 hx.1 hnar ?_
        rw [hx.2]
        exact hn rt lv st h' sy1 g1 ρ lm lvC _ _ ws0 K ⟨hs1, by rw [g2]; exact hR.2.1, g7, g6, hR2.2.2.2.2⟩ g8 hJ hT
      rcases hkd with ⟨rfl, hd⟩ | ⟨rfl, hd⟩ | ⟨rfl, hd⟩
      · refine int (by rw [Nat.eq_of_beq_eq_true c2.1]; decide) (fun cA f z ez t1 w1 hx _ go => ?_)
        subst ez
        rw [xkind0 c2.1] at t1
        exact yo_iast hd w1 t1 hx go
      · refine int (by rw [Nat.eq_of_beq_eq_true c2.1]; decide) (fun cA f z ez t1 w1 hx hnar go => ?_)
        subst ez
        rcases xkind1 c2.1 with e | e
        · rw [e] at t1 hnar
          exact yo_bast hd w1 t1 hx (by rw [hnar]; exact go)
        · rw [e] at t1 hnar
          exact yo_zast hd w1 t1 hx (by rw [hnar]; exact go)
      · obtain ⟨cA, f, t1, t2, rfl⟩ := zcell_l hcl (Nat.eq_of_beq_eq_true c2.1)
        have hc2 : zc_l b = true := by
          have := c2.2
          rw [xkind2 c2.1] at this
          exact this
        obtain ⟨z, rfl⟩ := zv_l hc2 hb
        have hsh : ∀ t, 0 ≤ x.toInt → zspec (.inr r) x.toInt.toNat = some t → zfit E.2.2.1 t (.long z) → zshape E.1 (.inr r) (.inl (cA, r.2.1, .inr (.inl f))) → zshape E.1 (.inr r) (zw (.inl (cA, r.2.1, .inr (.inl f))) x.toInt.toNat (.long z)) ∧ (∀ v', zat (zw (.inl (cA, r.2.1, .inr (.inl f))) x.toInt.toNat (.long z)) x.toInt.toNat = some v' → v' = .long z) ∧ zat (zw (.inl (cA, r.2.1, .inr (.inl f))) x.toInt.toNat (.long z)) x.toInt.toNat = some (.long z) := by
          intro t _ ht _ _
          have e2 : zat (zw (.inl (cA, r.2.1, .inr (.inl f))) x.toInt.toNat (.long z)) x.toInt.toNat = some (.long z) := by
            show (if _ < _ then some (Value.long (vp_updL f x.toInt.toNat z x.toInt.toNat)) else none) = _
            rw [if_pos (hlt t ht), pk_uLs]
          exact ⟨⟨cA, t1, t2, Or.inr ⟨_, rfl, Nat.eq_of_beq_eq_true c2.1⟩⟩, fun v' hv' => by rw [e2] at hv'; exact (Option.some.inj hv').symm, e2⟩
        obtain ⟨h', g1, g2, g3, ⟨t, g4, g5⟩, g6, g7, g8⟩ := zk_store_ok hJo y4 hs1 hR.2.1 hR.2.2.2.1 hR.2.2.1 y1 w1 hb hA hJ zx hsh
        have hx := zin_of (x := x) (n := r.2.1) g3 (by have := hlt t g4; omega)
        rw [xkind2 c2.1] at t1
        refine yo_last hd w1 t1 hx.1 ?_
        rw [hx.2]
        exact hn rt lv st h' sy1 g1 ρ lm lvC _ _ ws0 K ⟨hs1, by rw [g2]; exact hR.2.1, g7, g6, hR2.2.2.2.2⟩ g8 hJ hT
theorem znat32 {n : Nat} (h : n < 2 ^ 31) : (Int32.ofNat n).toInt = (n : Int) := by
  rw [Int32.toInt_ofNat_of_lt h]
theorem zs_alen {BY : List (List Int32)} (hBY : BY = xBY) (hd : decode M.2.1 pc = .ok (.arraylength, 1)) (hn : zNok E M d (pc + 1) nx) : zNok E M d pc (zd_alen E.2.1.1 BY nx jp ag ca) := by
  intro rt lv st h sy hk ρ lm lvC stC ws ws0 K hR hA hJ hT
  cases st with
  | nil => cases hk
  | cons a st =>
    obtain ⟨va, s2, rfl, ha, hR2⟩ := zRel_pop hR
    unfold zd_alen at hk
    dsimp only at hk
    have eX : E.2.2.1.1 = (E.1.1.2.1, E.1.1.2.2.2.2.1) := hR.2.2.1.1
    cases h3 : Nat.beq a.1 3 with
    | true =>
      rw [h3, cond_true] at hk
      obtain ⟨y, y1, y2⟩ := zk_sp_ok hk
      cases y with
      | inl o => cases y2
      | inr r =>
        obtain ⟨q, e, w1, rfl⟩ := z3_ok h3 ha hR.2.2.1
        obtain ⟨⟨cA, t1, t2, t3⟩, -⟩ := hR.2.2.1.2.2 _ _ _ y1 w1
        have go := hn rt lv _ h sy y2 ρ lm lvC _ ws ws0 K (zRel_push (show zv E.2.2.1 ρ lm (0, 0, .ofNat r.2.1) (.int (Int32.ofNat r.2.1)) from ⟨_, rfl, znat32 t2⟩) hR2) hA hJ hT
        rcases t3 with ⟨f, e1, -⟩ | ⟨f, e1, -⟩
        · have e1' : e = .inl (cA, r.2.1, .inl f) := e1
          subst e1'
          exact yo_alen hd w1 t1 go
        · have e1' : e = .inl (cA, r.2.1, .inr (.inl f)) := e1
          subst e1'
          exact yo_alen hd w1 t1 go
    | false =>
      rw [h3, cond_false] at hk
      cases h6 : Nat.beq a.1 6 with
      | true =>
        rw [h6, cond_true] at hk
        obtain ⟨ev, y, hy, hy2⟩ := zv_tag h6 ha
        have ev' : va = .ref E.2.2.1.1.1.1 := ev
        have hy2' : y.toInt = (E.2.2.1.1.2 : Int) := hy2
        rw [eX] at ev' hy2'
        subst ev'
        refine yo_slen hd (hn rt lv _ h sy hk ρ lm lvC _ ws ws0 K (zRel_push (show zv E.2.2.1 ρ lm (1, a.2.1, 0) (.int (Int32.ofNat E.1.1.2.2.2.2.1)) from ⟨_, y, hy, rfl, ?_⟩) hR2) hA hJ hT)
        have b := zfull_ok y
        have b2 : y.toInt ≤ 2147483647 := b.2
        have hy3 : y.toInt = (E.1.1.2.2.2.2.1 : Int) := hy2'
        rw [znat32 (by omega), hy3]
        show _ = _ + (0 : Int)
        omega
      | false =>
        rw [h6, cond_false] at hk
        obtain ⟨c8, hk2⟩ := zcd hk rfl
        obtain ⟨bs, b1, b2⟩ := zk_nth_ok hk2
        rw [xx_f_eq] at b2
        rw [hBY] at b1
        have ev : va = .ref (E.2.2.1.1.1.2.2 a.2.1) := zv_tag c8 ha
        rw [eX] at ev
        subst ev
        exact yo_tlen hd b1 (hn rt lv _ h sy b2 ρ lm lvC _ ws ws0 K (zRel_push (show zv E.2.2.1 ρ lm (0, 0, .ofNat bs.length) (.int (Int32.ofNat bs.length)) from ⟨_, rfl, znat32 (xBYs bs (List.mem_of_getElem? b1))⟩) hR2) hA hJ hT)
theorem zs_iret {ty : FieldType} {tc : Nat} (hd : decode M.2.1 pc = .ok (.ireturn, 1)) (hr : M.2.2.2.1 = some ty) (htc : tc = xh_tc ty) : zNok E M d pc (zd_iret tc nx jp ag ca) := by
  intro rt lv st h sy hk ρ lm lvC stC ws ws0 K hR hA hJ hT
  match st, hk, hR with
  | [], hk, _ => cases hk
  | _ :: _ :: _, hk, _ => cases hk
  | [a], hk, hR =>
    obtain ⟨va, s2, rfl, ha, hR2⟩ := zRel_pop hR
    have e := xx_2_nil hR2.2.2.2.2.2
    subst e
    obtain ⟨c1, h1⟩ := zcd (show cond (and (Nat.ble tc 4) (zft tc a sy)) (rt (some a) h sy) false = true from hk) rfl
    have c2 := xan c1
    rw [htc] at c2
    obtain ⟨x, rfl, hx1, -⟩ := zft_int c2.2 (Nat.le_of_ble_eq_true c2.1) hR.1 ha
    exact yo_iret hd hr hx1 (hT (some a) h sy ρ lm ws _ h1 (xx_e_rf _) (xx_e_rf _) hR.1 hR.2.1 hR.2.2.1 hR.2.2.2.1 hA (Or.inr ⟨a, _, rfl, rfl, ha⟩))
end ZR
