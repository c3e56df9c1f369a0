/-! instructions that leave the cells alone -/
section ZI
variable {E : zEn} {M : xM} {d pc : Nat} {nx ag : zN} {jp : Nat → zN} {ca : zKc}
theorem zlv_at {X : zX} {ρ : List Int32} {lm : List Int64} {lv : List zV} {lvC : yL} (h : xx_2 (zlv X ρ lm) lv lvC) {i : Nat} {a : zV} (ha : lv[i]? = some a) (h9 : a.1 ≠ 9) : ∃ v, lvC[i]? = some (some v) ∧ zv X ρ lm a v := by
  obtain ⟨o, h1, h2⟩ := xx_2_get h ha
  rcases h2 with ⟨h3, _⟩ | ⟨v, rfl, h3⟩
  · exact absurd h3 h9
  · exact ⟨v, h1, h3⟩
theorem zh_nl_ok {X : zX} {ρ : List Int32} {lm : List Int64} {lv : List zV} {lvC : yL} (h : xx_2 (zlv X ρ lm) lv lvC) {i : Nat} (hn : zh_nl lv i = true) : ∀ (j : Nat) (w : Value), j + 1 = i → lvC[j]? = some (some w) → w.category = 1 := by
  intro j w hj hw
  subst hj
  obtain ⟨a, h1, h2⟩ := zk_nth_ok (show zk_nth lv j (fun a => not (zc_l a)) = true from hn)
  obtain ⟨o, h3, h4⟩ := xx_2_get h h1
  rw [h3] at hw
  cases hw
  rcases h4 with ⟨-, h5⟩ | ⟨v, h5, h6⟩
  · cases h5
  · cases h5
    have : zc_l a = false := by simpa using h2
    rw [zv_cat h6, this]
    rfl
theorem zs_push {v : zV} {len : Nat} (hS : ∀ (ρ : List Int32) (lm : List Int64) (lvC : yL) (stC : List Value) (ws : va_W) (K : yK), E.2.2.1.1 = (E.1.1.2.1, E.1.1.2.2.2.2.1) → ∃ w, zv E.2.2.1 ρ lm v w ∧ (yOk E.1 M d (pc + len) lvC (w :: stC) ws K → yOk E.1 M d pc lvC stC ws K)) (hn : zNok E M d (pc + len) nx) : zNok E M d pc (zd_push v nx jp ag ca) := by
  intro rt lv st h sy hk ρ lm lvC stC ws ws0 K hR hA hJ hT
  obtain ⟨w, h1, h2⟩ := hS ρ lm lvC stC ws K hR.2.2.1.1
  exact h2 (hn rt lv (v :: st) h sy hk ρ lm lvC _ ws ws0 K (zRel_push h1 hR) hA hJ hT)
theorem zs_iconst {n c : Int} (hd : decode M.2.1 pc = .ok (.iconst n, 1)) (hc : (Int32.ofInt n).toInt = c) (hn : zNok E M d (pc + 1) nx) : zNok E M d pc (zd_push (0, 0, c) nx jp ag ca) :=
  zs_push (fun ρ lm lvC stC ws K _ => ⟨.int (Int32.ofInt n), ⟨_, rfl, hc⟩, fun k => yo_iconst hd k⟩) hn
theorem zs_bipush {n c : Int} (hd : decode M.2.1 pc = .ok (.bipush n, 2)) (hc : (Int8.ofInt n).toInt32.toInt = c) (hn : zNok E M d (pc + 2) nx) : zNok E M d pc (zd_push (0, 0, c) nx jp ag ca) :=
  zs_push (fun ρ lm lvC stC ws K _ => ⟨_, ⟨_, rfl, hc⟩, fun k => yo_bipush hd k⟩) hn
theorem zs_sipush {n c : Int} (hd : decode M.2.1 pc = .ok (.sipush n, 3)) (hc : (Int16.ofInt n).toInt32.toInt = c) (hn : zNok E M d (pc + 3) nx) : zNok E M d pc (zd_push (0, 0, c) nx jp ag ca) :=
  zs_push (fun ρ lm lvC stC ws K _ => ⟨_, ⟨_, rfl, hc⟩, fun k => yo_sipush hd k⟩) hn
theorem zs_lconst {n : Fin 2} {c : Int} (hd : decode M.2.1 pc = .ok (.lconst n, 1)) (hc : (Int64.ofNat n.val).toInt = c) (hn : zNok E M d (pc + 1) nx) : zNok E M d pc (zd_push (4, 0, c) nx jp ag ca) :=
  zs_push (fun ρ lm lvC stC ws K _ => ⟨_, ⟨_, rfl, hc⟩, fun k => yo_lconst hd k⟩) hn
theorem zs_ldc {i : Nat} {x : Int32} {c : Int} (hd : decode M.2.1 pc = .ok (.ldc i, 2)) (hw : Cond.constant M.1.cls i x ∈ xTb) (hc : x.toInt = c) (hn : zNok E M d (pc + 2) nx) : zNok E M d pc (zd_push (0, 0, c) nx jp ag ca) :=
  zs_push (fun ρ lm lvC stC ws K _ => ⟨_, ⟨_, rfl, hc⟩, fun k => yo_ldc hd hw k⟩) hn
theorem zs_ldcw {i : Nat} {x : Int32} {c : Int} (hd : decode M.2.1 pc = .ok (.ldc_w i, 3)) (hw : Cond.constant M.1.cls i x ∈ xTb) (hc : x.toInt = c) (hn : zNok E M d (pc + 3) nx) : zNok E M d pc (zd_push (0, 0, c) nx jp ag ca) :=
  zs_push (fun ρ lm lvC stC ws K _ => ⟨_, ⟨_, rfl, hc⟩, fun k => yo_ldcw hd hw k⟩) hn
theorem zs_ldc2 {i : Nat} {x : Int64} {c : Int} (hd : decode M.2.1 pc = .ok (.ldc2_w i, 3)) (hw : Cond.constantLong M.1.cls i x ∈ xTb) (hc : x.toInt = c) (hn : zNok E M d (pc + 3) nx) : zNok E M d pc (zd_push (4, 0, c) nx jp ag ca) :=
  zs_push (fun ρ lm lvC stC ws K _ => ⟨_, ⟨_, rfl, hc⟩, fun k => yo_ldc2 hd hw k⟩) hn
theorem zs_ldcS {i n : Nat} {tx : String} (hd : decode M.2.1 pc = .ok (.ldc i, 2)) (hw : (M.1.cls, i, tx, n) ∈ xSR) (hn : zNok E M d (pc + 2) nx) : zNok E M d pc (zd_push (7, n, 0) nx jp ag ca) :=
  zs_push (fun ρ lm lvC stC ws K hX => ⟨.ref (E.1.1.2.1.2.1 n), by show Value.ref _ = .ref (E.2.2.1.1.1.2.1 n); rw [hX], fun k => yo_ldcS hd hw k⟩) hn
theorem zs_iload {i len : Nat} (hd : (decode M.2.1 pc = .ok (.iload i, 2) ∧ len = 2) ∨ ∃ k : Fin 4, decode M.2.1 pc = .ok (.iload_n k, 1) ∧ k.val = i ∧ len = 1) (hn : zNok E M d (pc + len) nx) : zNok E M d pc (zd_ld zc_i i nx jp ag ca) := by
  intro rt lv st h sy hk ρ lm lvC stC ws ws0 K hR hA hJ hT
  obtain ⟨a, h1, h2⟩ := zk_nth_ok hk
  obtain ⟨c1, h3⟩ := zcd h2 rfl
  obtain ⟨v, e1, e2⟩ := zlv_at hR.2.2.2.2.1 h1 (fun q => by unfold zc_i at c1; rw [q] at c1; exact absurd c1 (by decide))
  obtain ⟨x, rfl, -⟩ := zv_int c1 e2
  exact yo_iload hd e1 (hn rt lv (a :: st) h sy h3 ρ lm lvC _ ws ws0 K (zRel_push e2 hR) hA hJ hT)
theorem zs_lload {i len : Nat} (hd : (decode M.2.1 pc = .ok (.lload i, 2) ∧ len = 2) ∨ ∃ k : Fin 4, decode M.2.1 pc = .ok (.lload_n k, 1) ∧ k.val = i ∧ len = 1) (hn : zNok E M d (pc + len) nx) : zNok E M d pc (zd_ld zc_l i nx jp ag ca) := by
  intro rt lv st h sy hk ρ lm lvC stC ws ws0 K hR hA hJ hT
  obtain ⟨a, h1, h2⟩ := zk_nth_ok hk
  obtain ⟨c1, h3⟩ := zcd h2 rfl
  obtain ⟨v, e1, e2⟩ := zlv_at hR.2.2.2.2.1 h1 (fun q => by unfold zc_l at c1; rw [q] at c1; exact absurd c1 (by decide))
  obtain ⟨x, rfl⟩ := zv_l c1 e2
  exact yo_lload hd e1 (hn rt lv (a :: st) h sy h3 ρ lm lvC _ ws ws0 K (zRel_push e2 hR) hA hJ hT)
theorem zs_aload {i len : Nat} (hd : (decode M.2.1 pc = .ok (.aload i, 2) ∧ len = 2) ∨ ∃ k : Fin 4, decode M.2.1 pc = .ok (.aload_n k, 1) ∧ k.val = i ∧ len = 1) (hn : zNok E M d (pc + len) nx) : zNok E M d pc (zd_ld zc_r i nx jp ag ca) := by
  intro rt lv st h sy hk ρ lm lvC stC ws ws0 K hR hA hJ hT
  obtain ⟨a, h1, h2⟩ := zk_nth_ok hk
  obtain ⟨c1, h3⟩ := zcd h2 rfl
  obtain ⟨v, e1, e2⟩ := zlv_at hR.2.2.2.2.1 h1 (fun q => by unfold zc_r at c1; rw [q] at c1; exact absurd c1 (by decide))
  obtain ⟨x, rfl⟩ := zv_r c1 e2
  exact yo_aload hd e1 (hn rt lv (a :: st) h sy h3 ρ lm lvC _ ws ws0 K (zRel_push e2 hR) hA hJ hT)
theorem zRel_set {ρ : List Int32} {lm : List Int64} {lv st : List zV} {a : zV} {v : Value} {h : zH} {sy : zS} {lvC : yL} {stC : List Value} {ws : va_W} (i : Nat) (hv : zv E.2.2.1 ρ lm a v) (hR : zRel E ρ lm lv st h sy lvC stC ws) : zRel E ρ lm (lv.set i a) st h sy (lvC.set i (some v)) stC ws :=
  ⟨hR.1, hR.2.1, hR.2.2.1, hR.2.2.2.1, xx_2_set hR.2.2.2.2.1 i (Or.inr ⟨v, rfl, hv⟩), hR.2.2.2.2.2⟩
theorem zs_istore {i len : Nat} (hd : (decode M.2.1 pc = .ok (.istore i, 2) ∧ len = 2) ∨ ∃ k : Fin 4, decode M.2.1 pc = .ok (.istore_n k, 1) ∧ k.val = i ∧ len = 1) (hn : zNok E M d (pc + len) nx) : zNok E M d pc (zd_st1 zc_i i nx jp ag ca) := by
  intro rt lv st h sy hk ρ lm lvC stC ws ws0 K hR hA hJ hT
  cases st with
  | nil => cases hk
  | cons a st =>
    obtain ⟨c1, h3⟩ := zcd (show cond (and (zc_i a) (zh_nl lv i)) (zk_set lv i a fun lv' => nx rt lv' st h sy) false = true from hk) rfl
    have c2 := xan c1
    obtain ⟨h4, h5⟩ := zk_set_ok h3
    obtain ⟨v, stC', rfl, hv, hR2⟩ := zRel_pop hR
    obtain ⟨x, rfl, -⟩ := zv_int c2.1 hv
    exact yo_istore hd (zh_nl_ok hR.2.2.2.2.1 c2.2) (by rw [← xx_2_len hR.2.2.2.2.1]; exact h4) (hn rt _ st h sy h5 ρ lm _ _ ws ws0 K (zRel_set i hv hR2) hA hJ hT)
theorem zs_astore {i len : Nat} (hd : (decode M.2.1 pc = .ok (.astore i, 2) ∧ len = 2) ∨ ∃ k : Fin 4, decode M.2.1 pc = .ok (.astore_n k, 1) ∧ k.val = i ∧ len = 1) (hn : zNok E M d (pc + len) nx) : zNok E M d pc (zd_st1 zc_r i nx jp ag ca) := by
  intro rt lv st h sy hk ρ lm lvC stC ws ws0 K hR hA hJ hT
  cases st with
  | nil => cases hk
  | cons a st =>
    obtain ⟨c1, h3⟩ := zcd (show cond (and (zc_r a) (zh_nl lv i)) (zk_set lv i a fun lv' => nx rt lv' st h sy) false = true from hk) rfl
    have c2 := xan c1
    obtain ⟨h4, h5⟩ := zk_set_ok h3
    obtain ⟨v, stC', rfl, hv, hR2⟩ := zRel_pop hR
    obtain ⟨x, rfl⟩ := zv_r c2.1 hv
    exact yo_astore hd (zh_nl_ok hR.2.2.2.2.1 c2.2) (by rw [← xx_2_len hR.2.2.2.2.1]; exact h4) (hn rt _ st h sy h5 ρ lm _ _ ws ws0 K (zRel_set i hv hR2) hA hJ hT)
theorem zs_lstore {i len : Nat} (hd : (decode M.2.1 pc = .ok (.lstore i, 2) ∧ len = 2) ∨ ∃ k : Fin 4, decode M.2.1 pc = .ok (.lstore_n k, 1) ∧ k.val = i ∧ len = 1) (hn : zNok E M d (pc + len) nx) : zNok E M d pc (zd_st2 i nx jp ag ca) := by
  intro rt lv st h sy hk ρ lm lvC stC ws ws0 K hR hA hJ hT
  cases st with
  | nil => cases hk
  | cons a st =>
    obtain ⟨c1, h3⟩ := zcd (show cond (and (zc_l a) (zh_nl lv i)) (zk_set lv i a fun lv' => zk_set lv' (Nat.succ i) (9, 0, 0) fun lv'' => nx rt lv'' st h sy) false = true from hk) rfl
    have c2 := xan c1
    obtain ⟨h4, h5⟩ := zk_set_ok h3
    obtain ⟨h6, h7⟩ := zk_set_ok h5
    rw [List.length_set] at h6
    obtain ⟨v, stC', rfl, hv, hR2⟩ := zRel_pop hR
    obtain ⟨x, rfl⟩ := zv_l c2.1 hv
    have hR3 := zRel_set i hv hR2
    exact yo_lstore hd (zh_nl_ok hR.2.2.2.2.1 c2.2) (by rw [← xx_2_len hR.2.2.2.2.1]; exact h6) (hn rt _ st h sy h7 ρ lm _ _ ws ws0 K ⟨hR3.1, hR3.2.1, hR3.2.2.1, hR3.2.2.2.1, xx_2_set hR3.2.2.2.2.1 (i + 1) (Or.inl ⟨rfl, rfl⟩), hR3.2.2.2.2.2⟩ hA hJ hT)
theorem zs_iinc {i : Nat} {n c : Int} (hd : decode M.2.1 pc = .ok (.iinc i n, 3)) (hc : (Int32.ofInt n).toInt = c) (hn : zNok E M d (pc + 3) nx) : zNok E M d pc (zd_inc i c nx jp ag ca) := by
  intro rt lv st h sy hk ρ lm lvC stC ws ws0 K hR hA hJ hT
  obtain ⟨a, h1, h2⟩ := zk_nth_ok hk
  obtain ⟨c1, h3⟩ := zcd h2 rfl
  have h9 : a.1 ≠ 9 := by
    intro q
    obtain ⟨z, lo, hi, q1, -⟩ := zk_rng_i h3 hR.1
    rcases q1 with ⟨q2, -⟩ | ⟨q2, -⟩ <;> rw [q] at q2 <;> cases q2
  obtain ⟨v, e1, e2⟩ := zlv_at hR.2.2.2.2.1 h1 h9
  obtain ⟨x, y, b, sy', ρ', rfl, ey, g1, g2, g3, g4⟩ := zOp2_add E.2.2.1 _ _ _ _ ρ lm _ _ h3 hR.1 e2 (show zv E.2.2.1 ρ lm (0, 0, c) (.int (Int32.ofInt n)) from ⟨_, rfl, hc⟩)
  cases ey
  obtain ⟨h5, h6⟩ := zk_set_ok g1
  have hR2 := zRel_ext g2 g3 hR
  exact yo_iinc hd e1 (zh_nl_ok hR.2.2.2.2.1 c1) (hn rt _ st h sy' h6 ρ' lm _ _ ws ws0 K (zRel_set i (zv_of_zi g4) hR2) hA (zmd_ext g2 hJ) (zRT_ext g2 (xx_e_rf _) hT))
/-- two ints, one int -/
theorem zs_bin {f : zB} {F : Int32 → Int32 → Int32} (hO : zOp2 f F) (hS : xStep2 E.1.1 M pc F) (hn : zNok E M d (pc + 1) nx) : zNok E M d pc (zd_bin f nx jp ag ca) := by
  intro rt lv st h sy hk ρ lm lvC stC ws ws0 K hR hA hJ hT
  match st, hk, hR with
  | [], hk, _ => cases hk
  | [b], hk, _ => cases hk
  | b :: a :: st, hk, hR =>
    obtain ⟨vb, s1, rfl, hb, hR1⟩ := zRel_pop hR
    obtain ⟨va, s2, rfl, ha, hR2⟩ := zRel_pop hR1
    obtain ⟨x, y, c, sy', ρ', rfl, rfl, g1, g2, g3, g4⟩ := hO E.2.2.1 _ _ _ _ ρ lm _ _ (show f a b sy (fun v sy' => nx rt lv (v :: st) h sy') = true from hk) hR.1 ha hb
    exact yo_bin hS (hn rt lv _ h sy' g1 ρ' lm lvC _ ws ws0 K (zRel_push (zv_of_zi g4) (zRel_ext g2 g3 hR2)) hA (zmd_ext g2 hJ) (zRT_ext g2 (xx_e_rf _) hT))
theorem zand255 (x : Int32) : (x &&& 255).toInt = x.toInt % 256 := by
  have e : (x &&& 255).toBitVec.toNat = x.toBitVec.toNat % 256 := by
    rw [Int32.toBitVec_and, BitVec.toNat_and]
    exact Nat.and_two_pow_sub_one_eq_mod x.toBitVec.toNat 8
  have h1 : (x &&& 255).toInt = ((x &&& 255).toBitVec.toNat : Int) := zof_nn (by omega)
  rw [h1, e]
  have h2 : x.toInt = x.toBitVec.toInt := rfl
  rw [h2, BitVec.toInt_eq_toNat_bmod]
  have := x.toBitVec.isLt
  rw [Int.bmod_def]
  split <;> omega
theorem zs_and (hd : decode M.2.1 pc = .ok (.iand, 1)) (hn : zNok E M d (pc + 1) nx) : zNok E M d pc (zd_and nx jp ag ca) := by
  intro rt lv st h sy hk ρ lm lvC stC ws ws0 K hR hA hJ hT
  match st, hk, hR with
  | [], hk, _ => cases hk
  | [b], hk, _ => cases hk
  | b :: a :: st, hk, hR =>
    obtain ⟨vb, s1, rfl, hb, hR1⟩ := zRel_pop hR
    obtain ⟨va, s2, rfl, ha, hR2⟩ := zRel_pop hR1
    have plain : (zand a b sy fun v sy' => nx rt lv (v :: st) h sy') = true → yOk E.1 M d pc lvC (vb :: va :: s2) ws K := by
      intro hq
      obtain ⟨x, y, c, sy1, ρ', ex, ey, g1, g2, g3, g4⟩ := zOp2_bin zgood_and E.2.2.1 _ _ _ _ ρ lm _ _ hq hR.1 ha hb
      subst ex
      subst ey
      have : ∃ sy', nx rt lv (c :: st) h sy' = true ∧ zsat sy' ρ' := by
        cases hz : (zk_rng sy b fun lb _ => zle 0 lb) with
        | false =>
          rw [hz, cond_false] at g1
          exact ⟨sy1, g1, g3⟩
        | true =>
          rw [hz, cond_true] at g1
          obtain ⟨y', lo, hi, ey, zy, b1, b2, b3⟩ := zk_rng_ok hz hR.1 hb
          cases ey
          have := zle_ok.mp b3
          obtain ⟨sy2, k1, k2⟩ := zk_link_ok g1 g3 g4 (zi_mono g2 zy) (by have := (zand_r (x := x) (y := y) (by omega)).2; show (x &&& y).toInt + 0 ≤ y.toInt; omega)
          exact ⟨sy2, k1, k2⟩
      obtain ⟨sy', g1, g3⟩ := this
      exact yo_iand hd (hn rt lv _ h sy' g1 ρ' lm lvC _ ws ws0 K (zRel_push (zv_of_zi g4) (zRel_ext g2 g3 hR2)) hA (zmd_ext g2 hJ) (zRT_ext g2 (xx_e_rf _) hT))
    unfold zd_and at hk
    dsimp only at hk
    cases hc : and (Nat.beq b.1 0) (zeq b.2.2 255) with
    | false =>
      rw [hc, cond_false] at hk
      exact plain hk
    | true =>
      rw [hc, cond_true] at hk
      have c1 := xan hc
      obtain ⟨x, lo, hi, ex, zx, h1, h2, h3⟩ := zk_rng_ok hk hR.1 ha
      cases hb2 : and (zle (.negSucc 127) lo) (zle hi 127) with
      | false =>
        rw [hb2, cond_false] at h3
        exact plain h3
      | true =>
        rw [hb2, cond_true] at h3
        have c2 := xan hb2
        have l1 := zle_ok.mp c2.1
        have l2 := zle_ok.mp c2.2
        have f1 : (Int.negSucc 127 : Int) = -128 := by decide
        have f2 : (Int.negSucc 0 : Int) = -1 := by decide
        have h4 := xan h3
        subst ex
        obtain ⟨y, ey, zy⟩ := zv_tag c1.1 hb
        have zy' : y.toInt = 255 := by
          have : y.toInt = b.2.2 := zy
          rw [this, zeq_ok.mp c1.2]
        have ey2 : y = 255 := Int32.toInt_inj.mp (by rw [zy']; rfl)
        subst ey2
        subst ey
        have e255 := zand255 x
        by_cases h0 : 0 ≤ x.toInt
        · have k1 := h4.1
          rw [zle_ok.mpr (by omega : (0 : Int) ≤ hi), cond_true] at k1
          have hm := zmax_or lo 0
          obtain ⟨sy', q1, q2⟩ := zk_put_ok k1 hR.1 zx (show zmax lo 0 ≤ x.toInt by omega) (show x.toInt ≤ hi by omega)
          have ee : x &&& 255 = x := Int32.toInt_inj.mp (by rw [e255]; omega)
          refine yo_iand hd ?_
          rw [ee]
          exact hn rt lv _ h sy' q1 ρ lm lvC _ ws ws0 K (zRel_push ha ⟨q2, hR2.2⟩) hA hJ hT
        · have k1 := h4.2
          rw [zle_ok.mpr (by omega : lo ≤ Int.negSucc 0), cond_true] at k1
          have hm := zmin_or hi (.negSucc 0)
          obtain ⟨sy', q1, q2⟩ := zk_put_ok k1 hR.1 zx (show lo ≤ x.toInt by omega) (show x.toInt ≤ zmin hi (.negSucc 0) by omega)
          rw [zf_eq] at q1
          have z2 : zi ρ (a.1, a.2.1, a.2.2 + 256) (x &&& 255).toInt := by
            rw [e255, show x.toInt % 256 = x.toInt + 256 by omega]
            exact zi_add zx
          exact yo_iand hd (hn rt lv _ h sy' q1 ρ lm lvC _ ws ws0 K (zRel_push (zv_of_zi z2) ⟨q2, hR2.2⟩) hA hJ hT)
theorem zs_div {f : zB} {F : Int32 → Int32 → Int32} (hO : zOp2 f F) (hS : ∀ {lv : yL} {st : List Value} {ws : va_W} {K : yK} {x y : Int32}, ¬ y = 0 → yOk E.1 M d (pc + 1) lv (.int (F x y) :: st) ws K → yOk E.1 M d pc lv (.int y :: .int x :: st) ws K) (hn : zNok E M d (pc + 1) nx) : zNok E M d pc (zd_div f nx jp ag ca) := by
  intro rt lv st h sy hk ρ lm lvC stC ws ws0 K hR hA hJ hT
  match st, hk, hR with
  | [], hk, _ => cases hk
  | [b], hk, _ => cases hk
  | b :: a :: st, hk, hR =>
    obtain ⟨vb, s1, rfl, hb, hR1⟩ := zRel_pop hR
    obtain ⟨va, s2, rfl, ha, hR2⟩ := zRel_pop hR1
    obtain ⟨c1, hk2⟩ := zcd (show cond (zk_rng sy b fun lb hb => or (zle 1 lb) (zle hb (.negSucc 0))) (f a b sy fun v sy' => nx rt lv (v :: st) h sy') false = true from hk) rfl
    obtain ⟨x, y, c, sy', ρ', rfl, rfl, g1, g2, g3, g4⟩ := hO E.2.2.1 _ _ _ _ ρ lm _ _ hk2 hR.1 ha hb
    obtain ⟨y', lb, hb', ey, zy, k1, k2, k3⟩ := zk_rng_ok c1 hR.1 hb
    cases ey
    have hy : ¬ y = 0 := by
      intro e
      rw [e, Int32.toInt_zero] at k1 k2
      have f2 : (Int.negSucc 0 : Int) = -1 := by decide
      rcases zor k3 with q | q
      · have := zle_ok.mp q; omega
      · have := zle_ok.mp q; omega
    exact hS hy (hn rt lv _ h sy' g1 ρ' lm lvC _ ws ws0 K (zRel_push (zv_of_zi g4) (zRel_ext g2 g3 hR2)) hA (zmd_ext g2 hJ) (zRT_ext g2 (xx_e_rf _) hT))
theorem zs_un {g : Int → Int → Int × Int} {F : Int32 → Int32} (hg : zgood1 F g) (hS : ∀ {lv : yL} {st : List Value} {ws : va_W} {K : yK} {x : Int32}, yOk E.1 M d (pc + 1) lv (.int (F x) :: st) ws K → yOk E.1 M d pc lv (.int x :: st) ws K) (hn : zNok E M d (pc + 1) nx) : zNok E M d pc (zd_un g nx jp ag ca) := by
  intro rt lv st h sy hk ρ lm lvC stC ws ws0 K hR hA hJ hT
  cases st with
  | nil => cases hk
  | cons a st =>
    obtain ⟨va, s2, rfl, ha, hR2⟩ := zRel_pop hR
    obtain ⟨x, la, ha', rfl, -, h1, h2, h3⟩ := zk_rng_ok (show (zk_rng sy a fun la ha => zf (g la ha).1 fun lo => zf (g la ha).2 fun hi => zk_fresh sy lo hi fun v sy' => nx rt lv (v :: st) h sy') = true from hk) hR.1 ha
    rw [zf_eq, zf_eq] at h3
    have q := hg la ha' x h1 h2
    obtain ⟨c, sy', ρ', g1, g2, g3, g4⟩ := zk_fresh_ok h3 hR.1 q.1 q.2
    exact hS (hn rt lv _ h sy' g1 ρ' lm lvC _ ws ws0 K (zRel_push (zv_of_zi g4) (zRel_ext g2 g3 hR2)) hA (zmd_ext g2 hJ) (zRT_ext g2 (xx_e_rf _) hT))
theorem zs_dup (hd : decode M.2.1 pc = .ok (.dup, 1)) (hn : zNok E M d (pc + 1) nx) : zNok E M d pc (zd_dup nx jp ag ca) := by
  intro rt lv st h sy hk ρ lm lvC stC ws ws0 K hR hA hJ hT
  cases st with
  | nil => cases hk
  | cons a st =>
    obtain ⟨va, s2, rfl, ha, hR2⟩ := zRel_pop hR
    have hk' : cond (zc_l a) false (nx rt lv (a :: a :: st) h sy) = true := hk
    cases hc : zc_l a with
    | true => rw [hc] at hk'; cases hk'
    | false =>
      rw [hc] at hk'
      exact yo_dup hd (by rw [zv_cat ha, hc]; rfl) (hn rt lv _ h sy hk' ρ lm lvC _ ws ws0 K (zRel_push ha hR) hA hJ hT)
theorem zs_pop (hd : decode M.2.1 pc = .ok (.pop, 1)) (hn : zNok E M d (pc + 1) nx) : zNok E M d pc (zd_pop nx jp ag ca) := by
  intro rt lv st h sy hk ρ lm lvC stC ws ws0 K hR hA hJ hT
  cases st with
  | nil => cases hk
  | cons a st =>
    obtain ⟨va, s2, rfl, ha, hR2⟩ := zRel_pop hR
    have hk' : cond (zc_l a) false (nx rt lv st h sy) = true := hk
    cases hc : zc_l a with
    | true => rw [hc] at hk'; cases hk'
    | false =>
      rw [hc] at hk'
      exact yo_pop hd (by rw [zv_cat ha, hc]; rfl) (hn rt lv _ h sy hk' ρ lm lvC _ ws ws0 K hR2 hA hJ hT)
theorem zs_dup2 (hd : decode M.2.1 pc = .ok (.dup2, 1)) (hn : zNok E M d (pc + 1) nx) : zNok E M d pc (zd_dup2 nx jp ag ca) := by
  intro rt lv st h sy hk ρ lm lvC stC ws ws0 K hR hA hJ hT
  match st, hk, hR with
  | [], hk, _ => cases hk
  | [b], hk, _ => cases hk
  | a :: b :: st, hk, hR =>
    obtain ⟨va, s1, rfl, ha, hR1⟩ := zRel_pop hR
    obtain ⟨vb, s2, rfl, hb, hR2⟩ := zRel_pop hR1
    have hk' : cond (or (zc_l a) (zc_l b)) false (nx rt lv (a :: b :: a :: b :: st) h sy) = true := hk
    cases hc : or (zc_l a) (zc_l b) with
    | true => rw [hc] at hk'; cases hk'
    | false =>
      rw [hc] at hk'
      have c1 := Bool.or_eq_false_iff.mp hc
      exact yo_dup2 hd (by rw [zv_cat ha, c1.1]; rfl) (by rw [zv_cat hb, c1.2]; rfl) (hn rt lv _ h sy hk' ρ lm lvC _ ws ws0 K (zRel_push ha (zRel_push hb hR)) hA hJ hT)
theorem zs_goto {off : Int} {j tgt : Nat} (hd : decode M.2.1 pc = .ok (.goto off, 3)) (ht : (pc : Int) + off = (tgt : Int)) (hj : zNok E M d tgt (jp j)) : zNok E M d pc (zd_goto j nx jp ag ca) := by
  intro rt lv st h sy hk ρ lm lvC stC ws ws0 K hR hA hJ hT
  exact yo_goto hd ht (hj rt lv st h sy hk ρ lm lvC stC ws ws0 K hR hA hJ hT)
theorem zRel_sy {ρ : List Int32} {lm : List Int64} {lv st : List zV} {h : zH} {sy sy' : zS} {lvC : yL} {stC : List Value} {ws : va_W} (hs : zsat sy' ρ) (hR : zRel E ρ lm lv st h sy lvC stC ws) : zRel E ρ lm lv st h sy' lvC stC ws := ⟨hs, hR.2⟩
theorem zs_icmp {cd : ClassFile.Cond} {off : Int} {j tgt : Nat} (hd : decode M.2.1 pc = .ok (.if_icmp cd off, 3)) (ht : (pc : Int) + off = (tgt : Int)) (hj : zNok E M d tgt (jp j)) (hn : zNok E M d (pc + 3) nx) : zNok E M d pc (zd_icmp cd j nx jp ag ca) := by
  intro rt lv st h sy hk ρ lm lvC stC ws ws0 K hR hA hJ hT
  match st, hk, hR with
  | [], hk, _ => cases hk
  | [b], hk, _ => cases hk
  | b :: a :: st, hk, hR =>
    obtain ⟨vb, s1, rfl, hb, hR1⟩ := zRel_pop hR
    obtain ⟨va, s2, rfl, ha, hR2⟩ := zRel_pop hR1
    obtain ⟨x, y, rfl, rfl, kt, kf⟩ := zbr_ok (show zbr cd a b sy (fun sy' => jp j rt lv st h sy') (fun sy' => nx rt lv st h sy') = true from hk) hR.1 ha hb
    refine yo_icmp hd ht (fun q => ?_) (fun q => ?_)
    · obtain ⟨sy', k1, k2⟩ := kt q
      exact hj rt lv st h sy' k1 ρ lm lvC _ ws ws0 K (zRel_sy k2 hR2) hA hJ hT
    · obtain ⟨sy', k1, k2⟩ := kf q
      exact hn rt lv st h sy' k1 ρ lm lvC _ ws ws0 K (zRel_sy k2 hR2) hA hJ hT
theorem zcmp0 (x y : Int64) : (lg_cmp x y).toInt = 0 ↔ x.toInt = y.toInt := by
  have e0 : (lg_cmp x y).toInt = 0 ↔ lg_cmp x y = 0 := by rw [← Int32.toInt_zero]; exact Int32.toInt_inj
  rw [e0, lg_cmp_eq]
  exact Int64.toInt_inj.symm
theorem zRel_ly {ρ : List Int32} {lm : List Int64} {lv st : List zV} {h : zH} {l : List zJ} {sy : zS} {lvC : yL} {stC : List Value} {ws : va_W} (hl : zsatL l lm) (hR : zRel E ρ lm lv st h sy lvC stC ws) : zRel E ρ lm lv st (h.1, l) sy lvC stC ws := ⟨hR.1, hl, hR.2.2⟩
theorem zs_if {cd : ClassFile.Cond} {off : Int} {j tgt : Nat} (hd : decode M.2.1 pc = .ok (.ifCond cd off, 3)) (ht : (pc : Int) + off = (tgt : Int)) (hj : zNok E M d tgt (jp j)) (hn : zNok E M d (pc + 3) nx) : zNok E M d pc (zd_if cd j nx jp ag ca) := by
  intro rt lv st h sy hk ρ lm lvC stC ws ws0 K hR hA hJ hT
  cases st with
  | nil => cases hk
  | cons a st =>
    obtain ⟨va, s2, rfl, ha, hR2⟩ := zRel_pop hR
    unfold zd_if at hk
    dsimp only at hk
    cases h11 : Nat.beq a.1 11 with
    | true =>
      rw [h11, cond_true] at hk
      obtain ⟨x, y, x1, x2, rfl⟩ := zv_tag h11 ha
      have x1' : lm[a.2.1]? = some x := x1
      have x2' : y.toInt = a.2.2 := x2
      have both : and (jp j rt lv st h sy) (nx rt lv st h sy) = true → yOk E.1 M d pc lvC (.int (lg_cmp x y) :: s2) ws K := fun q =>
        yo_if hd ht (fun _ => hj rt lv st h sy (xan q).1 ρ lm lvC _ ws ws0 K hR2 hA hJ hT) (fun _ => hn rt lv st h sy (xan q).2 ρ lm lvC _ ws ws0 K hR2 hA hJ hT)
      cases cd with
      | eq =>
        obtain ⟨q1, q2⟩ := zlq_ok (show zlq h a.2.1 a.2.2 (fun h' => jp j rt lv st h' sy) (fun h' => nx rt lv st h' sy) = true from hk) hR.2.1 x1'
        refine yo_if hd ht (fun q => ?_) (fun q => ?_)
        · obtain ⟨l, k1, k2⟩ := q1 (by rw [← x2']; exact (zcmp0 x y).mp q)
          exact hj rt lv st _ sy k1 ρ lm lvC _ ws ws0 K (zRel_ly k2 hR2) hA hJ hT
        · obtain ⟨l, k1, k2⟩ := q2 (fun z => q ((zcmp0 x y).mpr (by rw [x2']; exact z)))
          exact hn rt lv st _ sy k1 ρ lm lvC _ ws ws0 K (zRel_ly k2 hR2) hA hJ hT
      | ne =>
        obtain ⟨q1, q2⟩ := zlq_ok (show zlq h a.2.1 a.2.2 (fun h' => nx rt lv st h' sy) (fun h' => jp j rt lv st h' sy) = true from hk) hR.2.1 x1'
        refine yo_if hd ht (fun q => ?_) (fun q => ?_)
        · obtain ⟨l, k1, k2⟩ := q2 (fun z => q ((zcmp0 x y).mpr (by rw [x2']; exact z)))
          exact hj rt lv st _ sy k1 ρ lm lvC _ ws ws0 K (zRel_ly k2 hR2) hA hJ hT
        · obtain ⟨l, k1, k2⟩ := q1 (by rw [← x2']; exact (zcmp0 x y).mp (Classical.not_not.mp q))
          exact hn rt lv st _ sy k1 ρ lm lvC _ ws ws0 K (zRel_ly k2 hR2) hA hJ hT
      | lt => exact both hk
      | ge => exact both hk
      | gt => exact both hk
      | le => exact both hk
    | false =>
      rw [h11, cond_false] at hk
      cases h12 : Nat.beq a.1 12 with
      | true =>
        rw [h12, cond_true] at hk
        obtain ⟨x, rfl⟩ := zv_tag h12 ha
        exact yo_if hd ht (fun _ => hj rt lv st h sy (xan hk).1 ρ lm lvC _ ws ws0 K hR2 hA hJ hT) (fun _ => hn rt lv st h sy (xan hk).2 ρ lm lvC _ ws ws0 K hR2 hA hJ hT)
      | false =>
        rw [h12, cond_false] at hk
        obtain ⟨x, y, rfl, ey, kt, kf⟩ := zbr_ok (X := E.2.2.1) (lm := lm) hk hR.1 ha (show zv E.2.2.1 ρ lm (0, 0, 0) (.int 0) from ⟨0, rfl, Int32.toInt_zero⟩)
        cases ey
        rw [Int32.toInt_zero] at kt kf
        refine yo_if hd ht (fun q => ?_) (fun q => ?_)
        · obtain ⟨sy', k1, k2⟩ := kt q
          exact hj rt lv st h sy' k1 ρ lm lvC _ ws ws0 K (zRel_sy k2 hR2) hA hJ hT
        · obtain ⟨sy', k1, k2⟩ := kf q
          exact hn rt lv st h sy' k1 ρ lm lvC _ ws ws0 K (zRel_sy k2 hR2) hA hJ hT
theorem zs_sw {keys : List Int} {t : Int × Int → Option Nat} (hT' : ∀ (iv : Int × Int) (j : Nat) (x : Int32), t iv = some j → iv.1 ≤ x.toInt → x.toInt ≤ iv.2 → ∃ tgt, zNok E M d tgt (jp j) ∧ ∀ {lv : yL} {st : List Value} {ws : va_W} {K : yK}, yOk E.1 M d tgt lv st ws K → yOk E.1 M d pc lv (.int x :: st) ws K) : zNok E M d pc (zd_sw keys t nx jp ag ca) := by
  intro rt lv st h sy hk ρ lm lvC stC ws ws0 K hR hA hJ hT
  cases st with
  | nil => cases hk
  | cons a st =>
    obtain ⟨va, s2, rfl, ha, hR2⟩ := zRel_pop hR
    obtain ⟨x, lo, hi, rfl, zx, h1, h2, h3⟩ := zk_rng_ok (show (zk_rng sy a fun lo hi => zk_all (xh_cut keys lo hi) fun q => match t q with
      | none => false
      | some j => xx_f j fun j' => zk_put sy a q fun sy' => jp j' rt lv st h sy') = true from hk) hR.1 ha
    obtain ⟨q, q1, q2, q3⟩ := xcut_ok keys lo hi x.toInt h1 h2
    have h4 := zk_all_ok h3 q q1
    cases ht : t q with
    | none => rw [ht] at h4; cases h4
    | some j =>
      rw [ht] at h4
      have h5 : (xx_f j fun j' => zk_put sy a q fun sy' => jp j' rt lv st h sy') = true := h4
      rw [xx_f_eq] at h5
      obtain ⟨sy', k1, k2⟩ := zk_put_ok h5 hR.1 zx q2 q3
      obtain ⟨tgt, t1, t2⟩ := hT' q j x ht q2 q3
      exact t2 (t1 rt lv st h sy' k1 ρ lm lvC _ ws ws0 K (zRel_sy k2 hR2) hA hJ hT)
theorem zs_vret (hd : decode M.2.1 pc = .ok (.return_, 1)) (hr : M.2.2.2.1 = none) : zNok E M d pc (zd_vret nx jp ag ca) := by
  intro rt lv st h sy hk ρ lm lvC stC ws ws0 K hR hA hJ hT
  cases st with
  | cons a st => cases hk
  | nil =>
    have e := xx_2_nil hR.2.2.2.2.2
    subst e
    exact yo_vret hd hr (hT none h sy ρ lm ws none hk (xx_e_rf _) (xx_e_rf _) hR.1 hR.2.1 hR.2.2.1 hR.2.2.2.1 hA (Or.inl ⟨rfl, rfl⟩))
theorem zs_lret (hd : decode M.2.1 pc = .ok (.lreturn, 1)) (hr : M.2.2.2.1 = some .long) : zNok E M d pc (zd_ret 1 nx jp ag ca) := by
  intro rt lv st h sy hk ρ lm lvC stC ws ws0 K hR hA hJ hT
  match st, hk, hR with
  | [], hk, _ => cases hk
  | _ :: _ :: _, hk, _ => cases hk
  | [a], hk, hR =>
    obtain ⟨va, s2, rfl, ha, hR2⟩ := zRel_pop hR
    have e := xx_2_nil hR2.2.2.2.2.2
    subst e
    obtain ⟨c1, h1⟩ := zcd (show cond (zc_l a) (rt (some a) h sy) false = true from hk) rfl
    obtain ⟨x, rfl⟩ := zv_l c1 ha
    exact yo_lret hd hr (hT (some a) h sy ρ lm ws _ h1 (xx_e_rf _) (xx_e_rf _) hR.1 hR.2.1 hR.2.2.1 hR.2.2.2.1 hA (Or.inr ⟨a, _, rfl, rfl, ha⟩))
end ZI
