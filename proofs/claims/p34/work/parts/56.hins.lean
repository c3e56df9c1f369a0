/-! fields and rows: what the typed run does there, the machine does -/
section ZH
variable {E : zEn} {M : xM} {d pc : Nat} {nx ag : zN} {jp : Nat → zN} {ca : zKc}
theorem zsp_lt {SP : List (List zY)} (hl : SP.length ≤ 83) {k : Nat} {y : zY} (h : zsp SP k = some y) : k < 1000 := by
  unfold zsp at h
  cases hq : SP[k / 12]? with
  | none => rw [hq] at h; cases h
  | some l =>
    have := (List.getElem?_eq_some_iff.mp hq).1
    omega
theorem z3_ok {X : zX} {ρ : List Int32} {lm : List Int64} {a : zV} {v : Value} {g : yG} {SP : List (List zY)} {ws : va_W} (hc : Nat.beq a.1 3 = true) (hv : zv X ρ lm a v) (hT : zTw g SP X ws) : ∃ q e, ws[a.2.1]? = some (q, e) ∧ v = .ref q := by
  obtain ⟨q, h1, h2⟩ := zv_tag hc hv
  have h1' : X.2[a.2.1]? = some q := h1
  rw [hT.2.1, List.getElem?_map] at h1'
  cases hw : ws[a.2.1]? with
  | none => rw [hw] at h1'; cases h1'
  | some p =>
    rw [hw] at h1'
    obtain ⟨q', e⟩ := p
    cases h1'
    exact ⟨q', e, rfl, h2⟩
theorem zs_get {nt a1 a2 idx : Nat} {C : String} {T : u_T} {N : Nat} (hSP : E.2.1.1.length ≤ 83) (hd : decode M.2.1 pc = .ok (.getfield idx, 3)) (hc : xcl[a1]? = some (C, T, N)) (hin : ∀ w ∈ u_ws C T N, w ∈ xTb) (hk0 : a2 < N) (hl : Cond.fieldLink M.1.cls idx (T a2).1 (T a2).2.1 (T a2).2.2.1 ∈ xTb ∨ ∃ host, Cond.fieldLinkNest M.1.cls idx (T a2).1 (T a2).2.1 (T a2).2.2.1 host ∈ xNW) (h1000 : Nat.beq a1 1000 = false) (hn : zNok E M d (pc + 3) nx) : zNok E M d pc (zd_get E.2.1.1 nt a1 a2 nx jp ag ca) := by
  intro rt lv st h sy hk ρ lm lvC stC ws ws0 K hR hA hJ hT
  cases st with
  | nil => cases hk
  | cons a st =>
    obtain ⟨va, s2, rfl, ha, hR2⟩ := zRel_pop hR
    unfold zd_get at hk
    dsimp only at hk
    cases h3 : Nat.beq a.1 3 with
    | false =>
      rw [h3, cond_false, h1000] at hk
      simp at hk
    | true =>
      rw [h3, cond_true] at hk
      obtain ⟨y, y1, y2⟩ := zk_sp_ok hk
      cases y with
      | inr r => cases y2
      | inl o =>
        obtain ⟨c1, y3⟩ := zcd y2 rfl
        have eo := Nat.eq_of_beq_eq_true c1
        obtain ⟨q, e, w1, rfl⟩ := z3_ok h3 ha hR.2.2.1
        obtain ⟨p, v, z, b, h', sy', ρ', lm', g1, g2, g3, g4, g5, g6, g7, g8, g9, g10, g11⟩ := zk_load_ok y3 hR.1 hR.2.1 hR.2.2.2.1 hR.2.2.1 y1 (zsp_lt hSP y1) (List.getElem?_eq_some_iff.mp w1).1
        rw [w1] at g1
        cases g1
        have ez : z = (a2 : Int) := by
          rcases g2 with ⟨-, q2⟩ | ⟨q2, -⟩
          · exact q2
          · cases q2
        subst ez
        obtain ⟨⟨fs, ef, -⟩, -⟩ := hR.2.2.1.2.2 _ _ _ y1 w1
        have ef' : e = .inr (o.1, fs) := ef
        subst ef'
        rw [eo] at w1
        have hv : fs[a2]? = some v := g4
        exact yo_get hd hc hin hk0 hl w1 hv (hn rt lv (b :: st) h' sy' g5 ρ' lm' lvC _ ws ws0 K (zRel_push g11 (zRel_ext2 g6 g7 g8 g9 g10 hR2)) hA (zmd_ext g6 hJ) (zRT_ext g6 g7 hT))
theorem zs_getS {nt a2 idx : Nat} (hnt : nt = xBY.length) (hd : decode M.2.1 pc = .ok (.getfield idx, 3)) (hl : (a2 = 0 ∧ Cond.fieldLink M.1.cls idx "java/lang/String" "coder" "B" ∈ xTb) ∨ (a2 = 1 ∧ Cond.fieldLink M.1.cls idx "java/lang/String" "value" "[B" ∈ xTb)) (hno : ∀ (k : Nat) (o : Nat × List zT), zsp E.2.1.1 k = some (.inl o) → Nat.beq o.1 1000 = false) (hn : zNok E M d (pc + 3) nx) : zNok E M d pc (zd_get E.2.1.1 nt 1000 a2 nx jp ag ca) := by
  intro rt lv st h sy hk ρ lm lvC stC ws ws0 K hR hA hJ hT
  cases st with
  | nil => cases hk
  | cons a st =>
    obtain ⟨va, s2, rfl, ha, hR2⟩ := zRel_pop hR
    unfold zd_get at hk
    dsimp only at hk
    cases h3 : Nat.beq a.1 3 with
    | true =>
      rw [h3, cond_true] at hk
      obtain ⟨y, y1, y2⟩ := zk_sp_ok hk
      cases y with
      | inr r => cases y2
      | inl o =>
        have := (zcd y2 rfl).1
        rw [hno _ _ y1] at this
        cases this
    | false =>
      rw [h3, cond_false] at hk
      obtain ⟨c1, y3⟩ := zcd hk rfl
      have c2 := xan c1
      have c3 := xan c2.2
      have hlt : a.2.1 < xBY.length := by rw [← hnt]; exact Nat.le_of_ble_eq_true c3.2
      have ev : va = .ref (E.2.2.1.1.1.2.1 a.2.1) := zv_tag c2.1 ha
      have eX : E.2.2.1.1 = (E.1.1.2.1, E.1.1.2.2.2.2.1) := hR.2.2.1.1
      rw [eX] at ev
      subst ev
      rcases hl with ⟨rfl, hl⟩ | ⟨rfl, hl⟩
      · exact yo_getS0 hd hl hlt (hn rt lv _ h sy y3 ρ lm lvC _ ws ws0 K (zRel_push (show zv E.2.2.1 ρ lm (0, 0, 0) (.int 0) from ⟨0, rfl, Int32.toInt_zero⟩) hR2) hA hJ hT)
      · exact yo_getS1 hd hl hlt (hn rt lv _ h sy y3 ρ lm lvC _ ws ws0 K (zRel_push (show zv E.2.2.1 ρ lm (8, a.2.1, 0) _ by show Value.ref _ = .ref (E.2.2.1.1.1.2.2 a.2.1); rw [eX]) hR2) hA hJ hT)
theorem zk_store_ok {y : zY} {sy : zS} {h : zH} {r : Nat} {key a : zV} {k : zH → Bool} {ρ : List Int32} {lm : List Int64} {ws ws0 : va_W} {q : Nat} {e : va_E} {v : Value} {z : Int} (hJo : zJok E.1 E.2.1.2 E.2.2.2.2.1) (hk : zk_store E.2.1 E.2.2.2.1.1 y sy h r key a k = true) (hs : zsat sy ρ) (hl : zsatL h.2 lm) (hF : zfa E.2.2.1 E.2.2.2.2.1 ρ lm ws h.1) (hT : zTw E.1 E.2.1.1 E.2.2.1 ws) (hy : zsp E.2.1.1 r = some y) (hw : ws[r]? = some (q, e)) (hv : zv E.2.2.1 ρ lm a v) (hA : zag E.2.2.2.1.2 ws0 ws) (hm : zmd E.2.2.2.1.1 E.2.2.2.1.2 E.2.2.2.2.2 ρ) (hz : zi ρ key z)
    (hsh : ∀ t, 0 ≤ z → zspec y z.toNat = some t → zfit E.2.2.1 t v → zshape E.1 y e → zshape E.1 y (zw e z.toNat v) ∧ (∀ v', zat (zw e z.toNat v) z.toNat = some v' → v' = v) ∧ zat (zw e z.toNat v) z.toNat = some v) :
    ∃ h', k h' = true ∧ h'.2 = h.2 ∧ 0 ≤ z ∧ (∃ t, zspec y z.toNat = some t ∧ zfit E.2.2.1 t v) ∧ zfa E.2.2.1 E.2.2.2.2.1 ρ lm (ws.set r (q, zw e z.toNat v)) h'.1 ∧ zTw E.1 E.2.1.1 E.2.2.1 (ws.set r (q, zw e z.toNat v)) ∧ zag E.2.2.2.1.2 ws0 (ws.set r (q, zw e z.toNat v)) := by
  obtain ⟨t, h1, h2, h0⟩ := zk_spec_ok hk hs hz
  obtain ⟨c1, h3⟩ := zcd h2 rfl
  rw [zk_fil_eq] at h3
  have c2 := xan c1
  have c3 := xan c2.2
  have hr : r < 1000 := Nat.le_of_ble_eq_true c2.1
  have hfit := zfv_ok c3.1 hs hl hv
  have hsh0 := zcell_sh (hT.2.2 _ _ _ hy hw)
  obtain ⟨s1, s2, s3⟩ := hsh t h0 h1 hfit hsh0
  have hP : E.2.2.2.1.2 r z.toNat := zmay_use hs hm c3.2 hz hz (by omega) (by omega)
  refine ⟨_, h3, rfl, h0, ⟨t, h1, hfit⟩, fun f hf => ?_, zTw_w hT hw hy h1 hfit s1 s2, zag_w hA hw hP⟩
  rcases List.mem_cons.mp hf with rfl | hf
  · exact ⟨fun q => absurd q (Nat.not_le.mpr hr), fun _ => ⟨_, v, z, List.getElem?_set_self (List.getElem?_eq_some_iff.mp hw).1, hz, h0, s3, hv⟩⟩
  · exact zfa_w hJo.1 hs hF hw hz h0 f hf
theorem zs_put {a1 a2 a3 idx : Nat} {C : String} {T : u_T} {N : Nat} {ty0 : Nat → FieldType} (hJo : zJok E.1 E.2.1.2 E.2.2.2.2.1) (hd : decode M.2.1 pc = .ok (.putfield idx, 3)) (hc : xcl[a1]? = some (C, T, N)) (hin : ∀ w ∈ u_ws C T N, w ∈ xTb) (hty : ∀ k, k < N → parseFieldDescriptor (T k).2.2.1 = some (ty0 k)) (hnm : ∀ a, a < N → ∀ b, b < N → a ≠ b → (T a).2.1 ≠ (T b).2.1) (hk0 : a2 < N) (hl : Cond.fieldLink M.1.cls idx (T a2).1 (T a2).2.1 (T a2).2.2.1 ∈ xTb) (ha3 : a3 = xh_tc (ty0 a2)) (hfin : (T a2).2.2.2 = false) (hn : zNok E M d (pc + 3) nx) : zNok E M d pc (zd_put E.2.1 E.2.2.2.1.1 a1 a2 a3 nx jp ag ca) := by
  intro rt lv st h sy hk ρ lm lvC stC ws ws0 K hR hA hJ hT
  match st, hk, hR with
  | [], hk, _ => cases hk
  | [b], hk, _ => cases hk
  | b :: a :: st, hk, hR =>
    obtain ⟨vb, s1, rfl, hb, hR1⟩ := zRel_pop hR
    obtain ⟨va, s2, rfl, ha, hR2⟩ := zRel_pop hR1
    unfold zd_put at hk
    dsimp only at hk
    obtain ⟨c0, hk1⟩ := zcd hk rfl
    have c1 := xan c0
    obtain ⟨y, y1, y2⟩ := zk_sp_ok hk1
    cases y with
    | inr r => cases y2
    | inl o =>
      obtain ⟨c2, y3⟩ := zcd y2 rfl
      have eo := Nat.eq_of_beq_eq_true c2
      obtain ⟨q, e, w1, rfl⟩ := z3_ok c1.1 ha hR.2.2.1
      have hz : zi ρ (0, 0, (.ofNat a2 : Int)) (a2 : Int) := Or.inl ⟨rfl, rfl⟩
      obtain ⟨⟨fs, ef, hfl⟩, -⟩ := hR.2.2.1.2.2 _ _ _ y1 w1
      have ef' : e = .inr (o.1, fs) := ef
      subst ef'
      have hnn : ((a2 : Int)).toNat = a2 := by omega
      have hlen : ∀ t, zspec (.inl o) a2 = some t → a2 < fs.length := fun t ht => by
        have := (List.getElem?_eq_some_iff.mp (show o.2[a2]? = some t from ht)).1
        omega
      obtain ⟨h', g1, g2, g3, ⟨t, g4, g5⟩, g6, g7, g8⟩ := zk_store_ok hJo y3 hR.1 hR.2.1 hR.2.2.2.1 hR.2.2.1 y1 w1 hb hA hJ hz (fun t _ ht _ _ => by
        rw [hnn] at ht ⊢
        refine ⟨⟨_, rfl, by rw [List.length_set]; exact hfl⟩, fun v' hv' => ?_, List.getElem?_set_self (hlen t ht)⟩
        rw [show zat (zw (.inr (o.1, fs)) a2 vb) a2 = some vb from List.getElem?_set_self (hlen t ht)] at hv'
        exact (Option.some.inj hv').symm)
      rw [hnn] at g4 g6 g7 g8
      have hft := zft_ok (ty := ty0 a2) (by rw [← ha3]; exact c1.2) hR.1 hb
      rw [eo] at w1
      have ezw : zw (.inr (o.1, fs)) a2 vb = .inr (o.1, fs.set a2 vb) := rfl
      rw [ezw, eo] at g6 g7 g8
      exact yo_put hd hc hin hty hnm hk0 hl hfin w1 (hlen t g4) hft.1 hft.2 (hn rt lv st h' sy g1 ρ lm lvC _ _ ws0 K ⟨hR.1, by rw [g2]; exact hR.2.1, g7, g6, hR2.2.2.2.2⟩ g8 hJ hT)
theorem zk_key_ok {X : zX} {r : FieldType × Nat × List zT} {i : zV} {sy : zS} {k : zV → zS → Bool} {ρ : List Int32} {lm : List Int64} {v : Value} (h : zk_key r i sy k = true) (hs : zsat sy ρ) (hv : zv X ρ lm i v) : ∃ (x : Int32) (key : zV) (sy' : zS), v = .int x ∧ k key sy' = true ∧ zsat sy' ρ ∧ zi ρ key x.toInt := by
  unfold zk_key at h
  obtain ⟨x, lo, hi, rfl, zx, h1, h2, h3⟩ := zk_rng_ok h hs hv
  refine ⟨x, ?_⟩
  cases hc : zle hi lo with
  | true =>
    rw [hc, cond_true] at h3
    have := zle_ok.mp hc
    exact ⟨_, sy, rfl, h3, hs, Or.inl ⟨rfl, by show x.toInt = lo; omega⟩⟩
  | false =>
    rw [hc, cond_false] at h3
    have gen : (zk_all (xh_num lo (hi - lo + 1).toNat) fun z => zf z fun z' => zk_put sy i (z', z') fun sy' => k (0, 0, z') sy') = true → ∃ (key : zV) (sy' : zS), Value.int x = .int x ∧ k key sy' = true ∧ zsat sy' ρ ∧ zi ρ key x.toInt := by
      intro hq
      have := zk_all_ok hq x.toInt (xnum_mem _ _ _ h1 (by omega))
      rw [zf_eq] at this
      obtain ⟨sy', k1, k2⟩ := zk_put_ok this hs zx (Int.le_refl _) (Int.le_refl _)
      exact ⟨_, sy', rfl, k1, k2, Or.inl ⟨rfl, rfl⟩⟩
    split at h3
    · exact ⟨i, sy, rfl, h3, hs, zx⟩
    · cases hu : and (zle 0 lo) (zk_nth r.2.2 lo.toNat fun t => zun t (hi - lo + 1).toNat (xk_drop lo.toNat r.2.2)) with
      | true =>
        rw [hu, cond_true] at h3
        exact ⟨i, sy, rfl, h3, hs, zx⟩
      | false =>
        rw [hu, cond_false] at h3
        exact gen h3
theorem zin_of {x : Int32} {n : Nat} (h0 : 0 ≤ x.toInt) (h1 : x.toInt < n) : vp_in x n ∧ x.toNatClampNeg = x.toInt.toNat := by
  have e : x.toNatClampNeg = x.toInt.toNat := rfl
  refine ⟨fun q => ?_, e⟩
  rcases q with q | q
  · have := Int32.lt_iff_toInt_lt.mp q
    rw [Int32.toInt_zero] at this
    omega
  · rw [e] at q
    omega
end ZH
