/-! calls of the typed run -/
def zh_lay : List zV → List zV
  | [] => []
  | a :: l => cond (zc_l a) (a :: (9, 0, 0) :: zh_lay l) (a :: zh_lay l)
noncomputable def zk_pad (n : Nat) : List zV → (List zV → Bool) → Bool := Nat.rec (motive := fun _ => List zV → (List zV → Bool) → Bool) (fun l k => match l with
    | [] => k []
    | _ :: _ => false) (fun _ ih l k => List.rec (motive := fun _ => Bool) (ih [] fun t => k ((9, 0, 0) :: t)) (fun a t _ => ih t fun t' => k (a :: t')) l) n
def zres (r : Option zV) (rest : List zV) : List zV := match r with
  | none => rest
  | some v => v :: rest
abbrev zMp : Type := Nat × List zD
abbrev zIt : Type := Nat → List zD → List zD → zN
noncomputable def zcs (C : zCf) (md : zM) (CT : List zC) (mi d' : Nat) (lv : List zV) (h : zH) (sy : zS) (k : zRt) : Bool := zk_any CT fun c => and (and (Nat.beq c.1 mi) (and (Nat.beq c.2.1 0) (Nat.ble c.2.2.1 d'))) (zuse C md c lv h sy (fun _ _ => true) k)
noncomputable def zhas (CT : List zC) (mi : Nat) : Bool := zk_any CT fun c => and (Nat.beq c.1 mi) (Nat.beq c.2.1 0)
noncomputable def zh_call (MP : List zMp) (C : zCf) (md : zM) (CT : List zC) (ih : zIt) (d : Nat) (nx : zN) : zKc := fun rt mi as rest lv h sy => Nat.rec (motive := fun _ => Bool) false (fun d' _ => match xk_at MP mi with
  | none => false
  | some N => cond (and (Nat.ble (zh_words rest) 8) (Nat.ble N.1 40)) (zk_pad N.1 (zh_lay as) fun lv' => cond (zhas CT mi) (zcs C md CT mi d' lv' h sy fun r h' sy' => nx rt lv (zres r rest) h' sy') (ih d' N.2 N.2 (fun r h' sy' => nx rt lv (zres r rest) h' sy') lv' [] h sy)) false) d
noncomputable def zd_virt (C : zCf) (nt n mi ci : Nat) : zD := fun _ _ _ ca rt lv st h sy => zk_take n [] st fun as r => match r with
  | [] => false
  | b :: rest => cond (Nat.beq b.1 3) (zk_sp C.1 b.2.1 fun y => match y with
      | .inl o => cond (Nat.beq o.1 ci) (ca rt mi (b :: as) rest lv h sy) false
      | .inr _ => false) (cond (and (Nat.beq b.1 7) (and (Nat.beq ci 1000) (Nat.ble (Nat.succ b.2.1) nt))) (ca rt mi (b :: as) rest lv h sy) false)
noncomputable def zd_stat (n mi : Nat) : zD := fun _ _ _ ca rt lv st h sy => zk_take n [] st fun as rest => ca rt mi as rest lv h sy
theorem zk_pad_ok : ∀ {n : Nat} {l : List zV} {k : List zV → Bool}, zk_pad n l k = true → l.length ≤ n ∧ k (l ++ List.replicate (n - l.length) (9, 0, 0)) = true
  | 0, [], k, h => ⟨Nat.le_refl _, h⟩
  | 0, _ :: _, k, h => nomatch (show false = true from h)
  | n + 1, [], k, h => by
    obtain ⟨-, h2⟩ := zk_pad_ok (n := n) (l := []) (k := fun t => k ((9, 0, 0) :: t)) h
    refine ⟨Nat.zero_le _, ?_⟩
    simpa [List.replicate_succ] using h2
  | n + 1, a :: l, k, h => by
    obtain ⟨h1, h2⟩ := zk_pad_ok (n := n) (l := l) (k := fun t => k (a :: t)) h
    refine ⟨by simpa using h1, ?_⟩
    simpa using h2
theorem zlay_ok {X : zX} {ρ : List Int32} {lm : List Int64} : ∀ {as : List zV} {vs : List Value}, xx_2 (zv X ρ lm) as vs → xx_2 (zlv X ρ lm) (zh_lay as) (yLay vs)
  | [], vs, h => by
    rw [xx_2_nil h]
    trivial
  | a :: as, vs, h => by
    obtain ⟨v, vs', rfl, h1, h2⟩ := xx_2_cons h
    have ih := zlay_ok h2
    have hc := zv_cat h1
    show xx_2 _ (cond (zc_l a) (a :: (9, 0, 0) :: zh_lay as) (a :: zh_lay as)) (if v.category = 2 then some v :: none :: yLay vs' else some v :: yLay vs')
    cases hz : zc_l a with
    | true =>
      rw [hz] at hc
      rw [if_pos (by rw [hc]; rfl)]
      exact ⟨Or.inr ⟨v, rfl, h1⟩, Or.inl ⟨rfl, rfl⟩, ih⟩
    | false =>
      rw [hz] at hc
      rw [if_neg (by rw [hc]; decide)]
      exact ⟨Or.inr ⟨v, rfl, h1⟩, ih⟩
theorem zrep_ok {X : zX} {ρ : List Int32} {lm : List Int64} : ∀ n, xx_2 (zlv X ρ lm) (List.replicate n (9, 0, 0)) (List.replicate n none)
  | 0 => trivial
  | n + 1 => ⟨Or.inl ⟨rfl, rfl⟩, zrep_ok n⟩
theorem zent_ok {X : zX} {ρ : List Int32} {lm : List Int64} {as : List zV} {vs : List Value} (n : Nat) (h : xx_2 (zv X ρ lm) as vs) : xx_2 (zlv X ρ lm) (zh_lay as ++ List.replicate (n - (zh_lay as).length) (9, 0, 0)) (yEnt n vs) := by
  have h1 := zlay_ok h
  unfold yEnt
  rw [← xx_2_len h1]
  exact xx_2_app h1 (zrep_ok _)
/-- less known of the locals, less depth -/
theorem yOk_wk {g : yG} {M : xM} {d pc : Nat} {lv lv' : yL} {st : List Value} {ws : va_W} {K : yK} (hw : yWk lv lv') (h : yOk g M d pc lv' st ws K) : yOk g M d pc lv st ws K := by
  intro p e R s m args below meth c Q H locs ls ce sl hF hW hlv hce hsl hRT
  refine h p e R s m args below meth c Q H locs ls ce sl hF hW ⟨by rw [← xx_2_len hw]; exact hlv.1, hlv.2.1, hlv.2.2.1, fun i v hi => ?_⟩ hce hsl hRT
  have hl : i < lv.length := by rw [xx_2_len hw]; exact (List.getElem?_eq_some_iff.mp hi).1
  obtain ⟨o', q1, q2⟩ := xx_2_get hw (List.getElem?_eq_getElem hl)
  rw [hi] at q1
  cases q1
  rcases q2 with q | q
  · cases q
  · exact hlv.2.2.2 i v (by rw [List.getElem?_eq_getElem hl, ← q])
theorem yOk_d {g : yG} {M : xM} {d d' pc : Nat} {lv : yL} {st : List Value} {ws : va_W} {K : yK} (hd : d ≤ d') (h : yOk g M d pc lv st ws K) : yOk g M d' pc lv st ws K := by
  intro p e R s m args below meth c Q H locs ls ce sl hF hW hlv hce hsl hRT
  obtain ⟨f1, f2, f3, f4, f5, f6, f7, f8, f9, f10, f11⟩ := hF
  exact h p e R s m args below meth c Q H locs ls ce sl ⟨f1, f2, f3, f4, f5, f6, f7, f8, by omega, by omega, f11⟩ hW hlv hce hsl hRT
/-- what a call's run says -/
def zCaok (E : zEn) (d : Nat) (nx : zN) (ca : zKc) : Prop := ∀ (rt : zRt) (mi : Nat) (as rest lv : List zV) (h : zH) (sy : zS), ca rt mi as rest lv h sy = true → ∃ d' N, d = d' + 1 ∧ xMT[mi]? = some N ∧ zh_words rest ≤ 8 ∧ N.2.2.1 ≤ 40 ∧ (zh_lay as).length ≤ N.2.2.1 ∧ ∀ (ρ : List Int32) (lm : List Int64) (ws ws0 : va_W) (vs : List Value), zsat sy ρ → zsatL h.2 lm → zTw E.1 E.2.1.1 E.2.2.1 ws → zfa E.2.2.1 E.2.2.2.2.1 ρ lm ws h.1 → xx_2 (zv E.2.2.1 ρ lm) as vs → zag E.2.2.2.1.2 ws0 ws → zmd E.2.2.2.1.1 E.2.2.2.1.2 E.2.2.2.2.2 ρ → (∀ (q : xE) (r : List xE), N.2.2.2.2.2.2.2 = q :: r → q.1 = 0) → yOk E.1 N d' 0 (yEnt N.2.2.1 vs) [] ws (zAft E (fun r h' sy' => nx rt lv (zres r rest) h' sy') ρ lm ws0)
/-- a row's handler is right -/
def zHok (E : zEn) (N : xM) (d : Nat) (e : xE) (f : zD) : Prop := ∀ (nx : zN) (jp : Nat → zN) (ag : zN) (ca : zKc), zNok E N d (e.1 + e.2.1) nx → (∀ (j : Nat) (t : xE), N.2.2.2.2.2.2.2[j]? = some t → zNok E N d t.1 (jp j)) → zNok E N d e.1 ag → zCaok E d nx ca → zNok E N d e.1 (f nx jp ag ca)
def zRok (E : zEn) (N : xM) (d : Nat) (R : List zD) : Prop := R.length = N.2.2.2.2.2.2.2.length ∧ ∀ (j : Nat) (e : xE) (f : zD), N.2.2.2.2.2.2.2[j]? = some e → R[j]? = some f → zHok E N d e f
def zIok (E : zEn) (ih : zIt) : Prop := ∀ (mi : Nat) (N : xM), xMT[mi]? = some N → ∀ (d : Nat) (R : List zD), zRok E N d R → ∀ (j : Nat) (pc : Nat), (∀ e : xE, N.2.2.2.2.2.2.2[j]? = some e → e.1 = pc) → zNok E N d pc (ih d R (R.drop j))
theorem zcall_ok {E : zEn} (hJo : zJok E.1 E.2.1.2 E.2.2.2.2.1) (hSP : E.2.1.1.length ≤ 83) (hX : zXok E.2.1 E.2.2.1) {MP : List zMp} {CT : List zC} {ih : zIt} (hMP : ∀ (mi : Nat) (N : zMp), MP[mi]? = some N → ∃ M, xMT[mi]? = some M ∧ N.1 = M.2.2.1 ∧ ∀ d, zRok E M d N.2) (hCT : ∀ c ∈ CT, zCok E.1 E.2.1 E.2.2.2.2.1 c) (hI : zIok E ih) (hrows : ∀ (mi : Nat) (M : xM), xMT[mi]? = some M → M.2.2.2.2.2.2.2 ≠ []) (d : Nat) (nx : zN) : zCaok E d nx (zh_call MP E.2.1 E.2.2.2.1.1 CT ih d nx) := by
  intro rt mi as rest lv h sy hk
  cases d with
  | zero => cases hk
  | succ d' =>
    have h0 : (match xk_at MP mi with
      | none => false
      | some N => cond (and (Nat.ble (zh_words rest) 8) (Nat.ble N.1 40)) (zk_pad N.1 (zh_lay as) fun lv' => cond (zhas CT mi) (zcs E.2.1 E.2.2.2.1.1 CT mi d' lv' h sy fun r h' sy' => nx rt lv (zres r rest) h' sy') (ih d' N.2 N.2 (fun r h' sy' => nx rt lv (zres r rest) h' sy') lv' [] h sy)) false) = true := hk
    rw [xk_at_eq] at h0
    cases hN : MP[mi]? with
    | none => rw [hN] at h0; cases h0
    | some N =>
      rw [hN] at h0
      obtain ⟨M, m1, m2, m3⟩ := hMP mi N hN
      obtain ⟨c0, h1⟩ := zcd (show cond (and (Nat.ble (zh_words rest) 8) (Nat.ble N.1 40)) (zk_pad N.1 (zh_lay as) fun lv' => cond (zhas CT mi) (zcs E.2.1 E.2.2.2.1.1 CT mi d' lv' h sy fun r h' sy' => nx rt lv (zres r rest) h' sy') (ih d' N.2 N.2 (fun r h' sy' => nx rt lv (zres r rest) h' sy') lv' [] h sy)) false = true from h0) rfl
      have c1 := xan c0
      obtain ⟨hp, h2⟩ := zk_pad_ok h1
      rw [m2] at hp h2
      refine ⟨d', M, rfl, m1, Nat.le_of_ble_eq_true c1.1, by rw [← m2]; exact Nat.le_of_ble_eq_true c1.2, hp, fun ρ lm ws ws0 vs hs hl hT hF hv hA hm hz0 => ?_⟩
      have hent := zent_ok M.2.2.1 hv
      cases hh : zhas CT mi with
      | true =>
        rw [hh, cond_true] at h2
        obtain ⟨c, k1, k2⟩ := zk_any_ok h2
        have k3 := xan k2
        have k4 := xan k3.1
        have k5 := xan k4.2
        have e1 := Nat.eq_of_beq_eq_true k4.1
        have e2 := Nat.eq_of_beq_eq_true k5.1
        cases hrow : M.2.2.2.2.2.2.2 with
        | nil => exact absurd hrow (hrows mi M m1)
        | cons q r =>
          have hq0 := hz0 q r hrow
          obtain ⟨lvC', w1, w2⟩ := zuse_ok (c := c) (M := M) (e := q) hJo hSP hX (by rw [e1]; exact m1) (by rw [e2, hrow]; rfl) k3.2 hs hl hT hF hent hA hm (fun σ sy' ρ' ρt _ _ _ _ => hCT c k1 ρt)
          rw [hq0] at w2
          exact yOk_wk w1 (yOk_d (Nat.le_of_ble_eq_true k5.2) w2)
      | false =>
        rw [hh, cond_false] at h2
        have hn := hI mi M m1 d' N.2 (m3 d') 0 0 (fun e he => by
          cases hrow : M.2.2.2.2.2.2.2 with
          | nil => rw [hrow] at he; cases he
          | cons q r =>
            rw [hrow] at he
            have eq : q = e := Option.some.inj he
            rw [← eq]
            exact hz0 q r hrow)
        rw [List.drop_zero] at hn
        refine hn _ _ _ h sy h2 ρ lm _ _ ws ws0 _ ⟨hs, hl, hT, hF, hent, trivial⟩ hA hm (fun r h' sy' ρ' lm' ws' rv q1 q2 q3 q4 q5 q6 q7 q8 q9 => ?_)
        exact ⟨r, h', sy', ρ', lm', q1, q2, q3, q4, q5, q6, q7, q8, q9⟩
section ZC
variable {E : zEn} {M : xM} {d pc : Nat} {nx ag : zN} {jp : Nat → zN} {ca : zKc}
theorem zcont {rt : zRt} {lv rest : List zV} {ρ : List Int32} {lm : List Int64} {lvC : yL} {stC : List Value} {ws ws0 : va_W} {K : yK} {h : zH} {sy : zS} (hn : zNok E M d (pc + 3) nx) (hR : zRel E ρ lm lv rest h sy lvC stC ws) (hm : zmd E.2.2.2.1.1 E.2.2.2.1.2 E.2.2.2.2.2 ρ) (hT : zRT E rt ρ lm ws0 K) (r : Option Value) (ws' : va_W) (ha : zAft E (fun r h' sy' => nx rt lv (zres r rest) h' sy') ρ lm ws0 r ws') : yOk E.1 M d (pc + 3) lvC (r.toList ++ stC) ws' K := by
  obtain ⟨zr, h', sy', ρ', lm', q1, q2, q3, q4, q5, q6, q7, q8, q9⟩ := ha
  have hR0 : zRel E ρ' lm' lv rest h' sy' lvC stC ws' := ⟨q4, q5, q6, q7, xx_2_mono (fun _ _ q => zlv_mono q2 q3 q) hR.2.2.2.2.1, xx_2_mono (fun _ _ q => zv_mono q2 q3 q) hR.2.2.2.2.2⟩
  have hR' : zRel E ρ' lm' lv (zres zr rest) h' sy' lvC (r.toList ++ stC) ws' := by
    rcases q9 with ⟨rfl, rfl⟩ | ⟨a, v, rfl, rfl, hv⟩
    · exact hR0
    · exact zRel_push hv hR0
  exact hn rt lv _ h' sy' q1 ρ' lm' lvC _ ws' ws0 K hR' q8 (zmd_ext q2 hm) (zRT_ext q2 q3 hT)
theorem zRel_split {ρ : List Int32} {lm : List Int64} {lv st1 st2 : List zV} {h : zH} {sy : zS} {lvC : yL} {stC : List Value} {ws : va_W} (hR : zRel E ρ lm lv (st1 ++ st2) h sy lvC stC ws) : ∃ v1 v2, stC = v1 ++ v2 ∧ xx_2 (zv E.2.2.1 ρ lm) st1 v1 ∧ zRel E ρ lm lv st2 h sy lvC v2 ws := by
  obtain ⟨v1, v2, e, h1, h2⟩ := xx_2_split hR.2.2.2.2.2
  exact ⟨v1, v2, e, h1, hR.1, hR.2.1, hR.2.2.1, hR.2.2.2.1, hR.2.2.2.2.1, h2⟩
theorem zs_stat {mi idx n : Nat} {N : xM} (hd : decode M.2.1 pc = .ok (.invokestatic idx, 3)) (hm : xMT[mi]? = some N) (hN : xNf N) (h0 : ∀ (q : xE) (r : List xE), N.2.2.2.2.2.2.2 = q :: r → q.1 = 0) (hl : Cond.methodLink M.1.cls idx N.1 ∈ xTb ∨ ∃ host, Cond.methodLinkNest M.1.cls idx N.1 host ∈ xNW) (hstat : Cond.static N.1 ∈ xTb) (hN0 : N.2.2.2.2.1 = 0) (hN1 : N.2.2.2.2.2.1 = 0) (hna : n = N.2.2.2.2.2.2.1) (hn : zNok E M d (pc + 3) nx) (hca : zCaok E d nx ca) : zNok E M d pc (zd_stat n mi nx jp ag ca) := by
  intro rt lv st h sy hk ρ lm lvC stC ws ws0 K hR hA hJ hT
  obtain ⟨st1, st2, rfl, hlen, hk2⟩ := zk_take_ok hk
  rw [List.append_nil] at hk2
  obtain ⟨d', N', e1, e2, e3, e4, e5, e6⟩ := hca rt mi st1.reverse st2 lv h sy hk2
  subst e1
  rw [hm] at e2
  cases e2
  obtain ⟨v1, v2, rfl, r1, r2⟩ := zRel_split hR
  have hvs := xx_2_rev r1
  have hcal := e6 ρ lm ws ws0 v1.reverse hR.1 hR.2.1 hR.2.2.1 hR.2.2.2.1 hvs hA hJ h0
  have := yo_stat (lv := lvC) (st := v2) (vs := v1.reverse) (K := K) hd hN hl hstat hN0 hN1 e4 (by rw [List.length_reverse, ← xx_2_len r1, hlen]; exact hna) (by rw [zwords_ok r2.2.2.2.2.2]; exact e3) (by rw [← xx_2_len (zlay_ok hvs)]; exact e5) hcal (fun r ws' ha => zcont hn r2 hJ hT r ws' ha)
  rw [List.reverse_reverse] at this
  exact this
theorem zs_virt {nt mi ci idx n : Nat} {N : xM} (hnt : nt = xBY.length) (hno : ∀ (k : Nat) (o : Nat × List zT), zsp E.2.1.1 k = some (.inl o) → Nat.beq o.1 1000 = false) (hd : decode M.2.1 pc = .ok (.invokevirtual idx, 3)) (hm : xMT[mi]? = some N) (hN : xNf N) (h0 : ∀ (q : xE) (r : List xE), N.2.2.2.2.2.2.2 = q :: r → q.1 = 0) (hl : Cond.methodLink M.1.cls idx N.1 ∈ xTb ∨ ∃ host, Cond.methodLinkNest M.1.cls idx N.1 host ∈ xNW) (hinst : Cond.instanceMethod N.1 ∈ xTb) (hsel : Cond.selects N.1.cls N.1 N.1 ∈ xTb) (hci : (∃ q, xcl[ci]? = some q ∧ q.1 = N.1.cls) ∨ (ci = 1000 ∧ N.1.cls = "java/lang/String")) (hN0 : N.2.2.2.2.1 = 0) (hN1 : N.2.2.2.2.2.1 = 0) (hna : n = N.2.2.2.2.2.2.1) (hn : zNok E M d (pc + 3) nx) (hca : zCaok E d nx ca) : zNok E M d pc (zd_virt E.2.1 nt n mi ci nx jp ag ca) := by
  intro rt lv st h sy hk ρ lm lvC stC ws ws0 K hR hA hJ hT
  obtain ⟨st1, st2, rfl, hlen, hk2⟩ := zk_take_ok hk
  rw [List.append_nil] at hk2
  cases st2 with
  | nil => cases hk2
  | cons b rest =>
    have hk3 : cond (Nat.beq b.1 3) (zk_sp E.2.1.1 b.2.1 fun y => match y with
      | .inl o => cond (Nat.beq o.1 ci) (ca rt mi (b :: st1.reverse) rest lv h sy) false
      | .inr _ => false) (cond (and (Nat.beq b.1 7) (and (Nat.beq ci 1000) (Nat.ble (Nat.succ b.2.1) nt))) (ca rt mi (b :: st1.reverse) rest lv h sy) false) = true := hk2
    obtain ⟨v1, v2', rfl, r1, r2'⟩ := zRel_split hR
    obtain ⟨vb, v2, rfl, hb, r2⟩ := zRel_pop r2'
    have hvs := xx_2_rev r1
    have fin : ∀ q, vb = .ref q → yRec E.1 ws N q → ca rt mi (b :: st1.reverse) rest lv h sy = true → yOk E.1 M d pc lvC (v1 ++ vb :: v2) ws K := by
      intro q ev hrec hc
      subst ev
      obtain ⟨d', N', e1, e2, e3, e4, e5, e6⟩ := hca rt mi (b :: st1.reverse) rest lv h sy hc
      subst e1
      rw [hm] at e2
      cases e2
      have hvb : xx_2 (zv E.2.2.1 ρ lm) (b :: st1.reverse) (.ref q :: v1.reverse) := ⟨hb, hvs⟩
      have hcal := e6 ρ lm ws ws0 (.ref q :: v1.reverse) hR.1 hR.2.1 hR.2.2.1 hR.2.2.2.1 hvb hA hJ h0
      have := yo_virt (lv := lvC) (st := v2) (vs := v1.reverse) (K := K) hd hN hl hinst hsel hrec hN0 hN1 e4 (by rw [List.length_reverse, ← xx_2_len r1, hlen]; exact hna) (by rw [zwords_ok r2.2.2.2.2.2]; exact e3) (by rw [← xx_2_len (zlay_ok hvb)]; exact e5) hcal (fun r ws' ha => zcont hn r2 hJ hT r ws' ha)
      rw [List.reverse_reverse] at this
      exact this
    cases h3 : Nat.beq b.1 3 with
    | true =>
      rw [h3, cond_true] at hk3
      obtain ⟨y, y1, y2⟩ := zk_sp_ok hk3
      cases y with
      | inr r => cases y2
      | inl o =>
        obtain ⟨c1, y3⟩ := zcd y2 rfl
        obtain ⟨q, e, w1, ev⟩ := z3_ok h3 hb hR.2.2.1
        obtain ⟨⟨fs, ef, -⟩, -⟩ := hR.2.2.1.2.2 _ _ _ y1 w1
        have ef' : e = .inr (o.1, fs) := ef
        subst ef'
        have eo := Nat.eq_of_beq_eq_true c1
        refine fin q ev ?_ y3
        rcases hci with ⟨r, r1, r2⟩ | ⟨r1, r2⟩
        · exact Or.inl ⟨b.2.1, o.1, fs, r, w1, by rw [eo]; exact r1, r2⟩
        · rw [r1] at c1
          rw [hno _ _ y1] at c1
          cases c1
    | false =>
      rw [h3, cond_false] at hk3
      obtain ⟨c1, y3⟩ := zcd hk3 rfl
      have c2 := xan c1
      have c3 := xan c2.2
      have ev : vb = .ref (E.2.2.1.1.1.2.1 b.2.1) := zv_tag c2.1 hb
      have eX : E.2.2.1.1 = (E.1.1.2.1, E.1.1.2.2.2.2.1) := hR.2.2.1.1
      rw [eX] at ev
      refine fin _ ev ?_ y3
      rcases hci with ⟨r, r1, r2⟩ | ⟨r1, r2⟩
      · rw [Nat.eq_of_beq_eq_true c3.1, xcl_1000] at r1
        cases r1
      · exact Or.inr ⟨r2, b.2.1, by rw [← hnt]; exact Nat.le_of_ble_eq_true c3.2, rfl⟩
end ZC
