/-! arraycopy, Math, statics, cases -/
/-- is what one place may hold among what another may -/
def ztsub (t t' : zT) : Bool := and (Nat.beq t.1 0) (and (Nat.beq t'.1 0) (and (zle t'.2.1 t.2.1) (zle t.2.2 t'.2.2)))
/-- the kinds of n places, one by one -/
noncomputable def zcp (ra rb : FieldType × Nat × List zT) (n : Nat) : Nat → Nat → Bool := Nat.rec (motive := fun _ => Nat → Nat → Bool) (fun _ _ => true) (fun _ ih sp dp => cond (zk_nth ra.2.2 (Nat.mod sp ra.2.2.length) fun t => zk_nth rb.2.2 (Nat.mod dp rb.2.2.length) fun t' => ztsub t t') (ih (Nat.succ sp) (Nat.succ dp)) false) n
noncomputable def zh_words (l : List zV) : Nat := List.rec (motive := fun _ => Nat) 0 (fun a _ ih => Nat.add (cond (zc_l a) 2 1) ih) l
noncomputable def zd_copy (C : zCf) (md : zM) : zD := fun nx _ _ _ rt lv st h sy => match st with
  | n :: dp :: b :: sp :: a :: st' => cond (and (Nat.beq a.1 3) (and (Nat.beq b.1 3) (Nat.ble (zh_words st') 8))) (zk_rng sy n fun ln hn => zk_rng sy dp fun ld hd => zk_rng sy sp fun ls hs => cond (and (zle hn ln) (and (zle hd ld) (and (zle hs ls) (and (zle 0 ln) (and (zle 0 ld) (zle 0 ls)))))) (zk_sp C.1 a.2.1 fun ya => zk_sp C.1 b.2.1 fun yb => match ya with
      | .inl _ => false
      | .inr ra => match yb with
        | .inl _ => false
        | .inr rb => cond (and (Nat.beq (xh_kind ra.1) 0) (and (Nat.beq (xh_kind rb.1) 0) (and (zle (ls + ln) (.ofNat ra.2.1)) (and (zle (ld + ln) (.ofNat rb.2.1)) (and (zcp ra rb ln.toNat ls.toNat ld.toNat) (zmay sy md b.2.1 (0, 0, ld) (0, 0, ld + ln - 1))))))) (zk_fil (zkeep1 C.2 sy [(b.2.1, (0, 0, ld), (0, 0, ld + ln - 1))]) h.1 fun F => nx rt lv st' (F, h.2) sy) false) false) false
  | _ => false
noncomputable def zd_mm (g : zQ) : zD := fun nx _ _ _ rt lv st h sy => match st with
  | b :: a :: st' => cond (Nat.ble (zh_words st') 8) (zbin g a b sy fun v sy' => nx rt lv (v :: st') h sy') false
  | _ => false
theorem zwords_ok {X : zX} {ρ : List Int32} {lm : List Int64} : ∀ {l : List zV} {vs : List Value}, xx_2 (zv X ρ lm) l vs → (vs.map fun v => v.category).sum = zh_words l
  | [], vs, h => by
    rw [xx_2_nil h]
    rfl
  | a :: l, vs, h => by
    obtain ⟨v, vs', rfl, h1, h2⟩ := xx_2_cons h
    rw [List.map_cons, List.sum_cons, zwords_ok h2, zv_cat h1]
    show _ = Nat.add (cond (zc_l a) 2 1) (zh_words l)
    cases zc_l a <;> rfl
theorem zcp_ok {X : zX} {ra rb : FieldType × Nat × List zT} : ∀ {n sp dp : Nat}, zcp ra rb n sp dp = true → ∀ j, j < n → ∃ t t', ra.2.2[(sp + j) % ra.2.2.length]? = some t ∧ rb.2.2[(dp + j) % rb.2.2.length]? = some t' ∧ ∀ v, zfit X t v → zfit X t' v
  | 0, _, _, _, j, hj => absurd hj (Nat.not_lt_zero j)
  | n + 1, sp, dp, h, j, hj => by
    obtain ⟨h1, h2⟩ := zcd (show cond (zk_nth ra.2.2 (Nat.mod sp ra.2.2.length) fun t => zk_nth rb.2.2 (Nat.mod dp rb.2.2.length) fun t' => ztsub t t') (zcp ra rb n (Nat.succ sp) (Nat.succ dp)) false = true from h) rfl
    cases j with
    | zero =>
      obtain ⟨t, t1, t2⟩ := zk_nth_ok h1
      obtain ⟨t', t3, t4⟩ := zk_nth_ok t2
      refine ⟨t, t', t1, t3, fun v hv => ?_⟩
      have c1 := xan t4
      have c2 := xan c1.2
      have c3 := xan c2.2
      obtain ⟨a, b, c⟩ := t
      obtain ⟨a', b', c'⟩ := t'
      have ea : a = 0 := Nat.eq_of_beq_eq_true c1.1
      have ea' : a' = 0 := Nat.eq_of_beq_eq_true c2.1
      subst ea
      subst ea'
      obtain ⟨x, e1, e2, e3⟩ := hv
      have l1 : b' ≤ b := zle_ok.mp c3.1
      have l2 : c ≤ c' := zle_ok.mp c3.2
      exact ⟨x, e1, Int.le_trans l1 e2, Int.le_trans e3 l2⟩
    | succ j =>
      obtain ⟨t, t', q1, q2, q3⟩ := zcp_ok (X := X) h2 j (by omega)
      refine ⟨t, t', ?_, ?_, q3⟩
      · rw [show sp + (j + 1) = Nat.succ sp + j by omega]; exact q1
      · rw [show dp + (j + 1) = Nat.succ dp + j by omega]; exact q2
section ZY
variable {E : zEn} {M : xM} {d pc : Nat} {nx ag : zN} {jp : Nat → zN} {ca : zKc}
theorem zint {X : zX} {sy : zS} {ρ : List Int32} {lm : List Int64} {a : zV} {v : Value} {k : Int → Int → Bool} (h : zk_rng sy a k = true) (hs : zsat sy ρ) (hv : zv X ρ lm a v) : ∃ (x : Int32) (lo hi : Int), v = .int x ∧ lo ≤ x.toInt ∧ x.toInt ≤ hi ∧ k lo hi = true := by
  obtain ⟨x, lo, hi, h1, -, h2, h3, h4⟩ := zk_rng_ok h hs hv
  exact ⟨x, lo, hi, h1, h2, h3, h4⟩
set_option maxHeartbeats 1000000 in
theorem zs_copy {idx : Nat} (hJo : zJok E.1 E.2.1.2 E.2.2.2.2.1) (hd : decode M.2.1 pc = .ok (.invokestatic idx, 3)) (hl : Cond.methodLink M.1.cls idx arraycopyName ∈ xTb) (hnat : Cond.native arraycopyName ∈ xTb) (hst' : Cond.static arraycopyName ∈ xTb) (hini : Cond.initialized "java/lang/System" ∈ xTb) (hn : zNok E M d (pc + 3) nx) : zNok E M d pc (zd_copy E.2.1 E.2.2.2.1.1 nx jp ag ca) := by
  intro rt lv st h sy hk ρ lm lvC stC ws ws0 K hR hA hJ hT
  match st, hk, hR with
  | [], hk, _ => cases hk
  | [_], hk, _ => cases hk
  | [_, _], hk, _ => cases hk
  | [_, _, _], hk, _ => cases hk
  | [_, _, _, _], hk, _ => cases hk
  | n :: dp :: b :: sp :: a :: st, hk, hR =>
    obtain ⟨vn, s1, rfl, hvn, hR1⟩ := zRel_pop hR
    obtain ⟨vd, s2, rfl, hvd, hR2⟩ := zRel_pop hR1
    obtain ⟨vb, s3, rfl, hvb, hR3⟩ := zRel_pop hR2
    obtain ⟨vs, s4, rfl, hvs, hR4⟩ := zRel_pop hR3
    obtain ⟨va, s5, rfl, hva, hR5⟩ := zRel_pop hR4
    unfold zd_copy at hk
    dsimp only at hk
    obtain ⟨c0, h1⟩ := zcd hk rfl
    have c1 := xan c0
    have c2 := xan c1.2
    obtain ⟨xn, ln, hn', rfl, n1, n2, h2⟩ := zint h1 hR.1 hvn
    obtain ⟨xd, ld, hd', rfl, d1, d2, h3⟩ := zint h2 hR.1 hvd
    obtain ⟨xs, ls, hs', rfl, p1, p2, h4⟩ := zint h3 hR.1 hvs
    obtain ⟨c3, h5⟩ := zcd h4 rfl
    have e1 := xan c3
    have e2 := xan e1.2
    have e3 := xan e2.2
    have e4 := xan e3.2
    have e5 := xan e4.2
    have l1 := zle_ok.mp e1.1
    have l2 := zle_ok.mp e2.1
    have l3 := zle_ok.mp e3.1
    have l4 := zle_ok.mp e4.1
    have l5 := zle_ok.mp e5.1
    have l6 := zle_ok.mp e5.2
    obtain ⟨ya, ya1, ya2⟩ := zk_sp_ok h5
    obtain ⟨yb, yb1, yb2⟩ := zk_sp_ok ya2
    cases ya with
    | inl o => cases yb2
    | inr ra =>
      cases yb with
      | inl o => cases yb2
      | inr rb =>
        obtain ⟨c4, h6⟩ := zcd yb2 rfl
        rw [zk_fil_eq] at h6
        have f1 := xan c4
        have f2 := xan f1.2
        have f3 := xan f2.2
        have f4 := xan f3.2
        have f5 := xan f4.2
        have m1 : ls + ln ≤ (ra.2.1 : Int) := zle_ok.mp f3.1
        have m2 : ld + ln ≤ (rb.2.1 : Int) := zle_ok.mp f4.1
        obtain ⟨qa, ea, wa, rfl⟩ := z3_ok c1.1 hva hR.2.2.1
        obtain ⟨qb, eb, wb, rfl⟩ := z3_ok c2.1 hvb hR.2.2.1
        have ca := hR.2.2.1.2.2 _ _ _ ya1 wa
        have cb := hR.2.2.1.2.2 _ _ _ yb1 wb
        obtain ⟨cA, fa, ta, -, rfl⟩ := zcell_i ca (by rw [Nat.eq_of_beq_eq_true f1.1]; decide)
        obtain ⟨cB, fb, tb, tb2, rfl⟩ := zcell_i cb (by rw [Nat.eq_of_beq_eq_true f2.1]; decide)
        have kn : xn.toNatClampNeg = ln.toNat := by show xn.toInt.toNat = _; congr 1; omega
        have kd : xd.toNatClampNeg = ld.toNat := by show xd.toInt.toNat = _; congr 1; omega
        have ks : xs.toNatClampNeg = ls.toNat := by show xs.toInt.toNat = _; congr 1; omega
        have nneg : ∀ x : Int32, 0 ≤ x.toInt → ¬ x < 0 := fun x hx q => by
          have := Int32.lt_iff_toInt_lt.mp q
          rw [Int32.toInt_zero] at this
          omega
        have hag : zag (zP ρ [(b.2.1, (0, 0, ld), (0, 0, ld + ln - 1))]) ws (ws.set b.2.1 (qb, .inl (cB, rb.2.1, .inl (va_cpy fa fb ls.toNat ld.toNat ln.toNat)))) := by
          refine ⟨xaw_set wb, fun i p p' q1 q2 j hj => ?_⟩
          have hbl := (List.getElem?_eq_some_iff.mp wb).1
          by_cases hi : i = b.2.1
          · subst hi
            rw [List.getElem?_set_self hbl] at q2
            cases q2
            rw [wb] at q1
            cases q1
            show (if j < rb.2.1 then some (Value.int (va_cpy fa fb ls.toNat ld.toNat ln.toNat j)) else none) = (if j < rb.2.1 then some (Value.int (fb j)) else none)
            have : va_cpy fa fb ls.toNat ld.toNat ln.toNat j = fb j := by
              unfold va_cpy
              rw [if_neg]
              intro hq
              exact hj ⟨_, List.mem_singleton.mpr rfl, rfl, ld, ld + ln - 1, Or.inl ⟨rfl, rfl⟩, Or.inl ⟨rfl, rfl⟩, by omega, by omega⟩
            rw [this]
          · rw [List.getElem?_set_ne (fun e => hi e.symm), q1] at q2
            cases q2
            rfl
        have hTw : zTw E.1 E.2.1.1 E.2.2.1 (ws.set b.2.1 (qb, .inl (cB, rb.2.1, .inl (va_cpy fa fb ls.toNat ld.toNat ln.toNat)))) := by
          obtain ⟨t1, t2, t3⟩ := hR.2.2.1
          have hbl := (List.getElem?_eq_some_iff.mp wb).1
          refine ⟨t1, by rw [t2]; exact (xaw_set wb).symm, fun i y' p hy' hp => ?_⟩
          by_cases hi : i = b.2.1
          · subst hi
            rw [List.getElem?_set_self hbl] at hp
            cases hp
            rw [yb1] at hy'
            cases hy'
            refine zcell_of ⟨cB, tb, tb2, Or.inl ⟨_, rfl, by rw [Nat.eq_of_beq_eq_true f2.1]; decide⟩⟩ (fun j t v u1 u2 => ?_)
            obtain ⟨j1, rfl⟩ := zat_i u2
            unfold va_cpy
            by_cases hq : ld.toNat ≤ j ∧ j < ld.toNat + ln.toNat
            · rw [if_pos hq]
              obtain ⟨t0, t0', z1, z2, z3⟩ := zcp_ok (X := E.2.2.1) f5.1 (j - ld.toNat) (by omega)
              have u3 : zspec (.inr rb) j = rb.2.2[j % rb.2.2.length]? := if_pos j1
              rw [u3] at u1
              rw [show ld.toNat + (j - ld.toNat) = j by omega, u1] at z2
              cases z2
              apply z3
              have hlt : ls.toNat + (j - ld.toNat) < ra.2.1 := by omega
              refine ca.2 (ls.toNat + (j - ld.toNat)) t0 _ ?_ ?_
              · show (if _ < _ then _ else none) = _
                rw [if_pos hlt]
                exact z1
              · show (if _ < _ then some (Value.int (fa (ls.toNat + (j - ld.toNat)))) else none) = _
                rw [if_pos hlt]
            · rw [if_neg hq]
              exact cb.2 j t _ u1 (if_pos j1)
          · rw [List.getElem?_set_ne (fun e => hi e.symm)] at hp
            exact t3 _ _ _ hy' hp
        have hP : ∀ k j, zP ρ [(b.2.1, (0, 0, ld), (0, 0, ld + ln - 1))] k j → E.2.2.2.1.2 k j := by
          rintro k j ⟨m, hm, rfl, lo, hi, z1, z2, z3, z4⟩
          rw [List.mem_singleton.mp hm] at z1 z2 ⊢
          exact zmay_use hR.1 hJ f5.2 z1 z2 z3 z4
        have hF := zfa_keep hJo.1 hR.1 hR.2.2.2.1 hag
        have go := hn rt lv st _ sy h6 ρ lm lvC _ _ ws0 K ⟨hR.1, hR.2.1, hTw, hF, hR5.2.2.2.2⟩ (zag_tr hA (zag_sub hP hag)) hJ hT
        rw [xkind0 f1.1] at ta
        rw [xkind0 f2.1] at tb
        refine yo_copy hd hl hnat hst' hini wa wb ta tb (nneg _ (by omega)) (nneg _ (by omega)) (nneg _ (by omega)) (by rw [kn, ks]; omega) (by rw [kn, kd]; omega) (by rw [zwords_ok hR5.2.2.2.2.2]; exact Nat.le_of_ble_eq_true c2.2) ?_
        rw [kn, kd, ks]
        exact go
theorem zs_mm {g : zQ} {F : Int32 → Int32 → Int32} (hg : zgood F g) (hS : ∀ {lv : yL} {st : List Value} {ws : va_W} {K : yK} {x y : Int32}, (st.map fun v => v.category).sum ≤ 8 → yOk E.1 M d (pc + 3) lv (.int (F x y) :: st) ws K → yOk E.1 M d pc lv (.int y :: .int x :: st) ws K) (hn : zNok E M d (pc + 3) nx) : zNok E M d pc (zd_mm g nx jp ag ca) := by
  intro rt lv st h sy hk ρ lm lvC stC ws ws0 K hR hA hJ hT
  match st, hk, hR with
  | [], hk, _ => cases hk
  | [b], hk, _ => cases hk
  | b :: a :: st, hk, hR =>
    obtain ⟨vb, s1, rfl, hb, hR1⟩ := zRel_pop hR
    obtain ⟨va, s2, rfl, ha, hR2⟩ := zRel_pop hR1
    obtain ⟨c0, hk1⟩ := zcd (show cond (Nat.ble (zh_words st) 8) (zbin g a b sy fun v sy' => nx rt lv (v :: st) h sy') false = true from hk) rfl
    obtain ⟨x, y, c, sy', ρ', rfl, rfl, g1, g2, g3, g4⟩ := zOp2_bin hg E.2.2.1 _ _ _ _ ρ lm _ _ hk1 hR.1 ha hb
    exact hS (by rw [zwords_ok hR2.2.2.2.2.2]; exact Nat.le_of_ble_eq_true c0) (hn rt lv _ h sy' g1 ρ' lm lvC _ ws ws0 K (zRel_push (zv_of_zi g4) (zRel_ext g2 g3 hR2)) hA (zmd_ext g2 hJ) (zRT_ext g2 (xx_e_rf _) hT))
theorem zs_gets0 {idx : Nat} (hd : decode M.2.1 pc = .ok (.getstatic idx, 3)) (hl : Cond.fieldLink M.1.cls idx "java/lang/String" "COMPACT_STRINGS" "Z" ∈ xTb) (hn : zNok E M d (pc + 3) nx) : zNok E M d pc (zd_push (0, 0, 1) nx jp ag ca) :=
  zs_push (fun ρ lm lvC stC ws K _ => ⟨.int 1, ⟨_, rfl, by decide⟩, fun k => yo_gets0 hd hl k⟩) hn
/-- a symbol's numbers, one by one -/
noncomputable def zd_spl (n : Nat) (f : zD) : zD := fun nx jp ag ca rt lv st h sy => zk_rng sy (1, n, 0) fun lo hi => cond (zle hi lo) (f nx jp ag ca rt lv st h sy) (zk_all (xh_num lo (hi - lo + 1).toNat) fun z => zf z fun z' => zk_put sy (1, n, 0) (z', z') fun sy' => f nx jp ag ca rt lv st h sy')
theorem zs_spl {n : Nat} {f : zD} (hf : zNok E M d pc (f nx jp ag ca)) : zNok E M d pc (zd_spl n f nx jp ag ca) := by
  intro rt lv st h sy hk ρ lm lvC stC ws ws0 K hR hA hJ hT
  unfold zd_spl at hk
  obtain ⟨z, lo, hi, z1, z2, z3, z4⟩ := zk_rng_i hk hR.1
  cases hc : zle hi lo with
  | true =>
    rw [hc, cond_true] at z4
    exact hf rt lv st h sy z4 ρ lm lvC stC ws ws0 K hR hA hJ hT
  | false =>
    rw [hc, cond_false] at z4
    have := zk_all_ok z4 z (xnum_mem _ _ _ z2 (by omega))
    rw [zf_eq] at this
    obtain ⟨sy', k1, k2⟩ := zk_put_ok this hR.1 z1 (Int.le_refl _) (Int.le_refl _)
    exact hf rt lv st h sy' k1 ρ lm lvC stC ws ws0 K (zRel_sy k2 hR) hA hJ hT
end ZY
