/-! a contract put to use -/
theorem zk_push_of {α : Type} {x : α} : ∀ {l : List α} {n : Nat} {k : List α → Nat → Bool}, k (l ++ [x]) (n + l.length) = true → zk_push l x n k = true
  | [], n, k, h => by simpa [zk_push] using h
  | a :: l, n, k, h => by
    show zk_push l x (Nat.succ n) (fun l' m => k (a :: l') m) = true
    refine zk_push_of ?_
    have e : Nat.succ n + l.length = n + (a :: l).length := by simp; omega
    rw [e]
    simpa using h
theorem zk_nth_of {α : Type} {k : α → Bool} : ∀ {l : List α} {n : Nat} {a : α}, l[n]? = some a → k a = true → zk_nth l n k = true
  | [], _, _, h, _ => by simp at h
  | b :: _, 0, a, h, hk => by
    have : b = a := Option.some.inj h
    rw [← this] at hk
    exact hk
  | b :: l, n + 1, a, h, hk => zk_nth_of (l := l) (n := n) (by simpa using h) hk
noncomputable def zo_p (e : zI) (σ : List zV) (sy : zS) (k : List zV → zS → Bool) : Bool := zk_push sy e 0 fun sy' n => zk_push σ (1, n, 0) 0 fun σ' _ => k σ' sy'
/-- an end's own symbols -/
noncomputable def zo_s (es : zS) : List zV → zS → (List zV → zS → Bool) → Bool := List.rec (motive := fun _ => List zV → zS → (List zV → zS → Bool) → Bool) (fun σ sy k => k σ sy) (fun e _ ih σ sy k => cond (Nat.beq e.2.2.1 0) (zo_p (e.1, e.2.1, 0, 0) σ sy fun σ' sy' => ih σ' sy' k) (zk_nth σ (Nat.pred e.2.2.1) fun b => cond (Nat.beq b.1 1) (zf (e.2.2.2 + b.2.2) fun q => zo_p (e.1, e.2.1, Nat.succ b.2.1, q) σ sy fun σ' sy' => ih σ' sy' k) (zo_p (e.1, e.2.1, 0, 0) σ sy fun σ' sy' => ih σ' sy' k))) es
noncomputable def zo_l (es : List zJ) : List zV → List zJ → (List zV → List zJ → Bool) → Bool := List.rec (motive := fun _ => List zV → List zJ → (List zV → List zJ → Bool) → Bool) (fun τ ly k => k τ ly) (fun e _ ih τ ly k => zk_push ly e 0 fun ly' n => zk_push τ (5, n, 0) 0 fun τ' _ => ih τ' ly' k) es
/-- what an end says of the template's own symbols: between which numbers, not less than another -/
noncomputable def zo_k (es : zS) (τs : List zV) : List zV → zS → (zS → Bool) → Bool := List.rec (motive := fun _ => List zV → zS → (zS → Bool) → Bool) (fun _ sy k => k sy) (fun e _ ih bs sy k => match bs with
  | [] => k sy
  | b :: bs' => zr_cut sy b e.1 e.2.1 fun sy' => cond (Nat.beq e.2.2.1 0) (ih bs' sy' k) (zk_nth τs (Nat.pred e.2.2.1) fun p => zk_link sy' p b e.2.2.2 fun sy2 => ih bs' sy2 k)) es
theorem zo_k_ok {so : zS} {ρo ρ : List Int32} {σ : List zV} (hso : zsat so ρo) (hσ : zsm ρ σ ρo) : ∀ {es : zS} {bs : List zV} {n : Nat} {sy : zS} {k : zS → Bool}, zo_k es σ bs sy k = true → zsat sy ρ → (∀ i e, es[i]? = some e → so[n + i]? = some e) → (∀ i b, bs[i]? = some b → σ[n + i]? = some b) → ∃ sy', k sy' = true ∧ zsat sy' ρ
  | [], bs, n, sy, k, h, hs, _, _ => ⟨sy, h, hs⟩
  | e :: es, [], n, sy, k, h, hs, _, _ => ⟨sy, h, hs⟩
  | e :: es, b :: bs, n, sy, k, h, hs, he, hb => by
    have h' : (zr_cut sy b e.1 e.2.1 fun sy' => cond (Nat.beq e.2.2.1 0) (zo_k es σ bs sy' k) (zk_nth σ (Nat.pred e.2.2.1) fun p => zk_link sy' p b e.2.2.2 fun sy2 => zo_k es σ bs sy2 k)) = true := h
    have e0 := he 0 e rfl
    have b0 := hb 0 b rfl
    rw [Nat.add_zero] at e0 b0
    obtain ⟨x, x1, x2⟩ := xx_2_get hσ b0
    obtain ⟨c1, c2, -, c3⟩ := hso.2 _ _ _ e0 x1
    obtain ⟨sy1, g1, g2⟩ := zr_cut_ok h' hs x2 c1 c2
    have he' : ∀ i e', es[i]? = some e' → so[n + 1 + i]? = some e' := fun i e' q => by
      rw [show n + 1 + i = n + (i + 1) by omega]
      exact he (i + 1) e' (by simpa using q)
    have hb' : ∀ i b', bs[i]? = some b' → σ[n + 1 + i]? = some b' := fun i b' q => by
      rw [show n + 1 + i = n + (i + 1) by omega]
      exact hb (i + 1) b' (by simpa using q)
    cases hz : Nat.beq e.2.2.1 0 with
    | true =>
      rw [hz, cond_true] at g1
      exact zo_k_ok hso hσ g1 g2 he' hb'
    | false =>
      rw [hz, cond_false] at g1
      obtain ⟨p, p1, p2⟩ := zk_nth_ok g1
      obtain ⟨y, y1, y2⟩ := xx_2_get hσ p1
      have hp : e.2.2.1 = Nat.pred e.2.2.1 + 1 := by
        cases hq : e.2.2.1 with
        | zero => rw [hq] at hz; cases hz
        | succ m => rfl
      obtain ⟨sy2, k1, k2⟩ := zk_link_ok p2 g2 y2 x2 (c3 _ y hp y1)
      exact zo_k_ok hso hσ k1 k2 he' hb'
noncomputable def zout (C : zCf) (σ τ : List zV) (mdc : zM) (o : zO) (h : zH) (sy : zS) (k : zRt) : Bool := zo_s (xk_drop σ.length o.2.2) σ sy fun σ' sy0 => zo_k o.2.2 σ' σ sy0 fun sy' => zo_l (xk_drop τ.length o.2.1.2) τ h.2 fun τ' ly' => zk_fil (zkeep1 C.2 sy' mdc) h.1 fun Fk => zrenF σ' τ' o.2.1.1 Fk fun F' => match o.1 with
  | none => k none (F', ly') sy'
  | some a => zren σ' τ' a fun a' => k (some a') (F', ly') sy'
noncomputable def zuse (C : zCf) (md : zM) (c : zC) (as : List zV) (h : zH) (sy : zS) (chk : List zV → zS → Bool) (k : zRt) : Bool := zmvs sy c.2.2.2.1 as [] [] fun σ0 τ0 => zmf C c.2.2.2.2.1.1 σ0 τ0 h sy fun σ τ h' sy' => cond (and (zms σ sy' c.2.2.2.2.2.1 σ) (and (zml h'.2 c.2.2.2.2.1.2 τ) (chk σ sy'))) (zrenM σ τ c.2.2.2.2.2.2.1 [] fun mdc => cond (zsub sy' mdc md) (zk_all c.2.2.2.2.2.2.2.1 fun o => zout C σ τ mdc o h' sy' k) false) false
/-! what it gives -/
def zEnd (g : yG) (C : zCf) (J : zJp) (X : zX) (c : zC) (ρ : List Int32) (lm : List Int64) (ws : va_W) (r : Option Value) (ws' : va_W) : Prop := ∃ o ∈ c.2.2.2.2.2.2.2.1, ∃ ρ' lm', xx_e ρ ρ' ∧ xx_e lm lm' ∧ zsat o.2.2 ρ' ∧ zsatL o.2.1.2 lm' ∧ zTw g C.1 X ws' ∧ zfa X J ρ' lm' ws' o.2.1.1 ∧ zag (zP ρ c.2.2.2.2.2.2.1) ws ws' ∧ zret X ρ' lm' o.1 r
def zXok (C : zCf) (X : zX) : Prop := ∀ (k : Nat) (y : zY), zsp C.1 k = some y → k < X.2.length
/-- a contract holds, its symbols being these -/
def zCokA (g : yG) (C : zCf) (J : zJp) (c : zC) (ρ : List Int32) : Prop := ∀ (M : xM) (e : xE), xMT[c.1]? = some M → M.2.2.2.2.2.2.2[c.2.1]? = some e → ∀ (X : zX) (ws : va_W) (lm : List Int64) (lvC : yL) (K : yK), zXok C X → zsat c.2.2.2.2.2.1 ρ → zsatL c.2.2.2.2.1.2 lm → zTw g C.1 X ws → zfa X J ρ lm ws c.2.2.2.2.1.1 → xx_2 (zlv X ρ lm) c.2.2.2.1 lvC → (∀ r ws', zEnd g C J X c ρ lm ws r ws' → K r ws') → yOk g M c.2.2.1 e.1 lvC [] ws K
def zCok (g : yG) (C : zCf) (J : zJp) (c : zC) : Prop := ∀ ρ, zCokA g C J c ρ
theorem zrenF_ok {X : zX} {J : zJp} {ρ ρt : List Int32} {lm lt : List Int64} {σ τ : List zV} {ws : va_W} (hσ : zsm ρ σ ρt) (hτ : ztm X ρ lm τ lt) : ∀ {F acc : zF} {k : zF → Bool}, zrenF σ τ F acc k = true → zfa X J ρt lt ws F → zfa X J ρ lm ws acc → ∃ F', k F' = true ∧ zfa X J ρ lm ws F'
  | [], acc, k, h, _, ha => ⟨acc, h, ha⟩
  | f :: F, acc, k, h, hF, ha => by
    obtain ⟨a, a1, a2, a3, a4⟩ := zren_ok (show zren σ τ f.2.1 (fun a => zren σ τ f.2.2 fun b => zrenF σ τ F ((f.1, a, b) :: acc) k) = true from h) hσ hτ
    obtain ⟨b, b1, b2, b3, b4⟩ := zren_ok a1 hσ hτ
    refine zrenF_ok hσ hτ b1 (fun q hq => hF q (List.mem_cons_of_mem _ hq)) (fun q hq => ?_)
    rcases List.mem_cons.mp hq with rfl | hq
    · have h0 := hF f List.mem_cons_self
      refine ⟨fun hq => ?_, fun hq => ?_⟩
      · obtain ⟨z, w, z1, w1, j1⟩ := h0.1 hq
        exact ⟨z, w, a2 z z1, b2 w w1, j1⟩
      · obtain ⟨p, v, z, p1, z1, z2, z3, v1⟩ := h0.2 hq
        exact ⟨p, v, z, p1, a2 z z1, z2, z3, b4 v v1⟩
    · exact ha q hq
theorem zrenM_ok {X : zX} {ρ ρt : List Int32} {lm lt : List Int64} {σ τ : List zV} (hσ : zsm ρ σ ρt) (hτ : ztm X ρ lm τ lt) : ∀ {md acc : zM} {k : zM → Bool}, zrenM σ τ md acc k = true → ∃ mdc, k mdc = true ∧ (∀ m ∈ acc, m ∈ mdc) ∧ ∀ kk j, zP ρt md kk j → zP ρ mdc kk j
  | [], acc, k, h => ⟨acc, h, fun _ q => q, fun kk j q => by obtain ⟨m, hm, -⟩ := q; exact absurd hm List.not_mem_nil⟩
  | f :: md, acc, k, h => by
    obtain ⟨a, a1, a2, a3, a4⟩ := zren_ok (show zren σ τ f.2.1 (fun a => zren σ τ f.2.2 fun b => zrenM σ τ md ((f.1, a, b) :: acc) k) = true from h) hσ hτ
    obtain ⟨b, b1, b2, b3, b4⟩ := zren_ok a1 hσ hτ
    obtain ⟨mdc, g1, g2, g3⟩ := zrenM_ok hσ hτ b1
    refine ⟨mdc, g1, fun m hm => g2 m (List.mem_cons_of_mem _ hm), fun kk j q => ?_⟩
    obtain ⟨m, hm, e, lo, hi, q1, q2, q3, q4⟩ := q
    rcases List.mem_cons.mp hm with rfl | hm
    · exact ⟨_, g2 _ List.mem_cons_self, e, lo, hi, a2 _ q1, b2 _ q2, q3, q4⟩
    · exact g3 kk j ⟨m, hm, e, lo, hi, q1, q2, q3, q4⟩
theorem zo_p_ok {ρ : List Int32} {σ : List zV} {sy : zS} {e : zI} {k : List zV → zS → Bool} {ρt : List Int32} {x : Int32} (h : zo_p e σ sy k = true) (hs : zsat sy ρ) (hσ : zsm ρ σ ρt) (h1 : e.1 ≤ x.toInt) (h2 : x.toInt ≤ e.2.1) (h4 : e.2.2.1 ≤ sy.length) (h3 : ∀ (p : Nat) (y : Int32), e.2.2.1 = p + 1 → ρ[p]? = some y → y.toInt + e.2.2.2 ≤ x.toInt) : ∃ σ' sy', k σ' sy' = true ∧ zsat sy' (ρ ++ [x]) ∧ zsm (ρ ++ [x]) σ' (ρt ++ [x]) := by
  have q1 := zk_push_ok h
  have q2 := zk_push_ok q1
  refine ⟨_, _, q2, zsat_push hs h1 h2 h4 h3, xx_2_app (zsm_mono (xx_e_one _ _) hσ) ⟨Or.inr ⟨rfl, x, ?_, ?_⟩, trivial⟩⟩
  · show (ρ ++ [x])[0 + sy.length]? = some x
    rw [Nat.zero_add, hs.1]
    simp
  · show x.toInt = x.toInt + 0
    omega
theorem ztake_succ {α : Type} {l : List α} {n : Nat} {x : α} (h : l[n]? = some x) : l.take (n + 1) = l.take n ++ [x] := by
  have hn := (List.getElem?_eq_some_iff.mp h).1
  rw [List.take_succ_eq_append_getElem hn]
  congr 2
  exact (List.getElem?_eq_some_iff.mp h).2
theorem zo_s_ok {so : zS} {ρo : List Int32} (hso : zsat so ρo) : ∀ {es : zS} {n : Nat} {σ : List zV} {sy : zS} {k : List zV → zS → Bool} {ρ : List Int32}, zo_s es σ sy k = true → es = so.drop n → zsat sy ρ → zsm ρ σ (ρo.take n) → ∃ σ' sy' ρ', k σ' sy' = true ∧ xx_e ρ ρ' ∧ zsat sy' ρ' ∧ zsm ρ' σ' ρo
  | [], n, σ, sy, k, ρ, h, he, hs, hσ => by
    have hn : so.length ≤ n := List.drop_eq_nil_iff.mp he.symm
    rw [List.take_of_length_le (by rw [← hso.1]; exact hn)] at hσ
    exact ⟨σ, sy, ρ, h, xx_e_rf _, hs, hσ⟩
  | e :: es, n, σ, sy, k, ρ, h, he, hs, hσ => by
    have hn : so[n]? = some e := by
      have : (so.drop n)[0]? = some e := by rw [← he]; rfl
      rw [List.getElem?_drop, Nat.add_zero] at this
      exact this
    have he' : es = so.drop (n + 1) := by
      have := congrArg (List.drop 1) he
      rw [List.drop_drop] at this
      exact this
    obtain ⟨x, hx⟩ := zsat_at hso hn
    obtain ⟨b1, b2, b3, b4⟩ := hso.2 _ _ _ hn hx
    have go : ∀ (e' : zI), (zo_p e' σ sy fun σ' sy' => zo_s es σ' sy' k) = true → e'.1 = e.1 → e'.2.1 = e.2.1 → e'.2.2.1 ≤ sy.length → (∀ (p : Nat) (y : Int32), e'.2.2.1 = p + 1 → ρ[p]? = some y → y.toInt + e'.2.2.2 ≤ x.toInt) → ∃ σ' sy' ρ', k σ' sy' = true ∧ xx_e ρ ρ' ∧ zsat sy' ρ' ∧ zsm ρ' σ' ρo := by
      intro e' hq q1 q2 q3 q4
      obtain ⟨σ1, sy1, r1, r2, r3⟩ := zo_p_ok (x := x) hq hs hσ (by rw [q1]; exact b1) (by rw [q2]; exact b2) q3 q4
      rw [← ztake_succ hx] at r3
      obtain ⟨σ', sy', ρ', s1, s2, s3, s4⟩ := zo_s_ok hso r1 he' r2 r3
      exact ⟨σ', sy', ρ', s1, xx_e_tr (xx_e_one _ _) s2, s3, s4⟩
    have h' : cond (Nat.beq e.2.2.1 0) (zo_p (e.1, e.2.1, 0, 0) σ sy fun σ' sy' => zo_s es σ' sy' k) (zk_nth σ (Nat.pred e.2.2.1) fun b => cond (Nat.beq b.1 1) (zf (e.2.2.2 + b.2.2) fun q => zo_p (e.1, e.2.1, Nat.succ b.2.1, q) σ sy fun σ' sy' => zo_s es σ' sy' k) (zo_p (e.1, e.2.1, 0, 0) σ sy fun σ' sy' => zo_s es σ' sy' k)) = true := h
    cases hz : Nat.beq e.2.2.1 0 with
    | true =>
      rw [hz, cond_true] at h'
      exact go _ h' rfl rfl (Nat.zero_le _) (fun p y q => by cases q)
    | false =>
      rw [hz, cond_false] at h'
      obtain ⟨b, c1, c2⟩ := zk_nth_ok h'
      cases h1 : Nat.beq b.1 1 with
      | false =>
        rw [h1, cond_false] at c2
        exact go _ c2 rfl rfl (Nat.zero_le _) (fun p y q => by cases q)
      | true =>
        rw [h1, cond_true, zf_eq] at c2
        obtain ⟨y, y1, y2⟩ := xx_2_get hσ c1
        obtain ⟨u, u1, u2⟩ := zi_1 h1 y2
        have hp : e.2.2.1 = Nat.pred e.2.2.1 + 1 := by
          cases he : e.2.2.1 with
          | zero => rw [he] at hz; cases hz
          | succ m => rfl
        have y1' : ρo[Nat.pred e.2.2.1]? = some y := by
          have hlt : Nat.pred e.2.2.1 < n := by
            have := (List.getElem?_eq_some_iff.mp y1).1
            rw [List.length_take] at this
            omega
          rw [List.getElem?_take_of_lt hlt] at y1
          exact y1
        have hlink := b4 _ y hp y1'
        refine go _ c2 rfl rfl ?_ (fun p w q1 q2 => ?_)
        · show b.2.1 + 1 ≤ sy.length
          rw [hs.1]
          exact (List.getElem?_eq_some_iff.mp u1).1
        · have e1 : b.2.1 = p := by
            have : b.2.1 + 1 = p + 1 := q1
            omega
          subst e1
          rw [u1] at q2
          cases q2
          show u.toInt + (e.2.2.2 + b.2.2) ≤ x.toInt
          omega
/-- the names only become more -/
theorem zo_s_ok' {so : zS} {ρo : List Int32} (hso : zsat so ρo) {es : zS} {n : Nat} {σ : List zV} {sy : zS} {k : List zV → zS → Bool} {ρ : List Int32} (h : zo_s es σ sy k = true) (he : es = so.drop n) (hs : zsat sy ρ) (hσ : zsm ρ σ (ρo.take n)) : ∃ σ' sy' ρ', k σ' sy' = true ∧ xx_e ρ ρ' ∧ zsat sy' ρ' ∧ zsm ρ' σ' ρo ∧ xx_e σ σ' := by
  have key : zo_s es σ sy (fun σ' sy' => and (k σ' sy') (decide (σ'.take σ.length = σ))) = true := by
    have gen : ∀ (es : zS) (σ1 : List zV) (sy1 : zS), zo_s es σ1 sy1 k = true → σ1.take σ.length = σ → zo_s es σ1 sy1 (fun σ' sy' => and (k σ' sy') (decide (σ'.take σ.length = σ))) = true := by
      intro es
      induction es with
      | nil =>
        intro σ1 sy1 h1 h2
        show and (k σ1 sy1) (decide (σ1.take σ.length = σ)) = true
        rw [show k σ1 sy1 = true from h1, decide_eq_true h2]
        rfl
      | cons e es ih =>
        intro σ1 sy1 h1 h2
        have hl : σ.length ≤ σ1.length := by
          have := congrArg List.length h2
          rw [List.length_take] at this
          omega
        have go : ∀ e' : zI, (zo_p e' σ1 sy1 fun σ' sy' => zo_s es σ' sy' k) = true → (zo_p e' σ1 sy1 fun σ' sy' => zo_s es σ' sy' (fun σ' sy' => and (k σ' sy') (decide (σ'.take σ.length = σ)))) = true := by
          intro e' hq
          have q1 := zk_push_ok hq
          have q2 := zk_push_ok q1
          have q3 := ih _ _ q2 (by rw [List.take_append_of_le_length hl]; exact h2)
          exact zk_push_of (zk_push_of q3)
        have h' : cond (Nat.beq e.2.2.1 0) (zo_p (e.1, e.2.1, 0, 0) σ1 sy1 fun σ' sy' => zo_s es σ' sy' k) (zk_nth σ1 (Nat.pred e.2.2.1) fun b => cond (Nat.beq b.1 1) (zf (e.2.2.2 + b.2.2) fun q => zo_p (e.1, e.2.1, Nat.succ b.2.1, q) σ1 sy1 fun σ' sy' => zo_s es σ' sy' k) (zo_p (e.1, e.2.1, 0, 0) σ1 sy1 fun σ' sy' => zo_s es σ' sy' k)) = true := h1
        show cond (Nat.beq e.2.2.1 0) (zo_p (e.1, e.2.1, 0, 0) σ1 sy1 fun σ' sy' => zo_s es σ' sy' _) (zk_nth σ1 (Nat.pred e.2.2.1) fun b => cond (Nat.beq b.1 1) (zf (e.2.2.2 + b.2.2) fun q => zo_p (e.1, e.2.1, Nat.succ b.2.1, q) σ1 sy1 fun σ' sy' => zo_s es σ' sy' _) (zo_p (e.1, e.2.1, 0, 0) σ1 sy1 fun σ' sy' => zo_s es σ' sy' _)) = true
        cases hz : Nat.beq e.2.2.1 0 with
        | true =>
          rw [hz, cond_true] at h'
          rw [cond_true]
          exact go _ h'
        | false =>
          rw [hz, cond_false] at h'
          rw [cond_false]
          obtain ⟨b, c1, c2⟩ := zk_nth_ok h'
          refine zk_nth_of c1 ?_
          cases hb : Nat.beq b.1 1 with
          | false =>
            rw [hb, cond_false] at c2
            rw [cond_false]
            exact go _ c2
          | true =>
            rw [hb, cond_true, zf_eq] at c2
            rw [cond_true, zf_eq]
            exact go _ c2
    exact gen es σ sy h (List.take_length)
  obtain ⟨σ', sy', ρ', g1, g2, g3, g4⟩ := zo_s_ok hso key he hs hσ
  have c := xan g1
  have c2 : σ'.take σ.length = σ := of_decide_eq_true c.2
  exact ⟨σ', sy', ρ', c.1, g2, g3, g4, σ'.drop σ.length, by
    have h := List.take_append_drop σ.length σ'
    rw [c2] at h
    exact h.symm⟩
theorem zo_l_ok {X : zX} {lo : List zJ} {lmo : List Int64} (hlo : zsatL lo lmo) : ∀ {es : List zJ} {n : Nat} {τ : List zV} {ly : List zJ} {k : List zV → List zJ → Bool} {ρ : List Int32} {lm : List Int64}, zo_l es τ ly k = true → es = lo.drop n → zsatL ly lm → ztm X ρ lm τ (lmo.take n) → ∃ τ' ly' lm', k τ' ly' = true ∧ xx_e lm lm' ∧ zsatL ly' lm' ∧ ztm X ρ lm' τ' lmo
  | [], n, τ, ly, k, ρ, lm, h, he, hl, hτ => by
    have hn : lo.length ≤ n := List.drop_eq_nil_iff.mp he.symm
    rw [List.take_of_length_le (by rw [← xx_2_len hlo]; exact hn)] at hτ
    exact ⟨τ, ly, lm, h, xx_e_rf _, hl, hτ⟩
  | e :: es, n, τ, ly, k, ρ, lm, h, he, hl, hτ => by
    have hn : lo[n]? = some e := by
      have : (lo.drop n)[0]? = some e := by rw [← he]; rfl
      rw [List.getElem?_drop, Nat.add_zero] at this
      exact this
    have he' : es = lo.drop (n + 1) := by
      have := congrArg (List.drop 1) he
      rw [List.drop_drop] at this
      exact this
    obtain ⟨x, hx, hx2⟩ := xx_2_get hlo hn
    have q1 := zk_push_ok (show (zk_push ly e 0 fun ly' n => zk_push τ (5, n, 0) 0 fun τ' _ => zo_l es τ' ly' k) = true from h)
    have q2 := zk_push_ok q1
    have hτ2 : ztm X ρ (lm ++ [x]) (τ ++ [(5, 0 + ly.length, 0)]) (lmo.take (n + 1)) := by
      rw [ztake_succ hx]
      refine xx_2_app (ztm_mono (xx_e_rf _) (xx_e_one _ _) hτ) ⟨⟨x, ?_, rfl⟩, trivial⟩
      show (lm ++ [x])[0 + ly.length]? = some x
      rw [Nat.zero_add, xx_2_len hl]
      simp
    obtain ⟨τ', ly', lm', s1, s2, s3, s4⟩ := zo_l_ok hlo q2 he' (show zsatL (ly ++ [e]) (lm ++ [x]) from xx_2_app hl ⟨hx2, trivial⟩) hτ2
    exact ⟨τ', ly', lm', s1, xx_e_tr (xx_e_one _ _) s2, s3, s4⟩
theorem ztake_e {α : Type} {l l' : List α} (h : xx_e l l') : l'.take l.length = l := by
  obtain ⟨t, rfl⟩ := h
  simp
/-- what is known behind a call, or at the run's end -/
def zAft (E : zEn) (k : zRt) (ρ : List Int32) (lm : List Int64) (ws0 : va_W) : yK := fun r ws' => ∃ zr h' sy' ρ' lm', k zr h' sy' = true ∧ xx_e ρ ρ' ∧ xx_e lm lm' ∧ zsat sy' ρ' ∧ zsatL h'.2 lm' ∧ zTw E.1 E.2.1.1 E.2.2.1 ws' ∧ zfa E.2.2.1 E.2.2.2.2.1 ρ' lm' ws' h'.1 ∧ zag E.2.2.2.1.2 ws0 ws' ∧ zret E.2.2.1 ρ' lm' zr r
set_option maxHeartbeats 1000000 in
theorem zuse_ok {E : zEn} (hJo : zJok E.1 E.2.1.2 E.2.2.2.2.1) (hSP : E.2.1.1.length ≤ 83) (hX : zXok E.2.1 E.2.2.1) {c : zC} {M : xM} {e : xE} (hM : xMT[c.1]? = some M) (he : M.2.2.2.2.2.2.2[c.2.1]? = some e) {as : List zV} {h : zH} {sy : zS} {chk : List zV → zS → Bool} {k : zRt} (hk : zuse E.2.1 E.2.2.2.1.1 c as h sy chk k = true) {ρ : List Int32} {lm : List Int64} {ws ws0 : va_W} {lvC : yL} (hs : zsat sy ρ) (hl : zsatL h.2 lm) (hT : zTw E.1 E.2.1.1 E.2.2.1 ws) (hF : zfa E.2.2.1 E.2.2.2.2.1 ρ lm ws h.1) (hv : xx_2 (zlv E.2.2.1 ρ lm) as lvC) (hA : zag E.2.2.2.1.2 ws0 ws) (hm : zmd E.2.2.2.1.1 E.2.2.2.1.2 E.2.2.2.2.2 ρ)
    (hC : ∀ σ sy' ρ' ρt, chk σ sy' = true → xx_e ρ ρ' → zsat sy' ρ' → zsm ρ' σ ρt → zCokA E.1 E.2.1 E.2.2.2.2.1 c ρt) : ∃ lvC', yWk lvC lvC' ∧ yOk E.1 M c.2.2.1 e.1 lvC' [] ws (zAft E k ρ lm ws0) := by
  obtain ⟨σ0, τ0, ρ0, lt0, lvC', m1, m2, m3, m4, m5, m6, m7⟩ := zmvs_ok (X := E.2.2.1) (lm := lm) (ρt := []) (lt := []) hs hk trivial trivial hv
  have hlen : ∀ (k : Nat) (y : zY), zsp E.2.1.1 k = some y → k < ws.length := fun k y hy => by
    have := hX k y hy
    rw [hT.2.1, List.length_map] at this
    exact this
  obtain ⟨σ, τ, h', sy', ρ', ρt, lm', lt, n1, n2, n3, n4, n5, n6, n7, n8, n9, n10, n11⟩ := zmf_ok hSP hT hlen m1 hs hl hF m2 m3
  obtain ⟨c1, n12⟩ := zcd n1 rfl
  have c2 := xan c1
  have c3 := xan c2.2
  have hst := zms_sat c2.1 n4 n7
  have hlt := zml_sat n5 c3.1 n8
  obtain ⟨mdc, r1, -, r3⟩ := zrenM_ok n7 n8 n12
  obtain ⟨c4, r4⟩ := zcd r1 rfl
  have hv' : xx_2 (zlv E.2.2.1 ρt lt) c.2.2.2.1 lvC' := xx_2_mono (fun _ _ q => zlv_mono n9 n10 q) m7
  refine ⟨lvC', m6, hC σ sy' ρ' ρt c3.2 n2 n4 n7 M e hM he E.2.2.1 ws lt lvC' _ hX hst hlt hT n11 hv' (fun r ws' hE => ?_)⟩
  obtain ⟨o, ho, ρo, lo, o1, o2, o3, o4, o5, o6, o7, o8⟩ := hE
  have hz := zk_all_ok r4 o ho
  unfold zout at hz
  rw [xk_drop_eq, xk_drop_eq] at hz
  have eσ : σ.length = ρt.length := xx_2_len n7
  have eτ : τ.length = lt.length := xx_2_len n8
  obtain ⟨σ', sy1, ρ2, s0, s2, s30, s4, s5⟩ := zo_s_ok' o3 hz rfl n4 (by rw [eσ, ztake_e o1]; exact n7)
  obtain ⟨sy2, s1, s3⟩ := zo_k_ok (n := 0) o3 s4 s0 s30 (fun i e he => by rw [Nat.zero_add]; exact he) (fun i b hb => by rw [Nat.zero_add]; exact xx_e_get s5 hb)
  obtain ⟨τ', ly2, lm2, t1, t2, t3, t4⟩ := zo_l_ok (X := E.2.2.1) (ρ := ρ2) o4 s1 rfl n5 (by rw [eτ, ztake_e o2]; exact ztm_mono s2 (xx_e_rf _) n8)
  rw [zk_fil_eq] at t1
  have hag : zag (zP ρ2 mdc) ws ws' := by
    refine zag_sub (fun kk j hq => ?_) o7
    have := r3 kk j hq
    obtain ⟨m, hm', e1, lo', hi', q1, q2, q3, q4⟩ := this
    exact ⟨m, hm', e1, lo', hi', zi_mono s2 q1, zi_mono s2 q2, q3, q4⟩
  have hkeep := zfa_keep (sy := sy2) (md := mdc) (ρ := ρ2) (lm := lm2) hJo.1 s3 (zfa_mono s2 t2 n6) hag
  obtain ⟨F', f1, f2⟩ := zrenF_ok s4 t4 t1 o6 hkeep
  have hP : ∀ kk j, zP ρt c.2.2.2.2.2.2.1 kk j → E.2.2.2.1.2 kk j := fun kk j hq => zsub_use n4 (zmd_ext n2 hm) c4 (r3 kk j hq)
  have hag2 : zag E.2.2.2.1.2 ws0 ws' := zag_tr hA (zag_sub hP o7)
  have eρ := xx_e_tr n2 s2
  have elm := xx_e_tr n3 t2
  cases hr : o.1 with
  | none =>
    rw [hr] at f1
    rcases o8 with ⟨-, q2⟩ | ⟨a, v, q1, -⟩
    · exact ⟨none, (F', ly2), sy2, ρ2, lm2, f1, eρ, elm, s3, t3, o5, f2, hag2, Or.inl ⟨rfl, q2⟩⟩
    · rw [hr] at q1; cases q1
  | some a =>
    rw [hr] at f1
    rcases o8 with ⟨q1, -⟩ | ⟨a', v, q1, q2, q3⟩
    · rw [hr] at q1; cases q1
    · rw [hr] at q1
      cases q1
      obtain ⟨b, b1, -, -, b4⟩ := zren_ok f1 s4 t4
      exact ⟨some b, (F', ly2), sy2, ρ2, lm2, b1, eρ, elm, s3, t3, o5, f2, hag2, Or.inr ⟨b, v, rfl, q2, b4 v q3⟩⟩
