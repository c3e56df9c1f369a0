/-! rules: what is known of the world, turned into cases -/
/-- where a number comes from: (0, i, _) the i-th local; (1, r, k) the k-th field of the cell r; (2, n, _) the number n; (3, r, i) what lies in the cell r at the i-th number; (4, i, q) the (q / 1000)-th number and (q mod 1000) times the i-th; (5, f, i) the second number of the known f whose first is the i-th number; (6, i, n) what stands in the script at the i-th number and n -/
abbrev zSrc : Type := Nat × Nat × Nat
/-- a place: a cell, which number, so much more, between -/
abbrev zPc : Type := Nat × Nat × Int × Int × Int
/-- a case: numbers between; places between; what is known then (its name, which number and so much more, twice; a name below 999: a place and what lies there; 999: the first is not less than the second) -/
abbrev zAl : Type := List (Nat × Int × Int) × List zPc × List (Nat × Nat × Int × Nat × Int)
/-- a rule: what must be known (0: nothing), further numbers, asked of numbers (between; not less than another and so much), of places; the cases. The numbers: the two of what is known, then the further ones -/
abbrev zRu : Type := Nat × List zSrc × List (Nat × Int × Int) × List (Nat × Nat × Int) × List zPc × List zAl
def zpc (ws : va_W) (zs : List Int) (q : zPc) (x : Int32) : Prop := ∃ p, ws[q.1]? = some p ∧ 0 ≤ zs.getD q.2.1 0 + q.2.2.1 ∧ zat p.2 (zs.getD q.2.1 0 + q.2.2.1).toNat = some (.int x)
/-- what the numbers are that come from fields, and those that are given -/
def zsrc (J : zJp) (ws : va_W) : List Int → List zSrc → List Int → Prop
  | _, [], _ => True
  | pr, s :: ss, z :: zs => (s.1 = 1 → ∃ p x, ws[s.2.1]? = some p ∧ zat p.2 s.2.2 = some (.int x) ∧ z = x.toInt) ∧ (s.1 = 2 → z = (s.2.1 : Int)) ∧ (s.1 = 3 → ∃ x, zpc ws pr (s.2.1, s.2.2, 0, 0, 0) x ∧ z = x.toInt) ∧ (s.1 = 4 → z = pr.getD (s.2.2 / 1000) 0 + pr.getD s.2.1 0 * ((s.2.2 % 1000 : Nat) : Int)) ∧ (s.1 = 5 → J s.2.1 (pr.getD s.2.2 0) z ws) ∧ (s.1 = 6 → J 1047 (pr.getD s.2.1 0 + (s.2.2 : Int)) z ws) ∧ zsrc J ws (pr ++ [z]) ss zs
  | _, _ :: _, [] => False
/-- what a case says -/
def zcas (J : zJp) (ws : va_W) (zs : List Int) (q : Nat × Nat × Int × Nat × Int) : Prop := (1000 ≤ q.1 → J q.1 (zs.getD q.2.1 0 + q.2.2.1) (zs.getD q.2.2.2.1 0 + q.2.2.2.2) ws) ∧ (q.1 < 999 → ∃ x, zpc ws zs (q.1, q.2.1, q.2.2.1, 0, 0) x ∧ x.toInt = zs.getD q.2.2.2.1 0 + q.2.2.2.2) ∧ (q.1 = 999 → zs.getD q.2.2.2.1 0 + q.2.2.2.2 ≤ zs.getD q.2.1 0 + q.2.2.1)
def zRuOk (J : zJp) (r : zRu) : Prop := ∀ (ws : va_W) (zs : List Int), zsrc J ws (zs.take 2) r.2.1 (zs.drop 2) → (r.1 = 0 ∨ J r.1 (zs.getD 0 0) (zs.getD 1 0) ws) → (∀ q ∈ r.2.2.1, q.2.1 ≤ zs.getD q.1 0 ∧ zs.getD q.1 0 ≤ q.2.2) → (∀ q ∈ r.2.2.2.1, zs.getD q.2.1 0 + q.2.2 ≤ zs.getD q.1 0) → (∀ q ∈ r.2.2.2.2.1, ∃ x, zpc ws zs q x ∧ q.2.2.2.1 ≤ x.toInt ∧ x.toInt ≤ q.2.2.2.2) → ∃ a ∈ r.2.2.2.2.2, (∀ q ∈ a.1, q.2.1 ≤ zs.getD q.1 0 ∧ zs.getD q.1 0 ≤ q.2.2) ∧ (∀ q ∈ a.2.1, ∀ x, zpc ws zs q x → q.2.2.2.1 ≤ x.toInt ∧ x.toInt ≤ q.2.2.2.2) ∧ ∀ q ∈ a.2.2, zcas J ws zs q
abbrev zKv : Type := List zV → zH → zS → Bool
/-- the value at a place -/
noncomputable def zr_at (C : zCf) (vs : List zV) (q : zPc) (h : zH) (sy : zS) (k : zV → zH → zS → Bool) : Bool := zk_nth vs q.2.1 fun b => zf (b.2.2 + q.2.2.1) fun c => cond (zc_i b) (zk_sp C.1 q.1 fun y => zk_load y sy h q.1 (b.1, b.2.1, c) fun a h' sy' => cond (zc_i a) (k a h' sy') false) false
noncomputable def zr_src (C : zCf) (lv : List zV) (ss : List zSrc) : List zV → zH → zS → zKv → Bool := List.rec (motive := fun _ => List zV → zH → zS → zKv → Bool) (fun vs h sy k => k vs h sy) (fun s _ ih vs h sy k => cond (Nat.beq s.1 0) (zk_nth lv s.2.1 fun a => cond (zc_i a) (zk_push vs a 0 fun vs' _ => ih vs' h sy k) false) (cond (Nat.beq s.1 2) (zk_push vs (0, 0, .ofNat s.2.1) 0 fun vs' _ => ih vs' h sy k) (cond (Nat.beq s.1 3) (zr_at C vs (s.2.1, s.2.2, 0, 0, 0) h sy fun a h' sy' => zk_push vs a 0 fun vs' _ => ih vs' h' sy' k) (cond (Nat.beq s.1 4) (zk_nth vs s.2.1 fun b => zk_rng sy b fun lo hi => cond (zle hi lo) (zk_nth vs (s.2.2 / 1000) fun c => zf (c.2.2 + lo * ((s.2.2 % 1000 : Nat) : Int)) fun q => cond (zc_i c) (zk_push vs (c.1, c.2.1, q) 0 fun vs' _ => ih vs' h sy k) false) false) (cond (Nat.beq s.1 5) (zk_any h.1 fun f => cond (and (Nat.beq f.1 s.2.1) (and (Nat.ble 1000 f.1) (zk_nth vs s.2.2 fun b => zsame sy f.2.1 b))) (zk_push vs f.2.2 0 fun vs' _ => ih vs' h sy k) false) (cond (Nat.beq s.1 6) (zk_nth vs s.2.1 fun b => zf (b.2.2 + .ofNat s.2.2) fun c => cond (zk_rng sy (b.1, b.2.1, c) fun lo _ => zle 0 lo) (zk_fresh sy zlo zhi fun v sy' => zk_push vs v 0 fun vs' _ => ih vs' h sy' k) false) (zk_sp C.1 s.2.1 fun y => zk_load y sy h s.2.1 (0, 0, .ofNat s.2.2) fun a h' sy' => cond (zc_i a) (zk_push vs a 0 fun vs' _ => ih vs' h' sy' k) false))))))) ss
noncomputable def zr_pl (C : zCf) (vs : List zV) (qs : List zPc) : zH → zS → (zH → zS → Bool) → Bool := List.rec (motive := fun _ => zH → zS → (zH → zS → Bool) → Bool) (fun h sy k => k h sy) (fun q _ ih h sy k => zr_at C vs q h sy fun a h' sy' => cond (zk_rng sy' a fun lo hi => and (zle q.2.2.2.1 lo) (zle hi q.2.2.2.2)) (ih h' sy' k) false) qs
/-- a number is known better, or can't be -/
noncomputable def zr_cut (sy : zS) (a : zV) (lo hi : Int) (k : zS → Bool) : Bool := zk_rng sy a fun l u => zf (zmax l lo) fun l' => zf (zmin u hi) fun u' => cond (zle (u' + 1) l') true (zk_put sy a (l', u') k)
noncomputable def zr_aR (vs : List zV) (qs : List (Nat × Int × Int)) : zS → (zS → Bool) → Bool := List.rec (motive := fun _ => zS → (zS → Bool) → Bool) (fun sy k => k sy) (fun q _ ih sy k => zk_nth vs q.1 fun a => zr_cut sy a q.2.1 q.2.2 fun sy' => ih sy' k) qs
noncomputable def zr_aP (C : zCf) (vs : List zV) (qs : List zPc) : zH → zS → (zH → zS → Bool) → Bool := List.rec (motive := fun _ => zH → zS → (zH → zS → Bool) → Bool) (fun h sy k => k h sy) (fun q _ ih h sy k => zr_at C vs q h sy fun a h' sy' => zr_cut sy' a q.2.2.2.1 q.2.2.2.2 fun sy2 => ih h' sy2 k) qs
noncomputable def zr_aO (vs : List zV) (qs : List (Nat × Nat × Int × Nat × Int)) : zF → (zF → Bool) → Bool := List.rec (motive := fun _ => zF → (zF → Bool) → Bool) (fun F k => k F) (fun q _ ih F k => cond (Nat.beq q.1 999) (ih F k) (zk_nth vs q.2.1 fun a => zk_nth vs q.2.2.2.1 fun b => zf (a.2.2 + q.2.2.1) fun c => zf (b.2.2 + q.2.2.2.2) fun d => cond (and (zc_i a) (zc_i b)) (ih ((q.1, (a.1, a.2.1, c), (b.1, b.2.1, d)) :: F) k) false)) qs
noncomputable def zr_aL (vs : List zV) (qs : List (Nat × Nat × Int × Nat × Int)) : zS → (zS → Bool) → Bool := List.rec (motive := fun _ => zS → (zS → Bool) → Bool) (fun sy k => k sy) (fun q _ ih sy k => cond (Nat.beq q.1 999) (zk_nth vs q.2.1 fun a => zk_nth vs q.2.2.2.1 fun b => zf (q.2.2.2.2 - q.2.2.1) fun d => zk_link sy b a d fun sy' => ih sy' k) (ih sy k)) qs
noncomputable def zr_go (C : zCf) (r : zRu) (vs : List zV) (h : zH) (sy : zS) (lv : List zV) (k : zH → zS → Bool) : Bool := zr_src C lv r.2.1 vs h sy fun vs' h1 sy1 => cond (and (zk_all r.2.2.1 fun q => zk_nth vs' q.1 fun a => zk_rng sy1 a fun lo hi => and (zle q.2.1 lo) (zle hi q.2.2)) (zk_all r.2.2.2.1 fun q => zk_nth vs' q.1 fun a => zk_nth vs' q.2.1 fun b => zge sy1 3 a b q.2.2)) (zr_pl C vs' r.2.2.2.2.1 h1 sy1 fun h2 sy2 => zk_all r.2.2.2.2.2 fun al => zr_aR vs' al.1 sy2 fun sy3 => zr_aP C vs' al.2.1 h2 sy3 fun h4 sy4 => zr_aL vs' al.2.2 sy4 fun sy5 => zr_aO vs' al.2.2 h4.1 fun F => k (F, h4.2) sy5) false
noncomputable def zr_use (C : zCf) (r : zRu) (h : zH) (sy : zS) (lv : List zV) (k : zH → zS → Bool) : Bool := cond (Nat.beq r.1 0) (zr_go C r [(0, 0, 0), (0, 0, 0)] h sy lv k) (zk_any h.1 fun f => cond (and (Nat.beq f.1 r.1) (Nat.ble 1000 f.1)) (zr_go C r [f.2.1, f.2.2] h sy lv k) false)
noncomputable def zd_ru (C : zCf) (RT : List zRu) (n : Nat) (f : zD) : zD := fun nx jp ag ca rt lv st h sy => zk_nth RT n fun r => zr_use C r h sy lv fun h' sy' => f nx jp ag ca rt lv st h' sy'
/-! what they give -/
def zvs (ρ : List Int32) (vs : List zV) (zs : List Int) : Prop := xx_2 (fun (a : zV) (z : Int) => zi ρ a z) vs zs
theorem zvs_mono {ρ ρ' : List Int32} (e : xx_e ρ ρ') {vs : List zV} {zs : List Int} (h : zvs ρ vs zs) : zvs ρ' vs zs := xx_2_mono (fun _ _ q => zi_mono e q) h
theorem zvs_at {ρ : List Int32} {vs : List zV} {zs : List Int} (h : zvs ρ vs zs) {n : Nat} {a : zV} (ha : vs[n]? = some a) : zi ρ a (zs.getD n 0) := by
  obtain ⟨z, z1, z2⟩ := xx_2_get h ha
  rw [List.getD_eq_getElem?_getD, z1]
  exact z2
section ZRu
variable {E : zEn}
/-- a state of the run: symbols, longs, facts -/
def zSt (E : zEn) (ws : va_W) (ρ : List Int32) (lm : List Int64) (h : zH) (sy : zS) : Prop := zsat sy ρ ∧ zsatL h.2 lm ∧ zfa E.2.2.1 E.2.2.2.2.1 ρ lm ws h.1
theorem zload_i (hSP : E.2.1.1.length ≤ 83) {ws : va_W} (hT : zTw E.1 E.2.1.1 E.2.2.1 ws) (hlen : ∀ (k : Nat) (y : zY), zsp E.2.1.1 k = some y → k < ws.length) {r : Nat} {y : zY} {key : zV} {h : zH} {sy : zS} {k : zV → zH → zS → Bool} {ρ : List Int32} {lm : List Int64} (hk : zk_load y sy h r key k = true) (hS : zSt E ws ρ lm h sy) (hy : zsp E.2.1.1 r = some y) : ∃ p v z a h' sy' ρ' lm', ws[r]? = some p ∧ zi ρ key z ∧ 0 ≤ z ∧ zat p.2 z.toNat = some v ∧ k a h' sy' = true ∧ xx_e ρ ρ' ∧ xx_e lm lm' ∧ zSt E ws ρ' lm' h' sy' ∧ zv E.2.2.1 ρ' lm' a v := by
  obtain ⟨p, v, z, a, h', sy', ρ', lm', g1, g2, g3, g4, g5, g6, g7, g8, g9, g10, g11⟩ := zk_load_ok hk hS.1 hS.2.1 hS.2.2 hT hy (zsp_lt hSP hy) (hlen _ _ hy)
  exact ⟨p, v, z, a, h', sy', ρ', lm', g1, g2, g3, g4, g5, g6, g7, ⟨g8, g9, g10⟩, g11⟩
theorem zr_at_ok (hSP : E.2.1.1.length ≤ 83) {ws : va_W} (hT : zTw E.1 E.2.1.1 E.2.2.1 ws) (hlen : ∀ (k : Nat) (y : zY), zsp E.2.1.1 k = some y → k < ws.length) {vs : List zV} {q : zPc} {h : zH} {sy : zS} {k : zV → zH → zS → Bool} {ρ : List Int32} {lm : List Int64} {zs : List Int} (hk : zr_at E.2.1 vs q h sy k = true) (hS : zSt E ws ρ lm h sy) (hv : zvs ρ vs zs) : ∃ a h' sy' ρ' lm' x, k a h' sy' = true ∧ xx_e ρ ρ' ∧ xx_e lm lm' ∧ zSt E ws ρ' lm' h' sy' ∧ zi ρ' a x.toInt ∧ zpc ws zs q x := by
  obtain ⟨b, b1, b2⟩ := zk_nth_ok hk
  rw [zf_eq] at b2
  obtain ⟨c1, b3⟩ := zcd b2 rfl
  obtain ⟨y, y1, y2⟩ := zk_sp_ok b3
  obtain ⟨p, v, z, a, h1, sy1, ρ1, lm1, g1, g2, g3, g4, g5, g6, g7, g8, g9⟩ := zload_i hSP hT hlen y2 hS y1
  obtain ⟨c2, a3⟩ := zcd g5 rfl
  obtain ⟨x, rfl, zx⟩ := zv_int c2 g9
  have ez : z = zs.getD q.2.1 0 + q.2.2.1 := zi_fun g2 (zi_add (zvs_at hv b1))
  subst ez
  exact ⟨a, h1, sy1, ρ1, lm1, x, a3, g6, g7, g8, zx, p, g1, g3, g4⟩
theorem zr_src_ok (hJo : zJok E.1 E.2.1.2 E.2.2.2.2.1) (hSP : E.2.1.1.length ≤ 83) {ws : va_W} (hT : zTw E.1 E.2.1.1 E.2.2.1 ws) (hlen : ∀ (k : Nat) (y : zY), zsp E.2.1.1 k = some y → k < ws.length) {lv : List zV} {lvC : yL} : ∀ {ss : List zSrc} {vs : List zV} {h : zH} {sy : zS} {k : zKv} {ρ : List Int32} {lm : List Int64} {zs : List Int}, zr_src E.2.1 lv ss vs h sy k = true → xx_2 (zlv E.2.2.1 ρ lm) lv lvC → zSt E ws ρ lm h sy → zvs ρ vs zs → ∃ vs' h' sy' ρ' lm' zs', k vs' h' sy' = true ∧ xx_e ρ ρ' ∧ xx_e lm lm' ∧ zSt E ws ρ' lm' h' sy' ∧ zvs ρ' vs' (zs ++ zs') ∧ zsrc E.2.2.2.2.1 ws zs ss zs'
  | [], vs, h, sy, k, ρ, lm, zs, hk, _, hS, hv => ⟨vs, h, sy, ρ, lm, [], hk, xx_e_rf _, xx_e_rf _, hS, by rw [List.append_nil]; exact hv, trivial⟩
  | s :: ss, vs, h, sy, k, ρ, lm, zs, hk, hlv, hS, hv => by
    have hk' : cond (Nat.beq s.1 0) (zk_nth lv s.2.1 fun a => cond (zc_i a) (zk_push vs a 0 fun vs' _ => zr_src E.2.1 lv ss vs' h sy k) false) (cond (Nat.beq s.1 2) (zk_push vs (0, 0, .ofNat s.2.1) 0 fun vs' _ => zr_src E.2.1 lv ss vs' h sy k) (cond (Nat.beq s.1 3) (zr_at E.2.1 vs (s.2.1, s.2.2, 0, 0, 0) h sy fun a h' sy' => zk_push vs a 0 fun vs' _ => zr_src E.2.1 lv ss vs' h' sy' k) (cond (Nat.beq s.1 4) (zk_nth vs s.2.1 fun b => zk_rng sy b fun lo hi => cond (zle hi lo) (zk_nth vs (s.2.2 / 1000) fun c => zf (c.2.2 + lo * ((s.2.2 % 1000 : Nat) : Int)) fun q => cond (zc_i c) (zk_push vs (c.1, c.2.1, q) 0 fun vs' _ => zr_src E.2.1 lv ss vs' h sy k) false) false) (cond (Nat.beq s.1 5) (zk_any h.1 fun f => cond (and (Nat.beq f.1 s.2.1) (and (Nat.ble 1000 f.1) (zk_nth vs s.2.2 fun b => zsame sy f.2.1 b))) (zk_push vs f.2.2 0 fun vs' _ => zr_src E.2.1 lv ss vs' h sy k) false) (cond (Nat.beq s.1 6) (zk_nth vs s.2.1 fun b => zf (b.2.2 + .ofNat s.2.2) fun c => cond (zk_rng sy (b.1, b.2.1, c) fun lo _ => zle 0 lo) (zk_fresh sy zlo zhi fun v sy' => zk_push vs v 0 fun vs' _ => zr_src E.2.1 lv ss vs' h sy' k) false) (zk_sp E.2.1.1 s.2.1 fun y => zk_load y sy h s.2.1 (0, 0, .ofNat s.2.2) fun a h' sy' => cond (zc_i a) (zk_push vs a 0 fun vs' _ => zr_src E.2.1 lv ss vs' h' sy' k) false)))))) = true := hk
    cases hc : Nat.beq s.1 0 with
    | true =>
      rw [hc, cond_true] at hk'
      obtain ⟨a, a1, a2⟩ := zk_nth_ok hk'
      obtain ⟨c1, a3⟩ := zcd a2 rfl
      have a4 := zk_push_ok a3
      obtain ⟨v, v1, v2⟩ := zlv_at hlv a1 (fun q => by unfold zc_i at c1; rw [q] at c1; exact absurd c1 (by decide))
      obtain ⟨x, -, zx⟩ := zv_int c1 v2
      obtain ⟨vs', h', sy', ρ', lm', zs', g1, g2, g3, g4, g5, g6⟩ := zr_src_ok hJo hSP hT hlen a4 hlv hS (show zvs ρ (vs ++ [a]) (zs ++ [x.toInt]) from xx_2_app hv ⟨zx, trivial⟩)
      have e0 : s.1 = 0 := Nat.eq_of_beq_eq_true hc
      exact ⟨vs', h', sy', ρ', lm', x.toInt :: zs', g1, g2, g3, g4, by rw [List.append_assoc] at g5; exact g5, fun q => by omega, fun q => by omega, fun q => by omega, fun q => by omega, fun q => by omega, fun q => by omega, g6⟩
    | false =>
      rw [hc, cond_false] at hk'
      cases hc2 : Nat.beq s.1 2 with
      | true =>
        rw [hc2, cond_true] at hk'
        have a4 := zk_push_ok hk'
        obtain ⟨vs', h', sy', ρ', lm', zs', g1, g2, g3, g4, g5, g6⟩ := zr_src_ok hJo hSP hT hlen a4 hlv hS (show zvs ρ (vs ++ [((0, 0, .ofNat s.2.1) : zV)]) (zs ++ [(s.2.1 : Int)]) from xx_2_app hv ⟨Or.inl ⟨rfl, rfl⟩, trivial⟩)
        have e0 : s.1 = 2 := Nat.eq_of_beq_eq_true hc2
        exact ⟨vs', h', sy', ρ', lm', (s.2.1 : Int) :: zs', g1, g2, g3, g4, by rw [List.append_assoc] at g5; exact g5, fun q => by omega, fun _ => rfl, fun q => by omega, fun q => by omega, fun q => by omega, fun q => by omega, g6⟩
      | false =>
        rw [hc2, cond_false] at hk'
        cases hc3 : Nat.beq s.1 3 with
        | true =>
          rw [hc3, cond_true] at hk'
          obtain ⟨a, h1, sy1, ρ1, lm1, x, g1, g2, g3, g4, g5, g6⟩ := zr_at_ok hSP hT hlen hk' hS hv
          have a4 := zk_push_ok g1
          obtain ⟨vs', h', sy', ρ', lm', zs', q1, q2, q3, q4, q5, q6⟩ := zr_src_ok hJo hSP hT hlen a4 (xx_2_mono (fun _ _ q => zlv_mono g2 g3 q) hlv) g4 (show zvs ρ1 (vs ++ [a]) (zs ++ [x.toInt]) from xx_2_app (zvs_mono g2 hv) ⟨g5, trivial⟩)
          have e0 : s.1 = 3 := Nat.eq_of_beq_eq_true hc3
          exact ⟨vs', h', sy', ρ', lm', x.toInt :: zs', q1, xx_e_tr g2 q2, xx_e_tr g3 q3, q4, by rw [List.append_assoc] at q5; exact q5, fun q => by omega, fun q => by omega, fun _ => ⟨x, g6, rfl⟩, fun q => by omega, fun q => by omega, fun q => by omega, q6⟩
        | false =>
          rw [hc3, cond_false] at hk'
          cases hc4 : Nat.beq s.1 4 with
          | true =>
            rw [hc4, cond_true] at hk'
            obtain ⟨b, b1, b2⟩ := zk_nth_ok hk'
            obtain ⟨zb, lo, hi, z1, z2, z3, z4⟩ := zk_rng_i b2 hS.1
            obtain ⟨c1, z5⟩ := zcd z4 rfl
            have l1 := zle_ok.mp c1
            obtain ⟨c, d1, d2⟩ := zk_nth_ok z5
            rw [zf_eq] at d2
            obtain ⟨-, d3⟩ := zcd d2 rfl
            have a4 := zk_push_ok d3
            have ez : zb = lo := by omega
            have eb : zs.getD s.2.1 0 = lo := by rw [← ez]; exact zi_fun (zvs_at hv b1) z1
            obtain ⟨vs', h', sy', ρ', lm', zs', g1, g2, g3, g4, g5, g6⟩ := zr_src_ok hJo hSP hT hlen a4 hlv hS (show zvs ρ (vs ++ [((c.1, c.2.1, c.2.2 + lo * ((s.2.2 % 1000 : Nat) : Int)) : zV)]) (zs ++ [zs.getD (s.2.2 / 1000) 0 + lo * ((s.2.2 % 1000 : Nat) : Int)]) from xx_2_app hv ⟨zi_add (zvs_at hv d1), trivial⟩)
            have e0 : s.1 = 4 := Nat.eq_of_beq_eq_true hc4
            exact ⟨vs', h', sy', ρ', lm', _ :: zs', g1, g2, g3, g4, by rw [List.append_assoc] at g5; exact g5, fun q => by omega, fun q => by omega, fun q => by omega, fun _ => by rw [eb], fun q => by omega, fun q => by omega, g6⟩
          | false =>
          rw [hc4, cond_false] at hk'
          cases hc5 : Nat.beq s.1 5 with
          | true =>
            rw [hc5, cond_true] at hk'
            obtain ⟨f, f1, f2⟩ := zk_any_ok hk'
            obtain ⟨c1, a3⟩ := zcd f2 rfl
            have c2 := xan c1
            have c3 := xan c2.2
            obtain ⟨b, b1, b2⟩ := zk_nth_ok c3.2
            obtain ⟨z, w, z1, w1, j1⟩ := (hS.2.2 f f1).1 (Nat.le_of_ble_eq_true c3.1)
            have ez : z = zs.getD s.2.2 0 := zi_fun (zsame_ok hS.1 b2 z1) (zvs_at hv b1)
            rw [Nat.eq_of_beq_eq_true c2.1, ez] at j1
            have a4 := zk_push_ok a3
            obtain ⟨vs', h', sy', ρ', lm', zs', g1, g2, g3, g4, g5, g6⟩ := zr_src_ok hJo hSP hT hlen a4 hlv hS (show zvs ρ (vs ++ [f.2.2]) (zs ++ [w]) from xx_2_app hv ⟨w1, trivial⟩)
            have e0 : s.1 = 5 := Nat.eq_of_beq_eq_true hc5
            exact ⟨vs', h', sy', ρ', lm', w :: zs', g1, g2, g3, g4, by rw [List.append_assoc] at g5; exact g5, fun q => by omega, fun q => by omega, fun q => by omega, fun q => by omega, fun _ => j1, fun q => by omega, g6⟩
          | false =>
          rw [hc5, cond_false] at hk'
          cases hc6 : Nat.beq s.1 6 with
          | true =>
            rw [hc6, cond_true] at hk'
            obtain ⟨b, b1, b2⟩ := zk_nth_ok hk'
            rw [zf_eq] at b2
            obtain ⟨c1, b3⟩ := zcd b2 rfl
            obtain ⟨zb, lo, hi, z1, z2, z3, z4⟩ := zk_rng_i c1 hS.1
            have l1 := zle_ok.mp z4
            have ez : zb = zs.getD s.2.1 0 + (s.2.2 : Int) := zi_fun z1 (zi_add (zvs_at hv b1))
            obtain ⟨c, sy', ρ', g1, g2, g3, g4⟩ := zk_fresh_ok b3 hS.1 (zfull_ok (E.1.1.2.2.2.2.2 zb.toNat)).1 (zfull_ok (E.1.1.2.2.2.2.2 zb.toNat)).2
            have a4 := zk_push_ok g1
            have hS' : zSt E ws ρ' lm h sy' := ⟨g3, hS.2.1, zfa_mono g2 (xx_e_rf _) hS.2.2⟩
            obtain ⟨vs', h', sy2, ρ2, lm2, zs', q1, q2, q3, q4, q5, q6⟩ := zr_src_ok hJo hSP hT hlen a4 (xx_2_mono (fun _ _ q => zlv_mono g2 (xx_e_rf _) q) hlv) hS' (show zvs ρ' (vs ++ [c]) (zs ++ [(E.1.1.2.2.2.2.2 zb.toNat).toInt]) from xx_2_app (zvs_mono g2 hv) ⟨g4, trivial⟩)
            have e0 : s.1 = 6 := Nat.eq_of_beq_eq_true hc6
            exact ⟨vs', h', sy2, ρ2, lm2, _ :: zs', q1, xx_e_tr g2 q2, q3, q4, by rw [List.append_assoc] at q5; exact q5, fun q => by omega, fun q => by omega, fun q => by omega, fun q => by omega, fun q => by omega, fun _ => (hJo.2 _ _ _).mpr ⟨by omega, by rw [← ez]⟩, q6⟩
          | false =>
          rw [hc6, cond_false] at hk'
          obtain ⟨y, y1, y2⟩ := zk_sp_ok hk'
          obtain ⟨p, v, z, a, h1, sy1, ρ1, lm1, g1, g2, g3, g4, g5, g6, g7, g8, g9⟩ := zload_i hSP hT hlen y2 hS y1
          obtain ⟨c1, a3⟩ := zcd g5 rfl
          have a4 := zk_push_ok a3
          obtain ⟨x, ex, zx⟩ := zv_int c1 g9
          obtain ⟨vs', h', sy', ρ', lm', zs', q1, q2, q3, q4, q5, q6⟩ := zr_src_ok hJo hSP hT hlen a4 (xx_2_mono (fun _ _ q => zlv_mono g6 g7 q) hlv) g8 (show zvs ρ1 (vs ++ [a]) (zs ++ [x.toInt]) from xx_2_app (zvs_mono g6 hv) ⟨zx, trivial⟩)
          refine ⟨vs', h', sy', ρ', lm', x.toInt :: zs', q1, xx_e_tr g6 q2, xx_e_tr g7 q3, q4, by rw [List.append_assoc] at q5; exact q5, fun _ => ⟨p, x, g1, ?_, rfl⟩, fun q => by rw [q] at hc2; exact absurd hc2 (by decide), fun q => by rw [q] at hc3; exact absurd hc3 (by decide), fun q => by rw [q] at hc4; exact absurd hc4 (by decide), fun q => by rw [q] at hc5; exact absurd hc5 (by decide), fun q => by rw [q] at hc6; exact absurd hc6 (by decide), q6⟩
          rw [← ex, ← g4, zi_fun g2 (show zi ρ ((0, 0, .ofNat s.2.2) : zV) (s.2.2 : Int) from Or.inl ⟨rfl, rfl⟩)]
          rfl
theorem zr_pl_ok (hSP : E.2.1.1.length ≤ 83) {ws : va_W} (hT : zTw E.1 E.2.1.1 E.2.2.1 ws) (hlen : ∀ (k : Nat) (y : zY), zsp E.2.1.1 k = some y → k < ws.length) {vs : List zV} {zs : List Int} : ∀ {qs : List zPc} {h : zH} {sy : zS} {k : zH → zS → Bool} {ρ : List Int32} {lm : List Int64}, zr_pl E.2.1 vs qs h sy k = true → zSt E ws ρ lm h sy → zvs ρ vs zs → ∃ h' sy' ρ' lm', k h' sy' = true ∧ xx_e ρ ρ' ∧ xx_e lm lm' ∧ zSt E ws ρ' lm' h' sy' ∧ ∀ q ∈ qs, ∃ x, zpc ws zs q x ∧ q.2.2.2.1 ≤ x.toInt ∧ x.toInt ≤ q.2.2.2.2
  | [], h, sy, k, ρ, lm, hk, hS, _ => ⟨h, sy, ρ, lm, hk, xx_e_rf _, xx_e_rf _, hS, fun q hq => absurd hq List.not_mem_nil⟩
  | q :: qs, h, sy, k, ρ, lm, hk, hS, hv => by
    obtain ⟨a, h1, sy1, ρ1, lm1, x, g1, g2, g3, g4, g5, g6⟩ := zr_at_ok hSP hT hlen (show zr_at E.2.1 vs q h sy (fun a h' sy' => cond (zk_rng sy' a fun lo hi => and (zle q.2.2.2.1 lo) (zle hi q.2.2.2.2)) (zr_pl E.2.1 vs qs h' sy' k) false) = true from hk) hS hv
    obtain ⟨c1, g7⟩ := zcd g1 rfl
    obtain ⟨z, lo, hi, z1, z2, z3, z4⟩ := zk_rng_i c1 g4.1
    rw [zi_fun z1 g5] at z2 z3
    have c2 := xan z4
    have l1 := zle_ok.mp c2.1
    have l2 := zle_ok.mp c2.2
    obtain ⟨h', sy', ρ', lm', r1, r2, r3, r4, r5⟩ := zr_pl_ok hSP hT hlen g7 g4 (zvs_mono g2 hv)
    refine ⟨h', sy', ρ', lm', r1, xx_e_tr g2 r2, xx_e_tr g3 r3, r4, fun q' hq' => ?_⟩
    rcases List.mem_cons.mp hq' with rfl | hq'
    · exact ⟨x, g6, by omega, by omega⟩
    · exact r5 q' hq'
theorem zr_cut_ok {sy : zS} {ρ : List Int32} {a : zV} {lo hi z : Int} {k : zS → Bool} (h : zr_cut sy a lo hi k = true) (hs : zsat sy ρ) (ha : zi ρ a z) (h1 : lo ≤ z) (h2 : z ≤ hi) : ∃ sy', k sy' = true ∧ zsat sy' ρ := by
  obtain ⟨z', l, u, z1, z2, z3, z4⟩ := zk_rng_i h hs
  rw [zi_fun z1 ha] at z2 z3
  rw [zf_eq, zf_eq] at z4
  have m1 := zmax_or l lo
  have m2 := zmin_or u hi
  cases hc : zle (zmin u hi + 1) (zmax l lo) with
  | true =>
    have := zle_ok.mp hc
    omega
  | false =>
    rw [hc, cond_false] at z4
    exact zk_put_ok z4 hs ha (show zmax l lo ≤ z by omega) (show z ≤ zmin u hi by omega)
theorem zr_aR_ok {vs : List zV} {zs : List Int} {ρ : List Int32} (hv : zvs ρ vs zs) : ∀ {qs : List (Nat × Int × Int)} {sy : zS} {k : zS → Bool}, zr_aR vs qs sy k = true → zsat sy ρ → (∀ q ∈ qs, q.2.1 ≤ zs.getD q.1 0 ∧ zs.getD q.1 0 ≤ q.2.2) → ∃ sy', k sy' = true ∧ zsat sy' ρ
  | [], sy, k, h, hs, _ => ⟨sy, h, hs⟩
  | q :: qs, sy, k, h, hs, hq => by
    obtain ⟨a, a1, a2⟩ := zk_nth_ok (show (zk_nth vs q.1 fun a => zr_cut sy a q.2.1 q.2.2 fun sy' => zr_aR vs qs sy' k) = true from h)
    have b := hq q List.mem_cons_self
    obtain ⟨sy1, g1, g2⟩ := zr_cut_ok a2 hs (zvs_at hv a1) b.1 b.2
    exact zr_aR_ok hv g1 g2 (fun q' hq' => hq q' (List.mem_cons_of_mem _ hq'))
theorem zr_aP_ok (hSP : E.2.1.1.length ≤ 83) {ws : va_W} (hT : zTw E.1 E.2.1.1 E.2.2.1 ws) (hlen : ∀ (k : Nat) (y : zY), zsp E.2.1.1 k = some y → k < ws.length) {vs : List zV} {zs : List Int} : ∀ {qs : List zPc} {h : zH} {sy : zS} {k : zH → zS → Bool} {ρ : List Int32} {lm : List Int64}, zr_aP E.2.1 vs qs h sy k = true → zSt E ws ρ lm h sy → zvs ρ vs zs → (∀ q ∈ qs, ∀ x, zpc ws zs q x → q.2.2.2.1 ≤ x.toInt ∧ x.toInt ≤ q.2.2.2.2) → ∃ h' sy' ρ' lm', k h' sy' = true ∧ xx_e ρ ρ' ∧ xx_e lm lm' ∧ zSt E ws ρ' lm' h' sy'
  | [], h, sy, k, ρ, lm, hk, hS, _, _ => ⟨h, sy, ρ, lm, hk, xx_e_rf _, xx_e_rf _, hS⟩
  | q :: qs, h, sy, k, ρ, lm, hk, hS, hv, hq => by
    obtain ⟨a, h1, sy1, ρ1, lm1, x, g1, g2, g3, g4, g5, g6⟩ := zr_at_ok hSP hT hlen (show zr_at E.2.1 vs q h sy (fun a h' sy' => zr_cut sy' a q.2.2.2.1 q.2.2.2.2 fun sy2 => zr_aP E.2.1 vs qs h' sy2 k) = true from hk) hS hv
    have b := hq q List.mem_cons_self x g6
    obtain ⟨sy2, k1, k2⟩ := zr_cut_ok g1 g4.1 g5 b.1 b.2
    obtain ⟨h', sy', ρ', lm', r1, r2, r3, r4⟩ := zr_aP_ok hSP hT hlen k1 ⟨k2, g4.2⟩ (zvs_mono g2 hv) (fun q' hq' => hq q' (List.mem_cons_of_mem _ hq'))
    exact ⟨h', sy', ρ', lm', r1, xx_e_tr g2 r2, xx_e_tr g3 r3, r4⟩
theorem zr_aO_ok {X : zX} {J : zJp} {vs : List zV} {zs : List Int} {ρ : List Int32} {lm : List Int64} {ws : va_W} (hv : zvs ρ vs zs) : ∀ {qs : List (Nat × Nat × Int × Nat × Int)} {F : zF} {k : zF → Bool}, zr_aO vs qs F k = true → zfa X J ρ lm ws F → (∀ q ∈ qs, zcas J ws zs q) → ∃ F', k F' = true ∧ zfa X J ρ lm ws F'
  | [], F, k, h, hF, _ => ⟨F, h, hF⟩
  | q :: qs, F, k, h, hF, hq => by
    have h' : cond (Nat.beq q.1 999) (zr_aO vs qs F k) (zk_nth vs q.2.1 fun a => zk_nth vs q.2.2.2.1 fun b => zf (a.2.2 + q.2.2.1) fun c => zf (b.2.2 + q.2.2.2.2) fun d => cond (and (zc_i a) (zc_i b)) (zr_aO vs qs ((q.1, (a.1, a.2.1, c), (b.1, b.2.1, d)) :: F) k) false) = true := h
    cases hz : Nat.beq q.1 999 with
    | true =>
      rw [hz, cond_true] at h'
      exact zr_aO_ok hv h' hF (fun q' hq' => hq q' (List.mem_cons_of_mem _ hq'))
    | false =>
    rw [hz, cond_false] at h'
    have h9 : q.1 ≠ 999 := fun e => by rw [e] at hz; exact absurd hz (by decide)
    obtain ⟨a, a1, a2⟩ := zk_nth_ok h'
    obtain ⟨b, b1, b2⟩ := zk_nth_ok a2
    rw [zf_eq, zf_eq] at b2
    obtain ⟨c1, b3⟩ := zcd b2 rfl
    refine zr_aO_ok hv b3 (fun f hf => ?_) (fun q' hq' => hq q' (List.mem_cons_of_mem _ hq'))
    rcases List.mem_cons.mp hf with rfl | hf
    · refine ⟨fun hge => ⟨_, _, zi_add (zvs_at hv a1), zi_add (zvs_at hv b1), (hq q List.mem_cons_self).1 hge⟩, fun hlt => ?_⟩
      have hlt' : q.1 < 1000 := hlt
      obtain ⟨x, ⟨p, p1, p2, p3⟩, x2⟩ := (hq q List.mem_cons_self).2.1 (by omega)
      refine ⟨p, .int x, _, p1, zi_add (zvs_at hv a1), p2, p3, zv_of_zi ?_⟩
      rw [x2]
      exact zi_add (zvs_at hv b1)
    · exact hF f hf
theorem zr_aL_ok {J : zJp} {vs : List zV} {zs : List Int} {ρ : List Int32} {ws : va_W} (hv : zvs ρ vs zs) : ∀ {qs : List (Nat × Nat × Int × Nat × Int)} {sy : zS} {k : zS → Bool}, zr_aL vs qs sy k = true → zsat sy ρ → (∀ q ∈ qs, zcas J ws zs q) → ∃ sy', k sy' = true ∧ zsat sy' ρ
  | [], sy, k, h, hs, _ => ⟨sy, h, hs⟩
  | q :: qs, sy, k, h, hs, hq => by
    have h' : cond (Nat.beq q.1 999) (zk_nth vs q.2.1 fun a => zk_nth vs q.2.2.2.1 fun b => zf (q.2.2.2.2 - q.2.2.1) fun d => zk_link sy b a d fun sy' => zr_aL vs qs sy' k) (zr_aL vs qs sy k) = true := h
    cases hz : Nat.beq q.1 999 with
    | false =>
      rw [hz, cond_false] at h'
      exact zr_aL_ok hv h' hs (fun q' hq' => hq q' (List.mem_cons_of_mem _ hq'))
    | true =>
      rw [hz, cond_true] at h'
      obtain ⟨a, a1, a2⟩ := zk_nth_ok h'
      obtain ⟨b, b1, b2⟩ := zk_nth_ok a2
      rw [zf_eq] at b2
      have g := (hq q List.mem_cons_self).2.2 (Nat.eq_of_beq_eq_true hz)
      obtain ⟨s1, k1, k2⟩ := zk_link_ok b2 hs (zvs_at hv b1) (zvs_at hv a1) (by omega)
      exact zr_aL_ok hv k1 k2 (fun q' hq' => hq q' (List.mem_cons_of_mem _ hq'))
theorem zs_ru {M : xM} {d pc : Nat} {RT : List zRu} (hRT : ∀ r ∈ RT, zRuOk E.2.2.2.2.1 r) (hJo : zJok E.1 E.2.1.2 E.2.2.2.2.1) (hSP : E.2.1.1.length ≤ 83) (hX : ∀ (k : Nat) (y : zY), zsp E.2.1.1 k = some y → k < E.2.2.1.2.length) {n : Nat} {f : zD} {nx ag : zN} {jp : Nat → zN} {ca : zKc} (hf : zNok E M d pc (f nx jp ag ca)) : zNok E M d pc (zd_ru E.2.1 RT n f nx jp ag ca) := by
  intro rt lv st h sy hk ρ lm lvC stC ws ws0 K hR hA hJ hT
  obtain ⟨r, r1, r2⟩ := zk_nth_ok hk
  have hr := hRT r (List.mem_of_getElem? r1)
  have hlen : ∀ (k : Nat) (y : zY), zsp E.2.1.1 k = some y → k < ws.length := fun k y hy => by
    have := hX k y hy
    rw [hR.2.2.1.2.1, List.length_map] at this
    exact this
  have go : ∀ (vs : List zV) (z w : Int), zr_go E.2.1 r vs h sy lv (fun h' sy' => f nx jp ag ca rt lv st h' sy') = true → zvs ρ vs [z, w] → (r.1 = 0 ∨ E.2.2.2.2.1 r.1 z w ws) → yOk E.1 M d pc lvC stC ws K := by
    intro vs z w hq hv hJ0
    obtain ⟨vs', h1, sy1, ρ1, lm1, zs', g1, g2, g3, g4, g5, gsrc⟩ := zr_src_ok hJo hSP hR.2.2.1 hlen hq hR.2.2.2.2.1 ⟨hR.1, hR.2.1, hR.2.2.2.1⟩ hv
    obtain ⟨c1, g6⟩ := zcd g1 rfl
    have c2 := xan c1
    obtain ⟨h2, sy2, ρ2, lm2, k1, k2, k3, k4, k5⟩ := zr_pl_ok hSP hR.2.2.1 hlen g6 g4 g5
    obtain ⟨al, al1, al2, al3, al4⟩ := hr ws ([z, w] ++ zs') gsrc hJ0 (fun q hq => by
      obtain ⟨a, a1, a2⟩ := zk_nth_ok (zk_all_ok c2.1 q hq)
      obtain ⟨x, lo, hi, x1, x2, x3, x4⟩ := zk_rng_i a2 g4.1
      rw [zi_fun x1 (zvs_at g5 a1)] at x2 x3
      have c3 := xan x4
      have l1 := zle_ok.mp c3.1
      have l2 := zle_ok.mp c3.2
      omega) (fun q hq => by
      obtain ⟨a, a1, a2⟩ := zk_nth_ok (zk_all_ok c2.2 q hq)
      obtain ⟨b, b1, b2⟩ := zk_nth_ok a2
      obtain ⟨x, x1, x2⟩ := zge_ok g4.1 b2 (zvs_at g5 b1)
      rw [zi_fun x1 (zvs_at g5 a1)] at x2
      exact x2) k5
    have hz := zk_all_ok k1 al al1
    have hv2 := zvs_mono k2 g5
    obtain ⟨sy3, p1, p2⟩ := zr_aR_ok hv2 hz k4.1 al2
    obtain ⟨h4, sy4, ρ4, lm4, q1, q2, q3, q4⟩ := zr_aP_ok hSP hR.2.2.1 hlen p1 ⟨p2, k4.2⟩ hv2 al3
    obtain ⟨sy5, t1, t2⟩ := zr_aL_ok (zvs_mono q2 hv2) q1 q4.1 al4
    obtain ⟨F, f1, f2⟩ := zr_aO_ok (zvs_mono q2 hv2) t1 q4.2.2 al4
    have e := xx_e_tr g2 (xx_e_tr k2 q2)
    have e' := xx_e_tr g3 (xx_e_tr k3 q3)
    exact hf rt lv st _ sy5 f1 ρ4 lm4 lvC stC ws ws0 K (zRel_ext2 (h' := (F, h4.2)) e e' t2 q4.2.1 f2 hR) hA (zmd_ext e hJ) (zRT_ext e e' hT)
  have r3 : cond (Nat.beq r.1 0) (zr_go E.2.1 r [(0, 0, 0), (0, 0, 0)] h sy lv (fun h' sy' => f nx jp ag ca rt lv st h' sy')) (zk_any h.1 fun f' => cond (and (Nat.beq f'.1 r.1) (Nat.ble 1000 f'.1)) (zr_go E.2.1 r [f'.2.1, f'.2.2] h sy lv (fun h' sy' => f nx jp ag ca rt lv st h' sy')) false) = true := r2
  cases h0 : Nat.beq r.1 0 with
  | true =>
    rw [h0, cond_true] at r3
    exact go _ 0 0 r3 ⟨Or.inl ⟨rfl, rfl⟩, Or.inl ⟨rfl, rfl⟩, trivial⟩ (Or.inl (Nat.eq_of_beq_eq_true h0))
  | false =>
    rw [h0, cond_false] at r3
    obtain ⟨f', m1, m2⟩ := zk_any_ok r3
    obtain ⟨c1, m3⟩ := zcd m2 rfl
    have c2 := xan c1
    obtain ⟨z, w, z1, w1, j1⟩ := (hR.2.2.2.1 f' m1).1 (Nat.le_of_ble_eq_true c2.2)
    rw [Nat.eq_of_beq_eq_true c2.1] at j1
    exact go _ z w m3 ⟨z1, w1, trivial⟩ (Or.inr j1)
/-- one or the other -/
noncomputable def zd_or (f f' : zD) : zD := fun nx jp ag ca rt lv st h sy => or (f nx jp ag ca rt lv st h sy) (f' nx jp ag ca rt lv st h sy)
theorem zs_or {M : xM} {d pc : Nat} {f f' : zD} {nx ag : zN} {jp : Nat → zN} {ca : zKc} (hf : zNok E M d pc (f nx jp ag ca)) (hf' : zNok E M d pc (f' nx jp ag ca)) : zNok E M d pc (zd_or f f' nx jp ag ca) := by
  intro rt lv st h sy hk
  rcases zor hk with q | q
  · exact hf rt lv st h sy q
  · exact hf' rt lv st h sy q
end ZRu
