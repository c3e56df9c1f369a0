/-- numbers and references that the loop wants -/
def zx_ns : List (Nat × Nat × Nat) := [(88, 4, 0), (91, 0, 3), (92, 0, 3), (94, 0, 0), (111, 0, 0), (119, 20, 0), (88, 28, 0), (74, 1, 0), (88, 12, 0), (88, 39, 0)]
def zx_rs : List (Nat × Nat × Nat) := [(0, 1, 4), (0, 9, 25), (47, 0, 4)]
def zx_eq (o : Option Nat) (n : Nat) : Bool := match o with
  | some m => Nat.beq m n
  | none => false
theorem zx_eq_ok {o : Option Nat} {n : Nat} (h : zx_eq o n = true) : o = some n := by
  cases o with
  | none => cases h
  | some m => rw [Nat.eq_of_beq_eq_true (show Nat.beq m n = true from h)]
def zstart (h : xH) : Bool := and (Nat.beq h.1 140) (and ((List.range 996).all fun k => match zsp zCF.1 k with
    | none => true
    | some y => match xl h k with
      | some c => zx_c y c
      | none => false) (and (zx_ns.all fun q => zx_eq (zx_n h q.1 q.2.1) q.2.2) (and ((List.range 16).all fun s => zx_eq (zx_n h 121 s) 0) (zx_rs.all fun q => zx_eq (zx_r h q.1 q.2.1) q.2.2))))
theorem zTw_start {g : yG} {X : xX} {L : Nat} {ρ : List Int32} {ws : va_W} {h : xH} (hX : g.1.2.1 = X) (hL : g.1.2.2.2.2.1 = L) (hs : zstart h = true) (hc : ∀ (k : Nat) (p : Nat × va_E) (c : xC), ws[k]? = some p → xl h k = some c → xcell X ρ (xaw ws) g.2 c p.2) : zTw g zCF.1 ((X, L), xaw ws) ws := by
  refine ⟨by rw [← hX, ← hL], rfl, fun k y p hy hp => ?_⟩
  have hk : k < 996 := by
    have := zsp_lt zSP_len hy
    refine Classical.byContradiction fun q => ?_
    have hy' : (zCF.1[k / 12]?).bind (fun c => c[k % 12]?) = some y := hy
    have hl := zSP_len
    rw [List.getElem?_eq_none (by omega)] at hy'
    cases hy'
  have h1 := List.all_eq_true.mp (xan (xan hs).2).1 k (List.mem_range.mpr hk)
  rw [hy] at h1
  dsimp only at h1
  cases hx : xl h k with
  | none => rw [hx] at h1; cases h1
  | some c =>
    rw [hx] at h1
    exact zx_c_ok h1 (hc k p c hp hx)
theorem zx_num {X : xX} {ρ : List Int32} {ws : va_W} {tys : List (ClassId × FieldType)} {h : xH} (hs : zstart h = true) (hl : h.1 = ws.length) (hc : ∀ (k : Nat) (p : Nat × va_E) (c : xC), ws[k]? = some p → xl h k = some c → xcell X ρ (xaw ws) tys c p.2) {q : Nat × Nat × Nat} (hq : q ∈ zx_ns) (h1 : q.1 < 140) (h2 : q.2.2 < 1000) : zwo ws q.1 q.2.1 = some (q.2.2 : Int) := by
  have e0 : h.1 = 140 := Nat.eq_of_beq_eq_true (xan hs).1
  have a := zx_eq_ok (List.all_eq_true.mp (xan (xan (xan hs).2).2).1 q hq)
  rw [zx_n_ok hc (by omega) a]
  congr 1
  exact nI_toInt (by omega)
theorem zJ_start {g : yG} {ρ : List Int32} {X : xX} {ws : va_W} {h : xH} (hs : zstart h = true) (hl : h.1 = ws.length) (hc : ∀ (k : Nat) (p : Nat × va_E) (c : xC), ws[k]? = some p → xl h k = some c → xcell X ρ (xaw ws) g.2 c p.2) : zj0 (zwo ws) ∧ zj1 (zwo ws) ∧ zj2 (zwo ws) ∧ zj5 (zwo ws) := by
  have e0 : h.1 = 140 := Nat.eq_of_beq_eq_true (xan hs).1
  have n4 : zgv (zwo ws) 88 4 = 0 := zgv_some (zx_num hs hl hc (q := (88, 4, 0)) (by decide) (by decide) (by decide))
  have na : zgv (zwo ws) 94 0 = 0 := zgv_some (zx_num hs hl hc (q := (94, 0, 0)) (by decide) (by decide) (by decide))
  have nf : zgv (zwo ws) 111 0 = 0 := zgv_some (zx_num hs hl hc (q := (111, 0, 0)) (by decide) (by decide) (by decide))
  have nk : zgv (zwo ws) 88 12 = 0 := zgv_some (zx_num hs hl hc (q := (88, 12, 0)) (by decide) (by decide) (by decide))
  have nu : zgv (zwo ws) 88 39 = 0 := zgv_some (zx_num hs hl hc (q := (88, 39, 0)) (by decide) (by decide) (by decide))
  refine ⟨fun s hs' => ?_, fun b hb hk => ?_, fun b hb hk hf => ?_, ?_⟩
  · have a := zx_eq_ok (List.all_eq_true.mp (xan (xan (xan (xan hs).2).2).2).1 s (List.mem_range.mpr hs'))
    have b := zgv_some (zx_n_ok hc (by omega) a)
    exact Or.inl (by rw [b]; exact nI_toInt (by omega))
  · have eb : b = 0 := by omega
    subst eb
    rw [na]
    exact fun a ha hn => absurd hn (by omega)
  · have eb : b = 0 := by omega
    subst eb
    omega
  · unfold zj5
    omega
theorem zsp_140b : ((List.range 996).all fun k => match zsp zCF.1 k with
    | none => true
    | some _ => Nat.ble (k + 1) 140) = true := by decide +kernel
theorem zsp_140 {k : Nat} {y : zY} (hy : zsp zCF.1 k = some y) : k < 140 := by
  have hk : k < 996 := by
    refine Classical.byContradiction fun q => ?_
    have hy' : (zCF.1[k / 12]?).bind (fun c => c[k % 12]?) = some y := hy
    have hl := zSP_len
    rw [List.getElem?_eq_none (by omega)] at hy'
    cases hy'
  have h1 := List.all_eq_true.mp zsp_140b k (List.mem_range.mpr hk)
  rw [hy] at h1
  exact Nat.le_of_ble_eq_true h1
/-- the loop's head, entered -/
noncomputable def zstop : xN := fun lv st h sy ce sl => cond (and (match lv, st with
    | [a, b, c, d], [] => and (and (Nat.beq a.1 6) (and (Nat.beq b.1 3) (Nat.beq b.2 0))) (and (and (Nat.beq c.1 3) (Nat.beq c.2 88)) (and (Nat.beq d.1 0) (Nat.beq d.2 0)))
    | _, _ => false) (and (zstart h) (and (Nat.ble ce 600000) (Nat.ble sl 7302250)))) (some [(some (0, 1), (140, []), sy)]) none
theorem zstop_ok {gl : xGl} (hC : ∀ tys, zCok (gl, tys) zCF (zJf (gl, tys)) zc_law) (hL : gl.2.2.2.2.1 ≤ 3072) : xNok gl xLW 58 18 zstop := by
  intro lv st h sy ce sl outs hk p e R s m args below meth c Q H locs ls vs ρ ws tys hF hW hs hr hst hlv hRT
  unfold zstop at hk
  obtain ⟨c1, hk2⟩ := xcd hk rfl
  cases hk2
  have c2 := xan c1
  have c3 := xan c2.2
  have c4 := xan c3.2
  have hce := Nat.le_of_ble_eq_true c4.1
  have hsl := Nat.le_of_ble_eq_true c4.2
  obtain ⟨w1, w2, w3, w4, w5, w6⟩ := hW
  split at c2
  · rename_i a b c' d
    have d1 := xan c2.1
    have d2 := xan d1.1
    have d3 := xan d2.2
    have d4 := xan d1.2
    have d5 := xan d4.1
    have d6 := xan d4.2
    obtain ⟨a1, a2⟩ := a
    obtain ⟨b1, b2⟩ := b
    obtain ⟨g1, g2⟩ := c'
    obtain ⟨h1, h2⟩ := d
    have ea : a1 = 6 := Nat.eq_of_beq_eq_true d2.1
    have eb1 : b1 = 3 := Nat.eq_of_beq_eq_true d3.1
    have eb2 : b2 = 0 := Nat.eq_of_beq_eq_true d3.2
    have eg1 : g1 = 3 := Nat.eq_of_beq_eq_true d5.1
    have eg2 : g2 = 88 := Nat.eq_of_beq_eq_true d5.2
    have eh1 : h1 = 0 := Nat.eq_of_beq_eq_true d6.1
    have eh2 : h2 = 0 := Nat.eq_of_beq_eq_true d6.2
    subst ea; subst eb1; subst eb2; subst eg1; subst eg2; subst eh1; subst eh2
    have evs : vs = [] := xx_2_nil hst
    subst evs
    obtain ⟨l1, l2, l3, l4⟩ := hlv
    obtain ⟨v0, u0, x0⟩ := l4 0 _ rfl (show (6 : Nat) ≠ 9 by decide)
    obtain ⟨v1, u1, x1⟩ := l4 1 _ rfl (by decide)
    obtain ⟨v2, u2, x2⟩ := l4 2 _ rfl (by decide)
    obtain ⟨v3, u3, x3⟩ := l4 3 _ rfl (by decide)
    obtain ⟨q1, y1, rfl⟩ := (x1 : ∃ q, (xaw ws)[0]? = some q ∧ v1 = .ref q)
    obtain ⟨q2, y2, rfl⟩ := (x2 : ∃ q, (xaw ws)[88]? = some q ∧ v2 = .ref q)
    have ev0 : v0 = .ref gl.2.1.1 := x0
    have ev3 : v3 = .int (Int32.ofNat 0) := x3
    subst ev0
    subst ev3
    have e0 : h.1 = 140 := Nat.eq_of_beq_eq_true (xan c3.1).1
    have hlen : (Int32.ofNat gl.2.2.2.2.1).toInt = (gl.2.2.2.2.1 : Int) := nI_toInt (by omega)
    have hT := zTw_start (g := (gl, tys)) (X := gl.2.1) (L := gl.2.2.2.2.1) (ρ := ρ) (ws := ws) rfl rfl c3.1 w6
    obtain ⟨j0, j1, j2, j5⟩ := zJ_start (g := (gl, tys)) (X := gl.2.1) c3.1 w5 w6
    have num : ∀ q : Nat × Nat × Nat, q ∈ zx_ns → q.1 < 140 → q.2.2 < 1000 → ∃ p x, ws[q.1]? = some p ∧ zat p.2 q.2.1 = some (.int x) ∧ x.toInt = (q.2.2 : Int) := fun q a b c => zwo_inv (zx_num c3.1 w5 w6 a b c)
    have ref : ∀ q : Nat × Nat × Nat, q ∈ zx_rs → q.1 < 140 → ∃ p r, ws[q.1]? = some p ∧ zat p.2 q.2.1 = some (.ref r) ∧ (xaw ws)[q.2.2]? = some r := fun q a b => zx_r_ok w6 (by omega) (zx_eq_ok (List.all_eq_true.mp (xan (xan (xan (xan c3.1).2).2).2).2 q a))
    have hX : zXok zCF ((gl.2.1, gl.2.2.2.2.1), xaw ws) := fun k y hy => by
      show k < (xaw ws).length
      rw [List.length_map]
      have := zsp_140 hy
      omega
    have key := hC tys [Int32.ofNat gl.2.2.2.2.1, 0, 0, 3, 3, 0, 0, 0] xLW (xe_0 18 1 (.iload_n 3)) rfl rfl ((gl.2.1, gl.2.2.2.2.1), xaw ws) ws [] [some (.ref gl.2.1.1), some (.ref q1), some (.ref q2), some (.int (Int32.ofNat 0))] (fun r ws' => r = some (.int 1) ∧ xaw ws' = xaw ws) hX ?_ trivial hT ?_ ?_ ?_
    · exact key p e R s m args below meth c Q H locs ls ce sl hF ⟨w1, w2, w3, w4⟩ ⟨rfl, l2, l3, fun i v hi => by
        match i, hi with
        | 0, hi => cases hi; exact u0
        | 1, hi => cases hi; exact u1
        | 2, hi => cases hi; exact u2
        | 3, hi => cases hi; exact u3
        | i + 4, hi => simp at hi⟩ hce hsl (fun r ws' H' locs' ls' pc' hK hW' => by
        obtain ⟨rfl, ew⟩ := hK
        refine ⟨fun q => (nomatch q), fun x ty hx hret hnar hdec => ?_, fun x hx => (nomatch hx)⟩
        cases hx
        exact (hRT _ List.mem_cons_self ρ ws' tys H' locs' ls' pc' ce sl (xx_e_rf _) (by rw [ew]; exact xx_e_rf _) hs ⟨hW'.1, hW'.2.1, hW'.2.2.1, hW'.2.2.2, by
          have el : (xaw ws').length = (xaw ws).length := by rw [ew]
          rw [List.length_map, List.length_map] at el
          show 140 = ws'.length
          omega, fun k p' c' _ hx => by
          have : (none : Option xC) = some c' := hx
          cases this⟩ hce hsl).2.1 (0, 1) 1 ty rfl hret rfl hnar hdec)
    · refine ⟨rfl, fun k e' x he hx => ?_⟩
      match k, he, hx with
      | 0, he, hx => cases he; cases hx; exact ⟨by show (0 : Int) ≤ _; omega, by show _ ≤ (3072 : Int); omega, by decide, fun p y q => (nomatch q)⟩
      | 1, he, hx => cases he; cases hx; exact ⟨by decide, by decide, by decide, fun p y q => (nomatch q)⟩
      | 2, he, hx => cases he; cases hx; exact ⟨by decide, by decide, by decide, fun p y q => (nomatch q)⟩
      | 3, he, hx => cases he; cases hx; exact ⟨by decide, by decide, by decide, fun p y q => (nomatch q)⟩
      | 4, he, hx => cases he; cases hx; exact ⟨by decide, by decide, by decide, fun p y q => (nomatch q)⟩
      | 5, he, hx => cases he; cases hx; exact ⟨by decide, by decide, by decide, fun p y q => (nomatch q)⟩
      | 6, he, hx => cases he; cases hx; exact ⟨by decide, by decide, by decide, fun p y q => (nomatch q)⟩
      | 7, he, hx => cases he; cases hx; exact ⟨by decide, by decide, by decide, fun p y q => (nomatch q)⟩
      | k + 8, he, hx => exact absurd hx (by simp)
    · have fn : ∀ (r j n k : Nat) (key : zV) (y : Int32), (r, j, n) ∈ zx_ns → r < 140 → n < 1000 → ([Int32.ofNat gl.2.2.2.2.1, 0, 0, 3, 3, 0, 0, 0] : List Int32)[k]? = some y → y.toInt = (n : Int) → zi [Int32.ofNat gl.2.2.2.2.1, 0, 0, 3, 3, 0, 0, 0] key (j : Int) → zfa1 ((gl.2.1, gl.2.2.2.2.1), xaw ws) (zJf (gl, tys)) [Int32.ofNat gl.2.2.2.2.1, 0, 0, 3, 3, 0, 0, 0] [] ws (r, key, (1, k, .ofNat 0)) := by
        intro r j n k key y h1 h2 h3 h4 h5 h6
        obtain ⟨p', x, p1, p2, p3⟩ := num (r, j, n) h1 h2 h3
        refine ⟨fun q => absurd (show 1000 ≤ r from q) (by omega), fun _ => ⟨p', .int x, (j : Int), p1, h6, by omega, p2, x, y, h4, rfl, ?_⟩⟩
        have p3' : x.toInt = (n : Int) := p3
        show x.toInt = y.toInt + 0
        omega
      have fr : ∀ (r j n : Nat), (r, j, n) ∈ zx_rs → r < 140 → zfa1 ((gl.2.1, gl.2.2.2.2.1), xaw ws) (zJf (gl, tys)) [Int32.ofNat gl.2.2.2.2.1, 0, 0, 3, 3, 0, 0, 0] [] ws (r, (0, 0, .ofNat j), (3, n, .ofNat 0)) := by
        intro r j n h1 h2
        obtain ⟨p', r', p1, p2, p3⟩ := ref (r, j, n) h1 h2
        exact ⟨fun q => absurd (show 1000 ≤ r from q) (by omega), fun _ => ⟨p', .ref r', (j : Int), p1, Or.inl ⟨rfl, rfl⟩, by omega, p2, r', p3, rfl⟩⟩
      have fj : ∀ (id : Nat), zJf (gl, tys) id 0 0 ws → 1000 ≤ id → zfa1 ((gl.2.1, gl.2.2.2.2.1), xaw ws) (zJf (gl, tys)) [Int32.ofNat gl.2.2.2.2.1, 0, 0, 3, 3, 0, 0, 0] [] ws (id, (0, 0, .ofNat 0), (0, 0, .ofNat 0)) := fun id h1 h2 => ⟨fun _ => ⟨0, 0, Or.inl ⟨rfl, rfl⟩, Or.inl ⟨rfl, rfl⟩, h1⟩, fun q => absurd (show id < 1000 from q) (by omega)⟩
      have zc : ∀ j : Nat, zi [Int32.ofNat gl.2.2.2.2.1, 0, 0, 3, 3, 0, 0, 0] (0, 0, .ofNat j) (j : Int) := fun j => Or.inl ⟨rfl, rfl⟩
      have zb : zi [Int32.ofNat gl.2.2.2.2.1, 0, 0, 3, 3, 0, 0, 0] (1, 2, .ofNat 0) ((0 : Nat) : Int) := Or.inr ⟨rfl, 0, rfl, rfl⟩
      exact List.forall_mem_cons.mpr ⟨fr 0 1 4 (by decide) (by decide), List.forall_mem_cons.mpr ⟨fr 0 9 25 (by decide) (by decide), List.forall_mem_cons.mpr ⟨fr 47 0 4 (by decide) (by decide), List.forall_mem_cons.mpr ⟨fn 88 4 0 2 _ 0 (by decide) (by decide) (by decide) rfl (by decide) (zc 4), List.forall_mem_cons.mpr ⟨fn 91 0 3 3 _ 3 (by decide) (by decide) (by decide) rfl (by decide) zb, List.forall_mem_cons.mpr ⟨fn 92 0 3 4 _ 3 (by decide) (by decide) (by decide) rfl (by decide) zb, List.forall_mem_cons.mpr ⟨fn 94 0 0 5 _ 0 (by decide) (by decide) (by decide) rfl (by decide) zb, List.forall_mem_cons.mpr ⟨fn 119 20 0 6 _ 0 (by decide) (by decide) (by decide) rfl (by decide) (zc 20), List.forall_mem_cons.mpr ⟨fn 88 28 0 7 _ 0 (by decide) (by decide) (by decide) rfl (by decide) (zc 28), List.forall_mem_cons.mpr ⟨fn 74 1 0 7 _ 0 (by decide) (by decide) (by decide) rfl (by decide) (zc 1), List.forall_mem_cons.mpr ⟨fj 1000 j0 (by decide), List.forall_mem_cons.mpr ⟨fj 1001 j1 (by decide), List.forall_mem_cons.mpr ⟨fj 1002 j2 (by decide), List.forall_mem_cons.mpr ⟨fj 1005 j5 (by decide), fun _ h => absurd h List.not_mem_nil⟩⟩⟩⟩⟩⟩⟩⟩⟩⟩⟩⟩⟩⟩
    · refine ⟨Or.inr ⟨_, rfl, rfl, _, rfl, hlen⟩, Or.inr ⟨_, rfl, q1, y1, rfl⟩, Or.inr ⟨_, rfl, q2, y2, rfl⟩, Or.inr ⟨_, rfl, Int32.ofNat 0, 0, rfl, rfl, rfl⟩, trivial⟩
    · intro r ws' hE
      obtain ⟨o, ho, ρ', lm', -, -, -, -, -, -, hag, hret⟩ := hE
      have eo : o = (some (0, 0, .ofNat 1), ([], []), zc_law.2.2.2.2.2.1) := List.mem_singleton.mp ho
      subst eo
      refine ⟨?_, hag.1⟩
      rcases hret with ⟨q, -⟩ | ⟨a', v', q1', q2', q3'⟩
      · cases q
      · cases q1'
        obtain ⟨x, rfl, hx⟩ := (q3' : ∃ x : Int32, v' = .int x ∧ x.toInt = 1)
        rw [q2']
        congr 2
        exact Int32.toInt_inj.mp (by rw [hx]; rfl)
  · cases c2.1
