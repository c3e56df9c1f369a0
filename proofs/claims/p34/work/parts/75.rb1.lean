/-! the rules hold: printed by wip/p34/genrule2.py -/
theorem zrn_40 (g : yG) : zRuN (zJf g) zru_40 := by
  intro ws z w hj n2 s2 n3 s3 n4 s4 n5 s5 n6 s6 n7 s7 l0 u0 l1 u1 l2 u2 g0 g1
  replace hj : zj20 3 z w (zwo ws) := hj.resolve_left (by decide)
  clear s2
  clear s3
  replace s4 : zwo ws 88 4 = some n4 := s4
  replace s5 : n5 = (3 : Int) := s5
  replace s6 : n6 = n5 + n2 * (5 : Int) := s6
  replace s7 : n7 = n6 + n4 * (80 : Int) := s7
  replace l0 : (0 : Int) ≤ n2 := l0
  replace u0 : n2 ≤ (15 : Int) := u0
  replace l1 : (3 : Int) ≤ n3 := l1
  replace u1 : n3 ≤ (3 : Int) := u1
  replace l2 : (0 : Int) ≤ n4 := l2
  replace u2 : n4 ≤ (1 : Int) := u2
  replace g0 : n2 + (0 : Int) ≤ z := g0
  replace g1 : z + (0 : Int) ≤ n2 := g1
  show ((True) ∧ (True) ∧ ((0 ≤ (n7 + (0 : Int)) ∧ zwo ws 102 (n7 + (0 : Int)).toNat = some (w + (0 : Int))) ∧ True)) ∨ False
  try simp only [Int.add_zero, Int.zero_add] at *
  obtain ⟨a, ha, e1, h⟩ := hj
  have hb := zgv_some s4
  refine Or.inl ⟨trivial, trivial, ⟨⟨by omega, ?_⟩, trivial⟩⟩
  have h2 := h n4.toNat (by omega) (by omega)
  rw [show n7.toNat = 80 * n4.toNat + 5 * a + 3 by omega]
  exact h2
theorem zrn_41 (g : yG) : zRuN (zJf g) zru_41 := by
  intro ws z w hj n2 s2 n3 s3 n4 s4 n5 s5 n6 s6 n7 s7 n8 s8 l0 u0 l1 u1 l2 u2
  clear hj
  clear s2
  clear s3
  replace s4 : zwo ws 88 4 = some n4 := s4
  replace s5 : n5 = (3 : Int) := s5
  replace s6 : n6 = n5 + n2 * (5 : Int) := s6
  replace s7 : n7 = n6 + n4 * (80 : Int) := s7
  replace s8 : 0 ≤ n7 ∧ zwo ws 102 (n7).toNat = some n8 := s8
  replace l0 : (0 : Int) ≤ n2 := l0
  replace u0 : n2 ≤ (15 : Int) := u0
  replace l1 : (3 : Int) ≤ n3 := l1
  replace u1 : n3 ≤ (3 : Int) := u1
  replace l2 : (0 : Int) ≤ n4 := l2
  replace u2 : n4 ≤ (1 : Int) := u2
  show ((True) ∧ (True) ∧ (zj20 3 (n2 + (0 : Int)) (n8 + (0 : Int)) (zwo ws) ∧ True)) ∨ False
  try simp only [Int.add_zero, Int.zero_add] at *
  have hb := zgv_some s4
  refine Or.inl ⟨trivial, trivial, ⟨⟨n2.toNat, by omega, by omega, fun b hb2 hk => ?_⟩, trivial⟩⟩
  rw [show 80 * b + 5 * n2.toNat + 3 = n7.toNat by omega]
  exact s8.2
theorem zrn_42 (g : yG) : zRuN (zJf g) zru_42 := by
  intro ws z w hj n2 s2 n3 s3 n4 s4 n5 s5 n6 s6 l0 u0 l1 u1 l2 u2 x0 o0 p0 v0 t0
  replace hj : zj0 (zwo ws) := hj.resolve_left (by decide)
  clear s2
  replace s3 : 0 ≤ n2 ∧ zwo ws 120 (n2).toNat = some n3 := s3
  replace s4 : zwo ws 88 4 = some n4 := s4
  replace s5 : n5 = (0 : Int) := s5
  clear s6
  replace l0 : (0 : Int) ≤ n2 := l0
  replace u0 : n2 ≤ (15 : Int) := u0
  replace l1 : (0 : Int) ≤ n4 := l1
  replace u1 : n4 ≤ (1 : Int) := u1
  replace l2 : (4 : Int) ≤ n6 := l2
  replace u2 : n6 ≤ (4 : Int) := u2
  replace o0 : 0 ≤ (n4 + (0 : Int)) := o0
  replace p0 : zwo ws 92 (n4 + (0 : Int)).toNat = some x0 := p0
  replace v0 : (2 : Int) ≤ x0 := v0
  replace t0 : x0 ≤ (5 : Int) := t0
  show ((True) ∧ ((∀ x, 0 ≤ (n2 + (0 : Int)) → zwo ws 121 (n2 + (0 : Int)).toNat = some x → (0 : Int) ≤ x ∧ x ≤ (0 : Int)) ∧ True) ∧ (True)) ∨ ((True) ∧ ((∀ x, 0 ≤ (n2 + (0 : Int)) → zwo ws 121 (n2 + (0 : Int)).toNat = some x → (1 : Int) ≤ x ∧ x ≤ (1 : Int)) ∧ True) ∧ (True)) ∨ ((True) ∧ ((∀ x, 0 ≤ (n2 + (0 : Int)) → zwo ws 121 (n2 + (0 : Int)).toNat = some x → (2 : Int) ≤ x ∧ x ≤ (2 : Int)) ∧ (∀ x, 0 ≤ (n2 + (0 : Int)) → zwo ws 124 (n2 + (0 : Int)).toNat = some x → (1 : Int) ≤ x ∧ x ≤ (1 : Int)) ∧ (∀ x, 0 ≤ (n2 + (0 : Int)) → zwo ws 120 (n2 + (0 : Int)).toNat = some x → (0 : Int) ≤ x ∧ x ≤ (18 : Int)) ∧ True) ∧ (True)) ∨ ((True) ∧ ((∀ x, 0 ≤ (n2 + (0 : Int)) → zwo ws 121 (n2 + (0 : Int)).toNat = some x → (3 : Int) ≤ x ∧ x ≤ (3 : Int)) ∧ (∀ x, 0 ≤ (n2 + (0 : Int)) → zwo ws 124 (n2 + (0 : Int)).toNat = some x → (1 : Int) ≤ x ∧ x ≤ (1 : Int)) ∧ (∀ x, 0 ≤ (n2 + (0 : Int)) → zwo ws 120 (n2 + (0 : Int)).toNat = some x → (0 : Int) ≤ x ∧ x ≤ (17 : Int)) ∧ True) ∧ (True)) ∨ ((True) ∧ ((∀ x, 0 ≤ (n2 + (0 : Int)) → zwo ws 121 (n2 + (0 : Int)).toNat = some x → (4 : Int) ≤ x ∧ x ≤ (4 : Int)) ∧ (∀ x, 0 ≤ (n2 + (0 : Int)) → zwo ws 124 (n2 + (0 : Int)).toNat = some x → (1 : Int) ≤ x ∧ x ≤ (1 : Int)) ∧ (∀ x, 0 ≤ (n2 + (0 : Int)) → zwo ws 120 (n2 + (0 : Int)).toNat = some x → (0 : Int) ≤ x ∧ x ≤ (16 : Int)) ∧ True) ∧ (True)) ∨ ((True) ∧ ((∀ x, 0 ≤ (n2 + (0 : Int)) → zwo ws 121 (n2 + (0 : Int)).toNat = some x → (5 : Int) ≤ x ∧ x ≤ (5 : Int)) ∧ (∀ x, 0 ≤ (n2 + (0 : Int)) → zwo ws 124 (n2 + (0 : Int)).toNat = some x → (1 : Int) ≤ x ∧ x ≤ (1 : Int)) ∧ (∀ x, 0 ≤ (n2 + (0 : Int)) → zwo ws 120 (n2 + (0 : Int)).toNat = some x → (0 : Int) ≤ x ∧ x ≤ (15 : Int)) ∧ True) ∧ (zj15 4 (n2 + (0 : Int)) (n3 + (4 : Int)) (zwo ws) ∧ True)) ∨ ((True) ∧ ((∀ x, 0 ≤ (n2 + (0 : Int)) → zwo ws 121 (n2 + (0 : Int)).toNat = some x → (2 : Int) ≤ x ∧ x ≤ (2 : Int)) ∧ (∀ x, 0 ≤ (n2 + (0 : Int)) → zwo ws 124 (n2 + (0 : Int)).toNat = some x → (0 : Int) ≤ x ∧ x ≤ (0 : Int)) ∧ (∀ x, 0 ≤ (n2 + (0 : Int)) → zwo ws 120 (n2 + (0 : Int)).toNat = some x → (0 : Int) ≤ x ∧ x ≤ (14 : Int)) ∧ True) ∧ (True)) ∨ ((True) ∧ ((∀ x, 0 ≤ (n2 + (0 : Int)) → zwo ws 121 (n2 + (0 : Int)).toNat = some x → (3 : Int) ≤ x ∧ x ≤ (3 : Int)) ∧ (∀ x, 0 ≤ (n2 + (0 : Int)) → zwo ws 124 (n2 + (0 : Int)).toNat = some x → (0 : Int) ≤ x ∧ x ≤ (0 : Int)) ∧ (∀ x, 0 ≤ (n2 + (0 : Int)) → zwo ws 120 (n2 + (0 : Int)).toNat = some x → (0 : Int) ≤ x ∧ x ≤ (9 : Int)) ∧ True) ∧ (True)) ∨ ((True) ∧ ((∀ x, 0 ≤ (n2 + (0 : Int)) → zwo ws 121 (n2 + (0 : Int)).toNat = some x → (4 : Int) ≤ x ∧ x ≤ (4 : Int)) ∧ (∀ x, 0 ≤ (n2 + (0 : Int)) → zwo ws 124 (n2 + (0 : Int)).toNat = some x → (0 : Int) ≤ x ∧ x ≤ (0 : Int)) ∧ (∀ x, 0 ≤ (n2 + (0 : Int)) → zwo ws 120 (n2 + (0 : Int)).toNat = some x → (0 : Int) ≤ x ∧ x ≤ (4 : Int)) ∧ True) ∧ (True)) ∨ False
  try simp only [Int.add_zero, Int.zero_add] at *
  have h := hj n2.toNat (by omega)
  unfold zj_geo at h
  have hf := zgv_some s3.2
  have hb := zgv_some s4
  have hc := zgv_some p0
  have hz : ∀ (c : Int), (∀ b : Nat, b < 2 → zgv (zwo ws) 88 4 = (b : Int) → c = zgv (zwo ws) 120 n2.toNat + (4 : Int) * zj_stp (zwo ws) b n2.toNat) → zj15 4 n2 c (zwo ws) := fun c hc => ⟨n2.toNat, by omega, by omega, hc⟩
  have h5 : zgv (zwo ws) 121 n2.toNat = 0 ∨ zgv (zwo ws) 121 n2.toNat = 1 ∨ zgv (zwo ws) 121 n2.toNat = 2 ∨ zgv (zwo ws) 121 n2.toNat = 3 ∨ zgv (zwo ws) 121 n2.toNat = 4 ∨ zgv (zwo ws) 121 n2.toNat = 5 := by omega
  have hdn : ¬ zgv (zwo ws) 124 n2.toNat = 1 → ∀ b : Nat, b < 2 → zgv (zwo ws) 88 4 = (b : Int) → zj_stp (zwo ws) b n2.toNat = x0 := fun hq b hb2 hb3 => by
    unfold zj_stp
    rw [if_neg hq, show b = n4.toNat by omega]
    exact hc
  have hw : x0 = 2 ∨ x0 = 3 ∨ x0 = 4 ∨ x0 = 5 := by omega
  have hbb : n4 = 0 ∨ n4 = 1 := by omega
  rcases h5 with h5 | h5 | h5 | h5 | h5 | h5
  · exact Or.inl ⟨trivial, ⟨fun x hx0 hx => by have hv := zgv_some hx; omega, trivial⟩, trivial⟩
  · exact Or.inr (Or.inl ⟨trivial, ⟨fun x hx0 hx => by have hv := zgv_some hx; omega, trivial⟩, trivial⟩)
  · by_cases hq : zgv (zwo ws) 124 n2.toNat = 1
    · exact Or.inr (Or.inr (Or.inl ⟨trivial, ⟨fun x hx0 hx => by have hv := zgv_some hx; omega, fun x hx0 hx => by have hv := zgv_some hx; omega, fun x hx0 hx => by have hv := zgv_some hx; omega, trivial⟩, trivial⟩))
    · exact Or.inr (Or.inr (Or.inr (Or.inr (Or.inr (Or.inr (Or.inl ⟨trivial, ⟨fun x hx0 hx => by have hv := zgv_some hx; omega, fun x hx0 hx => by have hv := zgv_some hx; omega, fun x hx0 hx => by have hv := zgv_some hx; omega, trivial⟩, trivial⟩))))))
  · by_cases hq : zgv (zwo ws) 124 n2.toNat = 1
    · exact Or.inr (Or.inr (Or.inr (Or.inl ⟨trivial, ⟨fun x hx0 hx => by have hv := zgv_some hx; omega, fun x hx0 hx => by have hv := zgv_some hx; omega, fun x hx0 hx => by have hv := zgv_some hx; omega, trivial⟩, trivial⟩)))
    · exact Or.inr (Or.inr (Or.inr (Or.inr (Or.inr (Or.inr (Or.inr (Or.inl ⟨trivial, ⟨fun x hx0 hx => by have hv := zgv_some hx; omega, fun x hx0 hx => by have hv := zgv_some hx; omega, fun x hx0 hx => by have hv := zgv_some hx; omega, trivial⟩, trivial⟩)))))))
  · by_cases hq : zgv (zwo ws) 124 n2.toNat = 1
    · exact Or.inr (Or.inr (Or.inr (Or.inr (Or.inl ⟨trivial, ⟨fun x hx0 hx => by have hv := zgv_some hx; omega, fun x hx0 hx => by have hv := zgv_some hx; omega, fun x hx0 hx => by have hv := zgv_some hx; omega, trivial⟩, trivial⟩))))
    · exact Or.inr (Or.inr (Or.inr (Or.inr (Or.inr (Or.inr (Or.inr (Or.inr (Or.inl ⟨trivial, ⟨fun x hx0 hx => by have hv := zgv_some hx; omega, fun x hx0 hx => by have hv := zgv_some hx; omega, fun x hx0 hx => by have hv := zgv_some hx; omega, trivial⟩, trivial⟩))))))))
  · have hq : zgv (zwo ws) 124 n2.toNat = 1 := by omega
    exact Or.inr (Or.inr (Or.inr (Or.inr (Or.inr (Or.inl ⟨trivial, ⟨fun x hx0 hx => by have hv := zgv_some hx; omega, fun x hx0 hx => by have hv := zgv_some hx; omega, fun x hx0 hx => by have hv := zgv_some hx; omega, trivial⟩, ⟨hz _ (fun b _ _ => by unfold zj_stp; rw [if_pos hq]; omega), trivial⟩⟩)))))
theorem zrn_43 (g : yG) : zRuN (zJf g) zru_43 := by
  intro ws z w hj n2 s2 n3 s3 n4 s4 n5 s5 l0 u0 l1 u1 g0 g1 g2 g3
  replace hj : zj15 4 z w (zwo ws) := hj.resolve_left (by decide)
  clear s2
  clear s3
  replace s4 : 0 ≤ w ∧ zwo ws 119 (w).toNat = some n4 := s4
  replace s5 : zj9 4 n2 n5 (zwo ws) := s5
  replace l0 : (0 : Int) ≤ w := l0
  replace u0 : w ≤ (19 : Int) := u0
  replace l1 : (0 : Int) ≤ n4 := l1
  replace u1 : n4 ≤ (0 : Int) := u1
  replace g0 : n3 + (0 : Int) ≤ z := g0
  replace g1 : z + (0 : Int) ≤ n3 := g1
  replace g2 : n3 + (0 : Int) ≤ n5 := g2
  replace g3 : n5 + (0 : Int) ≤ n3 := g3
  show ((True) ∧ (True) ∧ (zj9 5 (n2 + (0 : Int)) (n3 + (0 : Int)) (zwo ws) ∧ True)) ∨ False
  try simp only [Int.add_zero, Int.zero_add] at *
  obtain ⟨s, hs, e1, h⟩ := hj
  obtain ⟨a, s', ha, hs', e2, e3, h'⟩ := s5
  have es : s' = s := by omega
  subst es
  have e4 := zgv_some s4.2
  refine Or.inl ⟨trivial, trivial, ⟨⟨a, s', ha, hs', by omega, by omega, fun b hb hk j hj h5 => ?_⟩, trivial⟩⟩
  by_cases q : j < 4
  · exact h' b hb hk j q h5
  · have ej : j = 4 := by omega
    subst ej
    intro c hc he
    have hw := h b hb hk
    have ec : w.toNat = c := by omega
    rw [ec] at e4
    exact Or.inl (by omega)
theorem zrn_44 (g : yG) : zRuN (zJf g) zru_44 := by
  intro ws z w hj n2 s2 n3 s3 n4 s4 n5 s5 n6 s6 l0 u0 g0 g1 g2 g3 g4 g5
  replace hj : zj15 4 z w (zwo ws) := hj.resolve_left (by decide)
  clear s2
  clear s3
  replace s4 : 0 ≤ w ∧ zwo ws 119 (w).toNat = some n4 := s4
  replace s5 : zj9 4 n2 n5 (zwo ws) := s5
  replace s6 : zj20 4 n2 n6 (zwo ws) := s6
  replace l0 : (0 : Int) ≤ w := l0
  replace u0 : w ≤ (19 : Int) := u0
  replace g0 : n3 + (0 : Int) ≤ z := g0
  replace g1 : z + (0 : Int) ≤ n3 := g1
  replace g2 : n3 + (0 : Int) ≤ n5 := g2
  replace g3 : n5 + (0 : Int) ≤ n3 := g3
  replace g4 : n6 + (0 : Int) ≤ n4 := g4
  replace g5 : n4 + (0 : Int) ≤ n6 := g5
  show ((True) ∧ (True) ∧ (zj9 5 (n2 + (0 : Int)) (n3 + (0 : Int)) (zwo ws) ∧ True)) ∨ False
  try simp only [Int.add_zero, Int.zero_add] at *
  obtain ⟨s, hs, e1, h⟩ := hj
  obtain ⟨a, s', ha, hs', e2, e3, h'⟩ := s5
  obtain ⟨a3, ha3, e6, h3⟩ := s6
  have es : s' = s := by omega
  subst es
  have e4 := zgv_some s4.2
  refine Or.inl ⟨trivial, trivial, ⟨⟨a, s', ha, hs', by omega, by omega, fun b hb hk j hj h5 => ?_⟩, trivial⟩⟩
  by_cases q : j < 4
  · exact h' b hb hk j q h5
  · have ej : j = 4 := by omega
    subst ej
    intro c hc he
    have hw := h b hb hk
    have ec : w.toNat = c := by omega
    rw [ec] at e4
    right
    have ea : a3 = a := by omega
    subst ea
    have hl := h3 b hb hk
    rw [e4, show n4 = n6 by omega]
    exact hl
theorem zrn_45 (g : yG) : zRuN (zJf g) zru_45 := by
  intro ws z w hj n2 s2 n3 s3 n4 s4 n5 s5 l0 u0 l1 u1 l2 u2 l3 u3 g0 g1 g2 g3 x0 o0 p0 v0 t0
  replace hj : zj15 4 z w (zwo ws) := hj.resolve_left (by decide)
  clear s2
  clear s3
  replace s4 : 0 ≤ w ∧ zwo ws 119 (w).toNat = some n4 := s4
  replace s5 : zj4 n2 n5 (zwo ws) := s5
  replace l0 : (0 : Int) ≤ w := l0
  replace u0 : w ≤ (19 : Int) := u0
  replace l1 : (0 : Int) ≤ n2 := l1
  replace u1 : n2 ≤ (15 : Int) := u1
  replace l2 : (0 : Int) ≤ n3 := l2
  replace u2 : n3 ≤ (15 : Int) := u2
  replace l3 : (0 : Int) ≤ n4 := l3
  replace u3 : n4 ≤ (27 : Int) := u3
  replace g0 : n3 + (0 : Int) ≤ z := g0
  replace g1 : z + (0 : Int) ≤ n3 := g1
  replace g2 : n3 + (0 : Int) ≤ n5 := g2
  replace g3 : n5 + (0 : Int) ≤ n3 := g3
  replace o0 : 0 ≤ (n3 + (0 : Int)) := o0
  replace p0 : zwo ws 121 (n3 + (0 : Int)).toNat = some x0 := p0
  replace v0 : (5 : Int) ≤ x0 := v0
  replace t0 : x0 ≤ (5 : Int) := t0
  show ((((0 : Int) ≤ n4 ∧ n4 ≤ (0 : Int)) ∧ True) ∧ (True) ∧ (True)) ∨ ((((1 : Int) ≤ n4 ∧ n4 ≤ (27 : Int)) ∧ True) ∧ (True) ∧ (zj20 4 (n2 + (0 : Int)) (n4 + (0 : Int)) (zwo ws) ∧ True)) ∨ False
  try simp only [Int.add_zero, Int.zero_add] at *
  obtain ⟨s, hs, e1, h⟩ := hj
  obtain ⟨a, s', ha, hs', e2, e3, h'⟩ := s5
  have es : s' = s := by omega
  subst es
  have e4 := zgv_some s4.2
  have e5 := zgv_some p0
  by_cases q : n4 = 0
  · exact Or.inl ⟨⟨⟨by omega, by omega⟩, trivial⟩, trivial, trivial⟩
  · refine Or.inr (Or.inl ⟨⟨⟨by omega, by omega⟩, trivial⟩, trivial, ⟨⟨a, ha, by omega, fun b hb hk => ?_⟩, trivial⟩⟩)
    have en : n3.toNat = s' := by omega
    rw [en] at e5
    have hw := h b hb hk
    rcases (h' b hb hk).2 4 (by omega) (by omega) w.toNat (by omega) (by omega) with q2 | q2
    · omega
    · rw [e4] at q2
      exact q2
theorem zrn_46 (g : yG) : zRuN (zJf g) zru_46 := by
  intro ws z w hj n2 s2 n3 s3 n4 s4 n5 s5 n6 s6 n7 s7 l0 u0 l1 u1 l2 u2 g0 g1
  replace hj : zj20 4 z w (zwo ws) := hj.resolve_left (by decide)
  clear s2
  clear s3
  replace s4 : zwo ws 88 4 = some n4 := s4
  replace s5 : n5 = (4 : Int) := s5
  replace s6 : n6 = n5 + n2 * (5 : Int) := s6
  replace s7 : n7 = n6 + n4 * (80 : Int) := s7
  replace l0 : (0 : Int) ≤ n2 := l0
  replace u0 : n2 ≤ (15 : Int) := u0
  replace l1 : (4 : Int) ≤ n3 := l1
  replace u1 : n3 ≤ (4 : Int) := u1
  replace l2 : (0 : Int) ≤ n4 := l2
  replace u2 : n4 ≤ (1 : Int) := u2
  replace g0 : n2 + (0 : Int) ≤ z := g0
  replace g1 : z + (0 : Int) ≤ n2 := g1
  show ((True) ∧ (True) ∧ ((0 ≤ (n7 + (0 : Int)) ∧ zwo ws 102 (n7 + (0 : Int)).toNat = some (w + (0 : Int))) ∧ True)) ∨ False
  try simp only [Int.add_zero, Int.zero_add] at *
  obtain ⟨a, ha, e1, h⟩ := hj
  have hb := zgv_some s4
  refine Or.inl ⟨trivial, trivial, ⟨⟨by omega, ?_⟩, trivial⟩⟩
  have h2 := h n4.toNat (by omega) (by omega)
  rw [show n7.toNat = 80 * n4.toNat + 5 * a + 4 by omega]
  exact h2
theorem zrn_47 (g : yG) : zRuN (zJf g) zru_47 := by
  intro ws z w hj n2 s2 n3 s3 n4 s4 n5 s5 n6 s6 n7 s7 n8 s8 l0 u0 l1 u1 l2 u2
  clear hj
  clear s2
  clear s3
  replace s4 : zwo ws 88 4 = some n4 := s4
  replace s5 : n5 = (4 : Int) := s5
  replace s6 : n6 = n5 + n2 * (5 : Int) := s6
  replace s7 : n7 = n6 + n4 * (80 : Int) := s7
  replace s8 : 0 ≤ n7 ∧ zwo ws 102 (n7).toNat = some n8 := s8
  replace l0 : (0 : Int) ≤ n2 := l0
  replace u0 : n2 ≤ (15 : Int) := u0
  replace l1 : (4 : Int) ≤ n3 := l1
  replace u1 : n3 ≤ (4 : Int) := u1
  replace l2 : (0 : Int) ≤ n4 := l2
  replace u2 : n4 ≤ (1 : Int) := u2
  show ((True) ∧ (True) ∧ (zj20 4 (n2 + (0 : Int)) (n8 + (0 : Int)) (zwo ws) ∧ True)) ∨ False
  try simp only [Int.add_zero, Int.zero_add] at *
  have hb := zgv_some s4
  refine Or.inl ⟨trivial, trivial, ⟨⟨n2.toNat, by omega, by omega, fun b hb2 hk => ?_⟩, trivial⟩⟩
  rw [show 80 * b + 5 * n2.toNat + 4 = n7.toNat by omega]
  exact s8.2
theorem zrn_48 (g : yG) : zRuN (zJf g) zru_48 := by
  intro ws z w hj n2 s2 n3 s3 l0 u0 l1 u1
  clear hj
  clear s2
  clear s3
  replace l0 : (0 : Int) ≤ n2 := l0
  replace u0 : n2 ≤ (15 : Int) := u0
  replace l1 : (0 : Int) ≤ n3 := l1
  replace u1 : n3 ≤ (15 : Int) := u1
  show ((True) ∧ (True) ∧ (zj9 0 (n2 + (0 : Int)) (n3 + (0 : Int)) (zwo ws) ∧ True)) ∨ False
  try simp only [Int.add_zero, Int.zero_add] at *
  exact Or.inl ⟨trivial, trivial, ⟨⟨n2.toNat, n3.toNat, by omega, by omega, by omega, by omega, fun b hb hk j hj => absurd hj (by omega)⟩, trivial⟩⟩
theorem zrn_49 (g : yG) : zRuN (zJf g) zru_49 := by
  intro ws z w hj n2 s2 n3 s3 n4 s4 l0 u0 l1 u1 g0 g1 g2 g3 g4 g5 x0 o0 p0 v0 t0
  replace hj : zj9 0 z w (zwo ws) := hj.resolve_left (by decide)
  clear s2
  clear s3
  replace s4 : zj7 n2 n4 (zwo ws) := s4
  replace l0 : (0 : Int) ≤ n2 := l0
  replace u0 : n2 ≤ (15 : Int) := u0
  replace l1 : (0 : Int) ≤ n3 := l1
  replace u1 : n3 ≤ (15 : Int) := u1
  replace g0 : n2 + (0 : Int) ≤ z := g0
  replace g1 : z + (0 : Int) ≤ n2 := g1
  replace g2 : n3 + (0 : Int) ≤ w := g2
  replace g3 : w + (0 : Int) ≤ n3 := g3
  replace g4 : n3 + (0 : Int) ≤ n4 := g4
  replace g5 : n4 + (0 : Int) ≤ n3 := g5
  replace o0 : 0 ≤ (n3 + (0 : Int)) := o0
  replace p0 : zwo ws 121 (n3 + (0 : Int)).toNat = some x0 := p0
  replace v0 : (0 : Int) ≤ x0 := v0
  replace t0 : x0 ≤ (0 : Int) := t0
  show ((True) ∧ (True) ∧ (zj4 (n2 + (0 : Int)) (n3 + (0 : Int)) (zwo ws) ∧ True)) ∨ False
  try simp only [Int.add_zero, Int.zero_add] at *
  obtain ⟨a, s, ha, hs, e1, e2, h⟩ := hj
  obtain ⟨a', s', ha', hs', e3, e4, h'⟩ := s4
  have ea : a' = a := by omega
  have es : s' = s := by omega
  subst ea
  subst es
  have e5 := zgv_some p0
  have en : n3.toNat = s' := by omega
  rw [en] at e5
  refine Or.inl ⟨trivial, trivial, ⟨⟨a', s', ha, hs, by omega, by omega, fun b hb hk => ⟨(h' b hb hk).1, fun k hk5 hl => h b hb hk k (by omega) hk5⟩⟩, trivial⟩⟩
theorem zrn_50 (g : yG) : zRuN (zJf g) zru_50 := by
  intro ws z w hj n2 s2 n3 s3 n4 s4 l0 u0 l1 u1 g0 g1 g2 g3 g4 g5 x0 o0 p0 v0 t0
  replace hj : zj9 1 z w (zwo ws) := hj.resolve_left (by decide)
  clear s2
  clear s3
  replace s4 : zj7 n2 n4 (zwo ws) := s4
  replace l0 : (0 : Int) ≤ n2 := l0
  replace u0 : n2 ≤ (15 : Int) := u0
  replace l1 : (0 : Int) ≤ n3 := l1
  replace u1 : n3 ≤ (15 : Int) := u1
  replace g0 : n2 + (0 : Int) ≤ z := g0
  replace g1 : z + (0 : Int) ≤ n2 := g1
  replace g2 : n3 + (0 : Int) ≤ w := g2
  replace g3 : w + (0 : Int) ≤ n3 := g3
  replace g4 : n3 + (0 : Int) ≤ n4 := g4
  replace g5 : n4 + (0 : Int) ≤ n3 := g5
  replace o0 : 0 ≤ (n3 + (0 : Int)) := o0
  replace p0 : zwo ws 121 (n3 + (0 : Int)).toNat = some x0 := p0
  replace v0 : (0 : Int) ≤ x0 := v0
  replace t0 : x0 ≤ (1 : Int) := t0
  show ((True) ∧ (True) ∧ (zj4 (n2 + (0 : Int)) (n3 + (0 : Int)) (zwo ws) ∧ True)) ∨ False
  try simp only [Int.add_zero, Int.zero_add] at *
  obtain ⟨a, s, ha, hs, e1, e2, h⟩ := hj
  obtain ⟨a', s', ha', hs', e3, e4, h'⟩ := s4
  have ea : a' = a := by omega
  have es : s' = s := by omega
  subst ea
  subst es
  have e5 := zgv_some p0
  have en : n3.toNat = s' := by omega
  rw [en] at e5
  refine Or.inl ⟨trivial, trivial, ⟨⟨a', s', ha, hs, by omega, by omega, fun b hb hk => ⟨(h' b hb hk).1, fun k hk5 hl => h b hb hk k (by omega) hk5⟩⟩, trivial⟩⟩
theorem zrn_51 (g : yG) : zRuN (zJf g) zru_51 := by
  intro ws z w hj n2 s2 n3 s3 n4 s4 l0 u0 l1 u1 g0 g1 g2 g3 g4 g5 x0 o0 p0 v0 t0
  replace hj : zj9 2 z w (zwo ws) := hj.resolve_left (by decide)
  clear s2
  clear s3
  replace s4 : zj7 n2 n4 (zwo ws) := s4
  replace l0 : (0 : Int) ≤ n2 := l0
  replace u0 : n2 ≤ (15 : Int) := u0
  replace l1 : (0 : Int) ≤ n3 := l1
  replace u1 : n3 ≤ (15 : Int) := u1
  replace g0 : n2 + (0 : Int) ≤ z := g0
  replace g1 : z + (0 : Int) ≤ n2 := g1
  replace g2 : n3 + (0 : Int) ≤ w := g2
  replace g3 : w + (0 : Int) ≤ n3 := g3
  replace g4 : n3 + (0 : Int) ≤ n4 := g4
  replace g5 : n4 + (0 : Int) ≤ n3 := g5
  replace o0 : 0 ≤ (n3 + (0 : Int)) := o0
  replace p0 : zwo ws 121 (n3 + (0 : Int)).toNat = some x0 := p0
  replace v0 : (0 : Int) ≤ x0 := v0
  replace t0 : x0 ≤ (2 : Int) := t0
  show ((True) ∧ (True) ∧ (zj4 (n2 + (0 : Int)) (n3 + (0 : Int)) (zwo ws) ∧ True)) ∨ False
  try simp only [Int.add_zero, Int.zero_add] at *
  obtain ⟨a, s, ha, hs, e1, e2, h⟩ := hj
  obtain ⟨a', s', ha', hs', e3, e4, h'⟩ := s4
  have ea : a' = a := by omega
  have es : s' = s := by omega
  subst ea
  subst es
  have e5 := zgv_some p0
  have en : n3.toNat = s' := by omega
  rw [en] at e5
  refine Or.inl ⟨trivial, trivial, ⟨⟨a', s', ha, hs, by omega, by omega, fun b hb hk => ⟨(h' b hb hk).1, fun k hk5 hl => h b hb hk k (by omega) hk5⟩⟩, trivial⟩⟩
theorem zrn_52 (g : yG) : zRuN (zJf g) zru_52 := by
  intro ws z w hj n2 s2 n3 s3 n4 s4 l0 u0 l1 u1 g0 g1 g2 g3 g4 g5 x0 o0 p0 v0 t0
  replace hj : zj9 3 z w (zwo ws) := hj.resolve_left (by decide)
  clear s2
  clear s3
  replace s4 : zj7 n2 n4 (zwo ws) := s4
  replace l0 : (0 : Int) ≤ n2 := l0
  replace u0 : n2 ≤ (15 : Int) := u0
  replace l1 : (0 : Int) ≤ n3 := l1
  replace u1 : n3 ≤ (15 : Int) := u1
  replace g0 : n2 + (0 : Int) ≤ z := g0
  replace g1 : z + (0 : Int) ≤ n2 := g1
  replace g2 : n3 + (0 : Int) ≤ w := g2
  replace g3 : w + (0 : Int) ≤ n3 := g3
  replace g4 : n3 + (0 : Int) ≤ n4 := g4
  replace g5 : n4 + (0 : Int) ≤ n3 := g5
  replace o0 : 0 ≤ (n3 + (0 : Int)) := o0
  replace p0 : zwo ws 121 (n3 + (0 : Int)).toNat = some x0 := p0
  replace v0 : (0 : Int) ≤ x0 := v0
  replace t0 : x0 ≤ (3 : Int) := t0
  show ((True) ∧ (True) ∧ (zj4 (n2 + (0 : Int)) (n3 + (0 : Int)) (zwo ws) ∧ True)) ∨ False
  try simp only [Int.add_zero, Int.zero_add] at *
  obtain ⟨a, s, ha, hs, e1, e2, h⟩ := hj
  obtain ⟨a', s', ha', hs', e3, e4, h'⟩ := s4
  have ea : a' = a := by omega
  have es : s' = s := by omega
  subst ea
  subst es
  have e5 := zgv_some p0
  have en : n3.toNat = s' := by omega
  rw [en] at e5
  refine Or.inl ⟨trivial, trivial, ⟨⟨a', s', ha, hs, by omega, by omega, fun b hb hk => ⟨(h' b hb hk).1, fun k hk5 hl => h b hb hk k (by omega) hk5⟩⟩, trivial⟩⟩
theorem zrn_53 (g : yG) : zRuN (zJf g) zru_53 := by
  intro ws z w hj n2 s2 n3 s3 n4 s4 l0 u0 l1 u1 g0 g1 g2 g3 g4 g5 x0 o0 p0 v0 t0
  replace hj : zj9 4 z w (zwo ws) := hj.resolve_left (by decide)
  clear s2
  clear s3
  replace s4 : zj7 n2 n4 (zwo ws) := s4
  replace l0 : (0 : Int) ≤ n2 := l0
  replace u0 : n2 ≤ (15 : Int) := u0
  replace l1 : (0 : Int) ≤ n3 := l1
  replace u1 : n3 ≤ (15 : Int) := u1
  replace g0 : n2 + (0 : Int) ≤ z := g0
  replace g1 : z + (0 : Int) ≤ n2 := g1
  replace g2 : n3 + (0 : Int) ≤ w := g2
  replace g3 : w + (0 : Int) ≤ n3 := g3
  replace g4 : n3 + (0 : Int) ≤ n4 := g4
  replace g5 : n4 + (0 : Int) ≤ n3 := g5
  replace o0 : 0 ≤ (n3 + (0 : Int)) := o0
  replace p0 : zwo ws 121 (n3 + (0 : Int)).toNat = some x0 := p0
  replace v0 : (0 : Int) ≤ x0 := v0
  replace t0 : x0 ≤ (4 : Int) := t0
  show ((True) ∧ (True) ∧ (zj4 (n2 + (0 : Int)) (n3 + (0 : Int)) (zwo ws) ∧ True)) ∨ False
  try simp only [Int.add_zero, Int.zero_add] at *
  obtain ⟨a, s, ha, hs, e1, e2, h⟩ := hj
  obtain ⟨a', s', ha', hs', e3, e4, h'⟩ := s4
  have ea : a' = a := by omega
  have es : s' = s := by omega
  subst ea
  subst es
  have e5 := zgv_some p0
  have en : n3.toNat = s' := by omega
  rw [en] at e5
  refine Or.inl ⟨trivial, trivial, ⟨⟨a', s', ha, hs, by omega, by omega, fun b hb hk => ⟨(h' b hb hk).1, fun k hk5 hl => h b hb hk k (by omega) hk5⟩⟩, trivial⟩⟩
theorem zrn_54 (g : yG) : zRuN (zJf g) zru_54 := by
  intro ws z w hj n2 s2 n3 s3 n4 s4 l0 u0 l1 u1 g0 g1 g2 g3 g4 g5 x0 o0 p0 v0 t0
  replace hj : zj9 5 z w (zwo ws) := hj.resolve_left (by decide)
  clear s2
  clear s3
  replace s4 : zj7 n2 n4 (zwo ws) := s4
  replace l0 : (0 : Int) ≤ n2 := l0
  replace u0 : n2 ≤ (15 : Int) := u0
  replace l1 : (0 : Int) ≤ n3 := l1
  replace u1 : n3 ≤ (15 : Int) := u1
  replace g0 : n2 + (0 : Int) ≤ z := g0
  replace g1 : z + (0 : Int) ≤ n2 := g1
  replace g2 : n3 + (0 : Int) ≤ w := g2
  replace g3 : w + (0 : Int) ≤ n3 := g3
  replace g4 : n3 + (0 : Int) ≤ n4 := g4
  replace g5 : n4 + (0 : Int) ≤ n3 := g5
  replace o0 : 0 ≤ (n3 + (0 : Int)) := o0
  replace p0 : zwo ws 121 (n3 + (0 : Int)).toNat = some x0 := p0
  replace v0 : (0 : Int) ≤ x0 := v0
  replace t0 : x0 ≤ (5 : Int) := t0
  show ((True) ∧ (True) ∧ (zj4 (n2 + (0 : Int)) (n3 + (0 : Int)) (zwo ws) ∧ True)) ∨ False
  try simp only [Int.add_zero, Int.zero_add] at *
  obtain ⟨a, s, ha, hs, e1, e2, h⟩ := hj
  obtain ⟨a', s', ha', hs', e3, e4, h'⟩ := s4
  have ea : a' = a := by omega
  have es : s' = s := by omega
  subst ea
  subst es
  have e5 := zgv_some p0
  have en : n3.toNat = s' := by omega
  rw [en] at e5
  refine Or.inl ⟨trivial, trivial, ⟨⟨a', s', ha, hs, by omega, by omega, fun b hb hk => ⟨(h' b hb hk).1, fun k hk5 hl => h b hb hk k (by omega) hk5⟩⟩, trivial⟩⟩
theorem zrn_55 (g : yG) : zRuN (zJf g) zru_55 := by
  intro ws z w hj n2 s2 n3 s3 n4 s4 n5 s5 l0 u0 l1 u1 g0 g1 g2 g3
  replace hj : zj4 z w (zwo ws) := hj.resolve_left (by decide)
  clear s2
  clear s3
  replace s4 : n4 = (0 : Int) := s4
  replace s5 : zj1 (zwo ws) := s5
  replace l0 : (0 : Int) ≤ n2 := l0
  replace u0 : n2 ≤ (15 : Int) := u0
  replace l1 : (0 : Int) ≤ n3 := l1
  replace u1 : n3 ≤ (15 : Int) := u1
  replace g0 : n2 + (0 : Int) ≤ z := g0
  replace g1 : z + (0 : Int) ≤ n2 := g1
  replace g2 : n3 + (0 : Int) ≤ w := g2
  replace g3 : w + (0 : Int) ≤ n3 := g3
  show ((True) ∧ (True) ∧ (zj7 (n2 + (0 : Int)) (n3 + (0 : Int)) (zwo ws) ∧ True)) ∨ False
  try simp only [Int.add_zero, Int.zero_add] at *
  obtain ⟨a, s, ha, hs, e1, e2, h⟩ := hj
  refine Or.inl ⟨trivial, trivial, ⟨⟨a, s, ha, hs, by omega, by omega, fun b hb hk => ⟨(h b hb hk).1, fun hn k hk5 hl => ?_⟩⟩, trivial⟩⟩
  rw [← (h b hb hk).1] at hl
  exact s5 b hb hk a ha hn k hk5 hl
theorem zrn_56 (g : yG) : zRuN (zJf g) zru_56 := by
  intro ws z w hj n2 s2 n3 s3 n4 s4 l0 u0 l1 u1 l2 u2 g0 g1 g2 g3 x0 o0 p0 v0 t0
  replace hj : zj4 z w (zwo ws) := hj.resolve_left (by decide)
  clear s2
  clear s3
  replace s4 : zwo ws 88 4 = some n4 := s4
  replace l0 : (0 : Int) ≤ n2 := l0
  replace u0 : n2 ≤ (15 : Int) := u0
  replace l1 : (0 : Int) ≤ n3 := l1
  replace u1 : n3 ≤ (15 : Int) := u1
  replace l2 : (0 : Int) ≤ n4 := l2
  replace u2 : n4 ≤ (1 : Int) := u2
  replace g0 : n2 + (0 : Int) ≤ z := g0
  replace g1 : z + (0 : Int) ≤ n2 := g1
  replace g2 : n3 + (0 : Int) ≤ w := g2
  replace g3 : w + (0 : Int) ≤ n3 := g3
  replace o0 : 0 ≤ (n3 + (0 : Int)) := o0
  replace p0 : zwo ws 121 (n3 + (0 : Int)).toNat = some x0 := p0
  replace v0 : (0 : Int) ≤ x0 := v0
  replace t0 : x0 ≤ (5 : Int) := t0
  show ((((0 : Int) ≤ n4 ∧ n4 ≤ (0 : Int)) ∧ True) ∧ ((∀ x, 0 ≤ (n3 + (0 : Int)) → zwo ws 121 (n3 + (0 : Int)).toNat = some x → (0 : Int) ≤ x ∧ x ≤ (0 : Int)) ∧ (∀ x, 0 ≤ (n2 + (0 : Int)) → zwo ws 101 (n2 + (0 : Int)).toNat = some x → (0 : Int) ≤ x ∧ x ≤ (0 : Int)) ∧ True) ∧ (True)) ∨ ((((0 : Int) ≤ n4 ∧ n4 ≤ (0 : Int)) ∧ True) ∧ ((∀ x, 0 ≤ (n3 + (0 : Int)) → zwo ws 121 (n3 + (0 : Int)).toNat = some x → (1 : Int) ≤ x ∧ x ≤ (1 : Int)) ∧ (∀ x, 0 ≤ (n2 + (0 : Int)) → zwo ws 101 (n2 + (0 : Int)).toNat = some x → (1 : Int) ≤ x ∧ x ≤ (1 : Int)) ∧ True) ∧ (True)) ∨ ((((0 : Int) ≤ n4 ∧ n4 ≤ (0 : Int)) ∧ True) ∧ ((∀ x, 0 ≤ (n3 + (0 : Int)) → zwo ws 121 (n3 + (0 : Int)).toNat = some x → (2 : Int) ≤ x ∧ x ≤ (2 : Int)) ∧ (∀ x, 0 ≤ (n2 + (0 : Int)) → zwo ws 101 (n2 + (0 : Int)).toNat = some x → (2 : Int) ≤ x ∧ x ≤ (2 : Int)) ∧ True) ∧ (True)) ∨ ((((0 : Int) ≤ n4 ∧ n4 ≤ (0 : Int)) ∧ True) ∧ ((∀ x, 0 ≤ (n3 + (0 : Int)) → zwo ws 121 (n3 + (0 : Int)).toNat = some x → (3 : Int) ≤ x ∧ x ≤ (3 : Int)) ∧ (∀ x, 0 ≤ (n2 + (0 : Int)) → zwo ws 101 (n2 + (0 : Int)).toNat = some x → (3 : Int) ≤ x ∧ x ≤ (3 : Int)) ∧ True) ∧ (True)) ∨ ((((0 : Int) ≤ n4 ∧ n4 ≤ (0 : Int)) ∧ True) ∧ ((∀ x, 0 ≤ (n3 + (0 : Int)) → zwo ws 121 (n3 + (0 : Int)).toNat = some x → (4 : Int) ≤ x ∧ x ≤ (4 : Int)) ∧ (∀ x, 0 ≤ (n2 + (0 : Int)) → zwo ws 101 (n2 + (0 : Int)).toNat = some x → (4 : Int) ≤ x ∧ x ≤ (4 : Int)) ∧ True) ∧ (True)) ∨ ((((0 : Int) ≤ n4 ∧ n4 ≤ (0 : Int)) ∧ True) ∧ ((∀ x, 0 ≤ (n3 + (0 : Int)) → zwo ws 121 (n3 + (0 : Int)).toNat = some x → (5 : Int) ≤ x ∧ x ≤ (5 : Int)) ∧ (∀ x, 0 ≤ (n2 + (0 : Int)) → zwo ws 101 (n2 + (0 : Int)).toNat = some x → (5 : Int) ≤ x ∧ x ≤ (5 : Int)) ∧ True) ∧ (True)) ∨ ((((1 : Int) ≤ n4 ∧ n4 ≤ (1 : Int)) ∧ True) ∧ ((∀ x, 0 ≤ (n3 + (0 : Int)) → zwo ws 121 (n3 + (0 : Int)).toNat = some x → (0 : Int) ≤ x ∧ x ≤ (0 : Int)) ∧ (∀ x, 0 ≤ (n2 + (16 : Int)) → zwo ws 101 (n2 + (16 : Int)).toNat = some x → (0 : Int) ≤ x ∧ x ≤ (0 : Int)) ∧ True) ∧ (True)) ∨ ((((1 : Int) ≤ n4 ∧ n4 ≤ (1 : Int)) ∧ True) ∧ ((∀ x, 0 ≤ (n3 + (0 : Int)) → zwo ws 121 (n3 + (0 : Int)).toNat = some x → (1 : Int) ≤ x ∧ x ≤ (1 : Int)) ∧ (∀ x, 0 ≤ (n2 + (16 : Int)) → zwo ws 101 (n2 + (16 : Int)).toNat = some x → (1 : Int) ≤ x ∧ x ≤ (1 : Int)) ∧ True) ∧ (True)) ∨ ((((1 : Int) ≤ n4 ∧ n4 ≤ (1 : Int)) ∧ True) ∧ ((∀ x, 0 ≤ (n3 + (0 : Int)) → zwo ws 121 (n3 + (0 : Int)).toNat = some x → (2 : Int) ≤ x ∧ x ≤ (2 : Int)) ∧ (∀ x, 0 ≤ (n2 + (16 : Int)) → zwo ws 101 (n2 + (16 : Int)).toNat = some x → (2 : Int) ≤ x ∧ x ≤ (2 : Int)) ∧ True) ∧ (True)) ∨ ((((1 : Int) ≤ n4 ∧ n4 ≤ (1 : Int)) ∧ True) ∧ ((∀ x, 0 ≤ (n3 + (0 : Int)) → zwo ws 121 (n3 + (0 : Int)).toNat = some x → (3 : Int) ≤ x ∧ x ≤ (3 : Int)) ∧ (∀ x, 0 ≤ (n2 + (16 : Int)) → zwo ws 101 (n2 + (16 : Int)).toNat = some x → (3 : Int) ≤ x ∧ x ≤ (3 : Int)) ∧ True) ∧ (True)) ∨ ((((1 : Int) ≤ n4 ∧ n4 ≤ (1 : Int)) ∧ True) ∧ ((∀ x, 0 ≤ (n3 + (0 : Int)) → zwo ws 121 (n3 + (0 : Int)).toNat = some x → (4 : Int) ≤ x ∧ x ≤ (4 : Int)) ∧ (∀ x, 0 ≤ (n2 + (16 : Int)) → zwo ws 101 (n2 + (16 : Int)).toNat = some x → (4 : Int) ≤ x ∧ x ≤ (4 : Int)) ∧ True) ∧ (True)) ∨ ((((1 : Int) ≤ n4 ∧ n4 ≤ (1 : Int)) ∧ True) ∧ ((∀ x, 0 ≤ (n3 + (0 : Int)) → zwo ws 121 (n3 + (0 : Int)).toNat = some x → (5 : Int) ≤ x ∧ x ≤ (5 : Int)) ∧ (∀ x, 0 ≤ (n2 + (16 : Int)) → zwo ws 101 (n2 + (16 : Int)).toNat = some x → (5 : Int) ≤ x ∧ x ≤ (5 : Int)) ∧ True) ∧ (True)) ∨ False
  try simp only [Int.add_zero, Int.zero_add] at *
  obtain ⟨a, s, ha, hs, e1, e2, h⟩ := hj
  have e5 := zgv_some p0
  have hb := zgv_some s4
  have h2 := (h n4.toNat (by omega) (by omega)).1
  have e3 : n3.toNat = s := by omega
  have e6 : zgv (zwo ws) 121 s = x0 := by rw [← e3]; exact e5
  have hbb : n4 = 0 ∨ n4 = 1 := by omega
  have h5 : x0 = 0 ∨ x0 = 1 ∨ x0 = 2 ∨ x0 = 3 ∨ x0 = 4 ∨ x0 = 5 := by omega
  rcases hbb with hbb | hbb
  · rcases h5 with h5 | h5 | h5 | h5 | h5 | h5
    · exact Or.inl ⟨⟨⟨by omega, by omega⟩, trivial⟩, ⟨fun x hx0 hx => by have hv := zgv_some hx; omega, fun x hx0 hx => by rw [show (n2).toNat = 16 * n4.toNat + a by omega] at hx; have hv := zgv_some hx; omega, trivial⟩, trivial⟩
    · exact Or.inr (Or.inl ⟨⟨⟨by omega, by omega⟩, trivial⟩, ⟨fun x hx0 hx => by have hv := zgv_some hx; omega, fun x hx0 hx => by rw [show (n2).toNat = 16 * n4.toNat + a by omega] at hx; have hv := zgv_some hx; omega, trivial⟩, trivial⟩)
    · exact Or.inr (Or.inr (Or.inl ⟨⟨⟨by omega, by omega⟩, trivial⟩, ⟨fun x hx0 hx => by have hv := zgv_some hx; omega, fun x hx0 hx => by rw [show (n2).toNat = 16 * n4.toNat + a by omega] at hx; have hv := zgv_some hx; omega, trivial⟩, trivial⟩))
    · exact Or.inr (Or.inr (Or.inr (Or.inl ⟨⟨⟨by omega, by omega⟩, trivial⟩, ⟨fun x hx0 hx => by have hv := zgv_some hx; omega, fun x hx0 hx => by rw [show (n2).toNat = 16 * n4.toNat + a by omega] at hx; have hv := zgv_some hx; omega, trivial⟩, trivial⟩)))
    · exact Or.inr (Or.inr (Or.inr (Or.inr (Or.inl ⟨⟨⟨by omega, by omega⟩, trivial⟩, ⟨fun x hx0 hx => by have hv := zgv_some hx; omega, fun x hx0 hx => by rw [show (n2).toNat = 16 * n4.toNat + a by omega] at hx; have hv := zgv_some hx; omega, trivial⟩, trivial⟩))))
    · exact Or.inr (Or.inr (Or.inr (Or.inr (Or.inr (Or.inl ⟨⟨⟨by omega, by omega⟩, trivial⟩, ⟨fun x hx0 hx => by have hv := zgv_some hx; omega, fun x hx0 hx => by rw [show (n2).toNat = 16 * n4.toNat + a by omega] at hx; have hv := zgv_some hx; omega, trivial⟩, trivial⟩)))))
  · rcases h5 with h5 | h5 | h5 | h5 | h5 | h5
    · exact Or.inr (Or.inr (Or.inr (Or.inr (Or.inr (Or.inr (Or.inl ⟨⟨⟨by omega, by omega⟩, trivial⟩, ⟨fun x hx0 hx => by have hv := zgv_some hx; omega, fun x hx0 hx => by rw [show (n2 + 16).toNat = 16 * n4.toNat + a by omega] at hx; have hv := zgv_some hx; omega, trivial⟩, trivial⟩))))))
    · exact Or.inr (Or.inr (Or.inr (Or.inr (Or.inr (Or.inr (Or.inr (Or.inl ⟨⟨⟨by omega, by omega⟩, trivial⟩, ⟨fun x hx0 hx => by have hv := zgv_some hx; omega, fun x hx0 hx => by rw [show (n2 + 16).toNat = 16 * n4.toNat + a by omega] at hx; have hv := zgv_some hx; omega, trivial⟩, trivial⟩)))))))
    · exact Or.inr (Or.inr (Or.inr (Or.inr (Or.inr (Or.inr (Or.inr (Or.inr (Or.inl ⟨⟨⟨by omega, by omega⟩, trivial⟩, ⟨fun x hx0 hx => by have hv := zgv_some hx; omega, fun x hx0 hx => by rw [show (n2 + 16).toNat = 16 * n4.toNat + a by omega] at hx; have hv := zgv_some hx; omega, trivial⟩, trivial⟩))))))))
    · exact Or.inr (Or.inr (Or.inr (Or.inr (Or.inr (Or.inr (Or.inr (Or.inr (Or.inr (Or.inl ⟨⟨⟨by omega, by omega⟩, trivial⟩, ⟨fun x hx0 hx => by have hv := zgv_some hx; omega, fun x hx0 hx => by rw [show (n2 + 16).toNat = 16 * n4.toNat + a by omega] at hx; have hv := zgv_some hx; omega, trivial⟩, trivial⟩)))))))))
    · exact Or.inr (Or.inr (Or.inr (Or.inr (Or.inr (Or.inr (Or.inr (Or.inr (Or.inr (Or.inr (Or.inl ⟨⟨⟨by omega, by omega⟩, trivial⟩, ⟨fun x hx0 hx => by have hv := zgv_some hx; omega, fun x hx0 hx => by rw [show (n2 + 16).toNat = 16 * n4.toNat + a by omega] at hx; have hv := zgv_some hx; omega, trivial⟩, trivial⟩))))))))))
    · exact Or.inr (Or.inr (Or.inr (Or.inr (Or.inr (Or.inr (Or.inr (Or.inr (Or.inr (Or.inr (Or.inr (Or.inl ⟨⟨⟨by omega, by omega⟩, trivial⟩, ⟨fun x hx0 hx => by have hv := zgv_some hx; omega, fun x hx0 hx => by rw [show (n2 + 16).toNat = 16 * n4.toNat + a by omega] at hx; have hv := zgv_some hx; omega, trivial⟩, trivial⟩)))))))))))
theorem zrn_57 (g : yG) : zRuN (zJf g) zru_57 := by
  intro ws z w hj n2 s2 n3 s3 n4 s4 n5 s5 l0 u0 l1 u1 g0 g1 g2 g3 g4
  replace hj : zj4 z w (zwo ws) := hj.resolve_left (by decide)
  clear s2
  clear s3
  replace s4 : zwo ws 88 2 = some n4 := s4
  replace s5 : n5 = (0 : Int) := s5
  replace l0 : (0 : Int) ≤ n2 := l0
  replace u0 : n2 ≤ (15 : Int) := u0
  replace l1 : (0 : Int) ≤ n3 := l1
  replace u1 : n3 ≤ (15 : Int) := u1
  replace g0 : n2 + (0 : Int) ≤ z := g0
  replace g1 : z + (0 : Int) ≤ n2 := g1
  replace g2 : n3 + (0 : Int) ≤ w := g2
  replace g3 : w + (0 : Int) ≤ n3 := g3
  replace g4 : n3 + (1 : Int) ≤ n4 := g4
  show ((True) ∧ (True) ∧ (zj3 (n2 + (0 : Int)) (n5 + (0 : Int)) (zwo ws) ∧ True)) ∨ False
  try simp only [Int.add_zero, Int.zero_add] at *
  have hm := zgv_some s4
  refine Or.inl ⟨trivial, trivial, ⟨⟨n3.toNat, by omega, by omega, by omega, ?_⟩, trivial⟩⟩
  rw [show ((n3.toNat : Nat) : Int) = w by omega, show n2 = z by omega]
  exact hj
theorem zrn_58 (g : yG) : zRuN (zJf g) zru_58 := by
  intro ws z w hj n2 s2 n3 s3 g0 g1 g2 g3
  replace hj : zj3 z w (zwo ws) := hj.resolve_left (by decide)
  clear s2
  clear s3
  replace g0 : n2 + (0 : Int) ≤ z := g0
  replace g1 : z + (0 : Int) ≤ n2 := g1
  replace g2 : n3 + (0 : Int) ≤ w := g2
  replace g3 : w + (0 : Int) ≤ n3 := g3
  show ((True) ∧ (True) ∧ (zj4 (n2 + (0 : Int)) (n3 + (0 : Int)) (zwo ws) ∧ True)) ∨ ((True) ∧ (True) ∧ (zj3 (n2 + (0 : Int)) (n3 + (1 : Int)) (zwo ws) ∧ True)) ∨ False
  try simp only [Int.add_zero, Int.zero_add] at *
  obtain ⟨s, h0, h1, h2, h3⟩ := hj
  by_cases q : (s : Int) = n3
  · refine Or.inl ⟨trivial, trivial, ⟨?_, trivial⟩⟩
    rw [← q, show n2 = z by omega]
    exact h3
  · refine Or.inr (Or.inl ⟨trivial, trivial, ⟨⟨s, h0, by omega, h2, ?_⟩, trivial⟩⟩)
    rw [show n2 = z by omega]
    exact h3
theorem zrn_59 (g : yG) : zRuN (zJf g) zru_59 := by
  intro ws z w hj n2 s2 n3 s3 g0 g1 g2
  replace hj : zj3 z w (zwo ws) := hj.resolve_left (by decide)
  clear s2
  replace s3 : zwo ws 88 2 = some n3 := s3
  replace g0 : n2 + (0 : Int) ≤ z := g0
  replace g1 : z + (0 : Int) ≤ n2 := g1
  replace g2 : n3 + (0 : Int) ≤ w := g2
  show False
  try simp only [Int.add_zero, Int.zero_add] at *
  obtain ⟨s, h0, h1, h2, h3⟩ := hj
  have hm := zgv_some s3
  omega
theorem zrn_60 (g : yG) : zRuN (zJf g) zru_60 := by
  intro ws z w hj n2 s2 n3 s3 l0 u0 g0 g1 x0 o0 p0 v0 t0
  clear hj
  replace s2 : zwo ws 88 3 = some n2 := s2
  replace s3 : zwo ws 88 6 = some n3 := s3
  replace l0 : (0 : Int) ≤ n2 := l0
  replace u0 : n2 ≤ (1599 : Int) := u0
  replace g0 : n2 + (1 : Int) ≤ n3 := g0
  replace g1 : n3 + (-1 : Int) ≤ n2 := g1
  replace o0 : 0 ≤ (n2 + (0 : Int)) := o0
  replace p0 : zwo ws 90 (n2 + (0 : Int)).toNat = some x0 := p0
  replace v0 : (97 : Int) ≤ x0 := v0
  replace t0 : x0 ≤ (122 : Int) := t0
  show ((True) ∧ (True) ∧ (zj43 (n2 + (0 : Int)) (n3 + (0 : Int)) (zwo ws) ∧ True)) ∨ False
  try simp only [Int.add_zero, Int.zero_add] at *
  have a := zgv_some p0
  refine Or.inl ⟨trivial, trivial, ⟨⟨by omega, by omega, fun j h1 h2 => ?_⟩, trivial⟩⟩
  have e : j = n2.toNat := by omega
  subst e
  omega
theorem zrn_61 (g : yG) : zRuN (zJf g) zru_61 := by
  intro ws z w hj n2 s2 l0 u0 g0 g1 x0 o0 p0 v0 t0
  replace hj : zj43 z w (zwo ws) := hj.resolve_left (by decide)
  replace s2 : zwo ws 88 6 = some n2 := s2
  replace l0 : (0 : Int) ≤ n2 := l0
  replace u0 : n2 ≤ (1599 : Int) := u0
  replace g0 : w + (0 : Int) ≤ n2 := g0
  replace g1 : n2 + (0 : Int) ≤ w := g1
  replace o0 : 0 ≤ (n2 + (0 : Int)) := o0
  replace p0 : zwo ws 90 (n2 + (0 : Int)).toNat = some x0 := p0
  replace v0 : (97 : Int) ≤ x0 := v0
  replace t0 : x0 ≤ (122 : Int) := t0
  show ((True) ∧ (True) ∧ (zj43 (z + (0 : Int)) (n2 + (1 : Int)) (zwo ws) ∧ True)) ∨ False
  try simp only [Int.add_zero, Int.zero_add] at *
  have a := zgv_some p0
  obtain ⟨h1, h2, h3⟩ := hj
  refine Or.inl ⟨trivial, trivial, ⟨⟨by omega, by omega, fun j h4 h5 => ?_⟩, trivial⟩⟩
  by_cases q : (j : Int) < w
  · exact h3 j h4 q
  · have e : j = n2.toNat := by omega
    subst e
    omega
theorem zrn_62 (g : yG) : zRuN (zJf g) zru_62 := by
  intro ws z w hj n2 s2 n3 s3 l0 u0 l1 u1 g0
  replace hj : zj43 z w (zwo ws) := hj.resolve_left (by decide)
  replace s2 : zwo ws 88 25 = some n2 := s2
  replace s3 : zwo ws 88 9 = some n3 := s3
  replace l0 : (0 : Int) ≤ z := l0
  replace u0 : z ≤ (1600 : Int) := u0
  replace l1 : (1 : Int) ≤ n3 := l1
  replace u1 : n3 ≤ (5 : Int) := u1
  replace g0 : w + (0 : Int) ≤ n2 := g0
  show ((True) ∧ (True) ∧ (zj29 (z + (0 : Int)) (w + (0 : Int)) (zwo ws) ∧ True)) ∨ False
  try simp only [Int.add_zero, Int.zero_add] at *
  have a := zgv_some s2
  have b := zgv_some s3
  obtain ⟨h1, h2, h3⟩ := hj
  exact Or.inl ⟨trivial, trivial, ⟨⟨by omega, by omega, fun _ => by omega, fun _ => by omega, fun _ => h3⟩, trivial⟩⟩
theorem zrn_63 (g : yG) : zRuN (zJf g) zru_63 := by
  intro ws z w hj n2 s2 n3 s3 n4 s4 n5 s5 l0 u0 l1 u1 g0 g1 g2 g3
  clear hj
  replace s2 : zwo ws 88 9 = some n2 := s2
  replace s3 : zwo ws 88 3 = some n3 := s3
  replace s4 : zwo ws 88 6 = some n4 := s4
  replace s5 : zwo ws 88 25 = some n5 := s5
  replace l0 : (0 : Int) ≤ n2 := l0
  replace u0 : n2 ≤ (0 : Int) := u0
  replace l1 : (0 : Int) ≤ n3 := l1
  replace u1 : n3 ≤ (1600 : Int) := u1
  replace g0 : n5 + (0 : Int) ≤ n3 := g0
  replace g1 : n3 + (0 : Int) ≤ n5 := g1
  replace g2 : n5 + (0 : Int) ≤ n4 := g2
  replace g3 : n4 + (0 : Int) ≤ n5 := g3
  show ((True) ∧ (True) ∧ (zj29 (n3 + (0 : Int)) (n4 + (0 : Int)) (zwo ws) ∧ True)) ∨ False
  try simp only [Int.add_zero, Int.zero_add] at *
  have a := zgv_some s2
  have b := zgv_some s5
  exact Or.inl ⟨trivial, trivial, ⟨⟨by omega, by omega, fun _ => by omega, fun _ => by omega, fun _ => by omega⟩, trivial⟩⟩
theorem zrn_64 (g : yG) : zRuN (zJf g) zru_64 := by
  intro ws z w hj n2 s2 n3 s3 n4 s4 n5 s5 l0 u0 l1 u1 g0 g1
  clear hj
  replace s2 : zwo ws 88 9 = some n2 := s2
  replace s3 : zwo ws 88 3 = some n3 := s3
  replace s4 : zwo ws 88 6 = some n4 := s4
  replace s5 : zwo ws 88 25 = some n5 := s5
  replace l0 : (1 : Int) ≤ n2 := l0
  replace u0 : n2 ≤ (1 : Int) := u0
  replace l1 : (0 : Int) ≤ n3 := l1
  replace u1 : n3 ≤ (1600 : Int) := u1
  replace g0 : n3 + (1 : Int) ≤ n4 := g0
  replace g1 : n4 + (0 : Int) ≤ n5 := g1
  show ((True) ∧ (True) ∧ (zj29 (n3 + (0 : Int)) (n4 + (0 : Int)) (zwo ws) ∧ True)) ∨ False
  try simp only [Int.add_zero, Int.zero_add] at *
  have a := zgv_some s2
  have b := zgv_some s5
  exact Or.inl ⟨trivial, trivial, ⟨⟨by omega, by omega, fun _ => by omega, fun _ => by omega, fun _ => by omega⟩, trivial⟩⟩
theorem zrn_65 (g : yG) : zRuN (zJf g) zru_65 := by
  intro ws z w hj n2 s2 n3 s3 n4 s4 n5 s5 l0 u0 l1 u1 g0 g1
  clear hj
  replace s2 : zwo ws 88 9 = some n2 := s2
  replace s3 : zwo ws 88 3 = some n3 := s3
  replace s4 : zwo ws 88 6 = some n4 := s4
  replace s5 : zwo ws 88 25 = some n5 := s5
  replace l0 : (3 : Int) ≤ n2 := l0
  replace u0 : n2 ≤ (5 : Int) := u0
  replace l1 : (0 : Int) ≤ n3 := l1
  replace u1 : n3 ≤ (1600 : Int) := u1
  replace g0 : n3 + (1 : Int) ≤ n4 := g0
  replace g1 : n4 + (0 : Int) ≤ n5 := g1
  show ((True) ∧ (True) ∧ (zj29 (n3 + (0 : Int)) (n4 + (0 : Int)) (zwo ws) ∧ True)) ∨ False
  try simp only [Int.add_zero, Int.zero_add] at *
  have a := zgv_some s2
  have b := zgv_some s5
  exact Or.inl ⟨trivial, trivial, ⟨⟨by omega, by omega, fun _ => by omega, fun _ => by omega, fun _ => by omega⟩, trivial⟩⟩
theorem zrn_66 (g : yG) : zRuN (zJf g) zru_66 := by
  intro ws z w hj n2 s2 n3 s3 n4 s4 n5 s5 n6 s6 l0 u0 g0 g1 g2 g3
  replace hj : zj29 z w (zwo ws) := hj.resolve_left (by decide)
  replace s2 : zwo ws 88 9 = some n2 := s2
  replace s3 : zwo ws 88 25 = some n3 := s3
  replace s4 : n4 = (0 : Int) := s4
  replace s5 : zwo ws 88 3 = some n5 := s5
  replace s6 : zwo ws 88 6 = some n6 := s6
  replace l0 : (0 : Int) ≤ n2 := l0
  replace u0 : n2 ≤ (5 : Int) := u0
  replace g0 : n5 + (0 : Int) ≤ z := g0
  replace g1 : z + (0 : Int) ≤ n5 := g1
  replace g2 : n6 + (0 : Int) ≤ w := g2
  replace g3 : w + (0 : Int) ≤ n6 := g3
  show ((((0 : Int) ≤ n2 ∧ n2 ≤ (0 : Int)) ∧ True) ∧ (True) ∧ ((0 ≤ (n4 + (6 : Int)) ∧ zwo ws 88 (n4 + (6 : Int)).toNat = some (n3 + (0 : Int))) ∧ (0 ≤ (n4 + (3 : Int)) ∧ zwo ws 88 (n4 + (3 : Int)).toNat = some (n3 + (0 : Int))) ∧ zj29 (n3 + (0 : Int)) (n3 + (0 : Int)) (zwo ws) ∧ True)) ∨ ((((1 : Int) ≤ n2 ∧ n2 ≤ (5 : Int)) ∧ True) ∧ (True) ∧ (True)) ∨ False
  try simp only [Int.add_zero, Int.zero_add] at *
  have a := zgv_some s2
  have b := zgv_some s3
  obtain ⟨h1, h2, h3, h4, h5⟩ := hj
  by_cases q : n2 = 0
  · have h6 := h3 (by omega)
    refine Or.inl ⟨⟨⟨by omega, by omega⟩, trivial⟩, trivial, ⟨⟨by omega, ?_⟩, ⟨by omega, ?_⟩, ⟨by omega, by omega, fun _ => by omega, fun _ => by omega, fun _ => by omega⟩, trivial⟩⟩
    · rw [show (n4 + 6).toNat = 6 by omega, s6]
      congr 1
      omega
    · rw [show (n4 + 3).toNat = 3 by omega, s5]
      congr 1
      omega
  · exact Or.inr (Or.inl ⟨⟨⟨by omega, by omega⟩, trivial⟩, trivial, trivial⟩)
theorem zrn_67 (g : yG) : zRuN (zJf g) zru_67 := by
  intro ws z w hj n2 s2 l0 u0
  replace hj : zj29 z w (zwo ws) := hj.resolve_left (by decide)
  replace s2 : zwo ws 88 9 = some n2 := s2
  replace l0 : (1 : Int) ≤ n2 := l0
  replace u0 : n2 ≤ (5 : Int) := u0
  show ((True) ∧ (True) ∧ (((z + (1 : Int)) ≤ (w + (0 : Int))) ∧ True)) ∨ False
  try simp only [Int.add_zero, Int.zero_add] at *
  have a := zgv_some s2
  obtain ⟨h1, h2, h3, h4, h5⟩ := hj
  have := h4 (by omega)
  exact Or.inl ⟨trivial, trivial, ⟨by omega, trivial⟩⟩
theorem zrn_68 (g : yG) : zRuN (zJf g) zru_68 := by
  intro ws z w hj n2 s2 n3 s3 n4 s4 n5 s5 l0 u0 l1 u1
  replace hj : zj2 (zwo ws) := hj.resolve_left (by decide)
  replace s2 : zwo ws 88 4 = some n2 := s2
  replace s3 : 0 ≤ n2 ∧ zwo ws 111 (n2).toNat = some n3 := s3
  replace s4 : 0 ≤ n2 ∧ zwo ws 109 (n2).toNat = some n4 := s4
  replace s5 : n5 = (0 : Int) := s5
  replace l0 : (0 : Int) ≤ n2 := l0
  replace u0 : n2 ≤ (1 : Int) := u0
  replace l1 : (1 : Int) ≤ n3 := l1
  replace u1 : n3 ≤ (1 : Int) := u1
  show ((True) ∧ (True) ∧ (zj44 (n4 + (0 : Int)) (n5 + (0 : Int)) (zwo ws) ∧ True)) ∨ False
  try simp only [Int.add_zero, Int.zero_add] at *
  have a := zgv_some s2
  have b := zgv_some s3.2
  have c := zgv_some s4.2
  obtain ⟨h1, h2, h3, h, h4, h5⟩ := hj n2.toNat (by omega) (by omega) (by omega)
  refine Or.inl ⟨trivial, trivial, ⟨⟨n2.toNat, by omega, by omega, by omega, by omega, h3, by omega, ?_, h, h4, h5⟩, trivial⟩⟩
  rw [show (n4 - 560 * ((n2.toNat : Nat) : Int)).toNat = 0 by omega, show n5.toNat = 0 by omega]
  rfl
theorem zrn_69 (g : yG) : zRuN (zJf g) zru_69 := by
  intro ws z w hj n2 s2 n3 s3 n4 s4 n5 s5 l0 u0 g0 g1 g2 g3 g4
  replace hj : zj44 z w (zwo ws) := hj.resolve_left (by decide)
  clear s2
  clear s3
  replace s4 : zwo ws 88 4 = some n4 := s4
  replace s5 : 0 ≤ n4 ∧ zwo ws 110 (n4).toNat = some n5 := s5
  replace l0 : (0 : Int) ≤ n2 := l0
  replace u0 : n2 ≤ (1119 : Int) := u0
  replace g0 : n2 + (0 : Int) ≤ z := g0
  replace g1 : z + (0 : Int) ≤ n2 := g1
  replace g2 : n3 + (0 : Int) ≤ w := g2
  replace g3 : w + (0 : Int) ≤ n3 := g3
  replace g4 : n2 + (1 : Int) ≤ n5 := g4
  show ((((1 : Int) ≤ n3 ∧ n3 ≤ (60 : Int)) ∧ True) ∧ ((∀ x, 0 ≤ (n2 + (0 : Int)) → zwo ws 114 (n2 + (0 : Int)).toNat = some x → (126 : Int) ≤ x ∧ x ≤ (126 : Int)) ∧ True) ∧ (zj44 (n2 + (1 : Int)) (n3 + (0 : Int)) (zwo ws) ∧ True)) ∨ ((((0 : Int) ≤ n3 ∧ n3 ≤ (58 : Int)) ∧ True) ∧ ((∀ x, 0 ≤ (n2 + (0 : Int)) → zwo ws 114 (n2 + (0 : Int)).toNat = some x → (97 : Int) ≤ x ∧ x ≤ (122 : Int)) ∧ True) ∧ (zj44 (n2 + (1 : Int)) (n3 + (1 : Int)) (zwo ws) ∧ True)) ∨ ((((2 : Int) ≤ n3 ∧ n3 ≤ (60 : Int)) ∧ True) ∧ ((∀ x, 0 ≤ (n2 + (0 : Int)) → zwo ws 114 (n2 + (0 : Int)).toNat = some x → (-2147483648 : Int) ≤ x ∧ x ≤ (96 : Int)) ∧ True) ∧ (zj44 (n2 + (1 : Int)) (n3 + (-1 : Int)) (zwo ws) ∧ True)) ∨ ((((2 : Int) ≤ n3 ∧ n3 ≤ (60 : Int)) ∧ True) ∧ ((∀ x, 0 ≤ (n2 + (0 : Int)) → zwo ws 114 (n2 + (0 : Int)).toNat = some x → (123 : Int) ≤ x ∧ x ≤ (125 : Int)) ∧ True) ∧ (zj44 (n2 + (1 : Int)) (n3 + (-1 : Int)) (zwo ws) ∧ True)) ∨ ((((2 : Int) ≤ n3 ∧ n3 ≤ (60 : Int)) ∧ True) ∧ ((∀ x, 0 ≤ (n2 + (0 : Int)) → zwo ws 114 (n2 + (0 : Int)).toNat = some x → (127 : Int) ≤ x ∧ x ≤ (2147483647 : Int)) ∧ True) ∧ (zj44 (n2 + (1 : Int)) (n3 + (-1 : Int)) (zwo ws) ∧ True)) ∨ False
  try simp only [Int.add_zero, Int.zero_add] at *
  obtain ⟨b, hb, e1, e2, e3, e4, e5, e6, h, h4, h5⟩ := hj
  have a := zgv_some s4
  have c := zgv_some s5.2
  have en : n4.toNat = b := by omega
  rw [en] at c
  have hle := zhg_le e6
  have hne : zhg (zgv (zwo ws) 114) (560 * b) ((z - 560 * (b : Int)).toNat + 1) ≠ none := zhg_some (n := (zgv (zwo ws) 110 b - 560 * (b : Int)).toNat) (by omega) (by rw [h5]; exact fun q => nomatch q)
  have hs : (zhg (zgv (zwo ws) 114) (560 * b) (z - 560 * (b : Int)).toNat).bind (zhs (zgv (zwo ws) 114 (560 * b + (z - 560 * (b : Int)).toNat))) ≠ none := hne
  rw [e6, show 560 * b + (z - 560 * (b : Int)).toNat = n2.toNat by omega] at hs
  replace hs : zhs (zgv (zwo ws) 114 n2.toNat) w.toNat ≠ none := hs
  have key : ∀ m : Int, 0 ≤ m → zhs (zgv (zwo ws) 114 n2.toNat) w.toNat = some m.toNat → zj44 (n2 + 1) m (zwo ws) := by
    intro m hm hz
    refine ⟨b, hb, e1, by omega, by omega, e4, hm, ?_, h, h4, h5⟩
    rw [show (n2 + 1 - 560 * (b : Int)).toNat = (z - 560 * (b : Int)).toNat + 1 by omega]
    show (zhg (zgv (zwo ws) 114) (560 * b) (z - 560 * (b : Int)).toNat).bind (zhs (zgv (zwo ws) 114 (560 * b + (z - 560 * (b : Int)).toNat))) = _
    rw [e6, show 560 * b + (z - 560 * (b : Int)).toNat = n2.toNat by omega]
    exact hz
  have hcs : (zgv (zwo ws) 114 n2.toNat = 126 ∧ 1 ≤ w.toNat ∧ zhs (zgv (zwo ws) 114 n2.toNat) w.toNat = some w.toNat) ∨ (97 ≤ zgv (zwo ws) 114 n2.toNat ∧ zgv (zwo ws) 114 n2.toNat ≤ 122 ∧ w.toNat ≤ 58 ∧ zhs (zgv (zwo ws) 114 n2.toNat) w.toNat = some (w.toNat + 1)) ∨ ((zgv (zwo ws) 114 n2.toNat ≤ 96 ∨ (123 ≤ zgv (zwo ws) 114 n2.toNat ∧ zgv (zwo ws) 114 n2.toNat ≤ 125) ∨ 127 ≤ zgv (zwo ws) 114 n2.toNat) ∧ 2 ≤ w.toNat ∧ zhs (zgv (zwo ws) 114 n2.toNat) w.toNat = some (w.toNat - 1)) := by
    unfold zhs at hs ⊢
    by_cases q1 : zgv (zwo ws) 114 n2.toNat = 126
    · rw [if_pos q1] at hs ⊢
      by_cases q2 : 1 ≤ w.toNat
      · rw [if_pos q2]
        exact Or.inl ⟨q1, q2, rfl⟩
      · rw [if_neg q2] at hs
        exact absurd rfl hs
    · rw [if_neg q1] at hs ⊢
      by_cases q2 : 97 ≤ zgv (zwo ws) 114 n2.toNat ∧ zgv (zwo ws) 114 n2.toNat ≤ 122
      · rw [if_pos q2] at hs ⊢
        by_cases q3 : w.toNat ≤ 58
        · rw [if_pos q3]
          exact Or.inr (Or.inl ⟨q2.1, q2.2, q3, rfl⟩)
        · rw [if_neg q3] at hs
          exact absurd rfl hs
      · rw [if_neg q2] at hs ⊢
        by_cases q3 : 2 ≤ w.toNat
        · rw [if_pos q3]
          exact Or.inr (Or.inr ⟨by omega, q3, rfl⟩)
        · rw [if_neg q3] at hs
          exact absurd rfl hs
  rcases hcs with ⟨q1, q2, hst⟩ | ⟨q1, q2, q3, hst⟩ | ⟨q1 | q1 | q1, q2, hst⟩
  · exact Or.inl ⟨⟨⟨by omega, by omega⟩, trivial⟩, ⟨fun x hx0 hx => by have hv := zgv_some hx; have hr := zwo_rng hx; omega, trivial⟩, ⟨key (n3) (by omega) (by rw [hst]; congr 1; omega), trivial⟩⟩
  · exact Or.inr (Or.inl ⟨⟨⟨by omega, by omega⟩, trivial⟩, ⟨fun x hx0 hx => by have hv := zgv_some hx; have hr := zwo_rng hx; omega, trivial⟩, ⟨key (n3 + 1) (by omega) (by rw [hst]; congr 1; omega), trivial⟩⟩)
  · exact Or.inr (Or.inr (Or.inl ⟨⟨⟨by omega, by omega⟩, trivial⟩, ⟨fun x hx0 hx => by have hv := zgv_some hx; have hr := zwo_rng hx; omega, trivial⟩, ⟨key (n3 + (-1)) (by omega) (by rw [hst]; congr 1; omega), trivial⟩⟩))
  · exact Or.inr (Or.inr (Or.inr (Or.inl ⟨⟨⟨by omega, by omega⟩, trivial⟩, ⟨fun x hx0 hx => by have hv := zgv_some hx; have hr := zwo_rng hx; omega, trivial⟩, ⟨key (n3 + (-1)) (by omega) (by rw [hst]; congr 1; omega), trivial⟩⟩)))
  · exact Or.inr (Or.inr (Or.inr (Or.inr (Or.inl ⟨⟨⟨by omega, by omega⟩, trivial⟩, ⟨fun x hx0 hx => by have hv := zgv_some hx; have hr := zwo_rng hx; omega, trivial⟩, ⟨key (n3 + (-1)) (by omega) (by rw [hst]; congr 1; omega), trivial⟩⟩))))
theorem zrn_70 (g : yG) : zRuN (zJf g) zru_70 := by
  intro ws z w hj n2 s2 n3 s3 n4 s4 n5 s5 n6 s6 n7 s7 l0 u0
  replace hj : zjK (zwo ws) 1 (zgv (zwo ws) 88 30) (zgv (zwo ws) 88 7) (zgv (zwo ws) 88 65) (zgv (zwo ws) 88 38) := hj.resolve_left (by decide)
  replace s2 : zwo ws 88 7 = some n2 := s2
  replace s3 : zwo ws 88 65 = some n3 := s3
  replace s4 : zwo ws 88 38 = some n4 := s4
  replace s5 : zwo ws 88 30 = some n5 := s5
  replace s6 : zwo ws 88 0 = some n6 := s6
  replace s7 : n7 = (0 : Int) := s7
  replace l0 : (0 : Int) ≤ n6 := l0
  replace u0 : n6 ≤ (0 : Int) := u0
  show ((((1 : Int) ≤ n2 ∧ n2 ≤ (38 : Int)) ∧ ((0 : Int) ≤ n3 ∧ n3 ≤ (30 : Int)) ∧ ((0 : Int) ≤ n4 ∧ n4 ≤ (7 : Int)) ∧ ((0 : Int) ≤ n5 ∧ n5 ≤ (277 : Int)) ∧ True) ∧ ((∀ x, 0 ≤ (n7 + (0 : Int)) → zwo ws 116 (n7 + (0 : Int)).toNat = some x → (8 : Int) ≤ x ∧ x ≤ (8 : Int)) ∧ True) ∧ (True)) ∨ False
  try simp only [Int.add_zero, Int.zero_add] at *
  have a := zgv_some s2
  have b := zgv_some s3
  have c := zgv_some s4
  have d := zgv_some s5
  have e := zgv_some s6
  obtain ⟨r, h1, h2, h⟩ := hj
  have hl := zKp_lt h
  obtain ⟨a1, a2, a3, a4, a5, a6, a7, -⟩ := h
  exact Or.inl ⟨⟨⟨by omega, by omega⟩, ⟨by omega, by omega⟩, ⟨by omega, by omega⟩, ⟨by omega, by omega⟩, trivial⟩, ⟨fun x hx0 hx => by rw [show n7.toNat = 0 by omega] at hx; have hv := zgv_some hx; omega, trivial⟩, trivial⟩
theorem zrn_71 (g : yG) : zRuN (zJf g) zru_71 := by
  intro ws z w hj n2 s2 n3 s3 n4 s4 n5 s5 n6 s6 n7 s7 l0 u0
  replace hj : zjK (zwo ws) 0 (zgv (zwo ws) 88 30) (zgv (zwo ws) 88 7) (zgv (zwo ws) 88 65) (zgv (zwo ws) 88 38) := hj.resolve_left (by decide)
  replace s2 : zwo ws 88 7 = some n2 := s2
  replace s3 : zwo ws 88 65 = some n3 := s3
  replace s4 : zwo ws 88 38 = some n4 := s4
  replace s5 : zwo ws 88 30 = some n5 := s5
  replace s6 : zwo ws 88 0 = some n6 := s6
  replace s7 : n7 = (0 : Int) := s7
  replace l0 : (0 : Int) ≤ n6 := l0
  replace u0 : n6 ≤ (0 : Int) := u0
  show ((((1 : Int) ≤ n2 ∧ n2 ≤ (38 : Int)) ∧ ((0 : Int) ≤ n3 ∧ n3 ≤ (30 : Int)) ∧ ((0 : Int) ≤ n4 ∧ n4 ≤ (7 : Int)) ∧ ((0 : Int) ≤ n5 ∧ n5 ≤ (277 : Int)) ∧ True) ∧ ((∀ x, 0 ≤ (n7 + (0 : Int)) → zwo ws 116 (n7 + (0 : Int)).toNat = some x → (8 : Int) ≤ x ∧ x ≤ (8 : Int)) ∧ (∀ x, 0 ≤ (n2 + (-1 : Int)) → zwo ws 116 (n2 + (-1 : Int)).toNat = some x → (8 : Int) ≤ x ∧ x ≤ (8 : Int)) ∧ True) ∧ (True)) ∨ ((((2 : Int) ≤ n2 ∧ n2 ≤ (38 : Int)) ∧ ((0 : Int) ≤ n3 ∧ n3 ≤ (30 : Int)) ∧ ((0 : Int) ≤ n4 ∧ n4 ≤ (7 : Int)) ∧ ((0 : Int) ≤ n5 ∧ n5 ≤ (277 : Int)) ∧ True) ∧ ((∀ x, 0 ≤ (n7 + (0 : Int)) → zwo ws 116 (n7 + (0 : Int)).toNat = some x → (8 : Int) ≤ x ∧ x ≤ (8 : Int)) ∧ (∀ x, 0 ≤ (n2 + (-1 : Int)) → zwo ws 116 (n2 + (-1 : Int)).toNat = some x → (1 : Int) ≤ x ∧ x ≤ (7 : Int)) ∧ True) ∧ (True)) ∨ False
  try simp only [Int.add_zero, Int.zero_add] at *
  have a := zgv_some s2
  have b := zgv_some s3
  have c := zgv_some s4
  have d := zgv_some s5
  have e := zgv_some s6
  obtain ⟨r, h1, h2, h⟩ := hj
  have hl := zKp_lt h
  obtain ⟨a1, a2, a3, a4, a5, a6, a7, a8, -⟩ := h
  by_cases q : n2 = 1
  · exact Or.inl ⟨⟨⟨by omega, by omega⟩, ⟨by omega, by omega⟩, ⟨by omega, by omega⟩, ⟨by omega, by omega⟩, trivial⟩, ⟨fun x hx0 hx => by rw [show n7.toNat = 0 by omega] at hx; have hv := zgv_some hx; omega, fun x hx0 hx => by rw [show (n2 + (-1 : Int)).toNat = 0 by omega] at hx; have hv := zgv_some hx; omega, trivial⟩, trivial⟩
  · exact Or.inr (Or.inl ⟨⟨⟨by omega, by omega⟩, ⟨by omega, by omega⟩, ⟨by omega, by omega⟩, ⟨by omega, by omega⟩, trivial⟩, ⟨fun x hx0 hx => by rw [show n7.toNat = 0 by omega] at hx; have hv := zgv_some hx; omega, fun x hx0 hx => by
      have h9 := a8 (n2 + (-1 : Int)).toNat (by omega) (by omega)
      have hv := zgv_some hx
      unfold zpe at h9
      omega, trivial⟩, trivial⟩)
theorem zrn_72 (g : yG) : zRuN (zJf g) zru_72 := by
  intro ws z w hj n2 s2 n3 s3 n4 s4 n5 s5 n6 s6 n7 s7 l0 u0 l1 u1 l2 u2 l3 u3 l4 u4 x0 o0 p0 v0 t0
  clear hj
  replace s2 : zwo ws 88 7 = some n2 := s2
  replace s3 : zwo ws 88 65 = some n3 := s3
  replace s4 : zwo ws 88 38 = some n4 := s4
  replace s5 : zwo ws 88 30 = some n5 := s5
  replace s6 : zwo ws 88 0 = some n6 := s6
  replace s7 : n7 = (0 : Int) := s7
  replace l0 : (1 : Int) ≤ n2 := l0
  replace u0 : n2 ≤ (1 : Int) := u0
  replace l1 : (0 : Int) ≤ n3 := l1
  replace u1 : n3 ≤ (0 : Int) := u1
  replace l2 : (0 : Int) ≤ n4 := l2
  replace u2 : n4 ≤ (0 : Int) := u2
  replace l3 : (0 : Int) ≤ n5 := l3
  replace u3 : n5 ≤ (0 : Int) := u3
  replace l4 : (0 : Int) ≤ n6 := l4
  replace u4 : n6 ≤ (0 : Int) := u4
  replace o0 : 0 ≤ (n7 + (0 : Int)) := o0
  replace p0 : zwo ws 116 (n7 + (0 : Int)).toNat = some x0 := p0
  replace v0 : (8 : Int) ≤ x0 := v0
  replace t0 : x0 ≤ (8 : Int) := t0
  show ((True) ∧ (True) ∧ (zjK (zwo ws) 1 (zgv (zwo ws) 88 30) (zgv (zwo ws) 88 7) (zgv (zwo ws) 88 65) (zgv (zwo ws) 88 38) ∧ True)) ∨ False
  try simp only [Int.add_zero, Int.zero_add] at *
  have a := zgv_some s2
  have b := zgv_some s3
  have c := zgv_some s4
  have d := zgv_some s5
  have e := zgv_some s6
  rw [show n7.toNat = 0 by omega] at p0
  have f := zgv_some p0
  refine Or.inl ⟨trivial, trivial, ⟨⟨0, by omega, by omega, ?_⟩, trivial⟩⟩
  rw [a, b, c, d, show n2 = 1 by omega, show n3 = 0 by omega, show n4 = 0 by omega, show n5 = 0 by omega]
  exact ⟨by omega, by omega, by omega, by omega, by omega, by omega, by omega, fun i hi hs => by omega, rfl, rfl, fun _ => by omega, fun q => by omega, Or.inr rfl⟩
theorem zrn_73 (g : yG) : zRuN (zJf g) zru_73 := by
  intro ws z w hj n2 s2 n3 s3 n4 s4 n5 s5 l0 u0 g0 g1 x0 o0 p0 v0 t0
  replace hj : zj42 (zwo ws) := hj.resolve_left (by decide)
  replace s2 : zwo ws 88 30 = some n2 := s2
  replace s3 : zwo ws 88 0 = some n3 := s3
  replace s4 : n4 = (0 : Int) := s4
  replace s5 : 0 ≤ n3 ∧ zwo ws 110 (n3).toNat = some n5 := s5
  replace l0 : (0 : Int) ≤ n3 := l0
  replace u0 : n3 ≤ (0 : Int) := u0
  replace g0 : n2 + (0 : Int) ≤ n5 := g0
  replace g1 : n5 + (0 : Int) ≤ n2 := g1
  replace o0 : 0 ≤ (n4 + (0 : Int)) := o0
  replace p0 : zwo ws 109 (n4 + (0 : Int)).toNat = some x0 := p0
  replace v0 : (0 : Int) ≤ x0 := v0
  replace t0 : x0 ≤ (0 : Int) := t0
  show ((True) ∧ (True) ∧ (zj_rul (zwo ws) 0 ∧ True)) ∨ False
  try simp only [Int.add_zero, Int.zero_add] at *
  have a := zgv_some s2
  have b := zgv_some s3
  have c := zgv_some s5.2
  have d := zgv_some p0
  obtain ⟨r, h1, h2, h3, h4, h5⟩ := hj
  have er : r = 0 := by omega
  subst er
  rw [show n3.toNat = 0 by omega] at c
  rw [show (n4).toNat = 0 by omega] at d
  refine Or.inl ⟨trivial, trivial, ⟨fun _ => ⟨by omega, by omega, by omega, 1, by omega, ?_⟩, trivial⟩⟩
  rw [c, show n5 = zgv (zwo ws) 88 30 by omega]
  exact h5
theorem zrn_74 (g : yG) : zRuN (zJf g) zru_74 := by
  intro ws z w hj n2 s2 n3 s3 n4 s4 l0 u0
  replace hj : zj1 (zwo ws) := hj.resolve_left (by decide)
  replace s2 : zwo ws 88 4 = some n2 := s2
  replace s3 : 0 ≤ n2 ∧ zwo ws 94 (n2).toNat = some n3 := s3
  replace s4 : n4 = (0 : Int) := s4
  replace l0 : (0 : Int) ≤ n2 := l0
  replace u0 : n2 ≤ (0 : Int) := u0
  show ((True) ∧ (True) ∧ (zj_let (zwo ws) 0 (n3 + (0 : Int)) ∧ True)) ∨ False
  try simp only [Int.add_zero, Int.zero_add] at *
  have a := zgv_some s2
  have b := zgv_some s3.2
  rw [show n2.toNat = 0 by omega] at b
  have h := hj 0 (by omega) (by omega)
  rw [b] at h
  exact Or.inl ⟨trivial, trivial, ⟨h, trivial⟩⟩
theorem zrn_75 (g : yG) : zRuN (zJf g) zru_75 := by
  intro ws z w hj n2 s2 n3 s3 n4 s4 l0 u0 g0
  replace hj : zj_let (zwo ws) 0 z := hj.resolve_left (by decide)
  replace s2 : zwo ws 88 4 = some n2 := s2
  replace s3 : 0 ≤ n2 ∧ zwo ws 94 (n2).toNat = some n3 := s3
  replace s4 : n4 = (0 : Int) := s4
  replace l0 : (0 : Int) ≤ n2 := l0
  replace u0 : n2 ≤ (0 : Int) := u0
  replace g0 : n3 + (0 : Int) ≤ z := g0
  show ((True) ∧ (True) ∧ (zj1 (zwo ws) ∧ True)) ∨ False
  try simp only [Int.add_zero, Int.zero_add] at *
  have a := zgv_some s2
  have b := zgv_some s3.2
  rw [show n2.toNat = 0 by omega] at b
  refine Or.inl ⟨trivial, trivial, ⟨fun c hc hk => ?_, trivial⟩⟩
  have ec : c = 0 := by omega
  subst ec
  exact fun a ha hn => hj a ha (by omega)
theorem zrn_76 (g : yG) : zRuN (zJf g) zru_76 := by
  intro ws z w hj n2 s2 n3 s3 l0 u0
  replace hj : zj2 (zwo ws) := hj.resolve_left (by decide)
  replace s2 : zwo ws 88 4 = some n2 := s2
  replace s3 : n3 = (0 : Int) := s3
  replace l0 : (0 : Int) ≤ n2 := l0
  replace u0 : n2 ≤ (0 : Int) := u0
  show ((True) ∧ (True) ∧ (zj_rul (zwo ws) 0 ∧ True)) ∨ False
  try simp only [Int.add_zero, Int.zero_add] at *
  have a := zgv_some s2
  exact Or.inl ⟨trivial, trivial, ⟨hj 0 (by omega) (by omega), trivial⟩⟩
theorem zrn_77 (g : yG) : zRuN (zJf g) zru_77 := by
  intro ws z w hj n2 s2 n3 s3 l0 u0
  replace hj : zj_rul (zwo ws) 0 := hj.resolve_left (by decide)
  replace s2 : zwo ws 88 4 = some n2 := s2
  replace s3 : n3 = (0 : Int) := s3
  replace l0 : (0 : Int) ≤ n2 := l0
  replace u0 : n2 ≤ (0 : Int) := u0
  show ((True) ∧ (True) ∧ (zj2 (zwo ws) ∧ True)) ∨ False
  try simp only [Int.add_zero, Int.zero_add] at *
  have a := zgv_some s2
  refine Or.inl ⟨trivial, trivial, ⟨fun c hc hk => ?_, trivial⟩⟩
  have ec : c = 0 := by omega
  subst ec
  exact hj
theorem zrn_78 (g : yG) : zRuN (zJf g) zru_78 := by
  intro ws z w hj n2 s2
  clear hj
  replace s2 : n2 = (0 : Int) := s2
  show ((True) ∧ (True) ∧ (zj_let (zwo ws) 0 (n2 + (0 : Int)) ∧ True)) ∨ False
  try simp only [Int.add_zero, Int.zero_add] at *
  exact Or.inl ⟨trivial, trivial, ⟨fun a ha hn => absurd hn (by omega), trivial⟩⟩
theorem zrn_79 (g : yG) : zRuN (zJf g) zru_79 := by
  intro ws z w hj n2 s2 n3 s3 n4 s4 n5 s5 n6 s6 n7 s7 l0 u0
  replace hj : zjK (zwo ws) 1 (zgv (zwo ws) 88 30) (zgv (zwo ws) 88 7) (zgv (zwo ws) 88 65) (zgv (zwo ws) 88 38) := hj.resolve_left (by decide)
  replace s2 : zwo ws 88 7 = some n2 := s2
  replace s3 : zwo ws 88 65 = some n3 := s3
  replace s4 : zwo ws 88 38 = some n4 := s4
  replace s5 : zwo ws 88 30 = some n5 := s5
  replace s6 : zwo ws 88 0 = some n6 := s6
  replace s7 : n7 = (0 : Int) := s7
  replace l0 : (1 : Int) ≤ n6 := l0
  replace u0 : n6 ≤ (1 : Int) := u0
  show ((((1 : Int) ≤ n2 ∧ n2 ≤ (38 : Int)) ∧ ((0 : Int) ≤ n3 ∧ n3 ≤ (30 : Int)) ∧ ((0 : Int) ≤ n4 ∧ n4 ≤ (7 : Int)) ∧ ((560 : Int) ≤ n5 ∧ n5 ≤ (837 : Int)) ∧ True) ∧ ((∀ x, 0 ≤ (n7 + (0 : Int)) → zwo ws 116 (n7 + (0 : Int)).toNat = some x → (8 : Int) ≤ x ∧ x ≤ (8 : Int)) ∧ True) ∧ (True)) ∨ False
  try simp only [Int.add_zero, Int.zero_add] at *
  have a := zgv_some s2
  have b := zgv_some s3
  have c := zgv_some s4
  have d := zgv_some s5
  have e := zgv_some s6
  obtain ⟨r, h1, h2, h⟩ := hj
  have hl := zKp_lt h
  obtain ⟨a1, a2, a3, a4, a5, a6, a7, -⟩ := h
  exact Or.inl ⟨⟨⟨by omega, by omega⟩, ⟨by omega, by omega⟩, ⟨by omega, by omega⟩, ⟨by omega, by omega⟩, trivial⟩, ⟨fun x hx0 hx => by rw [show n7.toNat = 0 by omega] at hx; have hv := zgv_some hx; omega, trivial⟩, trivial⟩
