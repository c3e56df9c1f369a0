/-! the rules hold: printed by wip/p34/genrule2.py -/
theorem zrn_120 (g : yG) : zRuN (zJf g) zru_120 := by
  intro ws z w hj n2 s2 n3 s3 l0 u0 g0 g1 x0 o0 p0 v0 t0 x1 o1 p1 v1 t1
  replace hj : zjK (zwo ws) 0 (zgv (zwo ws) 88 30) z (zgv (zwo ws) 88 65) (zgv (zwo ws) 88 38) := hj.resolve_left (by decide)
  replace s2 : zwo ws 88 7 = some n2 := s2
  replace s3 : n3 = (0 : Int) := s3
  replace l0 : (1 : Int) ≤ z := l0
  replace u0 : z ≤ (89 : Int) := u0
  replace g0 : z + (1 : Int) ≤ n2 := g0
  replace g1 : n2 + (-1 : Int) ≤ z := g1
  replace o0 : 0 ≤ (z + (0 : Int)) := o0
  replace p0 : zwo ws 116 (z + (0 : Int)).toNat = some x0 := p0
  replace v0 : (2 : Int) ≤ x0 := v0
  replace t0 : x0 ≤ (2 : Int) := t0
  replace o1 : 0 ≤ (z + (0 : Int)) := o1
  replace p1 : zwo ws 117 (z + (0 : Int)).toNat = some x1 := p1
  replace v1 : (38 : Int) ≤ x1 := v1
  replace t1 : x1 ≤ (38 : Int) := t1
  show ((True) ∧ (True) ∧ (zjK (zwo ws) 1 (zgv (zwo ws) 88 30) (zgv (zwo ws) 88 7) (zgv (zwo ws) 88 65) (zgv (zwo ws) 88 38) ∧ True)) ∨ False
  try simp only [Int.add_zero, Int.zero_add] at *
  have a := zgv_some s2
  have c := zgv_some p0
  have d := zgv_some p1
  obtain ⟨r, h1, h2, h⟩ := hj
  have hp := zK_push h c d (by unfold zpe; omega)
  obtain ⟨a1, a2, a3, a4, a5, a6, a7, a8, a9, b0, b1, b2, b3⟩ := h
  rw [if_neg (by omega), Int.add_zero] at hp
  have b2' := b2 rfl
  refine Or.inl ⟨trivial, trivial, ⟨⟨r, h1, h2, ?_⟩, trivial⟩⟩
  rw [a, show n2 = z + 1 by omega]
  refine ⟨a1, by omega, a3, a4, a5, a6, a7, hp.2, hp.1.symm, ?_, fun _ => by omega, fun q => by omega, Or.inr rfl⟩
  rw [b0]
  congr 1
  omega
theorem zrn_121 (g : yG) : zRuN (zJf g) zru_121 := by
  intro ws z w hj n2 s2 n3 s3 l0 u0 g0 g1 x0 o0 p0 v0 t0 x1 o1 p1 v1 t1
  replace hj : zjK (zwo ws) 0 (zgv (zwo ws) 88 30) z (zgv (zwo ws) 88 65) (zgv (zwo ws) 88 38) := hj.resolve_left (by decide)
  replace s2 : zwo ws 88 7 = some n2 := s2
  replace s3 : n3 = (0 : Int) := s3
  replace l0 : (1 : Int) ≤ z := l0
  replace u0 : z ≤ (89 : Int) := u0
  replace g0 : z + (1 : Int) ≤ n2 := g0
  replace g1 : n2 + (-1 : Int) ≤ z := g1
  replace o0 : 0 ≤ (z + (0 : Int)) := o0
  replace p0 : zwo ws 116 (z + (0 : Int)).toNat = some x0 := p0
  replace v0 : (4 : Int) ≤ x0 := v0
  replace t0 : x0 ≤ (6 : Int) := t0
  replace o1 : 0 ≤ (z + (0 : Int)) := o1
  replace p1 : zwo ws 117 (z + (0 : Int)).toNat = some x1 := p1
  replace v1 : (37 : Int) ≤ x1 := v1
  replace t1 : x1 ≤ (62 : Int) := t1
  show ((True) ∧ (True) ∧ (zjK (zwo ws) 1 (zgv (zwo ws) 88 30) (zgv (zwo ws) 88 7) (zgv (zwo ws) 88 65) (zgv (zwo ws) 88 38) ∧ True)) ∨ False
  try simp only [Int.add_zero, Int.zero_add] at *
  have a := zgv_some s2
  have c := zgv_some p0
  have d := zgv_some p1
  obtain ⟨r, h1, h2, h⟩ := hj
  have hp := zK_push h c d (by unfold zpe; omega)
  obtain ⟨a1, a2, a3, a4, a5, a6, a7, a8, a9, b0, b1, b2, b3⟩ := h
  rw [if_neg (by omega), Int.add_zero] at hp
  have b2' := b2 rfl
  refine Or.inl ⟨trivial, trivial, ⟨⟨r, h1, h2, ?_⟩, trivial⟩⟩
  rw [a, show n2 = z + 1 by omega]
  refine ⟨a1, by omega, a3, a4, a5, a6, a7, hp.2, hp.1.symm, ?_, fun _ => by omega, fun q => by omega, Or.inr rfl⟩
  rw [b0]
  congr 1
  omega
theorem zrn_122 (g : yG) : zRuN (zJf g) zru_122 := by
  intro ws z w hj n2 s2 n3 s3 n4 s4 n5 s5 n6 s6 l0 u0
  clear hj
  replace s2 : zwo ws 88 4 = some n2 := s2
  replace s3 : 0 ≤ n2 ∧ zwo ws 91 (n2).toNat = some n3 := s3
  replace s4 : 0 ≤ n2 ∧ zwo ws 92 (n2).toNat = some n4 := s4
  replace s5 : 0 ≤ n2 ∧ zwo ws 94 (n2).toNat = some n5 := s5
  replace s6 : n6 = (0 : Int) := s6
  replace l0 : (0 : Int) ≤ n2 := l0
  replace u0 : n2 ≤ (0 : Int) := u0
  show ((True) ∧ (True) ∧ ((0 ≤ (n6 + (0 : Int)) ∧ zwo ws 91 (n6 + (0 : Int)).toNat = some (n3 + (0 : Int))) ∧ (0 ≤ (n6 + (0 : Int)) ∧ zwo ws 92 (n6 + (0 : Int)).toNat = some (n4 + (0 : Int))) ∧ (0 ≤ (n6 + (0 : Int)) ∧ zwo ws 94 (n6 + (0 : Int)).toNat = some (n5 + (0 : Int))) ∧ True)) ∨ False
  try simp only [Int.add_zero, Int.zero_add] at *
  have a := zgv_some s2
  have en : n2.toNat = 0 := by omega
  rw [en] at s3 s4 s5
  have e6 : (n6).toNat = 0 := by omega
  exact Or.inl ⟨trivial, trivial, ⟨⟨by omega, by rw [e6]; exact s3.2⟩, ⟨by omega, by rw [e6]; exact s4.2⟩, ⟨by omega, by rw [e6]; exact s5.2⟩, trivial⟩⟩
theorem zrn_123 (g : yG) : zRuN (zJf g) zru_123 := by
  intro ws z w hj n2 s2 n3 s3 n4 s4 n5 s5 n6 s6 l0 u0
  clear hj
  replace s2 : zwo ws 88 4 = some n2 := s2
  replace s3 : 0 ≤ n2 ∧ zwo ws 91 (n2).toNat = some n3 := s3
  replace s4 : 0 ≤ n2 ∧ zwo ws 92 (n2).toNat = some n4 := s4
  replace s5 : 0 ≤ n2 ∧ zwo ws 94 (n2).toNat = some n5 := s5
  replace s6 : n6 = (0 : Int) := s6
  replace l0 : (1 : Int) ≤ n2 := l0
  replace u0 : n2 ≤ (1 : Int) := u0
  show ((True) ∧ (True) ∧ ((0 ≤ (n6 + (1 : Int)) ∧ zwo ws 91 (n6 + (1 : Int)).toNat = some (n3 + (0 : Int))) ∧ (0 ≤ (n6 + (1 : Int)) ∧ zwo ws 92 (n6 + (1 : Int)).toNat = some (n4 + (0 : Int))) ∧ (0 ≤ (n6 + (1 : Int)) ∧ zwo ws 94 (n6 + (1 : Int)).toNat = some (n5 + (0 : Int))) ∧ True)) ∨ False
  try simp only [Int.add_zero, Int.zero_add] at *
  have a := zgv_some s2
  have en : n2.toNat = 1 := by omega
  rw [en] at s3 s4 s5
  have e6 : (n6 + 1).toNat = 1 := by omega
  exact Or.inl ⟨trivial, trivial, ⟨⟨by omega, by rw [e6]; exact s3.2⟩, ⟨by omega, by rw [e6]; exact s4.2⟩, ⟨by omega, by rw [e6]; exact s5.2⟩, trivial⟩⟩
theorem zrn_124 (g : yG) : zRuN (zJf g) zru_124 := by
  intro ws z w hj n2 s2 l0 u0
  clear hj
  replace s2 : zwo ws 88 9 = some n2 := s2
  replace l0 : (0 : Int) ≤ n2 := l0
  replace u0 : n2 ≤ (5 : Int) := u0
  show ((((0 : Int) ≤ n2 ∧ n2 ≤ (0 : Int)) ∧ True) ∧ (True) ∧ (True)) ∨ ((((1 : Int) ≤ n2 ∧ n2 ≤ (1 : Int)) ∧ True) ∧ (True) ∧ (True)) ∨ ((((2 : Int) ≤ n2 ∧ n2 ≤ (2 : Int)) ∧ True) ∧ (True) ∧ (True)) ∨ ((((3 : Int) ≤ n2 ∧ n2 ≤ (5 : Int)) ∧ True) ∧ (True) ∧ (True)) ∨ False
  try simp only [Int.add_zero, Int.zero_add] at *
  have h : n2 = 0 ∨ n2 = 1 ∨ n2 = 2 ∨ 3 ≤ n2 := by omega
  rcases h with h | h | h | h
  · exact Or.inl ⟨⟨⟨by omega, by omega⟩, trivial⟩, trivial, trivial⟩
  · exact Or.inr (Or.inl ⟨⟨⟨by omega, by omega⟩, trivial⟩, trivial, trivial⟩)
  · exact Or.inr (Or.inr (Or.inl ⟨⟨⟨by omega, by omega⟩, trivial⟩, trivial, trivial⟩))
  · exact Or.inr (Or.inr (Or.inr (Or.inl ⟨⟨⟨by omega, by omega⟩, trivial⟩, trivial, trivial⟩)))
theorem zrn_125 (g : yG) : zRuN (zJf g) zru_125 := by
  intro ws z w hj n2 s2 n3 s3 n4 s4 n5 s5 n6 s6 l0 u0 l1 u1 l2 u2 g0 g1 g2 g3 g4
  replace hj : zj29 z w (zwo ws) := hj.resolve_left (by decide)
  replace s2 : zwo ws 88 3 = some n2 := s2
  replace s3 : zwo ws 88 6 = some n3 := s3
  replace s4 : zwo ws 88 9 = some n4 := s4
  replace s5 : n5 = (0 : Int) := s5
  replace s6 : zwo ws 88 25 = some n6 := s6
  replace l0 : (0 : Int) ≤ n2 := l0
  replace u0 : n2 ≤ (1600 : Int) := u0
  replace l1 : (2 : Int) ≤ n4 := l1
  replace u1 : n4 ≤ (2 : Int) := u1
  replace l2 : (0 : Int) ≤ n6 := l2
  replace u2 : n6 ≤ (1600 : Int) := u2
  replace g0 : n2 + (0 : Int) ≤ z := g0
  replace g1 : z + (0 : Int) ≤ n2 := g1
  replace g2 : n3 + (0 : Int) ≤ w := g2
  replace g3 : w + (0 : Int) ≤ n3 := g3
  replace g4 : n2 + (1 : Int) ≤ n3 := g4
  show ((((0 : Int) ≤ n2 ∧ n2 ≤ (1599 : Int)) ∧ True) ∧ (True) ∧ ((0 ≤ (n5 + (6 : Int)) ∧ zwo ws 88 (n5 + (6 : Int)).toNat = some (n2 + (1 : Int))) ∧ zj29 (n2 + (0 : Int)) (n2 + (1 : Int)) (zwo ws) ∧ ((n2 + (1 : Int)) ≤ (n6 + (0 : Int))) ∧ ((n3 + (0 : Int)) ≤ (n2 + (1 : Int))) ∧ True)) ∨ ((((0 : Int) ≤ n2 ∧ n2 ≤ (1598 : Int)) ∧ True) ∧ (True) ∧ ((0 ≤ (n5 + (6 : Int)) ∧ zwo ws 88 (n5 + (6 : Int)).toNat = some (n2 + (2 : Int))) ∧ zj29 (n2 + (0 : Int)) (n2 + (2 : Int)) (zwo ws) ∧ ((n2 + (2 : Int)) ≤ (n6 + (0 : Int))) ∧ ((n3 + (0 : Int)) ≤ (n2 + (2 : Int))) ∧ True)) ∨ ((((0 : Int) ≤ n2 ∧ n2 ≤ (1597 : Int)) ∧ True) ∧ (True) ∧ ((0 ≤ (n5 + (6 : Int)) ∧ zwo ws 88 (n5 + (6 : Int)).toNat = some (n2 + (3 : Int))) ∧ zj29 (n2 + (0 : Int)) (n2 + (3 : Int)) (zwo ws) ∧ ((n2 + (3 : Int)) ≤ (n6 + (0 : Int))) ∧ ((n3 + (0 : Int)) ≤ (n2 + (3 : Int))) ∧ True)) ∨ ((((0 : Int) ≤ n2 ∧ n2 ≤ (1596 : Int)) ∧ True) ∧ (True) ∧ ((0 ≤ (n5 + (6 : Int)) ∧ zwo ws 88 (n5 + (6 : Int)).toNat = some (n2 + (4 : Int))) ∧ zj29 (n2 + (0 : Int)) (n2 + (4 : Int)) (zwo ws) ∧ ((n2 + (4 : Int)) ≤ (n6 + (0 : Int))) ∧ ((n3 + (0 : Int)) ≤ (n2 + (4 : Int))) ∧ True)) ∨ ((((0 : Int) ≤ n2 ∧ n2 ≤ (1595 : Int)) ∧ True) ∧ (True) ∧ ((0 ≤ (n5 + (6 : Int)) ∧ zwo ws 88 (n5 + (6 : Int)).toNat = some (n2 + (5 : Int))) ∧ zj29 (n2 + (0 : Int)) (n2 + (5 : Int)) (zwo ws) ∧ ((n2 + (5 : Int)) ≤ (n6 + (0 : Int))) ∧ ((n3 + (0 : Int)) ≤ (n2 + (5 : Int))) ∧ True)) ∨ ((((0 : Int) ≤ n2 ∧ n2 ≤ (1594 : Int)) ∧ True) ∧ (True) ∧ (((n2 + (6 : Int)) ≤ (n3 + (0 : Int))) ∧ True)) ∨ False
  try simp only [Int.add_zero, Int.zero_add] at *
  have a := zgv_some s2
  have b := zgv_some s3
  have c := zgv_some s4
  have d := zgv_some s6
  obtain ⟨h1, h2, h3, h4, h5⟩ := hj
  have hc : n3 = n2 + 1 ∨ n3 = n2 + 2 ∨ n3 = n2 + 3 ∨ n3 = n2 + 4 ∨ n3 = n2 + 5 ∨ n2 + 6 ≤ n3 := by omega
  rcases hc with hc | hc | hc | hc | hc | hc
  · exact Or.inl ⟨⟨⟨by omega, by omega⟩, trivial⟩, trivial, ⟨⟨by omega, by rw [show (n5 + 6).toNat = 6 by omega, s3, hc]⟩, ⟨by omega, by omega, fun q => by omega, fun q => by omega, fun q j hj1 hj2 => h5 q j (by omega) (by omega)⟩, by omega, by omega, trivial⟩⟩
  · exact Or.inr (Or.inl ⟨⟨⟨by omega, by omega⟩, trivial⟩, trivial, ⟨⟨by omega, by rw [show (n5 + 6).toNat = 6 by omega, s3, hc]⟩, ⟨by omega, by omega, fun q => by omega, fun q => by omega, fun q j hj1 hj2 => h5 q j (by omega) (by omega)⟩, by omega, by omega, trivial⟩⟩)
  · exact Or.inr (Or.inr (Or.inl ⟨⟨⟨by omega, by omega⟩, trivial⟩, trivial, ⟨⟨by omega, by rw [show (n5 + 6).toNat = 6 by omega, s3, hc]⟩, ⟨by omega, by omega, fun q => by omega, fun q => by omega, fun q j hj1 hj2 => h5 q j (by omega) (by omega)⟩, by omega, by omega, trivial⟩⟩))
  · exact Or.inr (Or.inr (Or.inr (Or.inl ⟨⟨⟨by omega, by omega⟩, trivial⟩, trivial, ⟨⟨by omega, by rw [show (n5 + 6).toNat = 6 by omega, s3, hc]⟩, ⟨by omega, by omega, fun q => by omega, fun q => by omega, fun q j hj1 hj2 => h5 q j (by omega) (by omega)⟩, by omega, by omega, trivial⟩⟩)))
  · exact Or.inr (Or.inr (Or.inr (Or.inr (Or.inl ⟨⟨⟨by omega, by omega⟩, trivial⟩, trivial, ⟨⟨by omega, by rw [show (n5 + 6).toNat = 6 by omega, s3, hc]⟩, ⟨by omega, by omega, fun q => by omega, fun q => by omega, fun q j hj1 hj2 => h5 q j (by omega) (by omega)⟩, by omega, by omega, trivial⟩⟩))))
  · exact Or.inr (Or.inr (Or.inr (Or.inr (Or.inr (Or.inl ⟨⟨⟨by omega, by omega⟩, trivial⟩, trivial, ⟨by omega, trivial⟩⟩)))))
theorem zrn_126 (g : yG) : zRuN (zJf g) zru_126 := by
  intro ws z w hj n2 s2 n3 s3 n4 s4 n5 s5 n6 s6 n7 s7 l0 u0 l1 u1 l2 u2 g0 g1 g2 g3 g4
  replace hj : zj29 z w (zwo ws) := hj.resolve_left (by decide)
  replace s2 : zwo ws 88 3 = some n2 := s2
  replace s3 : zwo ws 88 6 = some n3 := s3
  replace s4 : zwo ws 88 9 = some n4 := s4
  replace s5 : n5 = (0 : Int) := s5
  replace s6 : zwo ws 88 25 = some n6 := s6
  clear s7
  replace l0 : (0 : Int) ≤ n2 := l0
  replace u0 : n2 ≤ (1594 : Int) := u0
  replace l1 : (2 : Int) ≤ n4 := l1
  replace u1 : n4 ≤ (2 : Int) := u1
  replace l2 : (0 : Int) ≤ n7 := l2
  replace u2 : n7 ≤ (0 : Int) := u2
  replace g0 : n2 + (0 : Int) ≤ z := g0
  replace g1 : z + (0 : Int) ≤ n2 := g1
  replace g2 : n3 + (0 : Int) ≤ w := g2
  replace g3 : w + (0 : Int) ≤ n3 := g3
  replace g4 : n2 + (6 : Int) ≤ n3 := g4
  show ((True) ∧ ((∀ x, 0 ≤ (n2 + (0 : Int)) → zwo ws 90 (n2 + (0 : Int)).toNat = some x → (97 : Int) ≤ x ∧ x ≤ (122 : Int)) ∧ True) ∧ (True)) ∨ False
  try simp only [Int.add_zero, Int.zero_add] at *
  have a := zgv_some s2
  have b := zgv_some s3
  have c := zgv_some s4
  have d := zgv_some s6
  obtain ⟨h1, h2, h3, h4, h5⟩ := hj
  exact Or.inl ⟨trivial, ⟨fun x hx0 hx => by
    have hv := zgv_some hx
    have h6 := h5 (by omega) n2.toNat (by omega) (by omega)
    omega, trivial⟩, trivial⟩
theorem zrn_127 (g : yG) : zRuN (zJf g) zru_127 := by
  intro ws z w hj n2 s2 n3 s3 n4 s4 n5 s5 n6 s6 n7 s7 l0 u0 l1 u1 l2 u2 l3 u3 g0 g1 g2 g3 g4 g5
  replace hj : zj29 z w (zwo ws) := hj.resolve_left (by decide)
  replace s2 : zwo ws 88 3 = some n2 := s2
  replace s3 : zwo ws 88 6 = some n3 := s3
  replace s4 : zwo ws 88 9 = some n4 := s4
  replace s5 : n5 = (0 : Int) := s5
  replace s6 : zwo ws 88 25 = some n6 := s6
  clear s7
  replace l0 : (0 : Int) ≤ n2 := l0
  replace u0 : n2 ≤ (1599 : Int) := u0
  replace l1 : (2 : Int) ≤ n4 := l1
  replace u1 : n4 ≤ (2 : Int) := u1
  replace l2 : (0 : Int) ≤ n6 := l2
  replace u2 : n6 ≤ (1600 : Int) := u2
  replace l3 : (0 : Int) ≤ n7 := l3
  replace u3 : n7 ≤ (0 : Int) := u3
  replace g0 : n2 + (0 : Int) ≤ z := g0
  replace g1 : z + (0 : Int) ≤ n2 := g1
  replace g2 : n3 + (0 : Int) ≤ w := g2
  replace g3 : w + (0 : Int) ≤ n3 := g3
  replace g4 : n2 + (1 : Int) ≤ n3 := g4
  replace g5 : n3 + (-5 : Int) ≤ n2 := g5
  show ((((0 : Int) ≤ n2 ∧ n2 ≤ (1599 : Int)) ∧ True) ∧ ((∀ x, 0 ≤ (n2 + (0 : Int)) → zwo ws 90 (n2 + (0 : Int)).toNat = some x → (97 : Int) ≤ x ∧ x ≤ (122 : Int)) ∧ True) ∧ (((n2 + (1 : Int)) ≤ (n6 + (0 : Int))) ∧ True)) ∨ False
  try simp only [Int.add_zero, Int.zero_add] at *
  have a := zgv_some s2
  have b := zgv_some s3
  have c := zgv_some s4
  have d := zgv_some s6
  obtain ⟨h1, h2, h3, h4, h5⟩ := hj
  exact Or.inl ⟨⟨⟨by omega, by omega⟩, trivial⟩, ⟨fun x hx0 hx => by
    have hv := zgv_some hx
    have h6 := h5 (by omega) n2.toNat (by omega) (by omega)
    omega, trivial⟩, ⟨by omega, trivial⟩⟩
theorem zrn_128 (g : yG) : zRuN (zJf g) zru_128 := by
  intro ws z w hj n2 s2 n3 s3 n4 s4 n5 s5 n6 s6 n7 s7 l0 u0 l1 u1 l2 u2 g0 g1 g2 g3 g4
  replace hj : zj29 z w (zwo ws) := hj.resolve_left (by decide)
  replace s2 : zwo ws 88 3 = some n2 := s2
  replace s3 : zwo ws 88 6 = some n3 := s3
  replace s4 : zwo ws 88 9 = some n4 := s4
  replace s5 : n5 = (0 : Int) := s5
  replace s6 : zwo ws 88 25 = some n6 := s6
  clear s7
  replace l0 : (0 : Int) ≤ n2 := l0
  replace u0 : n2 ≤ (1594 : Int) := u0
  replace l1 : (2 : Int) ≤ n4 := l1
  replace u1 : n4 ≤ (2 : Int) := u1
  replace l2 : (1 : Int) ≤ n7 := l2
  replace u2 : n7 ≤ (1 : Int) := u2
  replace g0 : n2 + (0 : Int) ≤ z := g0
  replace g1 : z + (0 : Int) ≤ n2 := g1
  replace g2 : n3 + (0 : Int) ≤ w := g2
  replace g3 : w + (0 : Int) ≤ n3 := g3
  replace g4 : n2 + (6 : Int) ≤ n3 := g4
  show ((True) ∧ ((∀ x, 0 ≤ (n2 + (1 : Int)) → zwo ws 90 (n2 + (1 : Int)).toNat = some x → (97 : Int) ≤ x ∧ x ≤ (122 : Int)) ∧ True) ∧ (True)) ∨ False
  try simp only [Int.add_zero, Int.zero_add] at *
  have a := zgv_some s2
  have b := zgv_some s3
  have c := zgv_some s4
  have d := zgv_some s6
  obtain ⟨h1, h2, h3, h4, h5⟩ := hj
  exact Or.inl ⟨trivial, ⟨fun x hx0 hx => by
    have hv := zgv_some hx
    have h6 := h5 (by omega) (n2 + (1 : Int)).toNat (by omega) (by omega)
    omega, trivial⟩, trivial⟩
theorem zrn_129 (g : yG) : zRuN (zJf g) zru_129 := by
  intro ws z w hj n2 s2 n3 s3 n4 s4 n5 s5 n6 s6 n7 s7 l0 u0 l1 u1 l2 u2 l3 u3 g0 g1 g2 g3 g4 g5
  replace hj : zj29 z w (zwo ws) := hj.resolve_left (by decide)
  replace s2 : zwo ws 88 3 = some n2 := s2
  replace s3 : zwo ws 88 6 = some n3 := s3
  replace s4 : zwo ws 88 9 = some n4 := s4
  replace s5 : n5 = (0 : Int) := s5
  replace s6 : zwo ws 88 25 = some n6 := s6
  clear s7
  replace l0 : (0 : Int) ≤ n2 := l0
  replace u0 : n2 ≤ (1599 : Int) := u0
  replace l1 : (2 : Int) ≤ n4 := l1
  replace u1 : n4 ≤ (2 : Int) := u1
  replace l2 : (0 : Int) ≤ n6 := l2
  replace u2 : n6 ≤ (1600 : Int) := u2
  replace l3 : (1 : Int) ≤ n7 := l3
  replace u3 : n7 ≤ (1 : Int) := u3
  replace g0 : n2 + (0 : Int) ≤ z := g0
  replace g1 : z + (0 : Int) ≤ n2 := g1
  replace g2 : n3 + (0 : Int) ≤ w := g2
  replace g3 : w + (0 : Int) ≤ n3 := g3
  replace g4 : n2 + (2 : Int) ≤ n3 := g4
  replace g5 : n3 + (-5 : Int) ≤ n2 := g5
  show ((((0 : Int) ≤ n2 ∧ n2 ≤ (1598 : Int)) ∧ True) ∧ ((∀ x, 0 ≤ (n2 + (1 : Int)) → zwo ws 90 (n2 + (1 : Int)).toNat = some x → (97 : Int) ≤ x ∧ x ≤ (122 : Int)) ∧ True) ∧ (((n2 + (2 : Int)) ≤ (n6 + (0 : Int))) ∧ True)) ∨ False
  try simp only [Int.add_zero, Int.zero_add] at *
  have a := zgv_some s2
  have b := zgv_some s3
  have c := zgv_some s4
  have d := zgv_some s6
  obtain ⟨h1, h2, h3, h4, h5⟩ := hj
  exact Or.inl ⟨⟨⟨by omega, by omega⟩, trivial⟩, ⟨fun x hx0 hx => by
    have hv := zgv_some hx
    have h6 := h5 (by omega) (n2 + (1 : Int)).toNat (by omega) (by omega)
    omega, trivial⟩, ⟨by omega, trivial⟩⟩
theorem zrn_130 (g : yG) : zRuN (zJf g) zru_130 := by
  intro ws z w hj n2 s2 n3 s3 n4 s4 n5 s5 n6 s6 n7 s7 l0 u0 l1 u1 l2 u2 g0 g1 g2 g3 g4
  replace hj : zj29 z w (zwo ws) := hj.resolve_left (by decide)
  replace s2 : zwo ws 88 3 = some n2 := s2
  replace s3 : zwo ws 88 6 = some n3 := s3
  replace s4 : zwo ws 88 9 = some n4 := s4
  replace s5 : n5 = (0 : Int) := s5
  replace s6 : zwo ws 88 25 = some n6 := s6
  clear s7
  replace l0 : (0 : Int) ≤ n2 := l0
  replace u0 : n2 ≤ (1594 : Int) := u0
  replace l1 : (2 : Int) ≤ n4 := l1
  replace u1 : n4 ≤ (2 : Int) := u1
  replace l2 : (2 : Int) ≤ n7 := l2
  replace u2 : n7 ≤ (2 : Int) := u2
  replace g0 : n2 + (0 : Int) ≤ z := g0
  replace g1 : z + (0 : Int) ≤ n2 := g1
  replace g2 : n3 + (0 : Int) ≤ w := g2
  replace g3 : w + (0 : Int) ≤ n3 := g3
  replace g4 : n2 + (6 : Int) ≤ n3 := g4
  show ((True) ∧ ((∀ x, 0 ≤ (n2 + (2 : Int)) → zwo ws 90 (n2 + (2 : Int)).toNat = some x → (97 : Int) ≤ x ∧ x ≤ (122 : Int)) ∧ True) ∧ (True)) ∨ False
  try simp only [Int.add_zero, Int.zero_add] at *
  have a := zgv_some s2
  have b := zgv_some s3
  have c := zgv_some s4
  have d := zgv_some s6
  obtain ⟨h1, h2, h3, h4, h5⟩ := hj
  exact Or.inl ⟨trivial, ⟨fun x hx0 hx => by
    have hv := zgv_some hx
    have h6 := h5 (by omega) (n2 + (2 : Int)).toNat (by omega) (by omega)
    omega, trivial⟩, trivial⟩
theorem zrn_131 (g : yG) : zRuN (zJf g) zru_131 := by
  intro ws z w hj n2 s2 n3 s3 n4 s4 n5 s5 n6 s6 n7 s7 l0 u0 l1 u1 l2 u2 l3 u3 g0 g1 g2 g3 g4 g5
  replace hj : zj29 z w (zwo ws) := hj.resolve_left (by decide)
  replace s2 : zwo ws 88 3 = some n2 := s2
  replace s3 : zwo ws 88 6 = some n3 := s3
  replace s4 : zwo ws 88 9 = some n4 := s4
  replace s5 : n5 = (0 : Int) := s5
  replace s6 : zwo ws 88 25 = some n6 := s6
  clear s7
  replace l0 : (0 : Int) ≤ n2 := l0
  replace u0 : n2 ≤ (1599 : Int) := u0
  replace l1 : (2 : Int) ≤ n4 := l1
  replace u1 : n4 ≤ (2 : Int) := u1
  replace l2 : (0 : Int) ≤ n6 := l2
  replace u2 : n6 ≤ (1600 : Int) := u2
  replace l3 : (2 : Int) ≤ n7 := l3
  replace u3 : n7 ≤ (2 : Int) := u3
  replace g0 : n2 + (0 : Int) ≤ z := g0
  replace g1 : z + (0 : Int) ≤ n2 := g1
  replace g2 : n3 + (0 : Int) ≤ w := g2
  replace g3 : w + (0 : Int) ≤ n3 := g3
  replace g4 : n2 + (3 : Int) ≤ n3 := g4
  replace g5 : n3 + (-5 : Int) ≤ n2 := g5
  show ((((0 : Int) ≤ n2 ∧ n2 ≤ (1597 : Int)) ∧ True) ∧ ((∀ x, 0 ≤ (n2 + (2 : Int)) → zwo ws 90 (n2 + (2 : Int)).toNat = some x → (97 : Int) ≤ x ∧ x ≤ (122 : Int)) ∧ True) ∧ (((n2 + (3 : Int)) ≤ (n6 + (0 : Int))) ∧ True)) ∨ False
  try simp only [Int.add_zero, Int.zero_add] at *
  have a := zgv_some s2
  have b := zgv_some s3
  have c := zgv_some s4
  have d := zgv_some s6
  obtain ⟨h1, h2, h3, h4, h5⟩ := hj
  exact Or.inl ⟨⟨⟨by omega, by omega⟩, trivial⟩, ⟨fun x hx0 hx => by
    have hv := zgv_some hx
    have h6 := h5 (by omega) (n2 + (2 : Int)).toNat (by omega) (by omega)
    omega, trivial⟩, ⟨by omega, trivial⟩⟩
theorem zrn_132 (g : yG) : zRuN (zJf g) zru_132 := by
  intro ws z w hj n2 s2 n3 s3 n4 s4 n5 s5 n6 s6 n7 s7 l0 u0 l1 u1 l2 u2 g0 g1 g2 g3 g4
  replace hj : zj29 z w (zwo ws) := hj.resolve_left (by decide)
  replace s2 : zwo ws 88 3 = some n2 := s2
  replace s3 : zwo ws 88 6 = some n3 := s3
  replace s4 : zwo ws 88 9 = some n4 := s4
  replace s5 : n5 = (0 : Int) := s5
  replace s6 : zwo ws 88 25 = some n6 := s6
  clear s7
  replace l0 : (0 : Int) ≤ n2 := l0
  replace u0 : n2 ≤ (1594 : Int) := u0
  replace l1 : (2 : Int) ≤ n4 := l1
  replace u1 : n4 ≤ (2 : Int) := u1
  replace l2 : (3 : Int) ≤ n7 := l2
  replace u2 : n7 ≤ (3 : Int) := u2
  replace g0 : n2 + (0 : Int) ≤ z := g0
  replace g1 : z + (0 : Int) ≤ n2 := g1
  replace g2 : n3 + (0 : Int) ≤ w := g2
  replace g3 : w + (0 : Int) ≤ n3 := g3
  replace g4 : n2 + (6 : Int) ≤ n3 := g4
  show ((True) ∧ ((∀ x, 0 ≤ (n2 + (3 : Int)) → zwo ws 90 (n2 + (3 : Int)).toNat = some x → (97 : Int) ≤ x ∧ x ≤ (122 : Int)) ∧ True) ∧ (True)) ∨ False
  try simp only [Int.add_zero, Int.zero_add] at *
  have a := zgv_some s2
  have b := zgv_some s3
  have c := zgv_some s4
  have d := zgv_some s6
  obtain ⟨h1, h2, h3, h4, h5⟩ := hj
  exact Or.inl ⟨trivial, ⟨fun x hx0 hx => by
    have hv := zgv_some hx
    have h6 := h5 (by omega) (n2 + (3 : Int)).toNat (by omega) (by omega)
    omega, trivial⟩, trivial⟩
theorem zrn_133 (g : yG) : zRuN (zJf g) zru_133 := by
  intro ws z w hj n2 s2 n3 s3 n4 s4 n5 s5 n6 s6 n7 s7 l0 u0 l1 u1 l2 u2 l3 u3 g0 g1 g2 g3 g4 g5
  replace hj : zj29 z w (zwo ws) := hj.resolve_left (by decide)
  replace s2 : zwo ws 88 3 = some n2 := s2
  replace s3 : zwo ws 88 6 = some n3 := s3
  replace s4 : zwo ws 88 9 = some n4 := s4
  replace s5 : n5 = (0 : Int) := s5
  replace s6 : zwo ws 88 25 = some n6 := s6
  clear s7
  replace l0 : (0 : Int) ≤ n2 := l0
  replace u0 : n2 ≤ (1599 : Int) := u0
  replace l1 : (2 : Int) ≤ n4 := l1
  replace u1 : n4 ≤ (2 : Int) := u1
  replace l2 : (0 : Int) ≤ n6 := l2
  replace u2 : n6 ≤ (1600 : Int) := u2
  replace l3 : (3 : Int) ≤ n7 := l3
  replace u3 : n7 ≤ (3 : Int) := u3
  replace g0 : n2 + (0 : Int) ≤ z := g0
  replace g1 : z + (0 : Int) ≤ n2 := g1
  replace g2 : n3 + (0 : Int) ≤ w := g2
  replace g3 : w + (0 : Int) ≤ n3 := g3
  replace g4 : n2 + (4 : Int) ≤ n3 := g4
  replace g5 : n3 + (-5 : Int) ≤ n2 := g5
  show ((((0 : Int) ≤ n2 ∧ n2 ≤ (1596 : Int)) ∧ True) ∧ ((∀ x, 0 ≤ (n2 + (3 : Int)) → zwo ws 90 (n2 + (3 : Int)).toNat = some x → (97 : Int) ≤ x ∧ x ≤ (122 : Int)) ∧ True) ∧ (((n2 + (4 : Int)) ≤ (n6 + (0 : Int))) ∧ True)) ∨ False
  try simp only [Int.add_zero, Int.zero_add] at *
  have a := zgv_some s2
  have b := zgv_some s3
  have c := zgv_some s4
  have d := zgv_some s6
  obtain ⟨h1, h2, h3, h4, h5⟩ := hj
  exact Or.inl ⟨⟨⟨by omega, by omega⟩, trivial⟩, ⟨fun x hx0 hx => by
    have hv := zgv_some hx
    have h6 := h5 (by omega) (n2 + (3 : Int)).toNat (by omega) (by omega)
    omega, trivial⟩, ⟨by omega, trivial⟩⟩
theorem zrn_134 (g : yG) : zRuN (zJf g) zru_134 := by
  intro ws z w hj n2 s2 n3 s3 n4 s4 n5 s5 n6 s6 n7 s7 l0 u0 l1 u1 l2 u2 g0 g1 g2 g3 g4
  replace hj : zj29 z w (zwo ws) := hj.resolve_left (by decide)
  replace s2 : zwo ws 88 3 = some n2 := s2
  replace s3 : zwo ws 88 6 = some n3 := s3
  replace s4 : zwo ws 88 9 = some n4 := s4
  replace s5 : n5 = (0 : Int) := s5
  replace s6 : zwo ws 88 25 = some n6 := s6
  clear s7
  replace l0 : (0 : Int) ≤ n2 := l0
  replace u0 : n2 ≤ (1594 : Int) := u0
  replace l1 : (2 : Int) ≤ n4 := l1
  replace u1 : n4 ≤ (2 : Int) := u1
  replace l2 : (4 : Int) ≤ n7 := l2
  replace u2 : n7 ≤ (4 : Int) := u2
  replace g0 : n2 + (0 : Int) ≤ z := g0
  replace g1 : z + (0 : Int) ≤ n2 := g1
  replace g2 : n3 + (0 : Int) ≤ w := g2
  replace g3 : w + (0 : Int) ≤ n3 := g3
  replace g4 : n2 + (6 : Int) ≤ n3 := g4
  show ((True) ∧ ((∀ x, 0 ≤ (n2 + (4 : Int)) → zwo ws 90 (n2 + (4 : Int)).toNat = some x → (97 : Int) ≤ x ∧ x ≤ (122 : Int)) ∧ True) ∧ (True)) ∨ False
  try simp only [Int.add_zero, Int.zero_add] at *
  have a := zgv_some s2
  have b := zgv_some s3
  have c := zgv_some s4
  have d := zgv_some s6
  obtain ⟨h1, h2, h3, h4, h5⟩ := hj
  exact Or.inl ⟨trivial, ⟨fun x hx0 hx => by
    have hv := zgv_some hx
    have h6 := h5 (by omega) (n2 + (4 : Int)).toNat (by omega) (by omega)
    omega, trivial⟩, trivial⟩
theorem zrn_135 (g : yG) : zRuN (zJf g) zru_135 := by
  intro ws z w hj n2 s2 n3 s3 n4 s4 n5 s5 n6 s6 n7 s7 l0 u0 l1 u1 l2 u2 l3 u3 g0 g1 g2 g3 g4 g5
  replace hj : zj29 z w (zwo ws) := hj.resolve_left (by decide)
  replace s2 : zwo ws 88 3 = some n2 := s2
  replace s3 : zwo ws 88 6 = some n3 := s3
  replace s4 : zwo ws 88 9 = some n4 := s4
  replace s5 : n5 = (0 : Int) := s5
  replace s6 : zwo ws 88 25 = some n6 := s6
  clear s7
  replace l0 : (0 : Int) ≤ n2 := l0
  replace u0 : n2 ≤ (1599 : Int) := u0
  replace l1 : (2 : Int) ≤ n4 := l1
  replace u1 : n4 ≤ (2 : Int) := u1
  replace l2 : (0 : Int) ≤ n6 := l2
  replace u2 : n6 ≤ (1600 : Int) := u2
  replace l3 : (4 : Int) ≤ n7 := l3
  replace u3 : n7 ≤ (4 : Int) := u3
  replace g0 : n2 + (0 : Int) ≤ z := g0
  replace g1 : z + (0 : Int) ≤ n2 := g1
  replace g2 : n3 + (0 : Int) ≤ w := g2
  replace g3 : w + (0 : Int) ≤ n3 := g3
  replace g4 : n2 + (5 : Int) ≤ n3 := g4
  replace g5 : n3 + (-5 : Int) ≤ n2 := g5
  show ((((0 : Int) ≤ n2 ∧ n2 ≤ (1595 : Int)) ∧ True) ∧ ((∀ x, 0 ≤ (n2 + (4 : Int)) → zwo ws 90 (n2 + (4 : Int)).toNat = some x → (97 : Int) ≤ x ∧ x ≤ (122 : Int)) ∧ True) ∧ (((n2 + (5 : Int)) ≤ (n6 + (0 : Int))) ∧ True)) ∨ False
  try simp only [Int.add_zero, Int.zero_add] at *
  have a := zgv_some s2
  have b := zgv_some s3
  have c := zgv_some s4
  have d := zgv_some s6
  obtain ⟨h1, h2, h3, h4, h5⟩ := hj
  exact Or.inl ⟨⟨⟨by omega, by omega⟩, trivial⟩, ⟨fun x hx0 hx => by
    have hv := zgv_some hx
    have h6 := h5 (by omega) (n2 + (4 : Int)).toNat (by omega) (by omega)
    omega, trivial⟩, ⟨by omega, trivial⟩⟩
theorem zrn_136 (g : yG) : zRuN (zJf g) zru_136 := by
  intro ws z w hj n2 s2 n3 s3 n4 s4 n5 s5 l0 u0
  replace hj : zj_let (zwo ws) 0 z := hj.resolve_left (by decide)
  replace s2 : n2 = (0 : Int) := s2
  replace s3 : n3 = n2 + z * (1 : Int) := s3
  replace s4 : n4 = (0 : Int) := s4
  replace s5 : n5 = n4 + z * (5 : Int) := s5
  replace l0 : (0 : Int) ≤ z := l0
  replace u0 : z ≤ (15 : Int) := u0
  show ((True) ∧ (True) ∧ (zj45 0 (n3 + (0 : Int)) (n5 + (0 : Int)) (zwo ws) ∧ True)) ∨ False
  try simp only [Int.add_zero, Int.zero_add] at *
  refine Or.inl ⟨trivial, trivial, ⟨⟨z.toNat, by omega, by omega, by omega, ?_⟩, trivial⟩⟩
  rw [show ((z.toNat : Nat) : Int) = z by omega]
  exact hj
theorem zrn_137 (g : yG) : zRuN (zJf g) zru_137 := by
  intro ws z w hj n2 s2 x0 o0 p0 v0 t0 x1 o1 p1 v1 t1
  replace hj : zj45 0 z w (zwo ws) := hj.resolve_left (by decide)
  replace s2 : n2 = (0 : Int) := s2
  replace o0 : 0 ≤ (z + (0 : Int)) := o0
  replace p0 : zwo ws 101 (z + (0 : Int)).toNat = some x0 := p0
  replace v0 : (1 : Int) ≤ x0 := v0
  replace t0 : x0 ≤ (1 : Int) := t0
  replace o1 : 0 ≤ (w + (0 : Int)) := o1
  replace p1 : zwo ws 102 (w + (0 : Int)).toNat = some x1 := p1
  replace v1 : (1 : Int) ≤ x1 := v1
  replace t1 : x1 ≤ (26 : Int) := t1
  show ((True) ∧ (True) ∧ (zj_let (zwo ws) 0 (z + (1 : Int)) ∧ True)) ∨ False
  try simp only [Int.add_zero, Int.zero_add] at *
  obtain ⟨m, hm, e1, e2, h⟩ := hj
  have a := zgv_some p0
  have c0 := zgv_some p1
  refine Or.inl ⟨trivial, trivial, ⟨fun a2 ha hn k hk hl => ?_, trivial⟩⟩
  by_cases q : (a2 : Int) < (m : Int)
  · exact h a2 ha q k hk hl
  · have ea : a2 = m := by omega
    subst ea
    have ez : z.toNat = 16 * 0 + a2 := by omega
    rw [ez] at a
    have hk5 : k = 0 := by omega
    subst hk5
    rw [show (w).toNat = 80 * 0 + 5 * a2 + 0 by omega] at c0
    omega
theorem zrn_138 (g : yG) : zRuN (zJf g) zru_138 := by
  intro ws z w hj n2 s2 x0 o0 p0 v0 t0 x1 o1 p1 v1 t1 x2 o2 p2 v2 t2
  replace hj : zj45 0 z w (zwo ws) := hj.resolve_left (by decide)
  replace s2 : n2 = (0 : Int) := s2
  replace o0 : 0 ≤ (z + (0 : Int)) := o0
  replace p0 : zwo ws 101 (z + (0 : Int)).toNat = some x0 := p0
  replace v0 : (2 : Int) ≤ x0 := v0
  replace t0 : x0 ≤ (2 : Int) := t0
  replace o1 : 0 ≤ (w + (0 : Int)) := o1
  replace p1 : zwo ws 102 (w + (0 : Int)).toNat = some x1 := p1
  replace v1 : (1 : Int) ≤ x1 := v1
  replace t1 : x1 ≤ (26 : Int) := t1
  replace o2 : 0 ≤ (w + (1 : Int)) := o2
  replace p2 : zwo ws 102 (w + (1 : Int)).toNat = some x2 := p2
  replace v2 : (1 : Int) ≤ x2 := v2
  replace t2 : x2 ≤ (26 : Int) := t2
  show ((True) ∧ (True) ∧ (zj_let (zwo ws) 0 (z + (1 : Int)) ∧ True)) ∨ False
  try simp only [Int.add_zero, Int.zero_add] at *
  obtain ⟨m, hm, e1, e2, h⟩ := hj
  have a := zgv_some p0
  have c0 := zgv_some p1
  have c1 := zgv_some p2
  refine Or.inl ⟨trivial, trivial, ⟨fun a2 ha hn k hk hl => ?_, trivial⟩⟩
  by_cases q : (a2 : Int) < (m : Int)
  · exact h a2 ha q k hk hl
  · have ea : a2 = m := by omega
    subst ea
    have ez : z.toNat = 16 * 0 + a2 := by omega
    rw [ez] at a
    have hk5 : k = 0 ∨ k = 1 := by omega
    rcases hk5 with rfl | rfl
    · rw [show (w).toNat = 80 * 0 + 5 * a2 + 0 by omega] at c0
      omega
    · rw [show (w + (1 : Int)).toNat = 80 * 0 + 5 * a2 + 1 by omega] at c1
      omega
theorem zrn_139 (g : yG) : zRuN (zJf g) zru_139 := by
  intro ws z w hj n2 s2 x0 o0 p0 v0 t0 x1 o1 p1 v1 t1 x2 o2 p2 v2 t2 x3 o3 p3 v3 t3
  replace hj : zj45 0 z w (zwo ws) := hj.resolve_left (by decide)
  replace s2 : n2 = (0 : Int) := s2
  replace o0 : 0 ≤ (z + (0 : Int)) := o0
  replace p0 : zwo ws 101 (z + (0 : Int)).toNat = some x0 := p0
  replace v0 : (3 : Int) ≤ x0 := v0
  replace t0 : x0 ≤ (3 : Int) := t0
  replace o1 : 0 ≤ (w + (0 : Int)) := o1
  replace p1 : zwo ws 102 (w + (0 : Int)).toNat = some x1 := p1
  replace v1 : (1 : Int) ≤ x1 := v1
  replace t1 : x1 ≤ (26 : Int) := t1
  replace o2 : 0 ≤ (w + (1 : Int)) := o2
  replace p2 : zwo ws 102 (w + (1 : Int)).toNat = some x2 := p2
  replace v2 : (1 : Int) ≤ x2 := v2
  replace t2 : x2 ≤ (26 : Int) := t2
  replace o3 : 0 ≤ (w + (2 : Int)) := o3
  replace p3 : zwo ws 102 (w + (2 : Int)).toNat = some x3 := p3
  replace v3 : (1 : Int) ≤ x3 := v3
  replace t3 : x3 ≤ (26 : Int) := t3
  show ((True) ∧ (True) ∧ (zj_let (zwo ws) 0 (z + (1 : Int)) ∧ True)) ∨ False
  try simp only [Int.add_zero, Int.zero_add] at *
  obtain ⟨m, hm, e1, e2, h⟩ := hj
  have a := zgv_some p0
  have c0 := zgv_some p1
  have c1 := zgv_some p2
  have c2 := zgv_some p3
  refine Or.inl ⟨trivial, trivial, ⟨fun a2 ha hn k hk hl => ?_, trivial⟩⟩
  by_cases q : (a2 : Int) < (m : Int)
  · exact h a2 ha q k hk hl
  · have ea : a2 = m := by omega
    subst ea
    have ez : z.toNat = 16 * 0 + a2 := by omega
    rw [ez] at a
    have hk5 : k = 0 ∨ k = 1 ∨ k = 2 := by omega
    rcases hk5 with rfl | rfl | rfl
    · rw [show (w).toNat = 80 * 0 + 5 * a2 + 0 by omega] at c0
      omega
    · rw [show (w + (1 : Int)).toNat = 80 * 0 + 5 * a2 + 1 by omega] at c1
      omega
    · rw [show (w + (2 : Int)).toNat = 80 * 0 + 5 * a2 + 2 by omega] at c2
      omega
theorem zrn_140 (g : yG) : zRuN (zJf g) zru_140 := by
  intro ws z w hj n2 s2 x0 o0 p0 v0 t0 x1 o1 p1 v1 t1 x2 o2 p2 v2 t2 x3 o3 p3 v3 t3 x4 o4 p4 v4 t4
  replace hj : zj45 0 z w (zwo ws) := hj.resolve_left (by decide)
  replace s2 : n2 = (0 : Int) := s2
  replace o0 : 0 ≤ (z + (0 : Int)) := o0
  replace p0 : zwo ws 101 (z + (0 : Int)).toNat = some x0 := p0
  replace v0 : (4 : Int) ≤ x0 := v0
  replace t0 : x0 ≤ (4 : Int) := t0
  replace o1 : 0 ≤ (w + (0 : Int)) := o1
  replace p1 : zwo ws 102 (w + (0 : Int)).toNat = some x1 := p1
  replace v1 : (1 : Int) ≤ x1 := v1
  replace t1 : x1 ≤ (26 : Int) := t1
  replace o2 : 0 ≤ (w + (1 : Int)) := o2
  replace p2 : zwo ws 102 (w + (1 : Int)).toNat = some x2 := p2
  replace v2 : (1 : Int) ≤ x2 := v2
  replace t2 : x2 ≤ (26 : Int) := t2
  replace o3 : 0 ≤ (w + (2 : Int)) := o3
  replace p3 : zwo ws 102 (w + (2 : Int)).toNat = some x3 := p3
  replace v3 : (1 : Int) ≤ x3 := v3
  replace t3 : x3 ≤ (26 : Int) := t3
  replace o4 : 0 ≤ (w + (3 : Int)) := o4
  replace p4 : zwo ws 102 (w + (3 : Int)).toNat = some x4 := p4
  replace v4 : (1 : Int) ≤ x4 := v4
  replace t4 : x4 ≤ (26 : Int) := t4
  show ((True) ∧ (True) ∧ (zj_let (zwo ws) 0 (z + (1 : Int)) ∧ True)) ∨ False
  try simp only [Int.add_zero, Int.zero_add] at *
  obtain ⟨m, hm, e1, e2, h⟩ := hj
  have a := zgv_some p0
  have c0 := zgv_some p1
  have c1 := zgv_some p2
  have c2 := zgv_some p3
  have c3 := zgv_some p4
  refine Or.inl ⟨trivial, trivial, ⟨fun a2 ha hn k hk hl => ?_, trivial⟩⟩
  by_cases q : (a2 : Int) < (m : Int)
  · exact h a2 ha q k hk hl
  · have ea : a2 = m := by omega
    subst ea
    have ez : z.toNat = 16 * 0 + a2 := by omega
    rw [ez] at a
    have hk5 : k = 0 ∨ k = 1 ∨ k = 2 ∨ k = 3 := by omega
    rcases hk5 with rfl | rfl | rfl | rfl
    · rw [show (w).toNat = 80 * 0 + 5 * a2 + 0 by omega] at c0
      omega
    · rw [show (w + (1 : Int)).toNat = 80 * 0 + 5 * a2 + 1 by omega] at c1
      omega
    · rw [show (w + (2 : Int)).toNat = 80 * 0 + 5 * a2 + 2 by omega] at c2
      omega
    · rw [show (w + (3 : Int)).toNat = 80 * 0 + 5 * a2 + 3 by omega] at c3
      omega
theorem zrn_141 (g : yG) : zRuN (zJf g) zru_141 := by
  intro ws z w hj n2 s2 x0 o0 p0 v0 t0 x1 o1 p1 v1 t1 x2 o2 p2 v2 t2 x3 o3 p3 v3 t3 x4 o4 p4 v4 t4 x5 o5 p5 v5 t5
  replace hj : zj45 0 z w (zwo ws) := hj.resolve_left (by decide)
  replace s2 : n2 = (0 : Int) := s2
  replace o0 : 0 ≤ (z + (0 : Int)) := o0
  replace p0 : zwo ws 101 (z + (0 : Int)).toNat = some x0 := p0
  replace v0 : (5 : Int) ≤ x0 := v0
  replace t0 : x0 ≤ (5 : Int) := t0
  replace o1 : 0 ≤ (w + (0 : Int)) := o1
  replace p1 : zwo ws 102 (w + (0 : Int)).toNat = some x1 := p1
  replace v1 : (1 : Int) ≤ x1 := v1
  replace t1 : x1 ≤ (26 : Int) := t1
  replace o2 : 0 ≤ (w + (1 : Int)) := o2
  replace p2 : zwo ws 102 (w + (1 : Int)).toNat = some x2 := p2
  replace v2 : (1 : Int) ≤ x2 := v2
  replace t2 : x2 ≤ (26 : Int) := t2
  replace o3 : 0 ≤ (w + (2 : Int)) := o3
  replace p3 : zwo ws 102 (w + (2 : Int)).toNat = some x3 := p3
  replace v3 : (1 : Int) ≤ x3 := v3
  replace t3 : x3 ≤ (26 : Int) := t3
  replace o4 : 0 ≤ (w + (3 : Int)) := o4
  replace p4 : zwo ws 102 (w + (3 : Int)).toNat = some x4 := p4
  replace v4 : (1 : Int) ≤ x4 := v4
  replace t4 : x4 ≤ (26 : Int) := t4
  replace o5 : 0 ≤ (w + (4 : Int)) := o5
  replace p5 : zwo ws 102 (w + (4 : Int)).toNat = some x5 := p5
  replace v5 : (1 : Int) ≤ x5 := v5
  replace t5 : x5 ≤ (26 : Int) := t5
  show ((True) ∧ (True) ∧ (zj_let (zwo ws) 0 (z + (1 : Int)) ∧ True)) ∨ False
  try simp only [Int.add_zero, Int.zero_add] at *
  obtain ⟨m, hm, e1, e2, h⟩ := hj
  have a := zgv_some p0
  have c0 := zgv_some p1
  have c1 := zgv_some p2
  have c2 := zgv_some p3
  have c3 := zgv_some p4
  have c4 := zgv_some p5
  refine Or.inl ⟨trivial, trivial, ⟨fun a2 ha hn k hk hl => ?_, trivial⟩⟩
  by_cases q : (a2 : Int) < (m : Int)
  · exact h a2 ha q k hk hl
  · have ea : a2 = m := by omega
    subst ea
    have ez : z.toNat = 16 * 0 + a2 := by omega
    rw [ez] at a
    have hk5 : k = 0 ∨ k = 1 ∨ k = 2 ∨ k = 3 ∨ k = 4 := by omega
    rcases hk5 with rfl | rfl | rfl | rfl | rfl
    · rw [show (w).toNat = 80 * 0 + 5 * a2 + 0 by omega] at c0
      omega
    · rw [show (w + (1 : Int)).toNat = 80 * 0 + 5 * a2 + 1 by omega] at c1
      omega
    · rw [show (w + (2 : Int)).toNat = 80 * 0 + 5 * a2 + 2 by omega] at c2
      omega
    · rw [show (w + (3 : Int)).toNat = 80 * 0 + 5 * a2 + 3 by omega] at c3
      omega
    · rw [show (w + (4 : Int)).toNat = 80 * 0 + 5 * a2 + 4 by omega] at c4
      omega
theorem zrn_142 (g : yG) : zRuN (zJf g) zru_142 := by
  intro ws z w hj n2 s2 x0 o0 p0 v0 t0 x1 o1 p1 v1 t1 x2 o2 p2 v2 t2 x3 o3 p3 v3 t3 x4 o4 p4 v4 t4 x5 o5 p5 v5 t5
  replace hj : zj45 0 z w (zwo ws) := hj.resolve_left (by decide)
  replace s2 : n2 = (0 : Int) := s2
  replace o0 : 0 ≤ (z + (0 : Int)) := o0
  replace p0 : zwo ws 101 (z + (0 : Int)).toNat = some x0 := p0
  replace v0 : (6 : Int) ≤ x0 := v0
  replace t0 : x0 ≤ (2147483647 : Int) := t0
  replace o1 : 0 ≤ (w + (0 : Int)) := o1
  replace p1 : zwo ws 102 (w + (0 : Int)).toNat = some x1 := p1
  replace v1 : (1 : Int) ≤ x1 := v1
  replace t1 : x1 ≤ (26 : Int) := t1
  replace o2 : 0 ≤ (w + (1 : Int)) := o2
  replace p2 : zwo ws 102 (w + (1 : Int)).toNat = some x2 := p2
  replace v2 : (1 : Int) ≤ x2 := v2
  replace t2 : x2 ≤ (26 : Int) := t2
  replace o3 : 0 ≤ (w + (2 : Int)) := o3
  replace p3 : zwo ws 102 (w + (2 : Int)).toNat = some x3 := p3
  replace v3 : (1 : Int) ≤ x3 := v3
  replace t3 : x3 ≤ (26 : Int) := t3
  replace o4 : 0 ≤ (w + (3 : Int)) := o4
  replace p4 : zwo ws 102 (w + (3 : Int)).toNat = some x4 := p4
  replace v4 : (1 : Int) ≤ x4 := v4
  replace t4 : x4 ≤ (26 : Int) := t4
  replace o5 : 0 ≤ (w + (4 : Int)) := o5
  replace p5 : zwo ws 102 (w + (4 : Int)).toNat = some x5 := p5
  replace v5 : (1 : Int) ≤ x5 := v5
  replace t5 : x5 ≤ (26 : Int) := t5
  show ((True) ∧ (True) ∧ (zj_let (zwo ws) 0 (z + (1 : Int)) ∧ True)) ∨ False
  try simp only [Int.add_zero, Int.zero_add] at *
  obtain ⟨m, hm, e1, e2, h⟩ := hj
  have a := zgv_some p0
  have c0 := zgv_some p1
  have c1 := zgv_some p2
  have c2 := zgv_some p3
  have c3 := zgv_some p4
  have c4 := zgv_some p5
  refine Or.inl ⟨trivial, trivial, ⟨fun a2 ha hn k hk hl => ?_, trivial⟩⟩
  by_cases q : (a2 : Int) < (m : Int)
  · exact h a2 ha q k hk hl
  · have ea : a2 = m := by omega
    subst ea
    have ez : z.toNat = 16 * 0 + a2 := by omega
    rw [ez] at a
    have hk5 : k = 0 ∨ k = 1 ∨ k = 2 ∨ k = 3 ∨ k = 4 := by omega
    rcases hk5 with rfl | rfl | rfl | rfl | rfl
    · rw [show (w).toNat = 80 * 0 + 5 * a2 + 0 by omega] at c0
      omega
    · rw [show (w + (1 : Int)).toNat = 80 * 0 + 5 * a2 + 1 by omega] at c1
      omega
    · rw [show (w + (2 : Int)).toNat = 80 * 0 + 5 * a2 + 2 by omega] at c2
      omega
    · rw [show (w + (3 : Int)).toNat = 80 * 0 + 5 * a2 + 3 by omega] at c3
      omega
    · rw [show (w + (4 : Int)).toNat = 80 * 0 + 5 * a2 + 4 by omega] at c4
      omega
theorem zrn_143 (g : yG) : zRuN (zJf g) zru_143 := by
  intro ws z w hj n2 s2 n3 s3 n4 s4 n5 s5 l0 u0
  replace hj : zj_let (zwo ws) 1 z := hj.resolve_left (by decide)
  replace s2 : n2 = (16 : Int) := s2
  replace s3 : n3 = n2 + z * (1 : Int) := s3
  replace s4 : n4 = (80 : Int) := s4
  replace s5 : n5 = n4 + z * (5 : Int) := s5
  replace l0 : (0 : Int) ≤ z := l0
  replace u0 : z ≤ (15 : Int) := u0
  show ((True) ∧ (True) ∧ (zj45 1 (n3 + (0 : Int)) (n5 + (0 : Int)) (zwo ws) ∧ True)) ∨ False
  try simp only [Int.add_zero, Int.zero_add] at *
  refine Or.inl ⟨trivial, trivial, ⟨⟨z.toNat, by omega, by omega, by omega, ?_⟩, trivial⟩⟩
  rw [show ((z.toNat : Nat) : Int) = z by omega]
  exact hj
theorem zrn_144 (g : yG) : zRuN (zJf g) zru_144 := by
  intro ws z w hj n2 s2 x0 o0 p0 v0 t0 x1 o1 p1 v1 t1
  replace hj : zj45 1 z w (zwo ws) := hj.resolve_left (by decide)
  replace s2 : n2 = (0 : Int) := s2
  replace o0 : 0 ≤ (z + (0 : Int)) := o0
  replace p0 : zwo ws 101 (z + (0 : Int)).toNat = some x0 := p0
  replace v0 : (1 : Int) ≤ x0 := v0
  replace t0 : x0 ≤ (1 : Int) := t0
  replace o1 : 0 ≤ (w + (0 : Int)) := o1
  replace p1 : zwo ws 102 (w + (0 : Int)).toNat = some x1 := p1
  replace v1 : (1 : Int) ≤ x1 := v1
  replace t1 : x1 ≤ (26 : Int) := t1
  show ((True) ∧ (True) ∧ (zj_let (zwo ws) 1 (z + (-15 : Int)) ∧ True)) ∨ False
  try simp only [Int.add_zero, Int.zero_add] at *
  obtain ⟨m, hm, e1, e2, h⟩ := hj
  have a := zgv_some p0
  have c0 := zgv_some p1
  refine Or.inl ⟨trivial, trivial, ⟨fun a2 ha hn k hk hl => ?_, trivial⟩⟩
  by_cases q : (a2 : Int) < (m : Int)
  · exact h a2 ha q k hk hl
  · have ea : a2 = m := by omega
    subst ea
    have ez : z.toNat = 16 * 1 + a2 := by omega
    rw [ez] at a
    have hk5 : k = 0 := by omega
    subst hk5
    rw [show (w).toNat = 80 * 1 + 5 * a2 + 0 by omega] at c0
    omega
theorem zrn_145 (g : yG) : zRuN (zJf g) zru_145 := by
  intro ws z w hj n2 s2 x0 o0 p0 v0 t0 x1 o1 p1 v1 t1 x2 o2 p2 v2 t2
  replace hj : zj45 1 z w (zwo ws) := hj.resolve_left (by decide)
  replace s2 : n2 = (0 : Int) := s2
  replace o0 : 0 ≤ (z + (0 : Int)) := o0
  replace p0 : zwo ws 101 (z + (0 : Int)).toNat = some x0 := p0
  replace v0 : (2 : Int) ≤ x0 := v0
  replace t0 : x0 ≤ (2 : Int) := t0
  replace o1 : 0 ≤ (w + (0 : Int)) := o1
  replace p1 : zwo ws 102 (w + (0 : Int)).toNat = some x1 := p1
  replace v1 : (1 : Int) ≤ x1 := v1
  replace t1 : x1 ≤ (26 : Int) := t1
  replace o2 : 0 ≤ (w + (1 : Int)) := o2
  replace p2 : zwo ws 102 (w + (1 : Int)).toNat = some x2 := p2
  replace v2 : (1 : Int) ≤ x2 := v2
  replace t2 : x2 ≤ (26 : Int) := t2
  show ((True) ∧ (True) ∧ (zj_let (zwo ws) 1 (z + (-15 : Int)) ∧ True)) ∨ False
  try simp only [Int.add_zero, Int.zero_add] at *
  obtain ⟨m, hm, e1, e2, h⟩ := hj
  have a := zgv_some p0
  have c0 := zgv_some p1
  have c1 := zgv_some p2
  refine Or.inl ⟨trivial, trivial, ⟨fun a2 ha hn k hk hl => ?_, trivial⟩⟩
  by_cases q : (a2 : Int) < (m : Int)
  · exact h a2 ha q k hk hl
  · have ea : a2 = m := by omega
    subst ea
    have ez : z.toNat = 16 * 1 + a2 := by omega
    rw [ez] at a
    have hk5 : k = 0 ∨ k = 1 := by omega
    rcases hk5 with rfl | rfl
    · rw [show (w).toNat = 80 * 1 + 5 * a2 + 0 by omega] at c0
      omega
    · rw [show (w + (1 : Int)).toNat = 80 * 1 + 5 * a2 + 1 by omega] at c1
      omega
theorem zrn_146 (g : yG) : zRuN (zJf g) zru_146 := by
  intro ws z w hj n2 s2 x0 o0 p0 v0 t0 x1 o1 p1 v1 t1 x2 o2 p2 v2 t2 x3 o3 p3 v3 t3
  replace hj : zj45 1 z w (zwo ws) := hj.resolve_left (by decide)
  replace s2 : n2 = (0 : Int) := s2
  replace o0 : 0 ≤ (z + (0 : Int)) := o0
  replace p0 : zwo ws 101 (z + (0 : Int)).toNat = some x0 := p0
  replace v0 : (3 : Int) ≤ x0 := v0
  replace t0 : x0 ≤ (3 : Int) := t0
  replace o1 : 0 ≤ (w + (0 : Int)) := o1
  replace p1 : zwo ws 102 (w + (0 : Int)).toNat = some x1 := p1
  replace v1 : (1 : Int) ≤ x1 := v1
  replace t1 : x1 ≤ (26 : Int) := t1
  replace o2 : 0 ≤ (w + (1 : Int)) := o2
  replace p2 : zwo ws 102 (w + (1 : Int)).toNat = some x2 := p2
  replace v2 : (1 : Int) ≤ x2 := v2
  replace t2 : x2 ≤ (26 : Int) := t2
  replace o3 : 0 ≤ (w + (2 : Int)) := o3
  replace p3 : zwo ws 102 (w + (2 : Int)).toNat = some x3 := p3
  replace v3 : (1 : Int) ≤ x3 := v3
  replace t3 : x3 ≤ (26 : Int) := t3
  show ((True) ∧ (True) ∧ (zj_let (zwo ws) 1 (z + (-15 : Int)) ∧ True)) ∨ False
  try simp only [Int.add_zero, Int.zero_add] at *
  obtain ⟨m, hm, e1, e2, h⟩ := hj
  have a := zgv_some p0
  have c0 := zgv_some p1
  have c1 := zgv_some p2
  have c2 := zgv_some p3
  refine Or.inl ⟨trivial, trivial, ⟨fun a2 ha hn k hk hl => ?_, trivial⟩⟩
  by_cases q : (a2 : Int) < (m : Int)
  · exact h a2 ha q k hk hl
  · have ea : a2 = m := by omega
    subst ea
    have ez : z.toNat = 16 * 1 + a2 := by omega
    rw [ez] at a
    have hk5 : k = 0 ∨ k = 1 ∨ k = 2 := by omega
    rcases hk5 with rfl | rfl | rfl
    · rw [show (w).toNat = 80 * 1 + 5 * a2 + 0 by omega] at c0
      omega
    · rw [show (w + (1 : Int)).toNat = 80 * 1 + 5 * a2 + 1 by omega] at c1
      omega
    · rw [show (w + (2 : Int)).toNat = 80 * 1 + 5 * a2 + 2 by omega] at c2
      omega
theorem zrn_147 (g : yG) : zRuN (zJf g) zru_147 := by
  intro ws z w hj n2 s2 x0 o0 p0 v0 t0 x1 o1 p1 v1 t1 x2 o2 p2 v2 t2 x3 o3 p3 v3 t3 x4 o4 p4 v4 t4
  replace hj : zj45 1 z w (zwo ws) := hj.resolve_left (by decide)
  replace s2 : n2 = (0 : Int) := s2
  replace o0 : 0 ≤ (z + (0 : Int)) := o0
  replace p0 : zwo ws 101 (z + (0 : Int)).toNat = some x0 := p0
  replace v0 : (4 : Int) ≤ x0 := v0
  replace t0 : x0 ≤ (4 : Int) := t0
  replace o1 : 0 ≤ (w + (0 : Int)) := o1
  replace p1 : zwo ws 102 (w + (0 : Int)).toNat = some x1 := p1
  replace v1 : (1 : Int) ≤ x1 := v1
  replace t1 : x1 ≤ (26 : Int) := t1
  replace o2 : 0 ≤ (w + (1 : Int)) := o2
  replace p2 : zwo ws 102 (w + (1 : Int)).toNat = some x2 := p2
  replace v2 : (1 : Int) ≤ x2 := v2
  replace t2 : x2 ≤ (26 : Int) := t2
  replace o3 : 0 ≤ (w + (2 : Int)) := o3
  replace p3 : zwo ws 102 (w + (2 : Int)).toNat = some x3 := p3
  replace v3 : (1 : Int) ≤ x3 := v3
  replace t3 : x3 ≤ (26 : Int) := t3
  replace o4 : 0 ≤ (w + (3 : Int)) := o4
  replace p4 : zwo ws 102 (w + (3 : Int)).toNat = some x4 := p4
  replace v4 : (1 : Int) ≤ x4 := v4
  replace t4 : x4 ≤ (26 : Int) := t4
  show ((True) ∧ (True) ∧ (zj_let (zwo ws) 1 (z + (-15 : Int)) ∧ True)) ∨ False
  try simp only [Int.add_zero, Int.zero_add] at *
  obtain ⟨m, hm, e1, e2, h⟩ := hj
  have a := zgv_some p0
  have c0 := zgv_some p1
  have c1 := zgv_some p2
  have c2 := zgv_some p3
  have c3 := zgv_some p4
  refine Or.inl ⟨trivial, trivial, ⟨fun a2 ha hn k hk hl => ?_, trivial⟩⟩
  by_cases q : (a2 : Int) < (m : Int)
  · exact h a2 ha q k hk hl
  · have ea : a2 = m := by omega
    subst ea
    have ez : z.toNat = 16 * 1 + a2 := by omega
    rw [ez] at a
    have hk5 : k = 0 ∨ k = 1 ∨ k = 2 ∨ k = 3 := by omega
    rcases hk5 with rfl | rfl | rfl | rfl
    · rw [show (w).toNat = 80 * 1 + 5 * a2 + 0 by omega] at c0
      omega
    · rw [show (w + (1 : Int)).toNat = 80 * 1 + 5 * a2 + 1 by omega] at c1
      omega
    · rw [show (w + (2 : Int)).toNat = 80 * 1 + 5 * a2 + 2 by omega] at c2
      omega
    · rw [show (w + (3 : Int)).toNat = 80 * 1 + 5 * a2 + 3 by omega] at c3
      omega
theorem zrn_148 (g : yG) : zRuN (zJf g) zru_148 := by
  intro ws z w hj n2 s2 x0 o0 p0 v0 t0 x1 o1 p1 v1 t1 x2 o2 p2 v2 t2 x3 o3 p3 v3 t3 x4 o4 p4 v4 t4 x5 o5 p5 v5 t5
  replace hj : zj45 1 z w (zwo ws) := hj.resolve_left (by decide)
  replace s2 : n2 = (0 : Int) := s2
  replace o0 : 0 ≤ (z + (0 : Int)) := o0
  replace p0 : zwo ws 101 (z + (0 : Int)).toNat = some x0 := p0
  replace v0 : (5 : Int) ≤ x0 := v0
  replace t0 : x0 ≤ (5 : Int) := t0
  replace o1 : 0 ≤ (w + (0 : Int)) := o1
  replace p1 : zwo ws 102 (w + (0 : Int)).toNat = some x1 := p1
  replace v1 : (1 : Int) ≤ x1 := v1
  replace t1 : x1 ≤ (26 : Int) := t1
  replace o2 : 0 ≤ (w + (1 : Int)) := o2
  replace p2 : zwo ws 102 (w + (1 : Int)).toNat = some x2 := p2
  replace v2 : (1 : Int) ≤ x2 := v2
  replace t2 : x2 ≤ (26 : Int) := t2
  replace o3 : 0 ≤ (w + (2 : Int)) := o3
  replace p3 : zwo ws 102 (w + (2 : Int)).toNat = some x3 := p3
  replace v3 : (1 : Int) ≤ x3 := v3
  replace t3 : x3 ≤ (26 : Int) := t3
  replace o4 : 0 ≤ (w + (3 : Int)) := o4
  replace p4 : zwo ws 102 (w + (3 : Int)).toNat = some x4 := p4
  replace v4 : (1 : Int) ≤ x4 := v4
  replace t4 : x4 ≤ (26 : Int) := t4
  replace o5 : 0 ≤ (w + (4 : Int)) := o5
  replace p5 : zwo ws 102 (w + (4 : Int)).toNat = some x5 := p5
  replace v5 : (1 : Int) ≤ x5 := v5
  replace t5 : x5 ≤ (26 : Int) := t5
  show ((True) ∧ (True) ∧ (zj_let (zwo ws) 1 (z + (-15 : Int)) ∧ True)) ∨ False
  try simp only [Int.add_zero, Int.zero_add] at *
  obtain ⟨m, hm, e1, e2, h⟩ := hj
  have a := zgv_some p0
  have c0 := zgv_some p1
  have c1 := zgv_some p2
  have c2 := zgv_some p3
  have c3 := zgv_some p4
  have c4 := zgv_some p5
  refine Or.inl ⟨trivial, trivial, ⟨fun a2 ha hn k hk hl => ?_, trivial⟩⟩
  by_cases q : (a2 : Int) < (m : Int)
  · exact h a2 ha q k hk hl
  · have ea : a2 = m := by omega
    subst ea
    have ez : z.toNat = 16 * 1 + a2 := by omega
    rw [ez] at a
    have hk5 : k = 0 ∨ k = 1 ∨ k = 2 ∨ k = 3 ∨ k = 4 := by omega
    rcases hk5 with rfl | rfl | rfl | rfl | rfl
    · rw [show (w).toNat = 80 * 1 + 5 * a2 + 0 by omega] at c0
      omega
    · rw [show (w + (1 : Int)).toNat = 80 * 1 + 5 * a2 + 1 by omega] at c1
      omega
    · rw [show (w + (2 : Int)).toNat = 80 * 1 + 5 * a2 + 2 by omega] at c2
      omega
    · rw [show (w + (3 : Int)).toNat = 80 * 1 + 5 * a2 + 3 by omega] at c3
      omega
    · rw [show (w + (4 : Int)).toNat = 80 * 1 + 5 * a2 + 4 by omega] at c4
      omega
theorem zrn_149 (g : yG) : zRuN (zJf g) zru_149 := by
  intro ws z w hj n2 s2 x0 o0 p0 v0 t0 x1 o1 p1 v1 t1 x2 o2 p2 v2 t2 x3 o3 p3 v3 t3 x4 o4 p4 v4 t4 x5 o5 p5 v5 t5
  replace hj : zj45 1 z w (zwo ws) := hj.resolve_left (by decide)
  replace s2 : n2 = (0 : Int) := s2
  replace o0 : 0 ≤ (z + (0 : Int)) := o0
  replace p0 : zwo ws 101 (z + (0 : Int)).toNat = some x0 := p0
  replace v0 : (6 : Int) ≤ x0 := v0
  replace t0 : x0 ≤ (2147483647 : Int) := t0
  replace o1 : 0 ≤ (w + (0 : Int)) := o1
  replace p1 : zwo ws 102 (w + (0 : Int)).toNat = some x1 := p1
  replace v1 : (1 : Int) ≤ x1 := v1
  replace t1 : x1 ≤ (26 : Int) := t1
  replace o2 : 0 ≤ (w + (1 : Int)) := o2
  replace p2 : zwo ws 102 (w + (1 : Int)).toNat = some x2 := p2
  replace v2 : (1 : Int) ≤ x2 := v2
  replace t2 : x2 ≤ (26 : Int) := t2
  replace o3 : 0 ≤ (w + (2 : Int)) := o3
  replace p3 : zwo ws 102 (w + (2 : Int)).toNat = some x3 := p3
  replace v3 : (1 : Int) ≤ x3 := v3
  replace t3 : x3 ≤ (26 : Int) := t3
  replace o4 : 0 ≤ (w + (3 : Int)) := o4
  replace p4 : zwo ws 102 (w + (3 : Int)).toNat = some x4 := p4
  replace v4 : (1 : Int) ≤ x4 := v4
  replace t4 : x4 ≤ (26 : Int) := t4
  replace o5 : 0 ≤ (w + (4 : Int)) := o5
  replace p5 : zwo ws 102 (w + (4 : Int)).toNat = some x5 := p5
  replace v5 : (1 : Int) ≤ x5 := v5
  replace t5 : x5 ≤ (26 : Int) := t5
  show ((True) ∧ (True) ∧ (zj_let (zwo ws) 1 (z + (-15 : Int)) ∧ True)) ∨ False
  try simp only [Int.add_zero, Int.zero_add] at *
  obtain ⟨m, hm, e1, e2, h⟩ := hj
  have a := zgv_some p0
  have c0 := zgv_some p1
  have c1 := zgv_some p2
  have c2 := zgv_some p3
  have c3 := zgv_some p4
  have c4 := zgv_some p5
  refine Or.inl ⟨trivial, trivial, ⟨fun a2 ha hn k hk hl => ?_, trivial⟩⟩
  by_cases q : (a2 : Int) < (m : Int)
  · exact h a2 ha q k hk hl
  · have ea : a2 = m := by omega
    subst ea
    have ez : z.toNat = 16 * 1 + a2 := by omega
    rw [ez] at a
    have hk5 : k = 0 ∨ k = 1 ∨ k = 2 ∨ k = 3 ∨ k = 4 := by omega
    rcases hk5 with rfl | rfl | rfl | rfl | rfl
    · rw [show (w).toNat = 80 * 1 + 5 * a2 + 0 by omega] at c0
      omega
    · rw [show (w + (1 : Int)).toNat = 80 * 1 + 5 * a2 + 1 by omega] at c1
      omega
    · rw [show (w + (2 : Int)).toNat = 80 * 1 + 5 * a2 + 2 by omega] at c2
      omega
    · rw [show (w + (3 : Int)).toNat = 80 * 1 + 5 * a2 + 3 by omega] at c3
      omega
    · rw [show (w + (4 : Int)).toNat = 80 * 1 + 5 * a2 + 4 by omega] at c4
      omega
