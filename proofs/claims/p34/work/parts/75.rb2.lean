/-! the rules hold: printed by wip/p34/genrule2.py -/
theorem zrn_80 (g : yG) : zRuN (zJf g) zru_80 := by
  intro ws z w hj n2 s2 n3 s3 n4 s4 n5 s5 n6 s6 n7 s7 l0 u0
  replace hj : zjK (zwo ws) 0 (zgv (zwo ws) 88 30) (zgv (zwo ws) 88 7) (zgv (zwo ws) 88 65) (zgv (zwo ws) 88 38) := hj.resolve_left (by decide)
  replace s2 : zwo ws 88 7 = some n2 := s2
  replace s3 : zwo ws 88 65 = some n3 := s3
  replace s4 : zwo ws 88 38 = some n4 := s4
  replace s5 : zwo ws 88 30 = some n5 := s5
  replace s6 : zwo ws 88 0 = some n6 := s6
  replace s7 : n7 = (0 : Int) := s7
  replace l0 : (1 : Int) ≤ n6 := l0
  replace u0 : n6 ≤ (1 : Int) := u0
  show ((((1 : Int) ≤ n2 ∧ n2 ≤ (38 : Int)) ∧ ((0 : Int) ≤ n3 ∧ n3 ≤ (30 : Int)) ∧ ((0 : Int) ≤ n4 ∧ n4 ≤ (7 : Int)) ∧ ((560 : Int) ≤ n5 ∧ n5 ≤ (837 : Int)) ∧ True) ∧ ((∀ x, 0 ≤ (n7 + (0 : Int)) → zwo ws 116 (n7 + (0 : Int)).toNat = some x → (8 : Int) ≤ x ∧ x ≤ (8 : Int)) ∧ (∀ x, 0 ≤ (n2 + (-1 : Int)) → zwo ws 116 (n2 + (-1 : Int)).toNat = some x → (8 : Int) ≤ x ∧ x ≤ (8 : Int)) ∧ True) ∧ (True)) ∨ ((((2 : Int) ≤ n2 ∧ n2 ≤ (38 : Int)) ∧ ((0 : Int) ≤ n3 ∧ n3 ≤ (30 : Int)) ∧ ((0 : Int) ≤ n4 ∧ n4 ≤ (7 : Int)) ∧ ((560 : Int) ≤ n5 ∧ n5 ≤ (837 : Int)) ∧ True) ∧ ((∀ x, 0 ≤ (n7 + (0 : Int)) → zwo ws 116 (n7 + (0 : Int)).toNat = some x → (8 : Int) ≤ x ∧ x ≤ (8 : Int)) ∧ (∀ x, 0 ≤ (n2 + (-1 : Int)) → zwo ws 116 (n2 + (-1 : Int)).toNat = some x → (1 : Int) ≤ x ∧ x ≤ (7 : Int)) ∧ True) ∧ (True)) ∨ False
  try simp only [Int.add_zero, Int.zero_add] at *
  have a := zgv_some s2
  have b := zgv_some s3
  have c := zgv_some s4
  have d := zgv_some s5
  have e := zgv_some s6
  obtain ⟨r, h1, h2, h⟩ := hj
  have hl := zKp_lt h
  obtain ⟨a1, a2, a3, a4, a5, a6, a7, a8, -⟩ := h
  by_cases q : n2 = 1
  · exact Or.inl ⟨⟨⟨by omega, by omega⟩, ⟨by omega, by omega⟩, ⟨by omega, by omega⟩, ⟨by omega, by omega⟩, trivial⟩, ⟨fun x hx0 hx => by rw [show n7.toNat = 0 by omega] at hx; have hv := zgv_some hx; omega, fun x hx0 hx => by rw [show (n2 + (-1 : Int)).toNat = 0 by omega] at hx; have hv := zgv_some hx; omega, trivial⟩, trivial⟩
  · exact Or.inr (Or.inl ⟨⟨⟨by omega, by omega⟩, ⟨by omega, by omega⟩, ⟨by omega, by omega⟩, ⟨by omega, by omega⟩, trivial⟩, ⟨fun x hx0 hx => by rw [show n7.toNat = 0 by omega] at hx; have hv := zgv_some hx; omega, fun x hx0 hx => by
      have h9 := a8 (n2 + (-1 : Int)).toNat (by omega) (by omega)
      have hv := zgv_some hx
      unfold zpe at h9
      omega, trivial⟩, trivial⟩)
theorem zrn_81 (g : yG) : zRuN (zJf g) zru_81 := by
  intro ws z w hj n2 s2 n3 s3 n4 s4 n5 s5 n6 s6 n7 s7 l0 u0 l1 u1 l2 u2 l3 u3 l4 u4 x0 o0 p0 v0 t0
  clear hj
  replace s2 : zwo ws 88 7 = some n2 := s2
  replace s3 : zwo ws 88 65 = some n3 := s3
  replace s4 : zwo ws 88 38 = some n4 := s4
  replace s5 : zwo ws 88 30 = some n5 := s5
  replace s6 : zwo ws 88 0 = some n6 := s6
  replace s7 : n7 = (0 : Int) := s7
  replace l0 : (1 : Int) ≤ n2 := l0
  replace u0 : n2 ≤ (1 : Int) := u0
  replace l1 : (0 : Int) ≤ n3 := l1
  replace u1 : n3 ≤ (0 : Int) := u1
  replace l2 : (0 : Int) ≤ n4 := l2
  replace u2 : n4 ≤ (0 : Int) := u2
  replace l3 : (560 : Int) ≤ n5 := l3
  replace u3 : n5 ≤ (560 : Int) := u3
  replace l4 : (1 : Int) ≤ n6 := l4
  replace u4 : n6 ≤ (1 : Int) := u4
  replace o0 : 0 ≤ (n7 + (0 : Int)) := o0
  replace p0 : zwo ws 116 (n7 + (0 : Int)).toNat = some x0 := p0
  replace v0 : (8 : Int) ≤ x0 := v0
  replace t0 : x0 ≤ (8 : Int) := t0
  show ((True) ∧ (True) ∧ (zjK (zwo ws) 1 (zgv (zwo ws) 88 30) (zgv (zwo ws) 88 7) (zgv (zwo ws) 88 65) (zgv (zwo ws) 88 38) ∧ True)) ∨ False
  try simp only [Int.add_zero, Int.zero_add] at *
  have a := zgv_some s2
  have b := zgv_some s3
  have c := zgv_some s4
  have d := zgv_some s5
  have e := zgv_some s6
  rw [show n7.toNat = 0 by omega] at p0
  have f := zgv_some p0
  refine Or.inl ⟨trivial, trivial, ⟨⟨1, by omega, by omega, ?_⟩, trivial⟩⟩
  rw [a, b, c, d, show n2 = 1 by omega, show n3 = 0 by omega, show n4 = 0 by omega, show n5 = 560 by omega]
  exact ⟨by omega, by omega, by omega, by omega, by omega, by omega, by omega, fun i hi hs => by omega, rfl, rfl, fun _ => by omega, fun q => by omega, Or.inr rfl⟩
theorem zrn_82 (g : yG) : zRuN (zJf g) zru_82 := by
  intro ws z w hj n2 s2 n3 s3 n4 s4 n5 s5 l0 u0 g0 g1 x0 o0 p0 v0 t0
  replace hj : zj42 (zwo ws) := hj.resolve_left (by decide)
  replace s2 : zwo ws 88 30 = some n2 := s2
  replace s3 : zwo ws 88 0 = some n3 := s3
  replace s4 : n4 = (0 : Int) := s4
  replace s5 : 0 ≤ n3 ∧ zwo ws 110 (n3).toNat = some n5 := s5
  replace l0 : (1 : Int) ≤ n3 := l0
  replace u0 : n3 ≤ (1 : Int) := u0
  replace g0 : n2 + (0 : Int) ≤ n5 := g0
  replace g1 : n5 + (0 : Int) ≤ n2 := g1
  replace o0 : 0 ≤ (n4 + (1 : Int)) := o0
  replace p0 : zwo ws 109 (n4 + (1 : Int)).toNat = some x0 := p0
  replace v0 : (560 : Int) ≤ x0 := v0
  replace t0 : x0 ≤ (560 : Int) := t0
  show ((True) ∧ (True) ∧ (zj_rul (zwo ws) 1 ∧ True)) ∨ False
  try simp only [Int.add_zero, Int.zero_add] at *
  have a := zgv_some s2
  have b := zgv_some s3
  have c := zgv_some s5.2
  have d := zgv_some p0
  obtain ⟨r, h1, h2, h3, h4, h5⟩ := hj
  have er : r = 1 := by omega
  subst er
  rw [show n3.toNat = 1 by omega] at c
  rw [show (n4 + 1).toNat = 1 by omega] at d
  refine Or.inl ⟨trivial, trivial, ⟨fun _ => ⟨by omega, by omega, by omega, 1, by omega, ?_⟩, trivial⟩⟩
  rw [c, show n5 = zgv (zwo ws) 88 30 by omega]
  exact h5
theorem zrn_83 (g : yG) : zRuN (zJf g) zru_83 := by
  intro ws z w hj n2 s2 n3 s3 n4 s4 l0 u0
  replace hj : zj1 (zwo ws) := hj.resolve_left (by decide)
  replace s2 : zwo ws 88 4 = some n2 := s2
  replace s3 : 0 ≤ n2 ∧ zwo ws 94 (n2).toNat = some n3 := s3
  replace s4 : n4 = (0 : Int) := s4
  replace l0 : (1 : Int) ≤ n2 := l0
  replace u0 : n2 ≤ (1 : Int) := u0
  show ((True) ∧ (True) ∧ (zj_let (zwo ws) 1 (n3 + (0 : Int)) ∧ True)) ∨ False
  try simp only [Int.add_zero, Int.zero_add] at *
  have a := zgv_some s2
  have b := zgv_some s3.2
  rw [show n2.toNat = 1 by omega] at b
  have h := hj 1 (by omega) (by omega)
  rw [b] at h
  exact Or.inl ⟨trivial, trivial, ⟨h, trivial⟩⟩
theorem zrn_84 (g : yG) : zRuN (zJf g) zru_84 := by
  intro ws z w hj n2 s2 n3 s3 n4 s4 l0 u0 g0
  replace hj : zj_let (zwo ws) 1 z := hj.resolve_left (by decide)
  replace s2 : zwo ws 88 4 = some n2 := s2
  replace s3 : 0 ≤ n2 ∧ zwo ws 94 (n2).toNat = some n3 := s3
  replace s4 : n4 = (0 : Int) := s4
  replace l0 : (1 : Int) ≤ n2 := l0
  replace u0 : n2 ≤ (1 : Int) := u0
  replace g0 : n3 + (0 : Int) ≤ z := g0
  show ((True) ∧ (True) ∧ (zj1 (zwo ws) ∧ True)) ∨ False
  try simp only [Int.add_zero, Int.zero_add] at *
  have a := zgv_some s2
  have b := zgv_some s3.2
  rw [show n2.toNat = 1 by omega] at b
  refine Or.inl ⟨trivial, trivial, ⟨fun c hc hk => ?_, trivial⟩⟩
  have ec : c = 1 := by omega
  subst ec
  exact fun a ha hn => hj a ha (by omega)
theorem zrn_85 (g : yG) : zRuN (zJf g) zru_85 := by
  intro ws z w hj n2 s2 n3 s3 l0 u0
  replace hj : zj2 (zwo ws) := hj.resolve_left (by decide)
  replace s2 : zwo ws 88 4 = some n2 := s2
  replace s3 : n3 = (0 : Int) := s3
  replace l0 : (1 : Int) ≤ n2 := l0
  replace u0 : n2 ≤ (1 : Int) := u0
  show ((True) ∧ (True) ∧ (zj_rul (zwo ws) 1 ∧ True)) ∨ False
  try simp only [Int.add_zero, Int.zero_add] at *
  have a := zgv_some s2
  exact Or.inl ⟨trivial, trivial, ⟨hj 1 (by omega) (by omega), trivial⟩⟩
theorem zrn_86 (g : yG) : zRuN (zJf g) zru_86 := by
  intro ws z w hj n2 s2 n3 s3 l0 u0
  replace hj : zj_rul (zwo ws) 1 := hj.resolve_left (by decide)
  replace s2 : zwo ws 88 4 = some n2 := s2
  replace s3 : n3 = (0 : Int) := s3
  replace l0 : (1 : Int) ≤ n2 := l0
  replace u0 : n2 ≤ (1 : Int) := u0
  show ((True) ∧ (True) ∧ (zj2 (zwo ws) ∧ True)) ∨ False
  try simp only [Int.add_zero, Int.zero_add] at *
  have a := zgv_some s2
  refine Or.inl ⟨trivial, trivial, ⟨fun c hc hk => ?_, trivial⟩⟩
  have ec : c = 1 := by omega
  subst ec
  exact hj
theorem zrn_87 (g : yG) : zRuN (zJf g) zru_87 := by
  intro ws z w hj n2 s2
  clear hj
  replace s2 : n2 = (0 : Int) := s2
  show ((True) ∧ (True) ∧ (zj_let (zwo ws) 1 (n2 + (0 : Int)) ∧ True)) ∨ False
  try simp only [Int.add_zero, Int.zero_add] at *
  exact Or.inl ⟨trivial, trivial, ⟨fun a ha hn => absurd hn (by omega), trivial⟩⟩
theorem zrn_88 (g : yG) : zRuN (zJf g) zru_88 := by
  intro ws z w hj n2 s2 n3 s3 n4 s4 l0 u0
  clear hj
  replace s2 : zwo ws 88 4 = some n2 := s2
  replace s3 : n3 = (0 : Int) := s3
  replace s4 : 0 ≤ n2 ∧ zwo ws 111 (n2).toNat = some n4 := s4
  replace l0 : (0 : Int) ≤ n4 := l0
  replace u0 : n4 ≤ (0 : Int) := u0
  show ((True) ∧ (True) ∧ (zj2 (zwo ws) ∧ True)) ∨ False
  try simp only [Int.add_zero, Int.zero_add] at *
  have a := zgv_some s2
  have b := zgv_some s4.2
  refine Or.inl ⟨trivial, trivial, ⟨fun c hc hk hf => ?_, trivial⟩⟩
  rw [show n2.toNat = c by omega] at b
  omega
theorem zrn_89 (g : yG) : zRuN (zJf g) zru_89 := by
  intro ws z w hj n2 s2 n3 s3 l0 u0
  clear hj
  clear s2
  replace s3 : (0 ≤ (n2 + (1 : Int)) ∧ n3 = (g.1.2.2.2.2.2 (n2 + (1 : Int)).toNat).toInt) := s3
  replace l0 : (0 : Int) ≤ n2 := l0
  replace u0 : n2 ≤ (100000 : Int) := u0
  show ((((-2147483648 : Int) ≤ n3 ∧ n3 ≤ (-1 : Int)) ∧ True) ∧ (True) ∧ ((0 ≤ (n2 + (1 : Int)) ∧ (n3 + (0 : Int)) = (g.1.2.2.2.2.2 (n2 + (1 : Int)).toNat).toInt) ∧ True)) ∨ ((((1001 : Int) ≤ n3 ∧ n3 ≤ (2147483647 : Int)) ∧ True) ∧ (True) ∧ ((0 ≤ (n2 + (1 : Int)) ∧ (n3 + (0 : Int)) = (g.1.2.2.2.2.2 (n2 + (1 : Int)).toNat).toInt) ∧ True)) ∨ ((((0 : Int) ≤ n3 ∧ n3 ≤ (99 : Int)) ∧ True) ∧ (True) ∧ ((0 ≤ (n2 + (1 : Int)) ∧ (n3 + (0 : Int)) = (g.1.2.2.2.2.2 (n2 + (1 : Int)).toNat).toInt) ∧ True)) ∨ ((((100 : Int) ≤ n3 ∧ n3 ≤ (199 : Int)) ∧ True) ∧ (True) ∧ ((0 ≤ (n2 + (1 : Int)) ∧ (n3 + (0 : Int)) = (g.1.2.2.2.2.2 (n2 + (1 : Int)).toNat).toInt) ∧ True)) ∨ ((((200 : Int) ≤ n3 ∧ n3 ≤ (299 : Int)) ∧ True) ∧ (True) ∧ ((0 ≤ (n2 + (1 : Int)) ∧ (n3 + (0 : Int)) = (g.1.2.2.2.2.2 (n2 + (1 : Int)).toNat).toInt) ∧ True)) ∨ ((((300 : Int) ≤ n3 ∧ n3 ≤ (399 : Int)) ∧ True) ∧ (True) ∧ ((0 ≤ (n2 + (1 : Int)) ∧ (n3 + (0 : Int)) = (g.1.2.2.2.2.2 (n2 + (1 : Int)).toNat).toInt) ∧ True)) ∨ ((((400 : Int) ≤ n3 ∧ n3 ≤ (499 : Int)) ∧ True) ∧ (True) ∧ ((0 ≤ (n2 + (1 : Int)) ∧ (n3 + (0 : Int)) = (g.1.2.2.2.2.2 (n2 + (1 : Int)).toNat).toInt) ∧ True)) ∨ ((((500 : Int) ≤ n3 ∧ n3 ≤ (599 : Int)) ∧ True) ∧ (True) ∧ ((0 ≤ (n2 + (1 : Int)) ∧ (n3 + (0 : Int)) = (g.1.2.2.2.2.2 (n2 + (1 : Int)).toNat).toInt) ∧ True)) ∨ ((((600 : Int) ≤ n3 ∧ n3 ≤ (699 : Int)) ∧ True) ∧ (True) ∧ ((0 ≤ (n2 + (1 : Int)) ∧ (n3 + (0 : Int)) = (g.1.2.2.2.2.2 (n2 + (1 : Int)).toNat).toInt) ∧ True)) ∨ ((((700 : Int) ≤ n3 ∧ n3 ≤ (799 : Int)) ∧ True) ∧ (True) ∧ ((0 ≤ (n2 + (1 : Int)) ∧ (n3 + (0 : Int)) = (g.1.2.2.2.2.2 (n2 + (1 : Int)).toNat).toInt) ∧ True)) ∨ ((((800 : Int) ≤ n3 ∧ n3 ≤ (899 : Int)) ∧ True) ∧ (True) ∧ ((0 ≤ (n2 + (1 : Int)) ∧ (n3 + (0 : Int)) = (g.1.2.2.2.2.2 (n2 + (1 : Int)).toNat).toInt) ∧ True)) ∨ ((((900 : Int) ≤ n3 ∧ n3 ≤ (999 : Int)) ∧ True) ∧ (True) ∧ ((0 ≤ (n2 + (1 : Int)) ∧ (n3 + (0 : Int)) = (g.1.2.2.2.2.2 (n2 + (1 : Int)).toNat).toInt) ∧ True)) ∨ ((((1000 : Int) ≤ n3 ∧ n3 ≤ (1000 : Int)) ∧ True) ∧ (True) ∧ ((0 ≤ (n2 + (1 : Int)) ∧ (n3 + (0 : Int)) = (g.1.2.2.2.2.2 (n2 + (1 : Int)).toNat).toInt) ∧ True)) ∨ False
  try simp only [Int.add_zero, Int.zero_add] at *
  have hr : -2147483648 ≤ n3 ∧ n3 ≤ 2147483647 := by rw [s3.2]; exact zfull_ok _
  have hc : ((-2147483648 : Int) ≤ n3 ∧ n3 ≤ (-1 : Int)) ∨ ((1001 : Int) ≤ n3 ∧ n3 ≤ (2147483647 : Int)) ∨ ((0 : Int) ≤ n3 ∧ n3 ≤ (99 : Int)) ∨ ((100 : Int) ≤ n3 ∧ n3 ≤ (199 : Int)) ∨ ((200 : Int) ≤ n3 ∧ n3 ≤ (299 : Int)) ∨ ((300 : Int) ≤ n3 ∧ n3 ≤ (399 : Int)) ∨ ((400 : Int) ≤ n3 ∧ n3 ≤ (499 : Int)) ∨ ((500 : Int) ≤ n3 ∧ n3 ≤ (599 : Int)) ∨ ((600 : Int) ≤ n3 ∧ n3 ≤ (699 : Int)) ∨ ((700 : Int) ≤ n3 ∧ n3 ≤ (799 : Int)) ∨ ((800 : Int) ≤ n3 ∧ n3 ≤ (899 : Int)) ∨ ((900 : Int) ≤ n3 ∧ n3 ≤ (999 : Int)) ∨ ((1000 : Int) ≤ n3 ∧ n3 ≤ (1000 : Int)) := by omega
  rcases hc with hc | hc | hc | hc | hc | hc | hc | hc | hc | hc | hc | hc | hc
  · exact Or.inl ⟨⟨hc, trivial⟩, trivial, ⟨s3, trivial⟩⟩
  · exact Or.inr (Or.inl ⟨⟨hc, trivial⟩, trivial, ⟨s3, trivial⟩⟩)
  · exact Or.inr (Or.inr (Or.inl ⟨⟨hc, trivial⟩, trivial, ⟨s3, trivial⟩⟩))
  · exact Or.inr (Or.inr (Or.inr (Or.inl ⟨⟨hc, trivial⟩, trivial, ⟨s3, trivial⟩⟩)))
  · exact Or.inr (Or.inr (Or.inr (Or.inr (Or.inl ⟨⟨hc, trivial⟩, trivial, ⟨s3, trivial⟩⟩))))
  · exact Or.inr (Or.inr (Or.inr (Or.inr (Or.inr (Or.inl ⟨⟨hc, trivial⟩, trivial, ⟨s3, trivial⟩⟩)))))
  · exact Or.inr (Or.inr (Or.inr (Or.inr (Or.inr (Or.inr (Or.inl ⟨⟨hc, trivial⟩, trivial, ⟨s3, trivial⟩⟩))))))
  · exact Or.inr (Or.inr (Or.inr (Or.inr (Or.inr (Or.inr (Or.inr (Or.inl ⟨⟨hc, trivial⟩, trivial, ⟨s3, trivial⟩⟩)))))))
  · exact Or.inr (Or.inr (Or.inr (Or.inr (Or.inr (Or.inr (Or.inr (Or.inr (Or.inl ⟨⟨hc, trivial⟩, trivial, ⟨s3, trivial⟩⟩))))))))
  · exact Or.inr (Or.inr (Or.inr (Or.inr (Or.inr (Or.inr (Or.inr (Or.inr (Or.inr (Or.inl ⟨⟨hc, trivial⟩, trivial, ⟨s3, trivial⟩⟩)))))))))
  · exact Or.inr (Or.inr (Or.inr (Or.inr (Or.inr (Or.inr (Or.inr (Or.inr (Or.inr (Or.inr (Or.inl ⟨⟨hc, trivial⟩, trivial, ⟨s3, trivial⟩⟩))))))))))
  · exact Or.inr (Or.inr (Or.inr (Or.inr (Or.inr (Or.inr (Or.inr (Or.inr (Or.inr (Or.inr (Or.inr (Or.inl ⟨⟨hc, trivial⟩, trivial, ⟨s3, trivial⟩⟩)))))))))))
  · exact Or.inr (Or.inr (Or.inr (Or.inr (Or.inr (Or.inr (Or.inr (Or.inr (Or.inr (Or.inr (Or.inr (Or.inr (Or.inl ⟨⟨hc, trivial⟩, trivial, ⟨s3, trivial⟩⟩))))))))))))
theorem zrn_90 (g : yG) : zRuN (zJf g) zru_90 := by
  intro ws z w hj n2 s2 n3 s3 n4 s4 n5 s5 l0 u0 l1 u1 g0 g1
  clear hj
  clear s2
  replace s3 : zwo ws 88 28 = some n3 := s3
  replace s4 : zwo ws 74 1 = some n4 := s4
  replace s5 : n5 = n3 + n2 * (1 : Int) := s5
  replace l0 : (0 : Int) ≤ n2 := l0
  replace u0 : n2 ≤ (1000 : Int) := u0
  replace l1 : (0 : Int) ≤ n4 := l1
  replace u1 : n4 ≤ (100000 : Int) := u1
  replace g0 : n5 + (0 : Int) ≤ n4 := g0
  replace g1 : n4 + (0 : Int) ≤ n5 := g1
  show ((True) ∧ (True) ∧ (((n4 + (0 : Int)) = zgv (zwo ws) 88 28 + (n2 + (0 : Int)) ∧ 0 ≤ (n2 + (0 : Int)) ∧ (n2 + (0 : Int)) ≤ 1000 ∧ (n4 + (0 : Int)) ≤ 100000) ∧ True)) ∨ False
  try simp only [Int.add_zero, Int.zero_add] at *
  have a := zgv_some s3
  refine Or.inl ⟨trivial, trivial, ⟨⟨?_, by omega, by omega, by omega⟩, trivial⟩⟩
  omega
theorem zrn_91 (g : yG) : zRuN (zJf g) zru_91 := by
  intro ws z w hj n2 s2 n3 s3 n4 s4 n5 s5 l0 u0 l1 u1
  clear hj
  clear s2
  replace s3 : zwo ws 88 28 = some n3 := s3
  replace s4 : n4 = n3 + n2 * (1 : Int) := s4
  replace s5 : n5 = (0 : Int) := s5
  replace l0 : (0 : Int) ≤ n2 := l0
  replace u0 : n2 ≤ (1000 : Int) := u0
  replace l1 : (100001 : Int) ≤ n4 := l1
  replace u1 : n4 ≤ (2147483647 : Int) := u1
  show ((True) ∧ (True) ∧ ((¬ (0 ≤ (n2 + (0 : Int)) ∧ (n2 + (0 : Int)) ≤ 1000 ∧ zgv (zwo ws) 88 28 + (n2 + (0 : Int)) ≤ 100000)) ∧ True)) ∨ False
  try simp only [Int.add_zero, Int.zero_add] at *
  have a := zgv_some s3
  exact Or.inl ⟨trivial, trivial, ⟨fun q => by omega, trivial⟩⟩
theorem zrn_92 (g : yG) : zRuN (zJf g) zru_92 := by
  intro ws z w hj n2 s2 n3 s3 l0 u0
  clear hj
  clear s2
  replace s3 : n3 = (0 : Int) := s3
  replace l0 : (-2147483648 : Int) ≤ n2 := l0
  replace u0 : n2 ≤ (-1 : Int) := u0
  show ((True) ∧ (True) ∧ ((¬ (0 ≤ (n2 + (0 : Int)) ∧ (n2 + (0 : Int)) ≤ 1000 ∧ zgv (zwo ws) 88 28 + (n2 + (0 : Int)) ≤ 100000)) ∧ True)) ∨ False
  try simp only [Int.add_zero, Int.zero_add] at *
  exact Or.inl ⟨trivial, trivial, ⟨fun q => by omega, trivial⟩⟩
theorem zrn_93 (g : yG) : zRuN (zJf g) zru_93 := by
  intro ws z w hj n2 s2 n3 s3 l0 u0
  clear hj
  clear s2
  replace s3 : n3 = (0 : Int) := s3
  replace l0 : (1001 : Int) ≤ n2 := l0
  replace u0 : n2 ≤ (2147483647 : Int) := u0
  show ((True) ∧ (True) ∧ ((¬ (0 ≤ (n2 + (0 : Int)) ∧ (n2 + (0 : Int)) ≤ 1000 ∧ zgv (zwo ws) 88 28 + (n2 + (0 : Int)) ≤ 100000)) ∧ True)) ∨ False
  try simp only [Int.add_zero, Int.zero_add] at *
  exact Or.inl ⟨trivial, trivial, ⟨fun q => by omega, trivial⟩⟩
theorem zrn_94 (g : yG) : zRuN (zJf g) zru_94 := by
  intro ws z w hj n2 s2 n3 s3 n4 s4 l0 u0 l1 u1 g0 g1
  replace hj : (¬ (0 ≤ z ∧ z ≤ 1000 ∧ zgv (zwo ws) 88 28 + z ≤ 100000)) := hj.resolve_left (by decide)
  clear s2
  replace s3 : zwo ws 88 28 = some n3 := s3
  replace s4 : n4 = n3 + n2 * (1 : Int) := s4
  replace l0 : (0 : Int) ≤ n2 := l0
  replace u0 : n2 ≤ (1000 : Int) := u0
  replace l1 : (-2147483648 : Int) ≤ n4 := l1
  replace u1 : n4 ≤ (100000 : Int) := u1
  replace g0 : n2 + (0 : Int) ≤ z := g0
  replace g1 : z + (0 : Int) ≤ n2 := g1
  show False
  try simp only [Int.add_zero, Int.zero_add] at *
  have a := zgv_some s3
  exact absurd ⟨by omega, by omega, by omega⟩ hj
theorem zrn_95 (g : yG) : zRuN (zJf g) zru_95 := by
  intro ws z w hj n2 s2 n3 s3 n4 s4 l0 u0 g0 g1
  replace hj : (w = zgv (zwo ws) 88 28 + z ∧ 0 ≤ z ∧ z ≤ 1000 ∧ w ≤ 100000) := hj.resolve_left (by decide)
  clear s2
  replace s3 : zwo ws 88 28 = some n3 := s3
  replace s4 : n4 = n3 + n2 * (1 : Int) := s4
  replace l0 : (100001 : Int) ≤ n4 := l0
  replace u0 : n4 ≤ (2147483647 : Int) := u0
  replace g0 : n2 + (0 : Int) ≤ z := g0
  replace g1 : z + (0 : Int) ≤ n2 := g1
  show False
  try simp only [Int.add_zero, Int.zero_add] at *
  have a := zgv_some s3
  obtain ⟨h1, h2, h3, h4⟩ := hj
  omega
theorem zrn_96 (g : yG) : zRuN (zJf g) zru_96 := by
  intro ws z w hj n2 s2 n3 s3 n4 s4 g0 g1
  replace hj : (w = zgv (zwo ws) 88 28 + z ∧ 0 ≤ z ∧ z ≤ 1000 ∧ w ≤ 100000) := hj.resolve_left (by decide)
  clear s2
  replace s3 : zwo ws 88 28 = some n3 := s3
  replace s4 : n4 = n3 + n2 * (1 : Int) := s4
  replace g0 : n2 + (0 : Int) ≤ z := g0
  replace g1 : z + (0 : Int) ≤ n2 := g1
  show ((True) ∧ (True) ∧ (((n4 + (0 : Int)) ≤ (w + (0 : Int))) ∧ ((w + (0 : Int)) ≤ (n4 + (0 : Int))) ∧ True)) ∨ False
  try simp only [Int.add_zero, Int.zero_add] at *
  have a := zgv_some s3
  obtain ⟨h1, h2, h3, h4⟩ := hj
  exact Or.inl ⟨trivial, trivial, ⟨by omega, by omega, trivial⟩⟩
theorem zrn_97 (g : yG) : zRuN (zJf g) zru_97 := by
  intro ws z w hj n2 s2 l0 u0
  clear hj
  clear s2
  replace l0 : (0 : Int) ≤ n2 := l0
  replace u0 : n2 ≤ (89 : Int) := u0
  show ((((0 : Int) ≤ n2 ∧ n2 ≤ (0 : Int)) ∧ True) ∧ (True) ∧ (True)) ∨ ((((1 : Int) ≤ n2 ∧ n2 ≤ (89 : Int)) ∧ True) ∧ (True) ∧ (True)) ∨ False
  try simp only [Int.add_zero, Int.zero_add] at *
  by_cases q : n2 = 0
  · exact Or.inl ⟨⟨⟨by omega, by omega⟩, trivial⟩, trivial, trivial⟩
  · exact Or.inr (Or.inl ⟨⟨⟨by omega, by omega⟩, trivial⟩, trivial, trivial⟩)
theorem zrn_98 (g : yG) : zRuN (zJf g) zru_98 := by
  intro ws z w hj n2 s2 n3 s3
  replace hj : zjK (zwo ws) 1 (zgv (zwo ws) 88 30) (zgv (zwo ws) 88 7) (zgv (zwo ws) 88 65) (zgv (zwo ws) 88 38) := hj.resolve_left (by decide)
  replace s2 : zwo ws 88 65 = some n2 := s2
  replace s3 : n3 = (0 : Int) := s3
  show ((True) ∧ (True) ∧ (zjK (zwo ws) 1 (zgv (zwo ws) 88 30) (zgv (zwo ws) 88 7) (n2 + (0 : Int)) (zgv (zwo ws) 88 38) ∧ True)) ∨ False
  try simp only [Int.add_zero, Int.zero_add] at *
  have a := zgv_some s2
  refine Or.inl ⟨trivial, trivial, ⟨?_, trivial⟩⟩
  rw [← a]
  exact hj
theorem zrn_99 (g : yG) : zRuN (zJf g) zru_99 := by
  intro ws z w hj n2 s2 n3 s3 g0 g1
  replace hj : zjK (zwo ws) 1 (zgv (zwo ws) 88 30) (zgv (zwo ws) 88 7) z (zgv (zwo ws) 88 38) := hj.resolve_left (by decide)
  replace s2 : zwo ws 88 65 = some n2 := s2
  replace s3 : n3 = (0 : Int) := s3
  replace g0 : z + (0 : Int) ≤ n2 := g0
  replace g1 : n2 + (0 : Int) ≤ z := g1
  show ((True) ∧ (True) ∧ (zjK (zwo ws) 1 (zgv (zwo ws) 88 30) (zgv (zwo ws) 88 7) (zgv (zwo ws) 88 65) (zgv (zwo ws) 88 38) ∧ True)) ∨ False
  try simp only [Int.add_zero, Int.zero_add] at *
  have a := zgv_some s2
  refine Or.inl ⟨trivial, trivial, ⟨?_, trivial⟩⟩
  rw [a, show n2 = z by omega]
  exact hj
theorem zrn_100 (g : yG) : zRuN (zJf g) zru_100 := by
  intro ws z w hj n2 s2 n3 s3 l0 u0 g0 g1
  replace hj : zjK (zwo ws) 1 (zgv (zwo ws) 88 30) (zgv (zwo ws) 88 7) z (zgv (zwo ws) 88 38) := hj.resolve_left (by decide)
  replace s2 : zwo ws 88 65 = some n2 := s2
  replace s3 : n3 = (0 : Int) := s3
  replace l0 : (0 : Int) ≤ z := l0
  replace u0 : z ≤ (29 : Int) := u0
  replace g0 : z + (1 : Int) ≤ n2 := g0
  replace g1 : n2 + (-1 : Int) ≤ z := g1
  show ((True) ∧ (True) ∧ ((zgv (zwo ws) 88 65 ≤ 30 ∧ zjK (zwo ws) 1 (zgv (zwo ws) 88 30) (zgv (zwo ws) 88 7) (zgv (zwo ws) 88 65 - 1) (zgv (zwo ws) 88 38)) ∧ zjK (zwo ws) 1 (zgv (zwo ws) 88 30) (zgv (zwo ws) 88 7) (zgv (zwo ws) 88 65) (zgv (zwo ws) 88 38) ∧ True)) ∨ False
  try simp only [Int.add_zero, Int.zero_add] at *
  have a := zgv_some s2
  refine Or.inl ⟨trivial, trivial, ⟨⟨by omega, ?_⟩, ?_, trivial⟩⟩
  · rw [a, show n2 - 1 = z by omega]
    exact hj
  · obtain ⟨r, h1, h2, a1, a2, a3, a4, a5, a6, a7, a8, a9, b0, b1, b2, b3⟩ := hj
    rw [a]
    exact ⟨r, h1, h2, a1, a2, by omega, by omega, a5, a6, a7, a8, a9, b0, fun q => by have := b1 q; omega, fun q => by omega, b3⟩
theorem zrn_101 (g : yG) : zRuN (zJf g) zru_101 := by
  intro ws z w hj n2 s2 n3 s3
  replace hj : zjK (zwo ws) 1 (zgv (zwo ws) 88 30) (zgv (zwo ws) 88 7) (zgv (zwo ws) 88 65) (zgv (zwo ws) 88 38) := hj.resolve_left (by decide)
  replace s2 : zwo ws 88 7 = some n2 := s2
  replace s3 : zwo ws 88 38 = some n3 := s3
  show ((True) ∧ (True) ∧ (zjK (zwo ws) 1 (zgv (zwo ws) 88 30) (n2 + (0 : Int)) (zgv (zwo ws) 88 65) (n3 + (0 : Int)) ∧ True)) ∨ False
  try simp only [Int.add_zero, Int.zero_add] at *
  have a := zgv_some s2
  have b := zgv_some s3
  refine Or.inl ⟨trivial, trivial, ⟨?_, trivial⟩⟩
  rw [← a, ← b]
  exact hj
theorem zrn_102 (g : yG) : zRuN (zJf g) zru_102 := by
  intro ws z w hj n2 s2 n3 s3 n4 s4 l0 u0 l1 u1 g0 g1 g2 g3 x0 o0 p0 v0 t0 x1 o1 p1 v1 t1
  replace hj : zjK (zwo ws) 1 (zgv (zwo ws) 88 30) z (zgv (zwo ws) 88 65) w := hj.resolve_left (by decide)
  replace s2 : zwo ws 88 7 = some n2 := s2
  replace s3 : zwo ws 88 38 = some n3 := s3
  replace s4 : n4 = (0 : Int) := s4
  replace l0 : (1 : Int) ≤ z := l0
  replace u0 : z ≤ (89 : Int) := u0
  replace l1 : (0 : Int) ≤ w := l1
  replace u1 : w ≤ (6 : Int) := u1
  replace g0 : z + (1 : Int) ≤ n2 := g0
  replace g1 : n2 + (-1 : Int) ≤ z := g1
  replace g2 : w + (1 : Int) ≤ n3 := g2
  replace g3 : n3 + (-1 : Int) ≤ w := g3
  replace o0 : 0 ≤ (z + (0 : Int)) := o0
  replace p0 : zwo ws 116 (z + (0 : Int)).toNat = some x0 := p0
  replace v0 : (3 : Int) ≤ x0 := v0
  replace t0 : x0 ≤ (3 : Int) := t0
  replace o1 : 0 ≤ (z + (0 : Int)) := o1
  replace p1 : zwo ws 117 (z + (0 : Int)).toNat = some x1 := p1
  replace v1 : (126 : Int) ≤ x1 := v1
  replace t1 : x1 ≤ (126 : Int) := t1
  show ((True) ∧ (True) ∧ (zjK (zwo ws) 1 (zgv (zwo ws) 88 30) (zgv (zwo ws) 88 7) (zgv (zwo ws) 88 65) (zgv (zwo ws) 88 38) ∧ True)) ∨ False
  try simp only [Int.add_zero, Int.zero_add] at *
  have a := zgv_some s2
  have b := zgv_some s3
  have c := zgv_some p0
  have d := zgv_some p1
  obtain ⟨r, h1, h2, h⟩ := hj
  have hp := zK_push h c d (by unfold zpe; omega)
  obtain ⟨a1, a2, a3, a4, a5, a6, a7, a8, a9, b0, b1, b2, b3⟩ := h
  rw [if_pos (by omega)] at hp
  have b1' := b1 rfl
  refine Or.inl ⟨trivial, trivial, ⟨⟨r, h1, h2, ?_⟩, trivial⟩⟩
  rw [a, b, show n2 = z + 1 by omega, show n3 = w + 1 by omega]
  refine ⟨a1, by omega, a3, a4, by omega, by omega, a7, hp.2, hp.1.symm, ?_, fun _ => by omega, fun q => by omega, Or.inr rfl⟩
  rw [b0]
  congr 1
  omega
theorem zrn_103 (g : yG) : zRuN (zJf g) zru_103 := by
  intro ws z w hj n2 s2 n3 s3 n4 s4 l0 u0 l1 u1 g0 g1 g2 g3 x0 o0 p0 v0 t0 x1 o1 p1 v1 t1
  replace hj : zjK (zwo ws) 1 (zgv (zwo ws) 88 30) z (zgv (zwo ws) 88 65) w := hj.resolve_left (by decide)
  replace s2 : zwo ws 88 7 = some n2 := s2
  replace s3 : zwo ws 88 38 = some n3 := s3
  replace s4 : n4 = (0 : Int) := s4
  replace l0 : (1 : Int) ≤ z := l0
  replace u0 : z ≤ (89 : Int) := u0
  replace l1 : (0 : Int) ≤ w := l1
  replace u1 : w ≤ (6 : Int) := u1
  replace g0 : z + (1 : Int) ≤ n2 := g0
  replace g1 : n2 + (-1 : Int) ≤ z := g1
  replace g2 : w + (1 : Int) ≤ n3 := g2
  replace g3 : n3 + (-1 : Int) ≤ w := g3
  replace o0 : 0 ≤ (z + (0 : Int)) := o0
  replace p0 : zwo ws 116 (z + (0 : Int)).toNat = some x0 := p0
  replace v0 : (7 : Int) ≤ x0 := v0
  replace t0 : x0 ≤ (7 : Int) := t0
  replace o1 : 0 ≤ (z + (0 : Int)) := o1
  replace p1 : zwo ws 117 (z + (0 : Int)).toNat = some x1 := p1
  replace v1 : (126 : Int) ≤ x1 := v1
  replace t1 : x1 ≤ (126 : Int) := t1
  show ((True) ∧ (True) ∧ (zjK (zwo ws) 1 (zgv (zwo ws) 88 30) (zgv (zwo ws) 88 7) (zgv (zwo ws) 88 65) (zgv (zwo ws) 88 38) ∧ True)) ∨ False
  try simp only [Int.add_zero, Int.zero_add] at *
  have a := zgv_some s2
  have b := zgv_some s3
  have c := zgv_some p0
  have d := zgv_some p1
  obtain ⟨r, h1, h2, h⟩ := hj
  have hp := zK_push h c d (by unfold zpe; omega)
  obtain ⟨a1, a2, a3, a4, a5, a6, a7, a8, a9, b0, b1, b2, b3⟩ := h
  rw [if_pos (by omega)] at hp
  have b1' := b1 rfl
  refine Or.inl ⟨trivial, trivial, ⟨⟨r, h1, h2, ?_⟩, trivial⟩⟩
  rw [a, b, show n2 = z + 1 by omega, show n3 = w + 1 by omega]
  refine ⟨a1, by omega, a3, a4, by omega, by omega, a7, hp.2, hp.1.symm, ?_, fun _ => by omega, fun q => by omega, Or.inr rfl⟩
  rw [b0]
  congr 1
  omega
theorem zrn_104 (g : yG) : zRuN (zJf g) zru_104 := by
  intro ws z w hj n2 s2 n3 s3
  replace hj : (zgv (zwo ws) 88 65 ≤ 30 ∧ zjK (zwo ws) 1 (zgv (zwo ws) 88 30) (zgv (zwo ws) 88 7) (zgv (zwo ws) 88 65 - 1) (zgv (zwo ws) 88 38)) := hj.resolve_left (by decide)
  replace s2 : zwo ws 88 30 = some n2 := s2
  replace s3 : n3 = (0 : Int) := s3
  show ((True) ∧ (True) ∧ ((zgv (zwo ws) 88 65 ≤ 30 ∧ zjK (zwo ws) 1 (n2 + (0 : Int)) (zgv (zwo ws) 88 7) (zgv (zwo ws) 88 65 - 1) (zgv (zwo ws) 88 38)) ∧ True)) ∨ False
  try simp only [Int.add_zero, Int.zero_add] at *
  have a := zgv_some s2
  refine Or.inl ⟨trivial, trivial, ⟨?_, trivial⟩⟩
  rw [← a]
  exact hj
theorem zrn_105 (g : yG) : zRuN (zJf g) zru_105 := by
  intro ws z w hj n2 s2 n3 s3 l0 u0 g0 g1 x0 o0 p0 v0 t0
  replace hj : (zgv (zwo ws) 88 65 ≤ 30 ∧ zjK (zwo ws) 1 z (zgv (zwo ws) 88 7) (zgv (zwo ws) 88 65 - 1) (zgv (zwo ws) 88 38)) := hj.resolve_left (by decide)
  replace s2 : zwo ws 88 30 = some n2 := s2
  replace s3 : n3 = (0 : Int) := s3
  replace l0 : (0 : Int) ≤ z := l0
  replace u0 : z ≤ (1119 : Int) := u0
  replace g0 : z + (1 : Int) ≤ n2 := g0
  replace g1 : n2 + (-1 : Int) ≤ z := g1
  replace o0 : 0 ≤ (z + (0 : Int)) := o0
  replace p0 : zwo ws 114 (z + (0 : Int)).toNat = some x0 := p0
  replace v0 : (97 : Int) ≤ x0 := v0
  replace t0 : x0 ≤ (122 : Int) := t0
  show ((True) ∧ (True) ∧ (zjK (zwo ws) 0 (zgv (zwo ws) 88 30) (zgv (zwo ws) 88 7) (zgv (zwo ws) 88 65) (zgv (zwo ws) 88 38) ∧ True)) ∨ False
  try simp only [Int.add_zero, Int.zero_add] at *
  have a := zgv_some s2
  have c := zgv_some p0
  obtain ⟨hu, r, h1, h2, h⟩ := hj
  obtain ⟨a1, a2, a3, a4, a5, a6, a7, a8, a9, b0, b1, b2, b3⟩ := h
  have b1' := b1 rfl
  have hw := (zcnt_le (f := zgv (zwo ws) 116) (n := (zgv (zwo ws) 88 7).toNat)).2 (by omega)
  refine Or.inl ⟨trivial, trivial, ⟨⟨r, h1, h2, ?_⟩, trivial⟩⟩
  rw [a, show n2 = z + 1 by omega]
  refine ⟨a1, a2, by omega, hu, a5, a6, by omega, a8, a9, ?_, fun q => by omega, fun _ => by omega, Or.inl rfl⟩
  refine zhg_step (b := 560 * r) (h := (zgv (zwo ws) 88 7 - zgv (zwo ws) 88 38 - 1).toNat) (c := x0) (by omega) b0 c ?_
  unfold zhs
  rw [if_neg (by omega), if_pos ⟨by omega, by omega⟩, if_pos (by omega)]
  congr 1
  omega
theorem zrn_106 (g : yG) : zRuN (zJf g) zru_106 := by
  intro ws z w hj n2 s2 n3 s3
  replace hj : zjK (zwo ws) 0 (zgv (zwo ws) 88 30) (zgv (zwo ws) 88 7) (zgv (zwo ws) 88 65) (zgv (zwo ws) 88 38) := hj.resolve_left (by decide)
  replace s2 : zwo ws 88 7 = some n2 := s2
  replace s3 : n3 = (0 : Int) := s3
  show ((True) ∧ (True) ∧ (zjK (zwo ws) 0 (zgv (zwo ws) 88 30) (n2 + (0 : Int)) (zgv (zwo ws) 88 65) (zgv (zwo ws) 88 38) ∧ True)) ∨ False
  try simp only [Int.add_zero, Int.zero_add] at *
  have a := zgv_some s2
  refine Or.inl ⟨trivial, trivial, ⟨?_, trivial⟩⟩
  rw [← a]
  exact hj
theorem zrn_107 (g : yG) : zRuN (zJf g) zru_107 := by
  intro ws z w hj n2 s2 n3 s3 l0 u0 g0 g1
  replace hj : zjK (zwo ws) 0 (zgv (zwo ws) 88 30) z (zgv (zwo ws) 88 65) (zgv (zwo ws) 88 38) := hj.resolve_left (by decide)
  replace s2 : zwo ws 88 7 = some n2 := s2
  replace s3 : n3 = (0 : Int) := s3
  replace l0 : (1 : Int) ≤ n2 := l0
  replace u0 : n2 ≤ (89 : Int) := u0
  replace g0 : n2 + (1 : Int) ≤ z := g0
  replace g1 : z + (-1 : Int) ≤ n2 := g1
  show ((True) ∧ (True) ∧ (zjK (zwo ws) 0 (zgv (zwo ws) 88 30) (zgv (zwo ws) 88 7 + 1) (zgv (zwo ws) 88 65) (zgv (zwo ws) 88 38) ∧ True)) ∨ False
  try simp only [Int.add_zero, Int.zero_add] at *
  have a := zgv_some s2
  refine Or.inl ⟨trivial, trivial, ⟨?_, trivial⟩⟩
  rw [a, show n2 + 1 = z by omega]
  exact hj
theorem zrn_108 (g : yG) : zRuN (zJf g) zru_108 := by
  intro ws z w hj n2 s2 n3 s3 l0 u0 g0 g1 x0 o0 p0 v0 t0
  replace hj : zjK (zwo ws) 0 (zgv (zwo ws) 88 30) z (zgv (zwo ws) 88 65) (zgv (zwo ws) 88 38) := hj.resolve_left (by decide)
  replace s2 : zwo ws 88 7 = some n2 := s2
  replace s3 : n3 = (0 : Int) := s3
  replace l0 : (0 : Int) ≤ n2 := l0
  replace u0 : n2 ≤ (89 : Int) := u0
  replace g0 : n2 + (1 : Int) ≤ z := g0
  replace g1 : z + (-1 : Int) ≤ n2 := g1
  replace o0 : 0 ≤ (n2 + (0 : Int)) := o0
  replace p0 : zwo ws 116 (n2 + (0 : Int)).toNat = some x0 := p0
  replace v0 : (8 : Int) ≤ x0 := v0
  replace t0 : x0 ≤ (8 : Int) := t0
  show ((((0 : Int) ≤ n2 ∧ n2 ≤ (0 : Int)) ∧ True) ∧ (True) ∧ (zj42 (zwo ws) ∧ True)) ∨ False
  try simp only [Int.add_zero, Int.zero_add] at *
  have a := zgv_some s2
  have c := zgv_some p0
  obtain ⟨r, h1, h2, h⟩ := hj
  have hl := zKp_lt h
  obtain ⟨a1, a2, a3, a4, a5, a6, a7, a8, a9, b0, b1, b2, b3⟩ := h
  have e0 : n2 = 0 := by
    refine Classical.byContradiction fun q => ?_
    have h9 := a8 n2.toNat (by omega) (by omega)
    unfold zpe at h9
    omega
  refine Or.inl ⟨⟨⟨by omega, by omega⟩, trivial⟩, trivial, ⟨⟨r, h1, h2, a7, by omega, ?_⟩, trivial⟩⟩
  have ew : zgv (zwo ws) 88 38 = 0 := by
    rw [a9, show z.toNat = 1 by omega]
    rfl
  rw [b0]
  congr 1
  omega
theorem zrn_109 (g : yG) : zRuN (zJf g) zru_109 := by
  intro ws z w hj n2 s2 n3 s3 l0 u0 x0 o0 p0 v0 t0
  replace hj : zjK (zwo ws) 0 (zgv (zwo ws) 88 30) (zgv (zwo ws) 88 7 + 1) (zgv (zwo ws) 88 65) (zgv (zwo ws) 88 38) := hj.resolve_left (by decide)
  replace s2 : zwo ws 88 7 = some n2 := s2
  replace s3 : n3 = (0 : Int) := s3
  replace l0 : (1 : Int) ≤ n2 := l0
  replace u0 : n2 ≤ (89 : Int) := u0
  replace o0 : 0 ≤ (n2 + (0 : Int)) := o0
  replace p0 : zwo ws 116 (n2 + (0 : Int)).toNat = some x0 := p0
  replace v0 : (1 : Int) ≤ x0 := v0
  replace t0 : x0 ≤ (7 : Int) := t0
  show ((True) ∧ ((∀ x, 0 ≤ (n2 + (0 : Int)) → zwo ws 116 (n2 + (0 : Int)).toNat = some x → (1 : Int) ≤ x ∧ x ≤ (1 : Int)) ∧ (∀ x, 0 ≤ (n2 + (0 : Int)) → zwo ws 117 (n2 + (0 : Int)).toNat = some x → (124 : Int) ≤ x ∧ x ≤ (124 : Int)) ∧ True) ∧ (True)) ∨ ((True) ∧ ((∀ x, 0 ≤ (n2 + (0 : Int)) → zwo ws 116 (n2 + (0 : Int)).toNat = some x → (2 : Int) ≤ x ∧ x ≤ (2 : Int)) ∧ (∀ x, 0 ≤ (n2 + (0 : Int)) → zwo ws 117 (n2 + (0 : Int)).toNat = some x → (38 : Int) ≤ x ∧ x ≤ (38 : Int)) ∧ True) ∧ (True)) ∨ ((True) ∧ ((∀ x, 0 ≤ (n2 + (0 : Int)) → zwo ws 116 (n2 + (0 : Int)).toNat = some x → (3 : Int) ≤ x ∧ x ≤ (3 : Int)) ∧ (∀ x, 0 ≤ (n2 + (0 : Int)) → zwo ws 117 (n2 + (0 : Int)).toNat = some x → (126 : Int) ≤ x ∧ x ≤ (126 : Int)) ∧ True) ∧ (True)) ∨ ((True) ∧ ((∀ x, 0 ≤ (n2 + (0 : Int)) → zwo ws 116 (n2 + (0 : Int)).toNat = some x → (4 : Int) ≤ x ∧ x ≤ (6 : Int)) ∧ (∀ x, 0 ≤ (n2 + (0 : Int)) → zwo ws 117 (n2 + (0 : Int)).toNat = some x → (37 : Int) ≤ x ∧ x ≤ (62 : Int)) ∧ True) ∧ (True)) ∨ ((True) ∧ ((∀ x, 0 ≤ (n2 + (0 : Int)) → zwo ws 116 (n2 + (0 : Int)).toNat = some x → (7 : Int) ≤ x ∧ x ≤ (7 : Int)) ∧ True) ∧ (True)) ∨ False
  try simp only [Int.add_zero, Int.zero_add] at *
  have a := zgv_some s2
  have c := zgv_some p0
  obtain ⟨r, h1, h2, h⟩ := hj
  obtain ⟨a1, a2, a3, a4, a5, a6, a7, a8, a9, b0⟩ := h
  have h9 := a8 n2.toNat (by omega) (by omega)
  unfold zpe at h9
  have hc : x0 = 1 ∨ x0 = 2 ∨ x0 = 3 ∨ (4 ≤ x0 ∧ x0 ≤ 6) ∨ x0 = 7 := by omega
  rcases hc with hc | hc | hc | hc | hc
  · exact Or.inl ⟨trivial, ⟨fun x hx0 hx => by have hv := zgv_some hx; omega, fun x hx0 hx => by have hv := zgv_some hx; omega, trivial⟩, trivial⟩
  · exact Or.inr (Or.inl ⟨trivial, ⟨fun x hx0 hx => by have hv := zgv_some hx; omega, fun x hx0 hx => by have hv := zgv_some hx; omega, trivial⟩, trivial⟩)
  · exact Or.inr (Or.inr (Or.inl ⟨trivial, ⟨fun x hx0 hx => by have hv := zgv_some hx; omega, fun x hx0 hx => by have hv := zgv_some hx; omega, trivial⟩, trivial⟩))
  · exact Or.inr (Or.inr (Or.inr (Or.inl ⟨trivial, ⟨fun x hx0 hx => by have hv := zgv_some hx; omega, fun x hx0 hx => by have hv := zgv_some hx; omega, trivial⟩, trivial⟩)))
  · exact Or.inr (Or.inr (Or.inr (Or.inr (Or.inl ⟨trivial, ⟨fun x hx0 hx => by have hv := zgv_some hx; omega, trivial⟩, trivial⟩))))
theorem zrn_110 (g : yG) : zRuN (zJf g) zru_110 := by
  intro ws z w hj n2 s2 n3 s3
  replace hj : zjK (zwo ws) 0 (zgv (zwo ws) 88 30) (zgv (zwo ws) 88 7 + 1) (zgv (zwo ws) 88 65) (zgv (zwo ws) 88 38) := hj.resolve_left (by decide)
  replace s2 : zwo ws 88 38 = some n2 := s2
  replace s3 : n3 = (0 : Int) := s3
  show ((True) ∧ (True) ∧ (zjK (zwo ws) 0 (zgv (zwo ws) 88 30) (zgv (zwo ws) 88 7 + 1) (zgv (zwo ws) 88 65) (n2 + (0 : Int)) ∧ True)) ∨ False
  try simp only [Int.add_zero, Int.zero_add] at *
  have a := zgv_some s2
  refine Or.inl ⟨trivial, trivial, ⟨?_, trivial⟩⟩
  rw [← a]
  exact hj
theorem zrn_111 (g : yG) : zRuN (zJf g) zru_111 := by
  intro ws z w hj n2 s2 n3 s3 g0 g1
  replace hj : zjK (zwo ws) 0 (zgv (zwo ws) 88 30) (zgv (zwo ws) 88 7 + 1) (zgv (zwo ws) 88 65) z := hj.resolve_left (by decide)
  replace s2 : zwo ws 88 38 = some n2 := s2
  replace s3 : n3 = (0 : Int) := s3
  replace g0 : n2 + (1 : Int) ≤ z := g0
  replace g1 : z + (-1 : Int) ≤ n2 := g1
  show ((True) ∧ (True) ∧ (zjK (zwo ws) 0 (zgv (zwo ws) 88 30) (zgv (zwo ws) 88 7 + 1) (zgv (zwo ws) 88 65) (zgv (zwo ws) 88 38 + 1) ∧ True)) ∨ False
  try simp only [Int.add_zero, Int.zero_add] at *
  have a := zgv_some s2
  refine Or.inl ⟨trivial, trivial, ⟨?_, trivial⟩⟩
  rw [a, show n2 + 1 = z by omega]
  exact hj
theorem zrn_112 (g : yG) : zRuN (zJf g) zru_112 := by
  intro ws z w hj n2 s2 n3 s3 n4 s4 l0 u0 g0 g1 x0 o0 p0 v0 t0
  replace hj : zjK (zwo ws) 0 (zgv (zwo ws) 88 30) (zgv (zwo ws) 88 7 + 1) (zgv (zwo ws) 88 65) z := hj.resolve_left (by decide)
  replace s2 : zwo ws 88 38 = some n2 := s2
  replace s3 : zwo ws 88 7 = some n3 := s3
  replace s4 : n4 = (0 : Int) := s4
  replace l0 : (1 : Int) ≤ n3 := l0
  replace u0 : n3 ≤ (89 : Int) := u0
  replace g0 : n2 + (1 : Int) ≤ z := g0
  replace g1 : z + (-1 : Int) ≤ n2 := g1
  replace o0 : 0 ≤ (n3 + (0 : Int)) := o0
  replace p0 : zwo ws 116 (n3 + (0 : Int)).toNat = some x0 := p0
  replace v0 : (7 : Int) ≤ x0 := v0
  replace t0 : x0 ≤ (7 : Int) := t0
  show ((True) ∧ (True) ∧ (zjK (zwo ws) 0 (zgv (zwo ws) 88 30) (zgv (zwo ws) 88 7) (zgv (zwo ws) 88 65) (zgv (zwo ws) 88 38) ∧ True)) ∨ False
  try simp only [Int.add_zero, Int.zero_add] at *
  have a := zgv_some s2
  have b := zgv_some s3
  have c := zgv_some p0
  obtain ⟨r, h1, h2, h⟩ := hj
  rw [b] at h
  have hp := zK_pop h (by omega)
  rw [if_pos (by omega)] at hp
  obtain ⟨a1, a2, a3, a4, a5, a6, a7, a8, a9, b0, b1, b2, b3⟩ := h
  have b2' := b2 rfl
  refine Or.inl ⟨trivial, trivial, ⟨⟨r, h1, h2, ?_⟩, trivial⟩⟩
  rw [a, b]
  refine ⟨a1, by omega, a3, a4, by omega, by omega, a7, hp.2.1, by omega, ?_, fun q => by omega, fun _ => by omega, Or.inl rfl⟩
  rw [b0]
  congr 1
  omega
theorem zrn_113 (g : yG) : zRuN (zJf g) zru_113 := by
  intro ws z w hj n2 s2 n3 s3
  replace hj : zjK (zwo ws) 0 (zgv (zwo ws) 88 30) (zgv (zwo ws) 88 7 + 1) (zgv (zwo ws) 88 65) (zgv (zwo ws) 88 38) := hj.resolve_left (by decide)
  replace s2 : zwo ws 88 30 = some n2 := s2
  replace s3 : n3 = (0 : Int) := s3
  show ((True) ∧ (True) ∧ (zjK (zwo ws) 0 (n2 + (0 : Int)) (zgv (zwo ws) 88 7 + 1) (zgv (zwo ws) 88 65) (zgv (zwo ws) 88 38) ∧ True)) ∨ False
  try simp only [Int.add_zero, Int.zero_add] at *
  have a := zgv_some s2
  refine Or.inl ⟨trivial, trivial, ⟨?_, trivial⟩⟩
  rw [← a]
  exact hj
theorem zrn_114 (g : yG) : zRuN (zJf g) zru_114 := by
  intro ws z w hj n2 s2 n3 s3
  replace hj : zjK (zwo ws) 0 (zgv (zwo ws) 88 30) (zgv (zwo ws) 88 7 + 1) (zgv (zwo ws) 88 65) (zgv (zwo ws) 88 38 + 1) := hj.resolve_left (by decide)
  replace s2 : zwo ws 88 30 = some n2 := s2
  replace s3 : n3 = (0 : Int) := s3
  show ((True) ∧ (True) ∧ (zjK (zwo ws) 0 (n2 + (0 : Int)) (zgv (zwo ws) 88 7 + 1) (zgv (zwo ws) 88 65) (zgv (zwo ws) 88 38 + 1) ∧ True)) ∨ False
  try simp only [Int.add_zero, Int.zero_add] at *
  have a := zgv_some s2
  refine Or.inl ⟨trivial, trivial, ⟨?_, trivial⟩⟩
  rw [← a]
  exact hj
theorem zrn_115 (g : yG) : zRuN (zJf g) zru_115 := by
  intro ws z w hj n2 s2 n3 s3 n4 s4 l0 u0 l1 u1 g0 g1 x0 o0 p0 v0 t0 x1 o1 p1 v1 t1
  replace hj : zjK (zwo ws) 0 z (zgv (zwo ws) 88 7 + 1) (zgv (zwo ws) 88 65) (zgv (zwo ws) 88 38) := hj.resolve_left (by decide)
  replace s2 : zwo ws 88 30 = some n2 := s2
  replace s3 : zwo ws 88 7 = some n3 := s3
  replace s4 : n4 = (0 : Int) := s4
  replace l0 : (0 : Int) ≤ z := l0
  replace u0 : z ≤ (1119 : Int) := u0
  replace l1 : (1 : Int) ≤ n3 := l1
  replace u1 : n3 ≤ (89 : Int) := u1
  replace g0 : z + (1 : Int) ≤ n2 := g0
  replace g1 : n2 + (-1 : Int) ≤ z := g1
  replace o0 : 0 ≤ (n3 + (0 : Int)) := o0
  replace p0 : zwo ws 116 (n3 + (0 : Int)).toNat = some x0 := p0
  replace v0 : (1 : Int) ≤ x0 := v0
  replace t0 : x0 ≤ (1 : Int) := t0
  replace o1 : 0 ≤ (z + (0 : Int)) := o1
  replace p1 : zwo ws 114 (z + (0 : Int)).toNat = some x1 := p1
  replace v1 : (124 : Int) ≤ x1 := v1
  replace t1 : x1 ≤ (124 : Int) := t1
  show ((True) ∧ (True) ∧ (zjK (zwo ws) 0 (zgv (zwo ws) 88 30) (zgv (zwo ws) 88 7) (zgv (zwo ws) 88 65) (zgv (zwo ws) 88 38) ∧ True)) ∨ False
  try simp only [Int.add_zero, Int.zero_add] at *
  have a := zgv_some s2
  have b := zgv_some s3
  have c := zgv_some p0
  have d := zgv_some p1
  obtain ⟨r, h1, h2, h⟩ := hj
  rw [b] at h
  have hp := zK_pop h (by omega)
  rw [if_neg (by omega)] at hp
  obtain ⟨a1, a2, a3, a4, a5, a6, a7, a8, a9, b0, b1, b2, b3⟩ := h
  have b2' := b2 rfl
  refine Or.inl ⟨trivial, trivial, ⟨⟨r, h1, h2, ?_⟩, trivial⟩⟩
  rw [a, b, show n2 = z + 1 by omega]
  refine ⟨a1, by omega, a3, a4, a5, a6, by omega, hp.2.1, by omega, ?_, fun q => by omega, fun _ => by omega, Or.inl rfl⟩
  refine zhg_step (b := 560 * r) (h := (n3 + 1 - zgv (zwo ws) 88 38 - 0).toNat) (c := x1) (by omega) b0 d ?_
  unfold zhs
  rw [if_neg (by omega), if_neg (by omega), if_pos (by omega)]
  congr 1
  omega
theorem zrn_116 (g : yG) : zRuN (zJf g) zru_116 := by
  intro ws z w hj n2 s2 n3 s3 n4 s4 l0 u0 l1 u1 g0 g1 x0 o0 p0 v0 t0 x1 o1 p1 v1 t1
  replace hj : zjK (zwo ws) 0 z (zgv (zwo ws) 88 7 + 1) (zgv (zwo ws) 88 65) (zgv (zwo ws) 88 38) := hj.resolve_left (by decide)
  replace s2 : zwo ws 88 30 = some n2 := s2
  replace s3 : zwo ws 88 7 = some n3 := s3
  replace s4 : n4 = (0 : Int) := s4
  replace l0 : (0 : Int) ≤ z := l0
  replace u0 : z ≤ (1119 : Int) := u0
  replace l1 : (1 : Int) ≤ n3 := l1
  replace u1 : n3 ≤ (89 : Int) := u1
  replace g0 : z + (1 : Int) ≤ n2 := g0
  replace g1 : n2 + (-1 : Int) ≤ z := g1
  replace o0 : 0 ≤ (n3 + (0 : Int)) := o0
  replace p0 : zwo ws 116 (n3 + (0 : Int)).toNat = some x0 := p0
  replace v0 : (2 : Int) ≤ x0 := v0
  replace t0 : x0 ≤ (2 : Int) := t0
  replace o1 : 0 ≤ (z + (0 : Int)) := o1
  replace p1 : zwo ws 114 (z + (0 : Int)).toNat = some x1 := p1
  replace v1 : (38 : Int) ≤ x1 := v1
  replace t1 : x1 ≤ (38 : Int) := t1
  show ((True) ∧ (True) ∧ (zjK (zwo ws) 0 (zgv (zwo ws) 88 30) (zgv (zwo ws) 88 7) (zgv (zwo ws) 88 65) (zgv (zwo ws) 88 38) ∧ True)) ∨ False
  try simp only [Int.add_zero, Int.zero_add] at *
  have a := zgv_some s2
  have b := zgv_some s3
  have c := zgv_some p0
  have d := zgv_some p1
  obtain ⟨r, h1, h2, h⟩ := hj
  rw [b] at h
  have hp := zK_pop h (by omega)
  rw [if_neg (by omega)] at hp
  obtain ⟨a1, a2, a3, a4, a5, a6, a7, a8, a9, b0, b1, b2, b3⟩ := h
  have b2' := b2 rfl
  refine Or.inl ⟨trivial, trivial, ⟨⟨r, h1, h2, ?_⟩, trivial⟩⟩
  rw [a, b, show n2 = z + 1 by omega]
  refine ⟨a1, by omega, a3, a4, a5, a6, by omega, hp.2.1, by omega, ?_, fun q => by omega, fun _ => by omega, Or.inl rfl⟩
  refine zhg_step (b := 560 * r) (h := (n3 + 1 - zgv (zwo ws) 88 38 - 0).toNat) (c := x1) (by omega) b0 d ?_
  unfold zhs
  rw [if_neg (by omega), if_neg (by omega), if_pos (by omega)]
  congr 1
  omega
theorem zrn_117 (g : yG) : zRuN (zJf g) zru_117 := by
  intro ws z w hj n2 s2 n3 s3 n4 s4 l0 u0 l1 u1 g0 g1 x0 o0 p0 v0 t0 x1 o1 p1 v1 t1
  replace hj : zjK (zwo ws) 0 z (zgv (zwo ws) 88 7 + 1) (zgv (zwo ws) 88 65) (zgv (zwo ws) 88 38) := hj.resolve_left (by decide)
  replace s2 : zwo ws 88 30 = some n2 := s2
  replace s3 : zwo ws 88 7 = some n3 := s3
  replace s4 : n4 = (0 : Int) := s4
  replace l0 : (0 : Int) ≤ z := l0
  replace u0 : z ≤ (1119 : Int) := u0
  replace l1 : (1 : Int) ≤ n3 := l1
  replace u1 : n3 ≤ (89 : Int) := u1
  replace g0 : z + (1 : Int) ≤ n2 := g0
  replace g1 : n2 + (-1 : Int) ≤ z := g1
  replace o0 : 0 ≤ (n3 + (0 : Int)) := o0
  replace p0 : zwo ws 116 (n3 + (0 : Int)).toNat = some x0 := p0
  replace v0 : (4 : Int) ≤ x0 := v0
  replace t0 : x0 ≤ (6 : Int) := t0
  replace o1 : 0 ≤ (z + (0 : Int)) := o1
  replace p1 : zwo ws 114 (z + (0 : Int)).toNat = some x1 := p1
  replace v1 : (37 : Int) ≤ x1 := v1
  replace t1 : x1 ≤ (62 : Int) := t1
  show ((True) ∧ (True) ∧ (zjK (zwo ws) 0 (zgv (zwo ws) 88 30) (zgv (zwo ws) 88 7) (zgv (zwo ws) 88 65) (zgv (zwo ws) 88 38) ∧ True)) ∨ False
  try simp only [Int.add_zero, Int.zero_add] at *
  have a := zgv_some s2
  have b := zgv_some s3
  have c := zgv_some p0
  have d := zgv_some p1
  obtain ⟨r, h1, h2, h⟩ := hj
  rw [b] at h
  have hp := zK_pop h (by omega)
  rw [if_neg (by omega)] at hp
  obtain ⟨a1, a2, a3, a4, a5, a6, a7, a8, a9, b0, b1, b2, b3⟩ := h
  have b2' := b2 rfl
  refine Or.inl ⟨trivial, trivial, ⟨⟨r, h1, h2, ?_⟩, trivial⟩⟩
  rw [a, b, show n2 = z + 1 by omega]
  refine ⟨a1, by omega, a3, a4, a5, a6, by omega, hp.2.1, by omega, ?_, fun q => by omega, fun _ => by omega, Or.inl rfl⟩
  refine zhg_step (b := 560 * r) (h := (n3 + 1 - zgv (zwo ws) 88 38 - 0).toNat) (c := x1) (by omega) b0 d ?_
  unfold zhs
  rw [if_neg (by omega), if_neg (by omega), if_pos (by omega)]
  congr 1
  omega
theorem zrn_118 (g : yG) : zRuN (zJf g) zru_118 := by
  intro ws z w hj n2 s2 n3 s3 n4 s4 l0 u0 l1 u1 g0 g1 x0 o0 p0 v0 t0 x1 o1 p1 v1 t1
  replace hj : zjK (zwo ws) 0 z (zgv (zwo ws) 88 7 + 1) (zgv (zwo ws) 88 65) (zgv (zwo ws) 88 38 + 1) := hj.resolve_left (by decide)
  replace s2 : zwo ws 88 30 = some n2 := s2
  replace s3 : zwo ws 88 7 = some n3 := s3
  replace s4 : n4 = (0 : Int) := s4
  replace l0 : (0 : Int) ≤ z := l0
  replace u0 : z ≤ (1119 : Int) := u0
  replace l1 : (1 : Int) ≤ n3 := l1
  replace u1 : n3 ≤ (89 : Int) := u1
  replace g0 : z + (1 : Int) ≤ n2 := g0
  replace g1 : n2 + (-1 : Int) ≤ z := g1
  replace o0 : 0 ≤ (n3 + (0 : Int)) := o0
  replace p0 : zwo ws 116 (n3 + (0 : Int)).toNat = some x0 := p0
  replace v0 : (3 : Int) ≤ x0 := v0
  replace t0 : x0 ≤ (3 : Int) := t0
  replace o1 : 0 ≤ (z + (0 : Int)) := o1
  replace p1 : zwo ws 114 (z + (0 : Int)).toNat = some x1 := p1
  replace v1 : (126 : Int) ≤ x1 := v1
  replace t1 : x1 ≤ (126 : Int) := t1
  show ((True) ∧ (True) ∧ (zjK (zwo ws) 0 (zgv (zwo ws) 88 30) (zgv (zwo ws) 88 7) (zgv (zwo ws) 88 65) (zgv (zwo ws) 88 38) ∧ True)) ∨ False
  try simp only [Int.add_zero, Int.zero_add] at *
  have a := zgv_some s2
  have b := zgv_some s3
  have c := zgv_some p0
  have d := zgv_some p1
  obtain ⟨r, h1, h2, h⟩ := hj
  rw [b] at h
  have hp := zK_pop h (by omega)
  rw [if_pos (by omega)] at hp
  obtain ⟨a1, a2, a3, a4, a5, a6, a7, a8, a9, b0, b1, b2, b3⟩ := h
  have b2' := b2 rfl
  refine Or.inl ⟨trivial, trivial, ⟨⟨r, h1, h2, ?_⟩, trivial⟩⟩
  rw [a, b, show n2 = z + 1 by omega]
  refine ⟨a1, by omega, a3, a4, by omega, by omega, by omega, hp.2.1, by omega, ?_, fun q => by omega, fun _ => by omega, Or.inl rfl⟩
  refine zhg_step (b := 560 * r) (h := (n3 + 1 - (zgv (zwo ws) 88 38 + 1) - 0).toNat) (c := x1) (by omega) b0 d ?_
  unfold zhs
  rw [if_pos (by omega), if_pos (by omega)]
  congr 1
  omega
theorem zrn_119 (g : yG) : zRuN (zJf g) zru_119 := by
  intro ws z w hj n2 s2 n3 s3 l0 u0 g0 g1 x0 o0 p0 v0 t0 x1 o1 p1 v1 t1
  replace hj : zjK (zwo ws) 0 (zgv (zwo ws) 88 30) z (zgv (zwo ws) 88 65) (zgv (zwo ws) 88 38) := hj.resolve_left (by decide)
  replace s2 : zwo ws 88 7 = some n2 := s2
  replace s3 : n3 = (0 : Int) := s3
  replace l0 : (1 : Int) ≤ z := l0
  replace u0 : z ≤ (89 : Int) := u0
  replace g0 : z + (1 : Int) ≤ n2 := g0
  replace g1 : n2 + (-1 : Int) ≤ z := g1
  replace o0 : 0 ≤ (z + (0 : Int)) := o0
  replace p0 : zwo ws 116 (z + (0 : Int)).toNat = some x0 := p0
  replace v0 : (1 : Int) ≤ x0 := v0
  replace t0 : x0 ≤ (1 : Int) := t0
  replace o1 : 0 ≤ (z + (0 : Int)) := o1
  replace p1 : zwo ws 117 (z + (0 : Int)).toNat = some x1 := p1
  replace v1 : (124 : Int) ≤ x1 := v1
  replace t1 : x1 ≤ (124 : Int) := t1
  show ((True) ∧ (True) ∧ (zjK (zwo ws) 1 (zgv (zwo ws) 88 30) (zgv (zwo ws) 88 7) (zgv (zwo ws) 88 65) (zgv (zwo ws) 88 38) ∧ True)) ∨ False
  try simp only [Int.add_zero, Int.zero_add] at *
  have a := zgv_some s2
  have c := zgv_some p0
  have d := zgv_some p1
  obtain ⟨r, h1, h2, h⟩ := hj
  have hp := zK_push h c d (by unfold zpe; omega)
  obtain ⟨a1, a2, a3, a4, a5, a6, a7, a8, a9, b0, b1, b2, b3⟩ := h
  rw [if_neg (by omega), Int.add_zero] at hp
  have b2' := b2 rfl
  refine Or.inl ⟨trivial, trivial, ⟨⟨r, h1, h2, ?_⟩, trivial⟩⟩
  rw [a, show n2 = z + 1 by omega]
  refine ⟨a1, by omega, a3, a4, a5, a6, a7, hp.2, hp.1.symm, ?_, fun _ => by omega, fun q => by omega, Or.inr rfl⟩
  rw [b0]
  congr 1
  omega
