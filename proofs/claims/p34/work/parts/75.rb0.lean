/-! the rules hold: printed by wip/p34/genrule2.py -/
theorem zrn_0 (g : yG) : zRuN (zJf g) zru_0 := by
  intro ws z w hj n2 s2 l0 u0
  replace hj : zj0 (zwo ws) := hj.resolve_left (by decide)
  clear s2
  replace l0 : (0 : Int) ≤ n2 := l0
  replace u0 : n2 ≤ (15 : Int) := u0
  show ((True) ∧ ((∀ x, 0 ≤ (n2 + (0 : Int)) → zwo ws 121 (n2 + (0 : Int)).toNat = some x → (0 : Int) ≤ x ∧ x ≤ (0 : Int)) ∧ True) ∧ (True)) ∨ ((True) ∧ ((∀ x, 0 ≤ (n2 + (0 : Int)) → zwo ws 121 (n2 + (0 : Int)).toNat = some x → (1 : Int) ≤ x ∧ x ≤ (1 : Int)) ∧ True) ∧ (True)) ∨ ((True) ∧ ((∀ x, 0 ≤ (n2 + (0 : Int)) → zwo ws 121 (n2 + (0 : Int)).toNat = some x → (2 : Int) ≤ x ∧ x ≤ (2 : Int)) ∧ (∀ x, 0 ≤ (n2 + (0 : Int)) → zwo ws 124 (n2 + (0 : Int)).toNat = some x → (1 : Int) ≤ x ∧ x ≤ (1 : Int)) ∧ (∀ x, 0 ≤ (n2 + (0 : Int)) → zwo ws 120 (n2 + (0 : Int)).toNat = some x → (0 : Int) ≤ x ∧ x ≤ (18 : Int)) ∧ True) ∧ (True)) ∨ ((True) ∧ ((∀ x, 0 ≤ (n2 + (0 : Int)) → zwo ws 121 (n2 + (0 : Int)).toNat = some x → (3 : Int) ≤ x ∧ x ≤ (3 : Int)) ∧ (∀ x, 0 ≤ (n2 + (0 : Int)) → zwo ws 124 (n2 + (0 : Int)).toNat = some x → (1 : Int) ≤ x ∧ x ≤ (1 : Int)) ∧ (∀ x, 0 ≤ (n2 + (0 : Int)) → zwo ws 120 (n2 + (0 : Int)).toNat = some x → (0 : Int) ≤ x ∧ x ≤ (17 : Int)) ∧ True) ∧ (True)) ∨ ((True) ∧ ((∀ x, 0 ≤ (n2 + (0 : Int)) → zwo ws 121 (n2 + (0 : Int)).toNat = some x → (4 : Int) ≤ x ∧ x ≤ (4 : Int)) ∧ (∀ x, 0 ≤ (n2 + (0 : Int)) → zwo ws 124 (n2 + (0 : Int)).toNat = some x → (1 : Int) ≤ x ∧ x ≤ (1 : Int)) ∧ (∀ x, 0 ≤ (n2 + (0 : Int)) → zwo ws 120 (n2 + (0 : Int)).toNat = some x → (0 : Int) ≤ x ∧ x ≤ (16 : Int)) ∧ True) ∧ (True)) ∨ ((True) ∧ ((∀ x, 0 ≤ (n2 + (0 : Int)) → zwo ws 121 (n2 + (0 : Int)).toNat = some x → (5 : Int) ≤ x ∧ x ≤ (5 : Int)) ∧ (∀ x, 0 ≤ (n2 + (0 : Int)) → zwo ws 124 (n2 + (0 : Int)).toNat = some x → (1 : Int) ≤ x ∧ x ≤ (1 : Int)) ∧ (∀ x, 0 ≤ (n2 + (0 : Int)) → zwo ws 120 (n2 + (0 : Int)).toNat = some x → (0 : Int) ≤ x ∧ x ≤ (15 : Int)) ∧ True) ∧ (True)) ∨ ((True) ∧ ((∀ x, 0 ≤ (n2 + (0 : Int)) → zwo ws 121 (n2 + (0 : Int)).toNat = some x → (2 : Int) ≤ x ∧ x ≤ (2 : Int)) ∧ (∀ x, 0 ≤ (n2 + (0 : Int)) → zwo ws 124 (n2 + (0 : Int)).toNat = some x → (0 : Int) ≤ x ∧ x ≤ (0 : Int)) ∧ (∀ x, 0 ≤ (n2 + (0 : Int)) → zwo ws 120 (n2 + (0 : Int)).toNat = some x → (0 : Int) ≤ x ∧ x ≤ (14 : Int)) ∧ True) ∧ (True)) ∨ ((True) ∧ ((∀ x, 0 ≤ (n2 + (0 : Int)) → zwo ws 121 (n2 + (0 : Int)).toNat = some x → (3 : Int) ≤ x ∧ x ≤ (3 : Int)) ∧ (∀ x, 0 ≤ (n2 + (0 : Int)) → zwo ws 124 (n2 + (0 : Int)).toNat = some x → (0 : Int) ≤ x ∧ x ≤ (0 : Int)) ∧ (∀ x, 0 ≤ (n2 + (0 : Int)) → zwo ws 120 (n2 + (0 : Int)).toNat = some x → (0 : Int) ≤ x ∧ x ≤ (9 : Int)) ∧ True) ∧ (True)) ∨ ((True) ∧ ((∀ x, 0 ≤ (n2 + (0 : Int)) → zwo ws 121 (n2 + (0 : Int)).toNat = some x → (4 : Int) ≤ x ∧ x ≤ (4 : Int)) ∧ (∀ x, 0 ≤ (n2 + (0 : Int)) → zwo ws 124 (n2 + (0 : Int)).toNat = some x → (0 : Int) ≤ x ∧ x ≤ (0 : Int)) ∧ (∀ x, 0 ≤ (n2 + (0 : Int)) → zwo ws 120 (n2 + (0 : Int)).toNat = some x → (0 : Int) ≤ x ∧ x ≤ (4 : Int)) ∧ True) ∧ (True)) ∨ False
  try simp only [Int.add_zero, Int.zero_add] at *
  have h := hj n2.toNat (by omega)
  unfold zj_geo at h
  have h5 : zgv (zwo ws) 121 n2.toNat = 0 ∨ zgv (zwo ws) 121 n2.toNat = 1 ∨ zgv (zwo ws) 121 n2.toNat = 2 ∨ zgv (zwo ws) 121 n2.toNat = 3 ∨ zgv (zwo ws) 121 n2.toNat = 4 ∨ zgv (zwo ws) 121 n2.toNat = 5 := by omega
  rcases h5 with h5 | h5 | h5 | h5 | h5 | h5
  · exact Or.inl ⟨trivial, ⟨fun x hx0 hx => by have hv := zgv_some hx; omega, trivial⟩, trivial⟩
  · exact Or.inr (Or.inl ⟨trivial, ⟨fun x hx0 hx => by have hv := zgv_some hx; omega, trivial⟩, trivial⟩)
  · by_cases hq : zgv (zwo ws) 124 n2.toNat = 1
    · exact Or.inr (Or.inr (Or.inl ⟨trivial, ⟨fun x hx0 hx => by have hv := zgv_some hx; omega, fun x hx0 hx => by have hv := zgv_some hx; omega, fun x hx0 hx => by have hv := zgv_some hx; omega, trivial⟩, trivial⟩))
    · exact Or.inr (Or.inr (Or.inr (Or.inr (Or.inr (Or.inr (Or.inl ⟨trivial, ⟨fun x hx0 hx => by have hv := zgv_some hx; omega, fun x hx0 hx => by have hv := zgv_some hx; omega, fun x hx0 hx => by have hv := zgv_some hx; omega, trivial⟩, trivial⟩))))))
  · by_cases hq : zgv (zwo ws) 124 n2.toNat = 1
    · exact Or.inr (Or.inr (Or.inr (Or.inl ⟨trivial, ⟨fun x hx0 hx => by have hv := zgv_some hx; omega, fun x hx0 hx => by have hv := zgv_some hx; omega, fun x hx0 hx => by have hv := zgv_some hx; omega, trivial⟩, trivial⟩)))
    · exact Or.inr (Or.inr (Or.inr (Or.inr (Or.inr (Or.inr (Or.inr (Or.inl ⟨trivial, ⟨fun x hx0 hx => by have hv := zgv_some hx; omega, fun x hx0 hx => by have hv := zgv_some hx; omega, fun x hx0 hx => by have hv := zgv_some hx; omega, trivial⟩, trivial⟩)))))))
  · by_cases hq : zgv (zwo ws) 124 n2.toNat = 1
    · exact Or.inr (Or.inr (Or.inr (Or.inr (Or.inl ⟨trivial, ⟨fun x hx0 hx => by have hv := zgv_some hx; omega, fun x hx0 hx => by have hv := zgv_some hx; omega, fun x hx0 hx => by have hv := zgv_some hx; omega, trivial⟩, trivial⟩))))
    · exact Or.inr (Or.inr (Or.inr (Or.inr (Or.inr (Or.inr (Or.inr (Or.inr (Or.inl ⟨trivial, ⟨fun x hx0 hx => by have hv := zgv_some hx; omega, fun x hx0 hx => by have hv := zgv_some hx; omega, fun x hx0 hx => by have hv := zgv_some hx; omega, trivial⟩, trivial⟩))))))))
  · exact Or.inr (Or.inr (Or.inr (Or.inr (Or.inr (Or.inl ⟨trivial, ⟨fun x hx0 hx => by have hv := zgv_some hx; omega, fun x hx0 hx => by have hv := zgv_some hx; omega, fun x hx0 hx => by have hv := zgv_some hx; omega, trivial⟩, trivial⟩)))))
theorem zrn_1 (g : yG) : zRuN (zJf g) zru_1 := by
  intro ws z w hj n2 s2 l0 u0
  replace hj : zj0 (zwo ws) := hj.resolve_left (by decide)
  clear s2
  replace l0 : (0 : Int) ≤ n2 := l0
  replace u0 : n2 ≤ (15 : Int) := u0
  show ((True) ∧ ((∀ x, 0 ≤ (n2 + (0 : Int)) → zwo ws 121 (n2 + (0 : Int)).toNat = some x → (0 : Int) ≤ x ∧ x ≤ (0 : Int)) ∧ True) ∧ (True)) ∨ ((True) ∧ ((∀ x, 0 ≤ (n2 + (0 : Int)) → zwo ws 121 (n2 + (0 : Int)).toNat = some x → (1 : Int) ≤ x ∧ x ≤ (1 : Int)) ∧ True) ∧ (True)) ∨ ((True) ∧ ((∀ x, 0 ≤ (n2 + (0 : Int)) → zwo ws 121 (n2 + (0 : Int)).toNat = some x → (2 : Int) ≤ x ∧ x ≤ (2 : Int)) ∧ (∀ x, 0 ≤ (n2 + (0 : Int)) → zwo ws 124 (n2 + (0 : Int)).toNat = some x → (1 : Int) ≤ x ∧ x ≤ (1 : Int)) ∧ (∀ x, 0 ≤ (n2 + (0 : Int)) → zwo ws 120 (n2 + (0 : Int)).toNat = some x → (0 : Int) ≤ x ∧ x ≤ (18 : Int)) ∧ True) ∧ (True)) ∨ ((True) ∧ ((∀ x, 0 ≤ (n2 + (0 : Int)) → zwo ws 121 (n2 + (0 : Int)).toNat = some x → (3 : Int) ≤ x ∧ x ≤ (3 : Int)) ∧ (∀ x, 0 ≤ (n2 + (0 : Int)) → zwo ws 124 (n2 + (0 : Int)).toNat = some x → (1 : Int) ≤ x ∧ x ≤ (1 : Int)) ∧ (∀ x, 0 ≤ (n2 + (0 : Int)) → zwo ws 120 (n2 + (0 : Int)).toNat = some x → (0 : Int) ≤ x ∧ x ≤ (17 : Int)) ∧ True) ∧ (True)) ∨ ((True) ∧ ((∀ x, 0 ≤ (n2 + (0 : Int)) → zwo ws 121 (n2 + (0 : Int)).toNat = some x → (4 : Int) ≤ x ∧ x ≤ (4 : Int)) ∧ (∀ x, 0 ≤ (n2 + (0 : Int)) → zwo ws 124 (n2 + (0 : Int)).toNat = some x → (1 : Int) ≤ x ∧ x ≤ (1 : Int)) ∧ (∀ x, 0 ≤ (n2 + (0 : Int)) → zwo ws 120 (n2 + (0 : Int)).toNat = some x → (0 : Int) ≤ x ∧ x ≤ (16 : Int)) ∧ True) ∧ (True)) ∨ ((True) ∧ ((∀ x, 0 ≤ (n2 + (0 : Int)) → zwo ws 121 (n2 + (0 : Int)).toNat = some x → (5 : Int) ≤ x ∧ x ≤ (5 : Int)) ∧ (∀ x, 0 ≤ (n2 + (0 : Int)) → zwo ws 124 (n2 + (0 : Int)).toNat = some x → (1 : Int) ≤ x ∧ x ≤ (1 : Int)) ∧ (∀ x, 0 ≤ (n2 + (0 : Int)) → zwo ws 120 (n2 + (0 : Int)).toNat = some x → (0 : Int) ≤ x ∧ x ≤ (15 : Int)) ∧ True) ∧ (True)) ∨ ((True) ∧ ((∀ x, 0 ≤ (n2 + (0 : Int)) → zwo ws 121 (n2 + (0 : Int)).toNat = some x → (2 : Int) ≤ x ∧ x ≤ (2 : Int)) ∧ (∀ x, 0 ≤ (n2 + (0 : Int)) → zwo ws 124 (n2 + (0 : Int)).toNat = some x → (0 : Int) ≤ x ∧ x ≤ (0 : Int)) ∧ (∀ x, 0 ≤ (n2 + (0 : Int)) → zwo ws 120 (n2 + (0 : Int)).toNat = some x → (0 : Int) ≤ x ∧ x ≤ (14 : Int)) ∧ True) ∧ (True)) ∨ ((True) ∧ ((∀ x, 0 ≤ (n2 + (0 : Int)) → zwo ws 121 (n2 + (0 : Int)).toNat = some x → (3 : Int) ≤ x ∧ x ≤ (3 : Int)) ∧ (∀ x, 0 ≤ (n2 + (0 : Int)) → zwo ws 124 (n2 + (0 : Int)).toNat = some x → (0 : Int) ≤ x ∧ x ≤ (0 : Int)) ∧ (∀ x, 0 ≤ (n2 + (0 : Int)) → zwo ws 120 (n2 + (0 : Int)).toNat = some x → (0 : Int) ≤ x ∧ x ≤ (9 : Int)) ∧ True) ∧ (True)) ∨ ((True) ∧ ((∀ x, 0 ≤ (n2 + (0 : Int)) → zwo ws 121 (n2 + (0 : Int)).toNat = some x → (4 : Int) ≤ x ∧ x ≤ (4 : Int)) ∧ (∀ x, 0 ≤ (n2 + (0 : Int)) → zwo ws 124 (n2 + (0 : Int)).toNat = some x → (0 : Int) ≤ x ∧ x ≤ (0 : Int)) ∧ (∀ x, 0 ≤ (n2 + (0 : Int)) → zwo ws 120 (n2 + (0 : Int)).toNat = some x → (0 : Int) ≤ x ∧ x ≤ (4 : Int)) ∧ True) ∧ (True)) ∨ False
  try simp only [Int.add_zero, Int.zero_add] at *
  have h := hj n2.toNat (by omega)
  unfold zj_geo at h
  have h5 : zgv (zwo ws) 121 n2.toNat = 0 ∨ zgv (zwo ws) 121 n2.toNat = 1 ∨ zgv (zwo ws) 121 n2.toNat = 2 ∨ zgv (zwo ws) 121 n2.toNat = 3 ∨ zgv (zwo ws) 121 n2.toNat = 4 ∨ zgv (zwo ws) 121 n2.toNat = 5 := by omega
  rcases h5 with h5 | h5 | h5 | h5 | h5 | h5
  · exact Or.inl ⟨trivial, ⟨fun x hx0 hx => by have hv := zgv_some hx; omega, trivial⟩, trivial⟩
  · exact Or.inr (Or.inl ⟨trivial, ⟨fun x hx0 hx => by have hv := zgv_some hx; omega, trivial⟩, trivial⟩)
  · by_cases hq : zgv (zwo ws) 124 n2.toNat = 1
    · exact Or.inr (Or.inr (Or.inl ⟨trivial, ⟨fun x hx0 hx => by have hv := zgv_some hx; omega, fun x hx0 hx => by have hv := zgv_some hx; omega, fun x hx0 hx => by have hv := zgv_some hx; omega, trivial⟩, trivial⟩))
    · exact Or.inr (Or.inr (Or.inr (Or.inr (Or.inr (Or.inr (Or.inl ⟨trivial, ⟨fun x hx0 hx => by have hv := zgv_some hx; omega, fun x hx0 hx => by have hv := zgv_some hx; omega, fun x hx0 hx => by have hv := zgv_some hx; omega, trivial⟩, trivial⟩))))))
  · by_cases hq : zgv (zwo ws) 124 n2.toNat = 1
    · exact Or.inr (Or.inr (Or.inr (Or.inl ⟨trivial, ⟨fun x hx0 hx => by have hv := zgv_some hx; omega, fun x hx0 hx => by have hv := zgv_some hx; omega, fun x hx0 hx => by have hv := zgv_some hx; omega, trivial⟩, trivial⟩)))
    · exact Or.inr (Or.inr (Or.inr (Or.inr (Or.inr (Or.inr (Or.inr (Or.inl ⟨trivial, ⟨fun x hx0 hx => by have hv := zgv_some hx; omega, fun x hx0 hx => by have hv := zgv_some hx; omega, fun x hx0 hx => by have hv := zgv_some hx; omega, trivial⟩, trivial⟩)))))))
  · by_cases hq : zgv (zwo ws) 124 n2.toNat = 1
    · exact Or.inr (Or.inr (Or.inr (Or.inr (Or.inl ⟨trivial, ⟨fun x hx0 hx => by have hv := zgv_some hx; omega, fun x hx0 hx => by have hv := zgv_some hx; omega, fun x hx0 hx => by have hv := zgv_some hx; omega, trivial⟩, trivial⟩))))
    · exact Or.inr (Or.inr (Or.inr (Or.inr (Or.inr (Or.inr (Or.inr (Or.inr (Or.inl ⟨trivial, ⟨fun x hx0 hx => by have hv := zgv_some hx; omega, fun x hx0 hx => by have hv := zgv_some hx; omega, fun x hx0 hx => by have hv := zgv_some hx; omega, trivial⟩, trivial⟩))))))))
  · exact Or.inr (Or.inr (Or.inr (Or.inr (Or.inr (Or.inl ⟨trivial, ⟨fun x hx0 hx => by have hv := zgv_some hx; omega, fun x hx0 hx => by have hv := zgv_some hx; omega, fun x hx0 hx => by have hv := zgv_some hx; omega, trivial⟩, trivial⟩)))))
theorem zrn_2 (g : yG) : zRuN (zJf g) zru_2 := by
  intro ws z w hj n2 s2 l0 u0
  replace hj : zj0 (zwo ws) := hj.resolve_left (by decide)
  clear s2
  replace l0 : (0 : Int) ≤ n2 := l0
  replace u0 : n2 ≤ (15 : Int) := u0
  show ((True) ∧ ((∀ x, 0 ≤ (n2 + (0 : Int)) → zwo ws 121 (n2 + (0 : Int)).toNat = some x → (0 : Int) ≤ x ∧ x ≤ (0 : Int)) ∧ True) ∧ (True)) ∨ ((True) ∧ ((∀ x, 0 ≤ (n2 + (0 : Int)) → zwo ws 121 (n2 + (0 : Int)).toNat = some x → (1 : Int) ≤ x ∧ x ≤ (1 : Int)) ∧ True) ∧ (True)) ∨ ((True) ∧ ((∀ x, 0 ≤ (n2 + (0 : Int)) → zwo ws 121 (n2 + (0 : Int)).toNat = some x → (2 : Int) ≤ x ∧ x ≤ (2 : Int)) ∧ (∀ x, 0 ≤ (n2 + (0 : Int)) → zwo ws 124 (n2 + (0 : Int)).toNat = some x → (1 : Int) ≤ x ∧ x ≤ (1 : Int)) ∧ (∀ x, 0 ≤ (n2 + (0 : Int)) → zwo ws 120 (n2 + (0 : Int)).toNat = some x → (0 : Int) ≤ x ∧ x ≤ (18 : Int)) ∧ True) ∧ (True)) ∨ ((True) ∧ ((∀ x, 0 ≤ (n2 + (0 : Int)) → zwo ws 121 (n2 + (0 : Int)).toNat = some x → (3 : Int) ≤ x ∧ x ≤ (3 : Int)) ∧ (∀ x, 0 ≤ (n2 + (0 : Int)) → zwo ws 124 (n2 + (0 : Int)).toNat = some x → (1 : Int) ≤ x ∧ x ≤ (1 : Int)) ∧ (∀ x, 0 ≤ (n2 + (0 : Int)) → zwo ws 120 (n2 + (0 : Int)).toNat = some x → (0 : Int) ≤ x ∧ x ≤ (17 : Int)) ∧ True) ∧ (True)) ∨ ((True) ∧ ((∀ x, 0 ≤ (n2 + (0 : Int)) → zwo ws 121 (n2 + (0 : Int)).toNat = some x → (4 : Int) ≤ x ∧ x ≤ (4 : Int)) ∧ (∀ x, 0 ≤ (n2 + (0 : Int)) → zwo ws 124 (n2 + (0 : Int)).toNat = some x → (1 : Int) ≤ x ∧ x ≤ (1 : Int)) ∧ (∀ x, 0 ≤ (n2 + (0 : Int)) → zwo ws 120 (n2 + (0 : Int)).toNat = some x → (0 : Int) ≤ x ∧ x ≤ (16 : Int)) ∧ True) ∧ (True)) ∨ ((True) ∧ ((∀ x, 0 ≤ (n2 + (0 : Int)) → zwo ws 121 (n2 + (0 : Int)).toNat = some x → (5 : Int) ≤ x ∧ x ≤ (5 : Int)) ∧ (∀ x, 0 ≤ (n2 + (0 : Int)) → zwo ws 124 (n2 + (0 : Int)).toNat = some x → (1 : Int) ≤ x ∧ x ≤ (1 : Int)) ∧ (∀ x, 0 ≤ (n2 + (0 : Int)) → zwo ws 120 (n2 + (0 : Int)).toNat = some x → (0 : Int) ≤ x ∧ x ≤ (15 : Int)) ∧ True) ∧ (True)) ∨ ((True) ∧ ((∀ x, 0 ≤ (n2 + (0 : Int)) → zwo ws 121 (n2 + (0 : Int)).toNat = some x → (2 : Int) ≤ x ∧ x ≤ (2 : Int)) ∧ (∀ x, 0 ≤ (n2 + (0 : Int)) → zwo ws 124 (n2 + (0 : Int)).toNat = some x → (0 : Int) ≤ x ∧ x ≤ (0 : Int)) ∧ (∀ x, 0 ≤ (n2 + (0 : Int)) → zwo ws 120 (n2 + (0 : Int)).toNat = some x → (0 : Int) ≤ x ∧ x ≤ (14 : Int)) ∧ True) ∧ (True)) ∨ ((True) ∧ ((∀ x, 0 ≤ (n2 + (0 : Int)) → zwo ws 121 (n2 + (0 : Int)).toNat = some x → (3 : Int) ≤ x ∧ x ≤ (3 : Int)) ∧ (∀ x, 0 ≤ (n2 + (0 : Int)) → zwo ws 124 (n2 + (0 : Int)).toNat = some x → (0 : Int) ≤ x ∧ x ≤ (0 : Int)) ∧ (∀ x, 0 ≤ (n2 + (0 : Int)) → zwo ws 120 (n2 + (0 : Int)).toNat = some x → (0 : Int) ≤ x ∧ x ≤ (9 : Int)) ∧ True) ∧ (True)) ∨ ((True) ∧ ((∀ x, 0 ≤ (n2 + (0 : Int)) → zwo ws 121 (n2 + (0 : Int)).toNat = some x → (4 : Int) ≤ x ∧ x ≤ (4 : Int)) ∧ (∀ x, 0 ≤ (n2 + (0 : Int)) → zwo ws 124 (n2 + (0 : Int)).toNat = some x → (0 : Int) ≤ x ∧ x ≤ (0 : Int)) ∧ (∀ x, 0 ≤ (n2 + (0 : Int)) → zwo ws 120 (n2 + (0 : Int)).toNat = some x → (0 : Int) ≤ x ∧ x ≤ (4 : Int)) ∧ True) ∧ (True)) ∨ False
  try simp only [Int.add_zero, Int.zero_add] at *
  have h := hj n2.toNat (by omega)
  unfold zj_geo at h
  have h5 : zgv (zwo ws) 121 n2.toNat = 0 ∨ zgv (zwo ws) 121 n2.toNat = 1 ∨ zgv (zwo ws) 121 n2.toNat = 2 ∨ zgv (zwo ws) 121 n2.toNat = 3 ∨ zgv (zwo ws) 121 n2.toNat = 4 ∨ zgv (zwo ws) 121 n2.toNat = 5 := by omega
  rcases h5 with h5 | h5 | h5 | h5 | h5 | h5
  · exact Or.inl ⟨trivial, ⟨fun x hx0 hx => by have hv := zgv_some hx; omega, trivial⟩, trivial⟩
  · exact Or.inr (Or.inl ⟨trivial, ⟨fun x hx0 hx => by have hv := zgv_some hx; omega, trivial⟩, trivial⟩)
  · by_cases hq : zgv (zwo ws) 124 n2.toNat = 1
    · exact Or.inr (Or.inr (Or.inl ⟨trivial, ⟨fun x hx0 hx => by have hv := zgv_some hx; omega, fun x hx0 hx => by have hv := zgv_some hx; omega, fun x hx0 hx => by have hv := zgv_some hx; omega, trivial⟩, trivial⟩))
    · exact Or.inr (Or.inr (Or.inr (Or.inr (Or.inr (Or.inr (Or.inl ⟨trivial, ⟨fun x hx0 hx => by have hv := zgv_some hx; omega, fun x hx0 hx => by have hv := zgv_some hx; omega, fun x hx0 hx => by have hv := zgv_some hx; omega, trivial⟩, trivial⟩))))))
  · by_cases hq : zgv (zwo ws) 124 n2.toNat = 1
    · exact Or.inr (Or.inr (Or.inr (Or.inl ⟨trivial, ⟨fun x hx0 hx => by have hv := zgv_some hx; omega, fun x hx0 hx => by have hv := zgv_some hx; omega, fun x hx0 hx => by have hv := zgv_some hx; omega, trivial⟩, trivial⟩)))
    · exact Or.inr (Or.inr (Or.inr (Or.inr (Or.inr (Or.inr (Or.inr (Or.inl ⟨trivial, ⟨fun x hx0 hx => by have hv := zgv_some hx; omega, fun x hx0 hx => by have hv := zgv_some hx; omega, fun x hx0 hx => by have hv := zgv_some hx; omega, trivial⟩, trivial⟩)))))))
  · by_cases hq : zgv (zwo ws) 124 n2.toNat = 1
    · exact Or.inr (Or.inr (Or.inr (Or.inr (Or.inl ⟨trivial, ⟨fun x hx0 hx => by have hv := zgv_some hx; omega, fun x hx0 hx => by have hv := zgv_some hx; omega, fun x hx0 hx => by have hv := zgv_some hx; omega, trivial⟩, trivial⟩))))
    · exact Or.inr (Or.inr (Or.inr (Or.inr (Or.inr (Or.inr (Or.inr (Or.inr (Or.inl ⟨trivial, ⟨fun x hx0 hx => by have hv := zgv_some hx; omega, fun x hx0 hx => by have hv := zgv_some hx; omega, fun x hx0 hx => by have hv := zgv_some hx; omega, trivial⟩, trivial⟩))))))))
  · exact Or.inr (Or.inr (Or.inr (Or.inr (Or.inr (Or.inl ⟨trivial, ⟨fun x hx0 hx => by have hv := zgv_some hx; omega, fun x hx0 hx => by have hv := zgv_some hx; omega, fun x hx0 hx => by have hv := zgv_some hx; omega, trivial⟩, trivial⟩)))))
theorem zrn_3 (g : yG) : zRuN (zJf g) zru_3 := by
  intro ws z w hj n2 s2 n3 s3 l0 u0
  replace hj : zj5 (zwo ws) := hj.resolve_left (by decide)
  replace s2 : zwo ws 88 12 = some n2 := s2
  replace s3 : zwo ws 88 39 = some n3 := s3
  replace l0 : (1 : Int) ≤ n2 := l0
  replace u0 : n2 ≤ (40 : Int) := u0
  show ((((0 : Int) ≤ n3 ∧ n3 ≤ (39 : Int)) ∧ True) ∧ (True) ∧ (((n2 + (0 : Int)) + (n3 + (0 : Int)) ≤ 40) ∧ True)) ∨ False
  try simp only [Int.add_zero, Int.zero_add] at *
  have a := zgv_some s2
  have b := zgv_some s3
  unfold zj5 at hj
  exact Or.inl ⟨⟨⟨by omega, by omega⟩, trivial⟩, trivial, ⟨by omega, trivial⟩⟩
theorem zrn_4 (g : yG) : zRuN (zJf g) zru_4 := by
  intro ws z w hj n2 s2 n3 s3 l0 u0
  replace hj : zj5 (zwo ws) := hj.resolve_left (by decide)
  replace s2 : zwo ws 88 12 = some n2 := s2
  replace s3 : zwo ws 88 39 = some n3 := s3
  replace l0 : (1 : Int) ≤ n3 := l0
  replace u0 : n3 ≤ (40 : Int) := u0
  show ((((0 : Int) ≤ n2 ∧ n2 ≤ (39 : Int)) ∧ True) ∧ (True) ∧ (((n2 + (0 : Int)) + (n3 + (0 : Int)) ≤ 40) ∧ True)) ∨ False
  try simp only [Int.add_zero, Int.zero_add] at *
  have a := zgv_some s2
  have b := zgv_some s3
  unfold zj5 at hj
  exact Or.inl ⟨⟨⟨by omega, by omega⟩, trivial⟩, trivial, ⟨by omega, trivial⟩⟩
theorem zrn_5 (g : yG) : zRuN (zJf g) zru_5 := by
  intro ws z w hj n2 s2 n3 s3 n4 s4 l0 u0 l1 u1 g0 g1
  replace hj : (z + w ≤ 40) := hj.resolve_left (by decide)
  replace s2 : zwo ws 88 12 = some n2 := s2
  replace s3 : zwo ws 88 39 = some n3 := s3
  replace s4 : n4 = (0 : Int) := s4
  replace l0 : (0 : Int) ≤ n2 := l0
  replace u0 : n2 ≤ (40 : Int) := u0
  replace l1 : (0 : Int) ≤ n3 := l1
  replace u1 : n3 ≤ (40 : Int) := u1
  replace g0 : n2 + (1 : Int) ≤ z := g0
  replace g1 : n3 + (-1 : Int) ≤ w := g1
  show ((True) ∧ (True) ∧ (zj5 (zwo ws) ∧ True)) ∨ False
  try simp only [Int.add_zero, Int.zero_add] at *
  have a := zgv_some s2
  have b := zgv_some s3
  refine Or.inl ⟨trivial, trivial, ⟨?_, trivial⟩⟩
  unfold zj5
  omega
theorem zrn_6 (g : yG) : zRuN (zJf g) zru_6 := by
  intro ws z w hj n2 s2 n3 s3 n4 s4 l0 u0 l1 u1 g0 g1
  replace hj : (z + w ≤ 40) := hj.resolve_left (by decide)
  replace s2 : zwo ws 88 12 = some n2 := s2
  replace s3 : zwo ws 88 39 = some n3 := s3
  replace s4 : n4 = (0 : Int) := s4
  replace l0 : (0 : Int) ≤ n2 := l0
  replace u0 : n2 ≤ (40 : Int) := u0
  replace l1 : (0 : Int) ≤ n3 := l1
  replace u1 : n3 ≤ (40 : Int) := u1
  replace g0 : n2 + (-1 : Int) ≤ z := g0
  replace g1 : n3 + (1 : Int) ≤ w := g1
  show ((True) ∧ (True) ∧ (zj5 (zwo ws) ∧ True)) ∨ False
  try simp only [Int.add_zero, Int.zero_add] at *
  have a := zgv_some s2
  have b := zgv_some s3
  refine Or.inl ⟨trivial, trivial, ⟨?_, trivial⟩⟩
  unfold zj5
  omega
theorem zrn_7 (g : yG) : zRuN (zJf g) zru_7 := by
  intro ws z w hj n2 s2 n3 s3 n4 s4 l0 u0 l1 u1
  clear hj
  replace s2 : zwo ws 88 12 = some n2 := s2
  replace s3 : zwo ws 88 39 = some n3 := s3
  replace s4 : n4 = (0 : Int) := s4
  replace l0 : (0 : Int) ≤ n2 := l0
  replace u0 : n2 ≤ (40 : Int) := u0
  replace l1 : (0 : Int) ≤ n3 := l1
  replace u1 : n3 ≤ (0 : Int) := u1
  show ((True) ∧ (True) ∧ (zj5 (zwo ws) ∧ True)) ∨ False
  try simp only [Int.add_zero, Int.zero_add] at *
  have a := zgv_some s2
  have b := zgv_some s3
  refine Or.inl ⟨trivial, trivial, ⟨?_, trivial⟩⟩
  unfold zj5
  omega
theorem zrn_8 (g : yG) : zRuN (zJf g) zru_8 := by
  intro ws z w hj n2 s2 n3 s3 n4 s4 l0 u0 l1 u1 l2 u2 x0 o0 p0 v0 t0
  replace hj : zj1 (zwo ws) := hj.resolve_left (by decide)
  clear s2
  clear s3
  replace s4 : zwo ws 88 4 = some n4 := s4
  replace l0 : (0 : Int) ≤ n2 := l0
  replace u0 : n2 ≤ (15 : Int) := u0
  replace l1 : (0 : Int) ≤ n3 := l1
  replace u1 : n3 ≤ (15 : Int) := u1
  replace l2 : (0 : Int) ≤ n4 := l2
  replace u2 : n4 ≤ (1 : Int) := u2
  replace o0 : 0 ≤ (n3 + (0 : Int)) := o0
  replace p0 : zwo ws 121 (n3 + (0 : Int)).toNat = some x0 := p0
  replace v0 : (0 : Int) ≤ x0 := v0
  replace t0 : x0 ≤ (5 : Int) := t0
  try simp only [Int.add_zero, Int.zero_add] at *
  have hb := zgv_some s4
  have e5 := zgv_some p0
  have hbb : n4 = 0 ∨ n4 = 1 := by omega
  have h5 : x0 = 0 ∨ x0 = 1 ∨ x0 = 2 ∨ x0 = 3 ∨ x0 = 4 ∨ x0 = 5 := by omega
  rcases hbb with hbb | hbb
  · have hm : zgv (zwo ws) 101 n2.toNat < 0 ∨ zgv (zwo ws) 101 n2.toNat = 0 ∨ zgv (zwo ws) 101 n2.toNat = 1 ∨ zgv (zwo ws) 101 n2.toNat = 2 ∨ zgv (zwo ws) 101 n2.toNat = 3 ∨ zgv (zwo ws) 101 n2.toNat = 4 ∨ zgv (zwo ws) 101 n2.toNat = 5 ∨ 6 ≤ zgv (zwo ws) 101 n2.toNat := by omega
    rcases h5 with h5 | h5 | h5 | h5 | h5 | h5
    · rcases hm with hm | hm | hm | hm | hm | hm | hm | hm
      · refine zoA_mem (a := ([(4, .ofNat 0, .ofNat 0)], [(121, 3, .ofNat 0, .ofNat 0, .ofNat 0), (101, 2, .ofNat 0, .negSucc 2147483647, .negSucc 0)], [])) (by decide) ?_
        show ((((0 : Int) ≤ n4 ∧ n4 ≤ (0 : Int)) ∧ True) ∧ ((∀ x, 0 ≤ (n3 + (0 : Int)) → zwo ws 121 (n3 + (0 : Int)).toNat = some x → (0 : Int) ≤ x ∧ x ≤ (0 : Int)) ∧ (∀ x, 0 ≤ (n2 + (0 : Int)) → zwo ws 101 (n2 + (0 : Int)).toNat = some x → (-2147483648 : Int) ≤ x ∧ x ≤ (-1 : Int)) ∧ True) ∧ (True))
        simp only [Int.add_zero]
        exact ⟨⟨⟨by omega, by omega⟩, trivial⟩, ⟨fun x hx0 hx => by have hv := zgv_some hx; omega, fun x hx0 hx => by have hv := zgv_some hx; have hr := zwo_rng hx; omega, trivial⟩, trivial⟩
      · refine zoA_mem (a := ([(4, .ofNat 0, .ofNat 0)], [(121, 3, .ofNat 0, .ofNat 0, .ofNat 0), (101, 2, .ofNat 0, .ofNat 0, .ofNat 0)], [(1007, 2, .ofNat 0, 3, .ofNat 0)])) (by decide) ?_
        show ((((0 : Int) ≤ n4 ∧ n4 ≤ (0 : Int)) ∧ True) ∧ ((∀ x, 0 ≤ (n3 + (0 : Int)) → zwo ws 121 (n3 + (0 : Int)).toNat = some x → (0 : Int) ≤ x ∧ x ≤ (0 : Int)) ∧ (∀ x, 0 ≤ (n2 + (0 : Int)) → zwo ws 101 (n2 + (0 : Int)).toNat = some x → (0 : Int) ≤ x ∧ x ≤ (0 : Int)) ∧ True) ∧ (zj7 (n2 + (0 : Int)) (n3 + (0 : Int)) (zwo ws) ∧ True))
        simp only [Int.add_zero]
        exact ⟨⟨⟨by omega, by omega⟩, trivial⟩, ⟨fun x hx0 hx => by have hv := zgv_some hx; omega, fun x hx0 hx => by have hv := zgv_some hx; have hr := zwo_rng hx; omega, trivial⟩, ⟨⟨n2.toNat, n3.toNat, by omega, by omega, by omega, by omega, fun b hb2 hk => by
          have eb : b = 0 := by omega
          subst eb
          have e7 : zgv (zwo ws) 101 (16 * 0 + n2.toNat) = zgv (zwo ws) 121 n3.toNat := by
            rw [show 16 * 0 + n2.toNat = n2.toNat by omega]
            omega
          exact ⟨e7, fun hn k hk5 hl => hj 0 hb2 hk n2.toNat (by omega) hn k hk5 (by rw [e7]; exact hl)⟩⟩, trivial⟩⟩
      · refine zoA_mem (a := ([(4, .ofNat 0, .ofNat 0)], [(121, 3, .ofNat 0, .ofNat 0, .ofNat 0), (101, 2, .ofNat 0, .ofNat 1, .ofNat 1)], [])) (by decide) ?_
        show ((((0 : Int) ≤ n4 ∧ n4 ≤ (0 : Int)) ∧ True) ∧ ((∀ x, 0 ≤ (n3 + (0 : Int)) → zwo ws 121 (n3 + (0 : Int)).toNat = some x → (0 : Int) ≤ x ∧ x ≤ (0 : Int)) ∧ (∀ x, 0 ≤ (n2 + (0 : Int)) → zwo ws 101 (n2 + (0 : Int)).toNat = some x → (1 : Int) ≤ x ∧ x ≤ (1 : Int)) ∧ True) ∧ (True))
        simp only [Int.add_zero]
        exact ⟨⟨⟨by omega, by omega⟩, trivial⟩, ⟨fun x hx0 hx => by have hv := zgv_some hx; omega, fun x hx0 hx => by have hv := zgv_some hx; have hr := zwo_rng hx; omega, trivial⟩, trivial⟩
      · refine zoA_mem (a := ([(4, .ofNat 0, .ofNat 0)], [(121, 3, .ofNat 0, .ofNat 0, .ofNat 0), (101, 2, .ofNat 0, .ofNat 2, .ofNat 2)], [])) (by decide) ?_
        show ((((0 : Int) ≤ n4 ∧ n4 ≤ (0 : Int)) ∧ True) ∧ ((∀ x, 0 ≤ (n3 + (0 : Int)) → zwo ws 121 (n3 + (0 : Int)).toNat = some x → (0 : Int) ≤ x ∧ x ≤ (0 : Int)) ∧ (∀ x, 0 ≤ (n2 + (0 : Int)) → zwo ws 101 (n2 + (0 : Int)).toNat = some x → (2 : Int) ≤ x ∧ x ≤ (2 : Int)) ∧ True) ∧ (True))
        simp only [Int.add_zero]
        exact ⟨⟨⟨by omega, by omega⟩, trivial⟩, ⟨fun x hx0 hx => by have hv := zgv_some hx; omega, fun x hx0 hx => by have hv := zgv_some hx; have hr := zwo_rng hx; omega, trivial⟩, trivial⟩
      · refine zoA_mem (a := ([(4, .ofNat 0, .ofNat 0)], [(121, 3, .ofNat 0, .ofNat 0, .ofNat 0), (101, 2, .ofNat 0, .ofNat 3, .ofNat 3)], [])) (by decide) ?_
        show ((((0 : Int) ≤ n4 ∧ n4 ≤ (0 : Int)) ∧ True) ∧ ((∀ x, 0 ≤ (n3 + (0 : Int)) → zwo ws 121 (n3 + (0 : Int)).toNat = some x → (0 : Int) ≤ x ∧ x ≤ (0 : Int)) ∧ (∀ x, 0 ≤ (n2 + (0 : Int)) → zwo ws 101 (n2 + (0 : Int)).toNat = some x → (3 : Int) ≤ x ∧ x ≤ (3 : Int)) ∧ True) ∧ (True))
        simp only [Int.add_zero]
        exact ⟨⟨⟨by omega, by omega⟩, trivial⟩, ⟨fun x hx0 hx => by have hv := zgv_some hx; omega, fun x hx0 hx => by have hv := zgv_some hx; have hr := zwo_rng hx; omega, trivial⟩, trivial⟩
      · refine zoA_mem (a := ([(4, .ofNat 0, .ofNat 0)], [(121, 3, .ofNat 0, .ofNat 0, .ofNat 0), (101, 2, .ofNat 0, .ofNat 4, .ofNat 4)], [])) (by decide) ?_
        show ((((0 : Int) ≤ n4 ∧ n4 ≤ (0 : Int)) ∧ True) ∧ ((∀ x, 0 ≤ (n3 + (0 : Int)) → zwo ws 121 (n3 + (0 : Int)).toNat = some x → (0 : Int) ≤ x ∧ x ≤ (0 : Int)) ∧ (∀ x, 0 ≤ (n2 + (0 : Int)) → zwo ws 101 (n2 + (0 : Int)).toNat = some x → (4 : Int) ≤ x ∧ x ≤ (4 : Int)) ∧ True) ∧ (True))
        simp only [Int.add_zero]
        exact ⟨⟨⟨by omega, by omega⟩, trivial⟩, ⟨fun x hx0 hx => by have hv := zgv_some hx; omega, fun x hx0 hx => by have hv := zgv_some hx; have hr := zwo_rng hx; omega, trivial⟩, trivial⟩
      · refine zoA_mem (a := ([(4, .ofNat 0, .ofNat 0)], [(121, 3, .ofNat 0, .ofNat 0, .ofNat 0), (101, 2, .ofNat 0, .ofNat 5, .ofNat 5)], [])) (by decide) ?_
        show ((((0 : Int) ≤ n4 ∧ n4 ≤ (0 : Int)) ∧ True) ∧ ((∀ x, 0 ≤ (n3 + (0 : Int)) → zwo ws 121 (n3 + (0 : Int)).toNat = some x → (0 : Int) ≤ x ∧ x ≤ (0 : Int)) ∧ (∀ x, 0 ≤ (n2 + (0 : Int)) → zwo ws 101 (n2 + (0 : Int)).toNat = some x → (5 : Int) ≤ x ∧ x ≤ (5 : Int)) ∧ True) ∧ (True))
        simp only [Int.add_zero]
        exact ⟨⟨⟨by omega, by omega⟩, trivial⟩, ⟨fun x hx0 hx => by have hv := zgv_some hx; omega, fun x hx0 hx => by have hv := zgv_some hx; have hr := zwo_rng hx; omega, trivial⟩, trivial⟩
      · refine zoA_mem (a := ([(4, .ofNat 0, .ofNat 0)], [(121, 3, .ofNat 0, .ofNat 0, .ofNat 0), (101, 2, .ofNat 0, .ofNat 6, .ofNat 2147483647)], [])) (by decide) ?_
        show ((((0 : Int) ≤ n4 ∧ n4 ≤ (0 : Int)) ∧ True) ∧ ((∀ x, 0 ≤ (n3 + (0 : Int)) → zwo ws 121 (n3 + (0 : Int)).toNat = some x → (0 : Int) ≤ x ∧ x ≤ (0 : Int)) ∧ (∀ x, 0 ≤ (n2 + (0 : Int)) → zwo ws 101 (n2 + (0 : Int)).toNat = some x → (6 : Int) ≤ x ∧ x ≤ (2147483647 : Int)) ∧ True) ∧ (True))
        simp only [Int.add_zero]
        exact ⟨⟨⟨by omega, by omega⟩, trivial⟩, ⟨fun x hx0 hx => by have hv := zgv_some hx; omega, fun x hx0 hx => by have hv := zgv_some hx; have hr := zwo_rng hx; omega, trivial⟩, trivial⟩
    · rcases hm with hm | hm | hm | hm | hm | hm | hm | hm
      · refine zoA_mem (a := ([(4, .ofNat 0, .ofNat 0)], [(121, 3, .ofNat 0, .ofNat 1, .ofNat 1), (101, 2, .ofNat 0, .negSucc 2147483647, .negSucc 0)], [])) (by decide) ?_
        show ((((0 : Int) ≤ n4 ∧ n4 ≤ (0 : Int)) ∧ True) ∧ ((∀ x, 0 ≤ (n3 + (0 : Int)) → zwo ws 121 (n3 + (0 : Int)).toNat = some x → (1 : Int) ≤ x ∧ x ≤ (1 : Int)) ∧ (∀ x, 0 ≤ (n2 + (0 : Int)) → zwo ws 101 (n2 + (0 : Int)).toNat = some x → (-2147483648 : Int) ≤ x ∧ x ≤ (-1 : Int)) ∧ True) ∧ (True))
        simp only [Int.add_zero]
        exact ⟨⟨⟨by omega, by omega⟩, trivial⟩, ⟨fun x hx0 hx => by have hv := zgv_some hx; omega, fun x hx0 hx => by have hv := zgv_some hx; have hr := zwo_rng hx; omega, trivial⟩, trivial⟩
      · refine zoA_mem (a := ([(4, .ofNat 0, .ofNat 0)], [(121, 3, .ofNat 0, .ofNat 1, .ofNat 1), (101, 2, .ofNat 0, .ofNat 0, .ofNat 0)], [])) (by decide) ?_
        show ((((0 : Int) ≤ n4 ∧ n4 ≤ (0 : Int)) ∧ True) ∧ ((∀ x, 0 ≤ (n3 + (0 : Int)) → zwo ws 121 (n3 + (0 : Int)).toNat = some x → (1 : Int) ≤ x ∧ x ≤ (1 : Int)) ∧ (∀ x, 0 ≤ (n2 + (0 : Int)) → zwo ws 101 (n2 + (0 : Int)).toNat = some x → (0 : Int) ≤ x ∧ x ≤ (0 : Int)) ∧ True) ∧ (True))
        simp only [Int.add_zero]
        exact ⟨⟨⟨by omega, by omega⟩, trivial⟩, ⟨fun x hx0 hx => by have hv := zgv_some hx; omega, fun x hx0 hx => by have hv := zgv_some hx; have hr := zwo_rng hx; omega, trivial⟩, trivial⟩
      · refine zoA_mem (a := ([(4, .ofNat 0, .ofNat 0)], [(121, 3, .ofNat 0, .ofNat 1, .ofNat 1), (101, 2, .ofNat 0, .ofNat 1, .ofNat 1)], [(1007, 2, .ofNat 0, 3, .ofNat 0)])) (by decide) ?_
        show ((((0 : Int) ≤ n4 ∧ n4 ≤ (0 : Int)) ∧ True) ∧ ((∀ x, 0 ≤ (n3 + (0 : Int)) → zwo ws 121 (n3 + (0 : Int)).toNat = some x → (1 : Int) ≤ x ∧ x ≤ (1 : Int)) ∧ (∀ x, 0 ≤ (n2 + (0 : Int)) → zwo ws 101 (n2 + (0 : Int)).toNat = some x → (1 : Int) ≤ x ∧ x ≤ (1 : Int)) ∧ True) ∧ (zj7 (n2 + (0 : Int)) (n3 + (0 : Int)) (zwo ws) ∧ True))
        simp only [Int.add_zero]
        exact ⟨⟨⟨by omega, by omega⟩, trivial⟩, ⟨fun x hx0 hx => by have hv := zgv_some hx; omega, fun x hx0 hx => by have hv := zgv_some hx; have hr := zwo_rng hx; omega, trivial⟩, ⟨⟨n2.toNat, n3.toNat, by omega, by omega, by omega, by omega, fun b hb2 hk => by
          have eb : b = 0 := by omega
          subst eb
          have e7 : zgv (zwo ws) 101 (16 * 0 + n2.toNat) = zgv (zwo ws) 121 n3.toNat := by
            rw [show 16 * 0 + n2.toNat = n2.toNat by omega]
            omega
          exact ⟨e7, fun hn k hk5 hl => hj 0 hb2 hk n2.toNat (by omega) hn k hk5 (by rw [e7]; exact hl)⟩⟩, trivial⟩⟩
      · refine zoA_mem (a := ([(4, .ofNat 0, .ofNat 0)], [(121, 3, .ofNat 0, .ofNat 1, .ofNat 1), (101, 2, .ofNat 0, .ofNat 2, .ofNat 2)], [])) (by decide) ?_
        show ((((0 : Int) ≤ n4 ∧ n4 ≤ (0 : Int)) ∧ True) ∧ ((∀ x, 0 ≤ (n3 + (0 : Int)) → zwo ws 121 (n3 + (0 : Int)).toNat = some x → (1 : Int) ≤ x ∧ x ≤ (1 : Int)) ∧ (∀ x, 0 ≤ (n2 + (0 : Int)) → zwo ws 101 (n2 + (0 : Int)).toNat = some x → (2 : Int) ≤ x ∧ x ≤ (2 : Int)) ∧ True) ∧ (True))
        simp only [Int.add_zero]
        exact ⟨⟨⟨by omega, by omega⟩, trivial⟩, ⟨fun x hx0 hx => by have hv := zgv_some hx; omega, fun x hx0 hx => by have hv := zgv_some hx; have hr := zwo_rng hx; omega, trivial⟩, trivial⟩
      · refine zoA_mem (a := ([(4, .ofNat 0, .ofNat 0)], [(121, 3, .ofNat 0, .ofNat 1, .ofNat 1), (101, 2, .ofNat 0, .ofNat 3, .ofNat 3)], [])) (by decide) ?_
        show ((((0 : Int) ≤ n4 ∧ n4 ≤ (0 : Int)) ∧ True) ∧ ((∀ x, 0 ≤ (n3 + (0 : Int)) → zwo ws 121 (n3 + (0 : Int)).toNat = some x → (1 : Int) ≤ x ∧ x ≤ (1 : Int)) ∧ (∀ x, 0 ≤ (n2 + (0 : Int)) → zwo ws 101 (n2 + (0 : Int)).toNat = some x → (3 : Int) ≤ x ∧ x ≤ (3 : Int)) ∧ True) ∧ (True))
        simp only [Int.add_zero]
        exact ⟨⟨⟨by omega, by omega⟩, trivial⟩, ⟨fun x hx0 hx => by have hv := zgv_some hx; omega, fun x hx0 hx => by have hv := zgv_some hx; have hr := zwo_rng hx; omega, trivial⟩, trivial⟩
      · refine zoA_mem (a := ([(4, .ofNat 0, .ofNat 0)], [(121, 3, .ofNat 0, .ofNat 1, .ofNat 1), (101, 2, .ofNat 0, .ofNat 4, .ofNat 4)], [])) (by decide) ?_
        show ((((0 : Int) ≤ n4 ∧ n4 ≤ (0 : Int)) ∧ True) ∧ ((∀ x, 0 ≤ (n3 + (0 : Int)) → zwo ws 121 (n3 + (0 : Int)).toNat = some x → (1 : Int) ≤ x ∧ x ≤ (1 : Int)) ∧ (∀ x, 0 ≤ (n2 + (0 : Int)) → zwo ws 101 (n2 + (0 : Int)).toNat = some x → (4 : Int) ≤ x ∧ x ≤ (4 : Int)) ∧ True) ∧ (True))
        simp only [Int.add_zero]
        exact ⟨⟨⟨by omega, by omega⟩, trivial⟩, ⟨fun x hx0 hx => by have hv := zgv_some hx; omega, fun x hx0 hx => by have hv := zgv_some hx; have hr := zwo_rng hx; omega, trivial⟩, trivial⟩
      · refine zoA_mem (a := ([(4, .ofNat 0, .ofNat 0)], [(121, 3, .ofNat 0, .ofNat 1, .ofNat 1), (101, 2, .ofNat 0, .ofNat 5, .ofNat 5)], [])) (by decide) ?_
        show ((((0 : Int) ≤ n4 ∧ n4 ≤ (0 : Int)) ∧ True) ∧ ((∀ x, 0 ≤ (n3 + (0 : Int)) → zwo ws 121 (n3 + (0 : Int)).toNat = some x → (1 : Int) ≤ x ∧ x ≤ (1 : Int)) ∧ (∀ x, 0 ≤ (n2 + (0 : Int)) → zwo ws 101 (n2 + (0 : Int)).toNat = some x → (5 : Int) ≤ x ∧ x ≤ (5 : Int)) ∧ True) ∧ (True))
        simp only [Int.add_zero]
        exact ⟨⟨⟨by omega, by omega⟩, trivial⟩, ⟨fun x hx0 hx => by have hv := zgv_some hx; omega, fun x hx0 hx => by have hv := zgv_some hx; have hr := zwo_rng hx; omega, trivial⟩, trivial⟩
      · refine zoA_mem (a := ([(4, .ofNat 0, .ofNat 0)], [(121, 3, .ofNat 0, .ofNat 1, .ofNat 1), (101, 2, .ofNat 0, .ofNat 6, .ofNat 2147483647)], [])) (by decide) ?_
        show ((((0 : Int) ≤ n4 ∧ n4 ≤ (0 : Int)) ∧ True) ∧ ((∀ x, 0 ≤ (n3 + (0 : Int)) → zwo ws 121 (n3 + (0 : Int)).toNat = some x → (1 : Int) ≤ x ∧ x ≤ (1 : Int)) ∧ (∀ x, 0 ≤ (n2 + (0 : Int)) → zwo ws 101 (n2 + (0 : Int)).toNat = some x → (6 : Int) ≤ x ∧ x ≤ (2147483647 : Int)) ∧ True) ∧ (True))
        simp only [Int.add_zero]
        exact ⟨⟨⟨by omega, by omega⟩, trivial⟩, ⟨fun x hx0 hx => by have hv := zgv_some hx; omega, fun x hx0 hx => by have hv := zgv_some hx; have hr := zwo_rng hx; omega, trivial⟩, trivial⟩
    · rcases hm with hm | hm | hm | hm | hm | hm | hm | hm
      · refine zoA_mem (a := ([(4, .ofNat 0, .ofNat 0)], [(121, 3, .ofNat 0, .ofNat 2, .ofNat 2), (101, 2, .ofNat 0, .negSucc 2147483647, .negSucc 0)], [])) (by decide) ?_
        show ((((0 : Int) ≤ n4 ∧ n4 ≤ (0 : Int)) ∧ True) ∧ ((∀ x, 0 ≤ (n3 + (0 : Int)) → zwo ws 121 (n3 + (0 : Int)).toNat = some x → (2 : Int) ≤ x ∧ x ≤ (2 : Int)) ∧ (∀ x, 0 ≤ (n2 + (0 : Int)) → zwo ws 101 (n2 + (0 : Int)).toNat = some x → (-2147483648 : Int) ≤ x ∧ x ≤ (-1 : Int)) ∧ True) ∧ (True))
        simp only [Int.add_zero]
        exact ⟨⟨⟨by omega, by omega⟩, trivial⟩, ⟨fun x hx0 hx => by have hv := zgv_some hx; omega, fun x hx0 hx => by have hv := zgv_some hx; have hr := zwo_rng hx; omega, trivial⟩, trivial⟩
      · refine zoA_mem (a := ([(4, .ofNat 0, .ofNat 0)], [(121, 3, .ofNat 0, .ofNat 2, .ofNat 2), (101, 2, .ofNat 0, .ofNat 0, .ofNat 0)], [])) (by decide) ?_
        show ((((0 : Int) ≤ n4 ∧ n4 ≤ (0 : Int)) ∧ True) ∧ ((∀ x, 0 ≤ (n3 + (0 : Int)) → zwo ws 121 (n3 + (0 : Int)).toNat = some x → (2 : Int) ≤ x ∧ x ≤ (2 : Int)) ∧ (∀ x, 0 ≤ (n2 + (0 : Int)) → zwo ws 101 (n2 + (0 : Int)).toNat = some x → (0 : Int) ≤ x ∧ x ≤ (0 : Int)) ∧ True) ∧ (True))
        simp only [Int.add_zero]
        exact ⟨⟨⟨by omega, by omega⟩, trivial⟩, ⟨fun x hx0 hx => by have hv := zgv_some hx; omega, fun x hx0 hx => by have hv := zgv_some hx; have hr := zwo_rng hx; omega, trivial⟩, trivial⟩
      · refine zoA_mem (a := ([(4, .ofNat 0, .ofNat 0)], [(121, 3, .ofNat 0, .ofNat 2, .ofNat 2), (101, 2, .ofNat 0, .ofNat 1, .ofNat 1)], [])) (by decide) ?_
        show ((((0 : Int) ≤ n4 ∧ n4 ≤ (0 : Int)) ∧ True) ∧ ((∀ x, 0 ≤ (n3 + (0 : Int)) → zwo ws 121 (n3 + (0 : Int)).toNat = some x → (2 : Int) ≤ x ∧ x ≤ (2 : Int)) ∧ (∀ x, 0 ≤ (n2 + (0 : Int)) → zwo ws 101 (n2 + (0 : Int)).toNat = some x → (1 : Int) ≤ x ∧ x ≤ (1 : Int)) ∧ True) ∧ (True))
        simp only [Int.add_zero]
        exact ⟨⟨⟨by omega, by omega⟩, trivial⟩, ⟨fun x hx0 hx => by have hv := zgv_some hx; omega, fun x hx0 hx => by have hv := zgv_some hx; have hr := zwo_rng hx; omega, trivial⟩, trivial⟩
      · refine zoA_mem (a := ([(4, .ofNat 0, .ofNat 0)], [(121, 3, .ofNat 0, .ofNat 2, .ofNat 2), (101, 2, .ofNat 0, .ofNat 2, .ofNat 2)], [(1007, 2, .ofNat 0, 3, .ofNat 0)])) (by decide) ?_
        show ((((0 : Int) ≤ n4 ∧ n4 ≤ (0 : Int)) ∧ True) ∧ ((∀ x, 0 ≤ (n3 + (0 : Int)) → zwo ws 121 (n3 + (0 : Int)).toNat = some x → (2 : Int) ≤ x ∧ x ≤ (2 : Int)) ∧ (∀ x, 0 ≤ (n2 + (0 : Int)) → zwo ws 101 (n2 + (0 : Int)).toNat = some x → (2 : Int) ≤ x ∧ x ≤ (2 : Int)) ∧ True) ∧ (zj7 (n2 + (0 : Int)) (n3 + (0 : Int)) (zwo ws) ∧ True))
        simp only [Int.add_zero]
        exact ⟨⟨⟨by omega, by omega⟩, trivial⟩, ⟨fun x hx0 hx => by have hv := zgv_some hx; omega, fun x hx0 hx => by have hv := zgv_some hx; have hr := zwo_rng hx; omega, trivial⟩, ⟨⟨n2.toNat, n3.toNat, by omega, by omega, by omega, by omega, fun b hb2 hk => by
          have eb : b = 0 := by omega
          subst eb
          have e7 : zgv (zwo ws) 101 (16 * 0 + n2.toNat) = zgv (zwo ws) 121 n3.toNat := by
            rw [show 16 * 0 + n2.toNat = n2.toNat by omega]
            omega
          exact ⟨e7, fun hn k hk5 hl => hj 0 hb2 hk n2.toNat (by omega) hn k hk5 (by rw [e7]; exact hl)⟩⟩, trivial⟩⟩
      · refine zoA_mem (a := ([(4, .ofNat 0, .ofNat 0)], [(121, 3, .ofNat 0, .ofNat 2, .ofNat 2), (101, 2, .ofNat 0, .ofNat 3, .ofNat 3)], [])) (by decide) ?_
        show ((((0 : Int) ≤ n4 ∧ n4 ≤ (0 : Int)) ∧ True) ∧ ((∀ x, 0 ≤ (n3 + (0 : Int)) → zwo ws 121 (n3 + (0 : Int)).toNat = some x → (2 : Int) ≤ x ∧ x ≤ (2 : Int)) ∧ (∀ x, 0 ≤ (n2 + (0 : Int)) → zwo ws 101 (n2 + (0 : Int)).toNat = some x → (3 : Int) ≤ x ∧ x ≤ (3 : Int)) ∧ True) ∧ (True))
        simp only [Int.add_zero]
        exact ⟨⟨⟨by omega, by omega⟩, trivial⟩, ⟨fun x hx0 hx => by have hv := zgv_some hx; omega, fun x hx0 hx => by have hv := zgv_some hx; have hr := zwo_rng hx; omega, trivial⟩, trivial⟩
      · refine zoA_mem (a := ([(4, .ofNat 0, .ofNat 0)], [(121, 3, .ofNat 0, .ofNat 2, .ofNat 2), (101, 2, .ofNat 0, .ofNat 4, .ofNat 4)], [])) (by decide) ?_
        show ((((0 : Int) ≤ n4 ∧ n4 ≤ (0 : Int)) ∧ True) ∧ ((∀ x, 0 ≤ (n3 + (0 : Int)) → zwo ws 121 (n3 + (0 : Int)).toNat = some x → (2 : Int) ≤ x ∧ x ≤ (2 : Int)) ∧ (∀ x, 0 ≤ (n2 + (0 : Int)) → zwo ws 101 (n2 + (0 : Int)).toNat = some x → (4 : Int) ≤ x ∧ x ≤ (4 : Int)) ∧ True) ∧ (True))
        simp only [Int.add_zero]
        exact ⟨⟨⟨by omega, by omega⟩, trivial⟩, ⟨fun x hx0 hx => by have hv := zgv_some hx; omega, fun x hx0 hx => by have hv := zgv_some hx; have hr := zwo_rng hx; omega, trivial⟩, trivial⟩
      · refine zoA_mem (a := ([(4, .ofNat 0, .ofNat 0)], [(121, 3, .ofNat 0, .ofNat 2, .ofNat 2), (101, 2, .ofNat 0, .ofNat 5, .ofNat 5)], [])) (by decide) ?_
        show ((((0 : Int) ≤ n4 ∧ n4 ≤ (0 : Int)) ∧ True) ∧ ((∀ x, 0 ≤ (n3 + (0 : Int)) → zwo ws 121 (n3 + (0 : Int)).toNat = some x → (2 : Int) ≤ x ∧ x ≤ (2 : Int)) ∧ (∀ x, 0 ≤ (n2 + (0 : Int)) → zwo ws 101 (n2 + (0 : Int)).toNat = some x → (5 : Int) ≤ x ∧ x ≤ (5 : Int)) ∧ True) ∧ (True))
        simp only [Int.add_zero]
        exact ⟨⟨⟨by omega, by omega⟩, trivial⟩, ⟨fun x hx0 hx => by have hv := zgv_some hx; omega, fun x hx0 hx => by have hv := zgv_some hx; have hr := zwo_rng hx; omega, trivial⟩, trivial⟩
      · refine zoA_mem (a := ([(4, .ofNat 0, .ofNat 0)], [(121, 3, .ofNat 0, .ofNat 2, .ofNat 2), (101, 2, .ofNat 0, .ofNat 6, .ofNat 2147483647)], [])) (by decide) ?_
        show ((((0 : Int) ≤ n4 ∧ n4 ≤ (0 : Int)) ∧ True) ∧ ((∀ x, 0 ≤ (n3 + (0 : Int)) → zwo ws 121 (n3 + (0 : Int)).toNat = some x → (2 : Int) ≤ x ∧ x ≤ (2 : Int)) ∧ (∀ x, 0 ≤ (n2 + (0 : Int)) → zwo ws 101 (n2 + (0 : Int)).toNat = some x → (6 : Int) ≤ x ∧ x ≤ (2147483647 : Int)) ∧ True) ∧ (True))
        simp only [Int.add_zero]
        exact ⟨⟨⟨by omega, by omega⟩, trivial⟩, ⟨fun x hx0 hx => by have hv := zgv_some hx; omega, fun x hx0 hx => by have hv := zgv_some hx; have hr := zwo_rng hx; omega, trivial⟩, trivial⟩
    · rcases hm with hm | hm | hm | hm | hm | hm | hm | hm
      · refine zoA_mem (a := ([(4, .ofNat 0, .ofNat 0)], [(121, 3, .ofNat 0, .ofNat 3, .ofNat 3), (101, 2, .ofNat 0, .negSucc 2147483647, .negSucc 0)], [])) (by decide) ?_
        show ((((0 : Int) ≤ n4 ∧ n4 ≤ (0 : Int)) ∧ True) ∧ ((∀ x, 0 ≤ (n3 + (0 : Int)) → zwo ws 121 (n3 + (0 : Int)).toNat = some x → (3 : Int) ≤ x ∧ x ≤ (3 : Int)) ∧ (∀ x, 0 ≤ (n2 + (0 : Int)) → zwo ws 101 (n2 + (0 : Int)).toNat = some x → (-2147483648 : Int) ≤ x ∧ x ≤ (-1 : Int)) ∧ True) ∧ (True))
        simp only [Int.add_zero]
        exact ⟨⟨⟨by omega, by omega⟩, trivial⟩, ⟨fun x hx0 hx => by have hv := zgv_some hx; omega, fun x hx0 hx => by have hv := zgv_some hx; have hr := zwo_rng hx; omega, trivial⟩, trivial⟩
      · refine zoA_mem (a := ([(4, .ofNat 0, .ofNat 0)], [(121, 3, .ofNat 0, .ofNat 3, .ofNat 3), (101, 2, .ofNat 0, .ofNat 0, .ofNat 0)], [])) (by decide) ?_
        show ((((0 : Int) ≤ n4 ∧ n4 ≤ (0 : Int)) ∧ True) ∧ ((∀ x, 0 ≤ (n3 + (0 : Int)) → zwo ws 121 (n3 + (0 : Int)).toNat = some x → (3 : Int) ≤ x ∧ x ≤ (3 : Int)) ∧ (∀ x, 0 ≤ (n2 + (0 : Int)) → zwo ws 101 (n2 + (0 : Int)).toNat = some x → (0 : Int) ≤ x ∧ x ≤ (0 : Int)) ∧ True) ∧ (True))
        simp only [Int.add_zero]
        exact ⟨⟨⟨by omega, by omega⟩, trivial⟩, ⟨fun x hx0 hx => by have hv := zgv_some hx; omega, fun x hx0 hx => by have hv := zgv_some hx; have hr := zwo_rng hx; omega, trivial⟩, trivial⟩
      · refine zoA_mem (a := ([(4, .ofNat 0, .ofNat 0)], [(121, 3, .ofNat 0, .ofNat 3, .ofNat 3), (101, 2, .ofNat 0, .ofNat 1, .ofNat 1)], [])) (by decide) ?_
        show ((((0 : Int) ≤ n4 ∧ n4 ≤ (0 : Int)) ∧ True) ∧ ((∀ x, 0 ≤ (n3 + (0 : Int)) → zwo ws 121 (n3 + (0 : Int)).toNat = some x → (3 : Int) ≤ x ∧ x ≤ (3 : Int)) ∧ (∀ x, 0 ≤ (n2 + (0 : Int)) → zwo ws 101 (n2 + (0 : Int)).toNat = some x → (1 : Int) ≤ x ∧ x ≤ (1 : Int)) ∧ True) ∧ (True))
        simp only [Int.add_zero]
        exact ⟨⟨⟨by omega, by omega⟩, trivial⟩, ⟨fun x hx0 hx => by have hv := zgv_some hx; omega, fun x hx0 hx => by have hv := zgv_some hx; have hr := zwo_rng hx; omega, trivial⟩, trivial⟩
      · refine zoA_mem (a := ([(4, .ofNat 0, .ofNat 0)], [(121, 3, .ofNat 0, .ofNat 3, .ofNat 3), (101, 2, .ofNat 0, .ofNat 2, .ofNat 2)], [])) (by decide) ?_
        show ((((0 : Int) ≤ n4 ∧ n4 ≤ (0 : Int)) ∧ True) ∧ ((∀ x, 0 ≤ (n3 + (0 : Int)) → zwo ws 121 (n3 + (0 : Int)).toNat = some x → (3 : Int) ≤ x ∧ x ≤ (3 : Int)) ∧ (∀ x, 0 ≤ (n2 + (0 : Int)) → zwo ws 101 (n2 + (0 : Int)).toNat = some x → (2 : Int) ≤ x ∧ x ≤ (2 : Int)) ∧ True) ∧ (True))
        simp only [Int.add_zero]
        exact ⟨⟨⟨by omega, by omega⟩, trivial⟩, ⟨fun x hx0 hx => by have hv := zgv_some hx; omega, fun x hx0 hx => by have hv := zgv_some hx; have hr := zwo_rng hx; omega, trivial⟩, trivial⟩
      · refine zoA_mem (a := ([(4, .ofNat 0, .ofNat 0)], [(121, 3, .ofNat 0, .ofNat 3, .ofNat 3), (101, 2, .ofNat 0, .ofNat 3, .ofNat 3)], [(1007, 2, .ofNat 0, 3, .ofNat 0)])) (by decide) ?_
        show ((((0 : Int) ≤ n4 ∧ n4 ≤ (0 : Int)) ∧ True) ∧ ((∀ x, 0 ≤ (n3 + (0 : Int)) → zwo ws 121 (n3 + (0 : Int)).toNat = some x → (3 : Int) ≤ x ∧ x ≤ (3 : Int)) ∧ (∀ x, 0 ≤ (n2 + (0 : Int)) → zwo ws 101 (n2 + (0 : Int)).toNat = some x → (3 : Int) ≤ x ∧ x ≤ (3 : Int)) ∧ True) ∧ (zj7 (n2 + (0 : Int)) (n3 + (0 : Int)) (zwo ws) ∧ True))
        simp only [Int.add_zero]
        exact ⟨⟨⟨by omega, by omega⟩, trivial⟩, ⟨fun x hx0 hx => by have hv := zgv_some hx; omega, fun x hx0 hx => by have hv := zgv_some hx; have hr := zwo_rng hx; omega, trivial⟩, ⟨⟨n2.toNat, n3.toNat, by omega, by omega, by omega, by omega, fun b hb2 hk => by
          have eb : b = 0 := by omega
          subst eb
          have e7 : zgv (zwo ws) 101 (16 * 0 + n2.toNat) = zgv (zwo ws) 121 n3.toNat := by
            rw [show 16 * 0 + n2.toNat = n2.toNat by omega]
            omega
          exact ⟨e7, fun hn k hk5 hl => hj 0 hb2 hk n2.toNat (by omega) hn k hk5 (by rw [e7]; exact hl)⟩⟩, trivial⟩⟩
      · refine zoA_mem (a := ([(4, .ofNat 0, .ofNat 0)], [(121, 3, .ofNat 0, .ofNat 3, .ofNat 3), (101, 2, .ofNat 0, .ofNat 4, .ofNat 4)], [])) (by decide) ?_
        show ((((0 : Int) ≤ n4 ∧ n4 ≤ (0 : Int)) ∧ True) ∧ ((∀ x, 0 ≤ (n3 + (0 : Int)) → zwo ws 121 (n3 + (0 : Int)).toNat = some x → (3 : Int) ≤ x ∧ x ≤ (3 : Int)) ∧ (∀ x, 0 ≤ (n2 + (0 : Int)) → zwo ws 101 (n2 + (0 : Int)).toNat = some x → (4 : Int) ≤ x ∧ x ≤ (4 : Int)) ∧ True) ∧ (True))
        simp only [Int.add_zero]
        exact ⟨⟨⟨by omega, by omega⟩, trivial⟩, ⟨fun x hx0 hx => by have hv := zgv_some hx; omega, fun x hx0 hx => by have hv := zgv_some hx; have hr := zwo_rng hx; omega, trivial⟩, trivial⟩
      · refine zoA_mem (a := ([(4, .ofNat 0, .ofNat 0)], [(121, 3, .ofNat 0, .ofNat 3, .ofNat 3), (101, 2, .ofNat 0, .ofNat 5, .ofNat 5)], [])) (by decide) ?_
        show ((((0 : Int) ≤ n4 ∧ n4 ≤ (0 : Int)) ∧ True) ∧ ((∀ x, 0 ≤ (n3 + (0 : Int)) → zwo ws 121 (n3 + (0 : Int)).toNat = some x → (3 : Int) ≤ x ∧ x ≤ (3 : Int)) ∧ (∀ x, 0 ≤ (n2 + (0 : Int)) → zwo ws 101 (n2 + (0 : Int)).toNat = some x → (5 : Int) ≤ x ∧ x ≤ (5 : Int)) ∧ True) ∧ (True))
        simp only [Int.add_zero]
        exact ⟨⟨⟨by omega, by omega⟩, trivial⟩, ⟨fun x hx0 hx => by have hv := zgv_some hx; omega, fun x hx0 hx => by have hv := zgv_some hx; have hr := zwo_rng hx; omega, trivial⟩, trivial⟩
      · refine zoA_mem (a := ([(4, .ofNat 0, .ofNat 0)], [(121, 3, .ofNat 0, .ofNat 3, .ofNat 3), (101, 2, .ofNat 0, .ofNat 6, .ofNat 2147483647)], [])) (by decide) ?_
        show ((((0 : Int) ≤ n4 ∧ n4 ≤ (0 : Int)) ∧ True) ∧ ((∀ x, 0 ≤ (n3 + (0 : Int)) → zwo ws 121 (n3 + (0 : Int)).toNat = some x → (3 : Int) ≤ x ∧ x ≤ (3 : Int)) ∧ (∀ x, 0 ≤ (n2 + (0 : Int)) → zwo ws 101 (n2 + (0 : Int)).toNat = some x → (6 : Int) ≤ x ∧ x ≤ (2147483647 : Int)) ∧ True) ∧ (True))
        simp only [Int.add_zero]
        exact ⟨⟨⟨by omega, by omega⟩, trivial⟩, ⟨fun x hx0 hx => by have hv := zgv_some hx; omega, fun x hx0 hx => by have hv := zgv_some hx; have hr := zwo_rng hx; omega, trivial⟩, trivial⟩
    · rcases hm with hm | hm | hm | hm | hm | hm | hm | hm
      · refine zoA_mem (a := ([(4, .ofNat 0, .ofNat 0)], [(121, 3, .ofNat 0, .ofNat 4, .ofNat 4), (101, 2, .ofNat 0, .negSucc 2147483647, .negSucc 0)], [])) (by decide) ?_
        show ((((0 : Int) ≤ n4 ∧ n4 ≤ (0 : Int)) ∧ True) ∧ ((∀ x, 0 ≤ (n3 + (0 : Int)) → zwo ws 121 (n3 + (0 : Int)).toNat = some x → (4 : Int) ≤ x ∧ x ≤ (4 : Int)) ∧ (∀ x, 0 ≤ (n2 + (0 : Int)) → zwo ws 101 (n2 + (0 : Int)).toNat = some x → (-2147483648 : Int) ≤ x ∧ x ≤ (-1 : Int)) ∧ True) ∧ (True))
        simp only [Int.add_zero]
        exact ⟨⟨⟨by omega, by omega⟩, trivial⟩, ⟨fun x hx0 hx => by have hv := zgv_some hx; omega, fun x hx0 hx => by have hv := zgv_some hx; have hr := zwo_rng hx; omega, trivial⟩, trivial⟩
      · refine zoA_mem (a := ([(4, .ofNat 0, .ofNat 0)], [(121, 3, .ofNat 0, .ofNat 4, .ofNat 4), (101, 2, .ofNat 0, .ofNat 0, .ofNat 0)], [])) (by decide) ?_
        show ((((0 : Int) ≤ n4 ∧ n4 ≤ (0 : Int)) ∧ True) ∧ ((∀ x, 0 ≤ (n3 + (0 : Int)) → zwo ws 121 (n3 + (0 : Int)).toNat = some x → (4 : Int) ≤ x ∧ x ≤ (4 : Int)) ∧ (∀ x, 0 ≤ (n2 + (0 : Int)) → zwo ws 101 (n2 + (0 : Int)).toNat = some x → (0 : Int) ≤ x ∧ x ≤ (0 : Int)) ∧ True) ∧ (True))
        simp only [Int.add_zero]
        exact ⟨⟨⟨by omega, by omega⟩, trivial⟩, ⟨fun x hx0 hx => by have hv := zgv_some hx; omega, fun x hx0 hx => by have hv := zgv_some hx; have hr := zwo_rng hx; omega, trivial⟩, trivial⟩
      · refine zoA_mem (a := ([(4, .ofNat 0, .ofNat 0)], [(121, 3, .ofNat 0, .ofNat 4, .ofNat 4), (101, 2, .ofNat 0, .ofNat 1, .ofNat 1)], [])) (by decide) ?_
        show ((((0 : Int) ≤ n4 ∧ n4 ≤ (0 : Int)) ∧ True) ∧ ((∀ x, 0 ≤ (n3 + (0 : Int)) → zwo ws 121 (n3 + (0 : Int)).toNat = some x → (4 : Int) ≤ x ∧ x ≤ (4 : Int)) ∧ (∀ x, 0 ≤ (n2 + (0 : Int)) → zwo ws 101 (n2 + (0 : Int)).toNat = some x → (1 : Int) ≤ x ∧ x ≤ (1 : Int)) ∧ True) ∧ (True))
        simp only [Int.add_zero]
        exact ⟨⟨⟨by omega, by omega⟩, trivial⟩, ⟨fun x hx0 hx => by have hv := zgv_some hx; omega, fun x hx0 hx => by have hv := zgv_some hx; have hr := zwo_rng hx; omega, trivial⟩, trivial⟩
      · refine zoA_mem (a := ([(4, .ofNat 0, .ofNat 0)], [(121, 3, .ofNat 0, .ofNat 4, .ofNat 4), (101, 2, .ofNat 0, .ofNat 2, .ofNat 2)], [])) (by decide) ?_
        show ((((0 : Int) ≤ n4 ∧ n4 ≤ (0 : Int)) ∧ True) ∧ ((∀ x, 0 ≤ (n3 + (0 : Int)) → zwo ws 121 (n3 + (0 : Int)).toNat = some x → (4 : Int) ≤ x ∧ x ≤ (4 : Int)) ∧ (∀ x, 0 ≤ (n2 + (0 : Int)) → zwo ws 101 (n2 + (0 : Int)).toNat = some x → (2 : Int) ≤ x ∧ x ≤ (2 : Int)) ∧ True) ∧ (True))
        simp only [Int.add_zero]
        exact ⟨⟨⟨by omega, by omega⟩, trivial⟩, ⟨fun x hx0 hx => by have hv := zgv_some hx; omega, fun x hx0 hx => by have hv := zgv_some hx; have hr := zwo_rng hx; omega, trivial⟩, trivial⟩
      · refine zoA_mem (a := ([(4, .ofNat 0, .ofNat 0)], [(121, 3, .ofNat 0, .ofNat 4, .ofNat 4), (101, 2, .ofNat 0, .ofNat 3, .ofNat 3)], [])) (by decide) ?_
        show ((((0 : Int) ≤ n4 ∧ n4 ≤ (0 : Int)) ∧ True) ∧ ((∀ x, 0 ≤ (n3 + (0 : Int)) → zwo ws 121 (n3 + (0 : Int)).toNat = some x → (4 : Int) ≤ x ∧ x ≤ (4 : Int)) ∧ (∀ x, 0 ≤ (n2 + (0 : Int)) → zwo ws 101 (n2 + (0 : Int)).toNat = some x → (3 : Int) ≤ x ∧ x ≤ (3 : Int)) ∧ True) ∧ (True))
        simp only [Int.add_zero]
        exact ⟨⟨⟨by omega, by omega⟩, trivial⟩, ⟨fun x hx0 hx => by have hv := zgv_some hx; omega, fun x hx0 hx => by have hv := zgv_some hx; have hr := zwo_rng hx; omega, trivial⟩, trivial⟩
      · refine zoA_mem (a := ([(4, .ofNat 0, .ofNat 0)], [(121, 3, .ofNat 0, .ofNat 4, .ofNat 4), (101, 2, .ofNat 0, .ofNat 4, .ofNat 4)], [(1007, 2, .ofNat 0, 3, .ofNat 0)])) (by decide) ?_
        show ((((0 : Int) ≤ n4 ∧ n4 ≤ (0 : Int)) ∧ True) ∧ ((∀ x, 0 ≤ (n3 + (0 : Int)) → zwo ws 121 (n3 + (0 : Int)).toNat = some x → (4 : Int) ≤ x ∧ x ≤ (4 : Int)) ∧ (∀ x, 0 ≤ (n2 + (0 : Int)) → zwo ws 101 (n2 + (0 : Int)).toNat = some x → (4 : Int) ≤ x ∧ x ≤ (4 : Int)) ∧ True) ∧ (zj7 (n2 + (0 : Int)) (n3 + (0 : Int)) (zwo ws) ∧ True))
        simp only [Int.add_zero]
        exact ⟨⟨⟨by omega, by omega⟩, trivial⟩, ⟨fun x hx0 hx => by have hv := zgv_some hx; omega, fun x hx0 hx => by have hv := zgv_some hx; have hr := zwo_rng hx; omega, trivial⟩, ⟨⟨n2.toNat, n3.toNat, by omega, by omega, by omega, by omega, fun b hb2 hk => by
          have eb : b = 0 := by omega
          subst eb
          have e7 : zgv (zwo ws) 101 (16 * 0 + n2.toNat) = zgv (zwo ws) 121 n3.toNat := by
            rw [show 16 * 0 + n2.toNat = n2.toNat by omega]
            omega
          exact ⟨e7, fun hn k hk5 hl => hj 0 hb2 hk n2.toNat (by omega) hn k hk5 (by rw [e7]; exact hl)⟩⟩, trivial⟩⟩
      · refine zoA_mem (a := ([(4, .ofNat 0, .ofNat 0)], [(121, 3, .ofNat 0, .ofNat 4, .ofNat 4), (101, 2, .ofNat 0, .ofNat 5, .ofNat 5)], [])) (by decide) ?_
        show ((((0 : Int) ≤ n4 ∧ n4 ≤ (0 : Int)) ∧ True) ∧ ((∀ x, 0 ≤ (n3 + (0 : Int)) → zwo ws 121 (n3 + (0 : Int)).toNat = some x → (4 : Int) ≤ x ∧ x ≤ (4 : Int)) ∧ (∀ x, 0 ≤ (n2 + (0 : Int)) → zwo ws 101 (n2 + (0 : Int)).toNat = some x → (5 : Int) ≤ x ∧ x ≤ (5 : Int)) ∧ True) ∧ (True))
        simp only [Int.add_zero]
        exact ⟨⟨⟨by omega, by omega⟩, trivial⟩, ⟨fun x hx0 hx => by have hv := zgv_some hx; omega, fun x hx0 hx => by have hv := zgv_some hx; have hr := zwo_rng hx; omega, trivial⟩, trivial⟩
      · refine zoA_mem (a := ([(4, .ofNat 0, .ofNat 0)], [(121, 3, .ofNat 0, .ofNat 4, .ofNat 4), (101, 2, .ofNat 0, .ofNat 6, .ofNat 2147483647)], [])) (by decide) ?_
        show ((((0 : Int) ≤ n4 ∧ n4 ≤ (0 : Int)) ∧ True) ∧ ((∀ x, 0 ≤ (n3 + (0 : Int)) → zwo ws 121 (n3 + (0 : Int)).toNat = some x → (4 : Int) ≤ x ∧ x ≤ (4 : Int)) ∧ (∀ x, 0 ≤ (n2 + (0 : Int)) → zwo ws 101 (n2 + (0 : Int)).toNat = some x → (6 : Int) ≤ x ∧ x ≤ (2147483647 : Int)) ∧ True) ∧ (True))
        simp only [Int.add_zero]
        exact ⟨⟨⟨by omega, by omega⟩, trivial⟩, ⟨fun x hx0 hx => by have hv := zgv_some hx; omega, fun x hx0 hx => by have hv := zgv_some hx; have hr := zwo_rng hx; omega, trivial⟩, trivial⟩
    · rcases hm with hm | hm | hm | hm | hm | hm | hm | hm
      · refine zoA_mem (a := ([(4, .ofNat 0, .ofNat 0)], [(121, 3, .ofNat 0, .ofNat 5, .ofNat 5), (101, 2, .ofNat 0, .negSucc 2147483647, .negSucc 0)], [])) (by decide) ?_
        show ((((0 : Int) ≤ n4 ∧ n4 ≤ (0 : Int)) ∧ True) ∧ ((∀ x, 0 ≤ (n3 + (0 : Int)) → zwo ws 121 (n3 + (0 : Int)).toNat = some x → (5 : Int) ≤ x ∧ x ≤ (5 : Int)) ∧ (∀ x, 0 ≤ (n2 + (0 : Int)) → zwo ws 101 (n2 + (0 : Int)).toNat = some x → (-2147483648 : Int) ≤ x ∧ x ≤ (-1 : Int)) ∧ True) ∧ (True))
        simp only [Int.add_zero]
        exact ⟨⟨⟨by omega, by omega⟩, trivial⟩, ⟨fun x hx0 hx => by have hv := zgv_some hx; omega, fun x hx0 hx => by have hv := zgv_some hx; have hr := zwo_rng hx; omega, trivial⟩, trivial⟩
      · refine zoA_mem (a := ([(4, .ofNat 0, .ofNat 0)], [(121, 3, .ofNat 0, .ofNat 5, .ofNat 5), (101, 2, .ofNat 0, .ofNat 0, .ofNat 0)], [])) (by decide) ?_
        show ((((0 : Int) ≤ n4 ∧ n4 ≤ (0 : Int)) ∧ True) ∧ ((∀ x, 0 ≤ (n3 + (0 : Int)) → zwo ws 121 (n3 + (0 : Int)).toNat = some x → (5 : Int) ≤ x ∧ x ≤ (5 : Int)) ∧ (∀ x, 0 ≤ (n2 + (0 : Int)) → zwo ws 101 (n2 + (0 : Int)).toNat = some x → (0 : Int) ≤ x ∧ x ≤ (0 : Int)) ∧ True) ∧ (True))
        simp only [Int.add_zero]
        exact ⟨⟨⟨by omega, by omega⟩, trivial⟩, ⟨fun x hx0 hx => by have hv := zgv_some hx; omega, fun x hx0 hx => by have hv := zgv_some hx; have hr := zwo_rng hx; omega, trivial⟩, trivial⟩
      · refine zoA_mem (a := ([(4, .ofNat 0, .ofNat 0)], [(121, 3, .ofNat 0, .ofNat 5, .ofNat 5), (101, 2, .ofNat 0, .ofNat 1, .ofNat 1)], [])) (by decide) ?_
        show ((((0 : Int) ≤ n4 ∧ n4 ≤ (0 : Int)) ∧ True) ∧ ((∀ x, 0 ≤ (n3 + (0 : Int)) → zwo ws 121 (n3 + (0 : Int)).toNat = some x → (5 : Int) ≤ x ∧ x ≤ (5 : Int)) ∧ (∀ x, 0 ≤ (n2 + (0 : Int)) → zwo ws 101 (n2 + (0 : Int)).toNat = some x → (1 : Int) ≤ x ∧ x ≤ (1 : Int)) ∧ True) ∧ (True))
        simp only [Int.add_zero]
        exact ⟨⟨⟨by omega, by omega⟩, trivial⟩, ⟨fun x hx0 hx => by have hv := zgv_some hx; omega, fun x hx0 hx => by have hv := zgv_some hx; have hr := zwo_rng hx; omega, trivial⟩, trivial⟩
      · refine zoA_mem (a := ([(4, .ofNat 0, .ofNat 0)], [(121, 3, .ofNat 0, .ofNat 5, .ofNat 5), (101, 2, .ofNat 0, .ofNat 2, .ofNat 2)], [])) (by decide) ?_
        show ((((0 : Int) ≤ n4 ∧ n4 ≤ (0 : Int)) ∧ True) ∧ ((∀ x, 0 ≤ (n3 + (0 : Int)) → zwo ws 121 (n3 + (0 : Int)).toNat = some x → (5 : Int) ≤ x ∧ x ≤ (5 : Int)) ∧ (∀ x, 0 ≤ (n2 + (0 : Int)) → zwo ws 101 (n2 + (0 : Int)).toNat = some x → (2 : Int) ≤ x ∧ x ≤ (2 : Int)) ∧ True) ∧ (True))
        simp only [Int.add_zero]
        exact ⟨⟨⟨by omega, by omega⟩, trivial⟩, ⟨fun x hx0 hx => by have hv := zgv_some hx; omega, fun x hx0 hx => by have hv := zgv_some hx; have hr := zwo_rng hx; omega, trivial⟩, trivial⟩
      · refine zoA_mem (a := ([(4, .ofNat 0, .ofNat 0)], [(121, 3, .ofNat 0, .ofNat 5, .ofNat 5), (101, 2, .ofNat 0, .ofNat 3, .ofNat 3)], [])) (by decide) ?_
        show ((((0 : Int) ≤ n4 ∧ n4 ≤ (0 : Int)) ∧ True) ∧ ((∀ x, 0 ≤ (n3 + (0 : Int)) → zwo ws 121 (n3 + (0 : Int)).toNat = some x → (5 : Int) ≤ x ∧ x ≤ (5 : Int)) ∧ (∀ x, 0 ≤ (n2 + (0 : Int)) → zwo ws 101 (n2 + (0 : Int)).toNat = some x → (3 : Int) ≤ x ∧ x ≤ (3 : Int)) ∧ True) ∧ (True))
        simp only [Int.add_zero]
        exact ⟨⟨⟨by omega, by omega⟩, trivial⟩, ⟨fun x hx0 hx => by have hv := zgv_some hx; omega, fun x hx0 hx => by have hv := zgv_some hx; have hr := zwo_rng hx; omega, trivial⟩, trivial⟩
      · refine zoA_mem (a := ([(4, .ofNat 0, .ofNat 0)], [(121, 3, .ofNat 0, .ofNat 5, .ofNat 5), (101, 2, .ofNat 0, .ofNat 4, .ofNat 4)], [])) (by decide) ?_
        show ((((0 : Int) ≤ n4 ∧ n4 ≤ (0 : Int)) ∧ True) ∧ ((∀ x, 0 ≤ (n3 + (0 : Int)) → zwo ws 121 (n3 + (0 : Int)).toNat = some x → (5 : Int) ≤ x ∧ x ≤ (5 : Int)) ∧ (∀ x, 0 ≤ (n2 + (0 : Int)) → zwo ws 101 (n2 + (0 : Int)).toNat = some x → (4 : Int) ≤ x ∧ x ≤ (4 : Int)) ∧ True) ∧ (True))
        simp only [Int.add_zero]
        exact ⟨⟨⟨by omega, by omega⟩, trivial⟩, ⟨fun x hx0 hx => by have hv := zgv_some hx; omega, fun x hx0 hx => by have hv := zgv_some hx; have hr := zwo_rng hx; omega, trivial⟩, trivial⟩
      · refine zoA_mem (a := ([(4, .ofNat 0, .ofNat 0)], [(121, 3, .ofNat 0, .ofNat 5, .ofNat 5), (101, 2, .ofNat 0, .ofNat 5, .ofNat 5)], [(1007, 2, .ofNat 0, 3, .ofNat 0)])) (by decide) ?_
        show ((((0 : Int) ≤ n4 ∧ n4 ≤ (0 : Int)) ∧ True) ∧ ((∀ x, 0 ≤ (n3 + (0 : Int)) → zwo ws 121 (n3 + (0 : Int)).toNat = some x → (5 : Int) ≤ x ∧ x ≤ (5 : Int)) ∧ (∀ x, 0 ≤ (n2 + (0 : Int)) → zwo ws 101 (n2 + (0 : Int)).toNat = some x → (5 : Int) ≤ x ∧ x ≤ (5 : Int)) ∧ True) ∧ (zj7 (n2 + (0 : Int)) (n3 + (0 : Int)) (zwo ws) ∧ True))
        simp only [Int.add_zero]
        exact ⟨⟨⟨by omega, by omega⟩, trivial⟩, ⟨fun x hx0 hx => by have hv := zgv_some hx; omega, fun x hx0 hx => by have hv := zgv_some hx; have hr := zwo_rng hx; omega, trivial⟩, ⟨⟨n2.toNat, n3.toNat, by omega, by omega, by omega, by omega, fun b hb2 hk => by
          have eb : b = 0 := by omega
          subst eb
          have e7 : zgv (zwo ws) 101 (16 * 0 + n2.toNat) = zgv (zwo ws) 121 n3.toNat := by
            rw [show 16 * 0 + n2.toNat = n2.toNat by omega]
            omega
          exact ⟨e7, fun hn k hk5 hl => hj 0 hb2 hk n2.toNat (by omega) hn k hk5 (by rw [e7]; exact hl)⟩⟩, trivial⟩⟩
      · refine zoA_mem (a := ([(4, .ofNat 0, .ofNat 0)], [(121, 3, .ofNat 0, .ofNat 5, .ofNat 5), (101, 2, .ofNat 0, .ofNat 6, .ofNat 2147483647)], [])) (by decide) ?_
        show ((((0 : Int) ≤ n4 ∧ n4 ≤ (0 : Int)) ∧ True) ∧ ((∀ x, 0 ≤ (n3 + (0 : Int)) → zwo ws 121 (n3 + (0 : Int)).toNat = some x → (5 : Int) ≤ x ∧ x ≤ (5 : Int)) ∧ (∀ x, 0 ≤ (n2 + (0 : Int)) → zwo ws 101 (n2 + (0 : Int)).toNat = some x → (6 : Int) ≤ x ∧ x ≤ (2147483647 : Int)) ∧ True) ∧ (True))
        simp only [Int.add_zero]
        exact ⟨⟨⟨by omega, by omega⟩, trivial⟩, ⟨fun x hx0 hx => by have hv := zgv_some hx; omega, fun x hx0 hx => by have hv := zgv_some hx; have hr := zwo_rng hx; omega, trivial⟩, trivial⟩
  · have hm : zgv (zwo ws) 101 (n2 + (16 : Int)).toNat < 0 ∨ zgv (zwo ws) 101 (n2 + (16 : Int)).toNat = 0 ∨ zgv (zwo ws) 101 (n2 + (16 : Int)).toNat = 1 ∨ zgv (zwo ws) 101 (n2 + (16 : Int)).toNat = 2 ∨ zgv (zwo ws) 101 (n2 + (16 : Int)).toNat = 3 ∨ zgv (zwo ws) 101 (n2 + (16 : Int)).toNat = 4 ∨ zgv (zwo ws) 101 (n2 + (16 : Int)).toNat = 5 ∨ 6 ≤ zgv (zwo ws) 101 (n2 + (16 : Int)).toNat := by omega
    rcases h5 with h5 | h5 | h5 | h5 | h5 | h5
    · rcases hm with hm | hm | hm | hm | hm | hm | hm | hm
      · refine zoA_mem (a := ([(4, .ofNat 1, .ofNat 1)], [(121, 3, .ofNat 0, .ofNat 0, .ofNat 0), (101, 2, .ofNat 16, .negSucc 2147483647, .negSucc 0)], [])) (by decide) ?_
        show ((((1 : Int) ≤ n4 ∧ n4 ≤ (1 : Int)) ∧ True) ∧ ((∀ x, 0 ≤ (n3 + (0 : Int)) → zwo ws 121 (n3 + (0 : Int)).toNat = some x → (0 : Int) ≤ x ∧ x ≤ (0 : Int)) ∧ (∀ x, 0 ≤ (n2 + (16 : Int)) → zwo ws 101 (n2 + (16 : Int)).toNat = some x → (-2147483648 : Int) ≤ x ∧ x ≤ (-1 : Int)) ∧ True) ∧ (True))
        simp only [Int.add_zero]
        exact ⟨⟨⟨by omega, by omega⟩, trivial⟩, ⟨fun x hx0 hx => by have hv := zgv_some hx; omega, fun x hx0 hx => by have hv := zgv_some hx; have hr := zwo_rng hx; omega, trivial⟩, trivial⟩
      · refine zoA_mem (a := ([(4, .ofNat 1, .ofNat 1)], [(121, 3, .ofNat 0, .ofNat 0, .ofNat 0), (101, 2, .ofNat 16, .ofNat 0, .ofNat 0)], [(1007, 2, .ofNat 0, 3, .ofNat 0)])) (by decide) ?_
        show ((((1 : Int) ≤ n4 ∧ n4 ≤ (1 : Int)) ∧ True) ∧ ((∀ x, 0 ≤ (n3 + (0 : Int)) → zwo ws 121 (n3 + (0 : Int)).toNat = some x → (0 : Int) ≤ x ∧ x ≤ (0 : Int)) ∧ (∀ x, 0 ≤ (n2 + (16 : Int)) → zwo ws 101 (n2 + (16 : Int)).toNat = some x → (0 : Int) ≤ x ∧ x ≤ (0 : Int)) ∧ True) ∧ (zj7 (n2 + (0 : Int)) (n3 + (0 : Int)) (zwo ws) ∧ True))
        simp only [Int.add_zero]
        exact ⟨⟨⟨by omega, by omega⟩, trivial⟩, ⟨fun x hx0 hx => by have hv := zgv_some hx; omega, fun x hx0 hx => by have hv := zgv_some hx; have hr := zwo_rng hx; omega, trivial⟩, ⟨⟨n2.toNat, n3.toNat, by omega, by omega, by omega, by omega, fun b hb2 hk => by
          have eb : b = 1 := by omega
          subst eb
          have e7 : zgv (zwo ws) 101 (16 * 1 + n2.toNat) = zgv (zwo ws) 121 n3.toNat := by
            rw [show 16 * 1 + n2.toNat = (n2 + (16 : Int)).toNat by omega]
            omega
          exact ⟨e7, fun hn k hk5 hl => hj 1 hb2 hk n2.toNat (by omega) hn k hk5 (by rw [e7]; exact hl)⟩⟩, trivial⟩⟩
      · refine zoA_mem (a := ([(4, .ofNat 1, .ofNat 1)], [(121, 3, .ofNat 0, .ofNat 0, .ofNat 0), (101, 2, .ofNat 16, .ofNat 1, .ofNat 1)], [])) (by decide) ?_
        show ((((1 : Int) ≤ n4 ∧ n4 ≤ (1 : Int)) ∧ True) ∧ ((∀ x, 0 ≤ (n3 + (0 : Int)) → zwo ws 121 (n3 + (0 : Int)).toNat = some x → (0 : Int) ≤ x ∧ x ≤ (0 : Int)) ∧ (∀ x, 0 ≤ (n2 + (16 : Int)) → zwo ws 101 (n2 + (16 : Int)).toNat = some x → (1 : Int) ≤ x ∧ x ≤ (1 : Int)) ∧ True) ∧ (True))
        simp only [Int.add_zero]
        exact ⟨⟨⟨by omega, by omega⟩, trivial⟩, ⟨fun x hx0 hx => by have hv := zgv_some hx; omega, fun x hx0 hx => by have hv := zgv_some hx; have hr := zwo_rng hx; omega, trivial⟩, trivial⟩
      · refine zoA_mem (a := ([(4, .ofNat 1, .ofNat 1)], [(121, 3, .ofNat 0, .ofNat 0, .ofNat 0), (101, 2, .ofNat 16, .ofNat 2, .ofNat 2)], [])) (by decide) ?_
        show ((((1 : Int) ≤ n4 ∧ n4 ≤ (1 : Int)) ∧ True) ∧ ((∀ x, 0 ≤ (n3 + (0 : Int)) → zwo ws 121 (n3 + (0 : Int)).toNat = some x → (0 : Int) ≤ x ∧ x ≤ (0 : Int)) ∧ (∀ x, 0 ≤ (n2 + (16 : Int)) → zwo ws 101 (n2 + (16 : Int)).toNat = some x → (2 : Int) ≤ x ∧ x ≤ (2 : Int)) ∧ True) ∧ (True))
        simp only [Int.add_zero]
        exact ⟨⟨⟨by omega, by omega⟩, trivial⟩, ⟨fun x hx0 hx => by have hv := zgv_some hx; omega, fun x hx0 hx => by have hv := zgv_some hx; have hr := zwo_rng hx; omega, trivial⟩, trivial⟩
      · refine zoA_mem (a := ([(4, .ofNat 1, .ofNat 1)], [(121, 3, .ofNat 0, .ofNat 0, .ofNat 0), (101, 2, .ofNat 16, .ofNat 3, .ofNat 3)], [])) (by decide) ?_
        show ((((1 : Int) ≤ n4 ∧ n4 ≤ (1 : Int)) ∧ True) ∧ ((∀ x, 0 ≤ (n3 + (0 : Int)) → zwo ws 121 (n3 + (0 : Int)).toNat = some x → (0 : Int) ≤ x ∧ x ≤ (0 : Int)) ∧ (∀ x, 0 ≤ (n2 + (16 : Int)) → zwo ws 101 (n2 + (16 : Int)).toNat = some x → (3 : Int) ≤ x ∧ x ≤ (3 : Int)) ∧ True) ∧ (True))
        simp only [Int.add_zero]
        exact ⟨⟨⟨by omega, by omega⟩, trivial⟩, ⟨fun x hx0 hx => by have hv := zgv_some hx; omega, fun x hx0 hx => by have hv := zgv_some hx; have hr := zwo_rng hx; omega, trivial⟩, trivial⟩
      · refine zoA_mem (a := ([(4, .ofNat 1, .ofNat 1)], [(121, 3, .ofNat 0, .ofNat 0, .ofNat 0), (101, 2, .ofNat 16, .ofNat 4, .ofNat 4)], [])) (by decide) ?_
        show ((((1 : Int) ≤ n4 ∧ n4 ≤ (1 : Int)) ∧ True) ∧ ((∀ x, 0 ≤ (n3 + (0 : Int)) → zwo ws 121 (n3 + (0 : Int)).toNat = some x → (0 : Int) ≤ x ∧ x ≤ (0 : Int)) ∧ (∀ x, 0 ≤ (n2 + (16 : Int)) → zwo ws 101 (n2 + (16 : Int)).toNat = some x → (4 : Int) ≤ x ∧ x ≤ (4 : Int)) ∧ True) ∧ (True))
        simp only [Int.add_zero]
        exact ⟨⟨⟨by omega, by omega⟩, trivial⟩, ⟨fun x hx0 hx => by have hv := zgv_some hx; omega, fun x hx0 hx => by have hv := zgv_some hx; have hr := zwo_rng hx; omega, trivial⟩, trivial⟩
      · refine zoA_mem (a := ([(4, .ofNat 1, .ofNat 1)], [(121, 3, .ofNat 0, .ofNat 0, .ofNat 0), (101, 2, .ofNat 16, .ofNat 5, .ofNat 5)], [])) (by decide) ?_
        show ((((1 : Int) ≤ n4 ∧ n4 ≤ (1 : Int)) ∧ True) ∧ ((∀ x, 0 ≤ (n3 + (0 : Int)) → zwo ws 121 (n3 + (0 : Int)).toNat = some x → (0 : Int) ≤ x ∧ x ≤ (0 : Int)) ∧ (∀ x, 0 ≤ (n2 + (16 : Int)) → zwo ws 101 (n2 + (16 : Int)).toNat = some x → (5 : Int) ≤ x ∧ x ≤ (5 : Int)) ∧ True) ∧ (True))
        simp only [Int.add_zero]
        exact ⟨⟨⟨by omega, by omega⟩, trivial⟩, ⟨fun x hx0 hx => by have hv := zgv_some hx; omega, fun x hx0 hx => by have hv := zgv_some hx; have hr := zwo_rng hx; omega, trivial⟩, trivial⟩
      · refine zoA_mem (a := ([(4, .ofNat 1, .ofNat 1)], [(121, 3, .ofNat 0, .ofNat 0, .ofNat 0), (101, 2, .ofNat 16, .ofNat 6, .ofNat 2147483647)], [])) (by decide) ?_
        show ((((1 : Int) ≤ n4 ∧ n4 ≤ (1 : Int)) ∧ True) ∧ ((∀ x, 0 ≤ (n3 + (0 : Int)) → zwo ws 121 (n3 + (0 : Int)).toNat = some x → (0 : Int) ≤ x ∧ x ≤ (0 : Int)) ∧ (∀ x, 0 ≤ (n2 + (16 : Int)) → zwo ws 101 (n2 + (16 : Int)).toNat = some x → (6 : Int) ≤ x ∧ x ≤ (2147483647 : Int)) ∧ True) ∧ (True))
        simp only [Int.add_zero]
        exact ⟨⟨⟨by omega, by omega⟩, trivial⟩, ⟨fun x hx0 hx => by have hv := zgv_some hx; omega, fun x hx0 hx => by have hv := zgv_some hx; have hr := zwo_rng hx; omega, trivial⟩, trivial⟩
    · rcases hm with hm | hm | hm | hm | hm | hm | hm | hm
      · refine zoA_mem (a := ([(4, .ofNat 1, .ofNat 1)], [(121, 3, .ofNat 0, .ofNat 1, .ofNat 1), (101, 2, .ofNat 16, .negSucc 2147483647, .negSucc 0)], [])) (by decide) ?_
        show ((((1 : Int) ≤ n4 ∧ n4 ≤ (1 : Int)) ∧ True) ∧ ((∀ x, 0 ≤ (n3 + (0 : Int)) → zwo ws 121 (n3 + (0 : Int)).toNat = some x → (1 : Int) ≤ x ∧ x ≤ (1 : Int)) ∧ (∀ x, 0 ≤ (n2 + (16 : Int)) → zwo ws 101 (n2 + (16 : Int)).toNat = some x → (-2147483648 : Int) ≤ x ∧ x ≤ (-1 : Int)) ∧ True) ∧ (True))
        simp only [Int.add_zero]
        exact ⟨⟨⟨by omega, by omega⟩, trivial⟩, ⟨fun x hx0 hx => by have hv := zgv_some hx; omega, fun x hx0 hx => by have hv := zgv_some hx; have hr := zwo_rng hx; omega, trivial⟩, trivial⟩
      · refine zoA_mem (a := ([(4, .ofNat 1, .ofNat 1)], [(121, 3, .ofNat 0, .ofNat 1, .ofNat 1), (101, 2, .ofNat 16, .ofNat 0, .ofNat 0)], [])) (by decide) ?_
        show ((((1 : Int) ≤ n4 ∧ n4 ≤ (1 : Int)) ∧ True) ∧ ((∀ x, 0 ≤ (n3 + (0 : Int)) → zwo ws 121 (n3 + (0 : Int)).toNat = some x → (1 : Int) ≤ x ∧ x ≤ (1 : Int)) ∧ (∀ x, 0 ≤ (n2 + (16 : Int)) → zwo ws 101 (n2 + (16 : Int)).toNat = some x → (0 : Int) ≤ x ∧ x ≤ (0 : Int)) ∧ True) ∧ (True))
        simp only [Int.add_zero]
        exact ⟨⟨⟨by omega, by omega⟩, trivial⟩, ⟨fun x hx0 hx => by have hv := zgv_some hx; omega, fun x hx0 hx => by have hv := zgv_some hx; have hr := zwo_rng hx; omega, trivial⟩, trivial⟩
      · refine zoA_mem (a := ([(4, .ofNat 1, .ofNat 1)], [(121, 3, .ofNat 0, .ofNat 1, .ofNat 1), (101, 2, .ofNat 16, .ofNat 1, .ofNat 1)], [(1007, 2, .ofNat 0, 3, .ofNat 0)])) (by decide) ?_
        show ((((1 : Int) ≤ n4 ∧ n4 ≤ (1 : Int)) ∧ True) ∧ ((∀ x, 0 ≤ (n3 + (0 : Int)) → zwo ws 121 (n3 + (0 : Int)).toNat = some x → (1 : Int) ≤ x ∧ x ≤ (1 : Int)) ∧ (∀ x, 0 ≤ (n2 + (16 : Int)) → zwo ws 101 (n2 + (16 : Int)).toNat = some x → (1 : Int) ≤ x ∧ x ≤ (1 : Int)) ∧ True) ∧ (zj7 (n2 + (0 : Int)) (n3 + (0 : Int)) (zwo ws) ∧ True))
        simp only [Int.add_zero]
        exact ⟨⟨⟨by omega, by omega⟩, trivial⟩, ⟨fun x hx0 hx => by have hv := zgv_some hx; omega, fun x hx0 hx => by have hv := zgv_some hx; have hr := zwo_rng hx; omega, trivial⟩, ⟨⟨n2.toNat, n3.toNat, by omega, by omega, by omega, by omega, fun b hb2 hk => by
          have eb : b = 1 := by omega
          subst eb
          have e7 : zgv (zwo ws) 101 (16 * 1 + n2.toNat) = zgv (zwo ws) 121 n3.toNat := by
            rw [show 16 * 1 + n2.toNat = (n2 + (16 : Int)).toNat by omega]
            omega
          exact ⟨e7, fun hn k hk5 hl => hj 1 hb2 hk n2.toNat (by omega) hn k hk5 (by rw [e7]; exact hl)⟩⟩, trivial⟩⟩
      · refine zoA_mem (a := ([(4, .ofNat 1, .ofNat 1)], [(121, 3, .ofNat 0, .ofNat 1, .ofNat 1), (101, 2, .ofNat 16, .ofNat 2, .ofNat 2)], [])) (by decide) ?_
        show ((((1 : Int) ≤ n4 ∧ n4 ≤ (1 : Int)) ∧ True) ∧ ((∀ x, 0 ≤ (n3 + (0 : Int)) → zwo ws 121 (n3 + (0 : Int)).toNat = some x → (1 : Int) ≤ x ∧ x ≤ (1 : Int)) ∧ (∀ x, 0 ≤ (n2 + (16 : Int)) → zwo ws 101 (n2 + (16 : Int)).toNat = some x → (2 : Int) ≤ x ∧ x ≤ (2 : Int)) ∧ True) ∧ (True))
        simp only [Int.add_zero]
        exact ⟨⟨⟨by omega, by omega⟩, trivial⟩, ⟨fun x hx0 hx => by have hv := zgv_some hx; omega, fun x hx0 hx => by have hv := zgv_some hx; have hr := zwo_rng hx; omega, trivial⟩, trivial⟩
      · refine zoA_mem (a := ([(4, .ofNat 1, .ofNat 1)], [(121, 3, .ofNat 0, .ofNat 1, .ofNat 1), (101, 2, .ofNat 16, .ofNat 3, .ofNat 3)], [])) (by decide) ?_
        show ((((1 : Int) ≤ n4 ∧ n4 ≤ (1 : Int)) ∧ True) ∧ ((∀ x, 0 ≤ (n3 + (0 : Int)) → zwo ws 121 (n3 + (0 : Int)).toNat = some x → (1 : Int) ≤ x ∧ x ≤ (1 : Int)) ∧ (∀ x, 0 ≤ (n2 + (16 : Int)) → zwo ws 101 (n2 + (16 : Int)).toNat = some x → (3 : Int) ≤ x ∧ x ≤ (3 : Int)) ∧ True) ∧ (True))
        simp only [Int.add_zero]
        exact ⟨⟨⟨by omega, by omega⟩, trivial⟩, ⟨fun x hx0 hx => by have hv := zgv_some hx; omega, fun x hx0 hx => by have hv := zgv_some hx; have hr := zwo_rng hx; omega, trivial⟩, trivial⟩
      · refine zoA_mem (a := ([(4, .ofNat 1, .ofNat 1)], [(121, 3, .ofNat 0, .ofNat 1, .ofNat 1), (101, 2, .ofNat 16, .ofNat 4, .ofNat 4)], [])) (by decide) ?_
        show ((((1 : Int) ≤ n4 ∧ n4 ≤ (1 : Int)) ∧ True) ∧ ((∀ x, 0 ≤ (n3 + (0 : Int)) → zwo ws 121 (n3 + (0 : Int)).toNat = some x → (1 : Int) ≤ x ∧ x ≤ (1 : Int)) ∧ (∀ x, 0 ≤ (n2 + (16 : Int)) → zwo ws 101 (n2 + (16 : Int)).toNat = some x → (4 : Int) ≤ x ∧ x ≤ (4 : Int)) ∧ True) ∧ (True))
        simp only [Int.add_zero]
        exact ⟨⟨⟨by omega, by omega⟩, trivial⟩, ⟨fun x hx0 hx => by have hv := zgv_some hx; omega, fun x hx0 hx => by have hv := zgv_some hx; have hr := zwo_rng hx; omega, trivial⟩, trivial⟩
      · refine zoA_mem (a := ([(4, .ofNat 1, .ofNat 1)], [(121, 3, .ofNat 0, .ofNat 1, .ofNat 1), (101, 2, .ofNat 16, .ofNat 5, .ofNat 5)], [])) (by decide) ?_
        show ((((1 : Int) ≤ n4 ∧ n4 ≤ (1 : Int)) ∧ True) ∧ ((∀ x, 0 ≤ (n3 + (0 : Int)) → zwo ws 121 (n3 + (0 : Int)).toNat = some x → (1 : Int) ≤ x ∧ x ≤ (1 : Int)) ∧ (∀ x, 0 ≤ (n2 + (16 : Int)) → zwo ws 101 (n2 + (16 : Int)).toNat = some x → (5 : Int) ≤ x ∧ x ≤ (5 : Int)) ∧ True) ∧ (True))
        simp only [Int.add_zero]
        exact ⟨⟨⟨by omega, by omega⟩, trivial⟩, ⟨fun x hx0 hx => by have hv := zgv_some hx; omega, fun x hx0 hx => by have hv := zgv_some hx; have hr := zwo_rng hx; omega, trivial⟩, trivial⟩
      · refine zoA_mem (a := ([(4, .ofNat 1, .ofNat 1)], [(121, 3, .ofNat 0, .ofNat 1, .ofNat 1), (101, 2, .ofNat 16, .ofNat 6, .ofNat 2147483647)], [])) (by decide) ?_
        show ((((1 : Int) ≤ n4 ∧ n4 ≤ (1 : Int)) ∧ True) ∧ ((∀ x, 0 ≤ (n3 + (0 : Int)) → zwo ws 121 (n3 + (0 : Int)).toNat = some x → (1 : Int) ≤ x ∧ x ≤ (1 : Int)) ∧ (∀ x, 0 ≤ (n2 + (16 : Int)) → zwo ws 101 (n2 + (16 : Int)).toNat = some x → (6 : Int) ≤ x ∧ x ≤ (2147483647 : Int)) ∧ True) ∧ (True))
        simp only [Int.add_zero]
        exact ⟨⟨⟨by omega, by omega⟩, trivial⟩, ⟨fun x hx0 hx => by have hv := zgv_some hx; omega, fun x hx0 hx => by have hv := zgv_some hx; have hr := zwo_rng hx; omega, trivial⟩, trivial⟩
    · rcases hm with hm | hm | hm | hm | hm | hm | hm | hm
      · refine zoA_mem (a := ([(4, .ofNat 1, .ofNat 1)], [(121, 3, .ofNat 0, .ofNat 2, .ofNat 2), (101, 2, .ofNat 16, .negSucc 2147483647, .negSucc 0)], [])) (by decide) ?_
        show ((((1 : Int) ≤ n4 ∧ n4 ≤ (1 : Int)) ∧ True) ∧ ((∀ x, 0 ≤ (n3 + (0 : Int)) → zwo ws 121 (n3 + (0 : Int)).toNat = some x → (2 : Int) ≤ x ∧ x ≤ (2 : Int)) ∧ (∀ x, 0 ≤ (n2 + (16 : Int)) → zwo ws 101 (n2 + (16 : Int)).toNat = some x → (-2147483648 : Int) ≤ x ∧ x ≤ (-1 : Int)) ∧ True) ∧ (True))
        simp only [Int.add_zero]
        exact ⟨⟨⟨by omega, by omega⟩, trivial⟩, ⟨fun x hx0 hx => by have hv := zgv_some hx; omega, fun x hx0 hx => by have hv := zgv_some hx; have hr := zwo_rng hx; omega, trivial⟩, trivial⟩
      · refine zoA_mem (a := ([(4, .ofNat 1, .ofNat 1)], [(121, 3, .ofNat 0, .ofNat 2, .ofNat 2), (101, 2, .ofNat 16, .ofNat 0, .ofNat 0)], [])) (by decide) ?_
        show ((((1 : Int) ≤ n4 ∧ n4 ≤ (1 : Int)) ∧ True) ∧ ((∀ x, 0 ≤ (n3 + (0 : Int)) → zwo ws 121 (n3 + (0 : Int)).toNat = some x → (2 : Int) ≤ x ∧ x ≤ (2 : Int)) ∧ (∀ x, 0 ≤ (n2 + (16 : Int)) → zwo ws 101 (n2 + (16 : Int)).toNat = some x → (0 : Int) ≤ x ∧ x ≤ (0 : Int)) ∧ True) ∧ (True))
        simp only [Int.add_zero]
        exact ⟨⟨⟨by omega, by omega⟩, trivial⟩, ⟨fun x hx0 hx => by have hv := zgv_some hx; omega, fun x hx0 hx => by have hv := zgv_some hx; have hr := zwo_rng hx; omega, trivial⟩, trivial⟩
      · refine zoA_mem (a := ([(4, .ofNat 1, .ofNat 1)], [(121, 3, .ofNat 0, .ofNat 2, .ofNat 2), (101, 2, .ofNat 16, .ofNat 1, .ofNat 1)], [])) (by decide) ?_
        show ((((1 : Int) ≤ n4 ∧ n4 ≤ (1 : Int)) ∧ True) ∧ ((∀ x, 0 ≤ (n3 + (0 : Int)) → zwo ws 121 (n3 + (0 : Int)).toNat = some x → (2 : Int) ≤ x ∧ x ≤ (2 : Int)) ∧ (∀ x, 0 ≤ (n2 + (16 : Int)) → zwo ws 101 (n2 + (16 : Int)).toNat = some x → (1 : Int) ≤ x ∧ x ≤ (1 : Int)) ∧ True) ∧ (True))
        simp only [Int.add_zero]
        exact ⟨⟨⟨by omega, by omega⟩, trivial⟩, ⟨fun x hx0 hx => by have hv := zgv_some hx; omega, fun x hx0 hx => by have hv := zgv_some hx; have hr := zwo_rng hx; omega, trivial⟩, trivial⟩
      · refine zoA_mem (a := ([(4, .ofNat 1, .ofNat 1)], [(121, 3, .ofNat 0, .ofNat 2, .ofNat 2), (101, 2, .ofNat 16, .ofNat 2, .ofNat 2)], [(1007, 2, .ofNat 0, 3, .ofNat 0)])) (by decide) ?_
        show ((((1 : Int) ≤ n4 ∧ n4 ≤ (1 : Int)) ∧ True) ∧ ((∀ x, 0 ≤ (n3 + (0 : Int)) → zwo ws 121 (n3 + (0 : Int)).toNat = some x → (2 : Int) ≤ x ∧ x ≤ (2 : Int)) ∧ (∀ x, 0 ≤ (n2 + (16 : Int)) → zwo ws 101 (n2 + (16 : Int)).toNat = some x → (2 : Int) ≤ x ∧ x ≤ (2 : Int)) ∧ True) ∧ (zj7 (n2 + (0 : Int)) (n3 + (0 : Int)) (zwo ws) ∧ True))
        simp only [Int.add_zero]
        exact ⟨⟨⟨by omega, by omega⟩, trivial⟩, ⟨fun x hx0 hx => by have hv := zgv_some hx; omega, fun x hx0 hx => by have hv := zgv_some hx; have hr := zwo_rng hx; omega, trivial⟩, ⟨⟨n2.toNat, n3.toNat, by omega, by omega, by omega, by omega, fun b hb2 hk => by
          have eb : b = 1 := by omega
          subst eb
          have e7 : zgv (zwo ws) 101 (16 * 1 + n2.toNat) = zgv (zwo ws) 121 n3.toNat := by
            rw [show 16 * 1 + n2.toNat = (n2 + (16 : Int)).toNat by omega]
            omega
          exact ⟨e7, fun hn k hk5 hl => hj 1 hb2 hk n2.toNat (by omega) hn k hk5 (by rw [e7]; exact hl)⟩⟩, trivial⟩⟩
      · refine zoA_mem (a := ([(4, .ofNat 1, .ofNat 1)], [(121, 3, .ofNat 0, .ofNat 2, .ofNat 2), (101, 2, .ofNat 16, .ofNat 3, .ofNat 3)], [])) (by decide) ?_
        show ((((1 : Int) ≤ n4 ∧ n4 ≤ (1 : Int)) ∧ True) ∧ ((∀ x, 0 ≤ (n3 + (0 : Int)) → zwo ws 121 (n3 + (0 : Int)).toNat = some x → (2 : Int) ≤ x ∧ x ≤ (2 : Int)) ∧ (∀ x, 0 ≤ (n2 + (16 : Int)) → zwo ws 101 (n2 + (16 : Int)).toNat = some x → (3 : Int) ≤ x ∧ x ≤ (3 : Int)) ∧ True) ∧ (True))
        simp only [Int.add_zero]
        exact ⟨⟨⟨by omega, by omega⟩, trivial⟩, ⟨fun x hx0 hx => by have hv := zgv_some hx; omega, fun x hx0 hx => by have hv := zgv_some hx; have hr := zwo_rng hx; omega, trivial⟩, trivial⟩
      · refine zoA_mem (a := ([(4, .ofNat 1, .ofNat 1)], [(121, 3, .ofNat 0, .ofNat 2, .ofNat 2), (101, 2, .ofNat 16, .ofNat 4, .ofNat 4)], [])) (by decide) ?_
        show ((((1 : Int) ≤ n4 ∧ n4 ≤ (1 : Int)) ∧ True) ∧ ((∀ x, 0 ≤ (n3 + (0 : Int)) → zwo ws 121 (n3 + (0 : Int)).toNat = some x → (2 : Int) ≤ x ∧ x ≤ (2 : Int)) ∧ (∀ x, 0 ≤ (n2 + (16 : Int)) → zwo ws 101 (n2 + (16 : Int)).toNat = some x → (4 : Int) ≤ x ∧ x ≤ (4 : Int)) ∧ True) ∧ (True))
        simp only [Int.add_zero]
        exact ⟨⟨⟨by omega, by omega⟩, trivial⟩, ⟨fun x hx0 hx => by have hv := zgv_some hx; omega, fun x hx0 hx => by have hv := zgv_some hx; have hr := zwo_rng hx; omega, trivial⟩, trivial⟩
      · refine zoA_mem (a := ([(4, .ofNat 1, .ofNat 1)], [(121, 3, .ofNat 0, .ofNat 2, .ofNat 2), (101, 2, .ofNat 16, .ofNat 5, .ofNat 5)], [])) (by decide) ?_
        show ((((1 : Int) ≤ n4 ∧ n4 ≤ (1 : Int)) ∧ True) ∧ ((∀ x, 0 ≤ (n3 + (0 : Int)) → zwo ws 121 (n3 + (0 : Int)).toNat = some x → (2 : Int) ≤ x ∧ x ≤ (2 : Int)) ∧ (∀ x, 0 ≤ (n2 + (16 : Int)) → zwo ws 101 (n2 + (16 : Int)).toNat = some x → (5 : Int) ≤ x ∧ x ≤ (5 : Int)) ∧ True) ∧ (True))
        simp only [Int.add_zero]
        exact ⟨⟨⟨by omega, by omega⟩, trivial⟩, ⟨fun x hx0 hx => by have hv := zgv_some hx; omega, fun x hx0 hx => by have hv := zgv_some hx; have hr := zwo_rng hx; omega, trivial⟩, trivial⟩
      · refine zoA_mem (a := ([(4, .ofNat 1, .ofNat 1)], [(121, 3, .ofNat 0, .ofNat 2, .ofNat 2), (101, 2, .ofNat 16, .ofNat 6, .ofNat 2147483647)], [])) (by decide) ?_
        show ((((1 : Int) ≤ n4 ∧ n4 ≤ (1 : Int)) ∧ True) ∧ ((∀ x, 0 ≤ (n3 + (0 : Int)) → zwo ws 121 (n3 + (0 : Int)).toNat = some x → (2 : Int) ≤ x ∧ x ≤ (2 : Int)) ∧ (∀ x, 0 ≤ (n2 + (16 : Int)) → zwo ws 101 (n2 + (16 : Int)).toNat = some x → (6 : Int) ≤ x ∧ x ≤ (2147483647 : Int)) ∧ True) ∧ (True))
        simp only [Int.add_zero]
        exact ⟨⟨⟨by omega, by omega⟩, trivial⟩, ⟨fun x hx0 hx => by have hv := zgv_some hx; omega, fun x hx0 hx => by have hv := zgv_some hx; have hr := zwo_rng hx; omega, trivial⟩, trivial⟩
    · rcases hm with hm | hm | hm | hm | hm | hm | hm | hm
      · refine zoA_mem (a := ([(4, .ofNat 1, .ofNat 1)], [(121, 3, .ofNat 0, .ofNat 3, .ofNat 3), (101, 2, .ofNat 16, .negSucc 2147483647, .negSucc 0)], [])) (by decide) ?_
        show ((((1 : Int) ≤ n4 ∧ n4 ≤ (1 : Int)) ∧ True) ∧ ((∀ x, 0 ≤ (n3 + (0 : Int)) → zwo ws 121 (n3 + (0 : Int)).toNat = some x → (3 : Int) ≤ x ∧ x ≤ (3 : Int)) ∧ (∀ x, 0 ≤ (n2 + (16 : Int)) → zwo ws 101 (n2 + (16 : Int)).toNat = some x → (-2147483648 : Int) ≤ x ∧ x ≤ (-1 : Int)) ∧ True) ∧ (True))
        simp only [Int.add_zero]
        exact ⟨⟨⟨by omega, by omega⟩, trivial⟩, ⟨fun x hx0 hx => by have hv := zgv_some hx; omega, fun x hx0 hx => by have hv := zgv_some hx; have hr := zwo_rng hx; omega, trivial⟩, trivial⟩
      · refine zoA_mem (a := ([(4, .ofNat 1, .ofNat 1)], [(121, 3, .ofNat 0, .ofNat 3, .ofNat 3), (101, 2, .ofNat 16, .ofNat 0, .ofNat 0)], [])) (by decide) ?_
        show ((((1 : Int) ≤ n4 ∧ n4 ≤ (1 : Int)) ∧ True) ∧ ((∀ x, 0 ≤ (n3 + (0 : Int)) → zwo ws 121 (n3 + (0 : Int)).toNat = some x → (3 : Int) ≤ x ∧ x ≤ (3 : Int)) ∧ (∀ x, 0 ≤ (n2 + (16 : Int)) → zwo ws 101 (n2 + (16 : Int)).toNat = some x → (0 : Int) ≤ x ∧ x ≤ (0 : Int)) ∧ True) ∧ (True))
        simp only [Int.add_zero]
        exact ⟨⟨⟨by omega, by omega⟩, trivial⟩, ⟨fun x hx0 hx => by have hv := zgv_some hx; omega, fun x hx0 hx => by have hv := zgv_some hx; have hr := zwo_rng hx; omega, trivial⟩, trivial⟩
      · refine zoA_mem (a := ([(4, .ofNat 1, .ofNat 1)], [(121, 3, .ofNat 0, .ofNat 3, .ofNat 3), (101, 2, .ofNat 16, .ofNat 1, .ofNat 1)], [])) (by decide) ?_
        show ((((1 : Int) ≤ n4 ∧ n4 ≤ (1 : Int)) ∧ True) ∧ ((∀ x, 0 ≤ (n3 + (0 : Int)) → zwo ws 121 (n3 + (0 : Int)).toNat = some x → (3 : Int) ≤ x ∧ x ≤ (3 : Int)) ∧ (∀ x, 0 ≤ (n2 + (16 : Int)) → zwo ws 101 (n2 + (16 : Int)).toNat = some x → (1 : Int) ≤ x ∧ x ≤ (1 : Int)) ∧ True) ∧ (True))
        simp only [Int.add_zero]
        exact ⟨⟨⟨by omega, by omega⟩, trivial⟩, ⟨fun x hx0 hx => by have hv := zgv_some hx; omega, fun x hx0 hx => by have hv := zgv_some hx; have hr := zwo_rng hx; omega, trivial⟩, trivial⟩
      · refine zoA_mem (a := ([(4, .ofNat 1, .ofNat 1)], [(121, 3, .ofNat 0, .ofNat 3, .ofNat 3), (101, 2, .ofNat 16, .ofNat 2, .ofNat 2)], [])) (by decide) ?_
        show ((((1 : Int) ≤ n4 ∧ n4 ≤ (1 : Int)) ∧ True) ∧ ((∀ x, 0 ≤ (n3 + (0 : Int)) → zwo ws 121 (n3 + (0 : Int)).toNat = some x → (3 : Int) ≤ x ∧ x ≤ (3 : Int)) ∧ (∀ x, 0 ≤ (n2 + (16 : Int)) → zwo ws 101 (n2 + (16 : Int)).toNat = some x → (2 : Int) ≤ x ∧ x ≤ (2 : Int)) ∧ True) ∧ (True))
        simp only [Int.add_zero]
        exact ⟨⟨⟨by omega, by omega⟩, trivial⟩, ⟨fun x hx0 hx => by have hv := zgv_some hx; omega, fun x hx0 hx => by have hv := zgv_some hx; have hr := zwo_rng hx; omega, trivial⟩, trivial⟩
      · refine zoA_mem (a := ([(4, .ofNat 1, .ofNat 1)], [(121, 3, .ofNat 0, .ofNat 3, .ofNat 3), (101, 2, .ofNat 16, .ofNat 3, .ofNat 3)], [(1007, 2, .ofNat 0, 3, .ofNat 0)])) (by decide) ?_
        show ((((1 : Int) ≤ n4 ∧ n4 ≤ (1 : Int)) ∧ True) ∧ ((∀ x, 0 ≤ (n3 + (0 : Int)) → zwo ws 121 (n3 + (0 : Int)).toNat = some x → (3 : Int) ≤ x ∧ x ≤ (3 : Int)) ∧ (∀ x, 0 ≤ (n2 + (16 : Int)) → zwo ws 101 (n2 + (16 : Int)).toNat = some x → (3 : Int) ≤ x ∧ x ≤ (3 : Int)) ∧ True) ∧ (zj7 (n2 + (0 : Int)) (n3 + (0 : Int)) (zwo ws) ∧ True))
        simp only [Int.add_zero]
        exact ⟨⟨⟨by omega, by omega⟩, trivial⟩, ⟨fun x hx0 hx => by have hv := zgv_some hx; omega, fun x hx0 hx => by have hv := zgv_some hx; have hr := zwo_rng hx; omega, trivial⟩, ⟨⟨n2.toNat, n3.toNat, by omega, by omega, by omega, by omega, fun b hb2 hk => by
          have eb : b = 1 := by omega
          subst eb
          have e7 : zgv (zwo ws) 101 (16 * 1 + n2.toNat) = zgv (zwo ws) 121 n3.toNat := by
            rw [show 16 * 1 + n2.toNat = (n2 + (16 : Int)).toNat by omega]
            omega
          exact ⟨e7, fun hn k hk5 hl => hj 1 hb2 hk n2.toNat (by omega) hn k hk5 (by rw [e7]; exact hl)⟩⟩, trivial⟩⟩
      · refine zoA_mem (a := ([(4, .ofNat 1, .ofNat 1)], [(121, 3, .ofNat 0, .ofNat 3, .ofNat 3), (101, 2, .ofNat 16, .ofNat 4, .ofNat 4)], [])) (by decide) ?_
        show ((((1 : Int) ≤ n4 ∧ n4 ≤ (1 : Int)) ∧ True) ∧ ((∀ x, 0 ≤ (n3 + (0 : Int)) → zwo ws 121 (n3 + (0 : Int)).toNat = some x → (3 : Int) ≤ x ∧ x ≤ (3 : Int)) ∧ (∀ x, 0 ≤ (n2 + (16 : Int)) → zwo ws 101 (n2 + (16 : Int)).toNat = some x → (4 : Int) ≤ x ∧ x ≤ (4 : Int)) ∧ True) ∧ (True))
        simp only [Int.add_zero]
        exact ⟨⟨⟨by omega, by omega⟩, trivial⟩, ⟨fun x hx0 hx => by have hv := zgv_some hx; omega, fun x hx0 hx => by have hv := zgv_some hx; have hr := zwo_rng hx; omega, trivial⟩, trivial⟩
      · refine zoA_mem (a := ([(4, .ofNat 1, .ofNat 1)], [(121, 3, .ofNat 0, .ofNat 3, .ofNat 3), (101, 2, .ofNat 16, .ofNat 5, .ofNat 5)], [])) (by decide) ?_
        show ((((1 : Int) ≤ n4 ∧ n4 ≤ (1 : Int)) ∧ True) ∧ ((∀ x, 0 ≤ (n3 + (0 : Int)) → zwo ws 121 (n3 + (0 : Int)).toNat = some x → (3 : Int) ≤ x ∧ x ≤ (3 : Int)) ∧ (∀ x, 0 ≤ (n2 + (16 : Int)) → zwo ws 101 (n2 + (16 : Int)).toNat = some x → (5 : Int) ≤ x ∧ x ≤ (5 : Int)) ∧ True) ∧ (True))
        simp only [Int.add_zero]
        exact ⟨⟨⟨by omega, by omega⟩, trivial⟩, ⟨fun x hx0 hx => by have hv := zgv_some hx; omega, fun x hx0 hx => by have hv := zgv_some hx; have hr := zwo_rng hx; omega, trivial⟩, trivial⟩
      · refine zoA_mem (a := ([(4, .ofNat 1, .ofNat 1)], [(121, 3, .ofNat 0, .ofNat 3, .ofNat 3), (101, 2, .ofNat 16, .ofNat 6, .ofNat 2147483647)], [])) (by decide) ?_
        show ((((1 : Int) ≤ n4 ∧ n4 ≤ (1 : Int)) ∧ True) ∧ ((∀ x, 0 ≤ (n3 + (0 : Int)) → zwo ws 121 (n3 + (0 : Int)).toNat = some x → (3 : Int) ≤ x ∧ x ≤ (3 : Int)) ∧ (∀ x, 0 ≤ (n2 + (16 : Int)) → zwo ws 101 (n2 + (16 : Int)).toNat = some x → (6 : Int) ≤ x ∧ x ≤ (2147483647 : Int)) ∧ True) ∧ (True))
        simp only [Int.add_zero]
        exact ⟨⟨⟨by omega, by omega⟩, trivial⟩, ⟨fun x hx0 hx => by have hv := zgv_some hx; omega, fun x hx0 hx => by have hv := zgv_some hx; have hr := zwo_rng hx; omega, trivial⟩, trivial⟩
    · rcases hm with hm | hm | hm | hm | hm | hm | hm | hm
      · refine zoA_mem (a := ([(4, .ofNat 1, .ofNat 1)], [(121, 3, .ofNat 0, .ofNat 4, .ofNat 4), (101, 2, .ofNat 16, .negSucc 2147483647, .negSucc 0)], [])) (by decide) ?_
        show ((((1 : Int) ≤ n4 ∧ n4 ≤ (1 : Int)) ∧ True) ∧ ((∀ x, 0 ≤ (n3 + (0 : Int)) → zwo ws 121 (n3 + (0 : Int)).toNat = some x → (4 : Int) ≤ x ∧ x ≤ (4 : Int)) ∧ (∀ x, 0 ≤ (n2 + (16 : Int)) → zwo ws 101 (n2 + (16 : Int)).toNat = some x → (-2147483648 : Int) ≤ x ∧ x ≤ (-1 : Int)) ∧ True) ∧ (True))
        simp only [Int.add_zero]
        exact ⟨⟨⟨by omega, by omega⟩, trivial⟩, ⟨fun x hx0 hx => by have hv := zgv_some hx; omega, fun x hx0 hx => by have hv := zgv_some hx; have hr := zwo_rng hx; omega, trivial⟩, trivial⟩
      · refine zoA_mem (a := ([(4, .ofNat 1, .ofNat 1)], [(121, 3, .ofNat 0, .ofNat 4, .ofNat 4), (101, 2, .ofNat 16, .ofNat 0, .ofNat 0)], [])) (by decide) ?_
        show ((((1 : Int) ≤ n4 ∧ n4 ≤ (1 : Int)) ∧ True) ∧ ((∀ x, 0 ≤ (n3 + (0 : Int)) → zwo ws 121 (n3 + (0 : Int)).toNat = some x → (4 : Int) ≤ x ∧ x ≤ (4 : Int)) ∧ (∀ x, 0 ≤ (n2 + (16 : Int)) → zwo ws 101 (n2 + (16 : Int)).toNat = some x → (0 : Int) ≤ x ∧ x ≤ (0 : Int)) ∧ True) ∧ (True))
        simp only [Int.add_zero]
        exact ⟨⟨⟨by omega, by omega⟩, trivial⟩, ⟨fun x hx0 hx => by have hv := zgv_some hx; omega, fun x hx0 hx => by have hv := zgv_some hx; have hr := zwo_rng hx; omega, trivial⟩, trivial⟩
      · refine zoA_mem (a := ([(4, .ofNat 1, .ofNat 1)], [(121, 3, .ofNat 0, .ofNat 4, .ofNat 4), (101, 2, .ofNat 16, .ofNat 1, .ofNat 1)], [])) (by decide) ?_
        show ((((1 : Int) ≤ n4 ∧ n4 ≤ (1 : Int)) ∧ True) ∧ ((∀ x, 0 ≤ (n3 + (0 : Int)) → zwo ws 121 (n3 + (0 : Int)).toNat = some x → (4 : Int) ≤ x ∧ x ≤ (4 : Int)) ∧ (∀ x, 0 ≤ (n2 + (16 : Int)) → zwo ws 101 (n2 + (16 : Int)).toNat = some x → (1 : Int) ≤ x ∧ x ≤ (1 : Int)) ∧ True) ∧ (True))
        simp only [Int.add_zero]
        exact ⟨⟨⟨by omega, by omega⟩, trivial⟩, ⟨fun x hx0 hx => by have hv := zgv_some hx; omega, fun x hx0 hx => by have hv := zgv_some hx; have hr := zwo_rng hx; omega, trivial⟩, trivial⟩
      · refine zoA_mem (a := ([(4, .ofNat 1, .ofNat 1)], [(121, 3, .ofNat 0, .ofNat 4, .ofNat 4), (101, 2, .ofNat 16, .ofNat 2, .ofNat 2)], [])) (by decide) ?_
        show ((((1 : Int) ≤ n4 ∧ n4 ≤ (1 : Int)) ∧ True) ∧ ((∀ x, 0 ≤ (n3 + (0 : Int)) → zwo ws 121 (n3 + (0 : Int)).toNat = some x → (4 : Int) ≤ x ∧ x ≤ (4 : Int)) ∧ (∀ x, 0 ≤ (n2 + (16 : Int)) → zwo ws 101 (n2 + (16 : Int)).toNat = some x → (2 : Int) ≤ x ∧ x ≤ (2 : Int)) ∧ True) ∧ (True))
        simp only [Int.add_zero]
        exact ⟨⟨⟨by omega, by omega⟩, trivial⟩, ⟨fun x hx0 hx => by have hv := zgv_some hx; omega, fun x hx0 hx => by have hv := zgv_some hx; have hr := zwo_rng hx; omega, trivial⟩, trivial⟩
      · refine zoA_mem (a := ([(4, .ofNat 1, .ofNat 1)], [(121, 3, .ofNat 0, .ofNat 4, .ofNat 4), (101, 2, .ofNat 16, .ofNat 3, .ofNat 3)], [])) (by decide) ?_
        show ((((1 : Int) ≤ n4 ∧ n4 ≤ (1 : Int)) ∧ True) ∧ ((∀ x, 0 ≤ (n3 + (0 : Int)) → zwo ws 121 (n3 + (0 : Int)).toNat = some x → (4 : Int) ≤ x ∧ x ≤ (4 : Int)) ∧ (∀ x, 0 ≤ (n2 + (16 : Int)) → zwo ws 101 (n2 + (16 : Int)).toNat = some x → (3 : Int) ≤ x ∧ x ≤ (3 : Int)) ∧ True) ∧ (True))
        simp only [Int.add_zero]
        exact ⟨⟨⟨by omega, by omega⟩, trivial⟩, ⟨fun x hx0 hx => by have hv := zgv_some hx; omega, fun x hx0 hx => by have hv := zgv_some hx; have hr := zwo_rng hx; omega, trivial⟩, trivial⟩
      · refine zoA_mem (a := ([(4, .ofNat 1, .ofNat 1)], [(121, 3, .ofNat 0, .ofNat 4, .ofNat 4), (101, 2, .ofNat 16, .ofNat 4, .ofNat 4)], [(1007, 2, .ofNat 0, 3, .ofNat 0)])) (by decide) ?_
        show ((((1 : Int) ≤ n4 ∧ n4 ≤ (1 : Int)) ∧ True) ∧ ((∀ x, 0 ≤ (n3 + (0 : Int)) → zwo ws 121 (n3 + (0 : Int)).toNat = some x → (4 : Int) ≤ x ∧ x ≤ (4 : Int)) ∧ (∀ x, 0 ≤ (n2 + (16 : Int)) → zwo ws 101 (n2 + (16 : Int)).toNat = some x → (4 : Int) ≤ x ∧ x ≤ (4 : Int)) ∧ True) ∧ (zj7 (n2 + (0 : Int)) (n3 + (0 : Int)) (zwo ws) ∧ True))
        simp only [Int.add_zero]
        exact ⟨⟨⟨by omega, by omega⟩, trivial⟩, ⟨fun x hx0 hx => by have hv := zgv_some hx; omega, fun x hx0 hx => by have hv := zgv_some hx; have hr := zwo_rng hx; omega, trivial⟩, ⟨⟨n2.toNat, n3.toNat, by omega, by omega, by omega, by omega, fun b hb2 hk => by
          have eb : b = 1 := by omega
          subst eb
          have e7 : zgv (zwo ws) 101 (16 * 1 + n2.toNat) = zgv (zwo ws) 121 n3.toNat := by
            rw [show 16 * 1 + n2.toNat = (n2 + (16 : Int)).toNat by omega]
            omega
          exact ⟨e7, fun hn k hk5 hl => hj 1 hb2 hk n2.toNat (by omega) hn k hk5 (by rw [e7]; exact hl)⟩⟩, trivial⟩⟩
      · refine zoA_mem (a := ([(4, .ofNat 1, .ofNat 1)], [(121, 3, .ofNat 0, .ofNat 4, .ofNat 4), (101, 2, .ofNat 16, .ofNat 5, .ofNat 5)], [])) (by decide) ?_
        show ((((1 : Int) ≤ n4 ∧ n4 ≤ (1 : Int)) ∧ True) ∧ ((∀ x, 0 ≤ (n3 + (0 : Int)) → zwo ws 121 (n3 + (0 : Int)).toNat = some x → (4 : Int) ≤ x ∧ x ≤ (4 : Int)) ∧ (∀ x, 0 ≤ (n2 + (16 : Int)) → zwo ws 101 (n2 + (16 : Int)).toNat = some x → (5 : Int) ≤ x ∧ x ≤ (5 : Int)) ∧ True) ∧ (True))
        simp only [Int.add_zero]
        exact ⟨⟨⟨by omega, by omega⟩, trivial⟩, ⟨fun x hx0 hx => by have hv := zgv_some hx; omega, fun x hx0 hx => by have hv := zgv_some hx; have hr := zwo_rng hx; omega, trivial⟩, trivial⟩
      · refine zoA_mem (a := ([(4, .ofNat 1, .ofNat 1)], [(121, 3, .ofNat 0, .ofNat 4, .ofNat 4), (101, 2, .ofNat 16, .ofNat 6, .ofNat 2147483647)], [])) (by decide) ?_
        show ((((1 : Int) ≤ n4 ∧ n4 ≤ (1 : Int)) ∧ True) ∧ ((∀ x, 0 ≤ (n3 + (0 : Int)) → zwo ws 121 (n3 + (0 : Int)).toNat = some x → (4 : Int) ≤ x ∧ x ≤ (4 : Int)) ∧ (∀ x, 0 ≤ (n2 + (16 : Int)) → zwo ws 101 (n2 + (16 : Int)).toNat = some x → (6 : Int) ≤ x ∧ x ≤ (2147483647 : Int)) ∧ True) ∧ (True))
        simp only [Int.add_zero]
        exact ⟨⟨⟨by omega, by omega⟩, trivial⟩, ⟨fun x hx0 hx => by have hv := zgv_some hx; omega, fun x hx0 hx => by have hv := zgv_some hx; have hr := zwo_rng hx; omega, trivial⟩, trivial⟩
    · rcases hm with hm | hm | hm | hm | hm | hm | hm | hm
      · refine zoA_mem (a := ([(4, .ofNat 1, .ofNat 1)], [(121, 3, .ofNat 0, .ofNat 5, .ofNat 5), (101, 2, .ofNat 16, .negSucc 2147483647, .negSucc 0)], [])) (by decide) ?_
        show ((((1 : Int) ≤ n4 ∧ n4 ≤ (1 : Int)) ∧ True) ∧ ((∀ x, 0 ≤ (n3 + (0 : Int)) → zwo ws 121 (n3 + (0 : Int)).toNat = some x → (5 : Int) ≤ x ∧ x ≤ (5 : Int)) ∧ (∀ x, 0 ≤ (n2 + (16 : Int)) → zwo ws 101 (n2 + (16 : Int)).toNat = some x → (-2147483648 : Int) ≤ x ∧ x ≤ (-1 : Int)) ∧ True) ∧ (True))
        simp only [Int.add_zero]
        exact ⟨⟨⟨by omega, by omega⟩, trivial⟩, ⟨fun x hx0 hx => by have hv := zgv_some hx; omega, fun x hx0 hx => by have hv := zgv_some hx; have hr := zwo_rng hx; omega, trivial⟩, trivial⟩
      · refine zoA_mem (a := ([(4, .ofNat 1, .ofNat 1)], [(121, 3, .ofNat 0, .ofNat 5, .ofNat 5), (101, 2, .ofNat 16, .ofNat 0, .ofNat 0)], [])) (by decide) ?_
        show ((((1 : Int) ≤ n4 ∧ n4 ≤ (1 : Int)) ∧ True) ∧ ((∀ x, 0 ≤ (n3 + (0 : Int)) → zwo ws 121 (n3 + (0 : Int)).toNat = some x → (5 : Int) ≤ x ∧ x ≤ (5 : Int)) ∧ (∀ x, 0 ≤ (n2 + (16 : Int)) → zwo ws 101 (n2 + (16 : Int)).toNat = some x → (0 : Int) ≤ x ∧ x ≤ (0 : Int)) ∧ True) ∧ (True))
        simp only [Int.add_zero]
        exact ⟨⟨⟨by omega, by omega⟩, trivial⟩, ⟨fun x hx0 hx => by have hv := zgv_some hx; omega, fun x hx0 hx => by have hv := zgv_some hx; have hr := zwo_rng hx; omega, trivial⟩, trivial⟩
      · refine zoA_mem (a := ([(4, .ofNat 1, .ofNat 1)], [(121, 3, .ofNat 0, .ofNat 5, .ofNat 5), (101, 2, .ofNat 16, .ofNat 1, .ofNat 1)], [])) (by decide) ?_
        show ((((1 : Int) ≤ n4 ∧ n4 ≤ (1 : Int)) ∧ True) ∧ ((∀ x, 0 ≤ (n3 + (0 : Int)) → zwo ws 121 (n3 + (0 : Int)).toNat = some x → (5 : Int) ≤ x ∧ x ≤ (5 : Int)) ∧ (∀ x, 0 ≤ (n2 + (16 : Int)) → zwo ws 101 (n2 + (16 : Int)).toNat = some x → (1 : Int) ≤ x ∧ x ≤ (1 : Int)) ∧ True) ∧ (True))
        simp only [Int.add_zero]
        exact ⟨⟨⟨by omega, by omega⟩, trivial⟩, ⟨fun x hx0 hx => by have hv := zgv_some hx; omega, fun x hx0 hx => by have hv := zgv_some hx; have hr := zwo_rng hx; omega, trivial⟩, trivial⟩
      · refine zoA_mem (a := ([(4, .ofNat 1, .ofNat 1)], [(121, 3, .ofNat 0, .ofNat 5, .ofNat 5), (101, 2, .ofNat 16, .ofNat 2, .ofNat 2)], [])) (by decide) ?_
        show ((((1 : Int) ≤ n4 ∧ n4 ≤ (1 : Int)) ∧ True) ∧ ((∀ x, 0 ≤ (n3 + (0 : Int)) → zwo ws 121 (n3 + (0 : Int)).toNat = some x → (5 : Int) ≤ x ∧ x ≤ (5 : Int)) ∧ (∀ x, 0 ≤ (n2 + (16 : Int)) → zwo ws 101 (n2 + (16 : Int)).toNat = some x → (2 : Int) ≤ x ∧ x ≤ (2 : Int)) ∧ True) ∧ (True))
        simp only [Int.add_zero]
        exact ⟨⟨⟨by omega, by omega⟩, trivial⟩, ⟨fun x hx0 hx => by have hv := zgv_some hx; omega, fun x hx0 hx => by have hv := zgv_some hx; have hr := zwo_rng hx; omega, trivial⟩, trivial⟩
      · refine zoA_mem (a := ([(4, .ofNat 1, .ofNat 1)], [(121, 3, .ofNat 0, .ofNat 5, .ofNat 5), (101, 2, .ofNat 16, .ofNat 3, .ofNat 3)], [])) (by decide) ?_
        show ((((1 : Int) ≤ n4 ∧ n4 ≤ (1 : Int)) ∧ True) ∧ ((∀ x, 0 ≤ (n3 + (0 : Int)) → zwo ws 121 (n3 + (0 : Int)).toNat = some x → (5 : Int) ≤ x ∧ x ≤ (5 : Int)) ∧ (∀ x, 0 ≤ (n2 + (16 : Int)) → zwo ws 101 (n2 + (16 : Int)).toNat = some x → (3 : Int) ≤ x ∧ x ≤ (3 : Int)) ∧ True) ∧ (True))
        simp only [Int.add_zero]
        exact ⟨⟨⟨by omega, by omega⟩, trivial⟩, ⟨fun x hx0 hx => by have hv := zgv_some hx; omega, fun x hx0 hx => by have hv := zgv_some hx; have hr := zwo_rng hx; omega, trivial⟩, trivial⟩
      · refine zoA_mem (a := ([(4, .ofNat 1, .ofNat 1)], [(121, 3, .ofNat 0, .ofNat 5, .ofNat 5), (101, 2, .ofNat 16, .ofNat 4, .ofNat 4)], [])) (by decide) ?_
        show ((((1 : Int) ≤ n4 ∧ n4 ≤ (1 : Int)) ∧ True) ∧ ((∀ x, 0 ≤ (n3 + (0 : Int)) → zwo ws 121 (n3 + (0 : Int)).toNat = some x → (5 : Int) ≤ x ∧ x ≤ (5 : Int)) ∧ (∀ x, 0 ≤ (n2 + (16 : Int)) → zwo ws 101 (n2 + (16 : Int)).toNat = some x → (4 : Int) ≤ x ∧ x ≤ (4 : Int)) ∧ True) ∧ (True))
        simp only [Int.add_zero]
        exact ⟨⟨⟨by omega, by omega⟩, trivial⟩, ⟨fun x hx0 hx => by have hv := zgv_some hx; omega, fun x hx0 hx => by have hv := zgv_some hx; have hr := zwo_rng hx; omega, trivial⟩, trivial⟩
      · refine zoA_mem (a := ([(4, .ofNat 1, .ofNat 1)], [(121, 3, .ofNat 0, .ofNat 5, .ofNat 5), (101, 2, .ofNat 16, .ofNat 5, .ofNat 5)], [(1007, 2, .ofNat 0, 3, .ofNat 0)])) (by decide) ?_
        show ((((1 : Int) ≤ n4 ∧ n4 ≤ (1 : Int)) ∧ True) ∧ ((∀ x, 0 ≤ (n3 + (0 : Int)) → zwo ws 121 (n3 + (0 : Int)).toNat = some x → (5 : Int) ≤ x ∧ x ≤ (5 : Int)) ∧ (∀ x, 0 ≤ (n2 + (16 : Int)) → zwo ws 101 (n2 + (16 : Int)).toNat = some x → (5 : Int) ≤ x ∧ x ≤ (5 : Int)) ∧ True) ∧ (zj7 (n2 + (0 : Int)) (n3 + (0 : Int)) (zwo ws) ∧ True))
        simp only [Int.add_zero]
        exact ⟨⟨⟨by omega, by omega⟩, trivial⟩, ⟨fun x hx0 hx => by have hv := zgv_some hx; omega, fun x hx0 hx => by have hv := zgv_some hx; have hr := zwo_rng hx; omega, trivial⟩, ⟨⟨n2.toNat, n3.toNat, by omega, by omega, by omega, by omega, fun b hb2 hk => by
          have eb : b = 1 := by omega
          subst eb
          have e7 : zgv (zwo ws) 101 (16 * 1 + n2.toNat) = zgv (zwo ws) 121 n3.toNat := by
            rw [show 16 * 1 + n2.toNat = (n2 + (16 : Int)).toNat by omega]
            omega
          exact ⟨e7, fun hn k hk5 hl => hj 1 hb2 hk n2.toNat (by omega) hn k hk5 (by rw [e7]; exact hl)⟩⟩, trivial⟩⟩
      · refine zoA_mem (a := ([(4, .ofNat 1, .ofNat 1)], [(121, 3, .ofNat 0, .ofNat 5, .ofNat 5), (101, 2, .ofNat 16, .ofNat 6, .ofNat 2147483647)], [])) (by decide) ?_
        show ((((1 : Int) ≤ n4 ∧ n4 ≤ (1 : Int)) ∧ True) ∧ ((∀ x, 0 ≤ (n3 + (0 : Int)) → zwo ws 121 (n3 + (0 : Int)).toNat = some x → (5 : Int) ≤ x ∧ x ≤ (5 : Int)) ∧ (∀ x, 0 ≤ (n2 + (16 : Int)) → zwo ws 101 (n2 + (16 : Int)).toNat = some x → (6 : Int) ≤ x ∧ x ≤ (2147483647 : Int)) ∧ True) ∧ (True))
        simp only [Int.add_zero]
        exact ⟨⟨⟨by omega, by omega⟩, trivial⟩, ⟨fun x hx0 hx => by have hv := zgv_some hx; omega, fun x hx0 hx => by have hv := zgv_some hx; have hr := zwo_rng hx; omega, trivial⟩, trivial⟩
theorem zrn_9 (g : yG) : zRuN (zJf g) zru_9 := by
  intro ws z w hj n2 s2 n3 s3 n4 s4 n5 s5 n6 s6 n7 s7 l0 u0 l1 u1 l2 u2 g0 g1 g2 g3
  replace hj : zj7 z w (zwo ws) := hj.resolve_left (by decide)
  clear s2
  clear s3
  replace s4 : zwo ws 88 4 = some n4 := s4
  replace s5 : 0 ≤ w ∧ zwo ws 121 (w).toNat = some n5 := s5
  replace s6 : 0 ≤ n4 ∧ zwo ws 94 (n4).toNat = some n6 := s6
  replace s7 : n7 = (0 : Int) := s7
  replace l0 : (0 : Int) ≤ n2 := l0
  replace u0 : n2 ≤ (15 : Int) := u0
  replace l1 : (0 : Int) ≤ n3 := l1
  replace u1 : n3 ≤ (4 : Int) := u1
  replace l2 : (0 : Int) ≤ n4 := l2
  replace u2 : n4 ≤ (1 : Int) := u2
  replace g0 : n2 + (0 : Int) ≤ z := g0
  replace g1 : z + (0 : Int) ≤ n2 := g1
  replace g2 : n3 + (1 : Int) ≤ n5 := g2
  replace g3 : n2 + (1 : Int) ≤ n6 := g3
  try simp only [Int.add_zero, Int.zero_add] at *
  have key0 : ((List.range 2).all fun b => (List.range 16).all fun a => (List.range 5).all fun k => decide ((([(4, .ofNat b, .ofNat b), (2, .ofNat a, .ofNat a), (3, .ofNat k, .ofNat k)], [(102, 7, .ofNat (80 * b + 5 * a + k), .ofNat 0, .ofNat 27)], []) : zAl) ∈ zru_9.2.2.2.2.2)) = true := by decide +kernel
  have key := fun b (hb : b < 2) a (ha : a < 16) k (hk : k < 5) => of_decide_eq_true (List.all_eq_true.mp (List.all_eq_true.mp (List.all_eq_true.mp key0 b (List.mem_range.mpr hb)) a (List.mem_range.mpr ha)) k (List.mem_range.mpr hk))
  have hb := zgv_some s4
  have h5 := zgv_some s5.2
  have h6 := zgv_some s6.2
  obtain ⟨a, s, ha, hs, e1, e2, h⟩ := hj
  have es : w.toNat = s := by omega
  rw [es] at h5
  have ea : n2.toNat = a := by omega
  refine zoA_mem (key n4.toNat (by omega) n2.toNat (by omega) n3.toNat (by omega)) ⟨⟨⟨?_, ?_⟩, ⟨?_, ?_⟩, ⟨?_, ?_⟩, trivial⟩, ⟨fun x hx0 hx => ?_, trivial⟩, trivial⟩
  · show ((n4.toNat : Nat) : Int) ≤ n4; omega
  · show n4 ≤ ((n4.toNat : Nat) : Int); omega
  · show ((n2.toNat : Nat) : Int) ≤ n2; omega
  · show n2 ≤ ((n2.toNat : Nat) : Int); omega
  · show ((n3.toNat : Nat) : Int) ≤ n3; omega
  · show n3 ≤ ((n3.toNat : Nat) : Int); omega
  · have hx' : zwo ws 102 (n7 + ((80 * n4.toNat + 5 * n2.toNat + n3.toNat : Nat) : Int)).toNat = some x := hx
    rw [show (n7 + ((80 * n4.toNat + 5 * n2.toNat + n3.toNat : Nat) : Int)).toNat = 80 * n4.toNat + 5 * a + n3.toNat by omega] at hx'
    have hv := zgv_some hx'
    have h7 := (h n4.toNat (by omega) (by omega)).2 (by omega) n3.toNat (by omega) (by omega)
    rw [hv] at h7
    exact h7
theorem zrn_10 (g : yG) : zRuN (zJf g) zru_10 := by
  intro ws z w hj n2 s2 n3 s3 l0 u0
  replace hj : zj0 (zwo ws) := hj.resolve_left (by decide)
  replace s2 : zwo ws 88 2 = some n2 := s2
  replace s3 : n3 = (0 : Int) := s3
  replace l0 : (0 : Int) ≤ n2 := l0
  replace u0 : n2 ≤ (15 : Int) := u0
  show ((True) ∧ (True) ∧ (zj8 (n2 + (0 : Int)) (zwo ws) ∧ True)) ∨ False
  try simp only [Int.add_zero, Int.zero_add] at *
  exact Or.inl ⟨trivial, trivial, ⟨fun s hs _ => hj s hs, trivial⟩⟩
theorem zrn_11 (g : yG) : zRuN (zJf g) zru_11 := by
  intro ws z w hj n2 s2 x0 o0 p0 v0 t0 x1 o1 p1 v1 t1 x2 o2 p2 v2 t2
  replace hj : zj8 z (zwo ws) := hj.resolve_left (by decide)
  replace s2 : n2 = (0 : Int) := s2
  replace o0 : 0 ≤ (z + (0 : Int)) := o0
  replace p0 : zwo ws 121 (z + (0 : Int)).toNat = some x0 := p0
  replace v0 : (2 : Int) ≤ x0 := v0
  replace t0 : x0 ≤ (2 : Int) := t0
  replace o1 : 0 ≤ (z + (0 : Int)) := o1
  replace p1 : zwo ws 124 (z + (0 : Int)).toNat = some x1 := p1
  replace v1 : (1 : Int) ≤ x1 := v1
  replace t1 : x1 ≤ (1 : Int) := t1
  replace o2 : 0 ≤ (z + (0 : Int)) := o2
  replace p2 : zwo ws 120 (z + (0 : Int)).toNat = some x2 := p2
  replace v2 : (0 : Int) ≤ x2 := v2
  replace t2 : x2 ≤ (18 : Int) := t2
  show ((True) ∧ (True) ∧ (zj0 (zwo ws) ∧ True)) ∨ False
  try simp only [Int.add_zero, Int.zero_add] at *
  refine Or.inl ⟨trivial, trivial, ⟨fun s hs => ?_, trivial⟩⟩
  by_cases e : (s : Int) = z
  · have e2 : z.toNat = s := by omega
    rw [e2] at p0 p1 p2
    have a := zgv_some p0
    have b := zgv_some p1
    have c := zgv_some p2
    unfold zj_geo
    omega
  · exact hj s hs e
theorem zrn_12 (g : yG) : zRuN (zJf g) zru_12 := by
  intro ws z w hj n2 s2 x0 o0 p0 v0 t0 x1 o1 p1 v1 t1 x2 o2 p2 v2 t2
  replace hj : zj8 z (zwo ws) := hj.resolve_left (by decide)
  replace s2 : n2 = (0 : Int) := s2
  replace o0 : 0 ≤ (z + (0 : Int)) := o0
  replace p0 : zwo ws 121 (z + (0 : Int)).toNat = some x0 := p0
  replace v0 : (3 : Int) ≤ x0 := v0
  replace t0 : x0 ≤ (3 : Int) := t0
  replace o1 : 0 ≤ (z + (0 : Int)) := o1
  replace p1 : zwo ws 124 (z + (0 : Int)).toNat = some x1 := p1
  replace v1 : (1 : Int) ≤ x1 := v1
  replace t1 : x1 ≤ (1 : Int) := t1
  replace o2 : 0 ≤ (z + (0 : Int)) := o2
  replace p2 : zwo ws 120 (z + (0 : Int)).toNat = some x2 := p2
  replace v2 : (0 : Int) ≤ x2 := v2
  replace t2 : x2 ≤ (17 : Int) := t2
  show ((True) ∧ (True) ∧ (zj0 (zwo ws) ∧ True)) ∨ False
  try simp only [Int.add_zero, Int.zero_add] at *
  refine Or.inl ⟨trivial, trivial, ⟨fun s hs => ?_, trivial⟩⟩
  by_cases e : (s : Int) = z
  · have e2 : z.toNat = s := by omega
    rw [e2] at p0 p1 p2
    have a := zgv_some p0
    have b := zgv_some p1
    have c := zgv_some p2
    unfold zj_geo
    omega
  · exact hj s hs e
theorem zrn_13 (g : yG) : zRuN (zJf g) zru_13 := by
  intro ws z w hj n2 s2 x0 o0 p0 v0 t0 x1 o1 p1 v1 t1 x2 o2 p2 v2 t2
  replace hj : zj8 z (zwo ws) := hj.resolve_left (by decide)
  replace s2 : n2 = (0 : Int) := s2
  replace o0 : 0 ≤ (z + (0 : Int)) := o0
  replace p0 : zwo ws 121 (z + (0 : Int)).toNat = some x0 := p0
  replace v0 : (4 : Int) ≤ x0 := v0
  replace t0 : x0 ≤ (4 : Int) := t0
  replace o1 : 0 ≤ (z + (0 : Int)) := o1
  replace p1 : zwo ws 124 (z + (0 : Int)).toNat = some x1 := p1
  replace v1 : (1 : Int) ≤ x1 := v1
  replace t1 : x1 ≤ (1 : Int) := t1
  replace o2 : 0 ≤ (z + (0 : Int)) := o2
  replace p2 : zwo ws 120 (z + (0 : Int)).toNat = some x2 := p2
  replace v2 : (0 : Int) ≤ x2 := v2
  replace t2 : x2 ≤ (16 : Int) := t2
  show ((True) ∧ (True) ∧ (zj0 (zwo ws) ∧ True)) ∨ False
  try simp only [Int.add_zero, Int.zero_add] at *
  refine Or.inl ⟨trivial, trivial, ⟨fun s hs => ?_, trivial⟩⟩
  by_cases e : (s : Int) = z
  · have e2 : z.toNat = s := by omega
    rw [e2] at p0 p1 p2
    have a := zgv_some p0
    have b := zgv_some p1
    have c := zgv_some p2
    unfold zj_geo
    omega
  · exact hj s hs e
theorem zrn_14 (g : yG) : zRuN (zJf g) zru_14 := by
  intro ws z w hj n2 s2 x0 o0 p0 v0 t0 x1 o1 p1 v1 t1 x2 o2 p2 v2 t2
  replace hj : zj8 z (zwo ws) := hj.resolve_left (by decide)
  replace s2 : n2 = (0 : Int) := s2
  replace o0 : 0 ≤ (z + (0 : Int)) := o0
  replace p0 : zwo ws 121 (z + (0 : Int)).toNat = some x0 := p0
  replace v0 : (5 : Int) ≤ x0 := v0
  replace t0 : x0 ≤ (5 : Int) := t0
  replace o1 : 0 ≤ (z + (0 : Int)) := o1
  replace p1 : zwo ws 124 (z + (0 : Int)).toNat = some x1 := p1
  replace v1 : (1 : Int) ≤ x1 := v1
  replace t1 : x1 ≤ (1 : Int) := t1
  replace o2 : 0 ≤ (z + (0 : Int)) := o2
  replace p2 : zwo ws 120 (z + (0 : Int)).toNat = some x2 := p2
  replace v2 : (0 : Int) ≤ x2 := v2
  replace t2 : x2 ≤ (15 : Int) := t2
  show ((True) ∧ (True) ∧ (zj0 (zwo ws) ∧ True)) ∨ False
  try simp only [Int.add_zero, Int.zero_add] at *
  refine Or.inl ⟨trivial, trivial, ⟨fun s hs => ?_, trivial⟩⟩
  by_cases e : (s : Int) = z
  · have e2 : z.toNat = s := by omega
    rw [e2] at p0 p1 p2
    have a := zgv_some p0
    have b := zgv_some p1
    have c := zgv_some p2
    unfold zj_geo
    omega
  · exact hj s hs e
theorem zrn_15 (g : yG) : zRuN (zJf g) zru_15 := by
  intro ws z w hj n2 s2 x0 o0 p0 v0 t0 x1 o1 p1 v1 t1 x2 o2 p2 v2 t2
  replace hj : zj8 z (zwo ws) := hj.resolve_left (by decide)
  replace s2 : n2 = (0 : Int) := s2
  replace o0 : 0 ≤ (z + (0 : Int)) := o0
  replace p0 : zwo ws 121 (z + (0 : Int)).toNat = some x0 := p0
  replace v0 : (2 : Int) ≤ x0 := v0
  replace t0 : x0 ≤ (2 : Int) := t0
  replace o1 : 0 ≤ (z + (0 : Int)) := o1
  replace p1 : zwo ws 124 (z + (0 : Int)).toNat = some x1 := p1
  replace v1 : (0 : Int) ≤ x1 := v1
  replace t1 : x1 ≤ (0 : Int) := t1
  replace o2 : 0 ≤ (z + (0 : Int)) := o2
  replace p2 : zwo ws 120 (z + (0 : Int)).toNat = some x2 := p2
  replace v2 : (0 : Int) ≤ x2 := v2
  replace t2 : x2 ≤ (14 : Int) := t2
  show ((True) ∧ (True) ∧ (zj0 (zwo ws) ∧ True)) ∨ False
  try simp only [Int.add_zero, Int.zero_add] at *
  refine Or.inl ⟨trivial, trivial, ⟨fun s hs => ?_, trivial⟩⟩
  by_cases e : (s : Int) = z
  · have e2 : z.toNat = s := by omega
    rw [e2] at p0 p1 p2
    have a := zgv_some p0
    have b := zgv_some p1
    have c := zgv_some p2
    unfold zj_geo
    omega
  · exact hj s hs e
theorem zrn_16 (g : yG) : zRuN (zJf g) zru_16 := by
  intro ws z w hj n2 s2 x0 o0 p0 v0 t0 x1 o1 p1 v1 t1 x2 o2 p2 v2 t2
  replace hj : zj8 z (zwo ws) := hj.resolve_left (by decide)
  replace s2 : n2 = (0 : Int) := s2
  replace o0 : 0 ≤ (z + (0 : Int)) := o0
  replace p0 : zwo ws 121 (z + (0 : Int)).toNat = some x0 := p0
  replace v0 : (3 : Int) ≤ x0 := v0
  replace t0 : x0 ≤ (3 : Int) := t0
  replace o1 : 0 ≤ (z + (0 : Int)) := o1
  replace p1 : zwo ws 124 (z + (0 : Int)).toNat = some x1 := p1
  replace v1 : (0 : Int) ≤ x1 := v1
  replace t1 : x1 ≤ (0 : Int) := t1
  replace o2 : 0 ≤ (z + (0 : Int)) := o2
  replace p2 : zwo ws 120 (z + (0 : Int)).toNat = some x2 := p2
  replace v2 : (0 : Int) ≤ x2 := v2
  replace t2 : x2 ≤ (9 : Int) := t2
  show ((True) ∧ (True) ∧ (zj0 (zwo ws) ∧ True)) ∨ False
  try simp only [Int.add_zero, Int.zero_add] at *
  refine Or.inl ⟨trivial, trivial, ⟨fun s hs => ?_, trivial⟩⟩
  by_cases e : (s : Int) = z
  · have e2 : z.toNat = s := by omega
    rw [e2] at p0 p1 p2
    have a := zgv_some p0
    have b := zgv_some p1
    have c := zgv_some p2
    unfold zj_geo
    omega
  · exact hj s hs e
theorem zrn_17 (g : yG) : zRuN (zJf g) zru_17 := by
  intro ws z w hj n2 s2 x0 o0 p0 v0 t0 x1 o1 p1 v1 t1 x2 o2 p2 v2 t2
  replace hj : zj8 z (zwo ws) := hj.resolve_left (by decide)
  replace s2 : n2 = (0 : Int) := s2
  replace o0 : 0 ≤ (z + (0 : Int)) := o0
  replace p0 : zwo ws 121 (z + (0 : Int)).toNat = some x0 := p0
  replace v0 : (4 : Int) ≤ x0 := v0
  replace t0 : x0 ≤ (4 : Int) := t0
  replace o1 : 0 ≤ (z + (0 : Int)) := o1
  replace p1 : zwo ws 124 (z + (0 : Int)).toNat = some x1 := p1
  replace v1 : (0 : Int) ≤ x1 := v1
  replace t1 : x1 ≤ (0 : Int) := t1
  replace o2 : 0 ≤ (z + (0 : Int)) := o2
  replace p2 : zwo ws 120 (z + (0 : Int)).toNat = some x2 := p2
  replace v2 : (0 : Int) ≤ x2 := v2
  replace t2 : x2 ≤ (4 : Int) := t2
  show ((True) ∧ (True) ∧ (zj0 (zwo ws) ∧ True)) ∨ False
  try simp only [Int.add_zero, Int.zero_add] at *
  refine Or.inl ⟨trivial, trivial, ⟨fun s hs => ?_, trivial⟩⟩
  by_cases e : (s : Int) = z
  · have e2 : z.toNat = s := by omega
    rw [e2] at p0 p1 p2
    have a := zgv_some p0
    have b := zgv_some p1
    have c := zgv_some p2
    unfold zj_geo
    omega
  · exact hj s hs e
theorem zrn_18 (g : yG) : zRuN (zJf g) zru_18 := by
  intro ws z w hj n2 s2 n3 s3 n4 s4 n5 s5 n6 s6 l0 u0 l1 u1 l2 u2 x0 o0 p0 v0 t0
  replace hj : zj0 (zwo ws) := hj.resolve_left (by decide)
  clear s2
  replace s3 : 0 ≤ n2 ∧ zwo ws 120 (n2).toNat = some n3 := s3
  replace s4 : zwo ws 88 4 = some n4 := s4
  replace s5 : n5 = (0 : Int) := s5
  clear s6
  replace l0 : (0 : Int) ≤ n2 := l0
  replace u0 : n2 ≤ (15 : Int) := u0
  replace l1 : (0 : Int) ≤ n4 := l1
  replace u1 : n4 ≤ (1 : Int) := u1
  replace l2 : (0 : Int) ≤ n6 := l2
  replace u2 : n6 ≤ (0 : Int) := u2
  replace o0 : 0 ≤ (n4 + (0 : Int)) := o0
  replace p0 : zwo ws 92 (n4 + (0 : Int)).toNat = some x0 := p0
  replace v0 : (2 : Int) ≤ x0 := v0
  replace t0 : x0 ≤ (5 : Int) := t0
  show ((True) ∧ ((∀ x, 0 ≤ (n2 + (0 : Int)) → zwo ws 121 (n2 + (0 : Int)).toNat = some x → (0 : Int) ≤ x ∧ x ≤ (0 : Int)) ∧ True) ∧ (True)) ∨ ((True) ∧ ((∀ x, 0 ≤ (n2 + (0 : Int)) → zwo ws 121 (n2 + (0 : Int)).toNat = some x → (1 : Int) ≤ x ∧ x ≤ (1 : Int)) ∧ True) ∧ (zj15 0 (n2 + (0 : Int)) (n3 + (0 : Int)) (zwo ws) ∧ True)) ∨ ((True) ∧ ((∀ x, 0 ≤ (n2 + (0 : Int)) → zwo ws 121 (n2 + (0 : Int)).toNat = some x → (2 : Int) ≤ x ∧ x ≤ (2 : Int)) ∧ (∀ x, 0 ≤ (n2 + (0 : Int)) → zwo ws 124 (n2 + (0 : Int)).toNat = some x → (1 : Int) ≤ x ∧ x ≤ (1 : Int)) ∧ (∀ x, 0 ≤ (n2 + (0 : Int)) → zwo ws 120 (n2 + (0 : Int)).toNat = some x → (0 : Int) ≤ x ∧ x ≤ (18 : Int)) ∧ True) ∧ (zj15 0 (n2 + (0 : Int)) (n3 + (0 : Int)) (zwo ws) ∧ True)) ∨ ((True) ∧ ((∀ x, 0 ≤ (n2 + (0 : Int)) → zwo ws 121 (n2 + (0 : Int)).toNat = some x → (3 : Int) ≤ x ∧ x ≤ (3 : Int)) ∧ (∀ x, 0 ≤ (n2 + (0 : Int)) → zwo ws 124 (n2 + (0 : Int)).toNat = some x → (1 : Int) ≤ x ∧ x ≤ (1 : Int)) ∧ (∀ x, 0 ≤ (n2 + (0 : Int)) → zwo ws 120 (n2 + (0 : Int)).toNat = some x → (0 : Int) ≤ x ∧ x ≤ (17 : Int)) ∧ True) ∧ (zj15 0 (n2 + (0 : Int)) (n3 + (0 : Int)) (zwo ws) ∧ True)) ∨ ((True) ∧ ((∀ x, 0 ≤ (n2 + (0 : Int)) → zwo ws 121 (n2 + (0 : Int)).toNat = some x → (4 : Int) ≤ x ∧ x ≤ (4 : Int)) ∧ (∀ x, 0 ≤ (n2 + (0 : Int)) → zwo ws 124 (n2 + (0 : Int)).toNat = some x → (1 : Int) ≤ x ∧ x ≤ (1 : Int)) ∧ (∀ x, 0 ≤ (n2 + (0 : Int)) → zwo ws 120 (n2 + (0 : Int)).toNat = some x → (0 : Int) ≤ x ∧ x ≤ (16 : Int)) ∧ True) ∧ (zj15 0 (n2 + (0 : Int)) (n3 + (0 : Int)) (zwo ws) ∧ True)) ∨ ((True) ∧ ((∀ x, 0 ≤ (n2 + (0 : Int)) → zwo ws 121 (n2 + (0 : Int)).toNat = some x → (5 : Int) ≤ x ∧ x ≤ (5 : Int)) ∧ (∀ x, 0 ≤ (n2 + (0 : Int)) → zwo ws 124 (n2 + (0 : Int)).toNat = some x → (1 : Int) ≤ x ∧ x ≤ (1 : Int)) ∧ (∀ x, 0 ≤ (n2 + (0 : Int)) → zwo ws 120 (n2 + (0 : Int)).toNat = some x → (0 : Int) ≤ x ∧ x ≤ (15 : Int)) ∧ True) ∧ (zj15 0 (n2 + (0 : Int)) (n3 + (0 : Int)) (zwo ws) ∧ True)) ∨ ((((0 : Int) ≤ n4 ∧ n4 ≤ (0 : Int)) ∧ True) ∧ ((∀ x, 0 ≤ (n2 + (0 : Int)) → zwo ws 121 (n2 + (0 : Int)).toNat = some x → (2 : Int) ≤ x ∧ x ≤ (2 : Int)) ∧ (∀ x, 0 ≤ (n2 + (0 : Int)) → zwo ws 124 (n2 + (0 : Int)).toNat = some x → (0 : Int) ≤ x ∧ x ≤ (0 : Int)) ∧ (∀ x, 0 ≤ (n2 + (0 : Int)) → zwo ws 120 (n2 + (0 : Int)).toNat = some x → (0 : Int) ≤ x ∧ x ≤ (14 : Int)) ∧ (∀ x, 0 ≤ (n5 + (0 : Int)) → zwo ws 92 (n5 + (0 : Int)).toNat = some x → (2 : Int) ≤ x ∧ x ≤ (2 : Int)) ∧ True) ∧ (zj15 0 (n2 + (0 : Int)) (n3 + (0 : Int)) (zwo ws) ∧ True)) ∨ ((((1 : Int) ≤ n4 ∧ n4 ≤ (1 : Int)) ∧ True) ∧ ((∀ x, 0 ≤ (n2 + (0 : Int)) → zwo ws 121 (n2 + (0 : Int)).toNat = some x → (2 : Int) ≤ x ∧ x ≤ (2 : Int)) ∧ (∀ x, 0 ≤ (n2 + (0 : Int)) → zwo ws 124 (n2 + (0 : Int)).toNat = some x → (0 : Int) ≤ x ∧ x ≤ (0 : Int)) ∧ (∀ x, 0 ≤ (n2 + (0 : Int)) → zwo ws 120 (n2 + (0 : Int)).toNat = some x → (0 : Int) ≤ x ∧ x ≤ (14 : Int)) ∧ (∀ x, 0 ≤ (n5 + (1 : Int)) → zwo ws 92 (n5 + (1 : Int)).toNat = some x → (2 : Int) ≤ x ∧ x ≤ (2 : Int)) ∧ True) ∧ (zj15 0 (n2 + (0 : Int)) (n3 + (0 : Int)) (zwo ws) ∧ True)) ∨ ((((0 : Int) ≤ n4 ∧ n4 ≤ (0 : Int)) ∧ True) ∧ ((∀ x, 0 ≤ (n2 + (0 : Int)) → zwo ws 121 (n2 + (0 : Int)).toNat = some x → (2 : Int) ≤ x ∧ x ≤ (2 : Int)) ∧ (∀ x, 0 ≤ (n2 + (0 : Int)) → zwo ws 124 (n2 + (0 : Int)).toNat = some x → (0 : Int) ≤ x ∧ x ≤ (0 : Int)) ∧ (∀ x, 0 ≤ (n2 + (0 : Int)) → zwo ws 120 (n2 + (0 : Int)).toNat = some x → (0 : Int) ≤ x ∧ x ≤ (14 : Int)) ∧ (∀ x, 0 ≤ (n5 + (0 : Int)) → zwo ws 92 (n5 + (0 : Int)).toNat = some x → (3 : Int) ≤ x ∧ x ≤ (3 : Int)) ∧ True) ∧ (zj15 0 (n2 + (0 : Int)) (n3 + (0 : Int)) (zwo ws) ∧ True)) ∨ ((((1 : Int) ≤ n4 ∧ n4 ≤ (1 : Int)) ∧ True) ∧ ((∀ x, 0 ≤ (n2 + (0 : Int)) → zwo ws 121 (n2 + (0 : Int)).toNat = some x → (2 : Int) ≤ x ∧ x ≤ (2 : Int)) ∧ (∀ x, 0 ≤ (n2 + (0 : Int)) → zwo ws 124 (n2 + (0 : Int)).toNat = some x → (0 : Int) ≤ x ∧ x ≤ (0 : Int)) ∧ (∀ x, 0 ≤ (n2 + (0 : Int)) → zwo ws 120 (n2 + (0 : Int)).toNat = some x → (0 : Int) ≤ x ∧ x ≤ (14 : Int)) ∧ (∀ x, 0 ≤ (n5 + (1 : Int)) → zwo ws 92 (n5 + (1 : Int)).toNat = some x → (3 : Int) ≤ x ∧ x ≤ (3 : Int)) ∧ True) ∧ (zj15 0 (n2 + (0 : Int)) (n3 + (0 : Int)) (zwo ws) ∧ True)) ∨ ((((0 : Int) ≤ n4 ∧ n4 ≤ (0 : Int)) ∧ True) ∧ ((∀ x, 0 ≤ (n2 + (0 : Int)) → zwo ws 121 (n2 + (0 : Int)).toNat = some x → (2 : Int) ≤ x ∧ x ≤ (2 : Int)) ∧ (∀ x, 0 ≤ (n2 + (0 : Int)) → zwo ws 124 (n2 + (0 : Int)).toNat = some x → (0 : Int) ≤ x ∧ x ≤ (0 : Int)) ∧ (∀ x, 0 ≤ (n2 + (0 : Int)) → zwo ws 120 (n2 + (0 : Int)).toNat = some x → (0 : Int) ≤ x ∧ x ≤ (14 : Int)) ∧ (∀ x, 0 ≤ (n5 + (0 : Int)) → zwo ws 92 (n5 + (0 : Int)).toNat = some x → (4 : Int) ≤ x ∧ x ≤ (4 : Int)) ∧ True) ∧ (zj15 0 (n2 + (0 : Int)) (n3 + (0 : Int)) (zwo ws) ∧ True)) ∨ ((((1 : Int) ≤ n4 ∧ n4 ≤ (1 : Int)) ∧ True) ∧ ((∀ x, 0 ≤ (n2 + (0 : Int)) → zwo ws 121 (n2 + (0 : Int)).toNat = some x → (2 : Int) ≤ x ∧ x ≤ (2 : Int)) ∧ (∀ x, 0 ≤ (n2 + (0 : Int)) → zwo ws 124 (n2 + (0 : Int)).toNat = some x → (0 : Int) ≤ x ∧ x ≤ (0 : Int)) ∧ (∀ x, 0 ≤ (n2 + (0 : Int)) → zwo ws 120 (n2 + (0 : Int)).toNat = some x → (0 : Int) ≤ x ∧ x ≤ (14 : Int)) ∧ (∀ x, 0 ≤ (n5 + (1 : Int)) → zwo ws 92 (n5 + (1 : Int)).toNat = some x → (4 : Int) ≤ x ∧ x ≤ (4 : Int)) ∧ True) ∧ (zj15 0 (n2 + (0 : Int)) (n3 + (0 : Int)) (zwo ws) ∧ True)) ∨ ((((0 : Int) ≤ n4 ∧ n4 ≤ (0 : Int)) ∧ True) ∧ ((∀ x, 0 ≤ (n2 + (0 : Int)) → zwo ws 121 (n2 + (0 : Int)).toNat = some x → (2 : Int) ≤ x ∧ x ≤ (2 : Int)) ∧ (∀ x, 0 ≤ (n2 + (0 : Int)) → zwo ws 124 (n2 + (0 : Int)).toNat = some x → (0 : Int) ≤ x ∧ x ≤ (0 : Int)) ∧ (∀ x, 0 ≤ (n2 + (0 : Int)) → zwo ws 120 (n2 + (0 : Int)).toNat = some x → (0 : Int) ≤ x ∧ x ≤ (14 : Int)) ∧ (∀ x, 0 ≤ (n5 + (0 : Int)) → zwo ws 92 (n5 + (0 : Int)).toNat = some x → (5 : Int) ≤ x ∧ x ≤ (5 : Int)) ∧ True) ∧ (zj15 0 (n2 + (0 : Int)) (n3 + (0 : Int)) (zwo ws) ∧ True)) ∨ ((((1 : Int) ≤ n4 ∧ n4 ≤ (1 : Int)) ∧ True) ∧ ((∀ x, 0 ≤ (n2 + (0 : Int)) → zwo ws 121 (n2 + (0 : Int)).toNat = some x → (2 : Int) ≤ x ∧ x ≤ (2 : Int)) ∧ (∀ x, 0 ≤ (n2 + (0 : Int)) → zwo ws 124 (n2 + (0 : Int)).toNat = some x → (0 : Int) ≤ x ∧ x ≤ (0 : Int)) ∧ (∀ x, 0 ≤ (n2 + (0 : Int)) → zwo ws 120 (n2 + (0 : Int)).toNat = some x → (0 : Int) ≤ x ∧ x ≤ (14 : Int)) ∧ (∀ x, 0 ≤ (n5 + (1 : Int)) → zwo ws 92 (n5 + (1 : Int)).toNat = some x → (5 : Int) ≤ x ∧ x ≤ (5 : Int)) ∧ True) ∧ (zj15 0 (n2 + (0 : Int)) (n3 + (0 : Int)) (zwo ws) ∧ True)) ∨ ((((0 : Int) ≤ n4 ∧ n4 ≤ (0 : Int)) ∧ True) ∧ ((∀ x, 0 ≤ (n2 + (0 : Int)) → zwo ws 121 (n2 + (0 : Int)).toNat = some x → (3 : Int) ≤ x ∧ x ≤ (3 : Int)) ∧ (∀ x, 0 ≤ (n2 + (0 : Int)) → zwo ws 124 (n2 + (0 : Int)).toNat = some x → (0 : Int) ≤ x ∧ x ≤ (0 : Int)) ∧ (∀ x, 0 ≤ (n2 + (0 : Int)) → zwo ws 120 (n2 + (0 : Int)).toNat = some x → (0 : Int) ≤ x ∧ x ≤ (9 : Int)) ∧ (∀ x, 0 ≤ (n5 + (0 : Int)) → zwo ws 92 (n5 + (0 : Int)).toNat = some x → (2 : Int) ≤ x ∧ x ≤ (2 : Int)) ∧ True) ∧ (zj15 0 (n2 + (0 : Int)) (n3 + (0 : Int)) (zwo ws) ∧ True)) ∨ ((((1 : Int) ≤ n4 ∧ n4 ≤ (1 : Int)) ∧ True) ∧ ((∀ x, 0 ≤ (n2 + (0 : Int)) → zwo ws 121 (n2 + (0 : Int)).toNat = some x → (3 : Int) ≤ x ∧ x ≤ (3 : Int)) ∧ (∀ x, 0 ≤ (n2 + (0 : Int)) → zwo ws 124 (n2 + (0 : Int)).toNat = some x → (0 : Int) ≤ x ∧ x ≤ (0 : Int)) ∧ (∀ x, 0 ≤ (n2 + (0 : Int)) → zwo ws 120 (n2 + (0 : Int)).toNat = some x → (0 : Int) ≤ x ∧ x ≤ (9 : Int)) ∧ (∀ x, 0 ≤ (n5 + (1 : Int)) → zwo ws 92 (n5 + (1 : Int)).toNat = some x → (2 : Int) ≤ x ∧ x ≤ (2 : Int)) ∧ True) ∧ (zj15 0 (n2 + (0 : Int)) (n3 + (0 : Int)) (zwo ws) ∧ True)) ∨ ((((0 : Int) ≤ n4 ∧ n4 ≤ (0 : Int)) ∧ True) ∧ ((∀ x, 0 ≤ (n2 + (0 : Int)) → zwo ws 121 (n2 + (0 : Int)).toNat = some x → (3 : Int) ≤ x ∧ x ≤ (3 : Int)) ∧ (∀ x, 0 ≤ (n2 + (0 : Int)) → zwo ws 124 (n2 + (0 : Int)).toNat = some x → (0 : Int) ≤ x ∧ x ≤ (0 : Int)) ∧ (∀ x, 0 ≤ (n2 + (0 : Int)) → zwo ws 120 (n2 + (0 : Int)).toNat = some x → (0 : Int) ≤ x ∧ x ≤ (9 : Int)) ∧ (∀ x, 0 ≤ (n5 + (0 : Int)) → zwo ws 92 (n5 + (0 : Int)).toNat = some x → (3 : Int) ≤ x ∧ x ≤ (3 : Int)) ∧ True) ∧ (zj15 0 (n2 + (0 : Int)) (n3 + (0 : Int)) (zwo ws) ∧ True)) ∨ ((((1 : Int) ≤ n4 ∧ n4 ≤ (1 : Int)) ∧ True) ∧ ((∀ x, 0 ≤ (n2 + (0 : Int)) → zwo ws 121 (n2 + (0 : Int)).toNat = some x → (3 : Int) ≤ x ∧ x ≤ (3 : Int)) ∧ (∀ x, 0 ≤ (n2 + (0 : Int)) → zwo ws 124 (n2 + (0 : Int)).toNat = some x → (0 : Int) ≤ x ∧ x ≤ (0 : Int)) ∧ (∀ x, 0 ≤ (n2 + (0 : Int)) → zwo ws 120 (n2 + (0 : Int)).toNat = some x → (0 : Int) ≤ x ∧ x ≤ (9 : Int)) ∧ (∀ x, 0 ≤ (n5 + (1 : Int)) → zwo ws 92 (n5 + (1 : Int)).toNat = some x → (3 : Int) ≤ x ∧ x ≤ (3 : Int)) ∧ True) ∧ (zj15 0 (n2 + (0 : Int)) (n3 + (0 : Int)) (zwo ws) ∧ True)) ∨ ((((0 : Int) ≤ n4 ∧ n4 ≤ (0 : Int)) ∧ True) ∧ ((∀ x, 0 ≤ (n2 + (0 : Int)) → zwo ws 121 (n2 + (0 : Int)).toNat = some x → (3 : Int) ≤ x ∧ x ≤ (3 : Int)) ∧ (∀ x, 0 ≤ (n2 + (0 : Int)) → zwo ws 124 (n2 + (0 : Int)).toNat = some x → (0 : Int) ≤ x ∧ x ≤ (0 : Int)) ∧ (∀ x, 0 ≤ (n2 + (0 : Int)) → zwo ws 120 (n2 + (0 : Int)).toNat = some x → (0 : Int) ≤ x ∧ x ≤ (9 : Int)) ∧ (∀ x, 0 ≤ (n5 + (0 : Int)) → zwo ws 92 (n5 + (0 : Int)).toNat = some x → (4 : Int) ≤ x ∧ x ≤ (4 : Int)) ∧ True) ∧ (zj15 0 (n2 + (0 : Int)) (n3 + (0 : Int)) (zwo ws) ∧ True)) ∨ ((((1 : Int) ≤ n4 ∧ n4 ≤ (1 : Int)) ∧ True) ∧ ((∀ x, 0 ≤ (n2 + (0 : Int)) → zwo ws 121 (n2 + (0 : Int)).toNat = some x → (3 : Int) ≤ x ∧ x ≤ (3 : Int)) ∧ (∀ x, 0 ≤ (n2 + (0 : Int)) → zwo ws 124 (n2 + (0 : Int)).toNat = some x → (0 : Int) ≤ x ∧ x ≤ (0 : Int)) ∧ (∀ x, 0 ≤ (n2 + (0 : Int)) → zwo ws 120 (n2 + (0 : Int)).toNat = some x → (0 : Int) ≤ x ∧ x ≤ (9 : Int)) ∧ (∀ x, 0 ≤ (n5 + (1 : Int)) → zwo ws 92 (n5 + (1 : Int)).toNat = some x → (4 : Int) ≤ x ∧ x ≤ (4 : Int)) ∧ True) ∧ (zj15 0 (n2 + (0 : Int)) (n3 + (0 : Int)) (zwo ws) ∧ True)) ∨ ((((0 : Int) ≤ n4 ∧ n4 ≤ (0 : Int)) ∧ True) ∧ ((∀ x, 0 ≤ (n2 + (0 : Int)) → zwo ws 121 (n2 + (0 : Int)).toNat = some x → (3 : Int) ≤ x ∧ x ≤ (3 : Int)) ∧ (∀ x, 0 ≤ (n2 + (0 : Int)) → zwo ws 124 (n2 + (0 : Int)).toNat = some x → (0 : Int) ≤ x ∧ x ≤ (0 : Int)) ∧ (∀ x, 0 ≤ (n2 + (0 : Int)) → zwo ws 120 (n2 + (0 : Int)).toNat = some x → (0 : Int) ≤ x ∧ x ≤ (9 : Int)) ∧ (∀ x, 0 ≤ (n5 + (0 : Int)) → zwo ws 92 (n5 + (0 : Int)).toNat = some x → (5 : Int) ≤ x ∧ x ≤ (5 : Int)) ∧ True) ∧ (zj15 0 (n2 + (0 : Int)) (n3 + (0 : Int)) (zwo ws) ∧ True)) ∨ ((((1 : Int) ≤ n4 ∧ n4 ≤ (1 : Int)) ∧ True) ∧ ((∀ x, 0 ≤ (n2 + (0 : Int)) → zwo ws 121 (n2 + (0 : Int)).toNat = some x → (3 : Int) ≤ x ∧ x ≤ (3 : Int)) ∧ (∀ x, 0 ≤ (n2 + (0 : Int)) → zwo ws 124 (n2 + (0 : Int)).toNat = some x → (0 : Int) ≤ x ∧ x ≤ (0 : Int)) ∧ (∀ x, 0 ≤ (n2 + (0 : Int)) → zwo ws 120 (n2 + (0 : Int)).toNat = some x → (0 : Int) ≤ x ∧ x ≤ (9 : Int)) ∧ (∀ x, 0 ≤ (n5 + (1 : Int)) → zwo ws 92 (n5 + (1 : Int)).toNat = some x → (5 : Int) ≤ x ∧ x ≤ (5 : Int)) ∧ True) ∧ (zj15 0 (n2 + (0 : Int)) (n3 + (0 : Int)) (zwo ws) ∧ True)) ∨ ((((0 : Int) ≤ n4 ∧ n4 ≤ (0 : Int)) ∧ True) ∧ ((∀ x, 0 ≤ (n2 + (0 : Int)) → zwo ws 121 (n2 + (0 : Int)).toNat = some x → (4 : Int) ≤ x ∧ x ≤ (4 : Int)) ∧ (∀ x, 0 ≤ (n2 + (0 : Int)) → zwo ws 124 (n2 + (0 : Int)).toNat = some x → (0 : Int) ≤ x ∧ x ≤ (0 : Int)) ∧ (∀ x, 0 ≤ (n2 + (0 : Int)) → zwo ws 120 (n2 + (0 : Int)).toNat = some x → (0 : Int) ≤ x ∧ x ≤ (4 : Int)) ∧ (∀ x, 0 ≤ (n5 + (0 : Int)) → zwo ws 92 (n5 + (0 : Int)).toNat = some x → (2 : Int) ≤ x ∧ x ≤ (2 : Int)) ∧ True) ∧ (zj15 0 (n2 + (0 : Int)) (n3 + (0 : Int)) (zwo ws) ∧ True)) ∨ ((((1 : Int) ≤ n4 ∧ n4 ≤ (1 : Int)) ∧ True) ∧ ((∀ x, 0 ≤ (n2 + (0 : Int)) → zwo ws 121 (n2 + (0 : Int)).toNat = some x → (4 : Int) ≤ x ∧ x ≤ (4 : Int)) ∧ (∀ x, 0 ≤ (n2 + (0 : Int)) → zwo ws 124 (n2 + (0 : Int)).toNat = some x → (0 : Int) ≤ x ∧ x ≤ (0 : Int)) ∧ (∀ x, 0 ≤ (n2 + (0 : Int)) → zwo ws 120 (n2 + (0 : Int)).toNat = some x → (0 : Int) ≤ x ∧ x ≤ (4 : Int)) ∧ (∀ x, 0 ≤ (n5 + (1 : Int)) → zwo ws 92 (n5 + (1 : Int)).toNat = some x → (2 : Int) ≤ x ∧ x ≤ (2 : Int)) ∧ True) ∧ (zj15 0 (n2 + (0 : Int)) (n3 + (0 : Int)) (zwo ws) ∧ True)) ∨ ((((0 : Int) ≤ n4 ∧ n4 ≤ (0 : Int)) ∧ True) ∧ ((∀ x, 0 ≤ (n2 + (0 : Int)) → zwo ws 121 (n2 + (0 : Int)).toNat = some x → (4 : Int) ≤ x ∧ x ≤ (4 : Int)) ∧ (∀ x, 0 ≤ (n2 + (0 : Int)) → zwo ws 124 (n2 + (0 : Int)).toNat = some x → (0 : Int) ≤ x ∧ x ≤ (0 : Int)) ∧ (∀ x, 0 ≤ (n2 + (0 : Int)) → zwo ws 120 (n2 + (0 : Int)).toNat = some x → (0 : Int) ≤ x ∧ x ≤ (4 : Int)) ∧ (∀ x, 0 ≤ (n5 + (0 : Int)) → zwo ws 92 (n5 + (0 : Int)).toNat = some x → (3 : Int) ≤ x ∧ x ≤ (3 : Int)) ∧ True) ∧ (zj15 0 (n2 + (0 : Int)) (n3 + (0 : Int)) (zwo ws) ∧ True)) ∨ ((((1 : Int) ≤ n4 ∧ n4 ≤ (1 : Int)) ∧ True) ∧ ((∀ x, 0 ≤ (n2 + (0 : Int)) → zwo ws 121 (n2 + (0 : Int)).toNat = some x → (4 : Int) ≤ x ∧ x ≤ (4 : Int)) ∧ (∀ x, 0 ≤ (n2 + (0 : Int)) → zwo ws 124 (n2 + (0 : Int)).toNat = some x → (0 : Int) ≤ x ∧ x ≤ (0 : Int)) ∧ (∀ x, 0 ≤ (n2 + (0 : Int)) → zwo ws 120 (n2 + (0 : Int)).toNat = some x → (0 : Int) ≤ x ∧ x ≤ (4 : Int)) ∧ (∀ x, 0 ≤ (n5 + (1 : Int)) → zwo ws 92 (n5 + (1 : Int)).toNat = some x → (3 : Int) ≤ x ∧ x ≤ (3 : Int)) ∧ True) ∧ (zj15 0 (n2 + (0 : Int)) (n3 + (0 : Int)) (zwo ws) ∧ True)) ∨ ((((0 : Int) ≤ n4 ∧ n4 ≤ (0 : Int)) ∧ True) ∧ ((∀ x, 0 ≤ (n2 + (0 : Int)) → zwo ws 121 (n2 + (0 : Int)).toNat = some x → (4 : Int) ≤ x ∧ x ≤ (4 : Int)) ∧ (∀ x, 0 ≤ (n2 + (0 : Int)) → zwo ws 124 (n2 + (0 : Int)).toNat = some x → (0 : Int) ≤ x ∧ x ≤ (0 : Int)) ∧ (∀ x, 0 ≤ (n2 + (0 : Int)) → zwo ws 120 (n2 + (0 : Int)).toNat = some x → (0 : Int) ≤ x ∧ x ≤ (4 : Int)) ∧ (∀ x, 0 ≤ (n5 + (0 : Int)) → zwo ws 92 (n5 + (0 : Int)).toNat = some x → (4 : Int) ≤ x ∧ x ≤ (4 : Int)) ∧ True) ∧ (zj15 0 (n2 + (0 : Int)) (n3 + (0 : Int)) (zwo ws) ∧ True)) ∨ ((((1 : Int) ≤ n4 ∧ n4 ≤ (1 : Int)) ∧ True) ∧ ((∀ x, 0 ≤ (n2 + (0 : Int)) → zwo ws 121 (n2 + (0 : Int)).toNat = some x → (4 : Int) ≤ x ∧ x ≤ (4 : Int)) ∧ (∀ x, 0 ≤ (n2 + (0 : Int)) → zwo ws 124 (n2 + (0 : Int)).toNat = some x → (0 : Int) ≤ x ∧ x ≤ (0 : Int)) ∧ (∀ x, 0 ≤ (n2 + (0 : Int)) → zwo ws 120 (n2 + (0 : Int)).toNat = some x → (0 : Int) ≤ x ∧ x ≤ (4 : Int)) ∧ (∀ x, 0 ≤ (n5 + (1 : Int)) → zwo ws 92 (n5 + (1 : Int)).toNat = some x → (4 : Int) ≤ x ∧ x ≤ (4 : Int)) ∧ True) ∧ (zj15 0 (n2 + (0 : Int)) (n3 + (0 : Int)) (zwo ws) ∧ True)) ∨ ((((0 : Int) ≤ n4 ∧ n4 ≤ (0 : Int)) ∧ True) ∧ ((∀ x, 0 ≤ (n2 + (0 : Int)) → zwo ws 121 (n2 + (0 : Int)).toNat = some x → (4 : Int) ≤ x ∧ x ≤ (4 : Int)) ∧ (∀ x, 0 ≤ (n2 + (0 : Int)) → zwo ws 124 (n2 + (0 : Int)).toNat = some x → (0 : Int) ≤ x ∧ x ≤ (0 : Int)) ∧ (∀ x, 0 ≤ (n2 + (0 : Int)) → zwo ws 120 (n2 + (0 : Int)).toNat = some x → (0 : Int) ≤ x ∧ x ≤ (4 : Int)) ∧ (∀ x, 0 ≤ (n5 + (0 : Int)) → zwo ws 92 (n5 + (0 : Int)).toNat = some x → (5 : Int) ≤ x ∧ x ≤ (5 : Int)) ∧ True) ∧ (zj15 0 (n2 + (0 : Int)) (n3 + (0 : Int)) (zwo ws) ∧ True)) ∨ ((((1 : Int) ≤ n4 ∧ n4 ≤ (1 : Int)) ∧ True) ∧ ((∀ x, 0 ≤ (n2 + (0 : Int)) → zwo ws 121 (n2 + (0 : Int)).toNat = some x → (4 : Int) ≤ x ∧ x ≤ (4 : Int)) ∧ (∀ x, 0 ≤ (n2 + (0 : Int)) → zwo ws 124 (n2 + (0 : Int)).toNat = some x → (0 : Int) ≤ x ∧ x ≤ (0 : Int)) ∧ (∀ x, 0 ≤ (n2 + (0 : Int)) → zwo ws 120 (n2 + (0 : Int)).toNat = some x → (0 : Int) ≤ x ∧ x ≤ (4 : Int)) ∧ (∀ x, 0 ≤ (n5 + (1 : Int)) → zwo ws 92 (n5 + (1 : Int)).toNat = some x → (5 : Int) ≤ x ∧ x ≤ (5 : Int)) ∧ True) ∧ (zj15 0 (n2 + (0 : Int)) (n3 + (0 : Int)) (zwo ws) ∧ True)) ∨ False
  try simp only [Int.add_zero, Int.zero_add] at *
  have h := hj n2.toNat (by omega)
  unfold zj_geo at h
  have hf := zgv_some s3.2
  have hb := zgv_some s4
  have hc := zgv_some p0
  have hz : ∀ (c : Int), (∀ b : Nat, b < 2 → zgv (zwo ws) 88 4 = (b : Int) → c = zgv (zwo ws) 120 n2.toNat + (0 : Int) * zj_stp (zwo ws) b n2.toNat) → zj15 0 n2 c (zwo ws) := fun c hc => ⟨n2.toNat, by omega, by omega, hc⟩
  have h5 : zgv (zwo ws) 121 n2.toNat = 0 ∨ zgv (zwo ws) 121 n2.toNat = 1 ∨ zgv (zwo ws) 121 n2.toNat = 2 ∨ zgv (zwo ws) 121 n2.toNat = 3 ∨ zgv (zwo ws) 121 n2.toNat = 4 ∨ zgv (zwo ws) 121 n2.toNat = 5 := by omega
  have hdn : ¬ zgv (zwo ws) 124 n2.toNat = 1 → ∀ b : Nat, b < 2 → zgv (zwo ws) 88 4 = (b : Int) → zj_stp (zwo ws) b n2.toNat = x0 := fun hq b hb2 hb3 => by
    unfold zj_stp
    rw [if_neg hq, show b = n4.toNat by omega]
    exact hc
  have hw : x0 = 2 ∨ x0 = 3 ∨ x0 = 4 ∨ x0 = 5 := by omega
  have hbb : n4 = 0 ∨ n4 = 1 := by omega
  rcases h5 with h5 | h5 | h5 | h5 | h5 | h5
  · exact Or.inl ⟨trivial, ⟨fun x hx0 hx => by have hv := zgv_some hx; omega, trivial⟩, trivial⟩
  · exact Or.inr (Or.inl ⟨trivial, ⟨fun x hx0 hx => by have hv := zgv_some hx; omega, trivial⟩, ⟨hz _ (fun b _ _ => by omega), trivial⟩⟩)
  · by_cases hq : zgv (zwo ws) 124 n2.toNat = 1
    · exact Or.inr (Or.inr (Or.inl ⟨trivial, ⟨fun x hx0 hx => by have hv := zgv_some hx; omega, fun x hx0 hx => by have hv := zgv_some hx; omega, fun x hx0 hx => by have hv := zgv_some hx; omega, trivial⟩, ⟨hz _ (fun b _ _ => by unfold zj_stp; rw [if_pos hq]; omega), trivial⟩⟩))
    · rcases hbb with hbb | hbb
      · rcases hw with hw | hw | hw | hw
        · exact Or.inr (Or.inr (Or.inr (Or.inr (Or.inr (Or.inr (Or.inl ⟨⟨⟨by omega, by omega⟩, trivial⟩, ⟨fun x hx0 hx => by have hv := zgv_some hx; omega, fun x hx0 hx => by have hv := zgv_some hx; omega, fun x hx0 hx => by have hv := zgv_some hx; omega, fun x hx0 hx => by rw [show (n5).toNat = n4.toNat by omega] at hx; have hv := zgv_some hx; omega, trivial⟩, ⟨hz _ (fun b hb2 hb3 => by rw [hdn hq b hb2 hb3]; omega), trivial⟩⟩))))))
        · exact Or.inr (Or.inr (Or.inr (Or.inr (Or.inr (Or.inr (Or.inr (Or.inr (Or.inl ⟨⟨⟨by omega, by omega⟩, trivial⟩, ⟨fun x hx0 hx => by have hv := zgv_some hx; omega, fun x hx0 hx => by have hv := zgv_some hx; omega, fun x hx0 hx => by have hv := zgv_some hx; omega, fun x hx0 hx => by rw [show (n5).toNat = n4.toNat by omega] at hx; have hv := zgv_some hx; omega, trivial⟩, ⟨hz _ (fun b hb2 hb3 => by rw [hdn hq b hb2 hb3]; omega), trivial⟩⟩))))))))
        · exact Or.inr (Or.inr (Or.inr (Or.inr (Or.inr (Or.inr (Or.inr (Or.inr (Or.inr (Or.inr (Or.inl ⟨⟨⟨by omega, by omega⟩, trivial⟩, ⟨fun x hx0 hx => by have hv := zgv_some hx; omega, fun x hx0 hx => by have hv := zgv_some hx; omega, fun x hx0 hx => by have hv := zgv_some hx; omega, fun x hx0 hx => by rw [show (n5).toNat = n4.toNat by omega] at hx; have hv := zgv_some hx; omega, trivial⟩, ⟨hz _ (fun b hb2 hb3 => by rw [hdn hq b hb2 hb3]; omega), trivial⟩⟩))))))))))
        · exact Or.inr (Or.inr (Or.inr (Or.inr (Or.inr (Or.inr (Or.inr (Or.inr (Or.inr (Or.inr (Or.inr (Or.inr (Or.inl ⟨⟨⟨by omega, by omega⟩, trivial⟩, ⟨fun x hx0 hx => by have hv := zgv_some hx; omega, fun x hx0 hx => by have hv := zgv_some hx; omega, fun x hx0 hx => by have hv := zgv_some hx; omega, fun x hx0 hx => by rw [show (n5).toNat = n4.toNat by omega] at hx; have hv := zgv_some hx; omega, trivial⟩, ⟨hz _ (fun b hb2 hb3 => by rw [hdn hq b hb2 hb3]; omega), trivial⟩⟩))))))))))))
      · rcases hw with hw | hw | hw | hw
        · exact Or.inr (Or.inr (Or.inr (Or.inr (Or.inr (Or.inr (Or.inr (Or.inl ⟨⟨⟨by omega, by omega⟩, trivial⟩, ⟨fun x hx0 hx => by have hv := zgv_some hx; omega, fun x hx0 hx => by have hv := zgv_some hx; omega, fun x hx0 hx => by have hv := zgv_some hx; omega, fun x hx0 hx => by rw [show (n5 + 1).toNat = n4.toNat by omega] at hx; have hv := zgv_some hx; omega, trivial⟩, ⟨hz _ (fun b hb2 hb3 => by rw [hdn hq b hb2 hb3]; omega), trivial⟩⟩)))))))
        · exact Or.inr (Or.inr (Or.inr (Or.inr (Or.inr (Or.inr (Or.inr (Or.inr (Or.inr (Or.inl ⟨⟨⟨by omega, by omega⟩, trivial⟩, ⟨fun x hx0 hx => by have hv := zgv_some hx; omega, fun x hx0 hx => by have hv := zgv_some hx; omega, fun x hx0 hx => by have hv := zgv_some hx; omega, fun x hx0 hx => by rw [show (n5 + 1).toNat = n4.toNat by omega] at hx; have hv := zgv_some hx; omega, trivial⟩, ⟨hz _ (fun b hb2 hb3 => by rw [hdn hq b hb2 hb3]; omega), trivial⟩⟩)))))))))
        · exact Or.inr (Or.inr (Or.inr (Or.inr (Or.inr (Or.inr (Or.inr (Or.inr (Or.inr (Or.inr (Or.inr (Or.inl ⟨⟨⟨by omega, by omega⟩, trivial⟩, ⟨fun x hx0 hx => by have hv := zgv_some hx; omega, fun x hx0 hx => by have hv := zgv_some hx; omega, fun x hx0 hx => by have hv := zgv_some hx; omega, fun x hx0 hx => by rw [show (n5 + 1).toNat = n4.toNat by omega] at hx; have hv := zgv_some hx; omega, trivial⟩, ⟨hz _ (fun b hb2 hb3 => by rw [hdn hq b hb2 hb3]; omega), trivial⟩⟩)))))))))))
        · exact Or.inr (Or.inr (Or.inr (Or.inr (Or.inr (Or.inr (Or.inr (Or.inr (Or.inr (Or.inr (Or.inr (Or.inr (Or.inr (Or.inl ⟨⟨⟨by omega, by omega⟩, trivial⟩, ⟨fun x hx0 hx => by have hv := zgv_some hx; omega, fun x hx0 hx => by have hv := zgv_some hx; omega, fun x hx0 hx => by have hv := zgv_some hx; omega, fun x hx0 hx => by rw [show (n5 + 1).toNat = n4.toNat by omega] at hx; have hv := zgv_some hx; omega, trivial⟩, ⟨hz _ (fun b hb2 hb3 => by rw [hdn hq b hb2 hb3]; omega), trivial⟩⟩)))))))))))))
  · by_cases hq : zgv (zwo ws) 124 n2.toNat = 1
    · exact Or.inr (Or.inr (Or.inr (Or.inl ⟨trivial, ⟨fun x hx0 hx => by have hv := zgv_some hx; omega, fun x hx0 hx => by have hv := zgv_some hx; omega, fun x hx0 hx => by have hv := zgv_some hx; omega, trivial⟩, ⟨hz _ (fun b _ _ => by unfold zj_stp; rw [if_pos hq]; omega), trivial⟩⟩)))
    · rcases hbb with hbb | hbb
      · rcases hw with hw | hw | hw | hw
        · exact Or.inr (Or.inr (Or.inr (Or.inr (Or.inr (Or.inr (Or.inr (Or.inr (Or.inr (Or.inr (Or.inr (Or.inr (Or.inr (Or.inr (Or.inl ⟨⟨⟨by omega, by omega⟩, trivial⟩, ⟨fun x hx0 hx => by have hv := zgv_some hx; omega, fun x hx0 hx => by have hv := zgv_some hx; omega, fun x hx0 hx => by have hv := zgv_some hx; omega, fun x hx0 hx => by rw [show (n5).toNat = n4.toNat by omega] at hx; have hv := zgv_some hx; omega, trivial⟩, ⟨hz _ (fun b hb2 hb3 => by rw [hdn hq b hb2 hb3]; omega), trivial⟩⟩))))))))))))))
        · exact Or.inr (Or.inr (Or.inr (Or.inr (Or.inr (Or.inr (Or.inr (Or.inr (Or.inr (Or.inr (Or.inr (Or.inr (Or.inr (Or.inr (Or.inr (Or.inr (Or.inl ⟨⟨⟨by omega, by omega⟩, trivial⟩, ⟨fun x hx0 hx => by have hv := zgv_some hx; omega, fun x hx0 hx => by have hv := zgv_some hx; omega, fun x hx0 hx => by have hv := zgv_some hx; omega, fun x hx0 hx => by rw [show (n5).toNat = n4.toNat by omega] at hx; have hv := zgv_some hx; omega, trivial⟩, ⟨hz _ (fun b hb2 hb3 => by rw [hdn hq b hb2 hb3]; omega), trivial⟩⟩))))))))))))))))
        · exact Or.inr (Or.inr (Or.inr (Or.inr (Or.inr (Or.inr (Or.inr (Or.inr (Or.inr (Or.inr (Or.inr (Or.inr (Or.inr (Or.inr (Or.inr (Or.inr (Or.inr (Or.inr (Or.inl ⟨⟨⟨by omega, by omega⟩, trivial⟩, ⟨fun x hx0 hx => by have hv := zgv_some hx; omega, fun x hx0 hx => by have hv := zgv_some hx; omega, fun x hx0 hx => by have hv := zgv_some hx; omega, fun x hx0 hx => by rw [show (n5).toNat = n4.toNat by omega] at hx; have hv := zgv_some hx; omega, trivial⟩, ⟨hz _ (fun b hb2 hb3 => by rw [hdn hq b hb2 hb3]; omega), trivial⟩⟩))))))))))))))))))
        · exact Or.inr (Or.inr (Or.inr (Or.inr (Or.inr (Or.inr (Or.inr (Or.inr (Or.inr (Or.inr (Or.inr (Or.inr (Or.inr (Or.inr (Or.inr (Or.inr (Or.inr (Or.inr (Or.inr (Or.inr (Or.inl ⟨⟨⟨by omega, by omega⟩, trivial⟩, ⟨fun x hx0 hx => by have hv := zgv_some hx; omega, fun x hx0 hx => by have hv := zgv_some hx; omega, fun x hx0 hx => by have hv := zgv_some hx; omega, fun x hx0 hx => by rw [show (n5).toNat = n4.toNat by omega] at hx; have hv := zgv_some hx; omega, trivial⟩, ⟨hz _ (fun b hb2 hb3 => by rw [hdn hq b hb2 hb3]; omega), trivial⟩⟩))))))))))))))))))))
      · rcases hw with hw | hw | hw | hw
        · exact Or.inr (Or.inr (Or.inr (Or.inr (Or.inr (Or.inr (Or.inr (Or.inr (Or.inr (Or.inr (Or.inr (Or.inr (Or.inr (Or.inr (Or.inr (Or.inl ⟨⟨⟨by omega, by omega⟩, trivial⟩, ⟨fun x hx0 hx => by have hv := zgv_some hx; omega, fun x hx0 hx => by have hv := zgv_some hx; omega, fun x hx0 hx => by have hv := zgv_some hx; omega, fun x hx0 hx => by rw [show (n5 + 1).toNat = n4.toNat by omega] at hx; have hv := zgv_some hx; omega, trivial⟩, ⟨hz _ (fun b hb2 hb3 => by rw [hdn hq b hb2 hb3]; omega), trivial⟩⟩)))))))))))))))
        · exact Or.inr (Or.inr (Or.inr (Or.inr (Or.inr (Or.inr (Or.inr (Or.inr (Or.inr (Or.inr (Or.inr (Or.inr (Or.inr (Or.inr (Or.inr (Or.inr (Or.inr (Or.inl ⟨⟨⟨by omega, by omega⟩, trivial⟩, ⟨fun x hx0 hx => by have hv := zgv_some hx; omega, fun x hx0 hx => by have hv := zgv_some hx; omega, fun x hx0 hx => by have hv := zgv_some hx; omega, fun x hx0 hx => by rw [show (n5 + 1).toNat = n4.toNat by omega] at hx; have hv := zgv_some hx; omega, trivial⟩, ⟨hz _ (fun b hb2 hb3 => by rw [hdn hq b hb2 hb3]; omega), trivial⟩⟩)))))))))))))))))
        · exact Or.inr (Or.inr (Or.inr (Or.inr (Or.inr (Or.inr (Or.inr (Or.inr (Or.inr (Or.inr (Or.inr (Or.inr (Or.inr (Or.inr (Or.inr (Or.inr (Or.inr (Or.inr (Or.inr (Or.inl ⟨⟨⟨by omega, by omega⟩, trivial⟩, ⟨fun x hx0 hx => by have hv := zgv_some hx; omega, fun x hx0 hx => by have hv := zgv_some hx; omega, fun x hx0 hx => by have hv := zgv_some hx; omega, fun x hx0 hx => by rw [show (n5 + 1).toNat = n4.toNat by omega] at hx; have hv := zgv_some hx; omega, trivial⟩, ⟨hz _ (fun b hb2 hb3 => by rw [hdn hq b hb2 hb3]; omega), trivial⟩⟩)))))))))))))))))))
        · exact Or.inr (Or.inr (Or.inr (Or.inr (Or.inr (Or.inr (Or.inr (Or.inr (Or.inr (Or.inr (Or.inr (Or.inr (Or.inr (Or.inr (Or.inr (Or.inr (Or.inr (Or.inr (Or.inr (Or.inr (Or.inr (Or.inl ⟨⟨⟨by omega, by omega⟩, trivial⟩, ⟨fun x hx0 hx => by have hv := zgv_some hx; omega, fun x hx0 hx => by have hv := zgv_some hx; omega, fun x hx0 hx => by have hv := zgv_some hx; omega, fun x hx0 hx => by rw [show (n5 + 1).toNat = n4.toNat by omega] at hx; have hv := zgv_some hx; omega, trivial⟩, ⟨hz _ (fun b hb2 hb3 => by rw [hdn hq b hb2 hb3]; omega), trivial⟩⟩)))))))))))))))))))))
  · by_cases hq : zgv (zwo ws) 124 n2.toNat = 1
    · exact Or.inr (Or.inr (Or.inr (Or.inr (Or.inl ⟨trivial, ⟨fun x hx0 hx => by have hv := zgv_some hx; omega, fun x hx0 hx => by have hv := zgv_some hx; omega, fun x hx0 hx => by have hv := zgv_some hx; omega, trivial⟩, ⟨hz _ (fun b _ _ => by unfold zj_stp; rw [if_pos hq]; omega), trivial⟩⟩))))
    · rcases hbb with hbb | hbb
      · rcases hw with hw | hw | hw | hw
        · exact Or.inr (Or.inr (Or.inr (Or.inr (Or.inr (Or.inr (Or.inr (Or.inr (Or.inr (Or.inr (Or.inr (Or.inr (Or.inr (Or.inr (Or.inr (Or.inr (Or.inr (Or.inr (Or.inr (Or.inr (Or.inr (Or.inr (Or.inl ⟨⟨⟨by omega, by omega⟩, trivial⟩, ⟨fun x hx0 hx => by have hv := zgv_some hx; omega, fun x hx0 hx => by have hv := zgv_some hx; omega, fun x hx0 hx => by have hv := zgv_some hx; omega, fun x hx0 hx => by rw [show (n5).toNat = n4.toNat by omega] at hx; have hv := zgv_some hx; omega, trivial⟩, ⟨hz _ (fun b hb2 hb3 => by rw [hdn hq b hb2 hb3]; omega), trivial⟩⟩))))))))))))))))))))))
        · exact Or.inr (Or.inr (Or.inr (Or.inr (Or.inr (Or.inr (Or.inr (Or.inr (Or.inr (Or.inr (Or.inr (Or.inr (Or.inr (Or.inr (Or.inr (Or.inr (Or.inr (Or.inr (Or.inr (Or.inr (Or.inr (Or.inr (Or.inr (Or.inr (Or.inl ⟨⟨⟨by omega, by omega⟩, trivial⟩, ⟨fun x hx0 hx => by have hv := zgv_some hx; omega, fun x hx0 hx => by have hv := zgv_some hx; omega, fun x hx0 hx => by have hv := zgv_some hx; omega, fun x hx0 hx => by rw [show (n5).toNat = n4.toNat by omega] at hx; have hv := zgv_some hx; omega, trivial⟩, ⟨hz _ (fun b hb2 hb3 => by rw [hdn hq b hb2 hb3]; omega), trivial⟩⟩))))))))))))))))))))))))
        · exact Or.inr (Or.inr (Or.inr (Or.inr (Or.inr (Or.inr (Or.inr (Or.inr (Or.inr (Or.inr (Or.inr (Or.inr (Or.inr (Or.inr (Or.inr (Or.inr (Or.inr (Or.inr (Or.inr (Or.inr (Or.inr (Or.inr (Or.inr (Or.inr (Or.inr (Or.inr (Or.inl ⟨⟨⟨by omega, by omega⟩, trivial⟩, ⟨fun x hx0 hx => by have hv := zgv_some hx; omega, fun x hx0 hx => by have hv := zgv_some hx; omega, fun x hx0 hx => by have hv := zgv_some hx; omega, fun x hx0 hx => by rw [show (n5).toNat = n4.toNat by omega] at hx; have hv := zgv_some hx; omega, trivial⟩, ⟨hz _ (fun b hb2 hb3 => by rw [hdn hq b hb2 hb3]; omega), trivial⟩⟩))))))))))))))))))))))))))
        · exact Or.inr (Or.inr (Or.inr (Or.inr (Or.inr (Or.inr (Or.inr (Or.inr (Or.inr (Or.inr (Or.inr (Or.inr (Or.inr (Or.inr (Or.inr (Or.inr (Or.inr (Or.inr (Or.inr (Or.inr (Or.inr (Or.inr (Or.inr (Or.inr (Or.inr (Or.inr (Or.inr (Or.inr (Or.inl ⟨⟨⟨by omega, by omega⟩, trivial⟩, ⟨fun x hx0 hx => by have hv := zgv_some hx; omega, fun x hx0 hx => by have hv := zgv_some hx; omega, fun x hx0 hx => by have hv := zgv_some hx; omega, fun x hx0 hx => by rw [show (n5).toNat = n4.toNat by omega] at hx; have hv := zgv_some hx; omega, trivial⟩, ⟨hz _ (fun b hb2 hb3 => by rw [hdn hq b hb2 hb3]; omega), trivial⟩⟩))))))))))))))))))))))))))))
      · rcases hw with hw | hw | hw | hw
        · exact Or.inr (Or.inr (Or.inr (Or.inr (Or.inr (Or.inr (Or.inr (Or.inr (Or.inr (Or.inr (Or.inr (Or.inr (Or.inr (Or.inr (Or.inr (Or.inr (Or.inr (Or.inr (Or.inr (Or.inr (Or.inr (Or.inr (Or.inr (Or.inl ⟨⟨⟨by omega, by omega⟩, trivial⟩, ⟨fun x hx0 hx => by have hv := zgv_some hx; omega, fun x hx0 hx => by have hv := zgv_some hx; omega, fun x hx0 hx => by have hv := zgv_some hx; omega, fun x hx0 hx => by rw [show (n5 + 1).toNat = n4.toNat by omega] at hx; have hv := zgv_some hx; omega, trivial⟩, ⟨hz _ (fun b hb2 hb3 => by rw [hdn hq b hb2 hb3]; omega), trivial⟩⟩)))))))))))))))))))))))
        · exact Or.inr (Or.inr (Or.inr (Or.inr (Or.inr (Or.inr (Or.inr (Or.inr (Or.inr (Or.inr (Or.inr (Or.inr (Or.inr (Or.inr (Or.inr (Or.inr (Or.inr (Or.inr (Or.inr (Or.inr (Or.inr (Or.inr (Or.inr (Or.inr (Or.inr (Or.inl ⟨⟨⟨by omega, by omega⟩, trivial⟩, ⟨fun x hx0 hx => by have hv := zgv_some hx; omega, fun x hx0 hx => by have hv := zgv_some hx; omega, fun x hx0 hx => by have hv := zgv_some hx; omega, fun x hx0 hx => by rw [show (n5 + 1).toNat = n4.toNat by omega] at hx; have hv := zgv_some hx; omega, trivial⟩, ⟨hz _ (fun b hb2 hb3 => by rw [hdn hq b hb2 hb3]; omega), trivial⟩⟩)))))))))))))))))))))))))
        · exact Or.inr (Or.inr (Or.inr (Or.inr (Or.inr (Or.inr (Or.inr (Or.inr (Or.inr (Or.inr (Or.inr (Or.inr (Or.inr (Or.inr (Or.inr (Or.inr (Or.inr (Or.inr (Or.inr (Or.inr (Or.inr (Or.inr (Or.inr (Or.inr (Or.inr (Or.inr (Or.inr (Or.inl ⟨⟨⟨by omega, by omega⟩, trivial⟩, ⟨fun x hx0 hx => by have hv := zgv_some hx; omega, fun x hx0 hx => by have hv := zgv_some hx; omega, fun x hx0 hx => by have hv := zgv_some hx; omega, fun x hx0 hx => by rw [show (n5 + 1).toNat = n4.toNat by omega] at hx; have hv := zgv_some hx; omega, trivial⟩, ⟨hz _ (fun b hb2 hb3 => by rw [hdn hq b hb2 hb3]; omega), trivial⟩⟩)))))))))))))))))))))))))))
        · exact Or.inr (Or.inr (Or.inr (Or.inr (Or.inr (Or.inr (Or.inr (Or.inr (Or.inr (Or.inr (Or.inr (Or.inr (Or.inr (Or.inr (Or.inr (Or.inr (Or.inr (Or.inr (Or.inr (Or.inr (Or.inr (Or.inr (Or.inr (Or.inr (Or.inr (Or.inr (Or.inr (Or.inr (Or.inr (Or.inl ⟨⟨⟨by omega, by omega⟩, trivial⟩, ⟨fun x hx0 hx => by have hv := zgv_some hx; omega, fun x hx0 hx => by have hv := zgv_some hx; omega, fun x hx0 hx => by have hv := zgv_some hx; omega, fun x hx0 hx => by rw [show (n5 + 1).toNat = n4.toNat by omega] at hx; have hv := zgv_some hx; omega, trivial⟩, ⟨hz _ (fun b hb2 hb3 => by rw [hdn hq b hb2 hb3]; omega), trivial⟩⟩)))))))))))))))))))))))))))))
  · have hq : zgv (zwo ws) 124 n2.toNat = 1 := by omega
    exact Or.inr (Or.inr (Or.inr (Or.inr (Or.inr (Or.inl ⟨trivial, ⟨fun x hx0 hx => by have hv := zgv_some hx; omega, fun x hx0 hx => by have hv := zgv_some hx; omega, fun x hx0 hx => by have hv := zgv_some hx; omega, trivial⟩, ⟨hz _ (fun b _ _ => by unfold zj_stp; rw [if_pos hq]; omega), trivial⟩⟩)))))
theorem zrn_19 (g : yG) : zRuN (zJf g) zru_19 := by
  intro ws z w hj n2 s2 n3 s3 n4 s4 n5 s5 l0 u0 l1 u1 g0 g1 g2 g3
  replace hj : zj15 0 z w (zwo ws) := hj.resolve_left (by decide)
  clear s2
  clear s3
  replace s4 : 0 ≤ w ∧ zwo ws 119 (w).toNat = some n4 := s4
  replace s5 : zj9 0 n2 n5 (zwo ws) := s5
  replace l0 : (0 : Int) ≤ w := l0
  replace u0 : w ≤ (19 : Int) := u0
  replace l1 : (0 : Int) ≤ n4 := l1
  replace u1 : n4 ≤ (0 : Int) := u1
  replace g0 : n3 + (0 : Int) ≤ z := g0
  replace g1 : z + (0 : Int) ≤ n3 := g1
  replace g2 : n3 + (0 : Int) ≤ n5 := g2
  replace g3 : n5 + (0 : Int) ≤ n3 := g3
  show ((True) ∧ (True) ∧ (zj9 1 (n2 + (0 : Int)) (n3 + (0 : Int)) (zwo ws) ∧ True)) ∨ False
  try simp only [Int.add_zero, Int.zero_add] at *
  obtain ⟨s, hs, e1, h⟩ := hj
  obtain ⟨a, s', ha, hs', e2, e3, h'⟩ := s5
  have es : s' = s := by omega
  subst es
  have e4 := zgv_some s4.2
  refine Or.inl ⟨trivial, trivial, ⟨⟨a, s', ha, hs', by omega, by omega, fun b hb hk j hj h5 => ?_⟩, trivial⟩⟩
  by_cases q : j < 0
  · exact h' b hb hk j q h5
  · have ej : j = 0 := by omega
    subst ej
    intro c hc he
    have hw := h b hb hk
    have ec : w.toNat = c := by omega
    rw [ec] at e4
    exact Or.inl (by omega)
theorem zrn_20 (g : yG) : zRuN (zJf g) zru_20 := by
  intro ws z w hj n2 s2 n3 s3 n4 s4 n5 s5 n6 s6 l0 u0 g0 g1 g2 g3 g4 g5
  replace hj : zj15 0 z w (zwo ws) := hj.resolve_left (by decide)
  clear s2
  clear s3
  replace s4 : 0 ≤ w ∧ zwo ws 119 (w).toNat = some n4 := s4
  replace s5 : zj9 0 n2 n5 (zwo ws) := s5
  replace s6 : zj20 0 n2 n6 (zwo ws) := s6
  replace l0 : (0 : Int) ≤ w := l0
  replace u0 : w ≤ (19 : Int) := u0
  replace g0 : n3 + (0 : Int) ≤ z := g0
  replace g1 : z + (0 : Int) ≤ n3 := g1
  replace g2 : n3 + (0 : Int) ≤ n5 := g2
  replace g3 : n5 + (0 : Int) ≤ n3 := g3
  replace g4 : n6 + (0 : Int) ≤ n4 := g4
  replace g5 : n4 + (0 : Int) ≤ n6 := g5
  show ((True) ∧ (True) ∧ (zj9 1 (n2 + (0 : Int)) (n3 + (0 : Int)) (zwo ws) ∧ True)) ∨ False
  try simp only [Int.add_zero, Int.zero_add] at *
  obtain ⟨s, hs, e1, h⟩ := hj
  obtain ⟨a, s', ha, hs', e2, e3, h'⟩ := s5
  obtain ⟨a3, ha3, e6, h3⟩ := s6
  have es : s' = s := by omega
  subst es
  have e4 := zgv_some s4.2
  refine Or.inl ⟨trivial, trivial, ⟨⟨a, s', ha, hs', by omega, by omega, fun b hb hk j hj h5 => ?_⟩, trivial⟩⟩
  by_cases q : j < 0
  · exact h' b hb hk j q h5
  · have ej : j = 0 := by omega
    subst ej
    intro c hc he
    have hw := h b hb hk
    have ec : w.toNat = c := by omega
    rw [ec] at e4
    right
    have ea : a3 = a := by omega
    subst ea
    have hl := h3 b hb hk
    rw [e4, show n4 = n6 by omega]
    exact hl
theorem zrn_21 (g : yG) : zRuN (zJf g) zru_21 := by
  intro ws z w hj n2 s2 n3 s3 n4 s4 n5 s5 l0 u0 l1 u1 l2 u2 l3 u3 g0 g1 g2 g3 x0 o0 p0 v0 t0
  replace hj : zj15 0 z w (zwo ws) := hj.resolve_left (by decide)
  clear s2
  clear s3
  replace s4 : 0 ≤ w ∧ zwo ws 119 (w).toNat = some n4 := s4
  replace s5 : zj4 n2 n5 (zwo ws) := s5
  replace l0 : (0 : Int) ≤ w := l0
  replace u0 : w ≤ (19 : Int) := u0
  replace l1 : (0 : Int) ≤ n2 := l1
  replace u1 : n2 ≤ (15 : Int) := u1
  replace l2 : (0 : Int) ≤ n3 := l2
  replace u2 : n3 ≤ (15 : Int) := u2
  replace l3 : (0 : Int) ≤ n4 := l3
  replace u3 : n4 ≤ (27 : Int) := u3
  replace g0 : n3 + (0 : Int) ≤ z := g0
  replace g1 : z + (0 : Int) ≤ n3 := g1
  replace g2 : n3 + (0 : Int) ≤ n5 := g2
  replace g3 : n5 + (0 : Int) ≤ n3 := g3
  replace o0 : 0 ≤ (n3 + (0 : Int)) := o0
  replace p0 : zwo ws 121 (n3 + (0 : Int)).toNat = some x0 := p0
  replace v0 : (1 : Int) ≤ x0 := v0
  replace t0 : x0 ≤ (5 : Int) := t0
  show ((((0 : Int) ≤ n4 ∧ n4 ≤ (0 : Int)) ∧ True) ∧ (True) ∧ (True)) ∨ ((((1 : Int) ≤ n4 ∧ n4 ≤ (27 : Int)) ∧ True) ∧ (True) ∧ (zj20 0 (n2 + (0 : Int)) (n4 + (0 : Int)) (zwo ws) ∧ True)) ∨ False
  try simp only [Int.add_zero, Int.zero_add] at *
  obtain ⟨s, hs, e1, h⟩ := hj
  obtain ⟨a, s', ha, hs', e2, e3, h'⟩ := s5
  have es : s' = s := by omega
  subst es
  have e4 := zgv_some s4.2
  have e5 := zgv_some p0
  by_cases q : n4 = 0
  · exact Or.inl ⟨⟨⟨by omega, by omega⟩, trivial⟩, trivial, trivial⟩
  · refine Or.inr (Or.inl ⟨⟨⟨by omega, by omega⟩, trivial⟩, trivial, ⟨⟨a, ha, by omega, fun b hb hk => ?_⟩, trivial⟩⟩)
    have en : n3.toNat = s' := by omega
    rw [en] at e5
    have hw := h b hb hk
    rcases (h' b hb hk).2 0 (by omega) (by omega) w.toNat (by omega) (by omega) with q2 | q2
    · omega
    · rw [e4] at q2
      exact q2
theorem zrn_22 (g : yG) : zRuN (zJf g) zru_22 := by
  intro ws z w hj n2 s2 n3 s3 n4 s4 n5 s5 n6 s6 n7 s7 l0 u0 l1 u1 l2 u2 g0 g1
  replace hj : zj20 0 z w (zwo ws) := hj.resolve_left (by decide)
  clear s2
  clear s3
  replace s4 : zwo ws 88 4 = some n4 := s4
  replace s5 : n5 = (0 : Int) := s5
  replace s6 : n6 = n5 + n2 * (5 : Int) := s6
  replace s7 : n7 = n6 + n4 * (80 : Int) := s7
  replace l0 : (0 : Int) ≤ n2 := l0
  replace u0 : n2 ≤ (15 : Int) := u0
  replace l1 : (0 : Int) ≤ n3 := l1
  replace u1 : n3 ≤ (0 : Int) := u1
  replace l2 : (0 : Int) ≤ n4 := l2
  replace u2 : n4 ≤ (1 : Int) := u2
  replace g0 : n2 + (0 : Int) ≤ z := g0
  replace g1 : z + (0 : Int) ≤ n2 := g1
  show ((True) ∧ (True) ∧ ((0 ≤ (n7 + (0 : Int)) ∧ zwo ws 102 (n7 + (0 : Int)).toNat = some (w + (0 : Int))) ∧ True)) ∨ False
  try simp only [Int.add_zero, Int.zero_add] at *
  obtain ⟨a, ha, e1, h⟩ := hj
  have hb := zgv_some s4
  refine Or.inl ⟨trivial, trivial, ⟨⟨by omega, ?_⟩, trivial⟩⟩
  have h2 := h n4.toNat (by omega) (by omega)
  rw [show n7.toNat = 80 * n4.toNat + 5 * a + 0 by omega]
  exact h2
theorem zrn_23 (g : yG) : zRuN (zJf g) zru_23 := by
  intro ws z w hj n2 s2 n3 s3 n4 s4 n5 s5 n6 s6 n7 s7 n8 s8 l0 u0 l1 u1 l2 u2
  clear hj
  clear s2
  clear s3
  replace s4 : zwo ws 88 4 = some n4 := s4
  replace s5 : n5 = (0 : Int) := s5
  replace s6 : n6 = n5 + n2 * (5 : Int) := s6
  replace s7 : n7 = n6 + n4 * (80 : Int) := s7
  replace s8 : 0 ≤ n7 ∧ zwo ws 102 (n7).toNat = some n8 := s8
  replace l0 : (0 : Int) ≤ n2 := l0
  replace u0 : n2 ≤ (15 : Int) := u0
  replace l1 : (0 : Int) ≤ n3 := l1
  replace u1 : n3 ≤ (0 : Int) := u1
  replace l2 : (0 : Int) ≤ n4 := l2
  replace u2 : n4 ≤ (1 : Int) := u2
  show ((True) ∧ (True) ∧ (zj20 0 (n2 + (0 : Int)) (n8 + (0 : Int)) (zwo ws) ∧ True)) ∨ False
  try simp only [Int.add_zero, Int.zero_add] at *
  have hb := zgv_some s4
  refine Or.inl ⟨trivial, trivial, ⟨⟨n2.toNat, by omega, by omega, fun b hb2 hk => ?_⟩, trivial⟩⟩
  rw [show 80 * b + 5 * n2.toNat + 0 = n7.toNat by omega]
  exact s8.2
theorem zrn_24 (g : yG) : zRuN (zJf g) zru_24 := by
  intro ws z w hj n2 s2 n3 s3 n4 s4 n5 s5 n6 s6 l0 u0 l1 u1 l2 u2 x0 o0 p0 v0 t0
  replace hj : zj0 (zwo ws) := hj.resolve_left (by decide)
  clear s2
  replace s3 : 0 ≤ n2 ∧ zwo ws 120 (n2).toNat = some n3 := s3
  replace s4 : zwo ws 88 4 = some n4 := s4
  replace s5 : n5 = (0 : Int) := s5
  clear s6
  replace l0 : (0 : Int) ≤ n2 := l0
  replace u0 : n2 ≤ (15 : Int) := u0
  replace l1 : (0 : Int) ≤ n4 := l1
  replace u1 : n4 ≤ (1 : Int) := u1
  replace l2 : (1 : Int) ≤ n6 := l2
  replace u2 : n6 ≤ (1 : Int) := u2
  replace o0 : 0 ≤ (n4 + (0 : Int)) := o0
  replace p0 : zwo ws 92 (n4 + (0 : Int)).toNat = some x0 := p0
  replace v0 : (2 : Int) ≤ x0 := v0
  replace t0 : x0 ≤ (5 : Int) := t0
  show ((True) ∧ ((∀ x, 0 ≤ (n2 + (0 : Int)) → zwo ws 121 (n2 + (0 : Int)).toNat = some x → (0 : Int) ≤ x ∧ x ≤ (0 : Int)) ∧ True) ∧ (True)) ∨ ((True) ∧ ((∀ x, 0 ≤ (n2 + (0 : Int)) → zwo ws 121 (n2 + (0 : Int)).toNat = some x → (1 : Int) ≤ x ∧ x ≤ (1 : Int)) ∧ True) ∧ (True)) ∨ ((True) ∧ ((∀ x, 0 ≤ (n2 + (0 : Int)) → zwo ws 121 (n2 + (0 : Int)).toNat = some x → (2 : Int) ≤ x ∧ x ≤ (2 : Int)) ∧ (∀ x, 0 ≤ (n2 + (0 : Int)) → zwo ws 124 (n2 + (0 : Int)).toNat = some x → (1 : Int) ≤ x ∧ x ≤ (1 : Int)) ∧ (∀ x, 0 ≤ (n2 + (0 : Int)) → zwo ws 120 (n2 + (0 : Int)).toNat = some x → (0 : Int) ≤ x ∧ x ≤ (18 : Int)) ∧ True) ∧ (zj15 1 (n2 + (0 : Int)) (n3 + (1 : Int)) (zwo ws) ∧ True)) ∨ ((True) ∧ ((∀ x, 0 ≤ (n2 + (0 : Int)) → zwo ws 121 (n2 + (0 : Int)).toNat = some x → (3 : Int) ≤ x ∧ x ≤ (3 : Int)) ∧ (∀ x, 0 ≤ (n2 + (0 : Int)) → zwo ws 124 (n2 + (0 : Int)).toNat = some x → (1 : Int) ≤ x ∧ x ≤ (1 : Int)) ∧ (∀ x, 0 ≤ (n2 + (0 : Int)) → zwo ws 120 (n2 + (0 : Int)).toNat = some x → (0 : Int) ≤ x ∧ x ≤ (17 : Int)) ∧ True) ∧ (zj15 1 (n2 + (0 : Int)) (n3 + (1 : Int)) (zwo ws) ∧ True)) ∨ ((True) ∧ ((∀ x, 0 ≤ (n2 + (0 : Int)) → zwo ws 121 (n2 + (0 : Int)).toNat = some x → (4 : Int) ≤ x ∧ x ≤ (4 : Int)) ∧ (∀ x, 0 ≤ (n2 + (0 : Int)) → zwo ws 124 (n2 + (0 : Int)).toNat = some x → (1 : Int) ≤ x ∧ x ≤ (1 : Int)) ∧ (∀ x, 0 ≤ (n2 + (0 : Int)) → zwo ws 120 (n2 + (0 : Int)).toNat = some x → (0 : Int) ≤ x ∧ x ≤ (16 : Int)) ∧ True) ∧ (zj15 1 (n2 + (0 : Int)) (n3 + (1 : Int)) (zwo ws) ∧ True)) ∨ ((True) ∧ ((∀ x, 0 ≤ (n2 + (0 : Int)) → zwo ws 121 (n2 + (0 : Int)).toNat = some x → (5 : Int) ≤ x ∧ x ≤ (5 : Int)) ∧ (∀ x, 0 ≤ (n2 + (0 : Int)) → zwo ws 124 (n2 + (0 : Int)).toNat = some x → (1 : Int) ≤ x ∧ x ≤ (1 : Int)) ∧ (∀ x, 0 ≤ (n2 + (0 : Int)) → zwo ws 120 (n2 + (0 : Int)).toNat = some x → (0 : Int) ≤ x ∧ x ≤ (15 : Int)) ∧ True) ∧ (zj15 1 (n2 + (0 : Int)) (n3 + (1 : Int)) (zwo ws) ∧ True)) ∨ ((((0 : Int) ≤ n4 ∧ n4 ≤ (0 : Int)) ∧ True) ∧ ((∀ x, 0 ≤ (n2 + (0 : Int)) → zwo ws 121 (n2 + (0 : Int)).toNat = some x → (2 : Int) ≤ x ∧ x ≤ (2 : Int)) ∧ (∀ x, 0 ≤ (n2 + (0 : Int)) → zwo ws 124 (n2 + (0 : Int)).toNat = some x → (0 : Int) ≤ x ∧ x ≤ (0 : Int)) ∧ (∀ x, 0 ≤ (n2 + (0 : Int)) → zwo ws 120 (n2 + (0 : Int)).toNat = some x → (0 : Int) ≤ x ∧ x ≤ (14 : Int)) ∧ (∀ x, 0 ≤ (n5 + (0 : Int)) → zwo ws 92 (n5 + (0 : Int)).toNat = some x → (2 : Int) ≤ x ∧ x ≤ (2 : Int)) ∧ True) ∧ (zj15 1 (n2 + (0 : Int)) (n3 + (2 : Int)) (zwo ws) ∧ True)) ∨ ((((1 : Int) ≤ n4 ∧ n4 ≤ (1 : Int)) ∧ True) ∧ ((∀ x, 0 ≤ (n2 + (0 : Int)) → zwo ws 121 (n2 + (0 : Int)).toNat = some x → (2 : Int) ≤ x ∧ x ≤ (2 : Int)) ∧ (∀ x, 0 ≤ (n2 + (0 : Int)) → zwo ws 124 (n2 + (0 : Int)).toNat = some x → (0 : Int) ≤ x ∧ x ≤ (0 : Int)) ∧ (∀ x, 0 ≤ (n2 + (0 : Int)) → zwo ws 120 (n2 + (0 : Int)).toNat = some x → (0 : Int) ≤ x ∧ x ≤ (14 : Int)) ∧ (∀ x, 0 ≤ (n5 + (1 : Int)) → zwo ws 92 (n5 + (1 : Int)).toNat = some x → (2 : Int) ≤ x ∧ x ≤ (2 : Int)) ∧ True) ∧ (zj15 1 (n2 + (0 : Int)) (n3 + (2 : Int)) (zwo ws) ∧ True)) ∨ ((((0 : Int) ≤ n4 ∧ n4 ≤ (0 : Int)) ∧ True) ∧ ((∀ x, 0 ≤ (n2 + (0 : Int)) → zwo ws 121 (n2 + (0 : Int)).toNat = some x → (2 : Int) ≤ x ∧ x ≤ (2 : Int)) ∧ (∀ x, 0 ≤ (n2 + (0 : Int)) → zwo ws 124 (n2 + (0 : Int)).toNat = some x → (0 : Int) ≤ x ∧ x ≤ (0 : Int)) ∧ (∀ x, 0 ≤ (n2 + (0 : Int)) → zwo ws 120 (n2 + (0 : Int)).toNat = some x → (0 : Int) ≤ x ∧ x ≤ (14 : Int)) ∧ (∀ x, 0 ≤ (n5 + (0 : Int)) → zwo ws 92 (n5 + (0 : Int)).toNat = some x → (3 : Int) ≤ x ∧ x ≤ (3 : Int)) ∧ True) ∧ (zj15 1 (n2 + (0 : Int)) (n3 + (3 : Int)) (zwo ws) ∧ True)) ∨ ((((1 : Int) ≤ n4 ∧ n4 ≤ (1 : Int)) ∧ True) ∧ ((∀ x, 0 ≤ (n2 + (0 : Int)) → zwo ws 121 (n2 + (0 : Int)).toNat = some x → (2 : Int) ≤ x ∧ x ≤ (2 : Int)) ∧ (∀ x, 0 ≤ (n2 + (0 : Int)) → zwo ws 124 (n2 + (0 : Int)).toNat = some x → (0 : Int) ≤ x ∧ x ≤ (0 : Int)) ∧ (∀ x, 0 ≤ (n2 + (0 : Int)) → zwo ws 120 (n2 + (0 : Int)).toNat = some x → (0 : Int) ≤ x ∧ x ≤ (14 : Int)) ∧ (∀ x, 0 ≤ (n5 + (1 : Int)) → zwo ws 92 (n5 + (1 : Int)).toNat = some x → (3 : Int) ≤ x ∧ x ≤ (3 : Int)) ∧ True) ∧ (zj15 1 (n2 + (0 : Int)) (n3 + (3 : Int)) (zwo ws) ∧ True)) ∨ ((((0 : Int) ≤ n4 ∧ n4 ≤ (0 : Int)) ∧ True) ∧ ((∀ x, 0 ≤ (n2 + (0 : Int)) → zwo ws 121 (n2 + (0 : Int)).toNat = some x → (2 : Int) ≤ x ∧ x ≤ (2 : Int)) ∧ (∀ x, 0 ≤ (n2 + (0 : Int)) → zwo ws 124 (n2 + (0 : Int)).toNat = some x → (0 : Int) ≤ x ∧ x ≤ (0 : Int)) ∧ (∀ x, 0 ≤ (n2 + (0 : Int)) → zwo ws 120 (n2 + (0 : Int)).toNat = some x → (0 : Int) ≤ x ∧ x ≤ (14 : Int)) ∧ (∀ x, 0 ≤ (n5 + (0 : Int)) → zwo ws 92 (n5 + (0 : Int)).toNat = some x → (4 : Int) ≤ x ∧ x ≤ (4 : Int)) ∧ True) ∧ (zj15 1 (n2 + (0 : Int)) (n3 + (4 : Int)) (zwo ws) ∧ True)) ∨ ((((1 : Int) ≤ n4 ∧ n4 ≤ (1 : Int)) ∧ True) ∧ ((∀ x, 0 ≤ (n2 + (0 : Int)) → zwo ws 121 (n2 + (0 : Int)).toNat = some x → (2 : Int) ≤ x ∧ x ≤ (2 : Int)) ∧ (∀ x, 0 ≤ (n2 + (0 : Int)) → zwo ws 124 (n2 + (0 : Int)).toNat = some x → (0 : Int) ≤ x ∧ x ≤ (0 : Int)) ∧ (∀ x, 0 ≤ (n2 + (0 : Int)) → zwo ws 120 (n2 + (0 : Int)).toNat = some x → (0 : Int) ≤ x ∧ x ≤ (14 : Int)) ∧ (∀ x, 0 ≤ (n5 + (1 : Int)) → zwo ws 92 (n5 + (1 : Int)).toNat = some x → (4 : Int) ≤ x ∧ x ≤ (4 : Int)) ∧ True) ∧ (zj15 1 (n2 + (0 : Int)) (n3 + (4 : Int)) (zwo ws) ∧ True)) ∨ ((((0 : Int) ≤ n4 ∧ n4 ≤ (0 : Int)) ∧ True) ∧ ((∀ x, 0 ≤ (n2 + (0 : Int)) → zwo ws 121 (n2 + (0 : Int)).toNat = some x → (2 : Int) ≤ x ∧ x ≤ (2 : Int)) ∧ (∀ x, 0 ≤ (n2 + (0 : Int)) → zwo ws 124 (n2 + (0 : Int)).toNat = some x → (0 : Int) ≤ x ∧ x ≤ (0 : Int)) ∧ (∀ x, 0 ≤ (n2 + (0 : Int)) → zwo ws 120 (n2 + (0 : Int)).toNat = some x → (0 : Int) ≤ x ∧ x ≤ (14 : Int)) ∧ (∀ x, 0 ≤ (n5 + (0 : Int)) → zwo ws 92 (n5 + (0 : Int)).toNat = some x → (5 : Int) ≤ x ∧ x ≤ (5 : Int)) ∧ True) ∧ (zj15 1 (n2 + (0 : Int)) (n3 + (5 : Int)) (zwo ws) ∧ True)) ∨ ((((1 : Int) ≤ n4 ∧ n4 ≤ (1 : Int)) ∧ True) ∧ ((∀ x, 0 ≤ (n2 + (0 : Int)) → zwo ws 121 (n2 + (0 : Int)).toNat = some x → (2 : Int) ≤ x ∧ x ≤ (2 : Int)) ∧ (∀ x, 0 ≤ (n2 + (0 : Int)) → zwo ws 124 (n2 + (0 : Int)).toNat = some x → (0 : Int) ≤ x ∧ x ≤ (0 : Int)) ∧ (∀ x, 0 ≤ (n2 + (0 : Int)) → zwo ws 120 (n2 + (0 : Int)).toNat = some x → (0 : Int) ≤ x ∧ x ≤ (14 : Int)) ∧ (∀ x, 0 ≤ (n5 + (1 : Int)) → zwo ws 92 (n5 + (1 : Int)).toNat = some x → (5 : Int) ≤ x ∧ x ≤ (5 : Int)) ∧ True) ∧ (zj15 1 (n2 + (0 : Int)) (n3 + (5 : Int)) (zwo ws) ∧ True)) ∨ ((((0 : Int) ≤ n4 ∧ n4 ≤ (0 : Int)) ∧ True) ∧ ((∀ x, 0 ≤ (n2 + (0 : Int)) → zwo ws 121 (n2 + (0 : Int)).toNat = some x → (3 : Int) ≤ x ∧ x ≤ (3 : Int)) ∧ (∀ x, 0 ≤ (n2 + (0 : Int)) → zwo ws 124 (n2 + (0 : Int)).toNat = some x → (0 : Int) ≤ x ∧ x ≤ (0 : Int)) ∧ (∀ x, 0 ≤ (n2 + (0 : Int)) → zwo ws 120 (n2 + (0 : Int)).toNat = some x → (0 : Int) ≤ x ∧ x ≤ (9 : Int)) ∧ (∀ x, 0 ≤ (n5 + (0 : Int)) → zwo ws 92 (n5 + (0 : Int)).toNat = some x → (2 : Int) ≤ x ∧ x ≤ (2 : Int)) ∧ True) ∧ (zj15 1 (n2 + (0 : Int)) (n3 + (2 : Int)) (zwo ws) ∧ True)) ∨ ((((1 : Int) ≤ n4 ∧ n4 ≤ (1 : Int)) ∧ True) ∧ ((∀ x, 0 ≤ (n2 + (0 : Int)) → zwo ws 121 (n2 + (0 : Int)).toNat = some x → (3 : Int) ≤ x ∧ x ≤ (3 : Int)) ∧ (∀ x, 0 ≤ (n2 + (0 : Int)) → zwo ws 124 (n2 + (0 : Int)).toNat = some x → (0 : Int) ≤ x ∧ x ≤ (0 : Int)) ∧ (∀ x, 0 ≤ (n2 + (0 : Int)) → zwo ws 120 (n2 + (0 : Int)).toNat = some x → (0 : Int) ≤ x ∧ x ≤ (9 : Int)) ∧ (∀ x, 0 ≤ (n5 + (1 : Int)) → zwo ws 92 (n5 + (1 : Int)).toNat = some x → (2 : Int) ≤ x ∧ x ≤ (2 : Int)) ∧ True) ∧ (zj15 1 (n2 + (0 : Int)) (n3 + (2 : Int)) (zwo ws) ∧ True)) ∨ ((((0 : Int) ≤ n4 ∧ n4 ≤ (0 : Int)) ∧ True) ∧ ((∀ x, 0 ≤ (n2 + (0 : Int)) → zwo ws 121 (n2 + (0 : Int)).toNat = some x → (3 : Int) ≤ x ∧ x ≤ (3 : Int)) ∧ (∀ x, 0 ≤ (n2 + (0 : Int)) → zwo ws 124 (n2 + (0 : Int)).toNat = some x → (0 : Int) ≤ x ∧ x ≤ (0 : Int)) ∧ (∀ x, 0 ≤ (n2 + (0 : Int)) → zwo ws 120 (n2 + (0 : Int)).toNat = some x → (0 : Int) ≤ x ∧ x ≤ (9 : Int)) ∧ (∀ x, 0 ≤ (n5 + (0 : Int)) → zwo ws 92 (n5 + (0 : Int)).toNat = some x → (3 : Int) ≤ x ∧ x ≤ (3 : Int)) ∧ True) ∧ (zj15 1 (n2 + (0 : Int)) (n3 + (3 : Int)) (zwo ws) ∧ True)) ∨ ((((1 : Int) ≤ n4 ∧ n4 ≤ (1 : Int)) ∧ True) ∧ ((∀ x, 0 ≤ (n2 + (0 : Int)) → zwo ws 121 (n2 + (0 : Int)).toNat = some x → (3 : Int) ≤ x ∧ x ≤ (3 : Int)) ∧ (∀ x, 0 ≤ (n2 + (0 : Int)) → zwo ws 124 (n2 + (0 : Int)).toNat = some x → (0 : Int) ≤ x ∧ x ≤ (0 : Int)) ∧ (∀ x, 0 ≤ (n2 + (0 : Int)) → zwo ws 120 (n2 + (0 : Int)).toNat = some x → (0 : Int) ≤ x ∧ x ≤ (9 : Int)) ∧ (∀ x, 0 ≤ (n5 + (1 : Int)) → zwo ws 92 (n5 + (1 : Int)).toNat = some x → (3 : Int) ≤ x ∧ x ≤ (3 : Int)) ∧ True) ∧ (zj15 1 (n2 + (0 : Int)) (n3 + (3 : Int)) (zwo ws) ∧ True)) ∨ ((((0 : Int) ≤ n4 ∧ n4 ≤ (0 : Int)) ∧ True) ∧ ((∀ x, 0 ≤ (n2 + (0 : Int)) → zwo ws 121 (n2 + (0 : Int)).toNat = some x → (3 : Int) ≤ x ∧ x ≤ (3 : Int)) ∧ (∀ x, 0 ≤ (n2 + (0 : Int)) → zwo ws 124 (n2 + (0 : Int)).toNat = some x → (0 : Int) ≤ x ∧ x ≤ (0 : Int)) ∧ (∀ x, 0 ≤ (n2 + (0 : Int)) → zwo ws 120 (n2 + (0 : Int)).toNat = some x → (0 : Int) ≤ x ∧ x ≤ (9 : Int)) ∧ (∀ x, 0 ≤ (n5 + (0 : Int)) → zwo ws 92 (n5 + (0 : Int)).toNat = some x → (4 : Int) ≤ x ∧ x ≤ (4 : Int)) ∧ True) ∧ (zj15 1 (n2 + (0 : Int)) (n3 + (4 : Int)) (zwo ws) ∧ True)) ∨ ((((1 : Int) ≤ n4 ∧ n4 ≤ (1 : Int)) ∧ True) ∧ ((∀ x, 0 ≤ (n2 + (0 : Int)) → zwo ws 121 (n2 + (0 : Int)).toNat = some x → (3 : Int) ≤ x ∧ x ≤ (3 : Int)) ∧ (∀ x, 0 ≤ (n2 + (0 : Int)) → zwo ws 124 (n2 + (0 : Int)).toNat = some x → (0 : Int) ≤ x ∧ x ≤ (0 : Int)) ∧ (∀ x, 0 ≤ (n2 + (0 : Int)) → zwo ws 120 (n2 + (0 : Int)).toNat = some x → (0 : Int) ≤ x ∧ x ≤ (9 : Int)) ∧ (∀ x, 0 ≤ (n5 + (1 : Int)) → zwo ws 92 (n5 + (1 : Int)).toNat = some x → (4 : Int) ≤ x ∧ x ≤ (4 : Int)) ∧ True) ∧ (zj15 1 (n2 + (0 : Int)) (n3 + (4 : Int)) (zwo ws) ∧ True)) ∨ ((((0 : Int) ≤ n4 ∧ n4 ≤ (0 : Int)) ∧ True) ∧ ((∀ x, 0 ≤ (n2 + (0 : Int)) → zwo ws 121 (n2 + (0 : Int)).toNat = some x → (3 : Int) ≤ x ∧ x ≤ (3 : Int)) ∧ (∀ x, 0 ≤ (n2 + (0 : Int)) → zwo ws 124 (n2 + (0 : Int)).toNat = some x → (0 : Int) ≤ x ∧ x ≤ (0 : Int)) ∧ (∀ x, 0 ≤ (n2 + (0 : Int)) → zwo ws 120 (n2 + (0 : Int)).toNat = some x → (0 : Int) ≤ x ∧ x ≤ (9 : Int)) ∧ (∀ x, 0 ≤ (n5 + (0 : Int)) → zwo ws 92 (n5 + (0 : Int)).toNat = some x → (5 : Int) ≤ x ∧ x ≤ (5 : Int)) ∧ True) ∧ (zj15 1 (n2 + (0 : Int)) (n3 + (5 : Int)) (zwo ws) ∧ True)) ∨ ((((1 : Int) ≤ n4 ∧ n4 ≤ (1 : Int)) ∧ True) ∧ ((∀ x, 0 ≤ (n2 + (0 : Int)) → zwo ws 121 (n2 + (0 : Int)).toNat = some x → (3 : Int) ≤ x ∧ x ≤ (3 : Int)) ∧ (∀ x, 0 ≤ (n2 + (0 : Int)) → zwo ws 124 (n2 + (0 : Int)).toNat = some x → (0 : Int) ≤ x ∧ x ≤ (0 : Int)) ∧ (∀ x, 0 ≤ (n2 + (0 : Int)) → zwo ws 120 (n2 + (0 : Int)).toNat = some x → (0 : Int) ≤ x ∧ x ≤ (9 : Int)) ∧ (∀ x, 0 ≤ (n5 + (1 : Int)) → zwo ws 92 (n5 + (1 : Int)).toNat = some x → (5 : Int) ≤ x ∧ x ≤ (5 : Int)) ∧ True) ∧ (zj15 1 (n2 + (0 : Int)) (n3 + (5 : Int)) (zwo ws) ∧ True)) ∨ ((((0 : Int) ≤ n4 ∧ n4 ≤ (0 : Int)) ∧ True) ∧ ((∀ x, 0 ≤ (n2 + (0 : Int)) → zwo ws 121 (n2 + (0 : Int)).toNat = some x → (4 : Int) ≤ x ∧ x ≤ (4 : Int)) ∧ (∀ x, 0 ≤ (n2 + (0 : Int)) → zwo ws 124 (n2 + (0 : Int)).toNat = some x → (0 : Int) ≤ x ∧ x ≤ (0 : Int)) ∧ (∀ x, 0 ≤ (n2 + (0 : Int)) → zwo ws 120 (n2 + (0 : Int)).toNat = some x → (0 : Int) ≤ x ∧ x ≤ (4 : Int)) ∧ (∀ x, 0 ≤ (n5 + (0 : Int)) → zwo ws 92 (n5 + (0 : Int)).toNat = some x → (2 : Int) ≤ x ∧ x ≤ (2 : Int)) ∧ True) ∧ (zj15 1 (n2 + (0 : Int)) (n3 + (2 : Int)) (zwo ws) ∧ True)) ∨ ((((1 : Int) ≤ n4 ∧ n4 ≤ (1 : Int)) ∧ True) ∧ ((∀ x, 0 ≤ (n2 + (0 : Int)) → zwo ws 121 (n2 + (0 : Int)).toNat = some x → (4 : Int) ≤ x ∧ x ≤ (4 : Int)) ∧ (∀ x, 0 ≤ (n2 + (0 : Int)) → zwo ws 124 (n2 + (0 : Int)).toNat = some x → (0 : Int) ≤ x ∧ x ≤ (0 : Int)) ∧ (∀ x, 0 ≤ (n2 + (0 : Int)) → zwo ws 120 (n2 + (0 : Int)).toNat = some x → (0 : Int) ≤ x ∧ x ≤ (4 : Int)) ∧ (∀ x, 0 ≤ (n5 + (1 : Int)) → zwo ws 92 (n5 + (1 : Int)).toNat = some x → (2 : Int) ≤ x ∧ x ≤ (2 : Int)) ∧ True) ∧ (zj15 1 (n2 + (0 : Int)) (n3 + (2 : Int)) (zwo ws) ∧ True)) ∨ ((((0 : Int) ≤ n4 ∧ n4 ≤ (0 : Int)) ∧ True) ∧ ((∀ x, 0 ≤ (n2 + (0 : Int)) → zwo ws 121 (n2 + (0 : Int)).toNat = some x → (4 : Int) ≤ x ∧ x ≤ (4 : Int)) ∧ (∀ x, 0 ≤ (n2 + (0 : Int)) → zwo ws 124 (n2 + (0 : Int)).toNat = some x → (0 : Int) ≤ x ∧ x ≤ (0 : Int)) ∧ (∀ x, 0 ≤ (n2 + (0 : Int)) → zwo ws 120 (n2 + (0 : Int)).toNat = some x → (0 : Int) ≤ x ∧ x ≤ (4 : Int)) ∧ (∀ x, 0 ≤ (n5 + (0 : Int)) → zwo ws 92 (n5 + (0 : Int)).toNat = some x → (3 : Int) ≤ x ∧ x ≤ (3 : Int)) ∧ True) ∧ (zj15 1 (n2 + (0 : Int)) (n3 + (3 : Int)) (zwo ws) ∧ True)) ∨ ((((1 : Int) ≤ n4 ∧ n4 ≤ (1 : Int)) ∧ True) ∧ ((∀ x, 0 ≤ (n2 + (0 : Int)) → zwo ws 121 (n2 + (0 : Int)).toNat = some x → (4 : Int) ≤ x ∧ x ≤ (4 : Int)) ∧ (∀ x, 0 ≤ (n2 + (0 : Int)) → zwo ws 124 (n2 + (0 : Int)).toNat = some x → (0 : Int) ≤ x ∧ x ≤ (0 : Int)) ∧ (∀ x, 0 ≤ (n2 + (0 : Int)) → zwo ws 120 (n2 + (0 : Int)).toNat = some x → (0 : Int) ≤ x ∧ x ≤ (4 : Int)) ∧ (∀ x, 0 ≤ (n5 + (1 : Int)) → zwo ws 92 (n5 + (1 : Int)).toNat = some x → (3 : Int) ≤ x ∧ x ≤ (3 : Int)) ∧ True) ∧ (zj15 1 (n2 + (0 : Int)) (n3 + (3 : Int)) (zwo ws) ∧ True)) ∨ ((((0 : Int) ≤ n4 ∧ n4 ≤ (0 : Int)) ∧ True) ∧ ((∀ x, 0 ≤ (n2 + (0 : Int)) → zwo ws 121 (n2 + (0 : Int)).toNat = some x → (4 : Int) ≤ x ∧ x ≤ (4 : Int)) ∧ (∀ x, 0 ≤ (n2 + (0 : Int)) → zwo ws 124 (n2 + (0 : Int)).toNat = some x → (0 : Int) ≤ x ∧ x ≤ (0 : Int)) ∧ (∀ x, 0 ≤ (n2 + (0 : Int)) → zwo ws 120 (n2 + (0 : Int)).toNat = some x → (0 : Int) ≤ x ∧ x ≤ (4 : Int)) ∧ (∀ x, 0 ≤ (n5 + (0 : Int)) → zwo ws 92 (n5 + (0 : Int)).toNat = some x → (4 : Int) ≤ x ∧ x ≤ (4 : Int)) ∧ True) ∧ (zj15 1 (n2 + (0 : Int)) (n3 + (4 : Int)) (zwo ws) ∧ True)) ∨ ((((1 : Int) ≤ n4 ∧ n4 ≤ (1 : Int)) ∧ True) ∧ ((∀ x, 0 ≤ (n2 + (0 : Int)) → zwo ws 121 (n2 + (0 : Int)).toNat = some x → (4 : Int) ≤ x ∧ x ≤ (4 : Int)) ∧ (∀ x, 0 ≤ (n2 + (0 : Int)) → zwo ws 124 (n2 + (0 : Int)).toNat = some x → (0 : Int) ≤ x ∧ x ≤ (0 : Int)) ∧ (∀ x, 0 ≤ (n2 + (0 : Int)) → zwo ws 120 (n2 + (0 : Int)).toNat = some x → (0 : Int) ≤ x ∧ x ≤ (4 : Int)) ∧ (∀ x, 0 ≤ (n5 + (1 : Int)) → zwo ws 92 (n5 + (1 : Int)).toNat = some x → (4 : Int) ≤ x ∧ x ≤ (4 : Int)) ∧ True) ∧ (zj15 1 (n2 + (0 : Int)) (n3 + (4 : Int)) (zwo ws) ∧ True)) ∨ ((((0 : Int) ≤ n4 ∧ n4 ≤ (0 : Int)) ∧ True) ∧ ((∀ x, 0 ≤ (n2 + (0 : Int)) → zwo ws 121 (n2 + (0 : Int)).toNat = some x → (4 : Int) ≤ x ∧ x ≤ (4 : Int)) ∧ (∀ x, 0 ≤ (n2 + (0 : Int)) → zwo ws 124 (n2 + (0 : Int)).toNat = some x → (0 : Int) ≤ x ∧ x ≤ (0 : Int)) ∧ (∀ x, 0 ≤ (n2 + (0 : Int)) → zwo ws 120 (n2 + (0 : Int)).toNat = some x → (0 : Int) ≤ x ∧ x ≤ (4 : Int)) ∧ (∀ x, 0 ≤ (n5 + (0 : Int)) → zwo ws 92 (n5 + (0 : Int)).toNat = some x → (5 : Int) ≤ x ∧ x ≤ (5 : Int)) ∧ True) ∧ (zj15 1 (n2 + (0 : Int)) (n3 + (5 : Int)) (zwo ws) ∧ True)) ∨ ((((1 : Int) ≤ n4 ∧ n4 ≤ (1 : Int)) ∧ True) ∧ ((∀ x, 0 ≤ (n2 + (0 : Int)) → zwo ws 121 (n2 + (0 : Int)).toNat = some x → (4 : Int) ≤ x ∧ x ≤ (4 : Int)) ∧ (∀ x, 0 ≤ (n2 + (0 : Int)) → zwo ws 124 (n2 + (0 : Int)).toNat = some x → (0 : Int) ≤ x ∧ x ≤ (0 : Int)) ∧ (∀ x, 0 ≤ (n2 + (0 : Int)) → zwo ws 120 (n2 + (0 : Int)).toNat = some x → (0 : Int) ≤ x ∧ x ≤ (4 : Int)) ∧ (∀ x, 0 ≤ (n5 + (1 : Int)) → zwo ws 92 (n5 + (1 : Int)).toNat = some x → (5 : Int) ≤ x ∧ x ≤ (5 : Int)) ∧ True) ∧ (zj15 1 (n2 + (0 : Int)) (n3 + (5 : Int)) (zwo ws) ∧ True)) ∨ False
  try simp only [Int.add_zero, Int.zero_add] at *
  have h := hj n2.toNat (by omega)
  unfold zj_geo at h
  have hf := zgv_some s3.2
  have hb := zgv_some s4
  have hc := zgv_some p0
  have hz : ∀ (c : Int), (∀ b : Nat, b < 2 → zgv (zwo ws) 88 4 = (b : Int) → c = zgv (zwo ws) 120 n2.toNat + (1 : Int) * zj_stp (zwo ws) b n2.toNat) → zj15 1 n2 c (zwo ws) := fun c hc => ⟨n2.toNat, by omega, by omega, hc⟩
  have h5 : zgv (zwo ws) 121 n2.toNat = 0 ∨ zgv (zwo ws) 121 n2.toNat = 1 ∨ zgv (zwo ws) 121 n2.toNat = 2 ∨ zgv (zwo ws) 121 n2.toNat = 3 ∨ zgv (zwo ws) 121 n2.toNat = 4 ∨ zgv (zwo ws) 121 n2.toNat = 5 := by omega
  have hdn : ¬ zgv (zwo ws) 124 n2.toNat = 1 → ∀ b : Nat, b < 2 → zgv (zwo ws) 88 4 = (b : Int) → zj_stp (zwo ws) b n2.toNat = x0 := fun hq b hb2 hb3 => by
    unfold zj_stp
    rw [if_neg hq, show b = n4.toNat by omega]
    exact hc
  have hw : x0 = 2 ∨ x0 = 3 ∨ x0 = 4 ∨ x0 = 5 := by omega
  have hbb : n4 = 0 ∨ n4 = 1 := by omega
  rcases h5 with h5 | h5 | h5 | h5 | h5 | h5
  · exact Or.inl ⟨trivial, ⟨fun x hx0 hx => by have hv := zgv_some hx; omega, trivial⟩, trivial⟩
  · exact Or.inr (Or.inl ⟨trivial, ⟨fun x hx0 hx => by have hv := zgv_some hx; omega, trivial⟩, trivial⟩)
  · by_cases hq : zgv (zwo ws) 124 n2.toNat = 1
    · exact Or.inr (Or.inr (Or.inl ⟨trivial, ⟨fun x hx0 hx => by have hv := zgv_some hx; omega, fun x hx0 hx => by have hv := zgv_some hx; omega, fun x hx0 hx => by have hv := zgv_some hx; omega, trivial⟩, ⟨hz _ (fun b _ _ => by unfold zj_stp; rw [if_pos hq]; omega), trivial⟩⟩))
    · rcases hbb with hbb | hbb
      · rcases hw with hw | hw | hw | hw
        · exact Or.inr (Or.inr (Or.inr (Or.inr (Or.inr (Or.inr (Or.inl ⟨⟨⟨by omega, by omega⟩, trivial⟩, ⟨fun x hx0 hx => by have hv := zgv_some hx; omega, fun x hx0 hx => by have hv := zgv_some hx; omega, fun x hx0 hx => by have hv := zgv_some hx; omega, fun x hx0 hx => by rw [show (n5).toNat = n4.toNat by omega] at hx; have hv := zgv_some hx; omega, trivial⟩, ⟨hz _ (fun b hb2 hb3 => by rw [hdn hq b hb2 hb3]; omega), trivial⟩⟩))))))
        · exact Or.inr (Or.inr (Or.inr (Or.inr (Or.inr (Or.inr (Or.inr (Or.inr (Or.inl ⟨⟨⟨by omega, by omega⟩, trivial⟩, ⟨fun x hx0 hx => by have hv := zgv_some hx; omega, fun x hx0 hx => by have hv := zgv_some hx; omega, fun x hx0 hx => by have hv := zgv_some hx; omega, fun x hx0 hx => by rw [show (n5).toNat = n4.toNat by omega] at hx; have hv := zgv_some hx; omega, trivial⟩, ⟨hz _ (fun b hb2 hb3 => by rw [hdn hq b hb2 hb3]; omega), trivial⟩⟩))))))))
        · exact Or.inr (Or.inr (Or.inr (Or.inr (Or.inr (Or.inr (Or.inr (Or.inr (Or.inr (Or.inr (Or.inl ⟨⟨⟨by omega, by omega⟩, trivial⟩, ⟨fun x hx0 hx => by have hv := zgv_some hx; omega, fun x hx0 hx => by have hv := zgv_some hx; omega, fun x hx0 hx => by have hv := zgv_some hx; omega, fun x hx0 hx => by rw [show (n5).toNat = n4.toNat by omega] at hx; have hv := zgv_some hx; omega, trivial⟩, ⟨hz _ (fun b hb2 hb3 => by rw [hdn hq b hb2 hb3]; omega), trivial⟩⟩))))))))))
        · exact Or.inr (Or.inr (Or.inr (Or.inr (Or.inr (Or.inr (Or.inr (Or.inr (Or.inr (Or.inr (Or.inr (Or.inr (Or.inl ⟨⟨⟨by omega, by omega⟩, trivial⟩, ⟨fun x hx0 hx => by have hv := zgv_some hx; omega, fun x hx0 hx => by have hv := zgv_some hx; omega, fun x hx0 hx => by have hv := zgv_some hx; omega, fun x hx0 hx => by rw [show (n5).toNat = n4.toNat by omega] at hx; have hv := zgv_some hx; omega, trivial⟩, ⟨hz _ (fun b hb2 hb3 => by rw [hdn hq b hb2 hb3]; omega), trivial⟩⟩))))))))))))
      · rcases hw with hw | hw | hw | hw
        · exact Or.inr (Or.inr (Or.inr (Or.inr (Or.inr (Or.inr (Or.inr (Or.inl ⟨⟨⟨by omega, by omega⟩, trivial⟩, ⟨fun x hx0 hx => by have hv := zgv_some hx; omega, fun x hx0 hx => by have hv := zgv_some hx; omega, fun x hx0 hx => by have hv := zgv_some hx; omega, fun x hx0 hx => by rw [show (n5 + 1).toNat = n4.toNat by omega] at hx; have hv := zgv_some hx; omega, trivial⟩, ⟨hz _ (fun b hb2 hb3 => by rw [hdn hq b hb2 hb3]; omega), trivial⟩⟩)))))))
        · exact Or.inr (Or.inr (Or.inr (Or.inr (Or.inr (Or.inr (Or.inr (Or.inr (Or.inr (Or.inl ⟨⟨⟨by omega, by omega⟩, trivial⟩, ⟨fun x hx0 hx => by have hv := zgv_some hx; omega, fun x hx0 hx => by have hv := zgv_some hx; omega, fun x hx0 hx => by have hv := zgv_some hx; omega, fun x hx0 hx => by rw [show (n5 + 1).toNat = n4.toNat by omega] at hx; have hv := zgv_some hx; omega, trivial⟩, ⟨hz _ (fun b hb2 hb3 => by rw [hdn hq b hb2 hb3]; omega), trivial⟩⟩)))))))))
        · exact Or.inr (Or.inr (Or.inr (Or.inr (Or.inr (Or.inr (Or.inr (Or.inr (Or.inr (Or.inr (Or.inr (Or.inl ⟨⟨⟨by omega, by omega⟩, trivial⟩, ⟨fun x hx0 hx => by have hv := zgv_some hx; omega, fun x hx0 hx => by have hv := zgv_some hx; omega, fun x hx0 hx => by have hv := zgv_some hx; omega, fun x hx0 hx => by rw [show (n5 + 1).toNat = n4.toNat by omega] at hx; have hv := zgv_some hx; omega, trivial⟩, ⟨hz _ (fun b hb2 hb3 => by rw [hdn hq b hb2 hb3]; omega), trivial⟩⟩)))))))))))
        · exact Or.inr (Or.inr (Or.inr (Or.inr (Or.inr (Or.inr (Or.inr (Or.inr (Or.inr (Or.inr (Or.inr (Or.inr (Or.inr (Or.inl ⟨⟨⟨by omega, by omega⟩, trivial⟩, ⟨fun x hx0 hx => by have hv := zgv_some hx; omega, fun x hx0 hx => by have hv := zgv_some hx; omega, fun x hx0 hx => by have hv := zgv_some hx; omega, fun x hx0 hx => by rw [show (n5 + 1).toNat = n4.toNat by omega] at hx; have hv := zgv_some hx; omega, trivial⟩, ⟨hz _ (fun b hb2 hb3 => by rw [hdn hq b hb2 hb3]; omega), trivial⟩⟩)))))))))))))
  · by_cases hq : zgv (zwo ws) 124 n2.toNat = 1
    · exact Or.inr (Or.inr (Or.inr (Or.inl ⟨trivial, ⟨fun x hx0 hx => by have hv := zgv_some hx; omega, fun x hx0 hx => by have hv := zgv_some hx; omega, fun x hx0 hx => by have hv := zgv_some hx; omega, trivial⟩, ⟨hz _ (fun b _ _ => by unfold zj_stp; rw [if_pos hq]; omega), trivial⟩⟩)))
    · rcases hbb with hbb | hbb
      · rcases hw with hw | hw | hw | hw
        · exact Or.inr (Or.inr (Or.inr (Or.inr (Or.inr (Or.inr (Or.inr (Or.inr (Or.inr (Or.inr (Or.inr (Or.inr (Or.inr (Or.inr (Or.inl ⟨⟨⟨by omega, by omega⟩, trivial⟩, ⟨fun x hx0 hx => by have hv := zgv_some hx; omega, fun x hx0 hx => by have hv := zgv_some hx; omega, fun x hx0 hx => by have hv := zgv_some hx; omega, fun x hx0 hx => by rw [show (n5).toNat = n4.toNat by omega] at hx; have hv := zgv_some hx; omega, trivial⟩, ⟨hz _ (fun b hb2 hb3 => by rw [hdn hq b hb2 hb3]; omega), trivial⟩⟩))))))))))))))
        · exact Or.inr (Or.inr (Or.inr (Or.inr (Or.inr (Or.inr (Or.inr (Or.inr (Or.inr (Or.inr (Or.inr (Or.inr (Or.inr (Or.inr (Or.inr (Or.inr (Or.inl ⟨⟨⟨by omega, by omega⟩, trivial⟩, ⟨fun x hx0 hx => by have hv := zgv_some hx; omega, fun x hx0 hx => by have hv := zgv_some hx; omega, fun x hx0 hx => by have hv := zgv_some hx; omega, fun x hx0 hx => by rw [show (n5).toNat = n4.toNat by omega] at hx; have hv := zgv_some hx; omega, trivial⟩, ⟨hz _ (fun b hb2 hb3 => by rw [hdn hq b hb2 hb3]; omega), trivial⟩⟩))))))))))))))))
        · exact Or.inr (Or.inr (Or.inr (Or.inr (Or.inr (Or.inr (Or.inr (Or.inr (Or.inr (Or.inr (Or.inr (Or.inr (Or.inr (Or.inr (Or.inr (Or.inr (Or.inr (Or.inr (Or.inl ⟨⟨⟨by omega, by omega⟩, trivial⟩, ⟨fun x hx0 hx => by have hv := zgv_some hx; omega, fun x hx0 hx => by have hv := zgv_some hx; omega, fun x hx0 hx => by have hv := zgv_some hx; omega, fun x hx0 hx => by rw [show (n5).toNat = n4.toNat by omega] at hx; have hv := zgv_some hx; omega, trivial⟩, ⟨hz _ (fun b hb2 hb3 => by rw [hdn hq b hb2 hb3]; omega), trivial⟩⟩))))))))))))))))))
        · exact Or.inr (Or.inr (Or.inr (Or.inr (Or.inr (Or.inr (Or.inr (Or.inr (Or.inr (Or.inr (Or.inr (Or.inr (Or.inr (Or.inr (Or.inr (Or.inr (Or.inr (Or.inr (Or.inr (Or.inr (Or.inl ⟨⟨⟨by omega, by omega⟩, trivial⟩, ⟨fun x hx0 hx => by have hv := zgv_some hx; omega, fun x hx0 hx => by have hv := zgv_some hx; omega, fun x hx0 hx => by have hv := zgv_some hx; omega, fun x hx0 hx => by rw [show (n5).toNat = n4.toNat by omega] at hx; have hv := zgv_some hx; omega, trivial⟩, ⟨hz _ (fun b hb2 hb3 => by rw [hdn hq b hb2 hb3]; omega), trivial⟩⟩))))))))))))))))))))
      · rcases hw with hw | hw | hw | hw
        · exact Or.inr (Or.inr (Or.inr (Or.inr (Or.inr (Or.inr (Or.inr (Or.inr (Or.inr (Or.inr (Or.inr (Or.inr (Or.inr (Or.inr (Or.inr (Or.inl ⟨⟨⟨by omega, by omega⟩, trivial⟩, ⟨fun x hx0 hx => by have hv := zgv_some hx; omega, fun x hx0 hx => by have hv := zgv_some hx; omega, fun x hx0 hx => by have hv := zgv_some hx; omega, fun x hx0 hx => by rw [show (n5 + 1).toNat = n4.toNat by omega] at hx; have hv := zgv_some hx; omega, trivial⟩, ⟨hz _ (fun b hb2 hb3 => by rw [hdn hq b hb2 hb3]; omega), trivial⟩⟩)))))))))))))))
        · exact Or.inr (Or.inr (Or.inr (Or.inr (Or.inr (Or.inr (Or.inr (Or.inr (Or.inr (Or.inr (Or.inr (Or.inr (Or.inr (Or.inr (Or.inr (Or.inr (Or.inr (Or.inl ⟨⟨⟨by omega, by omega⟩, trivial⟩, ⟨fun x hx0 hx => by have hv := zgv_some hx; omega, fun x hx0 hx => by have hv := zgv_some hx; omega, fun x hx0 hx => by have hv := zgv_some hx; omega, fun x hx0 hx => by rw [show (n5 + 1).toNat = n4.toNat by omega] at hx; have hv := zgv_some hx; omega, trivial⟩, ⟨hz _ (fun b hb2 hb3 => by rw [hdn hq b hb2 hb3]; omega), trivial⟩⟩)))))))))))))))))
        · exact Or.inr (Or.inr (Or.inr (Or.inr (Or.inr (Or.inr (Or.inr (Or.inr (Or.inr (Or.inr (Or.inr (Or.inr (Or.inr (Or.inr (Or.inr (Or.inr (Or.inr (Or.inr (Or.inr (Or.inl ⟨⟨⟨by omega, by omega⟩, trivial⟩, ⟨fun x hx0 hx => by have hv := zgv_some hx; omega, fun x hx0 hx => by have hv := zgv_some hx; omega, fun x hx0 hx => by have hv := zgv_some hx; omega, fun x hx0 hx => by rw [show (n5 + 1).toNat = n4.toNat by omega] at hx; have hv := zgv_some hx; omega, trivial⟩, ⟨hz _ (fun b hb2 hb3 => by rw [hdn hq b hb2 hb3]; omega), trivial⟩⟩)))))))))))))))))))
        · exact Or.inr (Or.inr (Or.inr (Or.inr (Or.inr (Or.inr (Or.inr (Or.inr (Or.inr (Or.inr (Or.inr (Or.inr (Or.inr (Or.inr (Or.inr (Or.inr (Or.inr (Or.inr (Or.inr (Or.inr (Or.inr (Or.inl ⟨⟨⟨by omega, by omega⟩, trivial⟩, ⟨fun x hx0 hx => by have hv := zgv_some hx; omega, fun x hx0 hx => by have hv := zgv_some hx; omega, fun x hx0 hx => by have hv := zgv_some hx; omega, fun x hx0 hx => by rw [show (n5 + 1).toNat = n4.toNat by omega] at hx; have hv := zgv_some hx; omega, trivial⟩, ⟨hz _ (fun b hb2 hb3 => by rw [hdn hq b hb2 hb3]; omega), trivial⟩⟩)))))))))))))))))))))
  · by_cases hq : zgv (zwo ws) 124 n2.toNat = 1
    · exact Or.inr (Or.inr (Or.inr (Or.inr (Or.inl ⟨trivial, ⟨fun x hx0 hx => by have hv := zgv_some hx; omega, fun x hx0 hx => by have hv := zgv_some hx; omega, fun x hx0 hx => by have hv := zgv_some hx; omega, trivial⟩, ⟨hz _ (fun b _ _ => by unfold zj_stp; rw [if_pos hq]; omega), trivial⟩⟩))))
    · rcases hbb with hbb | hbb
      · rcases hw with hw | hw | hw | hw
        · exact Or.inr (Or.inr (Or.inr (Or.inr (Or.inr (Or.inr (Or.inr (Or.inr (Or.inr (Or.inr (Or.inr (Or.inr (Or.inr (Or.inr (Or.inr (Or.inr (Or.inr (Or.inr (Or.inr (Or.inr (Or.inr (Or.inr (Or.inl ⟨⟨⟨by omega, by omega⟩, trivial⟩, ⟨fun x hx0 hx => by have hv := zgv_some hx; omega, fun x hx0 hx => by have hv := zgv_some hx; omega, fun x hx0 hx => by have hv := zgv_some hx; omega, fun x hx0 hx => by rw [show (n5).toNat = n4.toNat by omega] at hx; have hv := zgv_some hx; omega, trivial⟩, ⟨hz _ (fun b hb2 hb3 => by rw [hdn hq b hb2 hb3]; omega), trivial⟩⟩))))))))))))))))))))))
        · exact Or.inr (Or.inr (Or.inr (Or.inr (Or.inr (Or.inr (Or.inr (Or.inr (Or.inr (Or.inr (Or.inr (Or.inr (Or.inr (Or.inr (Or.inr (Or.inr (Or.inr (Or.inr (Or.inr (Or.inr (Or.inr (Or.inr (Or.inr (Or.inr (Or.inl ⟨⟨⟨by omega, by omega⟩, trivial⟩, ⟨fun x hx0 hx => by have hv := zgv_some hx; omega, fun x hx0 hx => by have hv := zgv_some hx; omega, fun x hx0 hx => by have hv := zgv_some hx; omega, fun x hx0 hx => by rw [show (n5).toNat = n4.toNat by omega] at hx; have hv := zgv_some hx; omega, trivial⟩, ⟨hz _ (fun b hb2 hb3 => by rw [hdn hq b hb2 hb3]; omega), trivial⟩⟩))))))))))))))))))))))))
        · exact Or.inr (Or.inr (Or.inr (Or.inr (Or.inr (Or.inr (Or.inr (Or.inr (Or.inr (Or.inr (Or.inr (Or.inr (Or.inr (Or.inr (Or.inr (Or.inr (Or.inr (Or.inr (Or.inr (Or.inr (Or.inr (Or.inr (Or.inr (Or.inr (Or.inr (Or.inr (Or.inl ⟨⟨⟨by omega, by omega⟩, trivial⟩, ⟨fun x hx0 hx => by have hv := zgv_some hx; omega, fun x hx0 hx => by have hv := zgv_some hx; omega, fun x hx0 hx => by have hv := zgv_some hx; omega, fun x hx0 hx => by rw [show (n5).toNat = n4.toNat by omega] at hx; have hv := zgv_some hx; omega, trivial⟩, ⟨hz _ (fun b hb2 hb3 => by rw [hdn hq b hb2 hb3]; omega), trivial⟩⟩))))))))))))))))))))))))))
        · exact Or.inr (Or.inr (Or.inr (Or.inr (Or.inr (Or.inr (Or.inr (Or.inr (Or.inr (Or.inr (Or.inr (Or.inr (Or.inr (Or.inr (Or.inr (Or.inr (Or.inr (Or.inr (Or.inr (Or.inr (Or.inr (Or.inr (Or.inr (Or.inr (Or.inr (Or.inr (Or.inr (Or.inr (Or.inl ⟨⟨⟨by omega, by omega⟩, trivial⟩, ⟨fun x hx0 hx => by have hv := zgv_some hx; omega, fun x hx0 hx => by have hv := zgv_some hx; omega, fun x hx0 hx => by have hv := zgv_some hx; omega, fun x hx0 hx => by rw [show (n5).toNat = n4.toNat by omega] at hx; have hv := zgv_some hx; omega, trivial⟩, ⟨hz _ (fun b hb2 hb3 => by rw [hdn hq b hb2 hb3]; omega), trivial⟩⟩))))))))))))))))))))))))))))
      · rcases hw with hw | hw | hw | hw
        · exact Or.inr (Or.inr (Or.inr (Or.inr (Or.inr (Or.inr (Or.inr (Or.inr (Or.inr (Or.inr (Or.inr (Or.inr (Or.inr (Or.inr (Or.inr (Or.inr (Or.inr (Or.inr (Or.inr (Or.inr (Or.inr (Or.inr (Or.inr (Or.inl ⟨⟨⟨by omega, by omega⟩, trivial⟩, ⟨fun x hx0 hx => by have hv := zgv_some hx; omega, fun x hx0 hx => by have hv := zgv_some hx; omega, fun x hx0 hx => by have hv := zgv_some hx; omega, fun x hx0 hx => by rw [show (n5 + 1).toNat = n4.toNat by omega] at hx; have hv := zgv_some hx; omega, trivial⟩, ⟨hz _ (fun b hb2 hb3 => by rw [hdn hq b hb2 hb3]; omega), trivial⟩⟩)))))))))))))))))))))))
        · exact Or.inr (Or.inr (Or.inr (Or.inr (Or.inr (Or.inr (Or.inr (Or.inr (Or.inr (Or.inr (Or.inr (Or.inr (Or.inr (Or.inr (Or.inr (Or.inr (Or.inr (Or.inr (Or.inr (Or.inr (Or.inr (Or.inr (Or.inr (Or.inr (Or.inr (Or.inl ⟨⟨⟨by omega, by omega⟩, trivial⟩, ⟨fun x hx0 hx => by have hv := zgv_some hx; omega, fun x hx0 hx => by have hv := zgv_some hx; omega, fun x hx0 hx => by have hv := zgv_some hx; omega, fun x hx0 hx => by rw [show (n5 + 1).toNat = n4.toNat by omega] at hx; have hv := zgv_some hx; omega, trivial⟩, ⟨hz _ (fun b hb2 hb3 => by rw [hdn hq b hb2 hb3]; omega), trivial⟩⟩)))))))))))))))))))))))))
        · exact Or.inr (Or.inr (Or.inr (Or.inr (Or.inr (Or.inr (Or.inr (Or.inr (Or.inr (Or.inr (Or.inr (Or.inr (Or.inr (Or.inr (Or.inr (Or.inr (Or.inr (Or.inr (Or.inr (Or.inr (Or.inr (Or.inr (Or.inr (Or.inr (Or.inr (Or.inr (Or.inr (Or.inl ⟨⟨⟨by omega, by omega⟩, trivial⟩, ⟨fun x hx0 hx => by have hv := zgv_some hx; omega, fun x hx0 hx => by have hv := zgv_some hx; omega, fun x hx0 hx => by have hv := zgv_some hx; omega, fun x hx0 hx => by rw [show (n5 + 1).toNat = n4.toNat by omega] at hx; have hv := zgv_some hx; omega, trivial⟩, ⟨hz _ (fun b hb2 hb3 => by rw [hdn hq b hb2 hb3]; omega), trivial⟩⟩)))))))))))))))))))))))))))
        · exact Or.inr (Or.inr (Or.inr (Or.inr (Or.inr (Or.inr (Or.inr (Or.inr (Or.inr (Or.inr (Or.inr (Or.inr (Or.inr (Or.inr (Or.inr (Or.inr (Or.inr (Or.inr (Or.inr (Or.inr (Or.inr (Or.inr (Or.inr (Or.inr (Or.inr (Or.inr (Or.inr (Or.inr (Or.inr (Or.inl ⟨⟨⟨by omega, by omega⟩, trivial⟩, ⟨fun x hx0 hx => by have hv := zgv_some hx; omega, fun x hx0 hx => by have hv := zgv_some hx; omega, fun x hx0 hx => by have hv := zgv_some hx; omega, fun x hx0 hx => by rw [show (n5 + 1).toNat = n4.toNat by omega] at hx; have hv := zgv_some hx; omega, trivial⟩, ⟨hz _ (fun b hb2 hb3 => by rw [hdn hq b hb2 hb3]; omega), trivial⟩⟩)))))))))))))))))))))))))))))
  · have hq : zgv (zwo ws) 124 n2.toNat = 1 := by omega
    exact Or.inr (Or.inr (Or.inr (Or.inr (Or.inr (Or.inl ⟨trivial, ⟨fun x hx0 hx => by have hv := zgv_some hx; omega, fun x hx0 hx => by have hv := zgv_some hx; omega, fun x hx0 hx => by have hv := zgv_some hx; omega, trivial⟩, ⟨hz _ (fun b _ _ => by unfold zj_stp; rw [if_pos hq]; omega), trivial⟩⟩)))))
theorem zrn_25 (g : yG) : zRuN (zJf g) zru_25 := by
  intro ws z w hj n2 s2 n3 s3 n4 s4 n5 s5 l0 u0 l1 u1 g0 g1 g2 g3
  replace hj : zj15 1 z w (zwo ws) := hj.resolve_left (by decide)
  clear s2
  clear s3
  replace s4 : 0 ≤ w ∧ zwo ws 119 (w).toNat = some n4 := s4
  replace s5 : zj9 1 n2 n5 (zwo ws) := s5
  replace l0 : (0 : Int) ≤ w := l0
  replace u0 : w ≤ (19 : Int) := u0
  replace l1 : (0 : Int) ≤ n4 := l1
  replace u1 : n4 ≤ (0 : Int) := u1
  replace g0 : n3 + (0 : Int) ≤ z := g0
  replace g1 : z + (0 : Int) ≤ n3 := g1
  replace g2 : n3 + (0 : Int) ≤ n5 := g2
  replace g3 : n5 + (0 : Int) ≤ n3 := g3
  show ((True) ∧ (True) ∧ (zj9 2 (n2 + (0 : Int)) (n3 + (0 : Int)) (zwo ws) ∧ True)) ∨ False
  try simp only [Int.add_zero, Int.zero_add] at *
  obtain ⟨s, hs, e1, h⟩ := hj
  obtain ⟨a, s', ha, hs', e2, e3, h'⟩ := s5
  have es : s' = s := by omega
  subst es
  have e4 := zgv_some s4.2
  refine Or.inl ⟨trivial, trivial, ⟨⟨a, s', ha, hs', by omega, by omega, fun b hb hk j hj h5 => ?_⟩, trivial⟩⟩
  by_cases q : j < 1
  · exact h' b hb hk j q h5
  · have ej : j = 1 := by omega
    subst ej
    intro c hc he
    have hw := h b hb hk
    have ec : w.toNat = c := by omega
    rw [ec] at e4
    exact Or.inl (by omega)
theorem zrn_26 (g : yG) : zRuN (zJf g) zru_26 := by
  intro ws z w hj n2 s2 n3 s3 n4 s4 n5 s5 n6 s6 l0 u0 g0 g1 g2 g3 g4 g5
  replace hj : zj15 1 z w (zwo ws) := hj.resolve_left (by decide)
  clear s2
  clear s3
  replace s4 : 0 ≤ w ∧ zwo ws 119 (w).toNat = some n4 := s4
  replace s5 : zj9 1 n2 n5 (zwo ws) := s5
  replace s6 : zj20 1 n2 n6 (zwo ws) := s6
  replace l0 : (0 : Int) ≤ w := l0
  replace u0 : w ≤ (19 : Int) := u0
  replace g0 : n3 + (0 : Int) ≤ z := g0
  replace g1 : z + (0 : Int) ≤ n3 := g1
  replace g2 : n3 + (0 : Int) ≤ n5 := g2
  replace g3 : n5 + (0 : Int) ≤ n3 := g3
  replace g4 : n6 + (0 : Int) ≤ n4 := g4
  replace g5 : n4 + (0 : Int) ≤ n6 := g5
  show ((True) ∧ (True) ∧ (zj9 2 (n2 + (0 : Int)) (n3 + (0 : Int)) (zwo ws) ∧ True)) ∨ False
  try simp only [Int.add_zero, Int.zero_add] at *
  obtain ⟨s, hs, e1, h⟩ := hj
  obtain ⟨a, s', ha, hs', e2, e3, h'⟩ := s5
  obtain ⟨a3, ha3, e6, h3⟩ := s6
  have es : s' = s := by omega
  subst es
  have e4 := zgv_some s4.2
  refine Or.inl ⟨trivial, trivial, ⟨⟨a, s', ha, hs', by omega, by omega, fun b hb hk j hj h5 => ?_⟩, trivial⟩⟩
  by_cases q : j < 1
  · exact h' b hb hk j q h5
  · have ej : j = 1 := by omega
    subst ej
    intro c hc he
    have hw := h b hb hk
    have ec : w.toNat = c := by omega
    rw [ec] at e4
    right
    have ea : a3 = a := by omega
    subst ea
    have hl := h3 b hb hk
    rw [e4, show n4 = n6 by omega]
    exact hl
theorem zrn_27 (g : yG) : zRuN (zJf g) zru_27 := by
  intro ws z w hj n2 s2 n3 s3 n4 s4 n5 s5 l0 u0 l1 u1 l2 u2 l3 u3 g0 g1 g2 g3 x0 o0 p0 v0 t0
  replace hj : zj15 1 z w (zwo ws) := hj.resolve_left (by decide)
  clear s2
  clear s3
  replace s4 : 0 ≤ w ∧ zwo ws 119 (w).toNat = some n4 := s4
  replace s5 : zj4 n2 n5 (zwo ws) := s5
  replace l0 : (0 : Int) ≤ w := l0
  replace u0 : w ≤ (19 : Int) := u0
  replace l1 : (0 : Int) ≤ n2 := l1
  replace u1 : n2 ≤ (15 : Int) := u1
  replace l2 : (0 : Int) ≤ n3 := l2
  replace u2 : n3 ≤ (15 : Int) := u2
  replace l3 : (0 : Int) ≤ n4 := l3
  replace u3 : n4 ≤ (27 : Int) := u3
  replace g0 : n3 + (0 : Int) ≤ z := g0
  replace g1 : z + (0 : Int) ≤ n3 := g1
  replace g2 : n3 + (0 : Int) ≤ n5 := g2
  replace g3 : n5 + (0 : Int) ≤ n3 := g3
  replace o0 : 0 ≤ (n3 + (0 : Int)) := o0
  replace p0 : zwo ws 121 (n3 + (0 : Int)).toNat = some x0 := p0
  replace v0 : (2 : Int) ≤ x0 := v0
  replace t0 : x0 ≤ (5 : Int) := t0
  show ((((0 : Int) ≤ n4 ∧ n4 ≤ (0 : Int)) ∧ True) ∧ (True) ∧ (True)) ∨ ((((1 : Int) ≤ n4 ∧ n4 ≤ (27 : Int)) ∧ True) ∧ (True) ∧ (zj20 1 (n2 + (0 : Int)) (n4 + (0 : Int)) (zwo ws) ∧ True)) ∨ False
  try simp only [Int.add_zero, Int.zero_add] at *
  obtain ⟨s, hs, e1, h⟩ := hj
  obtain ⟨a, s', ha, hs', e2, e3, h'⟩ := s5
  have es : s' = s := by omega
  subst es
  have e4 := zgv_some s4.2
  have e5 := zgv_some p0
  by_cases q : n4 = 0
  · exact Or.inl ⟨⟨⟨by omega, by omega⟩, trivial⟩, trivial, trivial⟩
  · refine Or.inr (Or.inl ⟨⟨⟨by omega, by omega⟩, trivial⟩, trivial, ⟨⟨a, ha, by omega, fun b hb hk => ?_⟩, trivial⟩⟩)
    have en : n3.toNat = s' := by omega
    rw [en] at e5
    have hw := h b hb hk
    rcases (h' b hb hk).2 1 (by omega) (by omega) w.toNat (by omega) (by omega) with q2 | q2
    · omega
    · rw [e4] at q2
      exact q2
theorem zrn_28 (g : yG) : zRuN (zJf g) zru_28 := by
  intro ws z w hj n2 s2 n3 s3 n4 s4 n5 s5 n6 s6 n7 s7 l0 u0 l1 u1 l2 u2 g0 g1
  replace hj : zj20 1 z w (zwo ws) := hj.resolve_left (by decide)
  clear s2
  clear s3
  replace s4 : zwo ws 88 4 = some n4 := s4
  replace s5 : n5 = (1 : Int) := s5
  replace s6 : n6 = n5 + n2 * (5 : Int) := s6
  replace s7 : n7 = n6 + n4 * (80 : Int) := s7
  replace l0 : (0 : Int) ≤ n2 := l0
  replace u0 : n2 ≤ (15 : Int) := u0
  replace l1 : (1 : Int) ≤ n3 := l1
  replace u1 : n3 ≤ (1 : Int) := u1
  replace l2 : (0 : Int) ≤ n4 := l2
  replace u2 : n4 ≤ (1 : Int) := u2
  replace g0 : n2 + (0 : Int) ≤ z := g0
  replace g1 : z + (0 : Int) ≤ n2 := g1
  show ((True) ∧ (True) ∧ ((0 ≤ (n7 + (0 : Int)) ∧ zwo ws 102 (n7 + (0 : Int)).toNat = some (w + (0 : Int))) ∧ True)) ∨ False
  try simp only [Int.add_zero, Int.zero_add] at *
  obtain ⟨a, ha, e1, h⟩ := hj
  have hb := zgv_some s4
  refine Or.inl ⟨trivial, trivial, ⟨⟨by omega, ?_⟩, trivial⟩⟩
  have h2 := h n4.toNat (by omega) (by omega)
  rw [show n7.toNat = 80 * n4.toNat + 5 * a + 1 by omega]
  exact h2
theorem zrn_29 (g : yG) : zRuN (zJf g) zru_29 := by
  intro ws z w hj n2 s2 n3 s3 n4 s4 n5 s5 n6 s6 n7 s7 n8 s8 l0 u0 l1 u1 l2 u2
  clear hj
  clear s2
  clear s3
  replace s4 : zwo ws 88 4 = some n4 := s4
  replace s5 : n5 = (1 : Int) := s5
  replace s6 : n6 = n5 + n2 * (5 : Int) := s6
  replace s7 : n7 = n6 + n4 * (80 : Int) := s7
  replace s8 : 0 ≤ n7 ∧ zwo ws 102 (n7).toNat = some n8 := s8
  replace l0 : (0 : Int) ≤ n2 := l0
  replace u0 : n2 ≤ (15 : Int) := u0
  replace l1 : (1 : Int) ≤ n3 := l1
  replace u1 : n3 ≤ (1 : Int) := u1
  replace l2 : (0 : Int) ≤ n4 := l2
  replace u2 : n4 ≤ (1 : Int) := u2
  show ((True) ∧ (True) ∧ (zj20 1 (n2 + (0 : Int)) (n8 + (0 : Int)) (zwo ws) ∧ True)) ∨ False
  try simp only [Int.add_zero, Int.zero_add] at *
  have hb := zgv_some s4
  refine Or.inl ⟨trivial, trivial, ⟨⟨n2.toNat, by omega, by omega, fun b hb2 hk => ?_⟩, trivial⟩⟩
  rw [show 80 * b + 5 * n2.toNat + 1 = n7.toNat by omega]
  exact s8.2
theorem zrn_30 (g : yG) : zRuN (zJf g) zru_30 := by
  intro ws z w hj n2 s2 n3 s3 n4 s4 n5 s5 n6 s6 l0 u0 l1 u1 l2 u2 x0 o0 p0 v0 t0
  replace hj : zj0 (zwo ws) := hj.resolve_left (by decide)
  clear s2
  replace s3 : 0 ≤ n2 ∧ zwo ws 120 (n2).toNat = some n3 := s3
  replace s4 : zwo ws 88 4 = some n4 := s4
  replace s5 : n5 = (0 : Int) := s5
  clear s6
  replace l0 : (0 : Int) ≤ n2 := l0
  replace u0 : n2 ≤ (15 : Int) := u0
  replace l1 : (0 : Int) ≤ n4 := l1
  replace u1 : n4 ≤ (1 : Int) := u1
  replace l2 : (2 : Int) ≤ n6 := l2
  replace u2 : n6 ≤ (2 : Int) := u2
  replace o0 : 0 ≤ (n4 + (0 : Int)) := o0
  replace p0 : zwo ws 92 (n4 + (0 : Int)).toNat = some x0 := p0
  replace v0 : (2 : Int) ≤ x0 := v0
  replace t0 : x0 ≤ (5 : Int) := t0
  show ((True) ∧ ((∀ x, 0 ≤ (n2 + (0 : Int)) → zwo ws 121 (n2 + (0 : Int)).toNat = some x → (0 : Int) ≤ x ∧ x ≤ (0 : Int)) ∧ True) ∧ (True)) ∨ ((True) ∧ ((∀ x, 0 ≤ (n2 + (0 : Int)) → zwo ws 121 (n2 + (0 : Int)).toNat = some x → (1 : Int) ≤ x ∧ x ≤ (1 : Int)) ∧ True) ∧ (True)) ∨ ((True) ∧ ((∀ x, 0 ≤ (n2 + (0 : Int)) → zwo ws 121 (n2 + (0 : Int)).toNat = some x → (2 : Int) ≤ x ∧ x ≤ (2 : Int)) ∧ (∀ x, 0 ≤ (n2 + (0 : Int)) → zwo ws 124 (n2 + (0 : Int)).toNat = some x → (1 : Int) ≤ x ∧ x ≤ (1 : Int)) ∧ (∀ x, 0 ≤ (n2 + (0 : Int)) → zwo ws 120 (n2 + (0 : Int)).toNat = some x → (0 : Int) ≤ x ∧ x ≤ (18 : Int)) ∧ True) ∧ (True)) ∨ ((True) ∧ ((∀ x, 0 ≤ (n2 + (0 : Int)) → zwo ws 121 (n2 + (0 : Int)).toNat = some x → (3 : Int) ≤ x ∧ x ≤ (3 : Int)) ∧ (∀ x, 0 ≤ (n2 + (0 : Int)) → zwo ws 124 (n2 + (0 : Int)).toNat = some x → (1 : Int) ≤ x ∧ x ≤ (1 : Int)) ∧ (∀ x, 0 ≤ (n2 + (0 : Int)) → zwo ws 120 (n2 + (0 : Int)).toNat = some x → (0 : Int) ≤ x ∧ x ≤ (17 : Int)) ∧ True) ∧ (zj15 2 (n2 + (0 : Int)) (n3 + (2 : Int)) (zwo ws) ∧ True)) ∨ ((True) ∧ ((∀ x, 0 ≤ (n2 + (0 : Int)) → zwo ws 121 (n2 + (0 : Int)).toNat = some x → (4 : Int) ≤ x ∧ x ≤ (4 : Int)) ∧ (∀ x, 0 ≤ (n2 + (0 : Int)) → zwo ws 124 (n2 + (0 : Int)).toNat = some x → (1 : Int) ≤ x ∧ x ≤ (1 : Int)) ∧ (∀ x, 0 ≤ (n2 + (0 : Int)) → zwo ws 120 (n2 + (0 : Int)).toNat = some x → (0 : Int) ≤ x ∧ x ≤ (16 : Int)) ∧ True) ∧ (zj15 2 (n2 + (0 : Int)) (n3 + (2 : Int)) (zwo ws) ∧ True)) ∨ ((True) ∧ ((∀ x, 0 ≤ (n2 + (0 : Int)) → zwo ws 121 (n2 + (0 : Int)).toNat = some x → (5 : Int) ≤ x ∧ x ≤ (5 : Int)) ∧ (∀ x, 0 ≤ (n2 + (0 : Int)) → zwo ws 124 (n2 + (0 : Int)).toNat = some x → (1 : Int) ≤ x ∧ x ≤ (1 : Int)) ∧ (∀ x, 0 ≤ (n2 + (0 : Int)) → zwo ws 120 (n2 + (0 : Int)).toNat = some x → (0 : Int) ≤ x ∧ x ≤ (15 : Int)) ∧ True) ∧ (zj15 2 (n2 + (0 : Int)) (n3 + (2 : Int)) (zwo ws) ∧ True)) ∨ ((True) ∧ ((∀ x, 0 ≤ (n2 + (0 : Int)) → zwo ws 121 (n2 + (0 : Int)).toNat = some x → (2 : Int) ≤ x ∧ x ≤ (2 : Int)) ∧ (∀ x, 0 ≤ (n2 + (0 : Int)) → zwo ws 124 (n2 + (0 : Int)).toNat = some x → (0 : Int) ≤ x ∧ x ≤ (0 : Int)) ∧ (∀ x, 0 ≤ (n2 + (0 : Int)) → zwo ws 120 (n2 + (0 : Int)).toNat = some x → (0 : Int) ≤ x ∧ x ≤ (14 : Int)) ∧ True) ∧ (True)) ∨ ((((0 : Int) ≤ n4 ∧ n4 ≤ (0 : Int)) ∧ True) ∧ ((∀ x, 0 ≤ (n2 + (0 : Int)) → zwo ws 121 (n2 + (0 : Int)).toNat = some x → (3 : Int) ≤ x ∧ x ≤ (3 : Int)) ∧ (∀ x, 0 ≤ (n2 + (0 : Int)) → zwo ws 124 (n2 + (0 : Int)).toNat = some x → (0 : Int) ≤ x ∧ x ≤ (0 : Int)) ∧ (∀ x, 0 ≤ (n2 + (0 : Int)) → zwo ws 120 (n2 + (0 : Int)).toNat = some x → (0 : Int) ≤ x ∧ x ≤ (9 : Int)) ∧ (∀ x, 0 ≤ (n5 + (0 : Int)) → zwo ws 92 (n5 + (0 : Int)).toNat = some x → (2 : Int) ≤ x ∧ x ≤ (2 : Int)) ∧ True) ∧ (zj15 2 (n2 + (0 : Int)) (n3 + (4 : Int)) (zwo ws) ∧ True)) ∨ ((((1 : Int) ≤ n4 ∧ n4 ≤ (1 : Int)) ∧ True) ∧ ((∀ x, 0 ≤ (n2 + (0 : Int)) → zwo ws 121 (n2 + (0 : Int)).toNat = some x → (3 : Int) ≤ x ∧ x ≤ (3 : Int)) ∧ (∀ x, 0 ≤ (n2 + (0 : Int)) → zwo ws 124 (n2 + (0 : Int)).toNat = some x → (0 : Int) ≤ x ∧ x ≤ (0 : Int)) ∧ (∀ x, 0 ≤ (n2 + (0 : Int)) → zwo ws 120 (n2 + (0 : Int)).toNat = some x → (0 : Int) ≤ x ∧ x ≤ (9 : Int)) ∧ (∀ x, 0 ≤ (n5 + (1 : Int)) → zwo ws 92 (n5 + (1 : Int)).toNat = some x → (2 : Int) ≤ x ∧ x ≤ (2 : Int)) ∧ True) ∧ (zj15 2 (n2 + (0 : Int)) (n3 + (4 : Int)) (zwo ws) ∧ True)) ∨ ((((0 : Int) ≤ n4 ∧ n4 ≤ (0 : Int)) ∧ True) ∧ ((∀ x, 0 ≤ (n2 + (0 : Int)) → zwo ws 121 (n2 + (0 : Int)).toNat = some x → (3 : Int) ≤ x ∧ x ≤ (3 : Int)) ∧ (∀ x, 0 ≤ (n2 + (0 : Int)) → zwo ws 124 (n2 + (0 : Int)).toNat = some x → (0 : Int) ≤ x ∧ x ≤ (0 : Int)) ∧ (∀ x, 0 ≤ (n2 + (0 : Int)) → zwo ws 120 (n2 + (0 : Int)).toNat = some x → (0 : Int) ≤ x ∧ x ≤ (9 : Int)) ∧ (∀ x, 0 ≤ (n5 + (0 : Int)) → zwo ws 92 (n5 + (0 : Int)).toNat = some x → (3 : Int) ≤ x ∧ x ≤ (3 : Int)) ∧ True) ∧ (zj15 2 (n2 + (0 : Int)) (n3 + (6 : Int)) (zwo ws) ∧ True)) ∨ ((((1 : Int) ≤ n4 ∧ n4 ≤ (1 : Int)) ∧ True) ∧ ((∀ x, 0 ≤ (n2 + (0 : Int)) → zwo ws 121 (n2 + (0 : Int)).toNat = some x → (3 : Int) ≤ x ∧ x ≤ (3 : Int)) ∧ (∀ x, 0 ≤ (n2 + (0 : Int)) → zwo ws 124 (n2 + (0 : Int)).toNat = some x → (0 : Int) ≤ x ∧ x ≤ (0 : Int)) ∧ (∀ x, 0 ≤ (n2 + (0 : Int)) → zwo ws 120 (n2 + (0 : Int)).toNat = some x → (0 : Int) ≤ x ∧ x ≤ (9 : Int)) ∧ (∀ x, 0 ≤ (n5 + (1 : Int)) → zwo ws 92 (n5 + (1 : Int)).toNat = some x → (3 : Int) ≤ x ∧ x ≤ (3 : Int)) ∧ True) ∧ (zj15 2 (n2 + (0 : Int)) (n3 + (6 : Int)) (zwo ws) ∧ True)) ∨ ((((0 : Int) ≤ n4 ∧ n4 ≤ (0 : Int)) ∧ True) ∧ ((∀ x, 0 ≤ (n2 + (0 : Int)) → zwo ws 121 (n2 + (0 : Int)).toNat = some x → (3 : Int) ≤ x ∧ x ≤ (3 : Int)) ∧ (∀ x, 0 ≤ (n2 + (0 : Int)) → zwo ws 124 (n2 + (0 : Int)).toNat = some x → (0 : Int) ≤ x ∧ x ≤ (0 : Int)) ∧ (∀ x, 0 ≤ (n2 + (0 : Int)) → zwo ws 120 (n2 + (0 : Int)).toNat = some x → (0 : Int) ≤ x ∧ x ≤ (9 : Int)) ∧ (∀ x, 0 ≤ (n5 + (0 : Int)) → zwo ws 92 (n5 + (0 : Int)).toNat = some x → (4 : Int) ≤ x ∧ x ≤ (4 : Int)) ∧ True) ∧ (zj15 2 (n2 + (0 : Int)) (n3 + (8 : Int)) (zwo ws) ∧ True)) ∨ ((((1 : Int) ≤ n4 ∧ n4 ≤ (1 : Int)) ∧ True) ∧ ((∀ x, 0 ≤ (n2 + (0 : Int)) → zwo ws 121 (n2 + (0 : Int)).toNat = some x → (3 : Int) ≤ x ∧ x ≤ (3 : Int)) ∧ (∀ x, 0 ≤ (n2 + (0 : Int)) → zwo ws 124 (n2 + (0 : Int)).toNat = some x → (0 : Int) ≤ x ∧ x ≤ (0 : Int)) ∧ (∀ x, 0 ≤ (n2 + (0 : Int)) → zwo ws 120 (n2 + (0 : Int)).toNat = some x → (0 : Int) ≤ x ∧ x ≤ (9 : Int)) ∧ (∀ x, 0 ≤ (n5 + (1 : Int)) → zwo ws 92 (n5 + (1 : Int)).toNat = some x → (4 : Int) ≤ x ∧ x ≤ (4 : Int)) ∧ True) ∧ (zj15 2 (n2 + (0 : Int)) (n3 + (8 : Int)) (zwo ws) ∧ True)) ∨ ((((0 : Int) ≤ n4 ∧ n4 ≤ (0 : Int)) ∧ True) ∧ ((∀ x, 0 ≤ (n2 + (0 : Int)) → zwo ws 121 (n2 + (0 : Int)).toNat = some x → (3 : Int) ≤ x ∧ x ≤ (3 : Int)) ∧ (∀ x, 0 ≤ (n2 + (0 : Int)) → zwo ws 124 (n2 + (0 : Int)).toNat = some x → (0 : Int) ≤ x ∧ x ≤ (0 : Int)) ∧ (∀ x, 0 ≤ (n2 + (0 : Int)) → zwo ws 120 (n2 + (0 : Int)).toNat = some x → (0 : Int) ≤ x ∧ x ≤ (9 : Int)) ∧ (∀ x, 0 ≤ (n5 + (0 : Int)) → zwo ws 92 (n5 + (0 : Int)).toNat = some x → (5 : Int) ≤ x ∧ x ≤ (5 : Int)) ∧ True) ∧ (zj15 2 (n2 + (0 : Int)) (n3 + (10 : Int)) (zwo ws) ∧ True)) ∨ ((((1 : Int) ≤ n4 ∧ n4 ≤ (1 : Int)) ∧ True) ∧ ((∀ x, 0 ≤ (n2 + (0 : Int)) → zwo ws 121 (n2 + (0 : Int)).toNat = some x → (3 : Int) ≤ x ∧ x ≤ (3 : Int)) ∧ (∀ x, 0 ≤ (n2 + (0 : Int)) → zwo ws 124 (n2 + (0 : Int)).toNat = some x → (0 : Int) ≤ x ∧ x ≤ (0 : Int)) ∧ (∀ x, 0 ≤ (n2 + (0 : Int)) → zwo ws 120 (n2 + (0 : Int)).toNat = some x → (0 : Int) ≤ x ∧ x ≤ (9 : Int)) ∧ (∀ x, 0 ≤ (n5 + (1 : Int)) → zwo ws 92 (n5 + (1 : Int)).toNat = some x → (5 : Int) ≤ x ∧ x ≤ (5 : Int)) ∧ True) ∧ (zj15 2 (n2 + (0 : Int)) (n3 + (10 : Int)) (zwo ws) ∧ True)) ∨ ((((0 : Int) ≤ n4 ∧ n4 ≤ (0 : Int)) ∧ True) ∧ ((∀ x, 0 ≤ (n2 + (0 : Int)) → zwo ws 121 (n2 + (0 : Int)).toNat = some x → (4 : Int) ≤ x ∧ x ≤ (4 : Int)) ∧ (∀ x, 0 ≤ (n2 + (0 : Int)) → zwo ws 124 (n2 + (0 : Int)).toNat = some x → (0 : Int) ≤ x ∧ x ≤ (0 : Int)) ∧ (∀ x, 0 ≤ (n2 + (0 : Int)) → zwo ws 120 (n2 + (0 : Int)).toNat = some x → (0 : Int) ≤ x ∧ x ≤ (4 : Int)) ∧ (∀ x, 0 ≤ (n5 + (0 : Int)) → zwo ws 92 (n5 + (0 : Int)).toNat = some x → (2 : Int) ≤ x ∧ x ≤ (2 : Int)) ∧ True) ∧ (zj15 2 (n2 + (0 : Int)) (n3 + (4 : Int)) (zwo ws) ∧ True)) ∨ ((((1 : Int) ≤ n4 ∧ n4 ≤ (1 : Int)) ∧ True) ∧ ((∀ x, 0 ≤ (n2 + (0 : Int)) → zwo ws 121 (n2 + (0 : Int)).toNat = some x → (4 : Int) ≤ x ∧ x ≤ (4 : Int)) ∧ (∀ x, 0 ≤ (n2 + (0 : Int)) → zwo ws 124 (n2 + (0 : Int)).toNat = some x → (0 : Int) ≤ x ∧ x ≤ (0 : Int)) ∧ (∀ x, 0 ≤ (n2 + (0 : Int)) → zwo ws 120 (n2 + (0 : Int)).toNat = some x → (0 : Int) ≤ x ∧ x ≤ (4 : Int)) ∧ (∀ x, 0 ≤ (n5 + (1 : Int)) → zwo ws 92 (n5 + (1 : Int)).toNat = some x → (2 : Int) ≤ x ∧ x ≤ (2 : Int)) ∧ True) ∧ (zj15 2 (n2 + (0 : Int)) (n3 + (4 : Int)) (zwo ws) ∧ True)) ∨ ((((0 : Int) ≤ n4 ∧ n4 ≤ (0 : Int)) ∧ True) ∧ ((∀ x, 0 ≤ (n2 + (0 : Int)) → zwo ws 121 (n2 + (0 : Int)).toNat = some x → (4 : Int) ≤ x ∧ x ≤ (4 : Int)) ∧ (∀ x, 0 ≤ (n2 + (0 : Int)) → zwo ws 124 (n2 + (0 : Int)).toNat = some x → (0 : Int) ≤ x ∧ x ≤ (0 : Int)) ∧ (∀ x, 0 ≤ (n2 + (0 : Int)) → zwo ws 120 (n2 + (0 : Int)).toNat = some x → (0 : Int) ≤ x ∧ x ≤ (4 : Int)) ∧ (∀ x, 0 ≤ (n5 + (0 : Int)) → zwo ws 92 (n5 + (0 : Int)).toNat = some x → (3 : Int) ≤ x ∧ x ≤ (3 : Int)) ∧ True) ∧ (zj15 2 (n2 + (0 : Int)) (n3 + (6 : Int)) (zwo ws) ∧ True)) ∨ ((((1 : Int) ≤ n4 ∧ n4 ≤ (1 : Int)) ∧ True) ∧ ((∀ x, 0 ≤ (n2 + (0 : Int)) → zwo ws 121 (n2 + (0 : Int)).toNat = some x → (4 : Int) ≤ x ∧ x ≤ (4 : Int)) ∧ (∀ x, 0 ≤ (n2 + (0 : Int)) → zwo ws 124 (n2 + (0 : Int)).toNat = some x → (0 : Int) ≤ x ∧ x ≤ (0 : Int)) ∧ (∀ x, 0 ≤ (n2 + (0 : Int)) → zwo ws 120 (n2 + (0 : Int)).toNat = some x → (0 : Int) ≤ x ∧ x ≤ (4 : Int)) ∧ (∀ x, 0 ≤ (n5 + (1 : Int)) → zwo ws 92 (n5 + (1 : Int)).toNat = some x → (3 : Int) ≤ x ∧ x ≤ (3 : Int)) ∧ True) ∧ (zj15 2 (n2 + (0 : Int)) (n3 + (6 : Int)) (zwo ws) ∧ True)) ∨ ((((0 : Int) ≤ n4 ∧ n4 ≤ (0 : Int)) ∧ True) ∧ ((∀ x, 0 ≤ (n2 + (0 : Int)) → zwo ws 121 (n2 + (0 : Int)).toNat = some x → (4 : Int) ≤ x ∧ x ≤ (4 : Int)) ∧ (∀ x, 0 ≤ (n2 + (0 : Int)) → zwo ws 124 (n2 + (0 : Int)).toNat = some x → (0 : Int) ≤ x ∧ x ≤ (0 : Int)) ∧ (∀ x, 0 ≤ (n2 + (0 : Int)) → zwo ws 120 (n2 + (0 : Int)).toNat = some x → (0 : Int) ≤ x ∧ x ≤ (4 : Int)) ∧ (∀ x, 0 ≤ (n5 + (0 : Int)) → zwo ws 92 (n5 + (0 : Int)).toNat = some x → (4 : Int) ≤ x ∧ x ≤ (4 : Int)) ∧ True) ∧ (zj15 2 (n2 + (0 : Int)) (n3 + (8 : Int)) (zwo ws) ∧ True)) ∨ ((((1 : Int) ≤ n4 ∧ n4 ≤ (1 : Int)) ∧ True) ∧ ((∀ x, 0 ≤ (n2 + (0 : Int)) → zwo ws 121 (n2 + (0 : Int)).toNat = some x → (4 : Int) ≤ x ∧ x ≤ (4 : Int)) ∧ (∀ x, 0 ≤ (n2 + (0 : Int)) → zwo ws 124 (n2 + (0 : Int)).toNat = some x → (0 : Int) ≤ x ∧ x ≤ (0 : Int)) ∧ (∀ x, 0 ≤ (n2 + (0 : Int)) → zwo ws 120 (n2 + (0 : Int)).toNat = some x → (0 : Int) ≤ x ∧ x ≤ (4 : Int)) ∧ (∀ x, 0 ≤ (n5 + (1 : Int)) → zwo ws 92 (n5 + (1 : Int)).toNat = some x → (4 : Int) ≤ x ∧ x ≤ (4 : Int)) ∧ True) ∧ (zj15 2 (n2 + (0 : Int)) (n3 + (8 : Int)) (zwo ws) ∧ True)) ∨ ((((0 : Int) ≤ n4 ∧ n4 ≤ (0 : Int)) ∧ True) ∧ ((∀ x, 0 ≤ (n2 + (0 : Int)) → zwo ws 121 (n2 + (0 : Int)).toNat = some x → (4 : Int) ≤ x ∧ x ≤ (4 : Int)) ∧ (∀ x, 0 ≤ (n2 + (0 : Int)) → zwo ws 124 (n2 + (0 : Int)).toNat = some x → (0 : Int) ≤ x ∧ x ≤ (0 : Int)) ∧ (∀ x, 0 ≤ (n2 + (0 : Int)) → zwo ws 120 (n2 + (0 : Int)).toNat = some x → (0 : Int) ≤ x ∧ x ≤ (4 : Int)) ∧ (∀ x, 0 ≤ (n5 + (0 : Int)) → zwo ws 92 (n5 + (0 : Int)).toNat = some x → (5 : Int) ≤ x ∧ x ≤ (5 : Int)) ∧ True) ∧ (zj15 2 (n2 + (0 : Int)) (n3 + (10 : Int)) (zwo ws) ∧ True)) ∨ ((((1 : Int) ≤ n4 ∧ n4 ≤ (1 : Int)) ∧ True) ∧ ((∀ x, 0 ≤ (n2 + (0 : Int)) → zwo ws 121 (n2 + (0 : Int)).toNat = some x → (4 : Int) ≤ x ∧ x ≤ (4 : Int)) ∧ (∀ x, 0 ≤ (n2 + (0 : Int)) → zwo ws 124 (n2 + (0 : Int)).toNat = some x → (0 : Int) ≤ x ∧ x ≤ (0 : Int)) ∧ (∀ x, 0 ≤ (n2 + (0 : Int)) → zwo ws 120 (n2 + (0 : Int)).toNat = some x → (0 : Int) ≤ x ∧ x ≤ (4 : Int)) ∧ (∀ x, 0 ≤ (n5 + (1 : Int)) → zwo ws 92 (n5 + (1 : Int)).toNat = some x → (5 : Int) ≤ x ∧ x ≤ (5 : Int)) ∧ True) ∧ (zj15 2 (n2 + (0 : Int)) (n3 + (10 : Int)) (zwo ws) ∧ True)) ∨ False
  try simp only [Int.add_zero, Int.zero_add] at *
  have h := hj n2.toNat (by omega)
  unfold zj_geo at h
  have hf := zgv_some s3.2
  have hb := zgv_some s4
  have hc := zgv_some p0
  have hz : ∀ (c : Int), (∀ b : Nat, b < 2 → zgv (zwo ws) 88 4 = (b : Int) → c = zgv (zwo ws) 120 n2.toNat + (2 : Int) * zj_stp (zwo ws) b n2.toNat) → zj15 2 n2 c (zwo ws) := fun c hc => ⟨n2.toNat, by omega, by omega, hc⟩
  have h5 : zgv (zwo ws) 121 n2.toNat = 0 ∨ zgv (zwo ws) 121 n2.toNat = 1 ∨ zgv (zwo ws) 121 n2.toNat = 2 ∨ zgv (zwo ws) 121 n2.toNat = 3 ∨ zgv (zwo ws) 121 n2.toNat = 4 ∨ zgv (zwo ws) 121 n2.toNat = 5 := by omega
  have hdn : ¬ zgv (zwo ws) 124 n2.toNat = 1 → ∀ b : Nat, b < 2 → zgv (zwo ws) 88 4 = (b : Int) → zj_stp (zwo ws) b n2.toNat = x0 := fun hq b hb2 hb3 => by
    unfold zj_stp
    rw [if_neg hq, show b = n4.toNat by omega]
    exact hc
  have hw : x0 = 2 ∨ x0 = 3 ∨ x0 = 4 ∨ x0 = 5 := by omega
  have hbb : n4 = 0 ∨ n4 = 1 := by omega
  rcases h5 with h5 | h5 | h5 | h5 | h5 | h5
  · exact Or.inl ⟨trivial, ⟨fun x hx0 hx => by have hv := zgv_some hx; omega, trivial⟩, trivial⟩
  · exact Or.inr (Or.inl ⟨trivial, ⟨fun x hx0 hx => by have hv := zgv_some hx; omega, trivial⟩, trivial⟩)
  · by_cases hq : zgv (zwo ws) 124 n2.toNat = 1
    · exact Or.inr (Or.inr (Or.inl ⟨trivial, ⟨fun x hx0 hx => by have hv := zgv_some hx; omega, fun x hx0 hx => by have hv := zgv_some hx; omega, fun x hx0 hx => by have hv := zgv_some hx; omega, trivial⟩, trivial⟩))
    · exact Or.inr (Or.inr (Or.inr (Or.inr (Or.inr (Or.inr (Or.inl ⟨trivial, ⟨fun x hx0 hx => by have hv := zgv_some hx; omega, fun x hx0 hx => by have hv := zgv_some hx; omega, fun x hx0 hx => by have hv := zgv_some hx; omega, trivial⟩, trivial⟩))))))
  · by_cases hq : zgv (zwo ws) 124 n2.toNat = 1
    · exact Or.inr (Or.inr (Or.inr (Or.inl ⟨trivial, ⟨fun x hx0 hx => by have hv := zgv_some hx; omega, fun x hx0 hx => by have hv := zgv_some hx; omega, fun x hx0 hx => by have hv := zgv_some hx; omega, trivial⟩, ⟨hz _ (fun b _ _ => by unfold zj_stp; rw [if_pos hq]; omega), trivial⟩⟩)))
    · rcases hbb with hbb | hbb
      · rcases hw with hw | hw | hw | hw
        · exact Or.inr (Or.inr (Or.inr (Or.inr (Or.inr (Or.inr (Or.inr (Or.inl ⟨⟨⟨by omega, by omega⟩, trivial⟩, ⟨fun x hx0 hx => by have hv := zgv_some hx; omega, fun x hx0 hx => by have hv := zgv_some hx; omega, fun x hx0 hx => by have hv := zgv_some hx; omega, fun x hx0 hx => by rw [show (n5).toNat = n4.toNat by omega] at hx; have hv := zgv_some hx; omega, trivial⟩, ⟨hz _ (fun b hb2 hb3 => by rw [hdn hq b hb2 hb3]; omega), trivial⟩⟩)))))))
        · exact Or.inr (Or.inr (Or.inr (Or.inr (Or.inr (Or.inr (Or.inr (Or.inr (Or.inr (Or.inl ⟨⟨⟨by omega, by omega⟩, trivial⟩, ⟨fun x hx0 hx => by have hv := zgv_some hx; omega, fun x hx0 hx => by have hv := zgv_some hx; omega, fun x hx0 hx => by have hv := zgv_some hx; omega, fun x hx0 hx => by rw [show (n5).toNat = n4.toNat by omega] at hx; have hv := zgv_some hx; omega, trivial⟩, ⟨hz _ (fun b hb2 hb3 => by rw [hdn hq b hb2 hb3]; omega), trivial⟩⟩)))))))))
        · exact Or.inr (Or.inr (Or.inr (Or.inr (Or.inr (Or.inr (Or.inr (Or.inr (Or.inr (Or.inr (Or.inr (Or.inl ⟨⟨⟨by omega, by omega⟩, trivial⟩, ⟨fun x hx0 hx => by have hv := zgv_some hx; omega, fun x hx0 hx => by have hv := zgv_some hx; omega, fun x hx0 hx => by have hv := zgv_some hx; omega, fun x hx0 hx => by rw [show (n5).toNat = n4.toNat by omega] at hx; have hv := zgv_some hx; omega, trivial⟩, ⟨hz _ (fun b hb2 hb3 => by rw [hdn hq b hb2 hb3]; omega), trivial⟩⟩)))))))))))
        · exact Or.inr (Or.inr (Or.inr (Or.inr (Or.inr (Or.inr (Or.inr (Or.inr (Or.inr (Or.inr (Or.inr (Or.inr (Or.inr (Or.inl ⟨⟨⟨by omega, by omega⟩, trivial⟩, ⟨fun x hx0 hx => by have hv := zgv_some hx; omega, fun x hx0 hx => by have hv := zgv_some hx; omega, fun x hx0 hx => by have hv := zgv_some hx; omega, fun x hx0 hx => by rw [show (n5).toNat = n4.toNat by omega] at hx; have hv := zgv_some hx; omega, trivial⟩, ⟨hz _ (fun b hb2 hb3 => by rw [hdn hq b hb2 hb3]; omega), trivial⟩⟩)))))))))))))
      · rcases hw with hw | hw | hw | hw
        · exact Or.inr (Or.inr (Or.inr (Or.inr (Or.inr (Or.inr (Or.inr (Or.inr (Or.inl ⟨⟨⟨by omega, by omega⟩, trivial⟩, ⟨fun x hx0 hx => by have hv := zgv_some hx; omega, fun x hx0 hx => by have hv := zgv_some hx; omega, fun x hx0 hx => by have hv := zgv_some hx; omega, fun x hx0 hx => by rw [show (n5 + 1).toNat = n4.toNat by omega] at hx; have hv := zgv_some hx; omega, trivial⟩, ⟨hz _ (fun b hb2 hb3 => by rw [hdn hq b hb2 hb3]; omega), trivial⟩⟩))))))))
        · exact Or.inr (Or.inr (Or.inr (Or.inr (Or.inr (Or.inr (Or.inr (Or.inr (Or.inr (Or.inr (Or.inl ⟨⟨⟨by omega, by omega⟩, trivial⟩, ⟨fun x hx0 hx => by have hv := zgv_some hx; omega, fun x hx0 hx => by have hv := zgv_some hx; omega, fun x hx0 hx => by have hv := zgv_some hx; omega, fun x hx0 hx => by rw [show (n5 + 1).toNat = n4.toNat by omega] at hx; have hv := zgv_some hx; omega, trivial⟩, ⟨hz _ (fun b hb2 hb3 => by rw [hdn hq b hb2 hb3]; omega), trivial⟩⟩))))))))))
        · exact Or.inr (Or.inr (Or.inr (Or.inr (Or.inr (Or.inr (Or.inr (Or.inr (Or.inr (Or.inr (Or.inr (Or.inr (Or.inl ⟨⟨⟨by omega, by omega⟩, trivial⟩, ⟨fun x hx0 hx => by have hv := zgv_some hx; omega, fun x hx0 hx => by have hv := zgv_some hx; omega, fun x hx0 hx => by have hv := zgv_some hx; omega, fun x hx0 hx => by rw [show (n5 + 1).toNat = n4.toNat by omega] at hx; have hv := zgv_some hx; omega, trivial⟩, ⟨hz _ (fun b hb2 hb3 => by rw [hdn hq b hb2 hb3]; omega), trivial⟩⟩))))))))))))
        · exact Or.inr (Or.inr (Or.inr (Or.inr (Or.inr (Or.inr (Or.inr (Or.inr (Or.inr (Or.inr (Or.inr (Or.inr (Or.inr (Or.inr (Or.inl ⟨⟨⟨by omega, by omega⟩, trivial⟩, ⟨fun x hx0 hx => by have hv := zgv_some hx; omega, fun x hx0 hx => by have hv := zgv_some hx; omega, fun x hx0 hx => by have hv := zgv_some hx; omega, fun x hx0 hx => by rw [show (n5 + 1).toNat = n4.toNat by omega] at hx; have hv := zgv_some hx; omega, trivial⟩, ⟨hz _ (fun b hb2 hb3 => by rw [hdn hq b hb2 hb3]; omega), trivial⟩⟩))))))))))))))
  · by_cases hq : zgv (zwo ws) 124 n2.toNat = 1
    · exact Or.inr (Or.inr (Or.inr (Or.inr (Or.inl ⟨trivial, ⟨fun x hx0 hx => by have hv := zgv_some hx; omega, fun x hx0 hx => by have hv := zgv_some hx; omega, fun x hx0 hx => by have hv := zgv_some hx; omega, trivial⟩, ⟨hz _ (fun b _ _ => by unfold zj_stp; rw [if_pos hq]; omega), trivial⟩⟩))))
    · rcases hbb with hbb | hbb
      · rcases hw with hw | hw | hw | hw
        · exact Or.inr (Or.inr (Or.inr (Or.inr (Or.inr (Or.inr (Or.inr (Or.inr (Or.inr (Or.inr (Or.inr (Or.inr (Or.inr (Or.inr (Or.inr (Or.inl ⟨⟨⟨by omega, by omega⟩, trivial⟩, ⟨fun x hx0 hx => by have hv := zgv_some hx; omega, fun x hx0 hx => by have hv := zgv_some hx; omega, fun x hx0 hx => by have hv := zgv_some hx; omega, fun x hx0 hx => by rw [show (n5).toNat = n4.toNat by omega] at hx; have hv := zgv_some hx; omega, trivial⟩, ⟨hz _ (fun b hb2 hb3 => by rw [hdn hq b hb2 hb3]; omega), trivial⟩⟩)))))))))))))))
        · exact Or.inr (Or.inr (Or.inr (Or.inr (Or.inr (Or.inr (Or.inr (Or.inr (Or.inr (Or.inr (Or.inr (Or.inr (Or.inr (Or.inr (Or.inr (Or.inr (Or.inr (Or.inl ⟨⟨⟨by omega, by omega⟩, trivial⟩, ⟨fun x hx0 hx => by have hv := zgv_some hx; omega, fun x hx0 hx => by have hv := zgv_some hx; omega, fun x hx0 hx => by have hv := zgv_some hx; omega, fun x hx0 hx => by rw [show (n5).toNat = n4.toNat by omega] at hx; have hv := zgv_some hx; omega, trivial⟩, ⟨hz _ (fun b hb2 hb3 => by rw [hdn hq b hb2 hb3]; omega), trivial⟩⟩)))))))))))))))))
        · exact Or.inr (Or.inr (Or.inr (Or.inr (Or.inr (Or.inr (Or.inr (Or.inr (Or.inr (Or.inr (Or.inr (Or.inr (Or.inr (Or.inr (Or.inr (Or.inr (Or.inr (Or.inr (Or.inr (Or.inl ⟨⟨⟨by omega, by omega⟩, trivial⟩, ⟨fun x hx0 hx => by have hv := zgv_some hx; omega, fun x hx0 hx => by have hv := zgv_some hx; omega, fun x hx0 hx => by have hv := zgv_some hx; omega, fun x hx0 hx => by rw [show (n5).toNat = n4.toNat by omega] at hx; have hv := zgv_some hx; omega, trivial⟩, ⟨hz _ (fun b hb2 hb3 => by rw [hdn hq b hb2 hb3]; omega), trivial⟩⟩)))))))))))))))))))
        · exact Or.inr (Or.inr (Or.inr (Or.inr (Or.inr (Or.inr (Or.inr (Or.inr (Or.inr (Or.inr (Or.inr (Or.inr (Or.inr (Or.inr (Or.inr (Or.inr (Or.inr (Or.inr (Or.inr (Or.inr (Or.inr (Or.inl ⟨⟨⟨by omega, by omega⟩, trivial⟩, ⟨fun x hx0 hx => by have hv := zgv_some hx; omega, fun x hx0 hx => by have hv := zgv_some hx; omega, fun x hx0 hx => by have hv := zgv_some hx; omega, fun x hx0 hx => by rw [show (n5).toNat = n4.toNat by omega] at hx; have hv := zgv_some hx; omega, trivial⟩, ⟨hz _ (fun b hb2 hb3 => by rw [hdn hq b hb2 hb3]; omega), trivial⟩⟩)))))))))))))))))))))
      · rcases hw with hw | hw | hw | hw
        · exact Or.inr (Or.inr (Or.inr (Or.inr (Or.inr (Or.inr (Or.inr (Or.inr (Or.inr (Or.inr (Or.inr (Or.inr (Or.inr (Or.inr (Or.inr (Or.inr (Or.inl ⟨⟨⟨by omega, by omega⟩, trivial⟩, ⟨fun x hx0 hx => by have hv := zgv_some hx; omega, fun x hx0 hx => by have hv := zgv_some hx; omega, fun x hx0 hx => by have hv := zgv_some hx; omega, fun x hx0 hx => by rw [show (n5 + 1).toNat = n4.toNat by omega] at hx; have hv := zgv_some hx; omega, trivial⟩, ⟨hz _ (fun b hb2 hb3 => by rw [hdn hq b hb2 hb3]; omega), trivial⟩⟩))))))))))))))))
        · exact Or.inr (Or.inr (Or.inr (Or.inr (Or.inr (Or.inr (Or.inr (Or.inr (Or.inr (Or.inr (Or.inr (Or.inr (Or.inr (Or.inr (Or.inr (Or.inr (Or.inr (Or.inr (Or.inl ⟨⟨⟨by omega, by omega⟩, trivial⟩, ⟨fun x hx0 hx => by have hv := zgv_some hx; omega, fun x hx0 hx => by have hv := zgv_some hx; omega, fun x hx0 hx => by have hv := zgv_some hx; omega, fun x hx0 hx => by rw [show (n5 + 1).toNat = n4.toNat by omega] at hx; have hv := zgv_some hx; omega, trivial⟩, ⟨hz _ (fun b hb2 hb3 => by rw [hdn hq b hb2 hb3]; omega), trivial⟩⟩))))))))))))))))))
        · exact Or.inr (Or.inr (Or.inr (Or.inr (Or.inr (Or.inr (Or.inr (Or.inr (Or.inr (Or.inr (Or.inr (Or.inr (Or.inr (Or.inr (Or.inr (Or.inr (Or.inr (Or.inr (Or.inr (Or.inr (Or.inl ⟨⟨⟨by omega, by omega⟩, trivial⟩, ⟨fun x hx0 hx => by have hv := zgv_some hx; omega, fun x hx0 hx => by have hv := zgv_some hx; omega, fun x hx0 hx => by have hv := zgv_some hx; omega, fun x hx0 hx => by rw [show (n5 + 1).toNat = n4.toNat by omega] at hx; have hv := zgv_some hx; omega, trivial⟩, ⟨hz _ (fun b hb2 hb3 => by rw [hdn hq b hb2 hb3]; omega), trivial⟩⟩))))))))))))))))))))
        · exact Or.inr (Or.inr (Or.inr (Or.inr (Or.inr (Or.inr (Or.inr (Or.inr (Or.inr (Or.inr (Or.inr (Or.inr (Or.inr (Or.inr (Or.inr (Or.inr (Or.inr (Or.inr (Or.inr (Or.inr (Or.inr (Or.inr (Or.inl ⟨⟨⟨by omega, by omega⟩, trivial⟩, ⟨fun x hx0 hx => by have hv := zgv_some hx; omega, fun x hx0 hx => by have hv := zgv_some hx; omega, fun x hx0 hx => by have hv := zgv_some hx; omega, fun x hx0 hx => by rw [show (n5 + 1).toNat = n4.toNat by omega] at hx; have hv := zgv_some hx; omega, trivial⟩, ⟨hz _ (fun b hb2 hb3 => by rw [hdn hq b hb2 hb3]; omega), trivial⟩⟩))))))))))))))))))))))
  · have hq : zgv (zwo ws) 124 n2.toNat = 1 := by omega
    exact Or.inr (Or.inr (Or.inr (Or.inr (Or.inr (Or.inl ⟨trivial, ⟨fun x hx0 hx => by have hv := zgv_some hx; omega, fun x hx0 hx => by have hv := zgv_some hx; omega, fun x hx0 hx => by have hv := zgv_some hx; omega, trivial⟩, ⟨hz _ (fun b _ _ => by unfold zj_stp; rw [if_pos hq]; omega), trivial⟩⟩)))))
theorem zrn_31 (g : yG) : zRuN (zJf g) zru_31 := by
  intro ws z w hj n2 s2 n3 s3 n4 s4 n5 s5 l0 u0 l1 u1 g0 g1 g2 g3
  replace hj : zj15 2 z w (zwo ws) := hj.resolve_left (by decide)
  clear s2
  clear s3
  replace s4 : 0 ≤ w ∧ zwo ws 119 (w).toNat = some n4 := s4
  replace s5 : zj9 2 n2 n5 (zwo ws) := s5
  replace l0 : (0 : Int) ≤ w := l0
  replace u0 : w ≤ (19 : Int) := u0
  replace l1 : (0 : Int) ≤ n4 := l1
  replace u1 : n4 ≤ (0 : Int) := u1
  replace g0 : n3 + (0 : Int) ≤ z := g0
  replace g1 : z + (0 : Int) ≤ n3 := g1
  replace g2 : n3 + (0 : Int) ≤ n5 := g2
  replace g3 : n5 + (0 : Int) ≤ n3 := g3
  show ((True) ∧ (True) ∧ (zj9 3 (n2 + (0 : Int)) (n3 + (0 : Int)) (zwo ws) ∧ True)) ∨ False
  try simp only [Int.add_zero, Int.zero_add] at *
  obtain ⟨s, hs, e1, h⟩ := hj
  obtain ⟨a, s', ha, hs', e2, e3, h'⟩ := s5
  have es : s' = s := by omega
  subst es
  have e4 := zgv_some s4.2
  refine Or.inl ⟨trivial, trivial, ⟨⟨a, s', ha, hs', by omega, by omega, fun b hb hk j hj h5 => ?_⟩, trivial⟩⟩
  by_cases q : j < 2
  · exact h' b hb hk j q h5
  · have ej : j = 2 := by omega
    subst ej
    intro c hc he
    have hw := h b hb hk
    have ec : w.toNat = c := by omega
    rw [ec] at e4
    exact Or.inl (by omega)
theorem zrn_32 (g : yG) : zRuN (zJf g) zru_32 := by
  intro ws z w hj n2 s2 n3 s3 n4 s4 n5 s5 n6 s6 l0 u0 g0 g1 g2 g3 g4 g5
  replace hj : zj15 2 z w (zwo ws) := hj.resolve_left (by decide)
  clear s2
  clear s3
  replace s4 : 0 ≤ w ∧ zwo ws 119 (w).toNat = some n4 := s4
  replace s5 : zj9 2 n2 n5 (zwo ws) := s5
  replace s6 : zj20 2 n2 n6 (zwo ws) := s6
  replace l0 : (0 : Int) ≤ w := l0
  replace u0 : w ≤ (19 : Int) := u0
  replace g0 : n3 + (0 : Int) ≤ z := g0
  replace g1 : z + (0 : Int) ≤ n3 := g1
  replace g2 : n3 + (0 : Int) ≤ n5 := g2
  replace g3 : n5 + (0 : Int) ≤ n3 := g3
  replace g4 : n6 + (0 : Int) ≤ n4 := g4
  replace g5 : n4 + (0 : Int) ≤ n6 := g5
  show ((True) ∧ (True) ∧ (zj9 3 (n2 + (0 : Int)) (n3 + (0 : Int)) (zwo ws) ∧ True)) ∨ False
  try simp only [Int.add_zero, Int.zero_add] at *
  obtain ⟨s, hs, e1, h⟩ := hj
  obtain ⟨a, s', ha, hs', e2, e3, h'⟩ := s5
  obtain ⟨a3, ha3, e6, h3⟩ := s6
  have es : s' = s := by omega
  subst es
  have e4 := zgv_some s4.2
  refine Or.inl ⟨trivial, trivial, ⟨⟨a, s', ha, hs', by omega, by omega, fun b hb hk j hj h5 => ?_⟩, trivial⟩⟩
  by_cases q : j < 2
  · exact h' b hb hk j q h5
  · have ej : j = 2 := by omega
    subst ej
    intro c hc he
    have hw := h b hb hk
    have ec : w.toNat = c := by omega
    rw [ec] at e4
    right
    have ea : a3 = a := by omega
    subst ea
    have hl := h3 b hb hk
    rw [e4, show n4 = n6 by omega]
    exact hl
theorem zrn_33 (g : yG) : zRuN (zJf g) zru_33 := by
  intro ws z w hj n2 s2 n3 s3 n4 s4 n5 s5 l0 u0 l1 u1 l2 u2 l3 u3 g0 g1 g2 g3 x0 o0 p0 v0 t0
  replace hj : zj15 2 z w (zwo ws) := hj.resolve_left (by decide)
  clear s2
  clear s3
  replace s4 : 0 ≤ w ∧ zwo ws 119 (w).toNat = some n4 := s4
  replace s5 : zj4 n2 n5 (zwo ws) := s5
  replace l0 : (0 : Int) ≤ w := l0
  replace u0 : w ≤ (19 : Int) := u0
  replace l1 : (0 : Int) ≤ n2 := l1
  replace u1 : n2 ≤ (15 : Int) := u1
  replace l2 : (0 : Int) ≤ n3 := l2
  replace u2 : n3 ≤ (15 : Int) := u2
  replace l3 : (0 : Int) ≤ n4 := l3
  replace u3 : n4 ≤ (27 : Int) := u3
  replace g0 : n3 + (0 : Int) ≤ z := g0
  replace g1 : z + (0 : Int) ≤ n3 := g1
  replace g2 : n3 + (0 : Int) ≤ n5 := g2
  replace g3 : n5 + (0 : Int) ≤ n3 := g3
  replace o0 : 0 ≤ (n3 + (0 : Int)) := o0
  replace p0 : zwo ws 121 (n3 + (0 : Int)).toNat = some x0 := p0
  replace v0 : (3 : Int) ≤ x0 := v0
  replace t0 : x0 ≤ (5 : Int) := t0
  show ((((0 : Int) ≤ n4 ∧ n4 ≤ (0 : Int)) ∧ True) ∧ (True) ∧ (True)) ∨ ((((1 : Int) ≤ n4 ∧ n4 ≤ (27 : Int)) ∧ True) ∧ (True) ∧ (zj20 2 (n2 + (0 : Int)) (n4 + (0 : Int)) (zwo ws) ∧ True)) ∨ False
  try simp only [Int.add_zero, Int.zero_add] at *
  obtain ⟨s, hs, e1, h⟩ := hj
  obtain ⟨a, s', ha, hs', e2, e3, h'⟩ := s5
  have es : s' = s := by omega
  subst es
  have e4 := zgv_some s4.2
  have e5 := zgv_some p0
  by_cases q : n4 = 0
  · exact Or.inl ⟨⟨⟨by omega, by omega⟩, trivial⟩, trivial, trivial⟩
  · refine Or.inr (Or.inl ⟨⟨⟨by omega, by omega⟩, trivial⟩, trivial, ⟨⟨a, ha, by omega, fun b hb hk => ?_⟩, trivial⟩⟩)
    have en : n3.toNat = s' := by omega
    rw [en] at e5
    have hw := h b hb hk
    rcases (h' b hb hk).2 2 (by omega) (by omega) w.toNat (by omega) (by omega) with q2 | q2
    · omega
    · rw [e4] at q2
      exact q2
theorem zrn_34 (g : yG) : zRuN (zJf g) zru_34 := by
  intro ws z w hj n2 s2 n3 s3 n4 s4 n5 s5 n6 s6 n7 s7 l0 u0 l1 u1 l2 u2 g0 g1
  replace hj : zj20 2 z w (zwo ws) := hj.resolve_left (by decide)
  clear s2
  clear s3
  replace s4 : zwo ws 88 4 = some n4 := s4
  replace s5 : n5 = (2 : Int) := s5
  replace s6 : n6 = n5 + n2 * (5 : Int) := s6
  replace s7 : n7 = n6 + n4 * (80 : Int) := s7
  replace l0 : (0 : Int) ≤ n2 := l0
  replace u0 : n2 ≤ (15 : Int) := u0
  replace l1 : (2 : Int) ≤ n3 := l1
  replace u1 : n3 ≤ (2 : Int) := u1
  replace l2 : (0 : Int) ≤ n4 := l2
  replace u2 : n4 ≤ (1 : Int) := u2
  replace g0 : n2 + (0 : Int) ≤ z := g0
  replace g1 : z + (0 : Int) ≤ n2 := g1
  show ((True) ∧ (True) ∧ ((0 ≤ (n7 + (0 : Int)) ∧ zwo ws 102 (n7 + (0 : Int)).toNat = some (w + (0 : Int))) ∧ True)) ∨ False
  try simp only [Int.add_zero, Int.zero_add] at *
  obtain ⟨a, ha, e1, h⟩ := hj
  have hb := zgv_some s4
  refine Or.inl ⟨trivial, trivial, ⟨⟨by omega, ?_⟩, trivial⟩⟩
  have h2 := h n4.toNat (by omega) (by omega)
  rw [show n7.toNat = 80 * n4.toNat + 5 * a + 2 by omega]
  exact h2
theorem zrn_35 (g : yG) : zRuN (zJf g) zru_35 := by
  intro ws z w hj n2 s2 n3 s3 n4 s4 n5 s5 n6 s6 n7 s7 n8 s8 l0 u0 l1 u1 l2 u2
  clear hj
  clear s2
  clear s3
  replace s4 : zwo ws 88 4 = some n4 := s4
  replace s5 : n5 = (2 : Int) := s5
  replace s6 : n6 = n5 + n2 * (5 : Int) := s6
  replace s7 : n7 = n6 + n4 * (80 : Int) := s7
  replace s8 : 0 ≤ n7 ∧ zwo ws 102 (n7).toNat = some n8 := s8
  replace l0 : (0 : Int) ≤ n2 := l0
  replace u0 : n2 ≤ (15 : Int) := u0
  replace l1 : (2 : Int) ≤ n3 := l1
  replace u1 : n3 ≤ (2 : Int) := u1
  replace l2 : (0 : Int) ≤ n4 := l2
  replace u2 : n4 ≤ (1 : Int) := u2
  show ((True) ∧ (True) ∧ (zj20 2 (n2 + (0 : Int)) (n8 + (0 : Int)) (zwo ws) ∧ True)) ∨ False
  try simp only [Int.add_zero, Int.zero_add] at *
  have hb := zgv_some s4
  refine Or.inl ⟨trivial, trivial, ⟨⟨n2.toNat, by omega, by omega, fun b hb2 hk => ?_⟩, trivial⟩⟩
  rw [show 80 * b + 5 * n2.toNat + 2 = n7.toNat by omega]
  exact s8.2
theorem zrn_36 (g : yG) : zRuN (zJf g) zru_36 := by
  intro ws z w hj n2 s2 n3 s3 n4 s4 n5 s5 n6 s6 l0 u0 l1 u1 l2 u2 x0 o0 p0 v0 t0
  replace hj : zj0 (zwo ws) := hj.resolve_left (by decide)
  clear s2
  replace s3 : 0 ≤ n2 ∧ zwo ws 120 (n2).toNat = some n3 := s3
  replace s4 : zwo ws 88 4 = some n4 := s4
  replace s5 : n5 = (0 : Int) := s5
  clear s6
  replace l0 : (0 : Int) ≤ n2 := l0
  replace u0 : n2 ≤ (15 : Int) := u0
  replace l1 : (0 : Int) ≤ n4 := l1
  replace u1 : n4 ≤ (1 : Int) := u1
  replace l2 : (3 : Int) ≤ n6 := l2
  replace u2 : n6 ≤ (3 : Int) := u2
  replace o0 : 0 ≤ (n4 + (0 : Int)) := o0
  replace p0 : zwo ws 92 (n4 + (0 : Int)).toNat = some x0 := p0
  replace v0 : (2 : Int) ≤ x0 := v0
  replace t0 : x0 ≤ (5 : Int) := t0
  show ((True) ∧ ((∀ x, 0 ≤ (n2 + (0 : Int)) → zwo ws 121 (n2 + (0 : Int)).toNat = some x → (0 : Int) ≤ x ∧ x ≤ (0 : Int)) ∧ True) ∧ (True)) ∨ ((True) ∧ ((∀ x, 0 ≤ (n2 + (0 : Int)) → zwo ws 121 (n2 + (0 : Int)).toNat = some x → (1 : Int) ≤ x ∧ x ≤ (1 : Int)) ∧ True) ∧ (True)) ∨ ((True) ∧ ((∀ x, 0 ≤ (n2 + (0 : Int)) → zwo ws 121 (n2 + (0 : Int)).toNat = some x → (2 : Int) ≤ x ∧ x ≤ (2 : Int)) ∧ (∀ x, 0 ≤ (n2 + (0 : Int)) → zwo ws 124 (n2 + (0 : Int)).toNat = some x → (1 : Int) ≤ x ∧ x ≤ (1 : Int)) ∧ (∀ x, 0 ≤ (n2 + (0 : Int)) → zwo ws 120 (n2 + (0 : Int)).toNat = some x → (0 : Int) ≤ x ∧ x ≤ (18 : Int)) ∧ True) ∧ (True)) ∨ ((True) ∧ ((∀ x, 0 ≤ (n2 + (0 : Int)) → zwo ws 121 (n2 + (0 : Int)).toNat = some x → (3 : Int) ≤ x ∧ x ≤ (3 : Int)) ∧ (∀ x, 0 ≤ (n2 + (0 : Int)) → zwo ws 124 (n2 + (0 : Int)).toNat = some x → (1 : Int) ≤ x ∧ x ≤ (1 : Int)) ∧ (∀ x, 0 ≤ (n2 + (0 : Int)) → zwo ws 120 (n2 + (0 : Int)).toNat = some x → (0 : Int) ≤ x ∧ x ≤ (17 : Int)) ∧ True) ∧ (True)) ∨ ((True) ∧ ((∀ x, 0 ≤ (n2 + (0 : Int)) → zwo ws 121 (n2 + (0 : Int)).toNat = some x → (4 : Int) ≤ x ∧ x ≤ (4 : Int)) ∧ (∀ x, 0 ≤ (n2 + (0 : Int)) → zwo ws 124 (n2 + (0 : Int)).toNat = some x → (1 : Int) ≤ x ∧ x ≤ (1 : Int)) ∧ (∀ x, 0 ≤ (n2 + (0 : Int)) → zwo ws 120 (n2 + (0 : Int)).toNat = some x → (0 : Int) ≤ x ∧ x ≤ (16 : Int)) ∧ True) ∧ (zj15 3 (n2 + (0 : Int)) (n3 + (3 : Int)) (zwo ws) ∧ True)) ∨ ((True) ∧ ((∀ x, 0 ≤ (n2 + (0 : Int)) → zwo ws 121 (n2 + (0 : Int)).toNat = some x → (5 : Int) ≤ x ∧ x ≤ (5 : Int)) ∧ (∀ x, 0 ≤ (n2 + (0 : Int)) → zwo ws 124 (n2 + (0 : Int)).toNat = some x → (1 : Int) ≤ x ∧ x ≤ (1 : Int)) ∧ (∀ x, 0 ≤ (n2 + (0 : Int)) → zwo ws 120 (n2 + (0 : Int)).toNat = some x → (0 : Int) ≤ x ∧ x ≤ (15 : Int)) ∧ True) ∧ (zj15 3 (n2 + (0 : Int)) (n3 + (3 : Int)) (zwo ws) ∧ True)) ∨ ((True) ∧ ((∀ x, 0 ≤ (n2 + (0 : Int)) → zwo ws 121 (n2 + (0 : Int)).toNat = some x → (2 : Int) ≤ x ∧ x ≤ (2 : Int)) ∧ (∀ x, 0 ≤ (n2 + (0 : Int)) → zwo ws 124 (n2 + (0 : Int)).toNat = some x → (0 : Int) ≤ x ∧ x ≤ (0 : Int)) ∧ (∀ x, 0 ≤ (n2 + (0 : Int)) → zwo ws 120 (n2 + (0 : Int)).toNat = some x → (0 : Int) ≤ x ∧ x ≤ (14 : Int)) ∧ True) ∧ (True)) ∨ ((True) ∧ ((∀ x, 0 ≤ (n2 + (0 : Int)) → zwo ws 121 (n2 + (0 : Int)).toNat = some x → (3 : Int) ≤ x ∧ x ≤ (3 : Int)) ∧ (∀ x, 0 ≤ (n2 + (0 : Int)) → zwo ws 124 (n2 + (0 : Int)).toNat = some x → (0 : Int) ≤ x ∧ x ≤ (0 : Int)) ∧ (∀ x, 0 ≤ (n2 + (0 : Int)) → zwo ws 120 (n2 + (0 : Int)).toNat = some x → (0 : Int) ≤ x ∧ x ≤ (9 : Int)) ∧ True) ∧ (True)) ∨ ((((0 : Int) ≤ n4 ∧ n4 ≤ (0 : Int)) ∧ True) ∧ ((∀ x, 0 ≤ (n2 + (0 : Int)) → zwo ws 121 (n2 + (0 : Int)).toNat = some x → (4 : Int) ≤ x ∧ x ≤ (4 : Int)) ∧ (∀ x, 0 ≤ (n2 + (0 : Int)) → zwo ws 124 (n2 + (0 : Int)).toNat = some x → (0 : Int) ≤ x ∧ x ≤ (0 : Int)) ∧ (∀ x, 0 ≤ (n2 + (0 : Int)) → zwo ws 120 (n2 + (0 : Int)).toNat = some x → (0 : Int) ≤ x ∧ x ≤ (4 : Int)) ∧ (∀ x, 0 ≤ (n5 + (0 : Int)) → zwo ws 92 (n5 + (0 : Int)).toNat = some x → (2 : Int) ≤ x ∧ x ≤ (2 : Int)) ∧ True) ∧ (zj15 3 (n2 + (0 : Int)) (n3 + (6 : Int)) (zwo ws) ∧ True)) ∨ ((((1 : Int) ≤ n4 ∧ n4 ≤ (1 : Int)) ∧ True) ∧ ((∀ x, 0 ≤ (n2 + (0 : Int)) → zwo ws 121 (n2 + (0 : Int)).toNat = some x → (4 : Int) ≤ x ∧ x ≤ (4 : Int)) ∧ (∀ x, 0 ≤ (n2 + (0 : Int)) → zwo ws 124 (n2 + (0 : Int)).toNat = some x → (0 : Int) ≤ x ∧ x ≤ (0 : Int)) ∧ (∀ x, 0 ≤ (n2 + (0 : Int)) → zwo ws 120 (n2 + (0 : Int)).toNat = some x → (0 : Int) ≤ x ∧ x ≤ (4 : Int)) ∧ (∀ x, 0 ≤ (n5 + (1 : Int)) → zwo ws 92 (n5 + (1 : Int)).toNat = some x → (2 : Int) ≤ x ∧ x ≤ (2 : Int)) ∧ True) ∧ (zj15 3 (n2 + (0 : Int)) (n3 + (6 : Int)) (zwo ws) ∧ True)) ∨ ((((0 : Int) ≤ n4 ∧ n4 ≤ (0 : Int)) ∧ True) ∧ ((∀ x, 0 ≤ (n2 + (0 : Int)) → zwo ws 121 (n2 + (0 : Int)).toNat = some x → (4 : Int) ≤ x ∧ x ≤ (4 : Int)) ∧ (∀ x, 0 ≤ (n2 + (0 : Int)) → zwo ws 124 (n2 + (0 : Int)).toNat = some x → (0 : Int) ≤ x ∧ x ≤ (0 : Int)) ∧ (∀ x, 0 ≤ (n2 + (0 : Int)) → zwo ws 120 (n2 + (0 : Int)).toNat = some x → (0 : Int) ≤ x ∧ x ≤ (4 : Int)) ∧ (∀ x, 0 ≤ (n5 + (0 : Int)) → zwo ws 92 (n5 + (0 : Int)).toNat = some x → (3 : Int) ≤ x ∧ x ≤ (3 : Int)) ∧ True) ∧ (zj15 3 (n2 + (0 : Int)) (n3 + (9 : Int)) (zwo ws) ∧ True)) ∨ ((((1 : Int) ≤ n4 ∧ n4 ≤ (1 : Int)) ∧ True) ∧ ((∀ x, 0 ≤ (n2 + (0 : Int)) → zwo ws 121 (n2 + (0 : Int)).toNat = some x → (4 : Int) ≤ x ∧ x ≤ (4 : Int)) ∧ (∀ x, 0 ≤ (n2 + (0 : Int)) → zwo ws 124 (n2 + (0 : Int)).toNat = some x → (0 : Int) ≤ x ∧ x ≤ (0 : Int)) ∧ (∀ x, 0 ≤ (n2 + (0 : Int)) → zwo ws 120 (n2 + (0 : Int)).toNat = some x → (0 : Int) ≤ x ∧ x ≤ (4 : Int)) ∧ (∀ x, 0 ≤ (n5 + (1 : Int)) → zwo ws 92 (n5 + (1 : Int)).toNat = some x → (3 : Int) ≤ x ∧ x ≤ (3 : Int)) ∧ True) ∧ (zj15 3 (n2 + (0 : Int)) (n3 + (9 : Int)) (zwo ws) ∧ True)) ∨ ((((0 : Int) ≤ n4 ∧ n4 ≤ (0 : Int)) ∧ True) ∧ ((∀ x, 0 ≤ (n2 + (0 : Int)) → zwo ws 121 (n2 + (0 : Int)).toNat = some x → (4 : Int) ≤ x ∧ x ≤ (4 : Int)) ∧ (∀ x, 0 ≤ (n2 + (0 : Int)) → zwo ws 124 (n2 + (0 : Int)).toNat = some x → (0 : Int) ≤ x ∧ x ≤ (0 : Int)) ∧ (∀ x, 0 ≤ (n2 + (0 : Int)) → zwo ws 120 (n2 + (0 : Int)).toNat = some x → (0 : Int) ≤ x ∧ x ≤ (4 : Int)) ∧ (∀ x, 0 ≤ (n5 + (0 : Int)) → zwo ws 92 (n5 + (0 : Int)).toNat = some x → (4 : Int) ≤ x ∧ x ≤ (4 : Int)) ∧ True) ∧ (zj15 3 (n2 + (0 : Int)) (n3 + (12 : Int)) (zwo ws) ∧ True)) ∨ ((((1 : Int) ≤ n4 ∧ n4 ≤ (1 : Int)) ∧ True) ∧ ((∀ x, 0 ≤ (n2 + (0 : Int)) → zwo ws 121 (n2 + (0 : Int)).toNat = some x → (4 : Int) ≤ x ∧ x ≤ (4 : Int)) ∧ (∀ x, 0 ≤ (n2 + (0 : Int)) → zwo ws 124 (n2 + (0 : Int)).toNat = some x → (0 : Int) ≤ x ∧ x ≤ (0 : Int)) ∧ (∀ x, 0 ≤ (n2 + (0 : Int)) → zwo ws 120 (n2 + (0 : Int)).toNat = some x → (0 : Int) ≤ x ∧ x ≤ (4 : Int)) ∧ (∀ x, 0 ≤ (n5 + (1 : Int)) → zwo ws 92 (n5 + (1 : Int)).toNat = some x → (4 : Int) ≤ x ∧ x ≤ (4 : Int)) ∧ True) ∧ (zj15 3 (n2 + (0 : Int)) (n3 + (12 : Int)) (zwo ws) ∧ True)) ∨ ((((0 : Int) ≤ n4 ∧ n4 ≤ (0 : Int)) ∧ True) ∧ ((∀ x, 0 ≤ (n2 + (0 : Int)) → zwo ws 121 (n2 + (0 : Int)).toNat = some x → (4 : Int) ≤ x ∧ x ≤ (4 : Int)) ∧ (∀ x, 0 ≤ (n2 + (0 : Int)) → zwo ws 124 (n2 + (0 : Int)).toNat = some x → (0 : Int) ≤ x ∧ x ≤ (0 : Int)) ∧ (∀ x, 0 ≤ (n2 + (0 : Int)) → zwo ws 120 (n2 + (0 : Int)).toNat = some x → (0 : Int) ≤ x ∧ x ≤ (4 : Int)) ∧ (∀ x, 0 ≤ (n5 + (0 : Int)) → zwo ws 92 (n5 + (0 : Int)).toNat = some x → (5 : Int) ≤ x ∧ x ≤ (5 : Int)) ∧ True) ∧ (zj15 3 (n2 + (0 : Int)) (n3 + (15 : Int)) (zwo ws) ∧ True)) ∨ ((((1 : Int) ≤ n4 ∧ n4 ≤ (1 : Int)) ∧ True) ∧ ((∀ x, 0 ≤ (n2 + (0 : Int)) → zwo ws 121 (n2 + (0 : Int)).toNat = some x → (4 : Int) ≤ x ∧ x ≤ (4 : Int)) ∧ (∀ x, 0 ≤ (n2 + (0 : Int)) → zwo ws 124 (n2 + (0 : Int)).toNat = some x → (0 : Int) ≤ x ∧ x ≤ (0 : Int)) ∧ (∀ x, 0 ≤ (n2 + (0 : Int)) → zwo ws 120 (n2 + (0 : Int)).toNat = some x → (0 : Int) ≤ x ∧ x ≤ (4 : Int)) ∧ (∀ x, 0 ≤ (n5 + (1 : Int)) → zwo ws 92 (n5 + (1 : Int)).toNat = some x → (5 : Int) ≤ x ∧ x ≤ (5 : Int)) ∧ True) ∧ (zj15 3 (n2 + (0 : Int)) (n3 + (15 : Int)) (zwo ws) ∧ True)) ∨ False
  try simp only [Int.add_zero, Int.zero_add] at *
  have h := hj n2.toNat (by omega)
  unfold zj_geo at h
  have hf := zgv_some s3.2
  have hb := zgv_some s4
  have hc := zgv_some p0
  have hz : ∀ (c : Int), (∀ b : Nat, b < 2 → zgv (zwo ws) 88 4 = (b : Int) → c = zgv (zwo ws) 120 n2.toNat + (3 : Int) * zj_stp (zwo ws) b n2.toNat) → zj15 3 n2 c (zwo ws) := fun c hc => ⟨n2.toNat, by omega, by omega, hc⟩
  have h5 : zgv (zwo ws) 121 n2.toNat = 0 ∨ zgv (zwo ws) 121 n2.toNat = 1 ∨ zgv (zwo ws) 121 n2.toNat = 2 ∨ zgv (zwo ws) 121 n2.toNat = 3 ∨ zgv (zwo ws) 121 n2.toNat = 4 ∨ zgv (zwo ws) 121 n2.toNat = 5 := by omega
  have hdn : ¬ zgv (zwo ws) 124 n2.toNat = 1 → ∀ b : Nat, b < 2 → zgv (zwo ws) 88 4 = (b : Int) → zj_stp (zwo ws) b n2.toNat = x0 := fun hq b hb2 hb3 => by
    unfold zj_stp
    rw [if_neg hq, show b = n4.toNat by omega]
    exact hc
  have hw : x0 = 2 ∨ x0 = 3 ∨ x0 = 4 ∨ x0 = 5 := by omega
  have hbb : n4 = 0 ∨ n4 = 1 := by omega
  rcases h5 with h5 | h5 | h5 | h5 | h5 | h5
  · exact Or.inl ⟨trivial, ⟨fun x hx0 hx => by have hv := zgv_some hx; omega, trivial⟩, trivial⟩
  · exact Or.inr (Or.inl ⟨trivial, ⟨fun x hx0 hx => by have hv := zgv_some hx; omega, trivial⟩, trivial⟩)
  · by_cases hq : zgv (zwo ws) 124 n2.toNat = 1
    · exact Or.inr (Or.inr (Or.inl ⟨trivial, ⟨fun x hx0 hx => by have hv := zgv_some hx; omega, fun x hx0 hx => by have hv := zgv_some hx; omega, fun x hx0 hx => by have hv := zgv_some hx; omega, trivial⟩, trivial⟩))
    · exact Or.inr (Or.inr (Or.inr (Or.inr (Or.inr (Or.inr (Or.inl ⟨trivial, ⟨fun x hx0 hx => by have hv := zgv_some hx; omega, fun x hx0 hx => by have hv := zgv_some hx; omega, fun x hx0 hx => by have hv := zgv_some hx; omega, trivial⟩, trivial⟩))))))
  · by_cases hq : zgv (zwo ws) 124 n2.toNat = 1
    · exact Or.inr (Or.inr (Or.inr (Or.inl ⟨trivial, ⟨fun x hx0 hx => by have hv := zgv_some hx; omega, fun x hx0 hx => by have hv := zgv_some hx; omega, fun x hx0 hx => by have hv := zgv_some hx; omega, trivial⟩, trivial⟩)))
    · exact Or.inr (Or.inr (Or.inr (Or.inr (Or.inr (Or.inr (Or.inr (Or.inl ⟨trivial, ⟨fun x hx0 hx => by have hv := zgv_some hx; omega, fun x hx0 hx => by have hv := zgv_some hx; omega, fun x hx0 hx => by have hv := zgv_some hx; omega, trivial⟩, trivial⟩)))))))
  · by_cases hq : zgv (zwo ws) 124 n2.toNat = 1
    · exact Or.inr (Or.inr (Or.inr (Or.inr (Or.inl ⟨trivial, ⟨fun x hx0 hx => by have hv := zgv_some hx; omega, fun x hx0 hx => by have hv := zgv_some hx; omega, fun x hx0 hx => by have hv := zgv_some hx; omega, trivial⟩, ⟨hz _ (fun b _ _ => by unfold zj_stp; rw [if_pos hq]; omega), trivial⟩⟩))))
    · rcases hbb with hbb | hbb
      · rcases hw with hw | hw | hw | hw
        · exact Or.inr (Or.inr (Or.inr (Or.inr (Or.inr (Or.inr (Or.inr (Or.inr (Or.inl ⟨⟨⟨by omega, by omega⟩, trivial⟩, ⟨fun x hx0 hx => by have hv := zgv_some hx; omega, fun x hx0 hx => by have hv := zgv_some hx; omega, fun x hx0 hx => by have hv := zgv_some hx; omega, fun x hx0 hx => by rw [show (n5).toNat = n4.toNat by omega] at hx; have hv := zgv_some hx; omega, trivial⟩, ⟨hz _ (fun b hb2 hb3 => by rw [hdn hq b hb2 hb3]; omega), trivial⟩⟩))))))))
        · exact Or.inr (Or.inr (Or.inr (Or.inr (Or.inr (Or.inr (Or.inr (Or.inr (Or.inr (Or.inr (Or.inl ⟨⟨⟨by omega, by omega⟩, trivial⟩, ⟨fun x hx0 hx => by have hv := zgv_some hx; omega, fun x hx0 hx => by have hv := zgv_some hx; omega, fun x hx0 hx => by have hv := zgv_some hx; omega, fun x hx0 hx => by rw [show (n5).toNat = n4.toNat by omega] at hx; have hv := zgv_some hx; omega, trivial⟩, ⟨hz _ (fun b hb2 hb3 => by rw [hdn hq b hb2 hb3]; omega), trivial⟩⟩))))))))))
        · exact Or.inr (Or.inr (Or.inr (Or.inr (Or.inr (Or.inr (Or.inr (Or.inr (Or.inr (Or.inr (Or.inr (Or.inr (Or.inl ⟨⟨⟨by omega, by omega⟩, trivial⟩, ⟨fun x hx0 hx => by have hv := zgv_some hx; omega, fun x hx0 hx => by have hv := zgv_some hx; omega, fun x hx0 hx => by have hv := zgv_some hx; omega, fun x hx0 hx => by rw [show (n5).toNat = n4.toNat by omega] at hx; have hv := zgv_some hx; omega, trivial⟩, ⟨hz _ (fun b hb2 hb3 => by rw [hdn hq b hb2 hb3]; omega), trivial⟩⟩))))))))))))
        · exact Or.inr (Or.inr (Or.inr (Or.inr (Or.inr (Or.inr (Or.inr (Or.inr (Or.inr (Or.inr (Or.inr (Or.inr (Or.inr (Or.inr (Or.inl ⟨⟨⟨by omega, by omega⟩, trivial⟩, ⟨fun x hx0 hx => by have hv := zgv_some hx; omega, fun x hx0 hx => by have hv := zgv_some hx; omega, fun x hx0 hx => by have hv := zgv_some hx; omega, fun x hx0 hx => by rw [show (n5).toNat = n4.toNat by omega] at hx; have hv := zgv_some hx; omega, trivial⟩, ⟨hz _ (fun b hb2 hb3 => by rw [hdn hq b hb2 hb3]; omega), trivial⟩⟩))))))))))))))
      · rcases hw with hw | hw | hw | hw
        · exact Or.inr (Or.inr (Or.inr (Or.inr (Or.inr (Or.inr (Or.inr (Or.inr (Or.inr (Or.inl ⟨⟨⟨by omega, by omega⟩, trivial⟩, ⟨fun x hx0 hx => by have hv := zgv_some hx; omega, fun x hx0 hx => by have hv := zgv_some hx; omega, fun x hx0 hx => by have hv := zgv_some hx; omega, fun x hx0 hx => by rw [show (n5 + 1).toNat = n4.toNat by omega] at hx; have hv := zgv_some hx; omega, trivial⟩, ⟨hz _ (fun b hb2 hb3 => by rw [hdn hq b hb2 hb3]; omega), trivial⟩⟩)))))))))
        · exact Or.inr (Or.inr (Or.inr (Or.inr (Or.inr (Or.inr (Or.inr (Or.inr (Or.inr (Or.inr (Or.inr (Or.inl ⟨⟨⟨by omega, by omega⟩, trivial⟩, ⟨fun x hx0 hx => by have hv := zgv_some hx; omega, fun x hx0 hx => by have hv := zgv_some hx; omega, fun x hx0 hx => by have hv := zgv_some hx; omega, fun x hx0 hx => by rw [show (n5 + 1).toNat = n4.toNat by omega] at hx; have hv := zgv_some hx; omega, trivial⟩, ⟨hz _ (fun b hb2 hb3 => by rw [hdn hq b hb2 hb3]; omega), trivial⟩⟩)))))))))))
        · exact Or.inr (Or.inr (Or.inr (Or.inr (Or.inr (Or.inr (Or.inr (Or.inr (Or.inr (Or.inr (Or.inr (Or.inr (Or.inr (Or.inl ⟨⟨⟨by omega, by omega⟩, trivial⟩, ⟨fun x hx0 hx => by have hv := zgv_some hx; omega, fun x hx0 hx => by have hv := zgv_some hx; omega, fun x hx0 hx => by have hv := zgv_some hx; omega, fun x hx0 hx => by rw [show (n5 + 1).toNat = n4.toNat by omega] at hx; have hv := zgv_some hx; omega, trivial⟩, ⟨hz _ (fun b hb2 hb3 => by rw [hdn hq b hb2 hb3]; omega), trivial⟩⟩)))))))))))))
        · exact Or.inr (Or.inr (Or.inr (Or.inr (Or.inr (Or.inr (Or.inr (Or.inr (Or.inr (Or.inr (Or.inr (Or.inr (Or.inr (Or.inr (Or.inr (Or.inl ⟨⟨⟨by omega, by omega⟩, trivial⟩, ⟨fun x hx0 hx => by have hv := zgv_some hx; omega, fun x hx0 hx => by have hv := zgv_some hx; omega, fun x hx0 hx => by have hv := zgv_some hx; omega, fun x hx0 hx => by rw [show (n5 + 1).toNat = n4.toNat by omega] at hx; have hv := zgv_some hx; omega, trivial⟩, ⟨hz _ (fun b hb2 hb3 => by rw [hdn hq b hb2 hb3]; omega), trivial⟩⟩)))))))))))))))
  · have hq : zgv (zwo ws) 124 n2.toNat = 1 := by omega
    exact Or.inr (Or.inr (Or.inr (Or.inr (Or.inr (Or.inl ⟨trivial, ⟨fun x hx0 hx => by have hv := zgv_some hx; omega, fun x hx0 hx => by have hv := zgv_some hx; omega, fun x hx0 hx => by have hv := zgv_some hx; omega, trivial⟩, ⟨hz _ (fun b _ _ => by unfold zj_stp; rw [if_pos hq]; omega), trivial⟩⟩)))))
theorem zrn_37 (g : yG) : zRuN (zJf g) zru_37 := by
  intro ws z w hj n2 s2 n3 s3 n4 s4 n5 s5 l0 u0 l1 u1 g0 g1 g2 g3
  replace hj : zj15 3 z w (zwo ws) := hj.resolve_left (by decide)
  clear s2
  clear s3
  replace s4 : 0 ≤ w ∧ zwo ws 119 (w).toNat = some n4 := s4
  replace s5 : zj9 3 n2 n5 (zwo ws) := s5
  replace l0 : (0 : Int) ≤ w := l0
  replace u0 : w ≤ (19 : Int) := u0
  replace l1 : (0 : Int) ≤ n4 := l1
  replace u1 : n4 ≤ (0 : Int) := u1
  replace g0 : n3 + (0 : Int) ≤ z := g0
  replace g1 : z + (0 : Int) ≤ n3 := g1
  replace g2 : n3 + (0 : Int) ≤ n5 := g2
  replace g3 : n5 + (0 : Int) ≤ n3 := g3
  show ((True) ∧ (True) ∧ (zj9 4 (n2 + (0 : Int)) (n3 + (0 : Int)) (zwo ws) ∧ True)) ∨ False
  try simp only [Int.add_zero, Int.zero_add] at *
  obtain ⟨s, hs, e1, h⟩ := hj
  obtain ⟨a, s', ha, hs', e2, e3, h'⟩ := s5
  have es : s' = s := by omega
  subst es
  have e4 := zgv_some s4.2
  refine Or.inl ⟨trivial, trivial, ⟨⟨a, s', ha, hs', by omega, by omega, fun b hb hk j hj h5 => ?_⟩, trivial⟩⟩
  by_cases q : j < 3
  · exact h' b hb hk j q h5
  · have ej : j = 3 := by omega
    subst ej
    intro c hc he
    have hw := h b hb hk
    have ec : w.toNat = c := by omega
    rw [ec] at e4
    exact Or.inl (by omega)
theorem zrn_38 (g : yG) : zRuN (zJf g) zru_38 := by
  intro ws z w hj n2 s2 n3 s3 n4 s4 n5 s5 n6 s6 l0 u0 g0 g1 g2 g3 g4 g5
  replace hj : zj15 3 z w (zwo ws) := hj.resolve_left (by decide)
  clear s2
  clear s3
  replace s4 : 0 ≤ w ∧ zwo ws 119 (w).toNat = some n4 := s4
  replace s5 : zj9 3 n2 n5 (zwo ws) := s5
  replace s6 : zj20 3 n2 n6 (zwo ws) := s6
  replace l0 : (0 : Int) ≤ w := l0
  replace u0 : w ≤ (19 : Int) := u0
  replace g0 : n3 + (0 : Int) ≤ z := g0
  replace g1 : z + (0 : Int) ≤ n3 := g1
  replace g2 : n3 + (0 : Int) ≤ n5 := g2
  replace g3 : n5 + (0 : Int) ≤ n3 := g3
  replace g4 : n6 + (0 : Int) ≤ n4 := g4
  replace g5 : n4 + (0 : Int) ≤ n6 := g5
  show ((True) ∧ (True) ∧ (zj9 4 (n2 + (0 : Int)) (n3 + (0 : Int)) (zwo ws) ∧ True)) ∨ False
  try simp only [Int.add_zero, Int.zero_add] at *
  obtain ⟨s, hs, e1, h⟩ := hj
  obtain ⟨a, s', ha, hs', e2, e3, h'⟩ := s5
  obtain ⟨a3, ha3, e6, h3⟩ := s6
  have es : s' = s := by omega
  subst es
  have e4 := zgv_some s4.2
  refine Or.inl ⟨trivial, trivial, ⟨⟨a, s', ha, hs', by omega, by omega, fun b hb hk j hj h5 => ?_⟩, trivial⟩⟩
  by_cases q : j < 3
  · exact h' b hb hk j q h5
  · have ej : j = 3 := by omega
    subst ej
    intro c hc he
    have hw := h b hb hk
    have ec : w.toNat = c := by omega
    rw [ec] at e4
    right
    have ea : a3 = a := by omega
    subst ea
    have hl := h3 b hb hk
    rw [e4, show n4 = n6 by omega]
    exact hl
theorem zrn_39 (g : yG) : zRuN (zJf g) zru_39 := by
  intro ws z w hj n2 s2 n3 s3 n4 s4 n5 s5 l0 u0 l1 u1 l2 u2 l3 u3 g0 g1 g2 g3 x0 o0 p0 v0 t0
  replace hj : zj15 3 z w (zwo ws) := hj.resolve_left (by decide)
  clear s2
  clear s3
  replace s4 : 0 ≤ w ∧ zwo ws 119 (w).toNat = some n4 := s4
  replace s5 : zj4 n2 n5 (zwo ws) := s5
  replace l0 : (0 : Int) ≤ w := l0
  replace u0 : w ≤ (19 : Int) := u0
  replace l1 : (0 : Int) ≤ n2 := l1
  replace u1 : n2 ≤ (15 : Int) := u1
  replace l2 : (0 : Int) ≤ n3 := l2
  replace u2 : n3 ≤ (15 : Int) := u2
  replace l3 : (0 : Int) ≤ n4 := l3
  replace u3 : n4 ≤ (27 : Int) := u3
  replace g0 : n3 + (0 : Int) ≤ z := g0
  replace g1 : z + (0 : Int) ≤ n3 := g1
  replace g2 : n3 + (0 : Int) ≤ n5 := g2
  replace g3 : n5 + (0 : Int) ≤ n3 := g3
  replace o0 : 0 ≤ (n3 + (0 : Int)) := o0
  replace p0 : zwo ws 121 (n3 + (0 : Int)).toNat = some x0 := p0
  replace v0 : (4 : Int) ≤ x0 := v0
  replace t0 : x0 ≤ (5 : Int) := t0
  show ((((0 : Int) ≤ n4 ∧ n4 ≤ (0 : Int)) ∧ True) ∧ (True) ∧ (True)) ∨ ((((1 : Int) ≤ n4 ∧ n4 ≤ (27 : Int)) ∧ True) ∧ (True) ∧ (zj20 3 (n2 + (0 : Int)) (n4 + (0 : Int)) (zwo ws) ∧ True)) ∨ False
  try simp only [Int.add_zero, Int.zero_add] at *
  obtain ⟨s, hs, e1, h⟩ := hj
  obtain ⟨a, s', ha, hs', e2, e3, h'⟩ := s5
  have es : s' = s := by omega
  subst es
  have e4 := zgv_some s4.2
  have e5 := zgv_some p0
  by_cases q : n4 = 0
  · exact Or.inl ⟨⟨⟨by omega, by omega⟩, trivial⟩, trivial, trivial⟩
  · refine Or.inr (Or.inl ⟨⟨⟨by omega, by omega⟩, trivial⟩, trivial, ⟨⟨a, ha, by omega, fun b hb hk => ?_⟩, trivial⟩⟩)
    have en : n3.toNat = s' := by omega
    rw [en] at e5
    have hw := h b hb hk
    rcases (h' b hb hk).2 3 (by omega) (by omega) w.toNat (by omega) (by omega) with q2 | q2
    · omega
    · rw [e4] at q2
      exact q2
