/-! facts hang on their places alone: printed by wip/p34/genloc.py -/
theorem zloc_0 : zLoc [(120, 0, .ofNat 0, .ofNat 15), (121, 0, .ofNat 0, .ofNat 15), (124, 0, .ofNat 0, .ofNat 15)] (fun _ _ G => zj0 G) := fun z w G G' e h s hs => zgeo_c (e 120 (s) (zin0 (show (120, 0, .ofNat 0, .ofNat 15) ∈ _ by decide) (show (0 : Int) ≤ ((s : Nat) : Int) by omega) (show ((s : Nat) : Int) ≤ 15 by omega))) (e 121 (s) (zin0 (show (121, 0, .ofNat 0, .ofNat 15) ∈ _ by decide) (show (0 : Int) ≤ ((s : Nat) : Int) by omega) (show ((s : Nat) : Int) ≤ 15 by omega))) (e 124 (s) (zin0 (show (124, 0, .ofNat 0, .ofNat 15) ∈ _ by decide) (show (0 : Int) ≤ ((s : Nat) : Int) by omega) (show ((s : Nat) : Int) ≤ 15 by omega))) (h s hs)
theorem zloc_1 : zLoc [(102, 0, .ofNat 0, .ofNat 159), (101, 0, .ofNat 0, .ofNat 31), (94, 0, .ofNat 0, .ofNat 1), (88, 0, .ofNat 4, .ofNat 4)] (fun _ _ G => zj1 G) := by
  intro z w G G' e h b hb hk
  rw [zgv_eq (e 88 4 (zin0 (show (88, 0, .ofNat 4, .ofNat 4) ∈ _ by decide) (by decide) (by decide)))] at hk
  rw [zgv_eq (e 94 (b) (zin0 (show (94, 0, .ofNat 0, .ofNat 1) ∈ _ by decide) (show (0 : Int) ≤ ((b : Nat) : Int) by omega) (show ((b : Nat) : Int) ≤ 1 by omega)))]
  exact zlet_c (fun a ha _ => (e 101 (16 * b + a) (zin0 (show (101, 0, .ofNat 0, .ofNat 31) ∈ _ by decide) (show (0 : Int) ≤ ((16 * b + a : Nat) : Int) by omega) (show ((16 * b + a : Nat) : Int) ≤ 31 by omega)))) (fun a k ha _ hk => (e 102 (80 * b + 5 * a + k) (zin0 (show (102, 0, .ofNat 0, .ofNat 159) ∈ _ by decide) (show (0 : Int) ≤ ((80 * b + 5 * a + k : Nat) : Int) by omega) (show ((80 * b + 5 * a + k : Nat) : Int) ≤ 159 by omega)))) (h b hb hk)
theorem zloc_2 : zLoc [(114, 0, .ofNat 0, .ofNat 1119), (109, 0, .ofNat 0, .ofNat 1), (110, 0, .ofNat 0, .ofNat 1), (111, 0, .ofNat 0, .ofNat 1), (88, 0, .ofNat 4, .ofNat 4)] (fun _ _ G => zj2 G) := by
  intro z w G G' e h b hb hk
  rw [zgv_eq (e 88 4 (zin0 (show (88, 0, .ofNat 4, .ofNat 4) ∈ _ by decide) (by decide) (by decide)))] at hk
  exact zrul_c (e 111 (b) (zin0 (show (111, 0, .ofNat 0, .ofNat 1) ∈ _ by decide) (show (0 : Int) ≤ ((b : Nat) : Int) by omega) (show ((b : Nat) : Int) ≤ 1 by omega))) (e 109 (b) (zin0 (show (109, 0, .ofNat 0, .ofNat 1) ∈ _ by decide) (show (0 : Int) ≤ ((b : Nat) : Int) by omega) (show ((b : Nat) : Int) ≤ 1 by omega))) (e 110 (b) (zin0 (show (110, 0, .ofNat 0, .ofNat 1) ∈ _ by decide) (show (0 : Int) ≤ ((b : Nat) : Int) by omega) (show ((b : Nat) : Int) ≤ 1 by omega))) (fun i hi => (e 114 (560 * b + i) (zin0 (show (114, 0, .ofNat 0, .ofNat 1119) ∈ _ by decide) (show (0 : Int) ≤ ((560 * b + i : Nat) : Int) by omega) (show ((560 * b + i : Nat) : Int) ≤ 1119 by omega)))) (h b hb hk)
theorem zloc_3 : zLoc [(120, 0, .ofNat 0, .ofNat 15), (121, 0, .ofNat 0, .ofNat 15), (124, 0, .ofNat 0, .ofNat 15), (101, 0, .ofNat 0, .ofNat 31), (102, 0, .ofNat 0, .ofNat 159), (119, 0, .ofNat 0, .ofNat 19), (92, 0, .ofNat 0, .ofNat 1), (88, 0, .ofNat 4, .ofNat 4), (88, 0, .ofNat 2, .ofNat 2)] (zj3) := by
  rintro z w G G' e ⟨s0, h0, h1, h2, a, s, ha, hs, e1, e2, h⟩
  refine ⟨s0, h0, h1, ?_, ?_⟩
  · rw [zgv_eq (e 88 2 (zin0 (show (88, 0, .ofNat 2, .ofNat 2) ∈ _ by decide) (by decide) (by decide)))]
    exact h2
  refine ⟨a, s, ha, hs, e1, e2, fun b hb hk => ?_⟩
  rw [zgv_eq (e 88 4 (zin0 (show (88, 0, .ofNat 4, .ofNat 4) ∈ _ by decide) (by decide) (by decide)))] at hk
  obtain ⟨q1, q2⟩ := h b hb hk
  rw [zgv_eq (e 101 (16 * b + a) (zin0 (show (101, 0, .ofNat 0, .ofNat 31) ∈ _ by decide) (show (0 : Int) ≤ ((16 * b + a : Nat) : Int) by omega) (show ((16 * b + a : Nat) : Int) ≤ 31 by omega))), zgv_eq (e 121 (s) (zin0 (show (121, 0, .ofNat 0, .ofNat 15) ∈ _ by decide) (show (0 : Int) ≤ ((s : Nat) : Int) by omega) (show ((s : Nat) : Int) ≤ 15 by omega)))]
  exact ⟨q1, fun k hk hl => zok_c (e 120 (s) (zin0 (show (120, 0, .ofNat 0, .ofNat 15) ∈ _ by decide) (show (0 : Int) ≤ ((s : Nat) : Int) by omega) (show ((s : Nat) : Int) ≤ 15 by omega))) (e 124 (s) (zin0 (show (124, 0, .ofNat 0, .ofNat 15) ∈ _ by decide) (show (0 : Int) ≤ ((s : Nat) : Int) by omega) (show ((s : Nat) : Int) ≤ 15 by omega))) (e 92 (b) (zin0 (show (92, 0, .ofNat 0, .ofNat 1) ∈ _ by decide) (show (0 : Int) ≤ ((b : Nat) : Int) by omega) (show ((b : Nat) : Int) ≤ 1 by omega))) (fun c hc => (e 119 (c) (zin0 (show (119, 0, .ofNat 0, .ofNat 19) ∈ _ by decide) (show (0 : Int) ≤ ((c : Nat) : Int) by omega) (show ((c : Nat) : Int) ≤ 19 by omega)))) (e 102 (80 * b + 5 * a + k) (zin0 (show (102, 0, .ofNat 0, .ofNat 159) ∈ _ by decide) (show (0 : Int) ≤ ((80 * b + 5 * a + k : Nat) : Int) by omega) (show ((80 * b + 5 * a + k : Nat) : Int) ≤ 159 by omega))) (q2 k hk hl)⟩
theorem zloc_4 : zLoc [(120, 0, .ofNat 0, .ofNat 15), (121, 0, .ofNat 0, .ofNat 15), (124, 0, .ofNat 0, .ofNat 15), (101, 0, .ofNat 0, .ofNat 31), (102, 0, .ofNat 0, .ofNat 159), (119, 0, .ofNat 0, .ofNat 19), (92, 0, .ofNat 0, .ofNat 1), (88, 0, .ofNat 4, .ofNat 4)] (zj4) := by
  rintro z w G G' e ⟨a, s, ha, hs, e1, e2, h⟩
  refine ⟨a, s, ha, hs, e1, e2, fun b hb hk => ?_⟩
  rw [zgv_eq (e 88 4 (zin0 (show (88, 0, .ofNat 4, .ofNat 4) ∈ _ by decide) (by decide) (by decide)))] at hk
  obtain ⟨q1, q2⟩ := h b hb hk
  rw [zgv_eq (e 101 (16 * b + a) (zin0 (show (101, 0, .ofNat 0, .ofNat 31) ∈ _ by decide) (show (0 : Int) ≤ ((16 * b + a : Nat) : Int) by omega) (show ((16 * b + a : Nat) : Int) ≤ 31 by omega))), zgv_eq (e 121 (s) (zin0 (show (121, 0, .ofNat 0, .ofNat 15) ∈ _ by decide) (show (0 : Int) ≤ ((s : Nat) : Int) by omega) (show ((s : Nat) : Int) ≤ 15 by omega)))]
  exact ⟨q1, fun k hk hl => zok_c (e 120 (s) (zin0 (show (120, 0, .ofNat 0, .ofNat 15) ∈ _ by decide) (show (0 : Int) ≤ ((s : Nat) : Int) by omega) (show ((s : Nat) : Int) ≤ 15 by omega))) (e 124 (s) (zin0 (show (124, 0, .ofNat 0, .ofNat 15) ∈ _ by decide) (show (0 : Int) ≤ ((s : Nat) : Int) by omega) (show ((s : Nat) : Int) ≤ 15 by omega))) (e 92 (b) (zin0 (show (92, 0, .ofNat 0, .ofNat 1) ∈ _ by decide) (show (0 : Int) ≤ ((b : Nat) : Int) by omega) (show ((b : Nat) : Int) ≤ 1 by omega))) (fun c hc => (e 119 (c) (zin0 (show (119, 0, .ofNat 0, .ofNat 19) ∈ _ by decide) (show (0 : Int) ≤ ((c : Nat) : Int) by omega) (show ((c : Nat) : Int) ≤ 19 by omega)))) (e 102 (80 * b + 5 * a + k) (zin0 (show (102, 0, .ofNat 0, .ofNat 159) ∈ _ by decide) (show (0 : Int) ≤ ((80 * b + 5 * a + k : Nat) : Int) by omega) (show ((80 * b + 5 * a + k : Nat) : Int) ≤ 159 by omega))) (q2 k hk hl)⟩
theorem zloc_5 : zLoc [(88, 0, .ofNat 12, .ofNat 12), (88, 0, .ofNat 39, .ofNat 39)] (fun _ _ G => zj5 G) := by
  intro z w G G' e h
  show 0 ≤ zgv G' 88 12 ∧ 0 ≤ zgv G' 88 39 ∧ zgv G' 88 12 + zgv G' 88 39 ≤ 40
  rw [zgv_eq (e 88 12 (zin0 (show (88, 0, .ofNat 12, .ofNat 12) ∈ _ by decide) (by decide) (by decide))), zgv_eq (e 88 39 (zin0 (show (88, 0, .ofNat 39, .ofNat 39) ∈ _ by decide) (by decide) (by decide)))]
  exact h
theorem zloc_6 : zLoc [] (fun z w _ => z + w ≤ 40) := fun z w G G' e h => h
theorem zloc_7 : zLoc [(121, 0, .ofNat 0, .ofNat 15), (101, 0, .ofNat 0, .ofNat 31), (102, 0, .ofNat 0, .ofNat 159), (94, 0, .ofNat 0, .ofNat 1), (88, 0, .ofNat 4, .ofNat 4)] (zj7) := by
  rintro z w G G' e ⟨a, s, ha, hs, e1, e2, h⟩
  refine ⟨a, s, ha, hs, e1, e2, fun b hb hk => ?_⟩
  rw [zgv_eq (e 88 4 (zin0 (show (88, 0, .ofNat 4, .ofNat 4) ∈ _ by decide) (by decide) (by decide)))] at hk
  obtain ⟨q1, q2⟩ := h b hb hk
  rw [zgv_eq (e 101 (16 * b + a) (zin0 (show (101, 0, .ofNat 0, .ofNat 31) ∈ _ by decide) (show (0 : Int) ≤ ((16 * b + a : Nat) : Int) by omega) (show ((16 * b + a : Nat) : Int) ≤ 31 by omega))), zgv_eq (e 121 (s) (zin0 (show (121, 0, .ofNat 0, .ofNat 15) ∈ _ by decide) (show (0 : Int) ≤ ((s : Nat) : Int) by omega) (show ((s : Nat) : Int) ≤ 15 by omega))), zgv_eq (e 94 (b) (zin0 (show (94, 0, .ofNat 0, .ofNat 1) ∈ _ by decide) (show (0 : Int) ≤ ((b : Nat) : Int) by omega) (show ((b : Nat) : Int) ≤ 1 by omega)))]
  refine ⟨q1, fun hn k hk hl => ?_⟩
  rw [zgv_eq (e 102 (80 * b + 5 * a + k) (zin0 (show (102, 0, .ofNat 0, .ofNat 159) ∈ _ by decide) (show (0 : Int) ≤ ((80 * b + 5 * a + k : Nat) : Int) by omega) (show ((80 * b + 5 * a + k : Nat) : Int) ≤ 159 by omega)))]
  exact q2 hn k hk hl
theorem zloc_8 : zLoc [(120, 3, .ofNat 0, .ofNat 0), (121, 3, .ofNat 0, .ofNat 0), (124, 3, .ofNat 0, .ofNat 0)] (fun z _ G => zj8 z G) := fun z w G G' e h s hs hn => zgeo_c (e _ _ (zin3 (show (120, 3, .ofNat 0, .ofNat 0) ∈ _ by decide) (show (0 : Int) ≤ ((s : Nat) : Int) by omega) hn)) (e _ _ (zin3 (show (121, 3, .ofNat 0, .ofNat 0) ∈ _ by decide) (show (0 : Int) ≤ ((s : Nat) : Int) by omega) hn)) (e _ _ (zin3 (show (124, 3, .ofNat 0, .ofNat 0) ∈ _ by decide) (show (0 : Int) ≤ ((s : Nat) : Int) by omega) hn)) (h s hs hn)
theorem zloc_9 : zLoc [(120, 0, .ofNat 0, .ofNat 15), (121, 0, .ofNat 0, .ofNat 15), (124, 0, .ofNat 0, .ofNat 15), (101, 0, .ofNat 0, .ofNat 31), (102, 0, .ofNat 0, .ofNat 159), (119, 0, .ofNat 0, .ofNat 19), (92, 0, .ofNat 0, .ofNat 1), (88, 0, .ofNat 4, .ofNat 4)] (zj9 0) := by
  rintro z w G G' e ⟨a, s, ha, hs, e1, e2, h⟩
  refine ⟨a, s, ha, hs, e1, e2, fun b hb hk k hj h5 => ?_⟩
  rw [zgv_eq (e 88 4 (zin0 (show (88, 0, .ofNat 4, .ofNat 4) ∈ _ by decide) (by decide) (by decide)))] at hk
  exact zok_c (e 120 (s) (zin0 (show (120, 0, .ofNat 0, .ofNat 15) ∈ _ by decide) (show (0 : Int) ≤ ((s : Nat) : Int) by omega) (show ((s : Nat) : Int) ≤ 15 by omega))) (e 124 (s) (zin0 (show (124, 0, .ofNat 0, .ofNat 15) ∈ _ by decide) (show (0 : Int) ≤ ((s : Nat) : Int) by omega) (show ((s : Nat) : Int) ≤ 15 by omega))) (e 92 (b) (zin0 (show (92, 0, .ofNat 0, .ofNat 1) ∈ _ by decide) (show (0 : Int) ≤ ((b : Nat) : Int) by omega) (show ((b : Nat) : Int) ≤ 1 by omega))) (fun c hc => (e 119 (c) (zin0 (show (119, 0, .ofNat 0, .ofNat 19) ∈ _ by decide) (show (0 : Int) ≤ ((c : Nat) : Int) by omega) (show ((c : Nat) : Int) ≤ 19 by omega)))) (e 102 (80 * b + 5 * a + k) (zin0 (show (102, 0, .ofNat 0, .ofNat 159) ∈ _ by decide) (show (0 : Int) ≤ ((80 * b + 5 * a + k : Nat) : Int) by omega) (show ((80 * b + 5 * a + k : Nat) : Int) ≤ 159 by omega))) (h b hb hk k hj h5)
theorem zloc_10 : zLoc [(120, 0, .ofNat 0, .ofNat 15), (121, 0, .ofNat 0, .ofNat 15), (124, 0, .ofNat 0, .ofNat 15), (101, 0, .ofNat 0, .ofNat 31), (102, 0, .ofNat 0, .ofNat 159), (119, 0, .ofNat 0, .ofNat 19), (92, 0, .ofNat 0, .ofNat 1), (88, 0, .ofNat 4, .ofNat 4)] (zj9 1) := by
  rintro z w G G' e ⟨a, s, ha, hs, e1, e2, h⟩
  refine ⟨a, s, ha, hs, e1, e2, fun b hb hk k hj h5 => ?_⟩
  rw [zgv_eq (e 88 4 (zin0 (show (88, 0, .ofNat 4, .ofNat 4) ∈ _ by decide) (by decide) (by decide)))] at hk
  exact zok_c (e 120 (s) (zin0 (show (120, 0, .ofNat 0, .ofNat 15) ∈ _ by decide) (show (0 : Int) ≤ ((s : Nat) : Int) by omega) (show ((s : Nat) : Int) ≤ 15 by omega))) (e 124 (s) (zin0 (show (124, 0, .ofNat 0, .ofNat 15) ∈ _ by decide) (show (0 : Int) ≤ ((s : Nat) : Int) by omega) (show ((s : Nat) : Int) ≤ 15 by omega))) (e 92 (b) (zin0 (show (92, 0, .ofNat 0, .ofNat 1) ∈ _ by decide) (show (0 : Int) ≤ ((b : Nat) : Int) by omega) (show ((b : Nat) : Int) ≤ 1 by omega))) (fun c hc => (e 119 (c) (zin0 (show (119, 0, .ofNat 0, .ofNat 19) ∈ _ by decide) (show (0 : Int) ≤ ((c : Nat) : Int) by omega) (show ((c : Nat) : Int) ≤ 19 by omega)))) (e 102 (80 * b + 5 * a + k) (zin0 (show (102, 0, .ofNat 0, .ofNat 159) ∈ _ by decide) (show (0 : Int) ≤ ((80 * b + 5 * a + k : Nat) : Int) by omega) (show ((80 * b + 5 * a + k : Nat) : Int) ≤ 159 by omega))) (h b hb hk k hj h5)
theorem zloc_11 : zLoc [(120, 0, .ofNat 0, .ofNat 15), (121, 0, .ofNat 0, .ofNat 15), (124, 0, .ofNat 0, .ofNat 15), (101, 0, .ofNat 0, .ofNat 31), (102, 0, .ofNat 0, .ofNat 159), (119, 0, .ofNat 0, .ofNat 19), (92, 0, .ofNat 0, .ofNat 1), (88, 0, .ofNat 4, .ofNat 4)] (zj9 2) := by
  rintro z w G G' e ⟨a, s, ha, hs, e1, e2, h⟩
  refine ⟨a, s, ha, hs, e1, e2, fun b hb hk k hj h5 => ?_⟩
  rw [zgv_eq (e 88 4 (zin0 (show (88, 0, .ofNat 4, .ofNat 4) ∈ _ by decide) (by decide) (by decide)))] at hk
  exact zok_c (e 120 (s) (zin0 (show (120, 0, .ofNat 0, .ofNat 15) ∈ _ by decide) (show (0 : Int) ≤ ((s : Nat) : Int) by omega) (show ((s : Nat) : Int) ≤ 15 by omega))) (e 124 (s) (zin0 (show (124, 0, .ofNat 0, .ofNat 15) ∈ _ by decide) (show (0 : Int) ≤ ((s : Nat) : Int) by omega) (show ((s : Nat) : Int) ≤ 15 by omega))) (e 92 (b) (zin0 (show (92, 0, .ofNat 0, .ofNat 1) ∈ _ by decide) (show (0 : Int) ≤ ((b : Nat) : Int) by omega) (show ((b : Nat) : Int) ≤ 1 by omega))) (fun c hc => (e 119 (c) (zin0 (show (119, 0, .ofNat 0, .ofNat 19) ∈ _ by decide) (show (0 : Int) ≤ ((c : Nat) : Int) by omega) (show ((c : Nat) : Int) ≤ 19 by omega)))) (e 102 (80 * b + 5 * a + k) (zin0 (show (102, 0, .ofNat 0, .ofNat 159) ∈ _ by decide) (show (0 : Int) ≤ ((80 * b + 5 * a + k : Nat) : Int) by omega) (show ((80 * b + 5 * a + k : Nat) : Int) ≤ 159 by omega))) (h b hb hk k hj h5)
theorem zloc_12 : zLoc [(120, 0, .ofNat 0, .ofNat 15), (121, 0, .ofNat 0, .ofNat 15), (124, 0, .ofNat 0, .ofNat 15), (101, 0, .ofNat 0, .ofNat 31), (102, 0, .ofNat 0, .ofNat 159), (119, 0, .ofNat 0, .ofNat 19), (92, 0, .ofNat 0, .ofNat 1), (88, 0, .ofNat 4, .ofNat 4)] (zj9 3) := by
  rintro z w G G' e ⟨a, s, ha, hs, e1, e2, h⟩
  refine ⟨a, s, ha, hs, e1, e2, fun b hb hk k hj h5 => ?_⟩
  rw [zgv_eq (e 88 4 (zin0 (show (88, 0, .ofNat 4, .ofNat 4) ∈ _ by decide) (by decide) (by decide)))] at hk
  exact zok_c (e 120 (s) (zin0 (show (120, 0, .ofNat 0, .ofNat 15) ∈ _ by decide) (show (0 : Int) ≤ ((s : Nat) : Int) by omega) (show ((s : Nat) : Int) ≤ 15 by omega))) (e 124 (s) (zin0 (show (124, 0, .ofNat 0, .ofNat 15) ∈ _ by decide) (show (0 : Int) ≤ ((s : Nat) : Int) by omega) (show ((s : Nat) : Int) ≤ 15 by omega))) (e 92 (b) (zin0 (show (92, 0, .ofNat 0, .ofNat 1) ∈ _ by decide) (show (0 : Int) ≤ ((b : Nat) : Int) by omega) (show ((b : Nat) : Int) ≤ 1 by omega))) (fun c hc => (e 119 (c) (zin0 (show (119, 0, .ofNat 0, .ofNat 19) ∈ _ by decide) (show (0 : Int) ≤ ((c : Nat) : Int) by omega) (show ((c : Nat) : Int) ≤ 19 by omega)))) (e 102 (80 * b + 5 * a + k) (zin0 (show (102, 0, .ofNat 0, .ofNat 159) ∈ _ by decide) (show (0 : Int) ≤ ((80 * b + 5 * a + k : Nat) : Int) by omega) (show ((80 * b + 5 * a + k : Nat) : Int) ≤ 159 by omega))) (h b hb hk k hj h5)
theorem zloc_13 : zLoc [(120, 0, .ofNat 0, .ofNat 15), (121, 0, .ofNat 0, .ofNat 15), (124, 0, .ofNat 0, .ofNat 15), (101, 0, .ofNat 0, .ofNat 31), (102, 0, .ofNat 0, .ofNat 159), (119, 0, .ofNat 0, .ofNat 19), (92, 0, .ofNat 0, .ofNat 1), (88, 0, .ofNat 4, .ofNat 4)] (zj9 4) := by
  rintro z w G G' e ⟨a, s, ha, hs, e1, e2, h⟩
  refine ⟨a, s, ha, hs, e1, e2, fun b hb hk k hj h5 => ?_⟩
  rw [zgv_eq (e 88 4 (zin0 (show (88, 0, .ofNat 4, .ofNat 4) ∈ _ by decide) (by decide) (by decide)))] at hk
  exact zok_c (e 120 (s) (zin0 (show (120, 0, .ofNat 0, .ofNat 15) ∈ _ by decide) (show (0 : Int) ≤ ((s : Nat) : Int) by omega) (show ((s : Nat) : Int) ≤ 15 by omega))) (e 124 (s) (zin0 (show (124, 0, .ofNat 0, .ofNat 15) ∈ _ by decide) (show (0 : Int) ≤ ((s : Nat) : Int) by omega) (show ((s : Nat) : Int) ≤ 15 by omega))) (e 92 (b) (zin0 (show (92, 0, .ofNat 0, .ofNat 1) ∈ _ by decide) (show (0 : Int) ≤ ((b : Nat) : Int) by omega) (show ((b : Nat) : Int) ≤ 1 by omega))) (fun c hc => (e 119 (c) (zin0 (show (119, 0, .ofNat 0, .ofNat 19) ∈ _ by decide) (show (0 : Int) ≤ ((c : Nat) : Int) by omega) (show ((c : Nat) : Int) ≤ 19 by omega)))) (e 102 (80 * b + 5 * a + k) (zin0 (show (102, 0, .ofNat 0, .ofNat 159) ∈ _ by decide) (show (0 : Int) ≤ ((80 * b + 5 * a + k : Nat) : Int) by omega) (show ((80 * b + 5 * a + k : Nat) : Int) ≤ 159 by omega))) (h b hb hk k hj h5)
theorem zloc_14 : zLoc [(120, 0, .ofNat 0, .ofNat 15), (121, 0, .ofNat 0, .ofNat 15), (124, 0, .ofNat 0, .ofNat 15), (101, 0, .ofNat 0, .ofNat 31), (102, 0, .ofNat 0, .ofNat 159), (119, 0, .ofNat 0, .ofNat 19), (92, 0, .ofNat 0, .ofNat 1), (88, 0, .ofNat 4, .ofNat 4)] (zj9 5) := by
  rintro z w G G' e ⟨a, s, ha, hs, e1, e2, h⟩
  refine ⟨a, s, ha, hs, e1, e2, fun b hb hk k hj h5 => ?_⟩
  rw [zgv_eq (e 88 4 (zin0 (show (88, 0, .ofNat 4, .ofNat 4) ∈ _ by decide) (by decide) (by decide)))] at hk
  exact zok_c (e 120 (s) (zin0 (show (120, 0, .ofNat 0, .ofNat 15) ∈ _ by decide) (show (0 : Int) ≤ ((s : Nat) : Int) by omega) (show ((s : Nat) : Int) ≤ 15 by omega))) (e 124 (s) (zin0 (show (124, 0, .ofNat 0, .ofNat 15) ∈ _ by decide) (show (0 : Int) ≤ ((s : Nat) : Int) by omega) (show ((s : Nat) : Int) ≤ 15 by omega))) (e 92 (b) (zin0 (show (92, 0, .ofNat 0, .ofNat 1) ∈ _ by decide) (show (0 : Int) ≤ ((b : Nat) : Int) by omega) (show ((b : Nat) : Int) ≤ 1 by omega))) (fun c hc => (e 119 (c) (zin0 (show (119, 0, .ofNat 0, .ofNat 19) ∈ _ by decide) (show (0 : Int) ≤ ((c : Nat) : Int) by omega) (show ((c : Nat) : Int) ≤ 19 by omega)))) (e 102 (80 * b + 5 * a + k) (zin0 (show (102, 0, .ofNat 0, .ofNat 159) ∈ _ by decide) (show (0 : Int) ≤ ((80 * b + 5 * a + k : Nat) : Int) by omega) (show ((80 * b + 5 * a + k : Nat) : Int) ≤ 159 by omega))) (h b hb hk k hj h5)
theorem zloc_15 : zLoc [(120, 0, .ofNat 0, .ofNat 15), (124, 0, .ofNat 0, .ofNat 15), (92, 0, .ofNat 0, .ofNat 1), (88, 0, .ofNat 4, .ofNat 4)] (zj15 0) := by
  rintro z w G G' e ⟨s, hs, e1, h⟩
  refine ⟨s, hs, e1, fun b hb hk => ?_⟩
  rw [zgv_eq (e 88 4 (zin0 (show (88, 0, .ofNat 4, .ofNat 4) ∈ _ by decide) (by decide) (by decide)))] at hk
  unfold zj_stp
  rw [zgv_eq (e 120 (s) (zin0 (show (120, 0, .ofNat 0, .ofNat 15) ∈ _ by decide) (show (0 : Int) ≤ ((s : Nat) : Int) by omega) (show ((s : Nat) : Int) ≤ 15 by omega))), zgv_eq (e 124 (s) (zin0 (show (124, 0, .ofNat 0, .ofNat 15) ∈ _ by decide) (show (0 : Int) ≤ ((s : Nat) : Int) by omega) (show ((s : Nat) : Int) ≤ 15 by omega))), zgv_eq (e 92 (b) (zin0 (show (92, 0, .ofNat 0, .ofNat 1) ∈ _ by decide) (show (0 : Int) ≤ ((b : Nat) : Int) by omega) (show ((b : Nat) : Int) ≤ 1 by omega)))]
  exact h b hb hk
theorem zloc_16 : zLoc [(120, 0, .ofNat 0, .ofNat 15), (124, 0, .ofNat 0, .ofNat 15), (92, 0, .ofNat 0, .ofNat 1), (88, 0, .ofNat 4, .ofNat 4)] (zj15 1) := by
  rintro z w G G' e ⟨s, hs, e1, h⟩
  refine ⟨s, hs, e1, fun b hb hk => ?_⟩
  rw [zgv_eq (e 88 4 (zin0 (show (88, 0, .ofNat 4, .ofNat 4) ∈ _ by decide) (by decide) (by decide)))] at hk
  unfold zj_stp
  rw [zgv_eq (e 120 (s) (zin0 (show (120, 0, .ofNat 0, .ofNat 15) ∈ _ by decide) (show (0 : Int) ≤ ((s : Nat) : Int) by omega) (show ((s : Nat) : Int) ≤ 15 by omega))), zgv_eq (e 124 (s) (zin0 (show (124, 0, .ofNat 0, .ofNat 15) ∈ _ by decide) (show (0 : Int) ≤ ((s : Nat) : Int) by omega) (show ((s : Nat) : Int) ≤ 15 by omega))), zgv_eq (e 92 (b) (zin0 (show (92, 0, .ofNat 0, .ofNat 1) ∈ _ by decide) (show (0 : Int) ≤ ((b : Nat) : Int) by omega) (show ((b : Nat) : Int) ≤ 1 by omega)))]
  exact h b hb hk
theorem zloc_17 : zLoc [(120, 0, .ofNat 0, .ofNat 15), (124, 0, .ofNat 0, .ofNat 15), (92, 0, .ofNat 0, .ofNat 1), (88, 0, .ofNat 4, .ofNat 4)] (zj15 2) := by
  rintro z w G G' e ⟨s, hs, e1, h⟩
  refine ⟨s, hs, e1, fun b hb hk => ?_⟩
  rw [zgv_eq (e 88 4 (zin0 (show (88, 0, .ofNat 4, .ofNat 4) ∈ _ by decide) (by decide) (by decide)))] at hk
  unfold zj_stp
  rw [zgv_eq (e 120 (s) (zin0 (show (120, 0, .ofNat 0, .ofNat 15) ∈ _ by decide) (show (0 : Int) ≤ ((s : Nat) : Int) by omega) (show ((s : Nat) : Int) ≤ 15 by omega))), zgv_eq (e 124 (s) (zin0 (show (124, 0, .ofNat 0, .ofNat 15) ∈ _ by decide) (show (0 : Int) ≤ ((s : Nat) : Int) by omega) (show ((s : Nat) : Int) ≤ 15 by omega))), zgv_eq (e 92 (b) (zin0 (show (92, 0, .ofNat 0, .ofNat 1) ∈ _ by decide) (show (0 : Int) ≤ ((b : Nat) : Int) by omega) (show ((b : Nat) : Int) ≤ 1 by omega)))]
  exact h b hb hk
theorem zloc_18 : zLoc [(120, 0, .ofNat 0, .ofNat 15), (124, 0, .ofNat 0, .ofNat 15), (92, 0, .ofNat 0, .ofNat 1), (88, 0, .ofNat 4, .ofNat 4)] (zj15 3) := by
  rintro z w G G' e ⟨s, hs, e1, h⟩
  refine ⟨s, hs, e1, fun b hb hk => ?_⟩
  rw [zgv_eq (e 88 4 (zin0 (show (88, 0, .ofNat 4, .ofNat 4) ∈ _ by decide) (by decide) (by decide)))] at hk
  unfold zj_stp
  rw [zgv_eq (e 120 (s) (zin0 (show (120, 0, .ofNat 0, .ofNat 15) ∈ _ by decide) (show (0 : Int) ≤ ((s : Nat) : Int) by omega) (show ((s : Nat) : Int) ≤ 15 by omega))), zgv_eq (e 124 (s) (zin0 (show (124, 0, .ofNat 0, .ofNat 15) ∈ _ by decide) (show (0 : Int) ≤ ((s : Nat) : Int) by omega) (show ((s : Nat) : Int) ≤ 15 by omega))), zgv_eq (e 92 (b) (zin0 (show (92, 0, .ofNat 0, .ofNat 1) ∈ _ by decide) (show (0 : Int) ≤ ((b : Nat) : Int) by omega) (show ((b : Nat) : Int) ≤ 1 by omega)))]
  exact h b hb hk
theorem zloc_19 : zLoc [(120, 0, .ofNat 0, .ofNat 15), (124, 0, .ofNat 0, .ofNat 15), (92, 0, .ofNat 0, .ofNat 1), (88, 0, .ofNat 4, .ofNat 4)] (zj15 4) := by
  rintro z w G G' e ⟨s, hs, e1, h⟩
  refine ⟨s, hs, e1, fun b hb hk => ?_⟩
  rw [zgv_eq (e 88 4 (zin0 (show (88, 0, .ofNat 4, .ofNat 4) ∈ _ by decide) (by decide) (by decide)))] at hk
  unfold zj_stp
  rw [zgv_eq (e 120 (s) (zin0 (show (120, 0, .ofNat 0, .ofNat 15) ∈ _ by decide) (show (0 : Int) ≤ ((s : Nat) : Int) by omega) (show ((s : Nat) : Int) ≤ 15 by omega))), zgv_eq (e 124 (s) (zin0 (show (124, 0, .ofNat 0, .ofNat 15) ∈ _ by decide) (show (0 : Int) ≤ ((s : Nat) : Int) by omega) (show ((s : Nat) : Int) ≤ 15 by omega))), zgv_eq (e 92 (b) (zin0 (show (92, 0, .ofNat 0, .ofNat 1) ∈ _ by decide) (show (0 : Int) ≤ ((b : Nat) : Int) by omega) (show ((b : Nat) : Int) ≤ 1 by omega)))]
  exact h b hb hk
theorem zloc_20 : zLoc [(102, 0, .ofNat 0, .ofNat 159), (88, 0, .ofNat 4, .ofNat 4)] (zj20 0) := by
  rintro z w G G' e ⟨a, ha, e1, h⟩
  refine ⟨a, ha, e1, fun b hb hk => ?_⟩
  rw [zgv_eq (e 88 4 (zin0 (show (88, 0, .ofNat 4, .ofNat 4) ∈ _ by decide) (by decide) (by decide)))] at hk
  rw [(e 102 (80 * b + 5 * a + 0) (zin0 (show (102, 0, .ofNat 0, .ofNat 159) ∈ _ by decide) (show (0 : Int) ≤ ((80 * b + 5 * a + 0 : Nat) : Int) by omega) (show ((80 * b + 5 * a + 0 : Nat) : Int) ≤ 159 by omega)))]
  exact h b hb hk
theorem zloc_21 : zLoc [(102, 0, .ofNat 0, .ofNat 159), (88, 0, .ofNat 4, .ofNat 4)] (zj20 1) := by
  rintro z w G G' e ⟨a, ha, e1, h⟩
  refine ⟨a, ha, e1, fun b hb hk => ?_⟩
  rw [zgv_eq (e 88 4 (zin0 (show (88, 0, .ofNat 4, .ofNat 4) ∈ _ by decide) (by decide) (by decide)))] at hk
  rw [(e 102 (80 * b + 5 * a + 1) (zin0 (show (102, 0, .ofNat 0, .ofNat 159) ∈ _ by decide) (show (0 : Int) ≤ ((80 * b + 5 * a + 1 : Nat) : Int) by omega) (show ((80 * b + 5 * a + 1 : Nat) : Int) ≤ 159 by omega)))]
  exact h b hb hk
theorem zloc_22 : zLoc [(102, 0, .ofNat 0, .ofNat 159), (88, 0, .ofNat 4, .ofNat 4)] (zj20 2) := by
  rintro z w G G' e ⟨a, ha, e1, h⟩
  refine ⟨a, ha, e1, fun b hb hk => ?_⟩
  rw [zgv_eq (e 88 4 (zin0 (show (88, 0, .ofNat 4, .ofNat 4) ∈ _ by decide) (by decide) (by decide)))] at hk
  rw [(e 102 (80 * b + 5 * a + 2) (zin0 (show (102, 0, .ofNat 0, .ofNat 159) ∈ _ by decide) (show (0 : Int) ≤ ((80 * b + 5 * a + 2 : Nat) : Int) by omega) (show ((80 * b + 5 * a + 2 : Nat) : Int) ≤ 159 by omega)))]
  exact h b hb hk
theorem zloc_23 : zLoc [(102, 0, .ofNat 0, .ofNat 159), (88, 0, .ofNat 4, .ofNat 4)] (zj20 3) := by
  rintro z w G G' e ⟨a, ha, e1, h⟩
  refine ⟨a, ha, e1, fun b hb hk => ?_⟩
  rw [zgv_eq (e 88 4 (zin0 (show (88, 0, .ofNat 4, .ofNat 4) ∈ _ by decide) (by decide) (by decide)))] at hk
  rw [(e 102 (80 * b + 5 * a + 3) (zin0 (show (102, 0, .ofNat 0, .ofNat 159) ∈ _ by decide) (show (0 : Int) ≤ ((80 * b + 5 * a + 3 : Nat) : Int) by omega) (show ((80 * b + 5 * a + 3 : Nat) : Int) ≤ 159 by omega)))]
  exact h b hb hk
theorem zloc_24 : zLoc [(102, 0, .ofNat 0, .ofNat 159), (88, 0, .ofNat 4, .ofNat 4)] (zj20 4) := by
  rintro z w G G' e ⟨a, ha, e1, h⟩
  refine ⟨a, ha, e1, fun b hb hk => ?_⟩
  rw [zgv_eq (e 88 4 (zin0 (show (88, 0, .ofNat 4, .ofNat 4) ∈ _ by decide) (by decide) (by decide)))] at hk
  rw [(e 102 (80 * b + 5 * a + 4) (zin0 (show (102, 0, .ofNat 0, .ofNat 159) ∈ _ by decide) (show (0 : Int) ≤ ((80 * b + 5 * a + 4 : Nat) : Int) by omega) (show ((80 * b + 5 * a + 4 : Nat) : Int) ≤ 159 by omega)))]
  exact h b hb hk
theorem zloc_25 : zLoc [(101, 0, .ofNat 0, .ofNat 15), (102, 0, .ofNat 0, .ofNat 79)] (fun z _ G => zj_let G 0 z) := fun z w G G' e h => zlet_c (fun a ha _ => (e 101 (16 * 0 + a) (zin0 (show (101, 0, .ofNat 0, .ofNat 15) ∈ _ by decide) (show (0 : Int) ≤ ((16 * 0 + a : Nat) : Int) by omega) (show ((16 * 0 + a : Nat) : Int) ≤ 15 by omega)))) (fun a k ha _ hk => (e 102 (80 * 0 + 5 * a + k) (zin0 (show (102, 0, .ofNat 0, .ofNat 79) ∈ _ by decide) (show (0 : Int) ≤ ((80 * 0 + 5 * a + k : Nat) : Int) by omega) (show ((80 * 0 + 5 * a + k : Nat) : Int) ≤ 79 by omega)))) h
theorem zloc_26 : zLoc [(101, 0, .ofNat 16, .ofNat 31), (102, 0, .ofNat 80, .ofNat 159)] (fun z _ G => zj_let G 1 z) := fun z w G G' e h => zlet_c (fun a ha _ => (e 101 (16 * 1 + a) (zin0 (show (101, 0, .ofNat 16, .ofNat 31) ∈ _ by decide) (show (16 : Int) ≤ ((16 * 1 + a : Nat) : Int) by omega) (show ((16 * 1 + a : Nat) : Int) ≤ 31 by omega)))) (fun a k ha _ hk => (e 102 (80 * 1 + 5 * a + k) (zin0 (show (102, 0, .ofNat 80, .ofNat 159) ∈ _ by decide) (show (80 : Int) ≤ ((80 * 1 + 5 * a + k : Nat) : Int) by omega) (show ((80 * 1 + 5 * a + k : Nat) : Int) ≤ 159 by omega)))) h
theorem zloc_27 : zLoc [(114, 0, .ofNat 0, .ofNat 559), (109, 0, .ofNat 0, .ofNat 0), (110, 0, .ofNat 0, .ofNat 0), (111, 0, .ofNat 0, .ofNat 0)] (fun _ _ G => zj_rul G 0) := fun z w G G' e h => zrul_c (e 111 (0) (zin0 (show (111, 0, .ofNat 0, .ofNat 0) ∈ _ by decide) (show (0 : Int) ≤ ((0 : Nat) : Int) by omega) (show ((0 : Nat) : Int) ≤ 0 by omega))) (e 109 (0) (zin0 (show (109, 0, .ofNat 0, .ofNat 0) ∈ _ by decide) (show (0 : Int) ≤ ((0 : Nat) : Int) by omega) (show ((0 : Nat) : Int) ≤ 0 by omega))) (e 110 (0) (zin0 (show (110, 0, .ofNat 0, .ofNat 0) ∈ _ by decide) (show (0 : Int) ≤ ((0 : Nat) : Int) by omega) (show ((0 : Nat) : Int) ≤ 0 by omega))) (fun i hi => (e 114 (560 * 0 + i) (zin0 (show (114, 0, .ofNat 0, .ofNat 559) ∈ _ by decide) (show (0 : Int) ≤ ((560 * 0 + i : Nat) : Int) by omega) (show ((560 * 0 + i : Nat) : Int) ≤ 559 by omega)))) h
theorem zloc_28 : zLoc [(114, 0, .ofNat 560, .ofNat 1119), (109, 0, .ofNat 1, .ofNat 1), (110, 0, .ofNat 1, .ofNat 1), (111, 0, .ofNat 1, .ofNat 1)] (fun _ _ G => zj_rul G 1) := fun z w G G' e h => zrul_c (e 111 (1) (zin0 (show (111, 0, .ofNat 1, .ofNat 1) ∈ _ by decide) (show (1 : Int) ≤ ((1 : Nat) : Int) by omega) (show ((1 : Nat) : Int) ≤ 1 by omega))) (e 109 (1) (zin0 (show (109, 0, .ofNat 1, .ofNat 1) ∈ _ by decide) (show (1 : Int) ≤ ((1 : Nat) : Int) by omega) (show ((1 : Nat) : Int) ≤ 1 by omega))) (e 110 (1) (zin0 (show (110, 0, .ofNat 1, .ofNat 1) ∈ _ by decide) (show (1 : Int) ≤ ((1 : Nat) : Int) by omega) (show ((1 : Nat) : Int) ≤ 1 by omega))) (fun i hi => (e 114 (560 * 1 + i) (zin0 (show (114, 0, .ofNat 560, .ofNat 1119) ∈ _ by decide) (show (560 : Int) ≤ ((560 * 1 + i : Nat) : Int) by omega) (show ((560 * 1 + i : Nat) : Int) ≤ 1119 by omega)))) h
theorem zloc_29 : zLoc [(88, 0, .ofNat 9, .ofNat 9), (88, 0, .ofNat 25, .ofNat 25), (90, 4, .ofNat 0, .ofNat 0)] (zj29) := by
  intro z w G G' e h
  show 0 ≤ z ∧ w ≤ zgv G' 88 25 ∧ (zgv G' 88 9 = 0 → z = zgv G' 88 25 ∧ w = zgv G' 88 25) ∧ (1 ≤ zgv G' 88 9 → z + 1 ≤ w) ∧ (zgv G' 88 9 = 2 → ∀ j : Nat, z ≤ (j : Int) → (j : Int) < w → 97 ≤ zgv G' 90 j ∧ zgv G' 90 j ≤ 122)
  rw [zgv_eq (e 88 25 (zin0 (show (88, 0, .ofNat 25, .ofNat 25) ∈ _ by decide) (by decide) (by decide))), zgv_eq (e 88 9 (zin0 (show (88, 0, .ofNat 9, .ofNat 9) ∈ _ by decide) (by decide) (by decide)))]
  obtain ⟨h1, h2, h3, h4, h5⟩ := h
  refine ⟨h1, h2, h3, h4, fun ht j hj hw => ?_⟩
  rw [zgv_eq (e _ _ (zin4 (show (90, 4, .ofNat 0, .ofNat 0) ∈ _ by decide) (show (0 : Int) ≤ ((j : Nat) : Int) by omega) (by assumption) (by assumption)))]
  exact h5 ht j hj hw
theorem zloc_30 : zLoc [(88, 0, .ofNat 30, .ofNat 30), (88, 0, .ofNat 7, .ofNat 7), (88, 0, .ofNat 65, .ofNat 65), (88, 0, .ofNat 38, .ofNat 38), (88, 0, .ofNat 0, .ofNat 0), (116, 0, .ofNat 0, .ofNat 89), (117, 0, .ofNat 0, .ofNat 89), (114, 0, .ofNat 0, .ofNat 1119)] (fun _ _ G => zjK G 1 (zgv G 88 30) (zgv G 88 7) (zgv G 88 65) (zgv G 88 38)) := by
  rintro z w G G' e ⟨r, h1, h2, h⟩
  have hlt := zKp_lt h
  show zjK G' 1 (zgv G' 88 30) (zgv G' 88 7) (zgv G' 88 65) (zgv G' 88 38)
  rw [zgv_eq (e 88 30 (zin0 (show (88, 0, .ofNat 30, .ofNat 30) ∈ _ by decide) (by decide) (by decide))), zgv_eq (e 88 7 (zin0 (show (88, 0, .ofNat 7, .ofNat 7) ∈ _ by decide) (by decide) (by decide))), zgv_eq (e 88 65 (zin0 (show (88, 0, .ofNat 65, .ofNat 65) ∈ _ by decide) (by decide) (by decide))), zgv_eq (e 88 38 (zin0 (show (88, 0, .ofNat 38, .ofNat 38) ∈ _ by decide) (by decide) (by decide)))]
  exact ⟨r, h1, by rw [zgv_eq (e 88 0 (zin0 (show (88, 0, .ofNat 0, .ofNat 0) ∈ _ by decide) (by decide) (by decide)))]; exact h2, zKp_c (fun i hi => (e 116 (i) (zin0 (show (116, 0, .ofNat 0, .ofNat 89) ∈ _ by decide) (show (0 : Int) ≤ ((i : Nat) : Int) by omega) (show ((i : Nat) : Int) ≤ 89 by omega)))) (fun i hi => (e 117 (i) (zin0 (show (117, 0, .ofNat 0, .ofNat 89) ∈ _ by decide) (show (0 : Int) ≤ ((i : Nat) : Int) by omega) (show ((i : Nat) : Int) ≤ 89 by omega)))) (fun i hi => (e 114 (i) (zin0 (show (114, 0, .ofNat 0, .ofNat 1119) ∈ _ by decide) (show (0 : Int) ≤ ((i : Nat) : Int) by omega) (show ((i : Nat) : Int) ≤ 1119 by omega)))) h⟩
theorem zloc_31 : zLoc [(88, 0, .ofNat 30, .ofNat 30), (88, 0, .ofNat 7, .ofNat 7), (88, 0, .ofNat 65, .ofNat 65), (88, 0, .ofNat 38, .ofNat 38), (88, 0, .ofNat 0, .ofNat 0), (116, 0, .ofNat 0, .ofNat 89), (117, 0, .ofNat 0, .ofNat 89), (114, 0, .ofNat 0, .ofNat 1119)] (fun _ _ G => zgv G 88 65 ≤ 30 ∧ zjK G 1 (zgv G 88 30) (zgv G 88 7) (zgv G 88 65 - 1) (zgv G 88 38)) := by
  rintro z w G G' e ⟨hu, r, h1, h2, h⟩
  have hlt := zKp_lt h
  show zgv G' 88 65 ≤ 30 ∧ zjK G' 1 (zgv G' 88 30) (zgv G' 88 7) (zgv G' 88 65 - 1) (zgv G' 88 38)
  rw [zgv_eq (e 88 30 (zin0 (show (88, 0, .ofNat 30, .ofNat 30) ∈ _ by decide) (by decide) (by decide))), zgv_eq (e 88 7 (zin0 (show (88, 0, .ofNat 7, .ofNat 7) ∈ _ by decide) (by decide) (by decide))), zgv_eq (e 88 65 (zin0 (show (88, 0, .ofNat 65, .ofNat 65) ∈ _ by decide) (by decide) (by decide))), zgv_eq (e 88 38 (zin0 (show (88, 0, .ofNat 38, .ofNat 38) ∈ _ by decide) (by decide) (by decide)))]
  exact ⟨hu, ⟨r, h1, by rw [zgv_eq (e 88 0 (zin0 (show (88, 0, .ofNat 0, .ofNat 0) ∈ _ by decide) (by decide) (by decide)))]; exact h2, zKp_c (fun i hi => (e 116 (i) (zin0 (show (116, 0, .ofNat 0, .ofNat 89) ∈ _ by decide) (show (0 : Int) ≤ ((i : Nat) : Int) by omega) (show ((i : Nat) : Int) ≤ 89 by omega)))) (fun i hi => (e 117 (i) (zin0 (show (117, 0, .ofNat 0, .ofNat 89) ∈ _ by decide) (show (0 : Int) ≤ ((i : Nat) : Int) by omega) (show ((i : Nat) : Int) ≤ 89 by omega)))) (fun i hi => (e 114 (i) (zin0 (show (114, 0, .ofNat 0, .ofNat 1119) ∈ _ by decide) (show (0 : Int) ≤ ((i : Nat) : Int) by omega) (show ((i : Nat) : Int) ≤ 1119 by omega)))) h⟩⟩
theorem zloc_32 : zLoc [(88, 0, .ofNat 30, .ofNat 30), (88, 0, .ofNat 7, .ofNat 7), (88, 0, .ofNat 65, .ofNat 65), (88, 0, .ofNat 38, .ofNat 38), (88, 0, .ofNat 0, .ofNat 0), (116, 0, .ofNat 0, .ofNat 89), (117, 0, .ofNat 0, .ofNat 89), (114, 0, .ofNat 0, .ofNat 1119)] (fun _ _ G => zjK G 0 (zgv G 88 30) (zgv G 88 7) (zgv G 88 65) (zgv G 88 38)) := by
  rintro z w G G' e ⟨r, h1, h2, h⟩
  have hlt := zKp_lt h
  show zjK G' 0 (zgv G' 88 30) (zgv G' 88 7) (zgv G' 88 65) (zgv G' 88 38)
  rw [zgv_eq (e 88 30 (zin0 (show (88, 0, .ofNat 30, .ofNat 30) ∈ _ by decide) (by decide) (by decide))), zgv_eq (e 88 7 (zin0 (show (88, 0, .ofNat 7, .ofNat 7) ∈ _ by decide) (by decide) (by decide))), zgv_eq (e 88 65 (zin0 (show (88, 0, .ofNat 65, .ofNat 65) ∈ _ by decide) (by decide) (by decide))), zgv_eq (e 88 38 (zin0 (show (88, 0, .ofNat 38, .ofNat 38) ∈ _ by decide) (by decide) (by decide)))]
  exact ⟨r, h1, by rw [zgv_eq (e 88 0 (zin0 (show (88, 0, .ofNat 0, .ofNat 0) ∈ _ by decide) (by decide) (by decide)))]; exact h2, zKp_c (fun i hi => (e 116 (i) (zin0 (show (116, 0, .ofNat 0, .ofNat 89) ∈ _ by decide) (show (0 : Int) ≤ ((i : Nat) : Int) by omega) (show ((i : Nat) : Int) ≤ 89 by omega)))) (fun i hi => (e 117 (i) (zin0 (show (117, 0, .ofNat 0, .ofNat 89) ∈ _ by decide) (show (0 : Int) ≤ ((i : Nat) : Int) by omega) (show ((i : Nat) : Int) ≤ 89 by omega)))) (fun i hi => (e 114 (i) (zin0 (show (114, 0, .ofNat 0, .ofNat 1119) ∈ _ by decide) (show (0 : Int) ≤ ((i : Nat) : Int) by omega) (show ((i : Nat) : Int) ≤ 1119 by omega)))) h⟩
theorem zloc_33 : zLoc [(88, 0, .ofNat 30, .ofNat 30), (88, 0, .ofNat 7, .ofNat 7), (88, 0, .ofNat 38, .ofNat 38), (88, 0, .ofNat 0, .ofNat 0), (116, 0, .ofNat 0, .ofNat 89), (117, 0, .ofNat 0, .ofNat 89), (114, 0, .ofNat 0, .ofNat 1119)] (fun z _ G => zjK G 1 (zgv G 88 30) (zgv G 88 7) z (zgv G 88 38)) := by
  rintro z w G G' e ⟨r, h1, h2, h⟩
  have hlt := zKp_lt h
  show zjK G' 1 (zgv G' 88 30) (zgv G' 88 7) z (zgv G' 88 38)
  rw [zgv_eq (e 88 30 (zin0 (show (88, 0, .ofNat 30, .ofNat 30) ∈ _ by decide) (by decide) (by decide))), zgv_eq (e 88 7 (zin0 (show (88, 0, .ofNat 7, .ofNat 7) ∈ _ by decide) (by decide) (by decide))), zgv_eq (e 88 38 (zin0 (show (88, 0, .ofNat 38, .ofNat 38) ∈ _ by decide) (by decide) (by decide)))]
  exact ⟨r, h1, by rw [zgv_eq (e 88 0 (zin0 (show (88, 0, .ofNat 0, .ofNat 0) ∈ _ by decide) (by decide) (by decide)))]; exact h2, zKp_c (fun i hi => (e 116 (i) (zin0 (show (116, 0, .ofNat 0, .ofNat 89) ∈ _ by decide) (show (0 : Int) ≤ ((i : Nat) : Int) by omega) (show ((i : Nat) : Int) ≤ 89 by omega)))) (fun i hi => (e 117 (i) (zin0 (show (117, 0, .ofNat 0, .ofNat 89) ∈ _ by decide) (show (0 : Int) ≤ ((i : Nat) : Int) by omega) (show ((i : Nat) : Int) ≤ 89 by omega)))) (fun i hi => (e 114 (i) (zin0 (show (114, 0, .ofNat 0, .ofNat 1119) ∈ _ by decide) (show (0 : Int) ≤ ((i : Nat) : Int) by omega) (show ((i : Nat) : Int) ≤ 1119 by omega)))) h⟩
theorem zloc_34 : zLoc [(88, 0, .ofNat 30, .ofNat 30), (88, 0, .ofNat 65, .ofNat 65), (88, 0, .ofNat 0, .ofNat 0), (116, 1, .ofNat 0, .ofNat 0), (117, 1, .ofNat 0, .ofNat 0), (114, 0, .ofNat 0, .ofNat 1119)] (fun z w G => zjK G 1 (zgv G 88 30) z (zgv G 88 65) w) := by
  rintro z w G G' e ⟨r, h1, h2, h⟩
  have hlt := zKp_lt h
  show zjK G' 1 (zgv G' 88 30) z (zgv G' 88 65) w
  rw [zgv_eq (e 88 30 (zin0 (show (88, 0, .ofNat 30, .ofNat 30) ∈ _ by decide) (by decide) (by decide))), zgv_eq (e 88 65 (zin0 (show (88, 0, .ofNat 65, .ofNat 65) ∈ _ by decide) (by decide) (by decide)))]
  exact ⟨r, h1, by rw [zgv_eq (e 88 0 (zin0 (show (88, 0, .ofNat 0, .ofNat 0) ∈ _ by decide) (by decide) (by decide)))]; exact h2, zKp_c (fun i hi => (e _ _ (zin1 (show (116, 1, .ofNat 0, .ofNat 0) ∈ _ by decide) (show (0 : Int) ≤ ((i : Nat) : Int) by omega) (show ((i : Nat) : Int) < _ by omega)))) (fun i hi => (e _ _ (zin1 (show (117, 1, .ofNat 0, .ofNat 0) ∈ _ by decide) (show (0 : Int) ≤ ((i : Nat) : Int) by omega) (show ((i : Nat) : Int) < _ by omega)))) (fun i hi => (e 114 (i) (zin0 (show (114, 0, .ofNat 0, .ofNat 1119) ∈ _ by decide) (show (0 : Int) ≤ ((i : Nat) : Int) by omega) (show ((i : Nat) : Int) ≤ 1119 by omega)))) h⟩
theorem zloc_35 : zLoc [(88, 0, .ofNat 7, .ofNat 7), (88, 0, .ofNat 65, .ofNat 65), (88, 0, .ofNat 38, .ofNat 38), (88, 0, .ofNat 0, .ofNat 0), (116, 0, .ofNat 0, .ofNat 89), (117, 0, .ofNat 0, .ofNat 89), (114, 1, .ofNat 0, .ofNat 0)] (fun z _ G => zgv G 88 65 ≤ 30 ∧ zjK G 1 z (zgv G 88 7) (zgv G 88 65 - 1) (zgv G 88 38)) := by
  rintro z w G G' e ⟨hu, r, h1, h2, h⟩
  have hlt := zKp_lt h
  show zgv G' 88 65 ≤ 30 ∧ zjK G' 1 z (zgv G' 88 7) (zgv G' 88 65 - 1) (zgv G' 88 38)
  rw [zgv_eq (e 88 7 (zin0 (show (88, 0, .ofNat 7, .ofNat 7) ∈ _ by decide) (by decide) (by decide))), zgv_eq (e 88 65 (zin0 (show (88, 0, .ofNat 65, .ofNat 65) ∈ _ by decide) (by decide) (by decide))), zgv_eq (e 88 38 (zin0 (show (88, 0, .ofNat 38, .ofNat 38) ∈ _ by decide) (by decide) (by decide)))]
  exact ⟨hu, ⟨r, h1, by rw [zgv_eq (e 88 0 (zin0 (show (88, 0, .ofNat 0, .ofNat 0) ∈ _ by decide) (by decide) (by decide)))]; exact h2, zKp_c (fun i hi => (e 116 (i) (zin0 (show (116, 0, .ofNat 0, .ofNat 89) ∈ _ by decide) (show (0 : Int) ≤ ((i : Nat) : Int) by omega) (show ((i : Nat) : Int) ≤ 89 by omega)))) (fun i hi => (e 117 (i) (zin0 (show (117, 0, .ofNat 0, .ofNat 89) ∈ _ by decide) (show (0 : Int) ≤ ((i : Nat) : Int) by omega) (show ((i : Nat) : Int) ≤ 89 by omega)))) (fun i hi => (e _ _ (zin1 (show (114, 1, .ofNat 0, .ofNat 0) ∈ _ by decide) (show (0 : Int) ≤ ((i : Nat) : Int) by omega) (show ((i : Nat) : Int) < _ by omega)))) h⟩⟩
theorem zloc_36 : zLoc [(88, 0, .ofNat 30, .ofNat 30), (88, 0, .ofNat 7, .ofNat 7), (88, 0, .ofNat 65, .ofNat 65), (88, 0, .ofNat 38, .ofNat 38), (88, 0, .ofNat 0, .ofNat 0), (116, 0, .ofNat 0, .ofNat 89), (117, 0, .ofNat 0, .ofNat 89), (114, 0, .ofNat 0, .ofNat 1119)] (fun _ _ G => zjK G 0 (zgv G 88 30) (zgv G 88 7 + 1) (zgv G 88 65) (zgv G 88 38)) := by
  rintro z w G G' e ⟨r, h1, h2, h⟩
  have hlt := zKp_lt h
  show zjK G' 0 (zgv G' 88 30) (zgv G' 88 7 + 1) (zgv G' 88 65) (zgv G' 88 38)
  rw [zgv_eq (e 88 30 (zin0 (show (88, 0, .ofNat 30, .ofNat 30) ∈ _ by decide) (by decide) (by decide))), zgv_eq (e 88 7 (zin0 (show (88, 0, .ofNat 7, .ofNat 7) ∈ _ by decide) (by decide) (by decide))), zgv_eq (e 88 65 (zin0 (show (88, 0, .ofNat 65, .ofNat 65) ∈ _ by decide) (by decide) (by decide))), zgv_eq (e 88 38 (zin0 (show (88, 0, .ofNat 38, .ofNat 38) ∈ _ by decide) (by decide) (by decide)))]
  exact ⟨r, h1, by rw [zgv_eq (e 88 0 (zin0 (show (88, 0, .ofNat 0, .ofNat 0) ∈ _ by decide) (by decide) (by decide)))]; exact h2, zKp_c (fun i hi => (e 116 (i) (zin0 (show (116, 0, .ofNat 0, .ofNat 89) ∈ _ by decide) (show (0 : Int) ≤ ((i : Nat) : Int) by omega) (show ((i : Nat) : Int) ≤ 89 by omega)))) (fun i hi => (e 117 (i) (zin0 (show (117, 0, .ofNat 0, .ofNat 89) ∈ _ by decide) (show (0 : Int) ≤ ((i : Nat) : Int) by omega) (show ((i : Nat) : Int) ≤ 89 by omega)))) (fun i hi => (e 114 (i) (zin0 (show (114, 0, .ofNat 0, .ofNat 1119) ∈ _ by decide) (show (0 : Int) ≤ ((i : Nat) : Int) by omega) (show ((i : Nat) : Int) ≤ 1119 by omega)))) h⟩
theorem zloc_37 : zLoc [(88, 0, .ofNat 30, .ofNat 30), (88, 0, .ofNat 7, .ofNat 7), (88, 0, .ofNat 65, .ofNat 65), (88, 0, .ofNat 38, .ofNat 38), (88, 0, .ofNat 0, .ofNat 0), (116, 0, .ofNat 0, .ofNat 89), (117, 0, .ofNat 0, .ofNat 89), (114, 0, .ofNat 0, .ofNat 1119)] (fun _ _ G => zjK G 0 (zgv G 88 30) (zgv G 88 7 + 1) (zgv G 88 65) (zgv G 88 38 + 1)) := by
  rintro z w G G' e ⟨r, h1, h2, h⟩
  have hlt := zKp_lt h
  show zjK G' 0 (zgv G' 88 30) (zgv G' 88 7 + 1) (zgv G' 88 65) (zgv G' 88 38 + 1)
  rw [zgv_eq (e 88 30 (zin0 (show (88, 0, .ofNat 30, .ofNat 30) ∈ _ by decide) (by decide) (by decide))), zgv_eq (e 88 7 (zin0 (show (88, 0, .ofNat 7, .ofNat 7) ∈ _ by decide) (by decide) (by decide))), zgv_eq (e 88 65 (zin0 (show (88, 0, .ofNat 65, .ofNat 65) ∈ _ by decide) (by decide) (by decide))), zgv_eq (e 88 38 (zin0 (show (88, 0, .ofNat 38, .ofNat 38) ∈ _ by decide) (by decide) (by decide)))]
  exact ⟨r, h1, by rw [zgv_eq (e 88 0 (zin0 (show (88, 0, .ofNat 0, .ofNat 0) ∈ _ by decide) (by decide) (by decide)))]; exact h2, zKp_c (fun i hi => (e 116 (i) (zin0 (show (116, 0, .ofNat 0, .ofNat 89) ∈ _ by decide) (show (0 : Int) ≤ ((i : Nat) : Int) by omega) (show ((i : Nat) : Int) ≤ 89 by omega)))) (fun i hi => (e 117 (i) (zin0 (show (117, 0, .ofNat 0, .ofNat 89) ∈ _ by decide) (show (0 : Int) ≤ ((i : Nat) : Int) by omega) (show ((i : Nat) : Int) ≤ 89 by omega)))) (fun i hi => (e 114 (i) (zin0 (show (114, 0, .ofNat 0, .ofNat 1119) ∈ _ by decide) (show (0 : Int) ≤ ((i : Nat) : Int) by omega) (show ((i : Nat) : Int) ≤ 1119 by omega)))) h⟩
theorem zloc_38 : zLoc [(88, 0, .ofNat 30, .ofNat 30), (88, 0, .ofNat 65, .ofNat 65), (88, 0, .ofNat 38, .ofNat 38), (88, 0, .ofNat 0, .ofNat 0), (116, 1, .ofNat 0, .ofNat 0), (117, 1, .ofNat 0, .ofNat 0), (114, 0, .ofNat 0, .ofNat 1119)] (fun z _ G => zjK G 0 (zgv G 88 30) z (zgv G 88 65) (zgv G 88 38)) := by
  rintro z w G G' e ⟨r, h1, h2, h⟩
  have hlt := zKp_lt h
  show zjK G' 0 (zgv G' 88 30) z (zgv G' 88 65) (zgv G' 88 38)
  rw [zgv_eq (e 88 30 (zin0 (show (88, 0, .ofNat 30, .ofNat 30) ∈ _ by decide) (by decide) (by decide))), zgv_eq (e 88 65 (zin0 (show (88, 0, .ofNat 65, .ofNat 65) ∈ _ by decide) (by decide) (by decide))), zgv_eq (e 88 38 (zin0 (show (88, 0, .ofNat 38, .ofNat 38) ∈ _ by decide) (by decide) (by decide)))]
  exact ⟨r, h1, by rw [zgv_eq (e 88 0 (zin0 (show (88, 0, .ofNat 0, .ofNat 0) ∈ _ by decide) (by decide) (by decide)))]; exact h2, zKp_c (fun i hi => (e _ _ (zin1 (show (116, 1, .ofNat 0, .ofNat 0) ∈ _ by decide) (show (0 : Int) ≤ ((i : Nat) : Int) by omega) (show ((i : Nat) : Int) < _ by omega)))) (fun i hi => (e _ _ (zin1 (show (117, 1, .ofNat 0, .ofNat 0) ∈ _ by decide) (show (0 : Int) ≤ ((i : Nat) : Int) by omega) (show ((i : Nat) : Int) < _ by omega)))) (fun i hi => (e 114 (i) (zin0 (show (114, 0, .ofNat 0, .ofNat 1119) ∈ _ by decide) (show (0 : Int) ≤ ((i : Nat) : Int) by omega) (show ((i : Nat) : Int) ≤ 1119 by omega)))) h⟩
theorem zloc_39 : zLoc [(88, 0, .ofNat 30, .ofNat 30), (88, 0, .ofNat 7, .ofNat 7), (88, 0, .ofNat 65, .ofNat 65), (88, 0, .ofNat 0, .ofNat 0), (116, 0, .ofNat 0, .ofNat 89), (117, 0, .ofNat 0, .ofNat 89), (114, 0, .ofNat 0, .ofNat 1119)] (fun z _ G => zjK G 0 (zgv G 88 30) (zgv G 88 7 + 1) (zgv G 88 65) z) := by
  rintro z w G G' e ⟨r, h1, h2, h⟩
  have hlt := zKp_lt h
  show zjK G' 0 (zgv G' 88 30) (zgv G' 88 7 + 1) (zgv G' 88 65) z
  rw [zgv_eq (e 88 30 (zin0 (show (88, 0, .ofNat 30, .ofNat 30) ∈ _ by decide) (by decide) (by decide))), zgv_eq (e 88 7 (zin0 (show (88, 0, .ofNat 7, .ofNat 7) ∈ _ by decide) (by decide) (by decide))), zgv_eq (e 88 65 (zin0 (show (88, 0, .ofNat 65, .ofNat 65) ∈ _ by decide) (by decide) (by decide)))]
  exact ⟨r, h1, by rw [zgv_eq (e 88 0 (zin0 (show (88, 0, .ofNat 0, .ofNat 0) ∈ _ by decide) (by decide) (by decide)))]; exact h2, zKp_c (fun i hi => (e 116 (i) (zin0 (show (116, 0, .ofNat 0, .ofNat 89) ∈ _ by decide) (show (0 : Int) ≤ ((i : Nat) : Int) by omega) (show ((i : Nat) : Int) ≤ 89 by omega)))) (fun i hi => (e 117 (i) (zin0 (show (117, 0, .ofNat 0, .ofNat 89) ∈ _ by decide) (show (0 : Int) ≤ ((i : Nat) : Int) by omega) (show ((i : Nat) : Int) ≤ 89 by omega)))) (fun i hi => (e 114 (i) (zin0 (show (114, 0, .ofNat 0, .ofNat 1119) ∈ _ by decide) (show (0 : Int) ≤ ((i : Nat) : Int) by omega) (show ((i : Nat) : Int) ≤ 1119 by omega)))) h⟩
theorem zloc_40 : zLoc [(88, 0, .ofNat 7, .ofNat 7), (88, 0, .ofNat 65, .ofNat 65), (88, 0, .ofNat 38, .ofNat 38), (88, 0, .ofNat 0, .ofNat 0), (116, 0, .ofNat 0, .ofNat 89), (117, 0, .ofNat 0, .ofNat 89), (114, 1, .ofNat 0, .ofNat 0)] (fun z _ G => zjK G 0 z (zgv G 88 7 + 1) (zgv G 88 65) (zgv G 88 38)) := by
  rintro z w G G' e ⟨r, h1, h2, h⟩
  have hlt := zKp_lt h
  show zjK G' 0 z (zgv G' 88 7 + 1) (zgv G' 88 65) (zgv G' 88 38)
  rw [zgv_eq (e 88 7 (zin0 (show (88, 0, .ofNat 7, .ofNat 7) ∈ _ by decide) (by decide) (by decide))), zgv_eq (e 88 65 (zin0 (show (88, 0, .ofNat 65, .ofNat 65) ∈ _ by decide) (by decide) (by decide))), zgv_eq (e 88 38 (zin0 (show (88, 0, .ofNat 38, .ofNat 38) ∈ _ by decide) (by decide) (by decide)))]
  exact ⟨r, h1, by rw [zgv_eq (e 88 0 (zin0 (show (88, 0, .ofNat 0, .ofNat 0) ∈ _ by decide) (by decide) (by decide)))]; exact h2, zKp_c (fun i hi => (e 116 (i) (zin0 (show (116, 0, .ofNat 0, .ofNat 89) ∈ _ by decide) (show (0 : Int) ≤ ((i : Nat) : Int) by omega) (show ((i : Nat) : Int) ≤ 89 by omega)))) (fun i hi => (e 117 (i) (zin0 (show (117, 0, .ofNat 0, .ofNat 89) ∈ _ by decide) (show (0 : Int) ≤ ((i : Nat) : Int) by omega) (show ((i : Nat) : Int) ≤ 89 by omega)))) (fun i hi => (e _ _ (zin1 (show (114, 1, .ofNat 0, .ofNat 0) ∈ _ by decide) (show (0 : Int) ≤ ((i : Nat) : Int) by omega) (show ((i : Nat) : Int) < _ by omega)))) h⟩
theorem zloc_41 : zLoc [(88, 0, .ofNat 7, .ofNat 7), (88, 0, .ofNat 65, .ofNat 65), (88, 0, .ofNat 38, .ofNat 38), (88, 0, .ofNat 0, .ofNat 0), (116, 0, .ofNat 0, .ofNat 89), (117, 0, .ofNat 0, .ofNat 89), (114, 1, .ofNat 0, .ofNat 0)] (fun z _ G => zjK G 0 z (zgv G 88 7 + 1) (zgv G 88 65) (zgv G 88 38 + 1)) := by
  rintro z w G G' e ⟨r, h1, h2, h⟩
  have hlt := zKp_lt h
  show zjK G' 0 z (zgv G' 88 7 + 1) (zgv G' 88 65) (zgv G' 88 38 + 1)
  rw [zgv_eq (e 88 7 (zin0 (show (88, 0, .ofNat 7, .ofNat 7) ∈ _ by decide) (by decide) (by decide))), zgv_eq (e 88 65 (zin0 (show (88, 0, .ofNat 65, .ofNat 65) ∈ _ by decide) (by decide) (by decide))), zgv_eq (e 88 38 (zin0 (show (88, 0, .ofNat 38, .ofNat 38) ∈ _ by decide) (by decide) (by decide)))]
  exact ⟨r, h1, by rw [zgv_eq (e 88 0 (zin0 (show (88, 0, .ofNat 0, .ofNat 0) ∈ _ by decide) (by decide) (by decide)))]; exact h2, zKp_c (fun i hi => (e 116 (i) (zin0 (show (116, 0, .ofNat 0, .ofNat 89) ∈ _ by decide) (show (0 : Int) ≤ ((i : Nat) : Int) by omega) (show ((i : Nat) : Int) ≤ 89 by omega)))) (fun i hi => (e 117 (i) (zin0 (show (117, 0, .ofNat 0, .ofNat 89) ∈ _ by decide) (show (0 : Int) ≤ ((i : Nat) : Int) by omega) (show ((i : Nat) : Int) ≤ 89 by omega)))) (fun i hi => (e _ _ (zin1 (show (114, 1, .ofNat 0, .ofNat 0) ∈ _ by decide) (show (0 : Int) ≤ ((i : Nat) : Int) by omega) (show ((i : Nat) : Int) < _ by omega)))) h⟩
theorem zloc_42 : zLoc [(88, 0, .ofNat 30, .ofNat 30), (88, 0, .ofNat 0, .ofNat 0), (114, 0, .ofNat 0, .ofNat 1119)] (fun _ _ G => zj42 G) := by
  rintro z w G G' e ⟨r, h1, h2, h3, h4, h5⟩
  refine ⟨r, h1, ?_⟩
  rw [zgv_eq (e 88 0 (zin0 (show (88, 0, .ofNat 0, .ofNat 0) ∈ _ by decide) (by decide) (by decide))), zgv_eq (e 88 30 (zin0 (show (88, 0, .ofNat 30, .ofNat 30) ∈ _ by decide) (by decide) (by decide))), zhg_c (f := zgv G 114) (fun i hi => zgv_eq (e _ _ (zin0 (show (114, 0, .ofNat 0, .ofNat 1119) ∈ _ by decide) (show (0 : Int) ≤ ((560 * r + i : Nat) : Int) by omega) (show ((560 * r + i : Nat) : Int) ≤ 1119 by omega))))]
  exact ⟨h2, h3, h4, h5⟩
theorem zloc_43 : zLoc [(90, 4, .ofNat 0, .ofNat 0)] (zj43) := by
  rintro z w G G' e ⟨h1, h2, h3⟩
  refine ⟨h1, h2, fun j hj hw => ?_⟩
  rw [zgv_eq (e _ _ (zin4 (show (90, 4, .ofNat 0, .ofNat 0) ∈ _ by decide) (show (0 : Int) ≤ ((j : Nat) : Int) by omega) (by assumption) (by assumption)))]
  exact h3 j hj hw
theorem zloc_44 : zLoc [(114, 0, .ofNat 0, .ofNat 1119), (109, 0, .ofNat 0, .ofNat 1), (110, 0, .ofNat 0, .ofNat 1), (88, 0, .ofNat 4, .ofNat 4)] (zj44) := by
  rintro z w G G' e ⟨b, h1, h2, h3, h4, h5, h6, h7, h8⟩
  refine ⟨b, h1, ?_⟩
  rw [zgv_eq (e 88 4 (zin0 (show (88, 0, .ofNat 4, .ofNat 4) ∈ _ by decide) (by decide) (by decide))), zgv_eq (e 110 (b) (zin0 (show (110, 0, .ofNat 0, .ofNat 1) ∈ _ by decide) (show (0 : Int) ≤ ((b : Nat) : Int) by omega) (show ((b : Nat) : Int) ≤ 1 by omega))), zhg_c (f := zgv G 114) (n := (z - 560 * (b : Int)).toNat) (fun i hi => zgv_eq (e 114 (560 * b + i) (zin0 (show (114, 0, .ofNat 0, .ofNat 1119) ∈ _ by decide) (show (0 : Int) ≤ ((560 * b + i : Nat) : Int) by omega) (show ((560 * b + i : Nat) : Int) ≤ 1119 by omega)))), zhg_c (f := zgv G 114) (n := (zgv G 110 b - 560 * (b : Int)).toNat) (fun i hi => zgv_eq (e 114 (560 * b + i) (zin0 (show (114, 0, .ofNat 0, .ofNat 1119) ∈ _ by decide) (show (0 : Int) ≤ ((560 * b + i : Nat) : Int) by omega) (show ((560 * b + i : Nat) : Int) ≤ 1119 by omega))))]
  exact ⟨h2, h3, h4, h5, h6, h7, h8⟩
theorem zloc_45 : zLoc [(101, 1, .ofNat 0, .ofNat 0), (102, 2, .ofNat 0, .ofNat 0)] (zj45 0) := by
  rintro z w G G' e ⟨n, hn, e1, e2, h⟩
  exact ⟨n, hn, e1, e2, zlet_c (fun a ha hl => (e _ _ (zin1 (show (101, 1, .ofNat 0, .ofNat 0) ∈ _ by decide) (show (0 : Int) ≤ ((16 * 0 + a : Nat) : Int) by omega) (show ((16 * 0 + a : Nat) : Int) < _ by omega)))) (fun a k ha hl hk => (e _ _ (zin2 (show (102, 2, .ofNat 0, .ofNat 0) ∈ _ by decide) (show (0 : Int) ≤ ((80 * 0 + 5 * a + k : Nat) : Int) by omega) (show ((80 * 0 + 5 * a + k : Nat) : Int) < _ by omega)))) h⟩
theorem zloc_46 : zLoc [(101, 1, .ofNat 16, .ofNat 0), (102, 2, .ofNat 80, .ofNat 0)] (zj45 1) := by
  rintro z w G G' e ⟨n, hn, e1, e2, h⟩
  exact ⟨n, hn, e1, e2, zlet_c (fun a ha hl => (e _ _ (zin1 (show (101, 1, .ofNat 16, .ofNat 0) ∈ _ by decide) (show (16 : Int) ≤ ((16 * 1 + a : Nat) : Int) by omega) (show ((16 * 1 + a : Nat) : Int) < _ by omega)))) (fun a k ha hl hk => (e _ _ (zin2 (show (102, 2, .ofNat 80, .ofNat 0) ∈ _ by decide) (show (80 : Int) ≤ ((80 * 1 + 5 * a + k : Nat) : Int) by omega) (show ((80 * 1 + 5 * a + k : Nat) : Int) < _ by omega)))) h⟩
theorem zloc_47 {g : yG} : zLoc [] (fun z w _ => 0 ≤ z ∧ w = (g.1.2.2.2.2.2 z.toNat).toInt) := fun z w G G' e h => h
theorem zloc_48 : zLoc [(88, 0, .ofNat 28, .ofNat 28)] (fun z w G => w = zgv G 88 28 + z ∧ 0 ≤ z ∧ z ≤ 1000 ∧ w ≤ 100000) := by
  intro z w G G' e h
  show w = zgv G' 88 28 + z ∧ 0 ≤ z ∧ z ≤ 1000 ∧ w ≤ 100000
  rw [zgv_eq (e 88 28 (zin0 (show (88, 0, .ofNat 28, .ofNat 28) ∈ _ by decide) (by decide) (by decide)))]
  exact h
theorem zloc_49 : zLoc [(88, 0, .ofNat 28, .ofNat 28)] (fun z _ G => ¬ (0 ≤ z ∧ z ≤ 1000 ∧ zgv G 88 28 + z ≤ 100000)) := by
  intro z w G G' e h
  show ¬ (0 ≤ z ∧ z ≤ 1000 ∧ zgv G' 88 28 + z ≤ 100000)
  rw [zgv_eq (e 88 28 (zin0 (show (88, 0, .ofNat 28, .ofNat 28) ∈ _ by decide) (by decide) (by decide)))]
  exact h
theorem zloc_all (g : yG) : xx_2 zLoc zFPs (zJL g) := ⟨zloc_0, zloc_1, zloc_2, zloc_3, zloc_4, zloc_5, zloc_6, zloc_7, zloc_8, zloc_9, zloc_10, zloc_11, zloc_12, zloc_13, zloc_14, zloc_15, zloc_16, zloc_17, zloc_18, zloc_19, zloc_20, zloc_21, zloc_22, zloc_23, zloc_24, zloc_25, zloc_26, zloc_27, zloc_28, zloc_29, zloc_30, zloc_31, zloc_32, zloc_33, zloc_34, zloc_35, zloc_36, zloc_37, zloc_38, zloc_39, zloc_40, zloc_41, zloc_42, zloc_43, zloc_44, zloc_45, zloc_46, zloc_47, zloc_48, zloc_49, trivial⟩
theorem zJf_loc {A : List zFp} {B : List (Int → Int → zR → Prop)} (h : xx_2 zLoc A B) {n : Nat} {z w : Int} {fp : zFp} {P : zPl} {ws ws' : va_W} (hfp : A[n]? = some fp) (hag : zag P ws ws') (hP : ∀ m ∈ fp, ∀ j : Nat, zfpP m z w j → ¬ P m.1 j) (hj : (B[n]?).elim False fun j => j z w (zwo ws)) : (B[n]?).elim False fun j => j z w (zwo ws') := by
  obtain ⟨j, j1, j2⟩ := xx_2_get h hfp
  rw [j1] at hj ⊢
  refine j2 z w _ _ (fun r i hin => ?_) hj
  obtain ⟨m, hm, rfl, hi⟩ := hin
  exact zwo_ag hag (hP m hm i hi)
theorem zFPs_len : zFPs.length = 50 := rfl
theorem zJf_of (g : yG) : zJof zFPs (zJf g) := by
  intro id z w fp P ws ws' hid hfp hag hP hj
  have hl := (List.getElem?_eq_some_iff.mp hfp).1
  rw [zFPs_len] at hl
  have e : id % 1000 = id - 1000 := by omega
  unfold zJf at hj ⊢
  rw [e] at hj ⊢
  clear e hl hid
  generalize id - 1000 = n at hfp hj ⊢
  exact zJf_loc (zloc_all g) hfp hag hP hj
theorem zJf_47 (g : yG) (z w : Int) (ws : va_W) : zJf g 1047 z w ws ↔ 0 ≤ z ∧ w = (g.1.2.2.2.2.2 z.toNat).toInt := Iff.rfl
theorem zJf_ok (g : yG) : zJok g zCF.2 (zJf g) := ⟨zJf_of g, zJf_47 g⟩
