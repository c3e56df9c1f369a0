/-! numberOfTrailingZeros of a number from 1 to 65535: its first rows by hand, the rest by a run -/
def zc_n8 : zC := (298, 8, 0, [(1, 0, .ofNat 0), (9, 0, .ofNat 0)], ([], []), [(.ofNat 0, .ofNat 32767, 0, .ofNat 0)], [], [(some (1, 1, .ofNat 0), ([], []), [(.ofNat 0, .ofNat 32767, 0, .ofNat 0), (.ofNat 0, .ofNat 15, 0, .ofNat 0)])], [])
theorem zt_n8 : zchk zRUL 3 xBY zIN zCF [] [zc_n8] 200 [] zc_n8 = true := by decide +kernel
theorem zk_n8 {g : yG} {J : zJp} (hy : zHy g J) : zCok g zCF J zc_n8 :=
  zgp hy (CT := []) (fun _ h => absurd h List.not_mem_nil) (fuel := 200) (L := [(zc_n8, [])]) (List.forall_mem_cons.mpr ⟨zt_n8, fun _ h => absurd h List.not_mem_nil⟩) (zc_n8, []) List.mem_cons_self
def zc_ntz : zC := (298, 0, 0, [(1, 0, .ofNat 0), (9, 0, .ofNat 0)], ([], []), [(.ofNat 1, .ofNat 65535, 0, .ofNat 0)], [], [(some (1, 1, .ofNat 0), ([], []), [(.ofNat 1, .ofNat 65535, 0, .ofNat 0), (.ofNat 0, .ofNat 15, 0, .ofNat 0)])], [])
theorem zntz_bits {x : Int32} (h1 : 1 ≤ x.toInt) (h2 : x.toInt ≤ 65535) : 0 ≤ ((x ^^^ (-1)) &&& (x - 1)).toInt ∧ ((x ^^^ (-1)) &&& (x - 1)).toInt ≤ 32767 := by
  have hx := znn (x := x) (by omega)
  have hs : (x - 1).toInt = x.toInt - 1 := by
    rw [Int32.toInt_sub, show (1 : Int32).toInt = 1 by decide, xbmod (by omega) (by omega)]
  have hy := znn (x := x - 1) (by omega)
  have e : ((x ^^^ (-1)) &&& (x - 1)).toBitVec.toNat = (x ^^^ (-1)).toBitVec.toNat &&& (x - 1).toBitVec.toNat := by
    rw [Int32.toBitVec_and, BitVec.toNat_and]
  have hb : ((x ^^^ (-1)) &&& (x - 1)).toBitVec.toNat < 2 ^ 15 := by
    rw [e]
    refine Nat.lt_pow_two_of_testBit _ (fun i hi => ?_)
    rw [Nat.testBit_and]
    by_cases hi2 : 16 ≤ i
    · have : (x - 1).toBitVec.toNat.testBit i = false := Nat.testBit_lt_two_pow (Nat.lt_of_lt_of_le (show (x - 1).toBitVec.toNat < 2 ^ 16 by omega) (Nat.pow_le_pow_right (by decide) hi2))
      rw [this, Bool.and_false]
    · have hi15 : i = 15 := by omega
      subst hi15
      by_cases hq : x.toBitVec.toNat < 2 ^ 15
      · have : (x - 1).toBitVec.toNat.testBit 15 = false := Nat.testBit_lt_two_pow (by omega)
        rw [this, Bool.and_false]
      · have ht : x.toBitVec.toNat.testBit 15 = true := by
          rw [Nat.testBit_eq_decide_div_mod_eq]
          exact decide_eq_true (by omega)
        have : (x ^^^ (-1)).toBitVec.toNat.testBit 15 = false := by
          rw [Int32.toBitVec_xor, BitVec.toNat_xor, Nat.testBit_xor, ht]
          decide
        rw [this, Bool.false_and]
  rw [zof_nn (by omega)]
  omega
theorem zk_ntz {g : yG} {J : zJp} (hy : zHy g J) : zCok g zCF J zc_ntz := by
  intro ρ M e hM he X ws lm lvC K hX hs hl hT hF hv hK
  have eM : xm_298 = M := Option.some.inj hM
  subst eM
  have ee : xe_0 0 1 (.iload_n 0) = e := Option.some.inj he
  subst ee
  obtain ⟨o1, l1, rfl, q1, q2⟩ := xx_2_cons hv
  obtain ⟨o2, l2, rfl, q3, q4⟩ := xx_2_cons q2
  have q5 := xx_2_nil q4
  subst q5
  rcases q1 with ⟨q1, -⟩ | ⟨v, rfl, x, y, y1, rfl, y3⟩
  · exact absurd q1 (by decide)
  have y1' : ρ[0]? = some y := y1
  have y3' : x.toInt = y.toInt + 0 := y3
  obtain ⟨b1, b2, -⟩ := hs.2 0 _ y rfl y1'
  have b1' : (1 : Int) ≤ y.toInt := b1
  have b2' : y.toInt ≤ 65535 := b2
  have hb := zntz_bits (x := x) (by omega) (by omega)
  have em1 : Int32.ofInt (-1) = -1 := by decide
  have e1 : Int32.ofInt 1 = 1 := by decide
  have T := zk_n8 (g := g) hy [(x ^^^ (-1)) &&& (x - 1)] xm_298 (xe_0 8 1 (.iload_n 0)) rfl rfl X ws [] [some (.int ((x ^^^ (-1)) &&& (x - 1))), none] K hX ⟨rfl, fun k e' z h1 h2 => ?_⟩ trivial hT (fun f hf => absurd hf List.not_mem_nil) ⟨Or.inr ⟨_, rfl, _, _, rfl, rfl, by show _ = _ + (0 : Int); omega⟩, Or.inl ⟨rfl, rfl⟩, trivial⟩ (fun r ws' hE => hK r ws' ?_)
  · refine yo_iload (i := 0) (len := 1) (x := x) (Or.inr ⟨0, by decide +kernel, rfl, rfl⟩) rfl ?_
    refine yo_iconst (n := -1) (by decide +kernel) ?_
    rw [em1]
    refine yo_ixor (by decide +kernel) ?_
    refine yo_iload (i := 0) (len := 1) (x := x) (Or.inr ⟨0, by decide +kernel, rfl, rfl⟩) rfl ?_
    refine yo_iconst (n := 1) (by decide +kernel) ?_
    rw [e1]
    refine yo_isub (by decide +kernel) ?_
    refine yo_iand (by decide +kernel) ?_
    refine yo_istore (i := 0) (len := 1) (Or.inr ⟨0, by decide +kernel, rfl, rfl⟩) (fun j w hj => absurd hj (Nat.succ_ne_zero j)) (by show 0 < 2; decide) ?_
    rcases q3 with ⟨-, rfl⟩ | ⟨v, -, hv9⟩
    · exact T
    · exact absurd hv9 id
  · cases k with
    | zero =>
      cases h1
      cases h2
      exact ⟨hb.1, hb.2, Nat.zero_le _, fun p y q => by cases q⟩
    | succ k =>
      have h1' : ([] : List zI)[k]? = some e' := h1
      simp at h1'
  · obtain ⟨o, ho, ρ', lm', r1, r2, r3, r4, r5, r6, r7, r8⟩ := hE
    rw [List.mem_singleton.mp ho] at r3 r4 r6 r8
    obtain ⟨t, rfl⟩ := r1
    have hlen := r3.1
    match t, hlen with
    | [], hlen => cases hlen
    | _ :: _ :: _, hlen => simp at hlen
    | [z], hlen =>
      have hρ : ρ.length = 1 := hs.1.symm
      have hρ2 : ρ = [y] := by
        match ρ, hρ, y1' with
        | [a], _, y1' => rw [show a = y from Option.some.inj y1']
      obtain ⟨c1, c2, -⟩ := r3.2 1 _ z rfl rfl
      refine ⟨_, List.mem_cons_self, ρ ++ [z], lm, xx_e_one _ _, xx_e_rf _, ?_, (by exact hl), r5, fun f hf => absurd hf List.not_mem_nil, zag_sub (fun k j q => by obtain ⟨m, hm, -⟩ := q; exact absurd hm List.not_mem_nil) r7, ?_⟩
      · rw [hρ2]
        refine ⟨rfl, fun k e' w h1 h2 => ?_⟩
        match k, h1, h2 with
        | 0, h1, h2 =>
          cases h1
          cases h2
          exact ⟨b1, b2, Nat.zero_le _, fun p y q => by cases q⟩
        | 1, h1, h2 =>
          cases h1
          cases h2
          exact ⟨c1, c2, Nat.zero_le _, fun p y q => by cases q⟩
        | k + 2, h1, h2 =>
          have h1' : ([] : List zI)[k]? = some e' := h1
          simp at h1'
      · rcases r8 with ⟨u1, -⟩ | ⟨a, v, u1, u2, u3⟩
        · cases u1
        · cases u1
          obtain ⟨xr, yr, w1, rfl, w3⟩ := u3
          have w1' : ([(x ^^^ (-1)) &&& (x - 1)] ++ [z])[1]? = some yr := w1
          have ez : z = yr := Option.some.inj w1'
          refine Or.inr ⟨(1, 1, .ofNat 0), _, rfl, u2, xr, z, ?_, rfl, by rw [ez]; exact w3⟩
          rw [hρ2]
          rfl
