/-! what the facts say -/
def zgv (G : zR) (r i : Nat) : Int := (G r i).getD 0
theorem zgv_some {G : zR} {r i : Nat} {v : Int} (h : G r i = some v) : zgv G r i = v := by
  unfold zgv
  rw [h]
  rfl
theorem zgv_eq {G G' : zR} {r i : Nat} (h : G' r i = G r i) : zgv G' r i = zgv G r i := by
  unfold zgv
  rw [h]
def zj_geo (G : zR) (s : Nat) : Prop := zgv G 121 s = 0 ∨ zgv G 121 s = 1 ∨ (zgv G 124 s = 1 ∧ 2 ≤ zgv G 121 s ∧ zgv G 121 s ≤ 5 ∧ 0 ≤ zgv G 120 s ∧ zgv G 120 s + zgv G 121 s ≤ 20) ∨ (zgv G 124 s = 0 ∧ 2 ≤ zgv G 121 s ∧ zgv G 121 s ≤ 4 ∧ 0 ≤ zgv G 120 s ∧ zgv G 120 s + 5 * (zgv G 121 s - 1) ≤ 19)
def zj_let (G : zR) (b : Nat) (n : Int) : Prop := ∀ a : Nat, a < 16 → (a : Int) < n → ∀ k : Nat, k < 5 → (k : Int) < zgv G 101 (16 * b + a) → 0 ≤ zgv G 102 (80 * b + 5 * a + k) ∧ zgv G 102 (80 * b + 5 * a + k) ≤ 27
def zhs (c : Int) (h : Nat) : Option Nat := if c = 126 then (if 1 ≤ h then some h else none) else if 97 ≤ c ∧ c ≤ 122 then (if h ≤ 58 then some (h + 1) else none) else (if 2 ≤ h then some (h - 1) else none)
def zhg (cd : Nat → Int) (b : Nat) : Nat → Option Nat
  | 0 => some 0
  | n + 1 => (zhg cd b n).bind (zhs (cd (b + n)))
def zj_rul (G : zR) (b : Nat) : Prop := zgv G 111 b = 1 → zgv G 109 b = 560 * (b : Int) ∧ 560 * (b : Int) ≤ zgv G 110 b ∧ zgv G 110 b ≤ 560 * (b : Int) + 560 ∧ ∃ h, 1 ≤ h ∧ zhg (zgv G 114) (560 * b) (zgv G 110 b - 560 * (b : Int)).toNat = some h
def zj_stp (G : zR) (b s : Nat) : Int := if zgv G 124 s = 1 then 1 else zgv G 92 b
def zj_ok (G : zR) (b a s k : Nat) : Prop := ∀ c : Nat, c < 20 → (c : Int) = zgv G 120 s + (k : Int) * zj_stp G b s → zgv G 119 c = 0 ∨ G 102 (80 * b + 5 * a + k) = some (zgv G 119 c)
def zj0 (G : zR) : Prop := ∀ s : Nat, s < 16 → zj_geo G s
def zj1 (G : zR) : Prop := ∀ b : Nat, b < 2 → zgv G 88 4 = (b : Int) → zj_let G b (zgv G 94 b)
def zj2 (G : zR) : Prop := ∀ b : Nat, b < 2 → zgv G 88 4 = (b : Int) → zj_rul G b
def zj4 (z w : Int) (G : zR) : Prop := ∃ a s : Nat, a < 16 ∧ s < 16 ∧ z = (a : Int) ∧ w = (s : Int) ∧ ∀ b : Nat, b < 2 → zgv G 88 4 = (b : Int) → zgv G 101 (16 * b + a) = zgv G 121 s ∧ ∀ k : Nat, k < 5 → (k : Int) < zgv G 121 s → zj_ok G b a s k
def zj3 (z w : Int) (G : zR) : Prop := ∃ s : Nat, s < 16 ∧ w ≤ (s : Int) ∧ (s : Int) < zgv G 88 2 ∧ zj4 z (s : Int) G
def zj5 (G : zR) : Prop := 0 ≤ zgv G 88 12 ∧ 0 ≤ zgv G 88 39 ∧ zgv G 88 12 + zgv G 88 39 ≤ 40
def zj7 (z w : Int) (G : zR) : Prop := ∃ a s : Nat, a < 16 ∧ s < 16 ∧ z = (a : Int) ∧ w = (s : Int) ∧ ∀ b : Nat, b < 2 → zgv G 88 4 = (b : Int) → zgv G 101 (16 * b + a) = zgv G 121 s ∧ ((a : Int) < zgv G 94 b → ∀ k : Nat, k < 5 → (k : Int) < zgv G 121 s → 0 ≤ zgv G 102 (80 * b + 5 * a + k) ∧ zgv G 102 (80 * b + 5 * a + k) ≤ 27)
def zj8 (z : Int) (G : zR) : Prop := ∀ s : Nat, s < 16 → (s : Int) ≠ z → zj_geo G s
def zj9 (k : Nat) (z w : Int) (G : zR) : Prop := ∃ a s : Nat, a < 16 ∧ s < 16 ∧ z = (a : Int) ∧ w = (s : Int) ∧ ∀ b : Nat, b < 2 → zgv G 88 4 = (b : Int) → ∀ j : Nat, j < k → j < 5 → zj_ok G b a s j
def zj15 (k : Nat) (z w : Int) (G : zR) : Prop := ∃ s : Nat, s < 16 ∧ z = (s : Int) ∧ ∀ b : Nat, b < 2 → zgv G 88 4 = (b : Int) → w = zgv G 120 s + (k : Int) * zj_stp G b s
def zj20 (k : Nat) (z w : Int) (G : zR) : Prop := ∃ a : Nat, a < 16 ∧ z = (a : Int) ∧ ∀ b : Nat, b < 2 → zgv G 88 4 = (b : Int) → G 102 (80 * b + 5 * a + k) = some w
def zj29 (z w : Int) (G : zR) : Prop := 0 ≤ z ∧ w ≤ zgv G 88 25 ∧ (zgv G 88 9 = 0 → z = zgv G 88 25 ∧ w = zgv G 88 25) ∧ (1 ≤ zgv G 88 9 → z + 1 ≤ w) ∧ (zgv G 88 9 = 2 → ∀ j : Nat, z ≤ (j : Int) → (j : Int) < w → 97 ≤ zgv G 90 j ∧ zgv G 90 j ≤ 122)
def zpe (x y : Int) : Prop := (x = 1 ∧ y = 124) ∨ (x = 2 ∧ y = 38) ∨ (x = 3 ∧ y = 126) ∨ (4 ≤ x ∧ x ≤ 6 ∧ 37 ≤ y ∧ y ≤ 62) ∨ (x = 7 ∧ y = 126)
/-- how many nots and brackets lie on the pile, its foot aside -/
def zcnt (f : Nat → Int) : Nat → Int
  | 0 => 0
  | n + 1 => zcnt f n + (if 1 ≤ n ∧ (f n = 3 ∨ f n = 7) then 1 else 0)
/-- the reader's pile and what it has written: a unit is wanted, or not -/
def zKp (G : zR) (wt : Int) (r : Nat) (C S u w : Int) : Prop := zgv G 116 0 = 8 ∧ 1 ≤ S ∧ 0 ≤ u ∧ u ≤ 30 ∧ 0 ≤ w ∧ w ≤ 7 ∧ 560 * (r : Int) ≤ C ∧ (∀ i : Nat, 1 ≤ i → (i : Int) < S → zpe (zgv G 116 i) (zgv G 117 i)) ∧ w = zcnt (zgv G 116) S.toNat ∧ zhg (zgv G 114) (560 * r) (C - 560 * (r : Int)).toNat = some (S - w - wt).toNat ∧ (wt = 1 → C - 560 * (r : Int) + S ≤ 9 * u + w + 1 ∧ S ≤ u + w + 1) ∧ (wt = 0 → C - 560 * (r : Int) + S ≤ 9 * u ∧ S ≤ u + w) ∧ (wt = 0 ∨ wt = 1)
def zjK (G : zR) (wt C S u w : Int) : Prop := ∃ r : Nat, r < 2 ∧ zgv G 88 0 = (r : Int) ∧ zKp G wt r C S u w
def zj42 (G : zR) : Prop := ∃ r : Nat, r < 2 ∧ zgv G 88 0 = (r : Int) ∧ 560 * (r : Int) ≤ zgv G 88 30 ∧ zgv G 88 30 ≤ 560 * (r : Int) + 560 ∧ zhg (zgv G 114) (560 * r) (zgv G 88 30 - 560 * (r : Int)).toNat = some 1
def zj43 (z w : Int) (G : zR) : Prop := 0 ≤ z ∧ z < w ∧ ∀ j : Nat, z ≤ (j : Int) → (j : Int) < w → 97 ≤ zgv G 90 j ∧ zgv G 90 j ≤ 122
def zj44 (z w : Int) (G : zR) : Prop := ∃ b : Nat, b < 2 ∧ zgv G 88 4 = (b : Int) ∧ 560 * (b : Int) ≤ z ∧ z ≤ zgv G 110 b ∧ zgv G 110 b ≤ 560 * (b : Int) + 560 ∧ 0 ≤ w ∧ zhg (zgv G 114) (560 * b) (z - 560 * (b : Int)).toNat = some w.toNat ∧ ∃ h, 1 ≤ h ∧ zhg (zgv G 114) (560 * b) (zgv G 110 b - 560 * (b : Int)).toNat = some h
def zj45 (r : Nat) (z w : Int) (G : zR) : Prop := ∃ n : Nat, n < 16 ∧ z = 16 * (r : Int) + n ∧ w = 80 * (r : Int) + 5 * n ∧ zj_let G r (n : Int)
/-- all of them, from 1000 on -/
def zJL (g : yG) : List (Int → Int → zR → Prop) := [fun _ _ G => zj0 G, fun _ _ G => zj1 G, fun _ _ G => zj2 G, zj3, zj4, fun _ _ G => zj5 G, fun z w _ => z + w ≤ 40, zj7, fun z _ G => zj8 z G,
  zj9 0, zj9 1, zj9 2, zj9 3, zj9 4, zj9 5, zj15 0, zj15 1, zj15 2, zj15 3, zj15 4, zj20 0, zj20 1, zj20 2, zj20 3, zj20 4,
  fun z _ G => zj_let G 0 z, fun z _ G => zj_let G 1 z, fun _ _ G => zj_rul G 0, fun _ _ G => zj_rul G 1, zj29,
  fun _ _ G => zjK G 1 (zgv G 88 30) (zgv G 88 7) (zgv G 88 65) (zgv G 88 38),
  fun _ _ G => zgv G 88 65 ≤ 30 ∧ zjK G 1 (zgv G 88 30) (zgv G 88 7) (zgv G 88 65 - 1) (zgv G 88 38),
  fun _ _ G => zjK G 0 (zgv G 88 30) (zgv G 88 7) (zgv G 88 65) (zgv G 88 38),
  fun z _ G => zjK G 1 (zgv G 88 30) (zgv G 88 7) z (zgv G 88 38),
  fun z w G => zjK G 1 (zgv G 88 30) z (zgv G 88 65) w,
  fun z _ G => zgv G 88 65 ≤ 30 ∧ zjK G 1 z (zgv G 88 7) (zgv G 88 65 - 1) (zgv G 88 38),
  fun _ _ G => zjK G 0 (zgv G 88 30) (zgv G 88 7 + 1) (zgv G 88 65) (zgv G 88 38),
  fun _ _ G => zjK G 0 (zgv G 88 30) (zgv G 88 7 + 1) (zgv G 88 65) (zgv G 88 38 + 1),
  fun z _ G => zjK G 0 (zgv G 88 30) z (zgv G 88 65) (zgv G 88 38),
  fun z _ G => zjK G 0 (zgv G 88 30) (zgv G 88 7 + 1) (zgv G 88 65) z,
  fun z _ G => zjK G 0 z (zgv G 88 7 + 1) (zgv G 88 65) (zgv G 88 38),
  fun z _ G => zjK G 0 z (zgv G 88 7 + 1) (zgv G 88 65) (zgv G 88 38 + 1),
  fun _ _ G => zj42 G, zj43, zj44, zj45 0, zj45 1, fun z w _ => 0 ≤ z ∧ w = (g.1.2.2.2.2.2 z.toNat).toInt,
  fun z w G => w = zgv G 88 28 + z ∧ 0 ≤ z ∧ z ≤ 1000 ∧ w ≤ 100000, fun z _ G => ¬ (0 ≤ z ∧ z ≤ 1000 ∧ zgv G 88 28 + z ≤ 100000)]
def zJf (g : yG) : zJp := fun id z w ws => ((zJL g)[id % 1000]?).elim False fun j => j z w (zwo ws)
/-! they hang on their places alone -/
def zinF (fp : zFp) (z w : Int) (r i : Nat) : Prop := ∃ m ∈ fp, m.1 = r ∧ zfpP m z w i
def zLoc (fp : zFp) (j : Int → Int → zR → Prop) : Prop := ∀ (z w : Int) (G G' : zR), (∀ r i, zinF fp z w r i → G' r i = G r i) → j z w G → j z w G'
theorem zin0 {fp : zFp} {z w : Int} {r i : Nat} {lo hi : Int} (h : (r, 0, lo, hi) ∈ fp) (h1 : lo ≤ (i : Int)) (h2 : (i : Int) ≤ hi) : zinF fp z w r i := ⟨_, h, rfl, h1, h2⟩
theorem zin1 {fp : zFp} {z w : Int} {r i : Nat} {lo hi : Int} (h : (r, 1, lo, hi) ∈ fp) (h1 : lo ≤ (i : Int)) (h2 : (i : Int) < z) : zinF fp z w r i := ⟨_, h, rfl, h1, h2⟩
theorem zin2 {fp : zFp} {z w : Int} {r i : Nat} {lo hi : Int} (h : (r, 2, lo, hi) ∈ fp) (h1 : lo ≤ (i : Int)) (h2 : (i : Int) < w) : zinF fp z w r i := ⟨_, h, rfl, h1, h2⟩
theorem zin3 {fp : zFp} {z w : Int} {r i : Nat} {lo hi : Int} (h : (r, 3, lo, hi) ∈ fp) (h1 : lo ≤ (i : Int)) (h2 : (i : Int) ≠ z) : zinF fp z w r i := ⟨_, h, rfl, h1, h2⟩
theorem zin4 {fp : zFp} {z w : Int} {r i : Nat} {lo hi : Int} (h : (r, 4, lo, hi) ∈ fp) (h1 : lo ≤ (i : Int)) (h2 : z ≤ (i : Int)) (h3 : (i : Int) < w) : zinF fp z w r i := ⟨_, h, rfl, h1, h2, h3⟩
theorem zgeo_c {G G' : zR} {s : Nat} (h1 : G' 120 s = G 120 s) (h2 : G' 121 s = G 121 s) (h3 : G' 124 s = G 124 s) (h : zj_geo G s) : zj_geo G' s := by
  unfold zj_geo at *
  rw [zgv_eq h1, zgv_eq h2, zgv_eq h3]
  exact h
theorem zlet_c {G G' : zR} {b : Nat} {n : Int} (h1 : ∀ a : Nat, a < 16 → (a : Int) < n → G' 101 (16 * b + a) = G 101 (16 * b + a)) (h2 : ∀ a k : Nat, a < 16 → (a : Int) < n → k < 5 → G' 102 (80 * b + 5 * a + k) = G 102 (80 * b + 5 * a + k)) (h : zj_let G b n) : zj_let G' b n := by
  intro a ha hn k hk hl
  rw [zgv_eq (h1 a ha hn)] at hl
  rw [zgv_eq (h2 a k ha hn hk)]
  exact h a ha hn k hk hl
theorem zhg_c {f f' : Nat → Int} {b : Nat} : ∀ {n : Nat}, (∀ i, i < n → f' (b + i) = f (b + i)) → zhg f' b n = zhg f b n
  | 0, _ => rfl
  | n + 1, h => by
    show (zhg f' b n).bind _ = (zhg f b n).bind _
    rw [zhg_c (fun i hi => h i (by omega)), h n (by omega)]
theorem zcnt_c {f f' : Nat → Int} : ∀ {n : Nat}, (∀ i, i < n → f' i = f i) → zcnt f' n = zcnt f n
  | 0, _ => rfl
  | n + 1, h => by
    show zcnt f' n + _ = zcnt f n + _
    rw [zcnt_c (fun i hi => h i (by omega)), h n (by omega)]
theorem zrul_c {G G' : zR} {b : Nat} (h1 : G' 111 b = G 111 b) (h2 : G' 109 b = G 109 b) (h3 : G' 110 b = G 110 b) (h4 : ∀ i, i < 560 → G' 114 (560 * b + i) = G 114 (560 * b + i)) (h : zj_rul G b) : zj_rul G' b := by
  unfold zj_rul at *
  rw [zgv_eq h1, zgv_eq h2, zgv_eq h3]
  intro hf
  obtain ⟨a1, a2, a3, x, x1, x2⟩ := h hf
  refine ⟨a1, a2, a3, x, x1, ?_⟩
  rw [zhg_c (f := zgv G 114) (fun i hi => zgv_eq (h4 i (by omega)))]
  exact x2
theorem zok_c {G G' : zR} {b a s k : Nat} (h1 : G' 120 s = G 120 s) (h2 : G' 124 s = G 124 s) (h3 : G' 92 b = G 92 b) (h4 : ∀ c, c < 20 → G' 119 c = G 119 c) (h5 : G' 102 (80 * b + 5 * a + k) = G 102 (80 * b + 5 * a + k)) (h : zj_ok G b a s k) : zj_ok G' b a s k := by
  intro c hc he
  unfold zj_stp at he
  rw [zgv_eq h1, zgv_eq h2, zgv_eq h3] at he
  rw [zgv_eq (h4 c hc), h5]
  exact h c hc he
theorem zKp_lt {G : zR} {wt C S u w : Int} {r : Nat} (h : zKp G wt r C S u w) : S ≤ 38 ∧ C ≤ 560 * (r : Int) + 277 := by
  obtain ⟨-, a2, a3, a4, a5, a6, a7, -, -, -, b1, b2, b3⟩ := h
  rcases b3 with rfl | rfl
  · have := b2 rfl
    omega
  · have := b1 rfl
    omega
theorem zKp_c {G G' : zR} {wt C S u w : Int} {r : Nat} (h1 : ∀ i : Nat, (i : Int) < S → G' 116 i = G 116 i) (h2 : ∀ i : Nat, (i : Int) < S → G' 117 i = G 117 i) (h3 : ∀ i : Nat, (i : Int) < C → G' 114 i = G 114 i) (h : zKp G wt r C S u w) : zKp G' wt r C S u w := by
  obtain ⟨a1, a2, a3, a4, a5, a6, a7, a8, a9, b0, b1⟩ := h
  refine ⟨?_, a2, a3, a4, a5, a6, a7, fun i hi hs => ?_, ?_, ?_, b1⟩
  · rw [zgv_eq (h1 0 (by omega))]
    exact a1
  · rw [zgv_eq (h1 i hs), zgv_eq (h2 i hs)]
    exact a8 i hi hs
  · rw [zcnt_c (f := zgv G 116) (fun i hi => zgv_eq (h1 i (by omega)))]
    exact a9
  · rw [zhg_c (f := zgv G 114) (fun i hi => zgv_eq (h3 _ (by omega)))]
    exact b0
