/-! a state of the typed run and a state of the machine -/
/-- what is fixed in a run, the kinds and what facts hang on, where the cells lie, what may change (in the run's words, as places), what the facts from 1000 on say, the symbols that the run began with -/
abbrev zEn : Type := yG × zCf × zX × (zM × zPl) × zJp × List Int32
def zlv (X : zX) (ρ : List Int32) (lm : List Int64) (a : zV) (o : Option Value) : Prop := (a.1 = 9 ∧ o = none) ∨ ∃ v, o = some v ∧ zv X ρ lm a v
def zRel (E : zEn) (ρ : List Int32) (lm : List Int64) (lv st : List zV) (h : zH) (sy : zS) (lvC : yL) (stC : List Value) (ws : va_W) : Prop := zsat sy ρ ∧ zsatL h.2 lm ∧ zTw E.1 E.2.1.1 E.2.2.1 ws ∧ zfa E.2.2.1 E.2.2.2.2.1 ρ lm ws h.1 ∧ xx_2 (zlv E.2.2.1 ρ lm) lv lvC ∧ xx_2 (zv E.2.2.1 ρ lm) st stC
def zret (X : zX) (ρ : List Int32) (lm : List Int64) (r : Option zV) (rv : Option Value) : Prop := (r = none ∧ rv = none) ∨ ∃ a v, r = some a ∧ rv = some v ∧ zv X ρ lm a v
/-- what an end of the run must give -/
def zRT (E : zEn) (rt : zRt) (ρ : List Int32) (lm : List Int64) (ws0 : va_W) (K : yK) : Prop := ∀ (r : Option zV) (h : zH) (sy : zS) (ρ' : List Int32) (lm' : List Int64) (ws : va_W) (rv : Option Value), rt r h sy = true → xx_e ρ ρ' → xx_e lm lm' → zsat sy ρ' → zsatL h.2 lm' → zTw E.1 E.2.1.1 E.2.2.1 ws → zfa E.2.2.1 E.2.2.2.2.1 ρ' lm' ws h.1 → zag E.2.2.2.1.2 ws0 ws → zret E.2.2.1 ρ' lm' r rv → K rv ws
def zNok (E : zEn) (M : xM) (d pc : Nat) (k : zN) : Prop := ∀ (rt : zRt) (lv st : List zV) (h : zH) (sy : zS), k rt lv st h sy = true → ∀ (ρ : List Int32) (lm : List Int64) (lvC : yL) (stC : List Value) (ws ws0 : va_W) (K : yK), zRel E ρ lm lv st h sy lvC stC ws → zag E.2.2.2.1.2 ws0 ws → zmd E.2.2.2.1.1 E.2.2.2.1.2 E.2.2.2.2.2 ρ → zRT E rt ρ lm ws0 K → yOk E.1 M d pc lvC stC ws K
theorem zlv_mono {X : zX} {ρ ρ' : List Int32} {lm lm' : List Int64} (e : xx_e ρ ρ') (e' : xx_e lm lm') {a : zV} {o : Option Value} (h : zlv X ρ lm a o) : zlv X ρ' lm' a o := by
  rcases h with h | ⟨v, h1, h2⟩
  · exact Or.inl h
  · exact Or.inr ⟨v, h1, zv_mono e e' h2⟩
theorem zRel_ext {E : zEn} {ρ ρ' : List Int32} {lm : List Int64} {lv st : List zV} {h : zH} {sy sy' : zS} {lvC : yL} {stC : List Value} {ws : va_W} (e : xx_e ρ ρ') (hs : zsat sy' ρ') (hR : zRel E ρ lm lv st h sy lvC stC ws) : zRel E ρ' lm lv st h sy' lvC stC ws :=
  ⟨hs, hR.2.1, hR.2.2.1, zfa_mono e (xx_e_rf _) hR.2.2.2.1, xx_2_mono (fun _ _ q => zlv_mono e (xx_e_rf _) q) hR.2.2.2.2.1, xx_2_mono (fun _ _ q => zv_mono e (xx_e_rf _) q) hR.2.2.2.2.2⟩
theorem zRT_ext {E : zEn} {rt : zRt} {ρ ρ' : List Int32} {lm lm' : List Int64} {ws0 : va_W} {K : yK} (e : xx_e ρ ρ') (e' : xx_e lm lm') (h : zRT E rt ρ lm ws0 K) : zRT E rt ρ' lm' ws0 K :=
  fun r h' sy ρ2 lm2 ws rv h1 h2 h3 => h r h' sy ρ2 lm2 ws rv h1 (xx_e_tr e h2) (xx_e_tr e' h3)
theorem zRel_pop {E : zEn} {ρ : List Int32} {lm : List Int64} {lv st : List zV} {a : zV} {h : zH} {sy : zS} {lvC : yL} {stC : List Value} {ws : va_W} (hR : zRel E ρ lm lv (a :: st) h sy lvC stC ws) : ∃ v stC', stC = v :: stC' ∧ zv E.2.2.1 ρ lm a v ∧ zRel E ρ lm lv st h sy lvC stC' ws := by
  obtain ⟨h1, h2, h3, h4, h5, h6⟩ := hR
  obtain ⟨v, stC', e, k1, k2⟩ := xx_2_cons h6
  exact ⟨v, stC', e, k1, h1, h2, h3, h4, h5, k2⟩
theorem zRel_push {E : zEn} {ρ : List Int32} {lm : List Int64} {lv st : List zV} {a : zV} {v : Value} {h : zH} {sy : zS} {lvC : yL} {stC : List Value} {ws : va_W} (hv : zv E.2.2.1 ρ lm a v) (hR : zRel E ρ lm lv st h sy lvC stC ws) : zRel E ρ lm lv (a :: st) h sy lvC (v :: stC) ws :=
  ⟨hR.1, hR.2.1, hR.2.2.1, hR.2.2.2.1, hR.2.2.2.2.1, hv, hR.2.2.2.2.2⟩
/-! the handlers -/
def zd_none : zD := fun _ _ _ _ _ _ _ _ _ => false
def zd_push (v : zV) : zD := fun nx _ _ _ rt lv st h sy => nx rt lv (v :: st) h sy
noncomputable def zd_ld (t : zV → Bool) (i : Nat) : zD := fun nx _ _ _ rt lv st h sy => zk_nth lv i fun a => cond (t a) (nx rt lv (a :: st) h sy) false
/-- the place ahead of i holds no long -/
noncomputable def zh_nl (lv : List zV) (i : Nat) : Bool := Nat.rec (motive := fun _ => Bool) true (fun j _ => zk_nth lv j fun a => not (zc_l a)) i
noncomputable def zd_st1 (t : zV → Bool) (i : Nat) : zD := fun nx _ _ _ rt lv st h sy => match st with
  | v :: st' => cond (and (t v) (zh_nl lv i)) (zk_set lv i v fun lv' => nx rt lv' st' h sy) false
  | _ => false
noncomputable def zd_st2 (i : Nat) : zD := fun nx _ _ _ rt lv st h sy => match st with
  | v :: st' => cond (and (zc_l v) (zh_nl lv i)) (zk_set lv i v fun lv' => zk_set lv' (Nat.succ i) (9, 0, 0) fun lv'' => nx rt lv'' st' h sy) false
  | _ => false
noncomputable def zadd (a b : zV) (sy : zS) (k : zV → zS → Bool) : Bool := zk_rng sy a fun la ha => zk_rng sy b fun lb hb => zf (la + lb) fun lo => zf (ha + hb) fun hi => cond (zin lo hi) (cond (Nat.beq b.1 0) (zf (a.2.2 + b.2.2) fun c => k (a.1, a.2.1, c) sy) (cond (Nat.beq a.1 0) (zf (a.2.2 + b.2.2) fun c => k (b.1, b.2.1, c) sy) (zk_fresh sy lo hi k))) (zk_fresh sy zlo zhi k)
noncomputable def zsubt (a b : zV) (sy : zS) (k : zV → zS → Bool) : Bool := zk_rng sy a fun la ha => zk_rng sy b fun lb hb => zf (la - hb) fun lo => zf (ha - lb) fun hi => cond (zin lo hi) (cond (Nat.beq b.1 0) (zf (a.2.2 - b.2.2) fun c => k (a.1, a.2.1, c) sy) (cond (and (Nat.beq a.1 1) (and (Nat.beq b.1 1) (Nat.beq a.2.1 b.2.1))) (zf (a.2.2 - b.2.2) fun c => k (0, 0, c) sy) (zk_nth sy a.2.1 fun e => zf (cond (and (Nat.beq a.1 1) (and (Nat.beq b.1 1) (Nat.beq e.2.2.1 (Nat.succ b.2.1)))) (zmax lo (e.2.2.2 + a.2.2 - b.2.2)) lo) fun lo' => zk_fresh sy lo' hi k))) (zk_fresh sy zlo zhi k)
noncomputable def zbin (g : zQ) (a b : zV) (sy : zS) (k : zV → zS → Bool) : Bool := zk_rng sy a fun la ha => zk_rng sy b fun lb hb => zf (g la ha lb hb).1 fun lo => zf (g la ha lb hb).2 fun hi => zk_fresh sy lo hi k
abbrev zB : Type := zV → zV → zS → (zV → zS → Bool) → Bool
noncomputable def zd_bin (f : zB) : zD := fun nx _ _ _ rt lv st h sy => match st with
  | b :: a :: st' => f a b sy fun v sy' => nx rt lv (v :: st') h sy'
  | _ => false
/-- and: not more than the second, if neither is below 0 -/
noncomputable def zand (a b : zV) (sy : zS) (k : zV → zS → Bool) : Bool := zbin zg_and a b sy fun v sy' => cond (zk_rng sy b fun lb _ => zle 0 lb) (zk_link sy' v b 0 fun sy'' => k v sy'') (k v sy')
/-- a byte and 255: the number itself, or 256 more -/
noncomputable def zd_and : zD := fun nx _ _ _ rt lv st h sy => match st with
  | b :: a :: st' => cond (and (Nat.beq b.1 0) (zeq b.2.2 255)) (zk_rng sy a fun lo hi => cond (and (zle (.negSucc 127) lo) (zle hi 127)) (and (cond (zle 0 hi) (zk_put sy a (zmax lo 0, hi) fun sy' => nx rt lv (a :: st') h sy') true) (cond (zle lo (.negSucc 0)) (zk_put sy a (lo, zmin hi (.negSucc 0)) fun sy' => zf (a.2.2 + 256) fun c => nx rt lv ((a.1, a.2.1, c) :: st') h sy') true)) (zand a b sy fun v sy' => nx rt lv (v :: st') h sy')) (zand a b sy fun v sy' => nx rt lv (v :: st') h sy')
  | _ => false
noncomputable def zd_div (f : zB) : zD := fun nx _ _ _ rt lv st h sy => match st with
  | b :: a :: st' => cond (zk_rng sy b fun lb hb => or (zle 1 lb) (zle hb (.negSucc 0))) (f a b sy fun v sy' => nx rt lv (v :: st') h sy') false
  | _ => false
noncomputable def zd_inc (i : Nat) (n : Int) : zD := fun nx _ _ _ rt lv st h sy => zk_nth lv i fun a => cond (zh_nl lv i) (zadd a (0, 0, n) sy fun v sy' => zk_set lv i v fun lv' => nx rt lv' st h sy') false
noncomputable def zd_un (g : Int → Int → Int × Int) : zD := fun nx _ _ _ rt lv st h sy => match st with
  | a :: st' => zk_rng sy a fun la ha => zf (g la ha).1 fun lo => zf (g la ha).2 fun hi => zk_fresh sy lo hi fun v sy' => nx rt lv (v :: st') h sy'
  | _ => false
def zd_dup : zD := fun nx _ _ _ rt lv st h sy => match st with
  | a :: st' => cond (zc_l a) false (nx rt lv (a :: a :: st') h sy)
  | _ => false
def zd_pop : zD := fun nx _ _ _ rt lv st h sy => match st with
  | a :: st' => cond (zc_l a) false (nx rt lv st' h sy)
  | _ => false
def zd_dup2 : zD := fun nx _ _ _ rt lv st h sy => match st with
  | a :: b :: st' => cond (or (zc_l a) (zc_l b)) false (nx rt lv (a :: b :: a :: b :: st') h sy)
  | _ => false
def zd_goto (j : Nat) : zD := fun _ jp _ _ rt lv st h sy => jp j rt lv st h sy
noncomputable def zput2 (sy : zS) (a b : zV) (ia ib : Int × Int) (k : zS → Bool) : Bool := zk_put sy a ia fun s1 => zk_put s1 b ib k
/-- a link of a comparison: one to another symbol that is there stays, if the new one does not say it too -/
noncomputable def zk_lk (sy : zS) (a b : zV) (dl : Int) (k : zS → Bool) : Bool := cond (and (Nat.beq a.1 1) (Nat.beq b.1 1)) (zk_nth sy b.2.1 fun e => zk_link sy a b dl fun sy' => cond (or (Nat.beq e.2.2.1 0) (or (Nat.beq e.2.2.1 (Nat.succ a.2.1)) (zge sy' 3 (1, b.2.1, 0) (1, Nat.pred e.2.2.1, 0) e.2.2.2))) (k sy') (k sy)) (k sy)
/-- what a comparison says of two symbols -/
noncomputable def zlk (cd : ClassFile.Cond) (br : Bool) (a b : zV) (sy : zS) (k : zS → Bool) : Bool := match cd with
  | .eq => cond br (zk_lk sy a b 0 fun s1 => zk_lk s1 b a 0 k) (k sy)
  | .ne => cond br (k sy) (zk_lk sy a b 0 fun s1 => zk_lk s1 b a 0 k)
  | .lt => cond br (zk_lk sy a b 1 k) (zk_lk sy b a 0 k)
  | .ge => cond br (zk_lk sy b a 0 k) (zk_lk sy a b 1 k)
  | .gt => cond br (zk_lk sy b a 1 k) (zk_lk sy a b 0 k)
  | .le => cond br (zk_lk sy a b 0 k) (zk_lk sy b a 1 k)
/-- not 0: below or above -/
noncomputable def znz (a b : zV) (la ha lb hb : Int) (ia ib : Int × Int) (sy : zS) (k : zS → Bool) : Bool := cond (and (zeq lb 0) (and (zeq hb 0) (and (zle la (.negSucc 0)) (zle 1 ha)))) (and (zk_put sy a (la, .negSucc 0) k) (zk_put sy a (1, ha) k)) (zput2 sy a b ia ib k)
def zisne (cd : ClassFile.Cond) (br : Bool) : Bool := match cd with
  | .eq => not br
  | .ne => br
  | _ => false
noncomputable def zbr1 (cd : ClassFile.Cond) (br : Bool) (a b : zV) (la ha lb hb : Int) (ia ib : Int × Int) (sy : zS) (k : zS → Bool) : Bool := cond (zisne cd br) (znz a b la ha lb hb ia ib sy k) (zput2 sy a b ia ib fun s1 => zlk cd br a b s1 k)
/-- links say that a comparison can't come out so -/
noncomputable def zlno (cd : ClassFile.Cond) (br : Bool) (a b : zV) (sy : zS) : Bool := and (Nat.beq a.1 1) (and (Nat.beq b.1 1) (match cd with
  | .eq => cond br (or (zge sy 3 a b 1) (zge sy 3 b a 1)) (and (zge sy 3 a b 0) (zge sy 3 b a 0))
  | .ne => cond br (and (zge sy 3 a b 0) (zge sy 3 b a 0)) (or (zge sy 3 a b 1) (zge sy 3 b a 1))
  | .lt => cond br (zge sy 3 a b 0) (zge sy 3 b a 1)
  | .ge => cond br (zge sy 3 b a 1) (zge sy 3 a b 0)
  | .gt => cond br (zge sy 3 b a 0) (zge sy 3 a b 1)
  | .le => cond br (zge sy 3 a b 1) (zge sy 3 b a 0)))
noncomputable def zbr (cd : ClassFile.Cond) (a b : zV) (sy : zS) (kt kf : zS → Bool) : Bool := cond (and (Nat.beq a.1 1) (and (Nat.beq b.1 1) (Nat.beq a.2.1 b.2.1))) (and (cond (xh_cq cd (a.2.2, a.2.2) (b.2.2, b.2.2)).1 (kt sy) true) (cond (xh_cq cd (a.2.2, a.2.2) (b.2.2, b.2.2)).2.1 (kf sy) true)) (zk_rng sy a fun la ha => zk_rng sy b fun lb hb => and (cond (and (xh_cq cd (la, ha) (lb, hb)).1 (not (zlno cd true a b sy))) (zbr1 cd true a b la ha lb hb (xh_cq cd (la, ha) (lb, hb)).2.2.1 (xh_cq cd (la, ha) (lb, hb)).2.2.2.1 sy kt) true) (cond (and (xh_cq cd (la, ha) (lb, hb)).2.1 (not (zlno cd false a b sy))) (zbr1 cd false a b la ha lb hb (xh_cq cd (la, ha) (lb, hb)).2.2.2.2.1 (xh_cq cd (la, ha) (lb, hb)).2.2.2.2.2 sy kf) true))
def znil (l : List Int) : Bool := match l with
  | [] => true
  | _ => false
/-- a long and a number: the same, or not -/
noncomputable def zlq (h : zH) (n : Nat) (c : Int) (keq kne : zH → Bool) : Bool := zk_nth h.2 n fun e => cond (zk_any e.2.2.1 (zeq c)) (keq h) (cond (zk_any e.2.2.2 (zeq c)) (kne h) (cond (znil e.2.2.1) (and (zk_set h.2 n (e.1, e.2.1, [c], e.2.2.2) fun l => keq (h.1, l)) (zk_set h.2 n (e.1, e.2.1, [], c :: e.2.2.2) fun l => kne (h.1, l))) (kne h)))
noncomputable def zlb (cd : ClassFile.Cond) (n : Nat) (c : Int) (h : zH) (kt kf : zH → Bool) : Bool := match cd with
  | .eq => zlq h n c kt kf
  | .ne => zlq h n c kf kt
  | _ => and (kt h) (kf h)
noncomputable def zd_if (cd : ClassFile.Cond) (j : Nat) : zD := fun nx jp _ _ rt lv st h sy => match st with
  | a :: st' => cond (Nat.beq a.1 11) (zlb cd a.2.1 a.2.2 h (fun h' => jp j rt lv st' h' sy) (fun h' => nx rt lv st' h' sy)) (cond (Nat.beq a.1 12) (and (jp j rt lv st' h sy) (nx rt lv st' h sy)) (zbr cd a (0, 0, 0) sy (fun sy' => jp j rt lv st' h sy') (fun sy' => nx rt lv st' h sy')))
  | _ => false
noncomputable def zd_icmp (cd : ClassFile.Cond) (j : Nat) : zD := fun nx jp _ _ rt lv st h sy => match st with
  | b :: a :: st' => zbr cd a b sy (fun sy' => jp j rt lv st' h sy') (fun sy' => nx rt lv st' h sy')
  | _ => false
noncomputable def zd_sw (keys : List Int) (t : Int × Int → Option Nat) : zD := fun _ jp _ _ rt lv st h sy => match st with
  | a :: st' => zk_rng sy a fun lo hi => zk_all (xh_cut keys lo hi) fun q => match t q with
    | none => false
    | some j => xx_f j fun j' => zk_put sy a q fun sy' => jp j' rt lv st' h sy'
  | _ => false
def zd_ret (sort : Nat) : zD := fun _ _ _ _ rt _ st h sy => match st with
  | [v] => cond (cond (Nat.beq sort 0) (zc_i v) (zc_l v)) (rt (some v) h sy) false
  | _ => false
def zd_vret : zD := fun _ _ _ _ rt _ st h sy => match st with
  | [] => rt none h sy
  | _ => false
/-! the numbers' laws -/
def zOp2 (f : zB) (F : Int32 → Int32 → Int32) : Prop := ∀ (X : zX) (a b : zV) (sy : zS) (k : zV → zS → Bool) (ρ : List Int32) (lm : List Int64) (va vb : Value), f a b sy k = true → zsat sy ρ → zv X ρ lm a va → zv X ρ lm b vb → ∃ (x y : Int32) (c : zV) (sy' : zS) (ρ' : List Int32), va = .int x ∧ vb = .int y ∧ k c sy' = true ∧ xx_e ρ ρ' ∧ zsat sy' ρ' ∧ zi ρ' c (F x y).toInt
theorem zOp2_bin {F : Int32 → Int32 → Int32} {g : zQ} (hg : zgood F g) : zOp2 (zbin g) F := by
  intro X a b sy k ρ lm va vb h hs ha hb
  obtain ⟨x, la, ha', rfl, -, h1, h2, h3⟩ := zk_rng_ok h hs ha
  obtain ⟨y, lb, hb', rfl, -, k1, k2, k3⟩ := zk_rng_ok h3 hs hb
  rw [zf_eq, zf_eq] at k3
  have q := hg la ha' lb hb' x y h1 h2 k1 k2
  obtain ⟨c, sy', ρ', g1, g2, g3, g4⟩ := zk_fresh_ok k3 hs q.1 q.2
  exact ⟨x, y, c, sy', ρ', rfl, rfl, g1, g2, g3, g4⟩
theorem zi_add {ρ : List Int32} {a : zV} {z c : Int} (h : zi ρ a z) : zi ρ (a.1, a.2.1, a.2.2 + c) (z + c) := by
  rcases h with ⟨h1, h2⟩ | ⟨h1, y, h2, h3⟩
  · exact Or.inl ⟨h1, by rw [h2]⟩
  · exact Or.inr ⟨h1, y, h2, by show z + c = y.toInt + (a.2.2 + c); omega⟩
theorem zi_0 {ρ : List Int32} {a : zV} {z : Int} (hc : Nat.beq a.1 0 = true) (h : zi ρ a z) : z = a.2.2 := by
  rcases h with ⟨_, h2⟩ | ⟨h1, _⟩
  · exact h2
  · rw [h1] at hc; cases hc
theorem zi_1 {ρ : List Int32} {a : zV} {z : Int} (hc : Nat.beq a.1 1 = true) (h : zi ρ a z) : ∃ y, ρ[a.2.1]? = some y ∧ z = y.toInt + a.2.2 := by
  rcases h with ⟨h1, _⟩ | ⟨_, h2⟩
  · rw [h1] at hc; cases hc
  · exact h2
theorem zOp2_add : zOp2 zadd (fun x y => x + y) := by
  intro X a b sy k ρ lm va vb h hs ha hb
  obtain ⟨x, la, ha', rfl, zx, h1, h2, h3⟩ := zk_rng_ok h hs ha
  obtain ⟨y, lb, hb', rfl, zy, k1, k2, k3⟩ := zk_rng_ok h3 hs hb
  rw [zf_eq, zf_eq] at k3
  cases hc : zin (la + lb) (ha' + hb') with
  | false =>
    rw [hc, cond_false] at k3
    obtain ⟨c, sy', ρ', g1, g2, g3, g4⟩ := zk_fresh_ok k3 hs (zfull_ok (x + y)).1 (zfull_ok (x + y)).2
    exact ⟨x, y, c, sy', ρ', rfl, rfl, g1, g2, g3, g4⟩
  | true =>
    rw [hc, cond_true] at k3
    have b1 := zin_ok hc
    have e : (x + y).toInt = x.toInt + y.toInt := by rw [Int32.toInt_add, xbmod (by omega) (by omega)]
    cases hb0 : Nat.beq b.1 0 with
    | true =>
      rw [hb0, cond_true, zf_eq] at k3
      refine ⟨x, y, _, sy, ρ, rfl, rfl, k3, xx_e_rf _, hs, ?_⟩
      rw [e, zi_0 hb0 zy]
      exact zi_add zx
    | false =>
      rw [hb0, cond_false] at k3
      cases ha0 : Nat.beq a.1 0 with
      | true =>
        rw [ha0, cond_true, zf_eq] at k3
        refine ⟨x, y, _, sy, ρ, rfl, rfl, k3, xx_e_rf _, hs, ?_⟩
        rw [e, zi_0 ha0 zx, Int.add_comm, Int.add_comm a.2.2]
        exact zi_add zy
      | false =>
        rw [ha0, cond_false] at k3
        obtain ⟨c, sy', ρ', g1, g2, g3, g4⟩ := zk_fresh_ok (x := x + y) k3 hs (by omega) (by omega)
        exact ⟨x, y, c, sy', ρ', rfl, rfl, g1, g2, g3, g4⟩
theorem zOp2_sub : zOp2 zsubt (fun x y => x - y) := by
  intro X a b sy k ρ lm va vb h hs ha hb
  obtain ⟨x, la, ha', rfl, zx, h1, h2, h3⟩ := zk_rng_ok h hs ha
  obtain ⟨y, lb, hb', rfl, zy, k1, k2, k3⟩ := zk_rng_ok h3 hs hb
  rw [zf_eq, zf_eq] at k3
  cases hc : zin (la - hb') (ha' - lb) with
  | false =>
    rw [hc, cond_false] at k3
    obtain ⟨c, sy', ρ', g1, g2, g3, g4⟩ := zk_fresh_ok k3 hs (zfull_ok (x - y)).1 (zfull_ok (x - y)).2
    exact ⟨x, y, c, sy', ρ', rfl, rfl, g1, g2, g3, g4⟩
  | true =>
    rw [hc, cond_true] at k3
    have b1 := zin_ok hc
    have e : (x - y).toInt = x.toInt - y.toInt := by rw [Int32.toInt_sub, xbmod (by omega) (by omega)]
    cases hb0 : Nat.beq b.1 0 with
    | true =>
      rw [hb0, cond_true, zf_eq] at k3
      refine ⟨x, y, _, sy, ρ, rfl, rfl, k3, xx_e_rf _, hs, ?_⟩
      rw [e, zi_0 hb0 zy, Int.sub_eq_add_neg, Int.sub_eq_add_neg]
      exact zi_add zx
    | false =>
      rw [hb0, cond_false] at k3
      cases ha0 : and (Nat.beq a.1 1) (and (Nat.beq b.1 1) (Nat.beq a.2.1 b.2.1)) with
      | true =>
        rw [ha0, cond_true, zf_eq] at k3
        have c1 := xan ha0
        have c2 := xan c1.2
        obtain ⟨u, u1, u2⟩ := zi_1 c1.1 zx
        obtain ⟨w, w1, w2⟩ := zi_1 c2.1 zy
        rw [Nat.eq_of_beq_eq_true c2.2, w1] at u1
        cases u1
        refine ⟨x, y, _, sy, ρ, rfl, rfl, k3, xx_e_rf _, hs, Or.inl ⟨rfl, ?_⟩⟩
        rw [e]
        show x.toInt - y.toInt = a.2.2 - b.2.2
        omega
      | false =>
        rw [ha0, cond_false] at k3
        obtain ⟨e1, q1, q2⟩ := zk_nth_ok k3
        rw [zf_eq] at q2
        have hlo : cond (and (Nat.beq a.1 1) (and (Nat.beq b.1 1) (Nat.beq e1.2.2.1 (Nat.succ b.2.1)))) (zmax (la - hb') (e1.2.2.2 + a.2.2 - b.2.2)) (la - hb') ≤ (x - y).toInt := by
          cases hq : and (Nat.beq a.1 1) (and (Nat.beq b.1 1) (Nat.beq e1.2.2.1 (Nat.succ b.2.1))) with
          | false =>
            rw [cond_false]
            omega
          | true =>
            rw [cond_true]
            have c1 := xan hq
            have c2 := xan c1.2
            obtain ⟨u, u1, u2⟩ := zi_1 c1.1 zx
            obtain ⟨w, w1, w2⟩ := zi_1 c2.1 zy
            obtain ⟨-, -, -, b3⟩ := hs.2 _ _ _ q1 u1
            have b4 := b3 _ w (Nat.eq_of_beq_eq_true c2.2) w1
            have m1 := zmax_or (la - hb') (e1.2.2.2 + a.2.2 - b.2.2)
            omega
        obtain ⟨c, sy', ρ', g1, g2, g3, g4⟩ := zk_fresh_ok (x := x - y) q2 hs hlo (by omega)
        exact ⟨x, y, c, sy', ρ', rfl, rfl, g1, g2, g3, g4⟩
theorem zput2_ok {sy : zS} {ρ : List Int32} {a b : zV} {ia ib : Int × Int} {k : zS → Bool} {z w : Int} (h : zput2 sy a b ia ib k = true) (hs : zsat sy ρ) (ha : zi ρ a z) (hb : zi ρ b w) (h1 : ia.1 ≤ z ∧ z ≤ ia.2) (h2 : ib.1 ≤ w ∧ w ≤ ib.2) : ∃ sy', k sy' = true ∧ zsat sy' ρ := by
  obtain ⟨s1, k1, k2⟩ := zk_put_ok h hs ha h1.1 h1.2
  exact zk_put_ok k1 k2 hb h2.1 h2.2
theorem zk_lk_ok {sy : zS} {ρ : List Int32} {a b : zV} {dl : Int} {k : zS → Bool} {z w : Int} (h : zk_lk sy a b dl k = true) (hs : zsat sy ρ) (ha : zi ρ a z) (hb : zi ρ b w) (h1 : z + dl ≤ w) : ∃ sy', k sy' = true ∧ zsat sy' ρ := by
  unfold zk_lk at h
  cases hc : and (Nat.beq a.1 1) (Nat.beq b.1 1) with
  | false =>
    rw [hc, cond_false] at h
    exact ⟨sy, h, hs⟩
  | true =>
    rw [hc, cond_true] at h
    obtain ⟨e, -, h2⟩ := zk_nth_ok h
    obtain ⟨s1, k1, k2⟩ := zk_link_ok h2 hs ha hb h1
    cases hd : or (Nat.beq e.2.2.1 0) (or (Nat.beq e.2.2.1 (Nat.succ a.2.1)) (zge s1 3 (1, b.2.1, 0) (1, Nat.pred e.2.2.1, 0) e.2.2.2)) with
    | true =>
      rw [hd, cond_true] at k1
      exact ⟨s1, k1, k2⟩
    | false =>
      rw [hd, cond_false] at k1
      exact ⟨sy, k1, hs⟩
theorem zlk_ok {cd : ClassFile.Cond} {br : Bool} {sy : zS} {ρ : List Int32} {a b : zV} {k : zS → Bool} {z w : Int} (h : zlk cd br a b sy k = true) (hs : zsat sy ρ) (ha : zi ρ a z) (hb : zi ρ b w) (hc : br = true ↔ xci cd z w) : ∃ sy', k sy' = true ∧ zsat sy' ρ := by
  cases cd with
  | eq =>
    cases br with
    | true =>
      have e : z = w := hc.mp rfl
      obtain ⟨s1, k1, k2⟩ := zk_lk_ok (show zk_lk sy a b 0 (fun s1 => zk_lk s1 b a 0 k) = true from h) hs ha hb (by omega)
      exact zk_lk_ok k1 k2 hb ha (by omega)
    | false => exact ⟨sy, h, hs⟩
  | ne =>
    cases br with
    | true => exact ⟨sy, h, hs⟩
    | false =>
      have e : z = w := Classical.byContradiction fun q => nomatch hc.mpr q
      obtain ⟨s1, k1, k2⟩ := zk_lk_ok (show zk_lk sy a b 0 (fun s1 => zk_lk s1 b a 0 k) = true from h) hs ha hb (by omega)
      exact zk_lk_ok k1 k2 hb ha (by omega)
  | lt =>
    cases br with
    | true => exact zk_lk_ok h hs ha hb (by have : z < w := hc.mp rfl; omega)
    | false => exact zk_lk_ok h hs hb ha (by have : ¬ z < w := fun q => nomatch hc.mpr q; omega)
  | ge =>
    cases br with
    | true => exact zk_lk_ok h hs hb ha (by have : w ≤ z := hc.mp rfl; omega)
    | false => exact zk_lk_ok h hs ha hb (by have : ¬ w ≤ z := fun q => nomatch hc.mpr q; omega)
  | gt =>
    cases br with
    | true => exact zk_lk_ok h hs hb ha (by have : w < z := hc.mp rfl; omega)
    | false => exact zk_lk_ok h hs ha hb (by have : ¬ w < z := fun q => nomatch hc.mpr q; omega)
  | le =>
    cases br with
    | true => exact zk_lk_ok h hs ha hb (by have : z ≤ w := hc.mp rfl; omega)
    | false => exact zk_lk_ok h hs hb ha (by have : ¬ z ≤ w := fun q => nomatch hc.mpr q; omega)
theorem zbr1_ok {cd : ClassFile.Cond} {br : Bool} {sy : zS} {ρ : List Int32} {a b : zV} {la ha lb hb : Int} {ia ib : Int × Int} {k : zS → Bool} {z w : Int} (h : zbr1 cd br a b la ha lb hb ia ib sy k = true) (hs : zsat sy ρ) (za : zi ρ a z) (zb : zi ρ b w) (b1 : la ≤ z) (b2 : z ≤ ha) (b3 : lb ≤ w) (b4 : w ≤ hb) (h1 : ia.1 ≤ z ∧ z ≤ ia.2) (h2 : ib.1 ≤ w ∧ w ≤ ib.2) (hc : br = true ↔ xci cd z w) : ∃ sy', k sy' = true ∧ zsat sy' ρ := by
  unfold zbr1 at h
  cases hn : zisne cd br with
  | false =>
    rw [hn, cond_false] at h
    obtain ⟨s1, k1, k2⟩ := zput2_ok h hs za zb h1 h2
    exact zlk_ok k1 k2 za zb hc
  | true =>
    rw [hn, cond_true] at h
    have hne : z ≠ w := by
      cases cd with
      | eq => cases br with
        | true => cases hn
        | false => exact fun q => nomatch hc.mpr q
      | ne => cases br with
        | true => exact hc.mp rfl
        | false => cases hn
      | _ => cases hn
    unfold znz at h
    cases hq : and (zeq lb 0) (and (zeq hb 0) (and (zle la (.negSucc 0)) (zle 1 ha))) with
    | false =>
      rw [hq, cond_false] at h
      exact zput2_ok h hs za zb h1 h2
    | true =>
      rw [hq, cond_true] at h
      have c1 := xan hq
      have c2 := xan c1.2
      have e1 := zeq_ok.mp c1.1
      have e2 := zeq_ok.mp c2.1
      have h' := xan h
      have f2 : (Int.negSucc 0 : Int) = -1 := by decide
      rcases Int.lt_or_gt_of_ne hne with q | q
      · exact zk_put_ok h'.1 hs za b1 (show z ≤ Int.negSucc 0 by omega)
      · exact zk_put_ok h'.2 hs za (show (1 : Int) ≤ z by omega) b2
theorem zge_2 {sy : zS} {ρ : List Int32} {a b : zV} {dl z w : Int} (hs : zsat sy ρ) (h : zge sy 3 a b dl = true) (ha : zi ρ a z) (hb : zi ρ b w) : w + dl ≤ z := by
  obtain ⟨z', h1, h2⟩ := zge_ok hs h hb
  rw [zi_fun h1 ha] at h2
  exact h2
theorem zlno_ok {cd : ClassFile.Cond} {br : Bool} {sy : zS} {ρ : List Int32} {a b : zV} {z w : Int} (h : zlno cd br a b sy = true) (hs : zsat sy ρ) (ha : zi ρ a z) (hb : zi ρ b w) : ¬ (br = true ↔ xci cd z w) := by
  have h1 := (xan (xan h).2).2
  have lt : ∀ {dl : Int}, zge sy 3 a b dl = true → w + dl ≤ z := fun q => zge_2 hs q ha hb
  have gt : ∀ {dl : Int}, zge sy 3 b a dl = true → z + dl ≤ w := fun q => zge_2 hs q hb ha
  intro hc
  cases cd with
  | eq =>
    cases br with
    | true =>
      have e : z = w := hc.mp rfl
      rcases zor h1 with q | q
      · have := lt q
        omega
      · have := gt q
        omega
    | false =>
      have q := xan h1
      have a1 := lt q.1
      have a2 := gt q.2
      exact nomatch hc.mpr (show z = w by omega)
  | ne =>
    cases br with
    | true =>
      have e : ¬ z = w := hc.mp rfl
      have q := xan h1
      have a1 := lt q.1
      have a2 := gt q.2
      omega
    | false =>
      have e : ¬ ¬ z = w := fun q => nomatch hc.mpr q
      rcases zor h1 with q | q
      · have := lt q
        omega
      · have := gt q
        omega
  | lt =>
    cases br with
    | true =>
      have e : z < w := hc.mp rfl
      have := lt h1
      omega
    | false =>
      have := gt h1
      exact nomatch hc.mpr (show z < w by omega)
  | ge =>
    cases br with
    | true =>
      have e : w ≤ z := hc.mp rfl
      have := gt h1
      omega
    | false =>
      have := lt h1
      exact nomatch hc.mpr (show w ≤ z by omega)
  | gt =>
    cases br with
    | true =>
      have e : w < z := hc.mp rfl
      have := gt h1
      omega
    | false =>
      have := lt h1
      exact nomatch hc.mpr (show w < z by omega)
  | le =>
    cases br with
    | true =>
      have e : z ≤ w := hc.mp rfl
      have := lt h1
      omega
    | false =>
      have := gt h1
      exact nomatch hc.mpr (show z ≤ w by omega)
theorem zbr_ok {X : zX} {cd : ClassFile.Cond} {a b : zV} {sy : zS} {ρ : List Int32} {lm : List Int64} {va vb : Value} {kt kf : zS → Bool} (h : zbr cd a b sy kt kf = true) (hs : zsat sy ρ) (ha : zv X ρ lm a va) (hb : zv X ρ lm b vb) : ∃ x y : Int32, va = .int x ∧ vb = .int y ∧ (xci cd x.toInt y.toInt → ∃ sy', kt sy' = true ∧ zsat sy' ρ) ∧ (¬ xci cd x.toInt y.toInt → ∃ sy', kf sy' = true ∧ zsat sy' ρ) := by
  unfold zbr at h
  cases hc : and (Nat.beq a.1 1) (and (Nat.beq b.1 1) (Nat.beq a.2.1 b.2.1)) with
  | true =>
    rw [hc, cond_true] at h
    have c1 := xan hc
    have c2 := xan c1.2
    obtain ⟨x, rfl, zx⟩ := zv_int (by unfold zc_i; rw [c1.1, Bool.or_true]) ha
    obtain ⟨y, rfl, zy⟩ := zv_int (by unfold zc_i; rw [c2.1, Bool.or_true]) hb
    obtain ⟨u, u1, u2⟩ := zi_1 c1.1 zx
    obtain ⟨w, w1, w2⟩ := zi_1 c2.1 zy
    rw [Nat.eq_of_beq_eq_true c2.2, w1] at u1
    cases u1
    have h' := xan h
    have hq := xcq_ok cd (a := (a.2.2, a.2.2)) (b := (b.2.2, b.2.2)) (x := a.2.2) (y := b.2.2) (Int.le_refl _) (Int.le_refl _) (Int.le_refl _) (Int.le_refl _)
    have hiff : xci cd x.toInt y.toInt ↔ xci cd a.2.2 b.2.2 := by
      cases cd <;> unfold xci <;> dsimp only <;> omega
    refine ⟨x, y, rfl, rfl, fun q => ?_, fun q => ?_⟩
    · have := (hq.1 (hiff.mp q)).1
      rw [this, cond_true] at h'
      exact ⟨sy, h'.1, hs⟩
    · have := (hq.2 (fun z => q (hiff.mpr z))).1
      rw [this, cond_true] at h'
      exact ⟨sy, h'.2, hs⟩
  | false =>
    rw [hc, cond_false] at h
    obtain ⟨x, la, ha', rfl, zx, h1, h2, h3⟩ := zk_rng_ok h hs ha
    obtain ⟨y, lb, hb', rfl, zy, k1, k2, k3⟩ := zk_rng_ok h3 hs hb
    have h' := xan k3
    have hq := xcq_ok cd (a := (la, ha')) (b := (lb, hb')) h1 h2 k1 k2
    refine ⟨x, y, rfl, rfl, fun q => ?_, fun q => ?_⟩
    · obtain ⟨q1, q2, q3⟩ := hq.1 q
      have hn : zlno cd true a b sy = false := by
        cases hz : zlno cd true a b sy with
        | false => rfl
        | true => exact absurd ⟨fun _ => q, fun _ => rfl⟩ (zlno_ok hz hs zx zy)
      rw [q1, hn] at h'
      exact zbr1_ok (show zbr1 cd true a b la ha' lb hb' _ _ sy kt = true from h'.1) hs zx zy h1 h2 k1 k2 q2 q3 ⟨fun _ => q, fun _ => rfl⟩
    · obtain ⟨q1, q2, q3⟩ := hq.2 q
      have hn : zlno cd false a b sy = false := by
        cases hz : zlno cd false a b sy with
        | false => rfl
        | true => exact absurd ⟨fun z => (nomatch z), fun z => absurd z q⟩ (zlno_ok hz hs zx zy)
      rw [q1, hn] at h'
      exact zbr1_ok (show zbr1 cd false a b la ha' lb hb' _ _ sy kf = true from h'.2) hs zx zy h1 h2 k1 k2 q2 q3 ⟨fun z => (nomatch z), fun z => absurd z q⟩
theorem zsatL_set {ly : List zJ} {lm : List Int64} (hl : zsatL ly lm) {n : Nat} {e : zJ} {x : Int64} (hx : lm[n]? = some x) (h : zlong e x) : zsatL (ly.set n e) lm := by
  have h2 := xx_2_set hl n h
  have e2 : lm.set n x = lm := by
    apply List.ext_getElem?
    intro i
    by_cases hi : i = n
    · subst hi
      rw [List.getElem?_set_self (List.getElem?_eq_some_iff.mp hx).1, hx]
    · rw [List.getElem?_set_ne (fun q => hi q.symm)]
  rw [e2] at h2
  exact h2
theorem zlq_ok {h : zH} {n : Nat} {c : Int} {keq kne : zH → Bool} {lm : List Int64} {x : Int64} (hk : zlq h n c keq kne = true) (hl : zsatL h.2 lm) (hx : lm[n]? = some x) : (x.toInt = c → ∃ l, keq (h.1, l) = true ∧ zsatL l lm) ∧ (x.toInt ≠ c → ∃ l, kne (h.1, l) = true ∧ zsatL l lm) := by
  obtain ⟨e, h1, h2⟩ := zk_nth_ok hk
  obtain ⟨x', h3, h4⟩ := xx_2_get hl h1
  rw [hx] at h3
  cases h3
  cases he : zk_any e.2.2.1 (zeq c) with
  | true =>
    rw [he, cond_true] at h2
    obtain ⟨c', q1, q2⟩ := zk_any_ok he
    have e1 := zeq_ok.mp q2
    subst e1
    exact ⟨fun _ => ⟨h.2, h2, hl⟩, fun q => absurd (h4.2.1 _ q1) q⟩
  | false =>
    rw [he, cond_false] at h2
    cases hn : zk_any e.2.2.2 (zeq c) with
    | true =>
      rw [hn, cond_true] at h2
      obtain ⟨c', q1, q2⟩ := zk_any_ok hn
      have e1 := zeq_ok.mp q2
      subst e1
      exact ⟨fun q => absurd q (h4.2.2 _ q1), fun _ => ⟨h.2, h2, hl⟩⟩
    | false =>
      rw [hn, cond_false] at h2
      cases hz : znil e.2.2.1 with
      | true =>
        rw [hz, cond_true] at h2
        have h5 := xan h2
        obtain ⟨-, h6⟩ := zk_set_ok h5.1
        obtain ⟨-, h7⟩ := zk_set_ok h5.2
        refine ⟨fun q => ⟨_, h6, zsatL_set hl hx ⟨h4.1, fun c' hc' => ?_, h4.2.2⟩⟩, fun q => ⟨_, h7, zsatL_set hl hx ⟨h4.1, fun c' hc' => absurd hc' List.not_mem_nil, fun c' hc' => ?_⟩⟩⟩
        · rw [List.mem_singleton.mp hc']
          exact q
        · rcases List.mem_cons.mp hc' with rfl | hc'
          · exact q
          · exact h4.2.2 _ hc'
      | false =>
        rw [hz, cond_false] at h2
        refine ⟨fun q => ?_, fun _ => ⟨h.2, h2, hl⟩⟩
        cases hl2 : e.2.2.1 with
        | nil => rw [hl2] at hz; cases hz
        | cons c' t =>
          have e1 : x.toInt = c' := h4.2.1 c' (by rw [hl2]; exact List.mem_cons_self)
          have e2 : c' = c := by rw [← e1]; exact q
          rw [hl2, e2] at he
          have e3 : zk_any (c :: t) (zeq c) = cond (zeq c c) true (zk_any t (zeq c)) := rfl
          rw [e3, zeq_ok.mpr rfl] at he
          cases he
