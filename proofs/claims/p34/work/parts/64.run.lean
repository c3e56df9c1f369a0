/-! the run of a contract -/
noncomputable def zd_rows (C : zCf) (md : zM) (nt : Nat) (BY : List (List Int32)) (ret : Option FieldType) (l : List xE) : List zD := List.rec (motive := fun _ => List zD) [] (fun e _ ih => zd_of C md nt BY ret e :: ih) l
def zd_nones : List xE → List zD
  | [] => []
  | _ :: l => zd_none :: zd_nones l
/-- methods made ready; constructors never run here -/
noncomputable def zd_meths (C : zCf) (md : zM) (nt : Nat) (BY : List (List Int32)) (l : List xM) : List Bool → List zMp := List.rec (motive := fun _ => List Bool → List zMp) (fun _ => []) (fun M _ ih bs => match bs with
  | [] => []
  | b :: bs' => (M.2.2.1, cond b (zd_nones M.2.2.2.2.2.2.2) (zd_rows C md nt BY M.2.2.2.1 M.2.2.2.2.2.2.2)) :: ih bs') l
noncomputable def zh_step (MP : List zMp) (C : zCf) (md : zM) (CT : List zC) (ih : zIt) : zIt := fun d R rest => match rest with
  | [] => fun _ _ _ _ _ => false
  | f :: rs => f (ih d R rs) (fun j => ih d R (xk_drop j R)) (ih d R rest) (zh_call MP C md CT ih d (ih d R rs))
noncomputable def zh_run (MP : List zMp) (C : zCf) (md : zM) (CT : List zC) (fuel : Nat) : zIt := Nat.rec (motive := fun _ => zIt) (fun _ _ _ _ _ _ _ _ => false) (fun _ ih => zh_step MP C md CT ih) fuel
/-! measures -/
def zival (ρ : List Int32) (v : zV) : Int := if v.1 = 0 then v.2.2 else (ρ.getD v.2.1 0).toInt + v.2.2
def zcl (z : Int) : Nat := min (z + 2147483648).toNat (2 ^ 33 - 1)
def zmz (ρ : List Int32) (q : Bool × zV) : Nat := zcl (if q.1 = true then - zival ρ q.2 else zival ρ q.2)
def zenc (ρ : List Int32) : List (Bool × zV) → Nat
  | [] => 0
  | q :: t => zmz ρ q * 2 ^ (33 * t.length) + zenc ρ t
noncomputable def zlt (σ : List zV) (sy : zS) (ms' : List (Bool × zV)) : List (Bool × zV) → Bool := List.rec (motive := fun _ => List (Bool × zV) → Bool) (fun _ => false) (fun q' t' ih ms => match ms with
  | [] => false
  | q :: t => cond (and (Nat.beq t'.length t.length) (cond q.1 q'.1 (not q'.1))) (zren σ [] q'.2 fun u => cond (and (zk_rng sy u zin) (zk_rng sy q.2 zin)) (or (cond q.1 (zge sy 10 u q.2 1) (zge sy 10 q.2 u 1)) (and (cond q.1 (zge sy 10 u q.2 0) (zge sy 10 q.2 u 0)) (ih t))) false) false) ms'
/-! rows with more to them: a symbol's numbers one by one; a loop's head -/
noncomputable def zd_tl (C : zCf) (md : zM) (cs : List zC) (ms0 : List (Bool × zV)) (d0 mi j : Nat) (f : zD) : zD := fun nx jp ag ca rt lv st h sy => or (match st with
  | [] => zk_any cs fun c => and (and (Nat.beq c.1 mi) (and (Nat.beq c.2.1 j) (Nat.ble c.2.2.1 d0))) (zuse C md c lv h sy (fun σ sy' => zlt σ sy' c.2.2.2.2.2.2.2.2 ms0) rt)
  | _ => false) (f nx jp ag ca rt lv st h sy)
abbrev zHt : Type := List (Nat × Nat × Nat)
noncomputable def zwr (RT : List zRu) (C : zCf) (md : zM) (GT : List zC) (ms0 : List (Bool × zV)) (d0 mi : Nat) (HT : zHt) (j : Nat) (f : zD) : zD := List.rec (motive := fun _ => zD) f (fun t _ ih => cond (Nat.beq t.1 j) (cond (Nat.beq t.2.1 0) (zd_spl t.2.2 ih) (cond (Nat.beq t.2.1 1) (zd_tl C md GT ms0 d0 mi j ih) (cond (Nat.beq t.2.1 3) (zd_or (zd_ru C RT t.2.2 ih) ih) (zd_ru C RT t.2.2 ih)))) ih) HT
noncomputable def zwl (RT : List zRu) (C : zCf) (md : zM) (GT : List zC) (ms0 : List (Bool × zV)) (d0 mi : Nat) (HT : zHt) (l : List zD) : Nat → List zD := List.rec (motive := fun _ => Nat → List zD) (fun _ => []) (fun f _ ih j => zwr RT C md GT ms0 d0 mi HT j f :: ih (Nat.succ j)) l
def zids (t : Nat) : Nat → Nat → List zV
  | 0, _ => []
  | n + 1, k => (t, k, 0) :: zids t n (Nat.succ k)
noncomputable def zgo (C : zCf) (o : zO) (h : zH) (sy : zS) (σ τ : List zV) : Bool := zmf C o.2.1.1 σ τ h sy fun σ' τ' h' sy' => and (zms σ' sy' o.2.2 σ') (zml h'.2 o.2.1.2 τ')
noncomputable def zend1 (C : zCf) (σ τ : List zV) (o : zO) : zRt := fun r h sy => match o.1 with
  | none => (match r with
    | none => zgo C o h sy σ τ
    | some _ => false)
  | some t => (match r with
    | none => false
    | some a => zmv σ τ sy t a (zgo C o h sy))
noncomputable def zends (C : zCf) (c : zC) : zRt := fun r h sy => zk_any c.2.2.2.2.2.2.2.1 fun o => zend1 C (zids 1 c.2.2.2.2.2.1.length 0) (zids 5 c.2.2.2.2.1.2.length 0) o r h sy
noncomputable def zchk (RT : List zRu) (nt : Nat) (BY : List (List Int32)) (IN : List Bool) (C : zCf) (CT GT : List zC) (fuel : Nat) (HT : zHt) (c : zC) : Bool := match xk_at (zd_meths C c.2.2.2.2.2.2.1 nt BY xMT IN) c.1 with
  | none => false
  | some N => and (zk_all c.2.2.2.2.2.2.1 fun m => and (zk_rng c.2.2.2.2.2.1 m.2.1 fun _ _ => true) (zk_rng c.2.2.2.2.2.1 m.2.2 fun _ _ => true)) (and (zk_all c.2.2.2.2.2.2.2.2 fun q => zk_rng c.2.2.2.2.2.1 q.2 fun _ _ => true) (zh_run (zd_meths C c.2.2.2.2.2.2.1 nt BY xMT IN) C c.2.2.2.2.2.2.1 CT fuel c.2.2.1 (zwl RT C c.2.2.2.2.2.2.1 GT c.2.2.2.2.2.2.2.2 c.2.2.1 c.1 HT N.2 0) (xk_drop c.2.1 (zwl RT C c.2.2.2.2.2.2.1 GT c.2.2.2.2.2.2.2.2 c.2.2.1 c.1 HT N.2 0)) (zends C c) c.2.2.2.1 [] c.2.2.2.2.1 c.2.2.2.2.2.1))
/-! what it gives -/
theorem zi_val {ρ : List Int32} {v : zV} {z : Int} (h : zi ρ v z) : zival ρ v = z := by
  unfold zival
  rcases h with ⟨h1, h2⟩ | ⟨h1, y, h2, h3⟩
  · rw [if_pos h1, h2]
  · rw [if_neg (by rw [h1]; decide), List.getD_eq_getElem?_getD, h2, h3]
    rfl
theorem zcl_lt (z : Int) : zcl z < 2 ^ 33 := by
  unfold zcl
  have : (2 : Nat) ^ 33 = 8589934592 := by decide
  omega
theorem zenc_lt (ρ : List Int32) : ∀ ms, zenc ρ ms < 2 ^ (33 * ms.length)
  | [] => by show 0 < 2 ^ (33 * 0); decide
  | q :: t => by
    have h1 := zenc_lt ρ t
    have h2 : zmz ρ q < 2 ^ 33 := zcl_lt _
    show zmz ρ q * 2 ^ (33 * t.length) + zenc ρ t < 2 ^ (33 * (t.length + 1))
    have e : (2 : Nat) ^ (33 * (t.length + 1)) = 2 ^ 33 * 2 ^ (33 * t.length) := by
      rw [← Nat.pow_add]
      congr 1
      omega
    rw [e]
    calc zmz ρ q * 2 ^ (33 * t.length) + zenc ρ t < zmz ρ q * 2 ^ (33 * t.length) + 2 ^ (33 * t.length) := Nat.add_lt_add_left h1 _
      _ = (zmz ρ q + 1) * 2 ^ (33 * t.length) := by rw [Nat.add_mul, Nat.one_mul]
      _ ≤ 2 ^ 33 * 2 ^ (33 * t.length) := Nat.mul_le_mul_right _ h2
theorem zlt_ok {σ : List zV} {sy : zS} {ρ ρt : List Int32} (hs : zsat sy ρ) (hσ : zsm ρ σ ρt) : ∀ {ms' ms : List (Bool × zV)}, zlt σ sy ms' ms = true → zenc ρt ms' < zenc ρ ms
  | [], ms, h => nomatch (show false = true from h)
  | q' :: t', ms, h => by
    cases ms with
    | nil => cases h
    | cons q t =>
      have h' : cond (and (Nat.beq t'.length t.length) (cond q.1 q'.1 (not q'.1))) (zren σ [] q'.2 fun u => cond (and (zk_rng sy u zin) (zk_rng sy q.2 zin)) (or (cond q.1 (zge sy 10 u q.2 1) (zge sy 10 q.2 u 1)) (and (cond q.1 (zge sy 10 u q.2 0) (zge sy 10 q.2 u 0)) (zlt σ sy t' t))) false) false = true := h
      obtain ⟨c0, h1⟩ := zcd h' rfl
      have c1 := xan c0
      have el : t'.length = t.length := Nat.eq_of_beq_eq_true c1.1
      obtain ⟨u, u1, u2, u3, -⟩ := zren_ok (X := ((((0 : Nat), (id : Nat → Nat), (id : Nat → Nat)), (0 : Nat)), ([] : List Nat))) (lm := []) (lt := []) h1 hσ trivial
      obtain ⟨c2, h2⟩ := zcd u1 rfl
      have c3 := xan c2
      obtain ⟨zu, lo, hi, a1, a2, a3, a4⟩ := zk_rng_i c3.1 hs
      obtain ⟨zq, lo', hi', b1, b2, b3, b4⟩ := zk_rng_i c3.2 hs
      have a5 := zin_ok a4
      have b5 := zin_ok b4
      have v1 : zival ρt q'.2 = zu := zi_val (u3 zu a1)
      have v2 : zival ρ q.2 = zq := zi_val b1
      have e33 : (2 : Nat) ^ 33 = 8589934592 := by decide
      have strict : cond q.1 (zge sy 10 u q.2 1) (zge sy 10 q.2 u 1) = true → zmz ρt q' < zmz ρ q := by
        intro hq
        unfold zmz zcl
        rw [v1, v2]
        cases hb : q.1 with
        | true =>
          rw [hb] at hq
          have hb' : q'.1 = true := by have := c1.2; rw [hb] at this; exact this
          rw [hb', if_pos rfl, if_pos rfl]
          obtain ⟨w, w1, w2⟩ := zge_ok hs hq b1
          rw [zi_fun w1 a1] at w2
          omega
        | false =>
          rw [hb] at hq
          have hb' : q'.1 = false := by have := c1.2; rw [hb] at this; simpa using this
          rw [hb', if_neg (by decide), if_neg (by decide)]
          obtain ⟨w, w1, w2⟩ := zge_ok hs hq a1
          rw [zi_fun w1 b1] at w2
          omega
      have weak : cond q.1 (zge sy 10 u q.2 0) (zge sy 10 q.2 u 0) = true → zmz ρt q' ≤ zmz ρ q := by
        intro hq
        unfold zmz zcl
        rw [v1, v2]
        cases hb : q.1 with
        | true =>
          rw [hb] at hq
          have hb' : q'.1 = true := by have := c1.2; rw [hb] at this; exact this
          rw [hb', if_pos rfl, if_pos rfl]
          obtain ⟨w, w1, w2⟩ := zge_ok hs hq b1
          rw [zi_fun w1 a1] at w2
          omega
        | false =>
          rw [hb] at hq
          have hb' : q'.1 = false := by have := c1.2; rw [hb] at this; simpa using this
          rw [hb', if_neg (by decide), if_neg (by decide)]
          obtain ⟨w, w1, w2⟩ := zge_ok hs hq a1
          rw [zi_fun w1 b1] at w2
          omega
      show zmz ρt q' * 2 ^ (33 * t'.length) + zenc ρt t' < zmz ρ q * 2 ^ (33 * t.length) + zenc ρ t
      rcases zor h2 with hq | hq
      · have h3 := strict hq
        have h4 := zenc_lt ρt t'
        rw [el] at h4 ⊢
        calc zmz ρt q' * 2 ^ (33 * t.length) + zenc ρt t' < zmz ρt q' * 2 ^ (33 * t.length) + 2 ^ (33 * t.length) := Nat.add_lt_add_left h4 _
          _ = (zmz ρt q' + 1) * 2 ^ (33 * t.length) := by rw [Nat.add_mul, Nat.one_mul]
          _ ≤ zmz ρ q * 2 ^ (33 * t.length) := Nat.mul_le_mul_right _ h3
          _ ≤ zmz ρ q * 2 ^ (33 * t.length) + zenc ρ t := Nat.le_add_right _ _
      · have c5 := xan hq
        have h3 := weak c5.1
        have h4 := zlt_ok hs hσ c5.2
        rw [el]
        exact Nat.add_lt_add_of_le_of_lt (Nat.mul_le_mul_right _ h3) h4
theorem zenc_ext {ρ ρ' : List Int32} (e : xx_e ρ ρ') : ∀ {ms : List (Bool × zV)}, (∀ q ∈ ms, ∃ z, zi ρ q.2 z) → zenc ρ' ms = zenc ρ ms
  | [], _ => rfl
  | q :: t, h => by
    obtain ⟨z, hz⟩ := h q List.mem_cons_self
    show zmz ρ' q * 2 ^ (33 * t.length) + zenc ρ' t = zmz ρ q * 2 ^ (33 * t.length) + zenc ρ t
    rw [zenc_ext e (fun q' hq' => h q' (List.mem_cons_of_mem _ hq'))]
    unfold zmz
    rw [zi_val hz, zi_val (zi_mono e hz)]
theorem zids_s {ρ : List Int32} : ∀ {n k : Nat} {l : List Int32}, l.length = n → (∀ i x, l[i]? = some x → ρ[k + i]? = some x) → zsm ρ (zids 1 n k) l
  | 0, k, l, hl, h => by
    cases l with
    | nil => trivial
    | cons x l => cases hl
  | n + 1, k, l, hl, h => by
    cases l with
    | nil => cases hl
    | cons x l =>
      refine ⟨Or.inr ⟨rfl, x, ?_, ?_⟩, zids_s (by simpa using hl) (fun i y hy => ?_)⟩
      · have := h 0 x rfl
        rw [Nat.add_zero] at this
        exact this
      · show x.toInt = x.toInt + 0
        omega
      · have := h (i + 1) y (by simpa using hy)
        rw [show k + (i + 1) = Nat.succ k + i by omega] at this
        exact this
theorem zids_t {X : zX} {ρ : List Int32} {lm : List Int64} : ∀ {n k : Nat} {l : List Int64}, l.length = n → (∀ i x, l[i]? = some x → lm[k + i]? = some x) → ztm X ρ lm (zids 5 n k) l
  | 0, k, l, hl, h => by
    cases l with
    | nil => trivial
    | cons x l => cases hl
  | n + 1, k, l, hl, h => by
    cases l with
    | nil => cases hl
    | cons x l =>
      refine ⟨⟨x, ?_, rfl⟩, zids_t (by simpa using hl) (fun i y hy => ?_)⟩
      · have := h 0 x rfl
        rw [Nat.add_zero] at this
        exact this
      · have := h (i + 1) y (by simpa using hy)
        rw [show k + (i + 1) = Nat.succ k + i by omega] at this
        exact this
theorem zgo_ok {E : zEn} (hSP : E.2.1.1.length ≤ 83) (hX : zXok E.2.1 E.2.2.1) {o : zO} {h : zH} {sy : zS} {σ τ : List zV} {ρ ρt : List Int32} {lm lt : List Int64} {ws : va_W} (hk : zgo E.2.1 o h sy σ τ = true) (hs : zsat sy ρ) (hl : zsatL h.2 lm) (hT : zTw E.1 E.2.1.1 E.2.2.1 ws) (hF : zfa E.2.2.1 E.2.2.2.2.1 ρ lm ws h.1) (hσ : zsm ρ σ ρt) (hτ : ztm E.2.2.1 ρ lm τ lt) : ∃ ρt' lt', xx_e ρt ρt' ∧ xx_e lt lt' ∧ zsat o.2.2 ρt' ∧ zsatL o.2.1.2 lt' ∧ zfa E.2.2.1 E.2.2.2.2.1 ρt' lt' ws o.2.1.1 := by
  have hlen : ∀ (k : Nat) (y : zY), zsp E.2.1.1 k = some y → k < ws.length := fun k y hy => by
    have := hX k y hy
    rw [hT.2.1, List.length_map] at this
    exact this
  obtain ⟨σ', τ', h', sy', ρ', ρt', lm', lt', n1, n2, n3, n4, n5, n6, n7, n8, n9, n10, n11⟩ := zmf_ok hSP hT hlen hk hs hl hF hσ hτ
  have c := xan n1
  exact ⟨ρt', lt', n9, n10, zms_sat c.1 n4 n7, zml_sat n5 c.2 n8, n11⟩
/-- a run's end is one of the contract's -/
theorem zends_ok {E : zEn} (hSP : E.2.1.1.length ≤ 83) (hX : zXok E.2.1 E.2.2.1) {c : zC} {ρ0 : List Int32} {lm0 : List Int64} {ws0 : va_W} {K : yK} (h1 : zsat c.2.2.2.2.2.1 ρ0) (h2 : zsatL c.2.2.2.2.1.2 lm0) (hP : E.2.2.2.1.2 = zP ρ0 c.2.2.2.2.2.2.1) (hK : ∀ r ws', zEnd E.1 E.2.1 E.2.2.2.2.1 E.2.2.1 c ρ0 lm0 ws0 r ws' → K r ws') : zRT E (zends E.2.1 c) ρ0 lm0 ws0 K := by
  intro r h sy ρ lm ws rv hr e1 e2 hs hl hT hF hA hret
  obtain ⟨o, ho, hk⟩ := zk_any_ok hr
  have hσ : zsm ρ (zids 1 c.2.2.2.2.2.1.length 0) ρ0 := zids_s h1.1.symm (fun i x hx => by rw [Nat.zero_add]; exact xx_e_get e1 hx)
  have hτ : ztm E.2.2.1 ρ lm (zids 5 c.2.2.2.2.1.2.length 0) lm0 := zids_t (xx_2_len h2).symm (fun i x hx => by rw [Nat.zero_add]; exact xx_e_get e2 hx)
  refine hK rv ws ⟨o, ho, ?_⟩
  rw [hP] at hA
  unfold zend1 at hk
  cases hor : o.1 with
  | none =>
    rw [hor] at hk
    cases r with
    | some a => cases hk
    | none =>
      obtain ⟨ρt', lt', q1, q2, q3, q4, q5⟩ := zgo_ok hSP hX hk hs hl hT hF hσ hτ
      refine ⟨ρt', lt', q1, q2, q3, q4, hT, q5, hA, ?_⟩
      rcases hret with ⟨-, z2⟩ | ⟨a, v, z1, -⟩
      · exact Or.inl ⟨rfl, z2⟩
      · cases z1
  | some t =>
    rw [hor] at hk
    cases r with
    | none => cases hk
    | some a =>
      rcases hret with ⟨z1, -⟩ | ⟨a', v, z1, z2, z3⟩
      · cases z1
      · cases z1
        obtain ⟨σ1, τ1, ρ1, l1, k1, k2, k3, k4, k5, k6⟩ := zmv_ok (show zmv _ _ sy t a (zgo E.2.1 o h sy) = true from hk) hs hσ hτ z3
        obtain ⟨ρt', lt', q1, q2, q3, q4, q5⟩ := zgo_ok hSP hX k1 hs hl hT hF k2 k3
        exact ⟨ρt', lt', xx_e_tr k4 q1, xx_e_tr k5 q2, q3, q4, hT, q5, hA, Or.inr ⟨t, v, rfl, z2, zv_mono q1 q2 k6⟩⟩
/-- a loop's head -/
theorem zs_tl {E : zEn} (hJo : zJok E.1 E.2.1.2 E.2.2.2.2.1) (hSP : E.2.1.1.length ≤ 83) (hX : zXok E.2.1 E.2.2.1) {GT : List zC} {ms0 : List (Bool × zV)} {d0 mi j : Nat} {M : xM} {e : xE} {f : zD} (hM : xMT[mi]? = some M) (he : M.2.2.2.2.2.2.2[j]? = some e) (hms : ∀ q ∈ ms0, ∃ z, zi E.2.2.2.2.2 q.2 z) (hG : ∀ c ∈ GT, ∀ ρt, zenc ρt c.2.2.2.2.2.2.2.2 < zenc E.2.2.2.2.2 ms0 → zCokA E.1 E.2.1 E.2.2.2.2.1 c ρt) (hf : zHok E M d0 e f) : zHok E M d0 e (zd_tl E.2.1 E.2.2.2.1.1 GT ms0 d0 mi j f) := by
  intro nx jp ag ca hn hj hag hca
  intro rt lv st h sy hk ρ lm lvC stC ws ws0 K hR hA hJ hT
  rcases zor hk with hk | hk
  · cases st with
    | cons a st => cases hk
    | nil =>
      obtain ⟨c, c1, c2⟩ := zk_any_ok hk
      have c3 := xan c2
      have c4 := xan c3.1
      have c5 := xan c4.2
      have e1 := Nat.eq_of_beq_eq_true c4.1
      have e2 := Nat.eq_of_beq_eq_true c5.1
      have est := xx_2_nil hR.2.2.2.2.2
      subst est
      obtain ⟨lvC', w1, w2⟩ := zuse_ok (c := c) (M := M) (e := e) hJo hSP hX (by rw [e1]; exact hM) (by rw [e2]; exact he) c3.2 hR.1 hR.2.1 hR.2.2.1 hR.2.2.2.1 hR.2.2.2.2.1 hA hJ (fun σ sy' ρ' ρt hchk hext hs' hσ' => hG c c1 ρt (by
        have h1 := zlt_ok hs' hσ' hchk
        rw [zenc_ext (xx_e_tr hJ.1 hext) hms] at h1
        exact h1))
      refine yOk_wk w1 (yOk_d (Nat.le_of_ble_eq_true c5.2) (yOk_mono (fun r w ha => ?_) w2))
      obtain ⟨zr, h', sy', ρ', lm', q1, q2, q3, q4, q5, q6, q7, q8, q9⟩ := ha
      exact hT zr h' sy' ρ' lm' w r q1 q2 q3 q4 q5 q6 q7 q8 q9
  · exact hf nx jp ag ca hn hj hag hca rt lv st h sy hk ρ lm lvC stC ws ws0 K hR hA hJ hT
theorem zwr_ok {E : zEn} {RT : List zRu} (hRT : ∀ r ∈ RT, zRuOk E.2.2.2.2.1 r) (hJo : zJok E.1 E.2.1.2 E.2.2.2.2.1) (hSP : E.2.1.1.length ≤ 83) (hX : zXok E.2.1 E.2.2.1) {GT : List zC} {ms0 : List (Bool × zV)} {d0 mi j : Nat} {M : xM} {e : xE} {f : zD} (hM : xMT[mi]? = some M) (he : M.2.2.2.2.2.2.2[j]? = some e) (hms : ∀ q ∈ ms0, ∃ z, zi E.2.2.2.2.2 q.2 z) (hG : ∀ c ∈ GT, ∀ ρt, zenc ρt c.2.2.2.2.2.2.2.2 < zenc E.2.2.2.2.2 ms0 → zCokA E.1 E.2.1 E.2.2.2.2.1 c ρt) (hf : zHok E M d0 e f) : ∀ HT : zHt, zHok E M d0 e (zwr RT E.2.1 E.2.2.2.1.1 GT ms0 d0 mi HT j f)
  | [] => hf
  | t :: HT => by
    have ih := zwr_ok hRT hJo hSP hX hM he hms hG hf HT
    show zHok E M d0 e (cond (Nat.beq t.1 j) (cond (Nat.beq t.2.1 0) (zd_spl t.2.2 (zwr RT E.2.1 E.2.2.2.1.1 GT ms0 d0 mi HT j f)) (cond (Nat.beq t.2.1 1) (zd_tl E.2.1 E.2.2.2.1.1 GT ms0 d0 mi j (zwr RT E.2.1 E.2.2.2.1.1 GT ms0 d0 mi HT j f)) (cond (Nat.beq t.2.1 3) (zd_or (zd_ru E.2.1 RT t.2.2 (zwr RT E.2.1 E.2.2.2.1.1 GT ms0 d0 mi HT j f)) (zwr RT E.2.1 E.2.2.2.1.1 GT ms0 d0 mi HT j f)) (zd_ru E.2.1 RT t.2.2 (zwr RT E.2.1 E.2.2.2.1.1 GT ms0 d0 mi HT j f))))) (zwr RT E.2.1 E.2.2.2.1.1 GT ms0 d0 mi HT j f))
    cases Nat.beq t.1 j with
    | false => exact ih
    | true =>
      rw [cond_true]
      cases Nat.beq t.2.1 0 with
      | true => exact fun nx jp ag ca hn hj hag hca => zs_spl (ih nx jp ag ca hn hj hag hca)
      | false =>
        rw [cond_false]
        cases Nat.beq t.2.1 1 with
        | true => exact zs_tl hJo hSP hX hM he hms hG ih
        | false =>
          rw [cond_false]
          cases Nat.beq t.2.1 3 with
          | true => exact fun nx jp ag ca hn hj hag hca => zs_or (zs_ru hRT hJo hSP hX (ih nx jp ag ca hn hj hag hca)) (ih nx jp ag ca hn hj hag hca)
          | false => exact fun nx jp ag ca hn hj hag hca => zs_ru hRT hJo hSP hX (ih nx jp ag ca hn hj hag hca)
theorem zwl_at {RT : List zRu} {C : zCf} {md : zM} {GT : List zC} {ms0 : List (Bool × zV)} {d0 mi : Nat} {HT : zHt} : ∀ (l : List zD) (j i : Nat), (zwl RT C md GT ms0 d0 mi HT l j)[i]? = (l[i]?).map (zwr RT C md GT ms0 d0 mi HT (j + i))
  | [], j, i => by show ([] : List zD)[i]? = _; simp
  | f :: l, j, 0 => rfl
  | f :: l, j, i + 1 => by
    show (zwr RT C md GT ms0 d0 mi HT j f :: zwl RT C md GT ms0 d0 mi HT l (Nat.succ j))[i + 1]? = _
    rw [List.getElem?_cons_succ, List.getElem?_cons_succ, zwl_at l (Nat.succ j) i, show Nat.succ j + i = j + (i + 1) by omega]
theorem zwl_len {RT : List zRu} {C : zCf} {md : zM} {GT : List zC} {ms0 : List (Bool × zV)} {d0 mi : Nat} {HT : zHt} : ∀ (l : List zD) (j : Nat), (zwl RT C md GT ms0 d0 mi HT l j).length = l.length
  | [], _ => rfl
  | f :: l, j => by
    show (zwr RT C md GT ms0 d0 mi HT j f :: zwl RT C md GT ms0 d0 mi HT l (Nat.succ j)).length = _
    rw [List.length_cons, List.length_cons, zwl_len l (Nat.succ j)]
theorem zd_rows_at {C : zCf} {md : zM} {nt : Nat} {BY : List (List Int32)} {ret : Option FieldType} : ∀ (l : List xE) (i : Nat), (zd_rows C md nt BY ret l)[i]? = (l[i]?).map (zd_of C md nt BY ret)
  | [], i => by show ([] : List zD)[i]? = _; simp
  | e :: l, 0 => rfl
  | e :: l, i + 1 => by
    show (zd_of C md nt BY ret e :: zd_rows C md nt BY ret l)[i + 1]? = _
    rw [List.getElem?_cons_succ, List.getElem?_cons_succ]
    exact zd_rows_at l i
theorem zd_rows_len {C : zCf} {md : zM} {nt : Nat} {BY : List (List Int32)} {ret : Option FieldType} : ∀ (l : List xE), (zd_rows C md nt BY ret l).length = l.length
  | [] => rfl
  | e :: l => by
    show (zd_of C md nt BY ret e :: zd_rows C md nt BY ret l).length = _
    rw [List.length_cons, List.length_cons, zd_rows_len l]
theorem zd_nones_at : ∀ (l : List xE) (i : Nat) (f : zD), (zd_nones l)[i]? = some f → f = zd_none
  | [], i, f, h => by simp [zd_nones] at h
  | e :: l, 0, f, h => by
    have : zd_none = f := Option.some.inj h
    exact this.symm
  | e :: l, i + 1, f, h => zd_nones_at l i f (by simpa [zd_nones] using h)
theorem zd_nones_len : ∀ (l : List xE), (zd_nones l).length = l.length
  | [] => rfl
  | e :: l => by
    show (zd_none :: zd_nones l).length = _
    rw [List.length_cons, List.length_cons, zd_nones_len l]
/-- what is fixed: the classes, the rows, the kinds -/
def zBase (IN : List Bool) : Prop := (∀ (ci : Nat) (q : vw_C), xcl[ci]? = some q → ∃ df, xCf ci q (xTY ci) df) ∧ xJd ∧ (∀ M ∈ xMT, xmvb M = true) ∧ (∀ (i : Nat) (M : xM) (b : Bool), xMT[i]? = some M → IN[i]? = some b → b = false → M.1.name ≠ "<init>") ∧ ∀ (mi : Nat) (M : xM), xMT[mi]? = some M → M.2.2.2.2.2.2.2 ≠ []
theorem zd_meths_at {C : zCf} {md : zM} {nt : Nat} {BY : List (List Int32)} : ∀ (l : List xM) (bs : List Bool) (i : Nat) (N : zMp), (zd_meths C md nt BY l bs)[i]? = some N → ∃ M b, l[i]? = some M ∧ bs[i]? = some b ∧ N = (M.2.2.1, cond b (zd_nones M.2.2.2.2.2.2.2) (zd_rows C md nt BY M.2.2.2.1 M.2.2.2.2.2.2.2))
  | [], bs, i, N, h => by
    have h' : ([] : List zMp)[i]? = some N := h
    simp at h'
  | M :: l, [], i, N, h => by
    have h' : ([] : List zMp)[i]? = some N := h
    simp at h'
  | M :: l, b :: bs, 0, N, h => ⟨M, b, rfl, rfl, (Option.some.inj h).symm⟩
  | M :: l, b :: bs, i + 1, N, h => by
    have h' : ((M.2.2.1, cond b (zd_nones M.2.2.2.2.2.2.2) (zd_rows C md nt BY M.2.2.2.1 M.2.2.2.2.2.2.2)) :: zd_meths C md nt BY l bs)[i + 1]? = some N := h
    rw [List.getElem?_cons_succ] at h'
    obtain ⟨M', b', q1, q2, q3⟩ := zd_meths_at l bs i N h'
    exact ⟨M', b', by simpa using q1, by simpa using q2, q3⟩
theorem zmeths_ok {E : zEn} {IN : List Bool} (hB : zBase IN) (hJo : zJok E.1 E.2.1.2 E.2.2.2.2.1) (hSP : E.2.1.1.length ≤ 83) (hno : ∀ (k : Nat) (o : Nat × List zT), zsp E.2.1.1 k = some (.inl o) → Nat.beq o.1 1000 = false) {nt : Nat} {BY : List (List Int32)} (hnt : nt = xBY.length) (hBY : BY = xBY) (mi : Nat) (N : zMp) (hN : (zd_meths E.2.1 E.2.2.2.1.1 nt BY xMT IN)[mi]? = some N) : ∃ M, xMT[mi]? = some M ∧ N.1 = M.2.2.1 ∧ ∀ d, zRok E M d N.2 := by
  obtain ⟨M, b, h1, h2, rfl⟩ := zd_meths_at _ _ _ _ hN
  refine ⟨M, h1, rfl, fun d => ?_⟩
  cases b with
  | true =>
    refine ⟨zd_nones_len _, fun j e f _ hf => ?_⟩
    rw [zd_nones_at _ _ _ hf]
    exact fun _ _ _ _ _ _ _ _ => znok_none (fun _ _ _ _ _ => rfl)
  | false =>
    refine ⟨zd_rows_len _, fun j e f he hf => ?_⟩
    have hf' : (zd_rows E.2.1 E.2.2.2.1.1 nt BY M.2.2.2.1 M.2.2.2.2.2.2.2)[j]? = some f := hf
    rw [zd_rows_at, he] at hf'
    have ef : zd_of E.2.1 E.2.2.2.1.1 nt BY M.2.2.2.1 e = f := Option.some.inj hf'
    rw [← ef]
    have hv := xallb_ok (xan (hB.2.2.1 M (List.mem_of_getElem? h1))).2 e (List.mem_of_getElem? he)
    obtain ⟨pc, len, ins, a1, a2, a3, w⟩ := e
    exact zstep_ok hB.1 hB.2.1 hJo hSP hno hnt hBY (hB.2.2.2.1 mi M false h1 h2 rfl) hv
theorem zrun_ok {E : zEn} {IN : List Bool} (hB : zBase IN) (hJo : zJok E.1 E.2.1.2 E.2.2.2.2.1) (hSP : E.2.1.1.length ≤ 83) (hX : zXok E.2.1 E.2.2.1) (hno : ∀ (k : Nat) (o : Nat × List zT), zsp E.2.1.1 k = some (.inl o) → Nat.beq o.1 1000 = false) {nt : Nat} {BY : List (List Int32)} (hnt : nt = xBY.length) (hBY : BY = xBY) {CT : List zC} (hCT : ∀ c ∈ CT, zCok E.1 E.2.1 E.2.2.2.2.1 c) : ∀ fuel, zIok E (zh_run (zd_meths E.2.1 E.2.2.2.1.1 nt BY xMT IN) E.2.1 E.2.2.2.1.1 CT fuel)
  | 0 => fun _ _ _ _ _ _ _ _ _ => znok_none (fun _ _ _ _ _ => rfl)
  | n + 1 => by
    have hI := zrun_ok hB hJo hSP hX hno hnt hBY hCT n
    intro mi N hN d R hR j pc hpc
    cases hdr : R.drop j with
    | nil => exact znok_none (fun _ _ _ _ _ => rfl)
    | cons f rs =>
      have hf : R[j]? = some f := by
        have : (R.drop j)[0]? = some f := by rw [hdr]; rfl
        rw [List.getElem?_drop, Nat.add_zero] at this
        exact this
      have hj : j < N.2.2.2.2.2.2.2.length := by rw [← hR.1]; exact (List.getElem?_eq_some_iff.mp hf).1
      have he : N.2.2.2.2.2.2.2[j]? = some N.2.2.2.2.2.2.2[j] := List.getElem?_eq_getElem hj
      generalize N.2.2.2.2.2.2.2[j] = e at he
      have hpe := hpc e he
      subst hpe
      have hrs : rs = R.drop (j + 1) := by
        have := congrArg (List.drop 1) hdr
        rw [List.drop_drop] at this
        exact this.symm
      have hm := xan (hB.2.2.1 N (List.mem_of_getElem? hN))
      have hn : zNok E N d (e.1 + e.2.1) (zh_run (zd_meths E.2.1 E.2.2.2.1.1 nt BY xMT IN) E.2.1 E.2.2.2.1.1 CT n d R rs) := by
        rw [hrs]
        refine hI mi N hN d R hR (j + 1) _ (fun e' he' => ?_)
        have hsp : N.2.2.2.2.2.2.2 = N.2.2.2.2.2.2.2.take j ++ e :: e' :: N.2.2.2.2.2.2.2.drop (j + 2) := by
          have h1 : N.2.2.2.2.2.2.2.drop j = e :: N.2.2.2.2.2.2.2.drop (j + 1) := by
            rw [List.drop_eq_getElem_cons hj]
            congr 1
            exact (List.getElem?_eq_some_iff.mp he).2
          have hj' := (List.getElem?_eq_some_iff.mp he').1
          have h2 : N.2.2.2.2.2.2.2.drop (j + 1) = e' :: N.2.2.2.2.2.2.2.drop (j + 2) := by
            rw [List.drop_eq_getElem_cons hj']
            congr 1
            exact (List.getElem?_eq_some_iff.mp he').2
          rw [← h2, ← h1]
          exact (List.take_append_drop j _).symm
        have hch := hm.1
        rw [hsp] at hch
        exact xchain_ok hch
      have hag := hI mi N hN d R hR j e.1 (fun e' he' => by rw [he] at he'; cases he'; rfl)
      rw [hdr] at hag
      have hjp : ∀ (j' : Nat) (t : xE), N.2.2.2.2.2.2.2[j']? = some t → zNok E N d t.1 ((fun j => zh_run (zd_meths E.2.1 E.2.2.2.1.1 nt BY xMT IN) E.2.1 E.2.2.2.1.1 CT n d R (xk_drop j R)) j') := by
        intro j' t ht
        show zNok E N d t.1 (zh_run (zd_meths E.2.1 E.2.2.2.1.1 nt BY xMT IN) E.2.1 E.2.2.2.1.1 CT n d R (xk_drop j' R))
        rw [xk_drop_eq]
        exact hI mi N hN d R hR j' t.1 (fun e' he' => by rw [ht] at he'; cases he'; rfl)
      have hca := zcall_ok hJo hSP hX (zmeths_ok hB hJo hSP hno hnt hBY) hCT hI hB.2.2.2.2 d (zh_run (zd_meths E.2.1 E.2.2.2.1.1 nt BY xMT IN) E.2.1 E.2.2.2.1.1 CT n d R rs)
      exact hR.2 j e f he hf _ _ _ _ hn hjp hag hca
/-- contracts whose runs are through hold -/
theorem zgrp_ok {g : yG} {C : zCf} {J : zJp} {RT : List zRu} {IN : List Bool} (hRT : ∀ r ∈ RT, zRuOk J r) (hB : zBase IN) (hJo : zJok g C.2 J) (hSP : C.1.length ≤ 83) (hno : ∀ (k : Nat) (o : Nat × List zT), zsp C.1 k = some (.inl o) → Nat.beq o.1 1000 = false) {nt : Nat} {BY : List (List Int32)} (hnt : nt = xBY.length) (hBY : BY = xBY) {CT : List zC} (hCT : ∀ c ∈ CT, zCok g C J c) {fuel : Nat} {L : List (zC × zHt)} (hL : ∀ p ∈ L, zchk RT nt BY IN C CT (L.map Prod.fst) fuel p.2 p.1 = true) : ∀ p ∈ L, zCok g C J p.1 := by
  have main : ∀ n, ∀ p ∈ L, ∀ ρ, zenc ρ p.1.2.2.2.2.2.2.2.2 < n → zCokA g C J p.1 ρ := by
    intro n
    induction n with
    | zero => exact fun p _ ρ h => absurd h (Nat.not_lt_zero _)
    | succ n ih =>
      intro p hp ρ hρ
      obtain ⟨c, HT⟩ := p
      intro M e hM he X ws lm lvC K hX hs hl hT hF hv hK
      have hk := hL _ hp
      unfold zchk at hk
      rw [xk_at_eq] at hk
      dsimp only at hk
      cases hN : (zd_meths C c.2.2.2.2.2.2.1 nt BY xMT IN)[c.1]? with
      | none => rw [hN] at hk; cases hk
      | some N =>
        rw [hN] at hk
        have k1 := xan hk
        have k2 := xan k1.2
        let E : zEn := (g, C, X, (c.2.2.2.2.2.2.1, zP ρ c.2.2.2.2.2.2.1), J, ρ)
        obtain ⟨M', m1, m2, m3⟩ := zmeths_ok (E := E) hB hJo hSP hno hnt hBY c.1 N hN
        have eM : M = M' := Option.some.inj (hM.symm.trans m1)
        subst eM
        have hms : ∀ q ∈ c.2.2.2.2.2.2.2.2, ∃ z, zi ρ q.2 z := fun q hq => by
          obtain ⟨z, lo, hi, z1, -⟩ := zk_rng_i (zk_all_ok k2.1 q hq) hs
          exact ⟨z, z1⟩
        have hG : ∀ c' ∈ L.map Prod.fst, ∀ ρt, zenc ρt c'.2.2.2.2.2.2.2.2 < zenc ρ c.2.2.2.2.2.2.2.2 → zCokA g C J c' ρt := by
          intro c' hc' ρt hlt
          obtain ⟨p', hp', rfl⟩ := List.mem_map.mp hc'
          exact ih p' hp' ρt (Nat.lt_of_lt_of_le hlt (Nat.le_of_lt_succ hρ))
        have hRok : zRok E M c.2.2.1 (zwl RT C c.2.2.2.2.2.2.1 (L.map Prod.fst) c.2.2.2.2.2.2.2.2 c.2.2.1 c.1 HT N.2 0) := by
          refine ⟨by rw [zwl_len]; exact (m3 c.2.2.1).1, fun j e' f he' hf => ?_⟩
          rw [zwl_at, Nat.zero_add] at hf
          cases hq : N.2[j]? with
          | none => rw [hq] at hf; cases hf
          | some f0 =>
            rw [hq] at hf
            have ef : zwr RT C c.2.2.2.2.2.2.1 (L.map Prod.fst) c.2.2.2.2.2.2.2.2 c.2.2.1 c.1 HT j f0 = f := Option.some.inj hf
            rw [← ef]
            exact zwr_ok (E := E) hRT hJo hSP hX hM he' hms hG ((m3 c.2.2.1).2 j e' f0 he' hq) HT
        have hrun := zrun_ok (E := E) hB hJo hSP hX hno hnt hBY hCT fuel c.1 M hM c.2.2.1 _ hRok c.2.1 e.1 (fun e' he' => by rw [he] at he'; cases he'; rfl)
        have hk3 := k2.2
        rw [xk_drop_eq] at hk3
        have hmd : zmd E.2.2.2.1.1 E.2.2.2.1.2 E.2.2.2.2.2 ρ := ⟨xx_e_rf _, fun m hm => by
          have q := xan (zk_all_ok k1.1 m hm)
          obtain ⟨z, lo, hi, z1, -⟩ := zk_rng_i q.1 hs
          obtain ⟨z', lo', hi', z1', -⟩ := zk_rng_i q.2 hs
          exact ⟨z, z', z1, z1', fun j h1 h2 => ⟨m, hm, rfl, z, z', z1, z1', h1, h2⟩⟩⟩
        exact hrun _ _ _ _ _ hk3 ρ lm lvC [] ws ws K ⟨hs, hl, hT, hF, hv, trivial⟩ (zag_rf _ _) hmd (zends_ok (E := E) hSP hX hs hl rfl hK)
  exact fun p hp ρ => main _ p hp ρ (Nat.lt_succ_self _)
