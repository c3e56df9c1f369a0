/-! THE CHECKED RUN, in words that are cheap to compute. A value: (0, n) the int n; (1, k) the k-th symbol; (2, _) null; (3, k) the k-th cell; (4, n) the long n; (5, _) some long; (6, _) the script; (7, k) the k-th text; (8, k) its bytes; (9, _) nothing known; (10, _) some reference, or null. -/
abbrev xV : Type := Nat × Nat
abbrev xS : Type := List (Int × Int)
abbrev xA : Type := FieldType × Nat × (Nat ⊕ (Int × Int))
abbrev xC : Type := (Nat × List xV) ⊕ xA
/-- how many cells, and the cells, twelve to a row -/
abbrev xH : Type := Nat × List (List xC)
/-- place, length, instruction, three numbers for what it links or where it jumps, the place of its word -/
abbrev xE : Type := Nat × Nat × Instr × Nat × Nat × Nat × Nat
/-- a method: name, bytes, locals, answer, cells and slots that it may make, arguments, its rows -/
abbrev xM : Type := MethodName × ByteArray × Nat × Option FieldType × Nat × Nat × Nat × List xE
abbrev xO : Type := Option xV × xH × xS
abbrev xR : Type := Option (List xO)
/-- locals, stack, cells, symbols, cells and slots made so far -/
abbrev xN : Type := List xV → List xV → xH → xS → Nat → Nat → xR
/-- a call: which method, its arguments, the stack behind it -/
abbrev xK : Type := Nat → List xV → List xV → List xV → xH → xS → Nat → Nat → xR
/-- an instruction: how it goes on, where it jumps, again, how it calls -/
abbrev xD : Type := xN → (Nat → xN) → xN → xK → xN
/-- a method made ready: locals, cells, slots, arguments, its instructions -/
abbrev xP : Type := Nat × Nat × Nat × Nat × List xD
/-- what is the same all through: the methods, the fields each class begins with, the texts' bytes, the script's length -/
abbrev xG : Type := List xP × List (List xV) × List (List Int32) × xV
noncomputable def xk_nth {α β : Type} (l : List α) : Nat → (α → Option β) → Option β := List.rec (motive := fun _ => Nat → (α → Option β) → Option β) (fun _ _ => none) (fun a _ ih n k => Nat.rec (motive := fun _ => Option β) (k a) (fun m _ => ih m k) n) l
noncomputable def xk_set {α β : Type} (l : List α) : Nat → α → (List α → Option β) → Option β := List.rec (motive := fun _ => Nat → α → (List α → Option β) → Option β) (fun _ _ _ => none) (fun a t ih n v k => Nat.rec (motive := fun _ => Option β) (k (v :: t)) (fun m _ => ih m v (fun t' => k (a :: t'))) n) l
def xk_push {α β : Type} : List α → α → Nat → (List α → Nat → Option β) → Option β
  | [], x, n, k => k [x] n
  | a :: l, x, n, k => xk_push l x (Nat.succ n) (fun l' m => k (a :: l') m)
/-- the first n of a list, turned round, and the rest -/
noncomputable def xk_take {α β : Type} (n : Nat) : List α → List α → (List α → List α → Option β) → Option β := Nat.rec (motive := fun _ => List α → List α → (List α → List α → Option β) → Option β) (fun acc l k => k acc l) (fun _ ih acc l k => List.rec (motive := fun _ => Option β) none (fun a t _ => ih (a :: acc) t k) l) n
noncomputable def xk_drop {α : Type} (n : Nat) : List α → List α := Nat.rec (motive := fun _ => List α → List α) (fun l => l) (fun _ ih l => List.rec (motive := fun _ => List α) [] (fun _ t _ => ih t) l) n
noncomputable def xk_at {α : Type} (l : List α) : Nat → Option α := List.rec (motive := fun _ => Nat → Option α) (fun _ => none) (fun a _ ih n => Nat.rec (motive := fun _ => Option α) (some a) (fun m _ => ih m) n) l
noncomputable def xk_hget {β : Type} (h : xH) (i : Nat) (k : xC → Option β) : Option β := xk_nth h.2 (Nat.div i 12) fun c => xk_nth c (Nat.mod i 12) k
noncomputable def xk_hset {β : Type} (h : xH) (i : Nat) (v : xC) (k : xH → Option β) : Option β := xk_nth h.2 (Nat.div i 12) fun c => xk_set c (Nat.mod i 12) v fun c' => xk_set h.2 (Nat.div i 12) c' fun hs => k (h.1, hs)
def xc_i (a : xV) : Bool := or (Nat.beq a.1 0) (Nat.beq a.1 1)
def xc_l (a : xV) : Bool := or (Nat.beq a.1 4) (Nat.beq a.1 5)
def xc_r (a : xV) : Bool := or (Nat.beq a.1 3) (or (Nat.beq a.1 6) (or (Nat.beq a.1 7) (Nat.beq a.1 8)))
def xs_full : Int × Int := (-2147483648, 2147483647)
def xh_fresh (sy : xS) (iv : Int × Int) (k : xV → xS → xR) : xR := xk_push sy iv 0 (fun sy' n => k (1, n) sy')
/-- an int, moved up so that the order is that of numbers from 0 on -/
def xo (n : Nat) : Nat := Nat.mod (Nat.add n 2147483648) 4294967296
/-- between which numbers an int lies -/
def xh_rng (sy : xS) (a : xV) : Option (Int × Int) := match a.1 with
  | 0 => some ((Int32.ofNat a.2).toInt, (Int32.ofNat a.2).toInt)
  | 1 => sy[a.2]?
  | _ => none
def xh_within (sy : xS) (a : xV) (lo hi : Int) : Bool := match xh_rng sy a with
  | some iv => decide (lo ≤ iv.1) && decide (iv.2 ≤ hi)
  | none => false
/-- 0 int, 1 boolean, 2 byte, 3 char, 4 short, 5 long, 6 reference -/
def xh_fit (c : Nat) (a : xV) (sy : xS) : Bool := match c with
  | 0 => xc_i a
  | 1 => xh_within sy a 0 1
  | 2 => xh_within sy a (-128) 127
  | 3 => xh_within sy a 0 65535
  | 4 => xh_within sy a (-32768) 32767
  | 5 => xc_l a
  | 6 => or (xc_r a) (Nat.beq a.1 2)
  | _ => false
def xh_tc (ty : FieldType) : Nat := match ty with
  | .int => 0
  | .boolean => 1
  | .byte => 2
  | .char => 3
  | .short => 4
  | .long => 5
  | .object _ => 6
  | .array _ => 6
  | _ => 7
def xh_cap (iv : Int × Int) : Int × Int := if decide (-2147483648 ≤ iv.1) && decide (iv.2 ≤ 2147483647) then iv else xs_full
def xg_any (_ _ : Int × Int) : Int × Int := xs_full
def xg_add (a b : Int × Int) : Int × Int := xh_cap (a.1 + b.1, a.2 + b.2)
def xg_sub (a b : Int × Int) : Int × Int := xh_cap (a.1 - b.2, a.2 - b.1)
def xh_binS (g : Int × Int → Int × Int → Int × Int) (b a : xV) (sy : xS) (k : xV → xS → xR) : xR := match xh_rng sy a with
  | none => none
  | some ia => match xh_rng sy b with
    | none => none
    | some ib => xh_fresh sy (g ia ib) k
def xh_bin (f : Nat → Nat → Nat) (g : Int × Int → Int × Int → Int × Int) (b a : xV) (sy : xS) (k : xV → xS → xR) : xR := cond (and (Nat.beq a.1 0) (Nat.beq b.1 0)) (xx_f (f a.2 b.2) fun n => k (0, n) sy) (xh_binS g b a sy k)
/-- the int operations on numbers -/
def xn_add (a b : Nat) : Nat := Nat.mod (Nat.add a b) 4294967296
def xn_sub (a b : Nat) : Nat := Nat.mod (Nat.add a (Nat.sub 4294967296 (Nat.mod b 4294967296))) 4294967296
def xn_mul (a b : Nat) : Nat := Nat.mod (Nat.mul a b) 4294967296
def xn_of (f : Int32 → Int32 → Int32) (a b : Nat) : Nat := xx_n (f (Int32.ofNat a) (Int32.ofNat b))
def xh_all {α : Type} : List α → (α → xR) → xR
  | [], _ => some []
  | o :: os, k => match k o with
    | none => none
    | some x => match xh_all os k with
      | none => none
      | some y => some (x ++ y)
def xh_put (sy : xS) (a : xV) (iv : Int × Int) : xS := if a.1 = 1 then sy.set a.2 iv else sy
/-- numbers from lo on -/
def xh_num (lo : Int) : Nat → List Int
  | 0 => []
  | n + 1 => lo :: xh_num (lo + 1) n
/-- a symbol's numbers, one by one -/
def xh_conc (sy : xS) (a : xV) (k : xV → xS → xR) : xR := match xh_rng sy a with
  | none => none
  | some iv => if iv.2 - iv.1 < 64 then xh_all (xh_num iv.1 (iv.2 - iv.1 + 1).toNat) fun z => xx_f (xx_n (Int32.ofInt z)) fun n => k (0, n) (xh_put sy a (z, z)) else none
def xh_few (sy : xS) (a : xV) : Bool := match xh_rng sy a with
  | none => false
  | some iv => decide (iv.2 - iv.1 < 64)
/-! comparing -/
def xh_cc (c : ClassFile.Cond) (x y : Nat) : Bool := match c with
  | .eq => Nat.beq (xo x) (xo y)
  | .ne => not (Nat.beq (xo x) (xo y))
  | .lt => Nat.ble (Nat.succ (xo x)) (xo y)
  | .ge => Nat.ble (xo y) (xo x)
  | .gt => Nat.ble (Nat.succ (xo y)) (xo x)
  | .le => Nat.ble (xo x) (xo y)
abbrev xQ : Type := Bool × Bool × (Int × Int) × (Int × Int) × (Int × Int) × (Int × Int)
/-- of two ranges: can it be, can it not be, and what the two are then -/
def xh_lt (a b : Int × Int) : xQ := (decide (a.1 < b.2), decide (b.1 ≤ a.2), (a.1, min a.2 (b.2 - 1)), (max b.1 (a.1 + 1), b.2), (max a.1 b.1, a.2), (b.1, min b.2 a.2))
def xh_le (a b : Int × Int) : xQ := (decide (a.1 ≤ b.2), decide (b.1 < a.2), (a.1, min a.2 b.2), (max b.1 a.1, b.2), (max a.1 (b.1 + 1), a.2), (b.1, min b.2 (a.2 - 1)))
/-- a range without a number at its edge -/
def xh_trim (a b : Int × Int) : Int × Int := if b.1 = b.2 then (if a.1 = b.1 then a.1 + 1 else a.1, if a.2 = b.1 then a.2 - 1 else a.2) else a
def xh_eq (a b : Int × Int) : xQ := (decide (a.1 ≤ b.2) && decide (b.1 ≤ a.2), !(decide (a.1 = a.2) && decide (b.1 = b.2) && decide (a.1 = b.1)), (max a.1 b.1, min a.2 b.2), (max a.1 b.1, min a.2 b.2), xh_trim a b, xh_trim b a)
def xh_flip (q : xQ) : xQ := (q.2.1, q.1, q.2.2.2.2.1, q.2.2.2.2.2, q.2.2.1, q.2.2.2.1)
def xh_cq (c : ClassFile.Cond) (a b : Int × Int) : xQ := match c with
  | .eq => xh_eq a b
  | .ne => xh_flip (xh_eq a b)
  | .lt => xh_lt a b
  | .ge => xh_flip (xh_lt a b)
  | .gt => xh_flip (xh_le a b)
  | .le => xh_le a b
def xh_both (a b : xR) : xR := match a with
  | none => none
  | some x => match b with
    | none => none
    | some y => some (x ++ y)
def xh_brS (c : ClassFile.Cond) (a b : xV) (sy : xS) (kt kf : xS → xR) : xR :=
  cond (and (Nat.beq a.1 1) (and (Nat.beq b.1 1) (Nat.beq a.2 b.2))) (cond (xh_cc c 0 0) (kt sy) (kf sy)) (match xh_rng sy a with
    | none => none
    | some ia => match xh_rng sy b with
      | none => none
      | some ib => xh_both (cond (xh_cq c ia ib).1 (kt (xh_put (xh_put sy a (xh_cq c ia ib).2.2.1) b (xh_cq c ia ib).2.2.2.1)) (some [])) (cond (xh_cq c ia ib).2.1 (kf (xh_put (xh_put sy a (xh_cq c ia ib).2.2.2.2.1) b (xh_cq c ia ib).2.2.2.2.2)) (some [])))
def xh_br (c : ClassFile.Cond) (a b : xV) (sy : xS) (kt kf : xS → xR) : xR := cond (and (Nat.beq a.1 0) (Nat.beq b.1 0)) (cond (xh_cc c a.2 b.2) (kt sy) (kf sy)) (xh_brS c a b sy kt kf)
/-- a range, cut at keys -/
def xh_cut : List Int → Int → Int → List (Int × Int)
  | [], l, u => [(l, u)]
  | m :: ms, l, u => if m < l then xh_cut ms l u else if u < m then [(l, u)] else (if l < m then [(l, m - 1)] else []) ++ (m, m) :: (if m < u then xh_cut ms (m + 1) u else [])
def xh_ttab (lo hi : Int) (dft N : Nat) (iv : Int × Int) : Option Nat := if decide (iv.2 < lo) || decide (hi < iv.1) then some dft else if decide (iv.1 = iv.2) then some (xx_g 16 N (iv.1 - lo).toNat) else none
def xh_tlook : List (Int × Int) → Nat → Nat → Nat → Int × Int → Option Nat
  | [], _, dft, _, _ => some dft
  | p :: ps, j, dft, N, iv => if decide (iv.2 < p.1) || decide (p.1 < iv.1) then xh_tlook ps (j + 1) dft N iv else if decide (iv.1 = iv.2) then some (xx_g 16 N j) else none
def xh_sw (keys : List Int) (t : Int × Int → Option Nat) (a : xV) (sy : xS) (k : Nat → xS → xR) : xR := cond (Nat.beq a.1 0) (match t ((Int32.ofNat a.2).toInt, (Int32.ofNat a.2).toInt) with
    | none => none
    | some j => xx_f j fun j' => k j' sy) (match xh_rng sy a with
    | none => none
    | some iv => xh_all (xh_cut keys iv.1 iv.2) fun q => match t q with
      | none => none
      | some j => xx_f j fun j' => k j' (xh_put sy a q))
/-- is the int n a place in a row of len -/
def xh_in (n len : Nat) : Bool := and (Nat.ble 2147483648 (xo n)) (Nat.ble (Nat.succ (xo n)) (Nat.add len 2147483648))
def xh_ix (n : Nat) : Nat := Nat.sub (xo n) 2147483648
/-- 0: int, 1: byte or boolean, 2: long -/
def xh_kind (ty : FieldType) : Nat := match ty with
  | .int => 0
  | .byte => 1
  | .boolean => 1
  | .long => 2
  | _ => 9
/-- how many words a stack has -/
noncomputable def xh_words (l : List xV) : Nat := List.rec (motive := fun _ => Nat) 0 (fun a _ ih => Nat.add (cond (xc_l a) 2 1) ih) l
/-- arguments as locals -/
def xh_lay : List xV → List xV
  | [] => []
  | a :: l => cond (xc_l a) (a :: (9, 0) :: xh_lay l) (a :: xh_lay l)
/-- n places, the rest unknown -/
noncomputable def xk_pad {β : Type} (n : Nat) : List xV → (List xV → Option β) → Option β := Nat.rec (motive := fun _ => List xV → (List xV → Option β) → Option β) (fun l k => match l with
    | [] => k []
    | _ :: _ => none) (fun _ ih l k => List.rec (motive := fun _ => Option β) (ih [] fun t => k ((9, 0) :: t)) (fun a t _ => ih t fun t' => k (a :: t')) l) n
/-! the instructions -/
def xd_none : xD := fun _ _ _ _ _ _ _ _ _ _ => none
def xd_push (v : xV) : xD := fun nx _ _ _ lv st h sy ce sl => nx lv (v :: st) h sy ce sl
noncomputable def xd_ld (t : xV → Bool) (i : Nat) : xD := fun nx _ _ _ lv st h sy ce sl => xk_nth lv i fun a => cond (t a) (nx lv (a :: st) h sy ce sl) none
/-- the place ahead of i holds no long -/
noncomputable def xh_nl (lv : List xV) (i : Nat) : Bool := Nat.rec (motive := fun _ => Bool) true (fun j _ => match xk_at lv j with
  | some a => not (xc_l a)
  | none => false) i
noncomputable def xd_st1 (t : xV → Bool) (i : Nat) : xD := fun nx _ _ _ lv st h sy ce sl => match st with
  | v :: st' => cond (and (t v) (xh_nl lv i)) (xk_set lv i v fun lv' => nx lv' st' h sy ce sl) none
  | _ => none
noncomputable def xd_st2 (i : Nat) : xD := fun nx _ _ _ lv st h sy ce sl => match st with
  | v :: st' => cond (and (xc_l v) (xh_nl lv i)) (xk_set lv i v fun lv' => xk_set lv' (Nat.succ i) (9, 0) fun lv'' => nx lv'' st' h sy ce sl) none
  | _ => none
noncomputable def xd_inc (i n : Nat) : xD := fun nx _ _ _ lv st h sy ce sl => xk_nth lv i fun a => cond (xh_nl lv i) (xh_bin xn_add xg_add (0, n) a sy fun v sy' => xk_set lv i v fun lv' => nx lv' st h sy' ce sl) none
def xd_bin (f : Nat → Nat → Nat) (g : Int × Int → Int × Int → Int × Int) : xD := fun nx _ _ _ lv st h sy ce sl => match st with
  | b :: a :: st' => xh_bin f g b a sy fun v sy' => nx lv (v :: st') h sy' ce sl
  | _ => none
/-- and: the script's first int and 63 is a symbol of its own -/
def xd_and (G : xG) : xD := fun nx _ _ _ lv st h sy ce sl => match st with
  | b :: a :: st' => cond (and (Nat.beq a.1 1) (and (Nat.beq a.2 0) (and (Nat.beq b.1 0) (and (Nat.beq b.2 63) (and (Nat.beq G.2.2.2.1 0) (Nat.beq G.2.2.2.2 6)))))) (nx lv ((1, 6) :: st') h sy ce sl) (xh_bin (xn_of fun x y => x &&& y) xg_any b a sy fun v sy' => nx lv (v :: st') h sy' ce sl)
  | _ => none
/-- a sum, 0 left out -/
def xd_add : xD := fun nx _ _ _ lv st h sy ce sl => match st with
  | b :: a :: st' => cond (and (Nat.beq b.1 1) (and (Nat.beq a.1 0) (Nat.beq a.2 0))) (nx lv (b :: st') h sy ce sl) (xh_bin xn_add xg_add b a sy fun v sy' => nx lv (v :: st') h sy' ce sl)
  | _ => none
/-- division and rest, by a number that is not 0 -/
def xd_div (f : Nat → Nat → Nat) : xD := fun nx _ _ _ lv st h sy ce sl => match st with
  | b :: a :: st' => cond (and (Nat.beq b.1 0) (not (Nat.beq (Nat.mod b.2 4294967296) 0))) (xh_bin f xg_any b a sy fun v sy' => nx lv (v :: st') h sy' ce sl) none
  | _ => none
/-- a product: symbols of few numbers are taken one by one first -/
def xd_mul : xD := fun nx _ ag _ lv st h sy ce sl => match st with
  | b :: a :: st' => cond (and (Nat.beq a.1 1) (xh_few sy a)) (xh_conc sy a fun a' sy' => ag lv (b :: a' :: st') h sy' ce sl) (cond (and (Nat.beq b.1 1) (xh_few sy b)) (xh_conc sy b fun b' sy' => ag lv (b' :: a :: st') h sy' ce sl) (xh_bin xn_mul xg_any b a sy fun v sy' => nx lv (v :: st') h sy' ce sl))
  | _ => none
def xd_un (f : Int32 → Int32) : xD := fun nx _ _ _ lv st h sy ce sl => match st with
  | a :: st' => cond (Nat.beq a.1 0) (xx_f (xx_n (f (Int32.ofNat a.2))) fun n => nx lv ((0, n) :: st') h sy ce sl) (cond (xc_i a) (xh_fresh sy xs_full fun v sy' => nx lv (v :: st') h sy' ce sl) none)
  | _ => none
def xd_lbin (f : Int64 → Int64 → Int64) : xD := fun nx _ _ _ lv st h sy ce sl => match st with
  | b :: a :: st' => cond (and (Nat.beq a.1 4) (Nat.beq b.1 4)) (xx_f (xx_ln (f (Int64.ofNat a.2) (Int64.ofNat b.2))) fun n => nx lv ((4, n) :: st') h sy ce sl) (cond (and (xc_l a) (xc_l b)) (nx lv ((5, 0) :: st') h sy ce sl) none)
  | _ => none
def xd_lsh (f : Int64 → Int32 → Int64) : xD := fun nx _ _ _ lv st h sy ce sl => match st with
  | b :: a :: st' => cond (and (Nat.beq a.1 4) (Nat.beq b.1 0)) (xx_f (xx_ln (f (Int64.ofNat a.2) (Int32.ofNat b.2))) fun n => nx lv ((4, n) :: st') h sy ce sl) (cond (and (xc_l a) (xc_i b)) (nx lv ((5, 0) :: st') h sy ce sl) none)
  | _ => none
def xd_i2l : xD := fun nx _ _ _ lv st h sy ce sl => match st with
  | a :: st' => cond (Nat.beq a.1 0) (xx_f (xx_ln (Int32.ofNat a.2).toInt64) fun n => nx lv ((4, n) :: st') h sy ce sl) (cond (xc_i a) (nx lv ((5, 0) :: st') h sy ce sl) none)
  | _ => none
def xd_l2i : xD := fun nx _ _ _ lv st h sy ce sl => match st with
  | a :: st' => cond (Nat.beq a.1 4) (xx_f (xx_n (Int64.ofNat a.2).toInt32) fun n => nx lv ((0, n) :: st') h sy ce sl) (cond (xc_l a) (xh_fresh sy xs_full fun v sy' => nx lv (v :: st') h sy' ce sl) none)
  | _ => none
def xd_lcmp : xD := fun nx _ _ _ lv st h sy ce sl => match st with
  | b :: a :: st' => cond (and (Nat.beq a.1 4) (Nat.beq b.1 4)) (xx_f (xx_n (lg_cmp (Int64.ofNat a.2) (Int64.ofNat b.2))) fun n => nx lv ((0, n) :: st') h sy ce sl) (cond (and (xc_l a) (xc_l b)) (xh_fresh sy xs_full fun v sy' => nx lv (v :: st') h sy' ce sl) none)
  | _ => none
def xd_dup : xD := fun nx _ _ _ lv st h sy ce sl => match st with
  | a :: st' => cond (xc_l a) none (nx lv (a :: a :: st') h sy ce sl)
  | _ => none
def xd_pop : xD := fun nx _ _ _ lv st h sy ce sl => match st with
  | a :: st' => cond (xc_l a) none (nx lv st' h sy ce sl)
  | _ => none
def xd_dup2 : xD := fun nx _ _ _ lv st h sy ce sl => match st with
  | a :: b :: st' => cond (or (xc_l a) (xc_l b)) none (nx lv (a :: b :: a :: b :: st') h sy ce sl)
  | _ => none
def xd_goto (j : Nat) : xD := fun _ jp _ _ lv st h sy ce sl => jp j lv st h sy ce sl
def xd_if (c : ClassFile.Cond) (j : Nat) : xD := fun nx jp _ _ lv st h sy ce sl => match st with
  | a :: st' => xh_br c a (0, 0) sy (fun sy' => jp j lv st' h sy' ce sl) (fun sy' => nx lv st' h sy' ce sl)
  | _ => none
def xd_icmp (c : ClassFile.Cond) (j : Nat) : xD := fun nx jp _ _ lv st h sy ce sl => match st with
  | b :: a :: st' => xh_br c a b sy (fun sy' => jp j lv st' h sy' ce sl) (fun sy' => nx lv st' h sy' ce sl)
  | _ => none
def xd_sw (keys : List Int) (t : Int × Int → Option Nat) : xD := fun _ jp _ _ lv st h sy ce sl => match st with
  | a :: st' => xh_sw keys t a sy fun j sy' => jp j lv st' h sy' ce sl
  | _ => none
noncomputable def xd_get (G : xG) (a1 a2 : Nat) : xD := fun nx _ _ _ lv st h sy ce sl => match st with
  | a :: st' => cond (Nat.beq a.1 3) (xk_hget h a.2 fun c => match c with
      | .inl o => cond (Nat.beq o.1 a1) (xk_nth o.2 a2 fun v => nx lv (v :: st') h sy ce sl) none
      | .inr _ => none) (cond (and (Nat.beq a.1 7) (and (Nat.beq a1 1000) (Nat.ble (Nat.succ a.2) G.2.2.1.length))) (cond (Nat.beq a2 0) (nx lv ((0, 0) :: st') h sy ce sl) (cond (Nat.beq a2 1) (nx lv ((8, a.2) :: st') h sy ce sl) none)) none)
  | _ => none
noncomputable def xd_putf (a1 a2 a3 : Nat) : xD := fun nx _ _ _ lv st h sy ce sl => match st with
  | v :: a :: st' => cond (and (Nat.beq a.1 3) (xh_fit a3 v sy)) (xk_hget h a.2 fun c => match c with
      | .inl o => cond (Nat.beq o.1 a1) (xk_set o.2 a2 v fun fs => xk_hset h a.2 (.inl (o.1, fs)) fun h' => nx lv st' h' sy ce sl) none
      | .inr _ => none) none
  | _ => none
noncomputable def xd_ald (G : xG) (kd : Nat) : xD := fun nx _ ag _ lv st h sy ce sl => match st with
  | i :: a :: st' => cond (Nat.beq i.1 0) (cond (Nat.beq a.1 3) (xk_hget h a.2 fun c => match c with
        | .inl _ => none
        | .inr r => cond (and (Nat.beq (xh_kind r.1) kd) (xh_in i.2 r.2.1)) (match r.2.2 with
            | .inl N => xx_f (xx_g 32 N (xh_ix i.2)) fun n => nx lv ((0, n) :: st') h sy ce sl
            | .inr iv => xh_fresh sy iv fun v sy' => nx lv (v :: st') h sy' ce sl) none)
      (cond (and (Nat.beq a.1 6) (Nat.beq kd 0)) (cond (and (xh_in i.2 6) (and (Nat.beq G.2.2.2.1 0) (Nat.beq G.2.2.2.2 6))) (xx_f (xh_ix i.2) fun n => nx lv ((1, n) :: st') h sy ce sl) none)
      (cond (and (Nat.beq a.1 8) (Nat.beq kd 1)) (xk_nth G.2.2.1 a.2 fun bs => cond (xh_in i.2 bs.length) (xx_f (xx_n (bs.getD (xh_ix i.2) 0)) fun n => nx lv ((0, n) :: st') h sy ce sl) none) none)))
    (xh_conc sy i fun i' sy' => ag lv (i' :: a :: st') h sy' ce sl)
  | _ => none
noncomputable def xd_ast (kd : Nat) : xD := fun nx _ ag _ lv st h sy ce sl => match st with
  | v :: i :: a :: st' => cond (Nat.beq i.1 0) (cond (and (Nat.beq a.1 3) (xc_i v)) (xk_hget h a.2 fun c => match c with
        | .inl _ => none
        | .inr r => cond (and (Nat.beq (xh_kind r.1) kd) (xh_in i.2 r.2.1)) (match r.2.2 with
            | .inl N => cond (Nat.beq v.1 0) (xx_f (xx_p 32 N (xh_ix i.2) (cond (Nat.beq kd 0) v.2 (xx_n (vp_nar r.1 (Int32.ofNat v.2))))) fun N' => xk_hset h a.2 (.inr (r.1, r.2.1, .inl N')) fun h' => nx lv st' h' sy ce sl) (xk_hset h a.2 (.inr (r.1, r.2.1, .inr xs_full)) fun h' => nx lv st' h' sy ce sl)
            | .inr _ => xk_hset h a.2 (.inr (r.1, r.2.1, .inr xs_full)) fun h' => nx lv st' h' sy ce sl) none) none)
    (xh_conc sy i fun i' sy' => ag lv (v :: i' :: a :: st') h sy' ce sl)
  | _ => none
noncomputable def xd_lald : xD := fun nx _ _ _ lv st h sy ce sl => match st with
  | i :: a :: st' => cond (and (Nat.beq i.1 0) (Nat.beq a.1 3)) (xk_hget h a.2 fun c => match c with
      | .inl _ => none
      | .inr r => cond (and (Nat.beq (xh_kind r.1) 2) (xh_in i.2 r.2.1)) (match r.2.2 with
          | .inl N => xx_f (xx_g 64 N (xh_ix i.2)) fun n => nx lv ((4, n) :: st') h sy ce sl
          | .inr _ => nx lv ((5, 0) :: st') h sy ce sl) none) none
  | _ => none
noncomputable def xd_last : xD := fun nx _ _ _ lv st h sy ce sl => match st with
  | v :: i :: a :: st' => cond (and (Nat.beq i.1 0) (and (Nat.beq a.1 3) (xc_l v))) (xk_hget h a.2 fun c => match c with
      | .inl _ => none
      | .inr r => cond (and (Nat.beq (xh_kind r.1) 2) (xh_in i.2 r.2.1)) (match r.2.2 with
          | .inl N => cond (Nat.beq v.1 4) (xx_f (xx_p 64 N (xh_ix i.2) v.2) fun N' => xk_hset h a.2 (.inr (r.1, r.2.1, .inl N')) fun h' => nx lv st' h' sy ce sl) (xk_hset h a.2 (.inr (r.1, r.2.1, .inr xs_full)) fun h' => nx lv st' h' sy ce sl)
          | .inr _ => xk_hset h a.2 (.inr (r.1, r.2.1, .inr xs_full)) fun h' => nx lv st' h' sy ce sl) none) none
  | _ => none
noncomputable def xd_alen (G : xG) : xD := fun nx _ _ _ lv st h sy ce sl => match st with
  | a :: st' => cond (Nat.beq a.1 3) (xk_hget h a.2 fun c => match c with
      | .inl _ => none
      | .inr r => nx lv ((0, r.2.1) :: st') h sy ce sl)
    (cond (Nat.beq a.1 6) (nx lv (G.2.2.2 :: st') h sy ce sl)
    (cond (Nat.beq a.1 8) (xk_nth G.2.2.1 a.2 fun bs => nx lv ((0, bs.length) :: st') h sy ce sl) none))
  | _ => none
noncomputable def xd_newa (mc ms : Nat) (ty : FieldType) : xD := fun nx _ _ _ lv st h sy ce sl => match st with
  | a :: st' => cond (and (Nat.beq a.1 0) (and (xh_in a.2 65537) (and (Nat.ble (Nat.succ ce) mc) (and (Nat.ble (Nat.add sl (xh_ix a.2)) ms) (Nat.ble (xh_kind ty) 2))))) (xx_f (xh_ix a.2) fun n => xk_hset h h.1 (.inr (ty, n, .inl 0)) fun h' => nx lv ((3, h.1) :: st') (Nat.succ h'.1, h'.2) sy (Nat.succ ce) (Nat.add sl n)) none
  | _ => none
noncomputable def xd_new (G : xG) (mc ms a1 : Nat) : xD := fun nx _ _ _ lv st h sy ce sl => xk_nth G.2.1 a1 fun df => cond (and (Nat.ble (Nat.succ ce) mc) (Nat.ble (Nat.add sl df.length) ms)) (xk_hset h h.1 (.inl (a1, df)) fun h' => nx lv ((3, h.1) :: st) (Nat.succ h'.1, h'.2) sy (Nat.succ ce) (Nat.add sl df.length)) none
noncomputable def xd_virt (G : xG) (n mi ci : Nat) : xD := fun _ _ _ ca lv st h sy ce sl => xk_take n [] st fun as r => match r with
  | [] => none
  | b :: rest => cond (Nat.beq b.1 3) (xk_hget h b.2 fun c => match c with
      | .inl o => cond (Nat.beq o.1 ci) (ca mi (b :: as) rest lv h sy ce sl) none
      | .inr _ => none) (cond (and (Nat.beq b.1 7) (and (Nat.beq ci 1000) (Nat.ble (Nat.succ b.2) G.2.2.1.length))) (ca mi (b :: as) rest lv h sy ce sl) none)
noncomputable def xd_init (n mi : Nat) : xD := fun _ _ _ ca lv st h sy ce sl => xk_take n [] st fun as r => match r with
  | [] => none
  | b :: rest => cond (Nat.beq b.1 3) (ca mi (b :: as) rest lv h sy ce sl) none
noncomputable def xd_stat (n mi : Nat) : xD := fun _ _ _ ca lv st h sy ce sl => xk_take n [] st fun as rest => ca mi as rest lv h sy ce sl
noncomputable def xd_obj : xD := fun nx _ _ _ lv st h sy ce sl => match st with
  | b :: st' => cond (and (Nat.beq b.1 3) (Nat.ble (xh_words st') 8)) (nx lv st' h sy ce sl) none
  | _ => none
/-- n numbers of one row to another's places -/
def xh_cpy (N0 : Nat) : Nat → Nat → Nat → Nat → Nat
  | 0, _, _, N1 => N1
  | n + 1, sp, dp, N1 => xx_f (xx_p 32 N1 dp (xx_g 32 N0 sp)) fun N2 => xh_cpy N0 n (Nat.succ sp) (Nat.succ dp) N2
noncomputable def xd_copy : xD := fun nx _ _ _ lv st h sy ce sl => match st with
  | n :: dp :: b :: sp :: a :: st' => cond (and (Nat.beq n.1 0) (and (Nat.beq dp.1 0) (and (Nat.beq sp.1 0) (and (Nat.beq a.1 3) (and (Nat.beq b.1 3) (and (not (Nat.beq a.2 b.2)) (Nat.ble (xh_words st') 8))))))) (xk_hget h a.2 fun ca => xk_hget h b.2 fun cb => match ca with
      | .inl _ => none
      | .inr ra => match cb with
        | .inl _ => none
        | .inr rb => cond (and (Nat.beq (xh_kind ra.1) 0) (and (Nat.beq (xh_kind rb.1) 0) (and (Nat.ble 2147483648 (xo n.2)) (and (Nat.ble 2147483648 (xo dp.2)) (and (Nat.ble 2147483648 (xo sp.2)) (and (Nat.ble (Nat.add (xh_ix sp.2) (xh_ix n.2)) ra.2.1) (Nat.ble (Nat.add (xh_ix dp.2) (xh_ix n.2)) rb.2.1))))))) (match ra.2.2 with
          | .inr _ => none
          | .inl N0 => match rb.2.2 with
            | .inr _ => none
            | .inl N1 => xx_f (xh_cpy N0 (xh_ix n.2) (xh_ix sp.2) (xh_ix dp.2) N1) fun N2 => xk_hset h b.2 (.inr (rb.1, rb.2.1, .inl N2)) fun h' => nx lv st' h' sy ce sl) none) none
  | _ => none
def xd_ret (mc ms : Nat) (long : Bool) (ret : Option FieldType) : xD := fun _ _ _ _ _ st h sy ce sl => match st with
  | [v] => match ret with
    | none => none
    | some ty => cond (and (Nat.ble ce mc) (and (Nat.ble sl ms) (and (xh_fit (xh_tc ty) v sy) (cond long (Nat.beq (xh_tc ty) 5) (Nat.ble (xh_tc ty) 4))))) (some [(some v, h, sy)]) none
  | _ => none
def xd_vret (mc ms : Nat) (ret : Option FieldType) : xD := fun _ _ _ _ _ st h sy ce sl => match st with
  | [] => match ret with
    | none => cond (and (Nat.ble ce mc) (Nat.ble sl ms)) (some [(none, h, sy)]) none
    | some _ => none
  | _ => none
/-- the greater, the less of two -/
def xf_max (x y : Int32) : Int32 := if x < y then y else x
def xf_min (x y : Int32) : Int32 := if y < x then y else x
noncomputable def xd_mm (mc ms : Nat) (f : Int32 → Int32 → Int32) : xD := fun nx _ _ _ lv st h sy ce sl => match st with
  | b :: a :: st' => cond (and (Nat.ble (xh_words st') 8) (and (Nat.ble ce mc) (Nat.ble sl ms))) (xh_bin (xn_of f) xg_any b a sy fun v sy' => nx lv (v :: st') h sy' ce sl) none
  | _ => none
/-- an instruction made ready; MT: how many arguments the methods have -/
noncomputable def xd_of (G : xG) (NA : List Nat) (mc ms : Nat) (ret : Option FieldType) (e : xE) : xD := match e with
  | (_, _, ins, a1, a2, a3, w) => cond (Nat.beq w 999999) xd_none (match ins with
    | .iconst n => xx_f (xx_n (Int32.ofInt n)) fun v => xd_push (0, v)
    | .bipush n => xx_f (xx_n (Int8.ofInt n).toInt32) fun v => xd_push (0, v)
    | .sipush n => xx_f (xx_n (Int16.ofInt n).toInt32) fun v => xd_push (0, v)
    | .lconst n => xx_f n.val fun v => xd_push (4, v)
    | .ldc _ => cond (Nat.beq a1 0) (xd_push (0, a2)) (xd_push (7, a2))
    | .ldc_w _ => xd_push (0, a2)
    | .ldc2_w _ => xd_push (4, a2)
    | .iload i => xd_ld xc_i i
    | .iload_n i => xx_f i.val fun j => xd_ld xc_i j
    | .lload i => xd_ld xc_l i
    | .lload_n i => xx_f i.val fun j => xd_ld xc_l j
    | .aload i => xd_ld xc_r i
    | .aload_n i => xx_f i.val fun j => xd_ld xc_r j
    | .istore i => xd_st1 xc_i i
    | .istore_n i => xx_f i.val fun j => xd_st1 xc_i j
    | .astore i => xd_st1 xc_r i
    | .astore_n i => xx_f i.val fun j => xd_st1 xc_r j
    | .lstore i => xd_st2 i
    | .lstore_n i => xx_f i.val fun j => xd_st2 j
    | .iinc i n => xx_f (xx_n (Int32.ofInt n)) fun v => xd_inc i v
    | .iadd => xd_add
    | .isub => xd_bin xn_sub xg_sub
    | .imul => xd_mul
    | .iand => xd_and G
    | .ior => xd_bin (xn_of fun x y => x ||| y) xg_any
    | .ixor => xd_bin (xn_of fun x y => x ^^^ y) xg_any
    | .ishl => xd_bin (xn_of fun x y => x <<< (y &&& 31)) xg_any
    | .ishr => xd_bin (xn_of fun x y => x >>> (y &&& 31)) xg_any
    | .iushr => xd_bin (xn_of fun x y => (x.toUInt32 >>> (y.toUInt32 &&& Int32.toUInt32 31)).toInt32) xg_any
    | .idiv => xd_div (xn_of fun x y => x / y)
    | .irem => xd_div (xn_of fun x y => x - x / y * y)
    | .ineg => xd_un fun x => -x
    | .i2b => xd_un fun x => x.toInt8.toInt32
    | .i2c => xd_un fun x => (x.toUInt32 % 65536).toInt32
    | .i2l => xd_i2l
    | .l2i => xd_l2i
    | .ladd => xd_lbin fun x y => x + y
    | .lmul => xd_lbin fun x y => x * y
    | .land => xd_lbin fun x y => x &&& y
    | .lor => xd_lbin fun x y => x ||| y
    | .lshl => xd_lsh fun x y => x <<< (y.toInt64 &&& 63)
    | .lushr => xd_lsh fun x y => (x.toUInt64 >>> (y.toInt64.toUInt64 &&& Int64.toUInt64 63)).toInt64
    | .lcmp => xd_lcmp
    | .dup => xd_dup
    | .pop => xd_pop
    | .dup2 => xd_dup2
    | .goto _ => xd_goto a1
    | .ifCond c _ => xd_if c a1
    | .if_icmp c _ => xd_icmp c a1
    | .tableswitch _ lo hi _ => xd_sw (xh_num lo (hi - lo + 1).toNat) (xh_ttab lo hi a1 a2)
    | .lookupswitch _ ps => xd_sw (ps.toList.map Prod.fst) (xh_tlook ps.toList 0 a1 a2)
    | .getfield _ => xd_get G a1 a2
    | .putfield _ => xd_putf a1 a2 a3
    | .getstatic _ => cond (Nat.beq a1 0) (xd_push (0, a2)) (xd_push (10, 0))
    | .iaload => xd_ald G 0
    | .baload => xd_ald G 1
    | .iastore => xd_ast 0
    | .bastore => xd_ast 1
    | .laload => xd_lald
    | .lastore => xd_last
    | .arraylength => xd_alen G
    | .newarray t => xd_newa mc ms (newarray.typeOf t)
    | .new _ => xd_new G mc ms a1
    | .invokevirtual _ => (match xk_at NA a1 with
      | none => xd_none
      | some n => xd_virt G n a1 a3)
    | .invokespecial _ => cond (Nat.beq a2 2) xd_obj (match xk_at NA a1 with
      | none => xd_none
      | some n => xd_init n a1)
    | .invokestatic _ => cond (Nat.beq a2 3) xd_copy (cond (Nat.beq a2 4) (xd_mm mc ms xf_max) (cond (Nat.beq a2 5) (xd_mm mc ms xf_min) (match xk_at NA a1 with
      | none => xd_none
      | some n => xd_stat n a1)))
    | .ireturn => xd_ret mc ms false ret
    | .lreturn => xd_ret mc ms true ret
    | .return_ => xd_vret mc ms ret
    | _ => xd_none)
/-- a method's rows made ready -/
noncomputable def xd_rows (G : xG) (NA : List Nat) (mc ms : Nat) (ret : Option FieldType) (l : List xE) : List xD := List.rec (motive := fun _ => List xD) [] (fun e _ ih => xd_of G NA mc ms ret e :: ih) l
noncomputable def xd_meth (G : xG) (NA : List Nat) (M : xM) : xP := (M.2.2.1, M.2.2.2.2.1, M.2.2.2.2.2.1, M.2.2.2.2.2.2.1, xd_rows G NA M.2.2.2.2.1 M.2.2.2.2.2.1 M.2.2.2.1 M.2.2.2.2.2.2.2)
noncomputable def xd_meths (G : xG) (NA : List Nat) (l : List xM) : List xP := List.rec (motive := fun _ => List xP) [] (fun M _ ih => xd_meth G NA M :: ih) l
/-- depth, the method's limits of cells and slots, its rows, the rows from here on -/
abbrev xI : Type := Nat → Nat → Nat → List xD → List xD → xN
noncomputable def xh_call (MP : List xP) (ih : xI) (d mc ms : Nat) (nx : xN) : xK := fun mi as rest lv h sy ce sl => Nat.rec (motive := fun _ => xR) none (fun d' _ => match xk_at MP mi with
  | none => none
  | some N => cond (and (Nat.ble (Nat.add ce N.2.1) mc) (and (Nat.ble (Nat.add sl N.2.2.1) ms) (and (Nat.ble (xh_words rest) 8) (Nat.ble N.1 40))))
      (xk_pad N.1 (xh_lay as) fun lv' => match ih d' N.2.1 N.2.2.1 N.2.2.2.2 N.2.2.2.2 lv' [] h sy 0 0 with
      | none => none
      | some outs => xh_all outs fun o => xx_f (Nat.add ce N.2.1) fun ce' => xx_f (Nat.add sl N.2.2.1) fun sl' => nx lv (match o.1 with
        | none => rest
        | some v => v :: rest) o.2.1 o.2.2 ce' sl') none) d
noncomputable def xh_step (MP : List xP) (ih : xI) : xI := fun d mc ms C rest => match rest with
  | [] => fun _ _ _ _ _ _ => none
  | f :: rs => f (ih d mc ms C rs) (fun j => ih d mc ms C (xk_drop j C)) (ih d mc ms C rest) (xh_call MP ih d mc ms (ih d mc ms C rs))
noncomputable def xh_run (MP : List xP) (fuel : Nat) : xI := Nat.rec (motive := fun _ => xI) (fun _ _ _ _ _ _ _ _ _ _ _ => none) (fun _ ih => xh_step MP ih) fuel
