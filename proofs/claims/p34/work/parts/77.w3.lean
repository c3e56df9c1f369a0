/-! for scripts of any length: printed by wip/p34/genw.py out of my rows of p1 -/
/-! a method's contract out of its run -/
section XM
variable {g : xGl}
theorem xlay_ok_w {X : xX} {ρ : List Int32} {aw : List Nat} : ∀ {as : List xV} {vs : List Value}, xx_2 (xv X ρ aw) as vs → xx_2 (fun (a : xV) (sl : Slot) => a.1 = 9 ∨ ∃ v, sl = .val v ∧ xv X ρ aw a v) (xh_lay as) (lg_sl vs)
  | [], [], _ => trivial
  | a :: as, v :: vs, h => by
    have ih := xlay_ok_w h.2
    have hc := xv_cat h.1
    have e : lg_sl (v :: vs) = (if v.category = 2 then [Slot.val v, .second] else [.val v]) ++ lg_sl vs := by simp [lg_sl]
    rw [e]
    show xx_2 _ (cond (xc_l a) (a :: (9, 0) :: xh_lay as) (a :: xh_lay as)) _
    cases hl : xc_l a with
    | true =>
      rw [hl, if_pos rfl] at hc
      rw [if_pos hc]
      exact ⟨Or.inr ⟨v, rfl, h.1⟩, Or.inl rfl, ih⟩
    | false =>
      rw [hl, if_neg (by decide)] at hc
      rw [if_neg (by rw [hc]; decide)]
      exact ⟨Or.inr ⟨v, rfl, h.1⟩, ih⟩
  | [], _ :: _, h => absurd h id
  | _ :: _, [], h => absurd h id
theorem xentry_ok_w {X : xX} {ρ : List Int32} {aw : List Nat} {as : List xV} {vs : List Value} {n : Nat} (h : xx_2 (xv X ρ aw) as vs) (hn : (xh_lay as).length ≤ n) : xLv X ρ aw n (xh_lay as ++ List.replicate (n - (xh_lay as).length) (9, 0)) ((lg_sl vs ++ List.replicate (n - (lg_sl vs).length) Slot.unset).toArray) := by
  have h2 := xlay_ok_w h
  have hl := xx_2_len h2
  have he := lv_entry vs (n := n) (by rw [← hl]; exact hn)
  refine ⟨by rw [List.length_append, List.length_replicate]; omega, he.1, he.2.1, fun i a q1 q2 => ?_⟩
  by_cases hi : i < (xh_lay as).length
  · rw [List.getElem?_append_left hi] at q1
    obtain ⟨sl, e1, e2⟩ := xx_2_get h2 q1
    rcases e2 with e2 | ⟨v, rfl, e3⟩
    · exact absurd e2 q2
    · refine ⟨v, ?_, e3⟩
      rw [List.getElem?_toArray, List.getElem?_append_left (by rw [← hl]; exact hi)]
      exact e1
  · rw [List.getElem?_append_right (by omega)] at q1
    have := List.eq_of_mem_replicate (List.mem_of_getElem? q1)
    rw [this] at q2
    exact absurd rfl q2
/-- what a called method's tables say -/
def xNf_w (N : xM) : Prop := plainName N.1.cls = true ∧ Cond.code N.1 N.2.1 N.2.2.1 N.2.2.2.1 ∈ xTb ∧ Cond.initialized N.1.cls ∈ xTb ∧ N.1.cls ≠ "java/lang/invoke/MethodHandle" ∧ N.1.cls ≠ "java/lang/invoke/VarHandle" ∧ (parseMethodDescriptor N.1.desc).map (fun d => d.parameters.length) = some N.2.2.2.2.2.2.1
def xPc_w (g : xGl) (ws : va_W) (tys : List (ClassId × FieldType)) (vs : List Value) : Array Value → State → Prop := va_Pc vs fun U => g.2.2.2.1 ≤ U.heap.size ∧ va_P g.2.2.1 xcl ws U.heap ∧ va_D (xAA g.2.2.2.1) ws ∧ va_K g.2.2.1 xcl tys U ∧ xEX g.2.1 g.2.2.2.1 g.2.2.2.2.1 g.2.2.2.2.2 U U.heap
def xQc_w (g : xGl) (ρ : List Int32) (ws : va_W) (outs : List xO) : Array Value → State → Outcome → State → Prop := fun _ st oc t => va_F (xAA g.2.2.2.1) st t ∧ ∃ o ∈ outs, ∃ (ρ' : List Int32) (ws' : va_W) (tys' : List (ClassId × FieldType)), xx_e ρ ρ' ∧ xx_e (xaw ws) (xaw ws') ∧ xsat o.2.2 ρ' ∧ va_P g.2.2.1 xcl ws' t.heap ∧ va_D (xAA g.2.2.2.1) ws' ∧ va_K g.2.2.1 xcl tys' t ∧ o.2.1.1 = ws'.length ∧ (∀ (k : Nat) (p : Nat × va_E) (c : xC), ws'[k]? = some p → xl o.2.1 k = some c → xcell g.2.1 ρ' (xaw ws') tys' c p.2) ∧ ((o.1 = none ∧ oc = .returned none) ∨ ∃ a v, o.1 = some a ∧ oc = .returned (some v) ∧ xv g.2.1 ρ' (xaw ws') a v)
def xrm_w (N : xM) (d : Nat) : Room := { frames := d + 1, cells := N.2.2.2.2.1, slots := N.2.2.2.2.2.1, locals := 64 * (d + 1) }
abbrev xws_w (N : xM) : List Cond := Cond.code N.1 N.2.1 N.2.2.1 N.2.2.2.1 :: xTb
set_option maxHeartbeats 4000000 in
theorem xmet_w {N : xM} {d : Nat} {h : xH} {sy : xS} {outs : List xO} {as : List xV} {vs : List Value} {ρ : List Int32} {ws : va_W} {tys : List (ClassId × FieldType)} (hN : xNf_w N) (hlay : (xh_lay as).length ≤ N.2.2.1) (hok : xOk g N d 0 (xh_lay as ++ List.replicate (N.2.2.1 - (xh_lay as).length) (9, 0)) [] h sy 0 0 outs) (hs : xsat sy ρ) (hr : xx_e (xrho g) ρ) (hav : xx_2 (xv g.2.1 ρ (xaw ws)) as vs) (hh : h.1 = ws.length) (hcell : ∀ (k : Nat) (p : Nat × va_E) (c : xC), ws[k]? = some p → xl h k = some c → xcell g.2.1 ρ (xaw ws) tys c p.2) :
    Met g.1 N.1 (xws_w N) (xrm_w N d) (xPc_w g ws tys vs) (xQc_w g ρ ws outs) N.2.2.2.2.1 N.2.2.2.2.2.1 (xAA g.2.2.2.1) := by
  refine Met.ofW (cc := N.2.1) (maxL := N.2.2.1) (ret := N.2.2.2.1) hN.1 rfl ?_
  intro p e s m args below meth c s₁ B hml hv
  obtain ⟨rfl, hbs, hP, hD, hK, hE⟩ := hv
  have hts := atoms_spec (ws := xws_w N) B.pre
  have hown : s.vm.findClass N.1.cls = some m.cls := findClass_of_methodNamed B.named
  have hlocks := B.notSynchronized
  have hname : meth.name = N.1.name := (name_of_methodNamed B.named B.method).1
  rw [lg_entry_eq]
  refine hok p e (headSpec (xws_w N) (xrm_w N d)).room s m vs.toArray below meth c (MQ below (xQc_w g ρ ws outs) vs.toArray s N.2.2.2.2.1 N.2.2.2.2.2.1 (xAA g.2.2.2.1)) s.heap [] _ [] ρ ws tys ?_ ?_ hs hr trivial (xentry_ok_w hav hlay) ?_
  · exact ⟨B.exec, B.bytes, hml, fun w hw => hts w (List.mem_cons_of_mem _ hw), hown, fun h => by rw [hname]; exact h, hE, hbs, Nat.le_refl _, Nat.le_refl _, Nat.le_refl _, Nat.le_refl _⟩
  · exact ⟨hP, hD, va_S.rf, hK, hh, hcell⟩
  · intro o ho ρ' ws' tys' H' locs' ls' pc' ce' sl' e1 e2 e3 hW' hce hsl
    obtain ⟨w1, w2, w3, w4, w5, w6⟩ := hW'
    refine ⟨fun o1 r1 dg => ?_, fun a x ty o1 r1 hx hnar dg => ?_, fun a x o1 r1 hx dg => ?_⟩
    · refine W.widen hce hsl ?_
      refine W.vret (Qc := xQc_w g ρ ws outs) (free := xAA g.2.2.2.1) B.exec B.bytes (by rw [B.returns, r1]) (fun t ht hW => ?_) w3.2.2 dg hlocks
      exact ⟨w3.F ht, o, ho, ρ', ws', tys', e1, e2, e3, by rw [ht]; exact w1, w2, va_K.moved hW.alike w4, w5, w6, Or.inl ⟨o1, rfl⟩⟩
    · refine W.widen hce hsl ?_
      refine W.zret (Qc := xQc_w g ρ ws outs) (free := xAA g.2.2.2.1) (ty := ty) B.exec B.bytes (by rw [B.returns, r1]) hnar (fun t ht hW => ?_) w3.2.2 dg hlocks
      exact ⟨w3.F ht, o, ho, ρ', ws', tys', e1, e2, e3, by rw [ht]; exact w1, w2, va_K.moved hW.alike w4, w5, w6, Or.inr ⟨a, _, o1, rfl, hx⟩⟩
    · refine W.widen hce hsl ?_
      refine W.lret (Qc := xQc_w g ρ ws outs) (free := xAA g.2.2.2.1) B.exec B.bytes (by rw [B.returns, r1]) (fun t ht hW => ?_) w3.2.2 dg hlocks
      exact ⟨w3.F ht, o, ho, ρ', ws', tys', e1, e2, e3, by rw [ht]; exact w1, w2, va_K.moved hW.alike w4, w5, w6, Or.inr ⟨a, _, o1, rfl, hx⟩⟩
/-- what lies below stays so -/
theorem xEX_kept_w {X : xX} {bs L : Nat} {xs : Nat → Int32} {s U : State} {H : Heap} {locs : List Loc} (h : xEX X bs L xs s s.heap) (hb : bs ≤ s.heap.size) (hS : va_S (xAA bs) s.heap H locs) (hU : U.heap = H) (hW : s.WarmedH U.vm) : xEX X bs L xs U U.heap := by
  obtain ⟨h1, h2, h3, h4, h5, h6, h7⟩ := h
  have hq : ∀ a : Nat, a < s.heap.size → ¬ xAA bs a → U.heap[a]? = s.heap[a]? := fun a q1 q2 => by rw [hU]; exact hS.2.1 a q1 q2
  refine ⟨fun w hw => ?_, fun q hq => vk_R.warm hW (h2 q hq), (h3.moved hW.alike).kept hq, (h4.moved hW.alike).kept hq, (h5.moved hW.alike).kept hq, (h6.moved hW.alike).kept (hq _ (Nat.lt_of_lt_of_le h7 hb) (Nat.not_le.mpr h7)), h7⟩
  rcases xNW_ok w hw with ⟨a, i, b, n, d, ho, rfl⟩ | ⟨a, i, y, ho, rfl⟩
  · exact va_Nw.warmF hW (h1 _ hw)
  · exact va_Nw.warmM hW (h1 _ hw)
theorem xEX_call_w {X : xX} {bs L : Nat} {xs : Nat → Int32} {U : State} {f : JFrame} {mk : MethodId} {a : Array Value} (h : xEX X bs L xs U U.heap) : xEX X bs L xs (U.calling f mk a) (U.calling f mk a).heap := by
  obtain ⟨h1, h2, h3, h4, h5, h6, h7⟩ := h
  refine ⟨fun w hw => ?_, fun q hq => vk_R.same (U := U.calling f mk a) rfl (h2 q hq), vk_S.moved (U := U.calling f mk a) (Vm.Alike.refl U.vm) h3, va_Z.moved (U := U.calling f mk a) (Vm.Alike.refl U.vm) h4, va_Zq.moved (U := U.calling f mk a) (Vm.Alike.refl U.vm) h5, va_X.moved (U := U.calling f mk a) (Vm.Alike.refl U.vm) h6, h7⟩
  rcases xNW_ok w hw with ⟨a, i, b, n, d, ho, rfl⟩ | ⟨a, i, y, ho, rfl⟩
  · exact va_Nw.same rfl (rfl : U.vm = _) (h1 _ hw)
  · exact va_Nw.same rfl (rfl : U.vm = _) (h1 _ hw)
theorem xPc_blind_w (ws : va_W) (tys : List (ClassId × FieldType)) (vs : List Value) : FrameBlind (xPc_w g ws tys vs) := by
  intro a U f mk h
  obtain ⟨h0, h1, h2, h3, h4, h5⟩ := h
  exact ⟨h0, h1, h2, h3, va_K.moved (u := U) (U := U.calling f mk a) (Vm.Alike.refl U.vm) h4, xEX_call_w h5⟩
/-- behind a call -/
theorem xafter_w {p : Program} {l : Launch} {e : Env} {R : Room} {s : State} {m : MethodId} {args : Array Value} {below : List Frame} {meth : Method} {c : Code} {H : Heap} {locs : List Loc} {ce sl mc ms pc : Nat} {ls : Array Slot} {st0 rest : List Value} {Qa : State → Outcome → State → Prop} {free : Addr → Prop} {Q : State → Prop} (hr : va_Run p l e R s m args below meth c H locs ce sl mc ms (F0 m pc ls st0) rest Qa free) (kk : ∀ (v : Option Value) (st₀ t : State) (L : List Loc), st₀.heap = H → s.vm.Alike t.vm → (∀ q ∈ L, free q.base) → Qa st₀ (.returned v) t → W p l e R s m args below meth c t.heap (locs ++ L) (ce + mc) (sl + ms) Q (F0 m (pc + 3) ls (v.toList ++ rest))) : W p l e R s m args below meth c H locs ce sl Q (F0 m pc ls st0) := by
  intro T hT X
  obtain ⟨v, st₀, t, T', L, h0, X', hL, e1, e2, hq, st⟩ := hr T hT X
  obtain ⟨t2, a1, b1⟩ := kk v st₀ t L h0 (by rw [← e2]; exact X'.warmed.alike) hL hq T' e1 X'
  exact ⟨t2, st t2 a1, b1⟩
end XM
