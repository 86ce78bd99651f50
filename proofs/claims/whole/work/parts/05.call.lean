/-! calls -/
section GKC
variable {E : gk_E} {M : gk_M} {pc : Nat} {lv : List (Nat × Value)} {st : List Value} {h : gk_H} {K : Option Value → gk_H → Prop}
theorem gk_ts (E : gk_E) (r : Option Value) (rest : List Value) : (r.map (gk_v E)).toList ++ rest.map (gk_v E) = (r.toList ++ rest).map (gk_v E) := by cases r <;> rfl
theorem gk_cats (E : gk_E) (rest : List Value) : ((rest.map (gk_v E)).map fun v => v.category).sum = (rest.map fun v => v.category).sum := by
  rw [List.map_map]
  congr 1
  apply List.map_congr_left
  intro v _
  exact gk_cat E v
/-- behind a call -/
theorem gk_back {d1 b1 b2 c1 c2 : Nat} {p : Program} {e : Env} {R : Room} {s : State} {m : MethodId} {args : Array Value} {below : List Frame} {meth : Method} {c : Code} {Q : State → Prop} {MC MS : Nat} {H : Heap} {locs : List Loc} {ls : Array Slot} {cells slots : Nat} {rest st0 : List Value} {a : Array Value}
    (C : gk_Cx E M (d1, b1 + c1, b2 + c2) p R s m args meth c MC MS) (Rt : gk_R E M K p e R s m args below meth c MC MS Q) (hS : va_S (gk_A E) s.heap H locs) (hl : lv_has ls M.2.2.1 (gk_L E lv)) (hc : cells + (b1 + c1) = MC) (ht : slots + (b2 + c2) = MS) (hz : s.heap.size + cells ≤ gk_b E + h.length) (hsz : H.size = gk_b E + h.length)
    (hr : va_Run p E.1 e R s m args below meth c H locs cells slots c1 c2 (F0 m pc ls st0) (rest.map (gk_v E)) (gk_Q E (fun o h' => gk_G E M (d1, b1, b2) (pc + 3) lv (o.toList ++ rest) h' K) c1 a) (gk_A E)) : W p E.1 e R s m args below meth c H locs cells slots Q (F0 m pc ls st0) := by
  intro T hT X
  obtain ⟨v, st₀, t, T', L, h0, X', hL, e1, e2, ⟨⟨r', h', hv, hK, hW', hz'⟩, hF1, hF2⟩, go⟩ := hr T hT X
  cases hv
  rw [h0] at hz' hF1 hF2
  have key := hK p e R s m args below meth c Q MC MS T'.heap (locs ++ L) ls (cells + c1) (slots + c2) (gk_Cx.mono (d' := (d1, b1 + c1, b2 + c2)) (Nat.le_refl _) C) Rt (by rw [e1]; exact hW')
    ⟨Nat.le_trans hS.1 (by rw [e1]; exact hF1), fun q h1 h2 => by rw [e1, hF2 q (Nat.lt_of_lt_of_le h1 hS.1) h2]; exact hS.2.1 q h1 h2, fun q hq => by
      rcases List.mem_append.mp hq with h | h
      · exact hS.2.2 q h
      · exact hL q h⟩ hl (by show cells + c1 + b1 = MC; omega) (by show slots + c2 + b2 = MS; omega) (by omega)
  obtain ⟨t2, a1, q1⟩ := key T' rfl X'
  refine ⟨t2, go t2 ?_, q1⟩
  rw [← gk_ts] at a1
  exact a1
theorem gk_blind (E : gk_E) (h : gk_H) (av : List Value) : FrameBlind (va_Pc av (fun U => gk_S E U ∧ gk_W E h U.heap ∧ U.heap.size ≤ gk_b E + h.length)) := fun a U g mk q => ⟨q.1, q.2.1.call g mk a, q.2.2⟩
theorem gk_pre {E : gk_E} {h : gk_H} {s : State} {H : Heap} {locs : List Loc} {av : List Value} (hSw : gk_S E s) (hS : va_S (gk_A E) s.heap H locs) (hW : gk_W E h H) (hsz : H.size = gk_b E + h.length) : ∀ U : State, U.heap = H → s.WarmedH U.vm → va_Pc av (fun U => gk_S E U ∧ gk_W E h U.heap ∧ U.heap.size ≤ gk_b E + h.length) av.toArray U :=
  fun U hU hWm => ⟨rfl, hSw.moved hWm hU hS, by rw [hU]; exact hW, by rw [hU]; exact Nat.le_of_eq hsz⟩
/-- a method that can be called: not of the two odd classes, n parameters, few locals -/
def gk_Ok (M' : gk_M) (n : Nat) : Prop := (M'.1.cls ≠ "java/lang/invoke/MethodHandle" ∧ M'.1.cls ≠ "java/lang/invoke/VarHandle" ∧ (parseMethodDescriptor M'.1.desc).map (fun d => d.parameters.length) = some n) ∧ plainName M'.1.cls = true ∧ M'.2.2.1 ≤ 45 ∧ gk_cw M' ∈ gk_T
def gk_Cv (own : String) (idx : Nat) (M' : gk_M) (ci n : Nat) : Prop := gk_Ok M' n ∧ (∃ (T : u_T) (N : Nat), vwCl[ci]? = some (M'.1.cls, T, N)) ∧ Cond.methodLink own idx M'.1 ∈ gk_T ∧ Cond.instanceMethod M'.1 ∈ gk_T ∧ Cond.selects M'.1.cls M'.1 M'.1 ∈ gk_T ∧ Cond.initialized M'.1.cls ∈ gk_T
def gk_Cs (own : String) (idx : Nat) (M' : gk_M) (n : Nat) : Prop := gk_Ok M' n ∧ Cond.methodLink own idx M'.1 ∈ gk_T ∧ Cond.static M'.1 ∈ gk_T ∧ Cond.initialized M'.1.cls ∈ gk_T
def gk_Ci (own : String) (idx : Nat) (M' : gk_M) (n : Nat) : Prop := gk_Ok M' n ∧ Cond.methodLink own idx M'.1 ∈ gk_T ∧ Cond.instanceMethod M'.1 ∈ gk_T ∧ Cond.initialized M'.1.cls ∈ gk_T ∧ M'.1.name = "<init>" ∧ M'.2.2.2 = none
/-- inherited: the pool's entry names x, class ci has it from owner: M' -/
def gk_Cu (own : String) (idx : Nat) (x : MethodName) (owner : String) (M' : gk_M) (ci n : Nat) : Prop := gk_Ok M' n ∧ ∃ (C : String) (T : u_T) (N : Nat), vwCl[ci]? = some (C, T, N) ∧ (M'.1 = ⟨owner, x.name, x.desc⟩ ∨ (⟨owner, x.name, x.desc⟩ : MethodName) = ⟨"AtomTables$Wheels", "clash", "(I)I"⟩) ∧ (owner ≠ "java/lang/invoke/MethodHandle" ∧ owner ≠ "java/lang/invoke/VarHandle" ∧ (parseMethodDescriptor x.desc).map (fun d => d.parameters.length) = some n) ∧ Cond.methodLink own idx x ∈ gk_T ∧ Cond.sameMethod x.cls owner x.name x.desc ∈ gk_T ∧ Cond.selects C x M'.1 ∈ gk_T ∧ Cond.instanceMethod M'.1 ∈ gk_T ∧ Cond.initialized M'.1.cls ∈ gk_T
theorem gk_mw {M' : gk_M} {n : Nat} (h : gk_Ok M' n) {ws : List Cond} (hw : ∀ w ∈ ws, w ∈ gk_T) : GoodIn gk_T (ws ++ (gk_cw M' :: gk_T)) := gk_good fun w q => by
  rcases List.mem_append.mp q with q | q
  · exact hw w q
  · rcases List.mem_cons.mp q with rfl | q
    · exact h.2.2.2
    · exact q
set_option maxHeartbeats 2000000 in
theorem gk_callV {d1 b1 b2 c1 c2 idx ci n r : Nat} {M' : gk_M} {fs : List Value} {st0 : List Value} (As rest : List Value) (hd : decode M.2.1 pc = .ok (.invokevirtual idx, 3)) (hw : gk_Cv M.1.cls idx M' ci n) (hr : h[r]? = some (.inr (ci, fs))) (hs : st0 = As.reverse ++ .ref r :: rest) (hn : As.length = n) (hm : (lg_sl (.ref r :: As)).length ≤ M'.2.2.1) (h8 : (rest.map fun v => v.category).sum ≤ 8)
    (k : gk_Run E M' (d1, c1, c2) (.ref r :: As) h (fun o h' => gk_G E M (d1 + 1, b1, b2) (pc + 3) lv (o.toList ++ rest) h' K)) : gk_G E M (d1 + 1, b1 + c1, b2 + c2) pc lv st0 h K := by
  subst hs
  intro p e R s m args below meth c Q MC MS H locs ls cells slots C Rt hW hS hl hc ht hz
  intro T hT X
  obtain ⟨hok, ⟨Tc, Nc, hcl⟩, w1, w2, w3, w4⟩ := hw
  have hsz : H.size = gk_b E + h.length := by
    have := gk_size C (by rw [hT]; exact hW) (by rw [hT]; exact hS) hz X
    rwa [hT] at this
  have hts := C.2.2.2.2.2.2.1
  have hSw := C.2.2.2.2.2.2.2.2.1
  have ha := gk_ar hW hr
  have hfr : d1 + 1 ≤ R.frames := C.2.2.2.2.2.2.2.2.2.1
  have hlo : 64 * (d1 + 1) ≤ R.locals := C.2.2.2.2.2.2.2.2.2.2.1
  have hRc : MC ≤ R.cells := C.2.2.2.2.2.2.2.2.2.2.2.1
  have hRs : MS ≤ R.slots := C.2.2.2.2.2.2.2.2.2.2.2.2
  have hc' : cells + (b1 + c1) = MC := hc
  have ht' : slots + (b2 + c2) = MS := ht
  have h45 := hok.2.2.1
  refine gk_back C Rt hS hl hc' ht' hz hsz (va_runV (As := As.map (gk_v E)) (rest := rest.map (gk_v E)) (b := gk_a E r) ⟨C.1, C.2.1, C.2.2.1, C.2.2.2.2.2.2.2.1, hts⟩ (gk_met hok.2.1 hm k) (cwV n hts (gk_mw hok (ws := [.methodLink M.1.cls idx M'.1, .instanceMethod M'.1, .selects M'.1.cls M'.1 M'.1, .initialized M'.1.cls]) (fun w q => ?_)) rfl rfl rfl ⟨rfl, hok.1⟩ ⟨hfr, ?_⟩) ⟨gk_blind E h _, ?_, gk_pre hSw hS hW hsz⟩ rfl ?_ hl.1 ?_ ?_ hd ⟨?_, ?_⟩) T hT X
  · simp only [List.mem_cons, List.not_mem_nil, or_false] at q
    rcases q with rfl | rfl | rfl | rfl
    · exact w1
    · exact w2
    · exact w3
    · exact w4
  · show 8 + (M'.2.2.1 + 11) + 64 * d1 ≤ R.locals
    omega
  · rw [ha]
    exact va_recv hSw.1 hW.1 hcl (gk_cell hr)
  · rw [List.length_map]; exact hn
  · show (As.reverse ++ .ref r :: rest).map (gk_v E) = _
    rw [List.map_append, List.map_reverse]
    rfl
  · refine lv_room ?_
    rw [gk_cats]
    exact h8
  · omega
  · omega
set_option maxHeartbeats 2000000 in
theorem gk_callS {d1 b1 b2 c1 c2 idx n : Nat} {M' : gk_M} {st0 : List Value} (As rest : List Value) (hd : decode M.2.1 pc = .ok (.invokestatic idx, 3)) (hw : gk_Cs M.1.cls idx M' n) (hs : st0 = As.reverse ++ rest) (hn : As.length = n) (hm : (lg_sl As).length ≤ M'.2.2.1) (h8 : (rest.map fun v => v.category).sum ≤ 8)
    (k : gk_Run E M' (d1, c1, c2) As h (fun o h' => gk_G E M (d1 + 1, b1, b2) (pc + 3) lv (o.toList ++ rest) h' K)) : gk_G E M (d1 + 1, b1 + c1, b2 + c2) pc lv st0 h K := by
  subst hs
  intro p e R s m args below meth c Q MC MS H locs ls cells slots C Rt hW hS hl hc ht hz
  intro T hT X
  obtain ⟨hok, w1, w2, w3⟩ := hw
  have hsz : H.size = gk_b E + h.length := by
    have := gk_size C (by rw [hT]; exact hW) (by rw [hT]; exact hS) hz X
    rwa [hT] at this
  have hts := C.2.2.2.2.2.2.1
  have hSw := C.2.2.2.2.2.2.2.2.1
  have hfr : d1 + 1 ≤ R.frames := C.2.2.2.2.2.2.2.2.2.1
  have hlo : 64 * (d1 + 1) ≤ R.locals := C.2.2.2.2.2.2.2.2.2.2.1
  have hRc : MC ≤ R.cells := C.2.2.2.2.2.2.2.2.2.2.2.1
  have hRs : MS ≤ R.slots := C.2.2.2.2.2.2.2.2.2.2.2.2
  have hc' : cells + (b1 + c1) = MC := hc
  have ht' : slots + (b2 + c2) = MS := ht
  have h45 := hok.2.2.1
  refine gk_back C Rt hS hl hc' ht' hz hsz (va_runS (As := As.map (gk_v E)) (rest := rest.map (gk_v E)) ⟨C.1, C.2.1, C.2.2.1, C.2.2.2.2.2.2.2.1, hts⟩ (gk_met hok.2.1 hm k) (va_cwS n hts (gk_mw hok (ws := [.methodLink M.1.cls idx M'.1, .static M'.1, .initialized M'.1.cls]) (fun w q => ?_)) rfl rfl rfl hok.1 ⟨hfr, ?_⟩) ⟨gk_blind E h _, gk_pre hSw hS hW hsz⟩ rfl ?_ hl.1 ?_ ?_ hd ⟨?_, ?_⟩) T hT X
  · simp only [List.mem_cons, List.not_mem_nil, or_false] at q
    rcases q with rfl | rfl | rfl
    · exact w1
    · exact w2
    · exact w3
  · show 8 + (M'.2.2.1 + 11) + 64 * d1 ≤ R.locals
    omega
  · rw [List.length_map]; exact hn
  · show (As.reverse ++ rest).map (gk_v E) = _
    rw [List.map_append, List.map_reverse]
  · refine lv_room ?_
    rw [gk_cats]
    exact h8
  · omega
  · omega
set_option maxHeartbeats 2000000 in
theorem gk_callI {d1 b1 b2 c1 c2 idx n r : Nat} {M' : gk_M} {st0 : List Value} (As rest : List Value) (hd : decode M.2.1 pc = .ok (.invokespecial idx, 3)) (hw : gk_Ci M.1.cls idx M' n) (hs : st0 = As.reverse ++ .ref r :: rest) (hn : As.length = n) (hm : (lg_sl (.ref r :: As)).length ≤ M'.2.2.1) (h8 : (rest.map fun v => v.category).sum ≤ 8)
    (k : gk_Run E M' (d1, c1, c2) (.ref r :: As) h (fun o h' => gk_G E M (d1 + 1, b1, b2) (pc + 3) lv (o.toList ++ rest) h' K)) : gk_G E M (d1 + 1, b1 + c1, b2 + c2) pc lv st0 h K := by
  subst hs
  intro p e R s m args below meth c Q MC MS H locs ls cells slots C Rt hW hS hl hc ht hz
  intro T hT X
  obtain ⟨hok, w1, w2, w3, hini, hret⟩ := hw
  have hsz : H.size = gk_b E + h.length := by
    have := gk_size C (by rw [hT]; exact hW) (by rw [hT]; exact hS) hz X
    rwa [hT] at this
  have hts := C.2.2.2.2.2.2.1
  have hSw := C.2.2.2.2.2.2.2.2.1
  have hfr : d1 + 1 ≤ R.frames := C.2.2.2.2.2.2.2.2.2.1
  have hlo : 64 * (d1 + 1) ≤ R.locals := C.2.2.2.2.2.2.2.2.2.2.1
  have hRc : MC ≤ R.cells := C.2.2.2.2.2.2.2.2.2.2.2.1
  have hRs : MS ≤ R.slots := C.2.2.2.2.2.2.2.2.2.2.2.2
  have hc' : cells + (b1 + c1) = MC := hc
  have ht' : slots + (b2 + c2) = MS := ht
  have h45 := hok.2.2.1
  refine gk_back C Rt hS hl hc' ht' hz hsz (va_runI (As := As.map (gk_v E)) (rest := rest.map (gk_v E)) (b := gk_a E r) ⟨C.1, C.2.1, C.2.2.1, C.2.2.2.2.2.2.2.1, hts⟩ (gk_met hok.2.1 hm k) (cwI n hts (gk_mw hok (ws := []) (fun w q => absurd q List.not_mem_nil)) (show gk_cw M' :: gk_T = _ by rw [gk_cw, hret]) rfl rfl (hts _ w3) (hts _ w1) (hts _ w2) hini hok.1 ⟨hfr, ?_⟩) ⟨gk_blind E h _, gk_pre (av := (Value.ref r :: As).map (gk_v E)) hSw hS hW hsz⟩ rfl ?_ hl.1 ?_ ?_ hd ⟨?_, ?_⟩) T hT X
  · show 8 + (M'.2.2.1 + 11) + 64 * d1 ≤ R.locals
    omega
  · rw [List.length_map]; exact hn
  · show (As.reverse ++ .ref r :: rest).map (gk_v E) = _
    rw [List.map_append, List.map_reverse]
    rfl
  · refine lv_room ?_
    rw [gk_cats]
    exact h8
  · omega
  · omega
set_option maxHeartbeats 2000000 in
theorem gk_callU {d1 b1 b2 c1 c2 idx ci n r : Nat} {x : MethodName} {owner : String} {M' : gk_M} {fs : List Value} {st0 : List Value} (As rest : List Value) (hd : decode M.2.1 pc = .ok (.invokevirtual idx, 3)) (hw : gk_Cu M.1.cls idx x owner M' ci n) (hr : h[r]? = some (.inr (ci, fs))) (hs : st0 = As.reverse ++ .ref r :: rest) (hn : As.length = n) (hm : (lg_sl (.ref r :: As)).length ≤ M'.2.2.1) (h8 : (rest.map fun v => v.category).sum ≤ 8)
    (k : gk_Run E M' (d1, c1, c2) (.ref r :: As) h (fun o h' => gk_G E M (d1 + 1, b1, b2) (pc + 3) lv (o.toList ++ rest) h' K)) : gk_G E M (d1 + 1, b1 + c1, b2 + c2) pc lv st0 h K := by
  subst hs
  intro p e R s m args below meth c Q MC MS H locs ls cells slots C Rt hW hS hl hc ht hz
  intro T hT X
  obtain ⟨hok, Cn, Tc, Nc, hcl, hyx, ho, w1, w2, w3, w4, w5⟩ := hw
  have hsz : H.size = gk_b E + h.length := by
    have := gk_size C (by rw [hT]; exact hW) (by rw [hT]; exact hS) hz X
    rwa [hT] at this
  have hts := C.2.2.2.2.2.2.1
  have hSw := C.2.2.2.2.2.2.2.2.1
  have ha := gk_ar hW hr
  have hfr : d1 + 1 ≤ R.frames := C.2.2.2.2.2.2.2.2.2.1
  have hlo : 64 * (d1 + 1) ≤ R.locals := C.2.2.2.2.2.2.2.2.2.2.1
  have hRc : MC ≤ R.cells := C.2.2.2.2.2.2.2.2.2.2.2.1
  have hRs : MS ≤ R.slots := C.2.2.2.2.2.2.2.2.2.2.2.2
  have hc' : cells + (b1 + c1) = MC := hc
  have ht' : slots + (b2 + c2) = MS := ht
  have h45 := hok.2.2.1
  have hgd : GoodIn gk_T (va_wsU M.1.cls idx Cn owner x M'.1 (gk_cw M' :: gk_T)) := gk_mw hok (ws := [.methodLink M.1.cls idx x, .sameMethod x.cls owner x.name x.desc, .selects Cn x M'.1, .instanceMethod M'.1, .initialized M'.1.cls]) (fun w q => by
    simp only [List.mem_cons, List.not_mem_nil, or_false] at q
    rcases q with rfl | rfl | rfl | rfl | rfl
    · exact w1
    · exact w2
    · exact w3
    · exact w4
    · exact w5)
  have hrm : 8 + (M'.2.2.1 + 11) + 64 * d1 ≤ R.locals := by omega
  have hcw : va_CU R s args M.1.cls Cn owner idx x M'.1 M'.2.1 M'.2.2.1 M'.2.2.2 (gk_cw M' :: gk_T) (gk_rm (d1, c1, c2)) c1 c2 n := by
    rcases hyx with hyx | hyx
    · exact va_cwU n hts hgd rfl rfl rfl hyx ho ⟨hfr, hrm⟩
    · exact va_cwA n hts hgd rfl rfl rfl (by rw [hyx]; exact hSw.2.2.2.2.2.2.2.1.1) ho ⟨hfr, hrm⟩
  refine gk_back C Rt hS hl hc' ht' hz hsz (va_runU (As := As.map (gk_v E)) (rest := rest.map (gk_v E)) (b := gk_a E r) ⟨C.1, C.2.1, C.2.2.1, C.2.2.2.2.2.2.2.1, hts⟩ (gk_met hok.2.1 hm k) hcw ⟨gk_blind E h _, ?_, gk_pre (av := (Value.ref r :: As).map (gk_v E)) hSw hS hW hsz⟩ rfl ?_ hl.1 ?_ ?_ hd ⟨?_, ?_⟩) T hT X
  · rw [ha]
    exact va_recv hSw.1 hW.1 hcl (gk_cell hr)
  · rw [List.length_map]; exact hn
  · show (As.reverse ++ .ref r :: rest).map (gk_v E) = _
    rw [List.map_append, List.map_reverse]
    rfl
  · refine lv_room ?_
    rw [gk_cats]
    exact h8
  · omega
  · omega
end GKC
