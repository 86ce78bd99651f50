/-! String constants: constant i is the id 1000001 + i, its bytes 1000101 + i -/
section GKS
variable {E : gk_E} {M : gk_M} {d : gk_B} {pc : Nat} {lv : List (Nat × Value)} {st : List Value} {h : gk_H} {K : Option Value → gk_H → Prop}
theorem gk_as (E : gk_E) (i : Nat) : gk_a E (1000001 + i) = gk_sa E i := by
  rw [gk_a, if_neg (by omega), if_neg (by omega), Nat.add_sub_cancel_left]
theorem gk_ldcS {idx r : Nat} (i : Nat) (hd : decode M.2.1 pc = .ok (.ldc idx, 2)) (h1 : M.1.cls = RX9) (h2 : gk_pool.getD i 0 = idx) (h3 : 1000001 + i = r) (h4 : i < 6) (k : gk_G E M d (pc + 2) lv (.ref r :: st) h K) : gk_G E M d pc lv st h K := by
  subst h3
  intro p e R s m args below meth c Q MC MS H locs ls cells slots C Rt hW hS hl hc ht hz
  have key := k p e R s m args below meth c Q MC MS H locs ls cells slots C Rt hW hS hl hc ht hz
  have hSw := C.2.2.2.2.2.2.2.2.1
  have hR := hSw.2.2.2.2.2.1 i h4
  rw [h2] at hR
  refine va_ldcS (own := RX9) C.1 C.2.1 (by rw [← h1]; exact C.2.2.2.2.2.2.2.1) hR hd ?_
  rw [← gk_as]
  exact key
theorem gk_sget {idx i : Nat} (hd : decode M.2.1 pc = .ok (.getfield idx, 3)) (hi : i < 6) (hw : Cond.fieldLink M.1.cls idx "java/lang/String" "value" "[B" ∈ gk_T) (k : gk_G E M d (pc + 3) lv (.ref (1000101 + i) :: st) h K) : gk_G E M d pc lv (.ref (1000001 + i) :: st) h K := by
  intro p e R s m args below meth c Q MC MS H locs ls cells slots C Rt hW hS hl hc ht hz
  have key := k p e R s m args below meth c Q MC MS H locs ls cells slots C Rt hW hS hl hc ht hz
  have hSw := C.2.2.2.2.2.2.2.2.1
  have hv := (hSw.2.2.2.2.1.1 i hi).2.2.1
  show W p E.1 e R s m args below meth c H locs cells slots Q (F0 m pc ls (.ref (gk_a E (1000001 + i)) :: st.map (gk_v E)))
  rw [gk_as]
  refine vk_getf C.1 C.2.1 hv hS C.2.2.2.2.2.2.2.1 (C.2.2.2.2.2.2.1 _ hw) (fun x q => q) hd ?_
  have e1 : gk_sa E (100 + i) = gk_a E (1000101 + i) := by rw [show 1000101 + i = 1000001 + (100 + i) by omega, gk_as]
  dsimp only
  rw [e1]
  exact key
theorem gk_sgetC {idx i : Nat} (hd : decode M.2.1 pc = .ok (.getfield idx, 3)) (hi : i < 6) (hw : Cond.fieldLink M.1.cls idx "java/lang/String" "coder" "B" ∈ gk_T) (k : gk_G E M d (pc + 3) lv (.int 0 :: st) h K) : gk_G E M d pc lv (.ref (1000001 + i) :: st) h K := by
  intro p e R s m args below meth c Q MC MS H locs ls cells slots C Rt hW hS hl hc ht hz
  have key := k p e R s m args below meth c Q MC MS H locs ls cells slots C Rt hW hS hl hc ht hz
  have hSw := C.2.2.2.2.2.2.2.2.1
  have hv := (hSw.2.2.2.2.1.1 i hi).2.1
  show W p E.1 e R s m args below meth c H locs cells slots Q (F0 m pc ls (.ref (gk_a E (1000001 + i)) :: st.map (gk_v E)))
  rw [gk_as]
  exact vk_getf C.1 C.2.1 hv hS C.2.2.2.2.2.2.2.1 (C.2.2.2.2.2.2.1 _ hw) (fun x q => q) hd key
theorem gk_gets {idx : Nat} (hd : decode M.2.1 pc = .ok (.getstatic idx, 3)) (hw : Cond.fieldLink M.1.cls idx "java/lang/String" "COMPACT_STRINGS" "Z" ∈ gk_T) (k : gk_G E M d (pc + 3) lv (.int 1 :: st) h K) : gk_G E M d pc lv st h K := by
  intro p e R s m args below meth c Q MC MS H locs ls cells slots C Rt hW hS hl hc ht hz
  have key := k p e R s m args below meth c Q MC MS H locs ls cells slots C Rt hW hS hl hc ht hz
  have hSw := C.2.2.2.2.2.2.2.2.1
  exact va_gets C.1 C.2.1 hSw.2.2.2.2.2.2.1 hS C.2.2.2.2.2.2.2.1 (C.2.2.2.2.2.2.1 _ hw) (fun x q => q) hd key
theorem gk_getsQ {idx : Nat} (hd : decode M.2.1 pc = .ok (.getstatic idx, 3)) (hw : Cond.fieldLink M.1.cls idx "jdk/internal/util/Preconditions" "SIOOBE_FORMATTER" "Ljava/util/function/BiFunction;" ∈ gk_T) (k1 : gk_G E M d (pc + 3) lv (.null :: st) h K) (k2 : gk_G E M d (pc + 3) lv (.ref 1000201 :: st) h K) : gk_G E M d pc lv st h K := by
  intro p e R s m args below meth c Q MC MS H locs ls cells slots C Rt hW hS hl hc ht hz
  have key1 := k1 p e R s m args below meth c Q MC MS H locs ls cells slots C Rt hW hS hl hc ht hz
  have key2 := k2 p e R s m args below meth c Q MC MS H locs ls cells slots C Rt hW hS hl hc ht hz
  have hSw := C.2.2.2.2.2.2.2.2.1
  rcases hSw.2.2.2.2.2.2.2.2 with hZ | hZ
  · exact va_gets C.1 C.2.1 hZ hS C.2.2.2.2.2.2.2.1 (C.2.2.2.2.2.2.1 _ hw) (fun x q => q) hd key1
  · refine va_gets C.1 C.2.1 hZ hS C.2.2.2.2.2.2.2.1 (C.2.2.2.2.2.2.1 _ hw) (fun x q => q) hd ?_
    have e1 : gk_sa E 200 = gk_a E 1000201 := (gk_as E 200).symm
    rw [e1]
    exact key2
theorem gk_as1 (E : gk_E) (i : Nat) : gk_a E (1000101 + i) = gk_sa E (100 + i) := by rw [show 1000101 + i = 1000001 + (100 + i) by omega, gk_as]
theorem gk_slen {i : Nat} (hd : decode M.2.1 pc = .ok (.arraylength, 1)) (hi : i < 6) (k : gk_G E M d (pc + 1) lv (.int (nI (gk_len.getD i 0)) :: st) h K) : gk_G E M d pc lv (.ref (1000101 + i) :: st) h K := by
  intro p e R s m args below meth c Q MC MS H locs ls cells slots C Rt hW hS hl hc ht hz
  have key := k p e R s m args below meth c Q MC MS H locs ls cells slots C Rt hW hS hl hc ht hz
  have hSw := C.2.2.2.2.2.2.2.2.1
  have hv := (hSw.2.2.2.2.1.1 i hi).2.2.2
  show W p E.1 e R s m args below meth c H locs cells slots Q (F0 m pc ls (.ref (gk_a E (1000101 + i)) :: st.map (gk_v E)))
  rw [gk_as1]
  exact va_tlen C.1 C.2.1 hv hS rfl hd key
theorem gk_sbald {i j : Nat} (hd : decode M.2.1 pc = .ok (.baload, 1)) (hi : i < 6) (hj : j < gk_len.getD i 0) (k : gk_G E M d (pc + 1) lv (.int ((gk_byt.getD i []).getD j 0) :: st) h K) : gk_G E M d pc lv (.int (nI j) :: .ref (1000101 + i) :: st) h K := by
  intro p e R s m args below meth c Q MC MS H locs ls cells slots C Rt hW hS hl hc ht hz
  have key := k p e R s m args below meth c Q MC MS H locs ls cells slots C Rt hW hS hl hc ht hz
  have hSw := C.2.2.2.2.2.2.2.2.1
  have hv := (hSw.2.2.2.2.1.1 i hi).2.2.2
  have hlen : gk_len.getD i 0 < 2 ^ 31 := by
    match i, hi with
    | 0, _ => decide
    | 1, _ => decide
    | 2, _ => decide
    | 3, _ => decide
    | 4, _ => decide
    | 5, _ => decide
    | n + 6, q => omega
  show W p E.1 e R s m args below meth c H locs cells slots Q (F0 m pc ls (.int (nI j) :: .ref (gk_a E (1000101 + i)) :: st.map (gk_v E)))
  rw [gk_as1]
  exact va_tb C.1 C.2.1 hv hS (vp_in_nI hj hlen) (v := .int ((gk_byt.getD i []).getD j 0)) (by rw [nI_clamp (by omega)]) hd key
set_option maxHeartbeats 2000000 in
/-- a call on a String constant -/
theorem gk_callT {dd idx n i : Nat} {M' : gk_M} {st0 : List Value} (As rest : List Value) (hd : decode M.2.1 pc = .ok (.invokevirtual idx, 3)) (hok : gk_Ok M' n) (hcl : M'.1.cls = "java/lang/String") (w1 : Cond.methodLink M.1.cls idx M'.1 ∈ gk_T) (w2 : Cond.instanceMethod M'.1 ∈ gk_T) (w3 : Cond.selects M'.1.cls M'.1 M'.1 ∈ gk_T) (w4 : Cond.initialized M'.1.cls ∈ gk_T) (hi : i < 6) (hs : st0 = As.reverse ++ .ref (1000001 + i) :: rest) (hn : As.length = n) (hm : (lg_sl (.ref (1000001 + i) :: As)).length ≤ M'.2.2.1) (h8 : (rest.map fun v => v.category).sum ≤ 8)
    (k : gk_Run E M' (dd, 0, 0) (.ref (1000001 + i) :: As) h (fun o h' => gk_G E M (dd + 1, 0, 0) (pc + 3) lv (o.toList ++ rest) h' K)) : gk_G E M (dd + 1, 0, 0) pc lv st0 h K := by
  subst hs
  intro p e R s m args below meth c Q MC MS H locs ls cells slots C Rt hW hS hl hc ht hz
  intro T hT X
  have hsz : H.size = gk_b E + h.length := by
    have := gk_size C (by rw [hT]; exact hW) (by rw [hT]; exact hS) hz X
    rwa [hT] at this
  have hts := C.2.2.2.2.2.2.1
  have hSw := C.2.2.2.2.2.2.2.2.1
  have hfr : dd + 1 ≤ R.frames := C.2.2.2.2.2.2.2.2.2.1
  have hlo : 64 * (dd + 1) ≤ R.locals := C.2.2.2.2.2.2.2.2.2.2.1
  have hRc : MC ≤ R.cells := C.2.2.2.2.2.2.2.2.2.2.2.1
  have hRs : MS ≤ R.slots := C.2.2.2.2.2.2.2.2.2.2.2.2
  have hc' : cells + (0 + 0) = MC := hc
  have ht' : slots + (0 + 0) = MS := ht
  have h45 := hok.2.2.1
  refine gk_back (d1 := dd + 1) (b1 := 0) (b2 := 0) (c1 := 0) (c2 := 0) C Rt hS hl hc' ht' hz hsz (va_runV (As := As.map (gk_v E)) (rest := rest.map (gk_v E)) (b := gk_a E (1000001 + i)) ⟨C.1, C.2.1, C.2.2.1, C.2.2.2.2.2.2.2.1, hts⟩ (gk_met hok.2.1 hm k) (cwV n hts (gk_mw hok (ws := [.methodLink M.1.cls idx M'.1, .instanceMethod M'.1, .selects M'.1.cls M'.1 M'.1, .initialized M'.1.cls]) (fun w q => ?_)) rfl rfl rfl ⟨rfl, hok.1⟩ ⟨hfr, ?_⟩) ⟨gk_blind E h _, ?_, gk_pre hSw hS hW hsz⟩ rfl ?_ hl.1 ?_ ?_ hd ⟨?_, ?_⟩) T hT X
  · simp only [List.mem_cons, List.not_mem_nil, or_false] at q
    rcases q with rfl | rfl | rfl | rfl
    · exact w1
    · exact w2
    · exact w3
    · exact w4
  · show 8 + (M'.2.2.1 + 11) + 64 * dd ≤ R.locals
    omega
  · rw [gk_as, hcl]
    exact vk_recv hSw.2.2.2.2.1 hi hS
  · rw [List.length_map]; exact hn
  · show (As.reverse ++ .ref (1000001 + i) :: rest).map (gk_v E) = _
    rw [List.map_append, List.map_reverse]
    rfl
  · refine lv_room ?_
    rw [gk_cats]
    exact h8
  · show cells + 0 ≤ R.cells
    omega
  · show slots + 0 ≤ R.slots
    omega
end GKS
