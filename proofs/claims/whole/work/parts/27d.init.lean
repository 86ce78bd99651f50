/-! the constructors -/
theorem kx_104 : Cond.classLink "AtomTablesLaw" 7 RX11 ∈ gk_T := gk_in (t1k (List.mem_of_getElem? (i := 21) rfl)) rfl
theorem kx_105 : Cond.instantiable RX11 12 ∈ gk_T := gk_in (t1k (List.mem_of_getElem? (i := 22) rfl)) rfl
theorem kx_109 : Cond.methodLink RX11 3 Lib.objectInit ∈ gk_T := gk_in (t1k (List.mem_of_getElem? (i := 26) rfl)) rfl
theorem kx_110 : Cond.instanceMethod Lib.objectInit ∈ gk_T := gk_in (t1k (List.mem_of_getElem? (i := 27) rfl)) rfl
theorem kx_111 : Cond.code Lib.objectInit ⟨#[0xb1]⟩ 1 none ∈ gk_T := gk_in (t1k (List.mem_of_getElem? (i := 28) rfl)) rfl
theorem kx_112 : Cond.classLink RX11 9 RX7 ∈ gk_T := gk_in (t1k (List.mem_of_getElem? (i := 29) rfl)) rfl
theorem kx_1129 : Cond.classLink "AtomTablesLaw" 10 RX12 ∈ gk_T := gk_in (t5k (List.mem_of_getElem? (i := 86) rfl)) rfl
theorem kx_113 : Cond.instantiable RX7 4 ∈ gk_T := gk_in (t1k (List.mem_of_getElem? (i := 30) rfl)) rfl
theorem kx_1130 : Cond.instantiable RX12 34 ∈ gk_T := gk_in (t5k (List.mem_of_getElem? (i := 87) rfl)) rfl
theorem kx_1134 : Cond.methodLink RX12 3 Lib.objectInit ∈ gk_T := gk_in (t5k (List.mem_of_getElem? (i := 91) rfl)) rfl
theorem kx_117 : Cond.methodLink RX7 3 Lib.objectInit ∈ gk_T := gk_in (t1k (List.mem_of_getElem? (i := 34) rfl)) rfl
theorem kx_118 : Cond.classLink RX7 9 RX8 ∈ gk_T := gk_in (t1k (List.mem_of_getElem? (i := 35) rfl)) rfl
theorem kx_119 : Cond.instantiable RX8 3 ∈ gk_T := gk_in (t1k (List.mem_of_getElem? (i := 36) rfl)) rfl
theorem kx_123 : Cond.methodLink RX8 3 Lib.objectInit ∈ gk_T := gk_in (t1k (List.mem_of_getElem? (i := 40) rfl)) rfl
theorem kx_1242 : Cond.arrayClass .boolean ∈ gk_T := gk_in (t5k (List.mem_of_getElem? (i := 199) rfl)) rfl
theorem kx_1243 : Cond.arrayClass .char ∈ gk_T := gk_in (t5k (List.mem_of_getElem? (i := 200) rfl)) rfl
theorem kx_157 : Cond.arrayClass .int ∈ gk_T := gk_in (t1k (List.mem_of_getElem? (i := 74) rfl)) rfl
theorem kx_158 : Cond.classLink RX7 18 RX3 ∈ gk_T := gk_in (t1k (List.mem_of_getElem? (i := 75) rfl)) rfl
theorem kx_160 : Cond.instantiable RX3 2 ∈ gk_T := gk_in (t1k (List.mem_of_getElem? (i := 77) rfl)) rfl
theorem kx_164 : Cond.methodLink RX3 3 Lib.objectInit ∈ gk_T := gk_in (t1k (List.mem_of_getElem? (i := 81) rfl)) rfl
theorem kx_201 : Cond.classLink RX11 25 RX4 ∈ gk_T := gk_in (t1k (List.mem_of_getElem? (i := 118) rfl)) rfl
theorem kx_202 : Cond.instantiable RX4 7 ∈ gk_T := gk_in (t1k (List.mem_of_getElem? (i := 119) rfl)) rfl
theorem kx_209 : Cond.methodLink RX10 3 Lib.objectInit ∈ gk_T := gk_in (t1k (List.mem_of_getElem? (i := 126) rfl)) rfl
theorem kx_246 : Cond.classLink RX11 34 RX1 ∈ gk_T := gk_in (t1k (List.mem_of_getElem? (i := 163) rfl)) rfl
theorem kx_247 : Cond.instantiable RX1 5 ∈ gk_T := gk_in (t1k (List.mem_of_getElem? (i := 164) rfl)) rfl
theorem kx_251 : Cond.methodLink RX1 3 Lib.objectInit ∈ gk_T := gk_in (t1k (List.mem_of_getElem? (i := 168) rfl)) rfl
theorem kx_252 : Cond.classLink RX1 9 RX3 ∈ gk_T := gk_in (t1k (List.mem_of_getElem? (i := 169) rfl)) rfl
theorem kx_254 : Cond.classLink RX1 30 RX6 ∈ gk_T := gk_in (t1k (List.mem_of_getElem? (i := 171) rfl)) rfl
theorem kx_255 : Cond.instantiable RX6 6 ∈ gk_T := gk_in (t1k (List.mem_of_getElem? (i := 172) rfl)) rfl
theorem kx_288 : Cond.classLink RX11 43 RX2 ∈ gk_T := gk_in (t1k (List.mem_of_getElem? (i := 205) rfl)) rfl
theorem kx_289 : Cond.instantiable RX2 5 ∈ gk_T := gk_in (t1k (List.mem_of_getElem? (i := 206) rfl)) rfl
theorem kx_293 : Cond.methodLink RX2 3 Lib.objectInit ∈ gk_T := gk_in (t1k (List.mem_of_getElem? (i := 210) rfl)) rfl
theorem kx_294 : Cond.classLink RX2 9 RX3 ∈ gk_T := gk_in (t1k (List.mem_of_getElem? (i := 211) rfl)) rfl
theorem kx_296 : Cond.classLink RX2 18 RX6 ∈ gk_T := gk_in (t1k (List.mem_of_getElem? (i := 213) rfl)) rfl
theorem kx_298 : Cond.classLink RX2 24 "[[I" ∈ gk_T := gk_in (t1k (List.mem_of_getElem? (i := 215) rfl)) rfl
theorem kx_317 : Cond.classLink RX11 50 RX0 ∈ gk_T := gk_in (t1k (List.mem_of_getElem? (i := 234) rfl)) rfl
theorem kx_318 : Cond.instantiable RX0 6 ∈ gk_T := gk_in (t1k (List.mem_of_getElem? (i := 235) rfl)) rfl
theorem kx_322 : Cond.methodLink RX0 3 Lib.objectInit ∈ gk_T := gk_in (t1k (List.mem_of_getElem? (i := 239) rfl)) rfl
theorem kx_323 : Cond.classLink RX0 15 RX3 ∈ gk_T := gk_in (t2k (List.mem_of_getElem? (i := 0) rfl)) rfl
theorem kx_349 : Cond.classLink RX11 63 RX5 ∈ gk_T := gk_in (t2k (List.mem_of_getElem? (i := 26) rfl)) rfl
theorem kx_350 : Cond.instantiable RX5 8 ∈ gk_T := gk_in (t2k (List.mem_of_getElem? (i := 27) rfl)) rfl
theorem kx_373 : Cond.classLink RX11 78 RX9 ∈ gk_T := gk_in (t2k (List.mem_of_getElem? (i := 50) rfl)) rfl
theorem kx_374 : Cond.instantiable RX9 2 ∈ gk_T := gk_in (t2k (List.mem_of_getElem? (i := 51) rfl)) rfl
theorem kx_378 : Cond.methodLink RX9 3 Lib.objectInit ∈ gk_T := gk_in (t2k (List.mem_of_getElem? (i := 55) rfl)) rfl
theorem kx_388 : Cond.arrayClass .long ∈ gk_T := gk_in (t2k (List.mem_of_getElem? (i := 65) rfl)) rfl
theorem kx_389 : Cond.arrayClass .byte ∈ gk_T := gk_in (t2k (List.mem_of_getElem? (i := 66) rfl)) rfl
theorem kx_84 : Cond.initialized RX11 ∈ gk_T := gk_in (t1k (List.mem_of_getElem? (i := 1) rfl)) rfl
theorem kx_85 : Cond.initialized RX7 ∈ gk_T := gk_in (t1k (List.mem_of_getElem? (i := 2) rfl)) rfl
theorem kx_86 : Cond.initialized RX8 ∈ gk_T := gk_in (t1k (List.mem_of_getElem? (i := 3) rfl)) rfl
theorem kx_87 : Cond.initialized RX3 ∈ gk_T := gk_in (t1k (List.mem_of_getElem? (i := 4) rfl)) rfl
theorem kx_89 : Cond.initialized RX4 ∈ gk_T := gk_in (t1k (List.mem_of_getElem? (i := 6) rfl)) rfl
theorem kx_90 : Cond.initialized RX1 ∈ gk_T := gk_in (t1k (List.mem_of_getElem? (i := 7) rfl)) rfl
theorem kx_91 : Cond.initialized RX6 ∈ gk_T := gk_in (t1k (List.mem_of_getElem? (i := 8) rfl)) rfl
theorem kx_92 : Cond.initialized RX2 ∈ gk_T := gk_in (t1k (List.mem_of_getElem? (i := 9) rfl)) rfl
theorem kx_93 : Cond.initialized RX0 ∈ gk_T := gk_in (t1k (List.mem_of_getElem? (i := 10) rfl)) rfl
theorem kx_94 : Cond.initialized RX5 ∈ gk_T := gk_in (t1k (List.mem_of_getElem? (i := 11) rfl)) rfl
theorem kx_95 : Cond.initialized RX9 ∈ gk_T := gk_in (t1k (List.mem_of_getElem? (i := 12) rfl)) rfl
theorem kx_96 : Cond.initialized RX12 ∈ gk_T := gk_in (t1k (List.mem_of_getElem? (i := 13) rfl)) rfl
theorem nwL_10 : gk_Nw "AtomTablesLaw" 10 11 34 [.int 0, .null, .null, .null, .null, .int 0, .int 0, .null, .int 0, .int 0, .int 0, .int 0, .int 0, .int 0, .null, .null, .null, .null, .null, .null, .int 0, .int 0, .int 0, .null, .int 0, .int 0, .int 0, .int 0, .int 0, .null, .null, .null, .null, .int 0] := ⟨RX12, TX12, tyX12, gclX12, kx_1129, kx_1130, kx_96, tyX12_ok, rfl⟩
theorem nwL_7 : gk_Nw "AtomTablesLaw" 7 10 12 [.null, .null, .int 0, .null, .null, .null, .null, .null, .null, .null, .null, .null] := ⟨RX11, TX11, tyX11, gclX11, kx_104, kx_105, kx_84, tyX11_ok, rfl⟩
theorem nwX0_15 : gk_Nw RX0 15 3 2 [.int 0, .null] := ⟨RX3, TX3, tyX3, gclX3, kx_323, kx_160, kx_87, tyX3_ok, rfl⟩
theorem nwX11_25 : gk_Nw RX11 25 4 7 [.int 0, .null, .null, .null, .null, .null, .null] := ⟨RX4, TX4, tyX4, gclX4, kx_201, kx_202, kx_89, tyX4_ok, rfl⟩
theorem nwX11_34 : gk_Nw RX11 34 1 5 [.null, .null, .null, .null, .null] := ⟨RX1, TX1, tyX1, gclX1, kx_246, kx_247, kx_90, tyX1_ok, rfl⟩
theorem nwX11_43 : gk_Nw RX11 43 2 5 [.null, .null, .null, .null, .null] := ⟨RX2, TX2, tyX2, gclX2, kx_288, kx_289, kx_92, tyX2_ok, rfl⟩
theorem nwX11_50 : gk_Nw RX11 50 0 6 [.null, .int 0, .null, .null, .int 0, .int 0] := ⟨RX0, TX0, tyX0, gclX0, kx_317, kx_318, kx_93, tyX0_ok, rfl⟩
theorem nwX11_63 : gk_Nw RX11 63 5 8 [.int 0, .null, .null, .null, .null, .int 0, .null, .null] := ⟨RX5, TX5, tyX5, gclX5, kx_349, kx_350, kx_94, tyX5_ok, rfl⟩
theorem nwX11_78 : gk_Nw RX11 78 9 2 [.int 0, .null] := ⟨RX9, TX9, tyX9, gclX9, kx_373, kx_374, kx_95, tyX9_ok, rfl⟩
theorem nwX11_9 : gk_Nw RX11 9 7 4 [.null, .null, .null, .int 0] := ⟨RX7, TX7, tyX7, gclX7, kx_112, kx_113, kx_85, tyX7_ok, rfl⟩
theorem nwX1_30 : gk_Nw RX1 30 6 6 [.int 0, .null, .null, .null, .null, .null] := ⟨RX6, TX6, tyX6, gclX6, kx_254, kx_255, kx_91, tyX6_ok, rfl⟩
theorem nwX1_9 : gk_Nw RX1 9 3 2 [.int 0, .null] := ⟨RX3, TX3, tyX3, gclX3, kx_252, kx_160, kx_87, tyX3_ok, rfl⟩
theorem nwX2_18 : gk_Nw RX2 18 6 6 [.int 0, .null, .null, .null, .null, .null] := ⟨RX6, TX6, tyX6, gclX6, kx_296, kx_255, kx_91, tyX6_ok, rfl⟩
theorem nwX2_9 : gk_Nw RX2 9 3 2 [.int 0, .null] := ⟨RX3, TX3, tyX3, gclX3, kx_294, kx_160, kx_87, tyX3_ok, rfl⟩
theorem nwX7_18 : gk_Nw RX7 18 3 2 [.int 0, .null] := ⟨RX3, TX3, tyX3, gclX3, kx_158, kx_160, kx_87, tyX3_ok, rfl⟩
theorem nwX7_9 : gk_Nw RX7 9 8 3 [.int 0, .null, .long 0] := ⟨RX8, TX8, tyX8, gclX8, kx_118, kx_119, kx_86, tyX8_ok, rfl⟩
/-- Table.restart(1), in the constructor -/
theorem i_restart {E : gk_E} {dd n r : Nat} {h : gk_H} {K : gk_H → Prop} (hn : h.length = n) (hr : r < h.length) (k : K (HA h r (.inr (8, [.int (nI 1), .ref (n + 0), .long (lN 1)])) [.inl (0, 4, .inl (upd (upd (upd (upd (fun _ => 0) 0 (nI 0)) 1 (nI 1)) 2 (nI 2)) 3 (nI 3)))])) : RnV E mX8_restart (dd + 2, 0, 0) [.ref r, .int (nI 1)] (HA h r (.inr (8, [.int (nI 1), .ref (n + 0), .long (lN 0)])) [.inl (0, 4, .inl (fun _ => 0))]) K := by
  refine vX8_restart_0 (ha_StI hr (Nat.le_of_ble_eq_true rfl) ?_)
  refine vX8_restart_7 ⟨fun z => absurd z (by decide), fun _ => ha_LdR hr rfl (ha_AsI hn (j := 0) (i := 0) rfl (by decide) (by decide) ?_)⟩
  rw [show (nI 0 + nI 1 : Int32) = nI 1 by decide]
  refine vX8_restart_7 ⟨fun z => absurd z (by decide), fun _ => ha_LdR hr rfl (ha_AsI hn (j := 0) (i := 1) rfl (by decide) (by decide) ?_)⟩
  rw [show (nI 1 + nI 1 : Int32) = nI 2 by decide]
  refine vX8_restart_7 ⟨fun z => absurd z (by decide), fun _ => ha_LdR hr rfl (ha_AsI hn (j := 0) (i := 2) rfl (by decide) (by decide) ?_)⟩
  rw [show (nI 2 + nI 1 : Int32) = nI 3 by decide]
  refine vX8_restart_7 ⟨fun z => absurd z (by decide), fun _ => ha_LdR hr rfl (ha_AsI hn (j := 0) (i := 3) rfl (by decide) (by decide) ?_)⟩
  rw [show (nI 3 + nI 1 : Int32) = nI 4 by decide]
  refine vX8_restart_7 ⟨fun _ => ⟨⟨_, HA_r hr⟩, ?_⟩, fun z => absurd (by decide) z⟩
  refine vX8_keepFixed_0 (ha_StL hr (Nat.le_of_ble_eq_true rfl) ?_)
  refine vX8_keepFixed_7 (ha_LdI hr rfl ⟨fun z => absurd z (by decide), fun _ => ha_LdL hr rfl (c_bit (x := 0) (y := 0) (z := 0) (by decide) (c_bit (x := 0) (y := 0) (z := 0) (by decide) (ha_LdR hr rfl (ha_AlI hn (j := 0) (i := 0) rfl (by decide) (by decide) ?_))))⟩)
  refine c_bit (x := 0) (y := 0) (z := 0) (by decide) (ha_StL hr (Nat.le_of_ble_eq_true rfl) ?_)
  rw [show (nI 0 + nI 1 : Int32) = nI 1 by decide]
  exact vX8_keepFixed_7 (ha_LdI hr rfl ⟨fun _ => k, fun z => absurd (by decide) z⟩)
set_option maxHeartbeats 4000000 in
theorem i_X3 {E : gk_E} {dd n r : Nat} {h : gk_H} {K : gk_H → Prop} (hn : h.length = n) (h9 : n < 799000) (hx : h[r]? = some (.inr (3, [.int 0, .null]))) (k : K (HA h r (.inr (3, [.int (nI 0), .ref (n + 0)])) [.inl (0, 36, .inl (fun _ => 0))])) : RnV E mX3_init (dd + 1, 1, 36) [.ref r] h K := by
  have hr : r < h.length := (List.getElem?_eq_some_iff.mp hx).1
  suffices H : RnV E mX3_init (dd + 1, 1, 36) [.ref r] (HA h r (.inr (3, [.int 0, .null])) []) K by rw [HA_0 hx] at H; exact H
  show gk_G E mX3_init (dd + 1, 1, 36) 0 [(0, .ref r)] [] (HA h r (.inr (3, [.int 0, .null])) []) (fun o h1 => o = none ∧ K h1)
  refine gk_aload_n (pc := 0) (DX3_init_0.at 0 rfl) 0 rfl rfl ?_
  refine gk_objI (pc := 1) (DX3_init_0.at 1 rfl) kx_164 kx_110 kx_111 (Nat.le_of_ble_eq_true rfl) ?_
  refine gk_aload_n (pc := 4) (DX3_init_0.at 2 rfl) 0 rfl rfl ?_
  refine gk_iconst (pc := 5) (nI 0) (DX3_init_0.at 3 rfl) (by decide +kernel) ?_
  refine ha_put (pc := 6) (fs' := [.int (nI 0), .null]) hr (DX3_init_0.at 4 rfl) fX3_9_3w (Nat.le_of_ble_eq_true rfl) rfl rfl rfl ?_
  refine gk_aload_n (pc := 9) (DX3_init_0.at 5 rfl) 0 rfl rfl ?_
  refine gk_bipush (pc := 10) (nI 36) (DX3_init_0.at 6 rfl) (by decide +kernel) ?_
  refine ha_newI (pc := 12) (m := 36) (l' := [.inl (0, 36, .inl (fun _ => 0))]) hn (DX3_init_0.at 7 rfl) kx_157 (by decide) (q := n + 0) rfl (by omega) rfl ?_
  refine ha_putF (pc := 14) (fs' := [.int (nI 0), .ref (n + 0)]) hr (DX3_init_0.at 8 rfl) rfl fX3_15_3w (Nat.le_of_ble_eq_true rfl) rfl rfl rfl ?_
  exact gk_return (pc := 17) (DX3_init_0.at 9 rfl) rfl ⟨rfl, k⟩
set_option maxHeartbeats 4000000 in
theorem i_X9 {E : gk_E} {dd n r : Nat} {h : gk_H} {K : gk_H → Prop} (hn : h.length = n) (h9 : n < 799000) (hx : h[r]? = some (.inr (9, [.int 0, .null]))) (k : K (HA h r (.inr (9, [.int (nI 0), .ref (n + 0)])) [.inl (2, 100, .inl (fun _ => 0))])) : RnV E mX9_init (dd + 1, 1, 100) [.ref r] h K := by
  have hr : r < h.length := (List.getElem?_eq_some_iff.mp hx).1
  suffices H : RnV E mX9_init (dd + 1, 1, 100) [.ref r] (HA h r (.inr (9, [.int 0, .null])) []) K by rw [HA_0 hx] at H; exact H
  show gk_G E mX9_init (dd + 1, 1, 100) 0 [(0, .ref r)] [] (HA h r (.inr (9, [.int 0, .null])) []) (fun o h1 => o = none ∧ K h1)
  refine gk_aload_n (pc := 0) (DX9_init_0.at 0 rfl) 0 rfl rfl ?_
  refine gk_objI (pc := 1) (DX9_init_0.at 1 rfl) kx_378 kx_110 kx_111 (Nat.le_of_ble_eq_true rfl) ?_
  refine gk_aload_n (pc := 4) (DX9_init_0.at 2 rfl) 0 rfl rfl ?_
  refine gk_iconst (pc := 5) (nI 0) (DX9_init_0.at 3 rfl) (by decide +kernel) ?_
  refine ha_put (pc := 6) (fs' := [.int (nI 0), .null]) hr (DX9_init_0.at 4 rfl) fX9_9_9w (Nat.le_of_ble_eq_true rfl) rfl rfl rfl ?_
  refine gk_aload_n (pc := 9) (DX9_init_0.at 5 rfl) 0 rfl rfl ?_
  refine gk_bipush (pc := 10) (nI 100) (DX9_init_0.at 6 rfl) (by decide +kernel) ?_
  refine ha_newB (pc := 12) (m := 100) (l' := [.inl (2, 100, .inl (fun _ => 0))]) hn (DX9_init_0.at 7 rfl) kx_389 (by decide) (q := n + 0) rfl (by omega) rfl ?_
  refine ha_putF (pc := 14) (fs' := [.int (nI 0), .ref (n + 0)]) hr (DX9_init_0.at 8 rfl) rfl fX9_15_9w (Nat.le_of_ble_eq_true rfl) rfl rfl rfl ?_
  exact gk_return (pc := 17) (DX9_init_0.at 9 rfl) rfl ⟨rfl, k⟩
set_option maxHeartbeats 4000000 in
theorem i_X8 {E : gk_E} {dd n r : Nat} {h : gk_H} {K : gk_H → Prop} (hn : h.length = n) (h9 : n < 797000) (hx : h[r]? = some (.inr (8, [.int 0, .null, .long 0]))) (k : K (HA h r (.inr (8, [.int (nI 1), .ref (n + 0), .long (lN 1)])) [.inl (0, 4, .inl (upd (upd (upd (upd (fun _ => 0) 0 (nI 0)) 1 (nI 1)) 2 (nI 2)) 3 (nI 3)))])) : RnV E mX8_init (dd + 3, 1, 4) [.ref r] h K := by
  have hr : r < h.length := (List.getElem?_eq_some_iff.mp hx).1
  suffices H : RnV E mX8_init (dd + 3, 1, 4) [.ref r] (HA h r (.inr (8, [.int 0, .null, .long 0])) []) K by rw [HA_0 hx] at H; exact H
  show gk_G E mX8_init (dd + 3, 1, 4) 0 [(0, .ref r)] [] (HA h r (.inr (8, [.int 0, .null, .long 0])) []) (fun o h1 => o = none ∧ K h1)
  refine gk_aload_n (pc := 0) (DX8_init_0.at 0 rfl) 0 rfl rfl ?_
  refine gk_objI (pc := 1) (DX8_init_0.at 1 rfl) kx_123 kx_110 kx_111 (Nat.le_of_ble_eq_true rfl) ?_
  refine gk_aload_n (pc := 4) (DX8_init_0.at 2 rfl) 0 rfl rfl ?_
  refine gk_iconst (pc := 5) (nI 1) (DX8_init_0.at 3 rfl) (by decide +kernel) ?_
  refine ha_put (pc := 6) (fs' := [.int (nI 1), .null, .long 0]) hr (DX8_init_0.at 4 rfl) fX8_9_8w (Nat.le_of_ble_eq_true rfl) rfl rfl rfl ?_
  refine gk_aload_n (pc := 9) (DX8_init_0.at 5 rfl) 0 rfl rfl ?_
  refine gk_iconst (pc := 10) (nI 4) (DX8_init_0.at 6 rfl) (by decide +kernel) ?_
  refine ha_newI (pc := 11) (m := 4) (l' := [.inl (0, 4, .inl (fun _ => 0))]) hn (DX8_init_0.at 7 rfl) kx_157 (by decide) (q := n + 0) rfl (by omega) rfl ?_
  refine ha_putF (pc := 13) (fs' := [.int (nI 1), .ref (n + 0), .long 0]) hr (DX8_init_0.at 8 rfl) rfl fX8_15_8w (Nat.le_of_ble_eq_true rfl) rfl rfl rfl ?_
  refine gk_aload_n (pc := 16) (DX8_init_0.at 9 rfl) 0 rfl rfl ?_
  refine gk_lconst (pc := 17) (lN 0) (DX8_init_0.at 10 rfl) rfl ?_
  refine ha_put (pc := 18) (fs' := [.int (nI 1), .ref (n + 0), .long (lN 0)]) hr (DX8_init_0.at 11 rfl) fX8_19_8w (Nat.le_of_ble_eq_true rfl) rfl rfl rfl ?_
  refine gk_aload_n (pc := 21) (DX8_init_0.at 12 rfl) 0 rfl rfl ?_
  refine gk_iconst (pc := 22) (nI 1) (DX8_init_0.at 13 rfl) (by decide +kernel) ?_
  refine gk_callV (b1 := 0) (b2 := 0) (c1 := 0) (c2 := 0) (pc := 23) [.int (nI 1)] [] (DX8_init_0.at 14 rfl) cvX8_23 (HA_r hr) rfl rfl (Nat.le_of_ble_eq_true rfl) (Nat.le_of_ble_eq_true rfl) (gk_Run.post (fun o h2 z => ?_) (i_restart hn hr k))
  obtain ⟨rfl, hv⟩ := z
  exact gk_return (pc := 26) (DX8_init_0.at 15 rfl) rfl ⟨rfl, hv⟩
set_option maxHeartbeats 4000000 in
theorem i_X10_4 {E : gk_E} {dd n r : Nat} {fs : List Value} {h : gk_H} {K : gk_H → Prop} (hn : h.length = n) (h9 : n < 799000) (hx : h[r]? = some (.inr (4, .int 0 :: .null :: .null :: .null :: fs))) (k : K (HA h r (.inr (4, .int (nI 0) :: .ref (n + 0) :: .ref (n + 1) :: .ref (n + 2) :: fs)) [.inl (0, 6, .inl (fun _ => 0)), .inl (0, 6, .inl (fun _ => 0)), .inl (0, 6, .inl (fun _ => 0))])) : RnV E mX10_init (dd + 1, 3, 18) [.ref r] h K := by
  have hr : r < h.length := (List.getElem?_eq_some_iff.mp hx).1
  suffices H : RnV E mX10_init (dd + 1, 3, 18) [.ref r] (HA h r (.inr (4, .int 0 :: .null :: .null :: .null :: fs)) []) K by rw [HA_0 hx] at H; exact H
  show gk_G E mX10_init (dd + 1, 3, 18) 0 [(0, .ref r)] [] (HA h r (.inr (4, .int 0 :: .null :: .null :: .null :: fs)) []) (fun o h1 => o = none ∧ K h1)
  refine gk_aload_n (pc := 0) (DX10_init_0.at 0 rfl) 0 rfl rfl ?_
  refine gk_objI (pc := 1) (DX10_init_0.at 1 rfl) kx_209 kx_110 kx_111 (Nat.le_of_ble_eq_true rfl) ?_
  refine gk_aload_n (pc := 4) (DX10_init_0.at 2 rfl) 0 rfl rfl ?_
  refine gk_iconst (pc := 5) (nI 0) (DX10_init_0.at 3 rfl) (by decide +kernel) ?_
  refine ha_put (pc := 6) (fs' := (.int (nI 0) :: .null :: .null :: .null :: fs)) hr (DX10_init_0.at 4 rfl) fX10_9_4w (by simp) rfl rfl rfl ?_
  refine gk_aload_n (pc := 9) (DX10_init_0.at 5 rfl) 0 rfl rfl ?_
  refine gk_bipush (pc := 10) (nI 6) (DX10_init_0.at 6 rfl) (by decide +kernel) ?_
  refine ha_newI (pc := 12) (m := 6) (l' := [.inl (0, 6, .inl (fun _ => 0))]) hn (DX10_init_0.at 7 rfl) kx_157 (by decide) (q := n + 0) rfl (by omega) rfl ?_
  refine ha_putF (pc := 14) (fs' := (.int (nI 0) :: .ref (n + 0) :: .null :: .null :: fs)) hr (DX10_init_0.at 8 rfl) rfl fX10_15_4w (by simp) rfl rfl rfl ?_
  refine gk_aload_n (pc := 17) (DX10_init_0.at 9 rfl) 0 rfl rfl ?_
  refine gk_bipush (pc := 18) (nI 6) (DX10_init_0.at 10 rfl) (by decide +kernel) ?_
  refine ha_newI (pc := 20) (m := 6) (l' := [.inl (0, 6, .inl (fun _ => 0)), .inl (0, 6, .inl (fun _ => 0))]) hn (DX10_init_0.at 11 rfl) kx_157 (by decide) (q := n + 1) rfl (by omega) rfl ?_
  refine ha_putF (pc := 22) (fs' := (.int (nI 0) :: .ref (n + 0) :: .ref (n + 1) :: .null :: fs)) hr (DX10_init_0.at 12 rfl) rfl fX10_19_4w (by simp) rfl rfl rfl ?_
  refine gk_aload_n (pc := 25) (DX10_init_0.at 13 rfl) 0 rfl rfl ?_
  refine gk_bipush (pc := 26) (nI 6) (DX10_init_0.at 14 rfl) (by decide +kernel) ?_
  refine ha_newI (pc := 28) (m := 6) (l' := [.inl (0, 6, .inl (fun _ => 0)), .inl (0, 6, .inl (fun _ => 0)), .inl (0, 6, .inl (fun _ => 0))]) hn (DX10_init_0.at 15 rfl) kx_157 (by decide) (q := n + 2) rfl (by omega) rfl ?_
  refine ha_putF (pc := 30) (fs' := (.int (nI 0) :: .ref (n + 0) :: .ref (n + 1) :: .ref (n + 2) :: fs)) hr (DX10_init_0.at 16 rfl) rfl fX10_22_4w (by simp) rfl rfl rfl ?_
  exact gk_return (pc := 33) (DX10_init_0.at 17 rfl) rfl ⟨rfl, k⟩
set_option maxHeartbeats 4000000 in
theorem i_X10_5 {E : gk_E} {dd n r : Nat} {fs : List Value} {h : gk_H} {K : gk_H → Prop} (hn : h.length = n) (h9 : n < 799000) (hx : h[r]? = some (.inr (5, .int 0 :: .null :: .null :: .null :: fs))) (k : K (HA h r (.inr (5, .int (nI 0) :: .ref (n + 0) :: .ref (n + 1) :: .ref (n + 2) :: fs)) [.inl (0, 6, .inl (fun _ => 0)), .inl (0, 6, .inl (fun _ => 0)), .inl (0, 6, .inl (fun _ => 0))])) : RnV E mX10_init (dd + 1, 3, 18) [.ref r] h K := by
  have hr : r < h.length := (List.getElem?_eq_some_iff.mp hx).1
  suffices H : RnV E mX10_init (dd + 1, 3, 18) [.ref r] (HA h r (.inr (5, .int 0 :: .null :: .null :: .null :: fs)) []) K by rw [HA_0 hx] at H; exact H
  show gk_G E mX10_init (dd + 1, 3, 18) 0 [(0, .ref r)] [] (HA h r (.inr (5, .int 0 :: .null :: .null :: .null :: fs)) []) (fun o h1 => o = none ∧ K h1)
  refine gk_aload_n (pc := 0) (DX10_init_0.at 0 rfl) 0 rfl rfl ?_
  refine gk_objI (pc := 1) (DX10_init_0.at 1 rfl) kx_209 kx_110 kx_111 (Nat.le_of_ble_eq_true rfl) ?_
  refine gk_aload_n (pc := 4) (DX10_init_0.at 2 rfl) 0 rfl rfl ?_
  refine gk_iconst (pc := 5) (nI 0) (DX10_init_0.at 3 rfl) (by decide +kernel) ?_
  refine ha_put (pc := 6) (fs' := (.int (nI 0) :: .null :: .null :: .null :: fs)) hr (DX10_init_0.at 4 rfl) fX10_9_5w (by simp) rfl rfl rfl ?_
  refine gk_aload_n (pc := 9) (DX10_init_0.at 5 rfl) 0 rfl rfl ?_
  refine gk_bipush (pc := 10) (nI 6) (DX10_init_0.at 6 rfl) (by decide +kernel) ?_
  refine ha_newI (pc := 12) (m := 6) (l' := [.inl (0, 6, .inl (fun _ => 0))]) hn (DX10_init_0.at 7 rfl) kx_157 (by decide) (q := n + 0) rfl (by omega) rfl ?_
  refine ha_putF (pc := 14) (fs' := (.int (nI 0) :: .ref (n + 0) :: .null :: .null :: fs)) hr (DX10_init_0.at 8 rfl) rfl fX10_15_5w (by simp) rfl rfl rfl ?_
  refine gk_aload_n (pc := 17) (DX10_init_0.at 9 rfl) 0 rfl rfl ?_
  refine gk_bipush (pc := 18) (nI 6) (DX10_init_0.at 10 rfl) (by decide +kernel) ?_
  refine ha_newI (pc := 20) (m := 6) (l' := [.inl (0, 6, .inl (fun _ => 0)), .inl (0, 6, .inl (fun _ => 0))]) hn (DX10_init_0.at 11 rfl) kx_157 (by decide) (q := n + 1) rfl (by omega) rfl ?_
  refine ha_putF (pc := 22) (fs' := (.int (nI 0) :: .ref (n + 0) :: .ref (n + 1) :: .null :: fs)) hr (DX10_init_0.at 12 rfl) rfl fX10_19_5w (by simp) rfl rfl rfl ?_
  refine gk_aload_n (pc := 25) (DX10_init_0.at 13 rfl) 0 rfl rfl ?_
  refine gk_bipush (pc := 26) (nI 6) (DX10_init_0.at 14 rfl) (by decide +kernel) ?_
  refine ha_newI (pc := 28) (m := 6) (l' := [.inl (0, 6, .inl (fun _ => 0)), .inl (0, 6, .inl (fun _ => 0)), .inl (0, 6, .inl (fun _ => 0))]) hn (DX10_init_0.at 15 rfl) kx_157 (by decide) (q := n + 2) rfl (by omega) rfl ?_
  refine ha_putF (pc := 30) (fs' := (.int (nI 0) :: .ref (n + 0) :: .ref (n + 1) :: .ref (n + 2) :: fs)) hr (DX10_init_0.at 16 rfl) rfl fX10_22_5w (by simp) rfl rfl rfl ?_
  exact gk_return (pc := 33) (DX10_init_0.at 17 rfl) rfl ⟨rfl, k⟩
set_option maxHeartbeats 4000000 in
theorem i_X10_6 {E : gk_E} {dd n r : Nat} {fs : List Value} {h : gk_H} {K : gk_H → Prop} (hn : h.length = n) (h9 : n < 799000) (hx : h[r]? = some (.inr (6, .int 0 :: .null :: .null :: .null :: fs))) (k : K (HA h r (.inr (6, .int (nI 0) :: .ref (n + 0) :: .ref (n + 1) :: .ref (n + 2) :: fs)) [.inl (0, 6, .inl (fun _ => 0)), .inl (0, 6, .inl (fun _ => 0)), .inl (0, 6, .inl (fun _ => 0))])) : RnV E mX10_init (dd + 1, 3, 18) [.ref r] h K := by
  have hr : r < h.length := (List.getElem?_eq_some_iff.mp hx).1
  suffices H : RnV E mX10_init (dd + 1, 3, 18) [.ref r] (HA h r (.inr (6, .int 0 :: .null :: .null :: .null :: fs)) []) K by rw [HA_0 hx] at H; exact H
  show gk_G E mX10_init (dd + 1, 3, 18) 0 [(0, .ref r)] [] (HA h r (.inr (6, .int 0 :: .null :: .null :: .null :: fs)) []) (fun o h1 => o = none ∧ K h1)
  refine gk_aload_n (pc := 0) (DX10_init_0.at 0 rfl) 0 rfl rfl ?_
  refine gk_objI (pc := 1) (DX10_init_0.at 1 rfl) kx_209 kx_110 kx_111 (Nat.le_of_ble_eq_true rfl) ?_
  refine gk_aload_n (pc := 4) (DX10_init_0.at 2 rfl) 0 rfl rfl ?_
  refine gk_iconst (pc := 5) (nI 0) (DX10_init_0.at 3 rfl) (by decide +kernel) ?_
  refine ha_put (pc := 6) (fs' := (.int (nI 0) :: .null :: .null :: .null :: fs)) hr (DX10_init_0.at 4 rfl) fX10_9_6w (by simp) rfl rfl rfl ?_
  refine gk_aload_n (pc := 9) (DX10_init_0.at 5 rfl) 0 rfl rfl ?_
  refine gk_bipush (pc := 10) (nI 6) (DX10_init_0.at 6 rfl) (by decide +kernel) ?_
  refine ha_newI (pc := 12) (m := 6) (l' := [.inl (0, 6, .inl (fun _ => 0))]) hn (DX10_init_0.at 7 rfl) kx_157 (by decide) (q := n + 0) rfl (by omega) rfl ?_
  refine ha_putF (pc := 14) (fs' := (.int (nI 0) :: .ref (n + 0) :: .null :: .null :: fs)) hr (DX10_init_0.at 8 rfl) rfl fX10_15_6w (by simp) rfl rfl rfl ?_
  refine gk_aload_n (pc := 17) (DX10_init_0.at 9 rfl) 0 rfl rfl ?_
  refine gk_bipush (pc := 18) (nI 6) (DX10_init_0.at 10 rfl) (by decide +kernel) ?_
  refine ha_newI (pc := 20) (m := 6) (l' := [.inl (0, 6, .inl (fun _ => 0)), .inl (0, 6, .inl (fun _ => 0))]) hn (DX10_init_0.at 11 rfl) kx_157 (by decide) (q := n + 1) rfl (by omega) rfl ?_
  refine ha_putF (pc := 22) (fs' := (.int (nI 0) :: .ref (n + 0) :: .ref (n + 1) :: .null :: fs)) hr (DX10_init_0.at 12 rfl) rfl fX10_19_6w (by simp) rfl rfl rfl ?_
  refine gk_aload_n (pc := 25) (DX10_init_0.at 13 rfl) 0 rfl rfl ?_
  refine gk_bipush (pc := 26) (nI 6) (DX10_init_0.at 14 rfl) (by decide +kernel) ?_
  refine ha_newI (pc := 28) (m := 6) (l' := [.inl (0, 6, .inl (fun _ => 0)), .inl (0, 6, .inl (fun _ => 0)), .inl (0, 6, .inl (fun _ => 0))]) hn (DX10_init_0.at 15 rfl) kx_157 (by decide) (q := n + 2) rfl (by omega) rfl ?_
  refine ha_putF (pc := 30) (fs' := (.int (nI 0) :: .ref (n + 0) :: .ref (n + 1) :: .ref (n + 2) :: fs)) hr (DX10_init_0.at 16 rfl) rfl fX10_22_6w (by simp) rfl rfl rfl ?_
  exact gk_return (pc := 33) (DX10_init_0.at 17 rfl) rfl ⟨rfl, k⟩
set_option maxHeartbeats 4000000 in
theorem i_X6 {E : gk_E} {dd n r : Nat} {q1 : Nat} {q2 : Nat} {h : gk_H} {K : gk_H → Prop} (hn : h.length = n) (h9 : n < 798000) (hx : h[r]? = some (.inr (6, [.int 0, .null, .null, .null, .null, .null]))) (k : K (HA h r (.inr (6, [.int (nI 0), .ref (n + 0), .ref (n + 1), .ref (n + 2), .ref q1, .ref q2])) [.inl (0, 6, .inl (fun _ => 0)), .inl (0, 6, .inl (fun _ => 0)), .inl (0, 6, .inl (fun _ => 0))])) : RnV E mX6_init (dd + 2, 3, 18) [.ref r, .ref q1, .ref q2] h K := by
  have hr : r < h.length := (List.getElem?_eq_some_iff.mp hx).1
  suffices H : RnV E mX6_init (dd + 2, 3, 18) [.ref r, .ref q1, .ref q2] (HA h r (.inr (6, [.int 0, .null, .null, .null, .null, .null])) []) K by rw [HA_0 hx] at H; exact H
  show gk_G E mX6_init (dd + 2, 3, 18) 0 [(0, .ref r), (1, .ref q1), (2, .ref q2)] [] (HA h r (.inr (6, [.int 0, .null, .null, .null, .null, .null])) []) (fun o h1 => o = none ∧ K h1)
  refine gk_aload_n (pc := 0) (DX6_init_0.at 0 rfl) 0 rfl rfl ?_
  refine ha_init (pc := 1) [] [] (DX6_init_0.at 1 rfl) ciX6_1 rfl rfl (Nat.le_of_ble_eq_true rfl) (Nat.le_of_ble_eq_true rfl) (i_X10_6 (n := n + 0) (hn := by rw [HA_len hn]; rfl) (h9 := by omega) (hx := (HA_r hr))  ?_)
  rw [HA_self hr (l3 := [.inl (0, 6, .inl (fun _ => 0)), .inl (0, 6, .inl (fun _ => 0)), .inl (0, 6, .inl (fun _ => 0))]) rfl]
  show gk_G E mX6_init (dd + 2, 0, 0) 4 [(0, .ref r), (1, .ref q1), (2, .ref q2)] [] (HA h r (.inr (6, [.int (nI 0), .ref (n + 0), .ref (n + 1), .ref (n + 2), .null, .null])) [.inl (0, 6, .inl (fun _ => 0)), .inl (0, 6, .inl (fun _ => 0)), .inl (0, 6, .inl (fun _ => 0))]) _
  refine gk_aload_n (pc := 4) (DX6_init_0.at 2 rfl) 0 rfl rfl ?_
  refine gk_aload_n (pc := 5) (DX6_init_0.at 3 rfl) 1 rfl rfl ?_
  refine ha_putF (pc := 6) (fs' := [.int (nI 0), .ref (n + 0), .ref (n + 1), .ref (n + 2), .ref q1, .null]) hr (DX6_init_0.at 4 rfl) rfl fX6_7_6w (Nat.le_of_ble_eq_true rfl) rfl rfl rfl ?_
  refine gk_aload_n (pc := 9) (DX6_init_0.at 5 rfl) 0 rfl rfl ?_
  refine gk_aload_n (pc := 10) (DX6_init_0.at 6 rfl) 2 rfl rfl ?_
  refine ha_putF (pc := 11) (fs' := [.int (nI 0), .ref (n + 0), .ref (n + 1), .ref (n + 2), .ref q1, .ref q2]) hr (DX6_init_0.at 7 rfl) rfl fX6_13_6w (Nat.le_of_ble_eq_true rfl) rfl rfl rfl ?_
  exact gk_return (pc := 14) (DX6_init_0.at 8 rfl) rfl ⟨rfl, k⟩
set_option maxHeartbeats 4000000 in
theorem i_X4 {E : gk_E} {dd n r : Nat} {q1 : Nat} {fq1 : List Value} {q1_2 : Nat} {h : gk_H} {K : gk_H → Prop} (hn : h.length = n) (h9 : n < 798000) (hx : h[r]? = some (.inr (4, [.int 0, .null, .null, .null, .null, .null, .null]))) (hq1 : q1 ≠ r) (hq1o : h[q1]? = some (.inr (7, fq1))) (hq1_2 : fq1[2]? = some (.ref q1_2)) (k : K (HA h r (.inr (4, [.int (nI 0), .ref (n + 0), .ref (n + 1), .ref (n + 2), .ref q1, .ref q1_2, .ref q1_2])) [.inl (0, 6, .inl (fun _ => 0)), .inl (0, 6, .inl (fun _ => 0)), .inl (0, 6, .inl (fun _ => 0))])) : RnV E mX4_init (dd + 2, 3, 18) [.ref r, .ref q1] h K := by
  have hr : r < h.length := (List.getElem?_eq_some_iff.mp hx).1
  suffices H : RnV E mX4_init (dd + 2, 3, 18) [.ref r, .ref q1] (HA h r (.inr (4, [.int 0, .null, .null, .null, .null, .null, .null])) []) K by rw [HA_0 hx] at H; exact H
  show gk_G E mX4_init (dd + 2, 3, 18) 0 [(0, .ref r), (1, .ref q1)] [] (HA h r (.inr (4, [.int 0, .null, .null, .null, .null, .null, .null])) []) (fun o h1 => o = none ∧ K h1)
  refine gk_aload_n (pc := 0) (DX4_init_0.at 0 rfl) 0 rfl rfl ?_
  refine ha_init (pc := 1) [] [] (DX4_init_0.at 1 rfl) ciX4_3 rfl rfl (Nat.le_of_ble_eq_true rfl) (Nat.le_of_ble_eq_true rfl) (i_X10_4 (n := n + 0) (hn := by rw [HA_len hn]; rfl) (h9 := by omega) (hx := (HA_r hr))  ?_)
  rw [HA_self hr (l3 := [.inl (0, 6, .inl (fun _ => 0)), .inl (0, 6, .inl (fun _ => 0)), .inl (0, 6, .inl (fun _ => 0))]) rfl]
  show gk_G E mX4_init (dd + 2, 0, 0) 4 [(0, .ref r), (1, .ref q1)] [] (HA h r (.inr (4, [.int (nI 0), .ref (n + 0), .ref (n + 1), .ref (n + 2), .null, .null, .null])) [.inl (0, 6, .inl (fun _ => 0)), .inl (0, 6, .inl (fun _ => 0)), .inl (0, 6, .inl (fun _ => 0))]) _
  refine gk_aload_n (pc := 4) (DX4_init_0.at 2 rfl) 0 rfl rfl ?_
  refine gk_aload_n (pc := 5) (DX4_init_0.at 3 rfl) 1 rfl rfl ?_
  refine ha_putF (pc := 6) (fs' := [.int (nI 0), .ref (n + 0), .ref (n + 1), .ref (n + 2), .ref q1, .null, .null]) hr (DX4_init_0.at 4 rfl) rfl fX4_9_4w (Nat.le_of_ble_eq_true rfl) rfl rfl rfl ?_
  refine gk_aload_n (pc := 9) (DX4_init_0.at 5 rfl) 0 rfl rfl ?_
  refine gk_aload_n (pc := 10) (DX4_init_0.at 6 rfl) 1 rfl rfl ?_
  refine gk_get (pc := 11) (.ref q1_2) (DX4_init_0.at 7 rfl) fX4_15_7 (HA_o hq1 hq1o) hq1_2 ?_
  refine ha_put (pc := 14) (fs' := [.int (nI 0), .ref (n + 0), .ref (n + 1), .ref (n + 2), .ref q1, .ref q1_2, .null]) hr (DX4_init_0.at 8 rfl) fX4_21_4w (Nat.le_of_ble_eq_true rfl) rfl rfl rfl ?_
  refine gk_aload_n (pc := 17) (DX4_init_0.at 9 rfl) 0 rfl rfl ?_
  refine gk_aload_n (pc := 18) (DX4_init_0.at 10 rfl) 1 rfl rfl ?_
  refine gk_get (pc := 19) (.ref q1_2) (DX4_init_0.at 11 rfl) fX4_15_7 (HA_o hq1 hq1o) hq1_2 ?_
  refine ha_put (pc := 22) (fs' := [.int (nI 0), .ref (n + 0), .ref (n + 1), .ref (n + 2), .ref q1, .ref q1_2, .ref q1_2]) hr (DX4_init_0.at 12 rfl) fX4_24_4w (Nat.le_of_ble_eq_true rfl) rfl rfl rfl ?_
  exact gk_return (pc := 25) (DX4_init_0.at 13 rfl) rfl ⟨rfl, k⟩
set_option maxHeartbeats 4000000 in
theorem i_X5 {E : gk_E} {dd n r : Nat} {q1 : Nat} {h : gk_H} {K : gk_H → Prop} (hn : h.length = n) (h9 : n < 798000) (hx : h[r]? = some (.inr (5, [.int 0, .null, .null, .null, .null, .int 0, .null, .null]))) (k : K (HA h r (.inr (5, [.int (nI 0), .ref (n + 0), .ref (n + 1), .ref (n + 2), .ref q1, .int (nI 2), .ref (n + 3), .ref (n + 4)])) [.inl (0, 6, .inl (fun _ => 0)), .inl (0, 6, .inl (fun _ => 0)), .inl (0, 6, .inl (fun _ => 0)), .inl (0, 13, .inl (fun _ => 0)), .inl (0, 4, .inl (fun _ => 0))])) : RnV E mX5_init (dd + 2, 5, 35) [.ref r, .ref q1] h K := by
  have hr : r < h.length := (List.getElem?_eq_some_iff.mp hx).1
  suffices H : RnV E mX5_init (dd + 2, 5, 35) [.ref r, .ref q1] (HA h r (.inr (5, [.int 0, .null, .null, .null, .null, .int 0, .null, .null])) []) K by rw [HA_0 hx] at H; exact H
  show gk_G E mX5_init (dd + 2, 5, 35) 0 [(0, .ref r), (1, .ref q1)] [] (HA h r (.inr (5, [.int 0, .null, .null, .null, .null, .int 0, .null, .null])) []) (fun o h1 => o = none ∧ K h1)
  refine gk_aload_n (pc := 0) (DX5_init_0.at 0 rfl) 0 rfl rfl ?_
  refine ha_init (pc := 1) [] [] (DX5_init_0.at 1 rfl) ciX5_3 rfl rfl (Nat.le_of_ble_eq_true rfl) (Nat.le_of_ble_eq_true rfl) (i_X10_5 (n := n + 0) (hn := by rw [HA_len hn]; rfl) (h9 := by omega) (hx := (HA_r hr))  ?_)
  rw [HA_self hr (l3 := [.inl (0, 6, .inl (fun _ => 0)), .inl (0, 6, .inl (fun _ => 0)), .inl (0, 6, .inl (fun _ => 0))]) rfl]
  show gk_G E mX5_init (dd + 2, 2, 17) 4 [(0, .ref r), (1, .ref q1)] [] (HA h r (.inr (5, [.int (nI 0), .ref (n + 0), .ref (n + 1), .ref (n + 2), .null, .int 0, .null, .null])) [.inl (0, 6, .inl (fun _ => 0)), .inl (0, 6, .inl (fun _ => 0)), .inl (0, 6, .inl (fun _ => 0))]) _
  refine gk_aload_n (pc := 4) (DX5_init_0.at 2 rfl) 0 rfl rfl ?_
  refine gk_iconst (pc := 5) (nI 2) (DX5_init_0.at 3 rfl) (by decide +kernel) ?_
  refine ha_put (pc := 6) (fs' := [.int (nI 0), .ref (n + 0), .ref (n + 1), .ref (n + 2), .null, .int (nI 2), .null, .null]) hr (DX5_init_0.at 4 rfl) fX5_9_5w (Nat.le_of_ble_eq_true rfl) rfl rfl rfl ?_
  refine gk_aload_n (pc := 9) (DX5_init_0.at 5 rfl) 0 rfl rfl ?_
  refine gk_bipush (pc := 10) (nI 13) (DX5_init_0.at 6 rfl) (by decide +kernel) ?_
  refine ha_newI (pc := 12) (m := 13) (l' := [.inl (0, 6, .inl (fun _ => 0)), .inl (0, 6, .inl (fun _ => 0)), .inl (0, 6, .inl (fun _ => 0)), .inl (0, 13, .inl (fun _ => 0))]) hn (DX5_init_0.at 7 rfl) kx_157 (by decide) (q := n + 3) rfl (by omega) rfl ?_
  refine ha_putF (pc := 14) (fs' := [.int (nI 0), .ref (n + 0), .ref (n + 1), .ref (n + 2), .null, .int (nI 2), .ref (n + 3), .null]) hr (DX5_init_0.at 8 rfl) rfl fX5_15_5w (Nat.le_of_ble_eq_true rfl) rfl rfl rfl ?_
  refine gk_aload_n (pc := 17) (DX5_init_0.at 9 rfl) 0 rfl rfl ?_
  refine gk_iconst (pc := 18) (nI 4) (DX5_init_0.at 10 rfl) (by decide +kernel) ?_
  refine ha_newI (pc := 19) (m := 4) (l' := [.inl (0, 6, .inl (fun _ => 0)), .inl (0, 6, .inl (fun _ => 0)), .inl (0, 6, .inl (fun _ => 0)), .inl (0, 13, .inl (fun _ => 0)), .inl (0, 4, .inl (fun _ => 0))]) hn (DX5_init_0.at 11 rfl) kx_157 (by decide) (q := n + 4) rfl (by omega) rfl ?_
  refine ha_putF (pc := 21) (fs' := [.int (nI 0), .ref (n + 0), .ref (n + 1), .ref (n + 2), .null, .int (nI 2), .ref (n + 3), .ref (n + 4)]) hr (DX5_init_0.at 12 rfl) rfl fX5_19_5w (Nat.le_of_ble_eq_true rfl) rfl rfl rfl ?_
  refine gk_aload_n (pc := 24) (DX5_init_0.at 13 rfl) 0 rfl rfl ?_
  refine gk_aload_n (pc := 25) (DX5_init_0.at 14 rfl) 1 rfl rfl ?_
  refine ha_putF (pc := 26) (fs' := [.int (nI 0), .ref (n + 0), .ref (n + 1), .ref (n + 2), .ref q1, .int (nI 2), .ref (n + 3), .ref (n + 4)]) hr (DX5_init_0.at 15 rfl) rfl fX5_22_5w (Nat.le_of_ble_eq_true rfl) rfl rfl rfl ?_
  exact gk_return (pc := 29) (DX5_init_0.at 16 rfl) rfl ⟨rfl, k⟩
set_option maxHeartbeats 4000000 in
theorem i_X0 {E : gk_E} {dd n r : Nat} {q1 : Nat} {h : gk_H} {K : gk_H → Prop} (hn : h.length = n) (h9 : n < 798000) (hx : h[r]? = some (.inr (0, [.null, .int 0, .null, .null, .int 0, .int 0]))) (k : K (HA h r (.inr (0, [.ref q1, .int (nI 0), .ref (n + 0), .ref (n + 2), .int (nI 0), .int (nI 0)])) [.inr (3, [.int (nI 0), .ref (n + 1)]), .inl (0, 36, .inl (fun _ => 0)), .inl (0, 153, .inl (fun _ => 0))])) : RnV E mX0_init (dd + 2, 3, 191) [.ref r, .ref q1] h K := by
  have hr : r < h.length := (List.getElem?_eq_some_iff.mp hx).1
  suffices H : RnV E mX0_init (dd + 2, 3, 191) [.ref r, .ref q1] (HA h r (.inr (0, [.null, .int 0, .null, .null, .int 0, .int 0])) []) K by rw [HA_0 hx] at H; exact H
  show gk_G E mX0_init (dd + 2, 3, 191) 0 [(0, .ref r), (1, .ref q1)] [] (HA h r (.inr (0, [.null, .int 0, .null, .null, .int 0, .int 0])) []) (fun o h1 => o = none ∧ K h1)
  refine gk_aload_n (pc := 0) (DX0_init_0.at 0 rfl) 0 rfl rfl ?_
  refine gk_objI (pc := 1) (DX0_init_0.at 1 rfl) kx_322 kx_110 kx_111 (Nat.le_of_ble_eq_true rfl) ?_
  refine gk_aload_n (pc := 4) (DX0_init_0.at 2 rfl) 0 rfl rfl ?_
  refine gk_iconst (pc := 5) (nI 0) (DX0_init_0.at 3 rfl) (by decide +kernel) ?_
  refine ha_put (pc := 6) (fs' := [.null, .int (nI 0), .null, .null, .int 0, .int 0]) hr (DX0_init_0.at 4 rfl) fX0_9_0w (Nat.le_of_ble_eq_true rfl) rfl rfl rfl ?_
  refine gk_aload_n (pc := 9) (DX0_init_0.at 5 rfl) 0 rfl rfl ?_
  refine ha_newO (pc := 10) (N := 2) (ci := 3) (fs := [.int 0, .null]) (l' := [.inr (3, [.int 0, .null])]) hn (DX0_init_0.at 6 rfl) nwX0_15 (q := n + 0) rfl (by omega) rfl ?_
  refine gk_dup (pc := 13) (DX0_init_0.at 7 rfl) rfl ?_
  refine ha_init (pc := 14) [] [.ref (n + 0), .ref r] (DX0_init_0.at 8 rfl) ciX0_17 rfl rfl (Nat.le_of_ble_eq_true rfl) (Nat.le_of_ble_eq_true rfl) (i_X3 (n := n + 1) (hn := by rw [HA_len hn]; rfl) (h9 := by omega) (hx := (HA_n hn (j := 0) rfl))  ?_)
  rw [HA_HA hn (l3 := [.inr (3, [.int (nI 0), .ref (n + 1)]), .inl (0, 36, .inl (fun _ => 0))]) rfl]
  show gk_G E mX0_init (dd + 2, 1, 153) 17 [(0, .ref r), (1, .ref q1)] [.ref (n + 0), .ref r] (HA h r (.inr (0, [.null, .int (nI 0), .null, .null, .int 0, .int 0])) [.inr (3, [.int (nI 0), .ref (n + 1)]), .inl (0, 36, .inl (fun _ => 0))]) _
  refine ha_putF (pc := 17) (fs' := [.null, .int (nI 0), .ref (n + 0), .null, .int 0, .int 0]) hr (DX0_init_0.at 9 rfl) rfl fX0_18_0w (Nat.le_of_ble_eq_true rfl) rfl rfl rfl ?_
  refine gk_aload_n (pc := 20) (DX0_init_0.at 10 rfl) 0 rfl rfl ?_
  refine gk_sipush (pc := 21) (nI 153) (DX0_init_0.at 11 rfl) (by decide +kernel) ?_
  refine ha_newI (pc := 24) (m := 153) (l' := [.inr (3, [.int (nI 0), .ref (n + 1)]), .inl (0, 36, .inl (fun _ => 0)), .inl (0, 153, .inl (fun _ => 0))]) hn (DX0_init_0.at 12 rfl) kx_157 (by decide) (q := n + 2) rfl (by omega) rfl ?_
  refine ha_putF (pc := 26) (fs' := [.null, .int (nI 0), .ref (n + 0), .ref (n + 2), .int 0, .int 0]) hr (DX0_init_0.at 13 rfl) rfl fX0_22_0w (Nat.le_of_ble_eq_true rfl) rfl rfl rfl ?_
  refine gk_aload_n (pc := 29) (DX0_init_0.at 14 rfl) 0 rfl rfl ?_
  refine gk_iconst (pc := 30) (nI 0) (DX0_init_0.at 15 rfl) (by decide +kernel) ?_
  refine ha_put (pc := 31) (fs' := [.null, .int (nI 0), .ref (n + 0), .ref (n + 2), .int (nI 0), .int 0]) hr (DX0_init_0.at 16 rfl) fX0_26_0w (Nat.le_of_ble_eq_true rfl) rfl rfl rfl ?_
  refine gk_aload_n (pc := 34) (DX0_init_0.at 17 rfl) 0 rfl rfl ?_
  refine gk_iconst (pc := 35) (nI 0) (DX0_init_0.at 18 rfl) (by decide +kernel) ?_
  refine ha_put (pc := 36) (fs' := [.null, .int (nI 0), .ref (n + 0), .ref (n + 2), .int (nI 0), .int (nI 0)]) hr (DX0_init_0.at 19 rfl) fX0_30_0w (Nat.le_of_ble_eq_true rfl) rfl rfl rfl ?_
  refine gk_aload_n (pc := 39) (DX0_init_0.at 20 rfl) 0 rfl rfl ?_
  refine gk_aload_n (pc := 40) (DX0_init_0.at 21 rfl) 1 rfl rfl ?_
  refine ha_putF (pc := 41) (fs' := [.ref q1, .int (nI 0), .ref (n + 0), .ref (n + 2), .int (nI 0), .int (nI 0)]) hr (DX0_init_0.at 22 rfl) rfl fX0_33_0w (Nat.le_of_ble_eq_true rfl) rfl rfl rfl ?_
  exact gk_return (pc := 44) (DX0_init_0.at 23 rfl) rfl ⟨rfl, k⟩
set_option maxHeartbeats 4000000 in
theorem i_X7 {E : gk_E} {dd n r : Nat} {h : gk_H} {K : gk_H → Prop} (hn : h.length = n) (h9 : n < 796000) (hx : h[r]? = some (.inr (7, [.null, .null, .null, .int 0]))) (k : K (HA h r (.inr (7, [.ref (n + 0), .ref (n + 2), .ref (n + 3), .int (nI 0)])) [.inr (8, [.int (nI 1), .ref (n + 1), .long (lN 1)]), .inl (0, 4, .inl (upd (upd (upd (upd (fun _ => 0) 0 (nI 0)) 1 (nI 1)) 2 (nI 2)) 3 (nI 3))), .inl (5, 3, .inr (.inr (.inr (.inr (rl3 (n + 5) (n + 7) (n + 9)))))), .inr (3, [.int (nI 0), .ref (n + 4)]), .inl (0, 36, .inl (fun _ => 0)), .inr (3, [.int (nI 0), .ref (n + 6)]), .inl (0, 36, .inl (fun _ => 0)), .inr (3, [.int (nI 0), .ref (n + 8)]), .inl (0, 36, .inl (fun _ => 0)), .inr (3, [.int (nI 0), .ref (n + 10)]), .inl (0, 36, .inl (fun _ => 0))])) : RnV E mX7_init (dd + 4, 11, 162) [.ref r] h K := by
  rw [← up3 (n + 5) (n + 7) (n + 9)] at k
  have hr : r < h.length := (List.getElem?_eq_some_iff.mp hx).1
  suffices H : RnV E mX7_init (dd + 4, 11, 162) [.ref r] (HA h r (.inr (7, [.null, .null, .null, .int 0])) []) K by rw [HA_0 hx] at H; exact H
  show gk_G E mX7_init (dd + 4, 11, 162) 0 [(0, .ref r)] [] (HA h r (.inr (7, [.null, .null, .null, .int 0])) []) (fun o h1 => o = none ∧ K h1)
  refine gk_aload_n (pc := 0) (DX7_init_0.at 0 rfl) 0 rfl rfl ?_
  refine gk_objI (pc := 1) (DX7_init_0.at 1 rfl) kx_117 kx_110 kx_111 (Nat.le_of_ble_eq_true rfl) ?_
  refine gk_aload_n (pc := 4) (DX7_init_0.at 2 rfl) 0 rfl rfl ?_
  refine ha_newO (pc := 5) (N := 3) (ci := 8) (fs := [.int 0, .null, .long 0]) (l' := [.inr (8, [.int 0, .null, .long 0])]) hn (DX7_init_0.at 3 rfl) nwX7_9 (q := n + 0) rfl (by omega) rfl ?_
  refine gk_dup (pc := 8) (DX7_init_0.at 4 rfl) rfl ?_
  refine ha_init (pc := 9) [] [.ref (n + 0), .ref r] (DX7_init_0.at 5 rfl) ciX7_11 rfl rfl (Nat.le_of_ble_eq_true rfl) (Nat.le_of_ble_eq_true rfl) (i_X8 (n := n + 1) (hn := by rw [HA_len hn]; rfl) (h9 := by omega) (hx := (HA_n hn (j := 0) rfl))  ?_)
  rw [HA_HA hn (l3 := [.inr (8, [.int (nI 1), .ref (n + 1), .long (lN 1)]), .inl (0, 4, .inl (upd (upd (upd (upd (fun _ => 0) 0 (nI 0)) 1 (nI 1)) 2 (nI 2)) 3 (nI 3)))]) rfl]
  show gk_G E mX7_init (dd + 4, 9, 155) 12 [(0, .ref r)] [.ref (n + 0), .ref r] (HA h r (.inr (7, [.null, .null, .null, .int 0])) [.inr (8, [.int (nI 1), .ref (n + 1), .long (lN 1)]), .inl (0, 4, .inl (upd (upd (upd (upd (fun _ => 0) 0 (nI 0)) 1 (nI 1)) 2 (nI 2)) 3 (nI 3)))]) _
  refine ha_putF (pc := 12) (fs' := [.ref (n + 0), .null, .null, .int 0]) hr (DX7_init_0.at 6 rfl) rfl fX7_12_7w (Nat.le_of_ble_eq_true rfl) rfl rfl rfl ?_
  refine gk_aload_n (pc := 15) (DX7_init_0.at 7 rfl) 0 rfl rfl ?_
  refine gk_iconst (pc := 16) (nI 3) (DX7_init_0.at 8 rfl) (by decide +kernel) ?_
  refine ha_newQ (pc := 17) (t := 5) (m := 3) (l' := [.inr (8, [.int (nI 1), .ref (n + 1), .long (lN 1)]), .inl (0, 4, .inl (upd (upd (upd (upd (fun _ => 0) 0 (nI 0)) 1 (nI 1)) 2 (nI 2)) 3 (nI 3))), .inl (5, 3, .inr (.inr (.inr (.inr (fun _ => none)))))]) hn (DX7_init_0.at 9 rfl) kx_158 (fun _ z => z.2.2.2.2.2.2.2.1.2.1) rfl (by decide) (q := n + 2) rfl (by omega) rfl ?_
  refine ha_putF (pc := 20) (fs' := [.ref (n + 0), .ref (n + 2), .null, .int 0]) hr (DX7_init_0.at 10 rfl) rfl fX7_20_7w (Nat.le_of_ble_eq_true rfl) rfl rfl rfl ?_
  refine gk_aload_n (pc := 23) (DX7_init_0.at 11 rfl) 0 rfl rfl ?_
  refine ha_newO (pc := 24) (N := 2) (ci := 3) (fs := [.int 0, .null]) (l' := [.inr (8, [.int (nI 1), .ref (n + 1), .long (lN 1)]), .inl (0, 4, .inl (upd (upd (upd (upd (fun _ => 0) 0 (nI 0)) 1 (nI 1)) 2 (nI 2)) 3 (nI 3))), .inl (5, 3, .inr (.inr (.inr (.inr (fun _ => none))))), .inr (3, [.int 0, .null])]) hn (DX7_init_0.at 12 rfl) nwX7_18 (q := n + 3) rfl (by omega) rfl ?_
  refine gk_dup (pc := 27) (DX7_init_0.at 13 rfl) rfl ?_
  refine ha_init (pc := 28) [] [.ref (n + 3), .ref r] (DX7_init_0.at 14 rfl) ciX7_24 rfl rfl (Nat.le_of_ble_eq_true rfl) (Nat.le_of_ble_eq_true rfl) (i_X3 (n := n + 4) (hn := by rw [HA_len hn]; rfl) (h9 := by omega) (hx := (HA_n hn (j := 3) rfl))  ?_)
  rw [HA_HA hn (l3 := [.inr (8, [.int (nI 1), .ref (n + 1), .long (lN 1)]), .inl (0, 4, .inl (upd (upd (upd (upd (fun _ => 0) 0 (nI 0)) 1 (nI 1)) 2 (nI 2)) 3 (nI 3))), .inl (5, 3, .inr (.inr (.inr (.inr (fun _ => none))))), .inr (3, [.int (nI 0), .ref (n + 4)]), .inl (0, 36, .inl (fun _ => 0))]) rfl]
  show gk_G E mX7_init (dd + 4, 6, 114) 31 [(0, .ref r)] [.ref (n + 3), .ref r] (HA h r (.inr (7, [.ref (n + 0), .ref (n + 2), .null, .int 0])) [.inr (8, [.int (nI 1), .ref (n + 1), .long (lN 1)]), .inl (0, 4, .inl (upd (upd (upd (upd (fun _ => 0) 0 (nI 0)) 1 (nI 1)) 2 (nI 2)) 3 (nI 3))), .inl (5, 3, .inr (.inr (.inr (.inr (fun _ => none))))), .inr (3, [.int (nI 0), .ref (n + 4)]), .inl (0, 36, .inl (fun _ => 0))]) _
  refine ha_putF (pc := 31) (fs' := [.ref (n + 0), .ref (n + 2), .ref (n + 3), .int 0]) hr (DX7_init_0.at 15 rfl) rfl fX7_25_7w (Nat.le_of_ble_eq_true rfl) rfl rfl rfl ?_
  refine gk_aload_n (pc := 34) (DX7_init_0.at 16 rfl) 0 rfl rfl ?_
  refine gk_iconst (pc := 35) (nI 0) (DX7_init_0.at 17 rfl) (by decide +kernel) ?_
  refine ha_put (pc := 36) (fs' := [.ref (n + 0), .ref (n + 2), .ref (n + 3), .int (nI 0)]) hr (DX7_init_0.at 18 rfl) fX7_29_7w (Nat.le_of_ble_eq_true rfl) rfl rfl rfl ?_
  refine gk_iconst (pc := 39) (nI 0) (DX7_init_0.at 19 rfl) (by decide +kernel) ?_
  refine gk_istore_n (pc := 40) [(1, .int (nI 0)), (0, .ref r)] (DX7_init_0.at 20 rfl) rfl (Nat.le_of_ble_eq_true rfl) rfl ?_
  refine gk_iload_n (pc := 41) (DX7_init_0.at 21 rfl) 0 rfl rfl ?_
  refine gk_iconst (pc := 42) (nI 3) (DX7_init_0.at 22 rfl) (by decide +kernel) ?_
  refine gk_icmp_ge (pc := 43) 65 (DX7_init_0.at 23 rfl) rfl (fun z => absurd z (by decide)) (fun _ => ?_)
  refine gk_aload_n (pc := 46) (DX7_init_0.at 24 rfl) 1 rfl rfl ?_
  refine gk_get (pc := 47) (.ref (n + 2)) (DX7_init_0.at 25 rfl) fX7_20_7 (HA_r hr) rfl ?_
  refine gk_iload_n (pc := 50) (DX7_init_0.at 26 rfl) 0 rfl rfl ?_
  refine ha_newO (pc := 51) (N := 2) (ci := 3) (fs := [.int 0, .null]) (l' := [.inr (8, [.int (nI 1), .ref (n + 1), .long (lN 1)]), .inl (0, 4, .inl (upd (upd (upd (upd (fun _ => 0) 0 (nI 0)) 1 (nI 1)) 2 (nI 2)) 3 (nI 3))), .inl (5, 3, .inr (.inr (.inr (.inr (fun _ => none))))), .inr (3, [.int (nI 0), .ref (n + 4)]), .inl (0, 36, .inl (fun _ => 0)), .inr (3, [.int 0, .null])]) hn (DX7_init_0.at 27 rfl) nwX7_18 (q := n + 5) rfl (by omega) rfl ?_
  refine gk_dup (pc := 54) (DX7_init_0.at 28 rfl) rfl ?_
  refine ha_init (pc := 55) [] [.ref (n + 5), .int (nI 0), .ref (n + 2)] (DX7_init_0.at 29 rfl) ciX7_24 rfl rfl (Nat.le_of_ble_eq_true rfl) (Nat.le_of_ble_eq_true rfl) (i_X3 (n := n + 6) (hn := by rw [HA_len hn]; rfl) (h9 := by omega) (hx := (HA_n hn (j := 5) rfl))  ?_)
  rw [HA_HA hn (l3 := [.inr (8, [.int (nI 1), .ref (n + 1), .long (lN 1)]), .inl (0, 4, .inl (upd (upd (upd (upd (fun _ => 0) 0 (nI 0)) 1 (nI 1)) 2 (nI 2)) 3 (nI 3))), .inl (5, 3, .inr (.inr (.inr (.inr (fun _ => none))))), .inr (3, [.int (nI 0), .ref (n + 4)]), .inl (0, 36, .inl (fun _ => 0)), .inr (3, [.int (nI 0), .ref (n + 6)]), .inl (0, 36, .inl (fun _ => 0))]) rfl]
  show gk_G E mX7_init (dd + 4, 4, 76) 58 [(1, .int (nI 0)), (0, .ref r)] [.ref (n + 5), .int (nI 0), .ref (n + 2)] (HA h r (.inr (7, [.ref (n + 0), .ref (n + 2), .ref (n + 3), .int (nI 0)])) [.inr (8, [.int (nI 1), .ref (n + 1), .long (lN 1)]), .inl (0, 4, .inl (upd (upd (upd (upd (fun _ => 0) 0 (nI 0)) 1 (nI 1)) 2 (nI 2)) 3 (nI 3))), .inl (5, 3, .inr (.inr (.inr (.inr (fun _ => none))))), .inr (3, [.int (nI 0), .ref (n + 4)]), .inl (0, 36, .inl (fun _ => 0)), .inr (3, [.int (nI 0), .ref (n + 6)]), .inl (0, 36, .inl (fun _ => 0))]) _
  refine ha_aast (pc := 58) (t := 5) (ci := 3) (i := 0) (j := 2) (l' := [.inr (8, [.int (nI 1), .ref (n + 1), .long (lN 1)]), .inl (0, 4, .inl (upd (upd (upd (upd (fun _ => 0) 0 (nI 0)) 1 (nI 1)) 2 (nI 2)) 3 (nI 3))), .inl (5, 3, .inr (.inr (.inr (.inr (va_up (fun _ => none) 0 (some (n + 5))))))), .inr (3, [.int (nI 0), .ref (n + 4)]), .inl (0, 36, .inl (fun _ => 0)), .inr (3, [.int (nI 0), .ref (n + 6)]), .inl (0, 36, .inl (fun _ => 0))]) hn (DX7_init_0.at 30 rfl) rfl rfl rfl (HA_n hn (j := 5) rfl) (by decide) (by decide) rfl ?_
  refine gk_iinc (pc := 59) (nI 1) [(1, .int (nI 1)), (0, .ref r)] 0 (DX7_init_0.at 31 rfl) rfl (by decide +kernel) (Nat.le_of_ble_eq_true rfl) rfl ?_
  refine gk_goto (pc := 62) 41 (DX7_init_0.at 32 rfl) rfl ?_
  refine gk_iload_n (pc := 41) (DX7_init_0.at 21 rfl) 0 rfl rfl ?_
  refine gk_iconst (pc := 42) (nI 3) (DX7_init_0.at 22 rfl) (by decide +kernel) ?_
  refine gk_icmp_ge (pc := 43) 65 (DX7_init_0.at 23 rfl) rfl (fun z => absurd z (by decide)) (fun _ => ?_)
  refine gk_aload_n (pc := 46) (DX7_init_0.at 24 rfl) 1 rfl rfl ?_
  refine gk_get (pc := 47) (.ref (n + 2)) (DX7_init_0.at 25 rfl) fX7_20_7 (HA_r hr) rfl ?_
  refine gk_iload_n (pc := 50) (DX7_init_0.at 26 rfl) 0 rfl rfl ?_
  refine ha_newO (pc := 51) (N := 2) (ci := 3) (fs := [.int 0, .null]) (l' := [.inr (8, [.int (nI 1), .ref (n + 1), .long (lN 1)]), .inl (0, 4, .inl (upd (upd (upd (upd (fun _ => 0) 0 (nI 0)) 1 (nI 1)) 2 (nI 2)) 3 (nI 3))), .inl (5, 3, .inr (.inr (.inr (.inr (va_up (fun _ => none) 0 (some (n + 5))))))), .inr (3, [.int (nI 0), .ref (n + 4)]), .inl (0, 36, .inl (fun _ => 0)), .inr (3, [.int (nI 0), .ref (n + 6)]), .inl (0, 36, .inl (fun _ => 0)), .inr (3, [.int 0, .null])]) hn (DX7_init_0.at 27 rfl) nwX7_18 (q := n + 7) rfl (by omega) rfl ?_
  refine gk_dup (pc := 54) (DX7_init_0.at 28 rfl) rfl ?_
  refine ha_init (pc := 55) [] [.ref (n + 7), .int (nI 1), .ref (n + 2)] (DX7_init_0.at 29 rfl) ciX7_24 rfl rfl (Nat.le_of_ble_eq_true rfl) (Nat.le_of_ble_eq_true rfl) (i_X3 (n := n + 8) (hn := by rw [HA_len hn]; rfl) (h9 := by omega) (hx := (HA_n hn (j := 7) rfl))  ?_)
  rw [HA_HA hn (l3 := [.inr (8, [.int (nI 1), .ref (n + 1), .long (lN 1)]), .inl (0, 4, .inl (upd (upd (upd (upd (fun _ => 0) 0 (nI 0)) 1 (nI 1)) 2 (nI 2)) 3 (nI 3))), .inl (5, 3, .inr (.inr (.inr (.inr (va_up (fun _ => none) 0 (some (n + 5))))))), .inr (3, [.int (nI 0), .ref (n + 4)]), .inl (0, 36, .inl (fun _ => 0)), .inr (3, [.int (nI 0), .ref (n + 6)]), .inl (0, 36, .inl (fun _ => 0)), .inr (3, [.int (nI 0), .ref (n + 8)]), .inl (0, 36, .inl (fun _ => 0))]) rfl]
  show gk_G E mX7_init (dd + 4, 2, 38) 58 [(1, .int (nI 1)), (0, .ref r)] [.ref (n + 7), .int (nI 1), .ref (n + 2)] (HA h r (.inr (7, [.ref (n + 0), .ref (n + 2), .ref (n + 3), .int (nI 0)])) [.inr (8, [.int (nI 1), .ref (n + 1), .long (lN 1)]), .inl (0, 4, .inl (upd (upd (upd (upd (fun _ => 0) 0 (nI 0)) 1 (nI 1)) 2 (nI 2)) 3 (nI 3))), .inl (5, 3, .inr (.inr (.inr (.inr (va_up (fun _ => none) 0 (some (n + 5))))))), .inr (3, [.int (nI 0), .ref (n + 4)]), .inl (0, 36, .inl (fun _ => 0)), .inr (3, [.int (nI 0), .ref (n + 6)]), .inl (0, 36, .inl (fun _ => 0)), .inr (3, [.int (nI 0), .ref (n + 8)]), .inl (0, 36, .inl (fun _ => 0))]) _
  refine ha_aast (pc := 58) (t := 5) (ci := 3) (i := 1) (j := 2) (l' := [.inr (8, [.int (nI 1), .ref (n + 1), .long (lN 1)]), .inl (0, 4, .inl (upd (upd (upd (upd (fun _ => 0) 0 (nI 0)) 1 (nI 1)) 2 (nI 2)) 3 (nI 3))), .inl (5, 3, .inr (.inr (.inr (.inr (va_up (va_up (fun _ => none) 0 (some (n + 5))) 1 (some (n + 7))))))), .inr (3, [.int (nI 0), .ref (n + 4)]), .inl (0, 36, .inl (fun _ => 0)), .inr (3, [.int (nI 0), .ref (n + 6)]), .inl (0, 36, .inl (fun _ => 0)), .inr (3, [.int (nI 0), .ref (n + 8)]), .inl (0, 36, .inl (fun _ => 0))]) hn (DX7_init_0.at 30 rfl) rfl rfl rfl (HA_n hn (j := 7) rfl) (by decide) (by decide) rfl ?_
  refine gk_iinc (pc := 59) (nI 2) [(1, .int (nI 2)), (0, .ref r)] 0 (DX7_init_0.at 31 rfl) rfl (by decide +kernel) (Nat.le_of_ble_eq_true rfl) rfl ?_
  refine gk_goto (pc := 62) 41 (DX7_init_0.at 32 rfl) rfl ?_
  refine gk_iload_n (pc := 41) (DX7_init_0.at 21 rfl) 0 rfl rfl ?_
  refine gk_iconst (pc := 42) (nI 3) (DX7_init_0.at 22 rfl) (by decide +kernel) ?_
  refine gk_icmp_ge (pc := 43) 65 (DX7_init_0.at 23 rfl) rfl (fun z => absurd z (by decide)) (fun _ => ?_)
  refine gk_aload_n (pc := 46) (DX7_init_0.at 24 rfl) 1 rfl rfl ?_
  refine gk_get (pc := 47) (.ref (n + 2)) (DX7_init_0.at 25 rfl) fX7_20_7 (HA_r hr) rfl ?_
  refine gk_iload_n (pc := 50) (DX7_init_0.at 26 rfl) 0 rfl rfl ?_
  refine ha_newO (pc := 51) (N := 2) (ci := 3) (fs := [.int 0, .null]) (l' := [.inr (8, [.int (nI 1), .ref (n + 1), .long (lN 1)]), .inl (0, 4, .inl (upd (upd (upd (upd (fun _ => 0) 0 (nI 0)) 1 (nI 1)) 2 (nI 2)) 3 (nI 3))), .inl (5, 3, .inr (.inr (.inr (.inr (va_up (va_up (fun _ => none) 0 (some (n + 5))) 1 (some (n + 7))))))), .inr (3, [.int (nI 0), .ref (n + 4)]), .inl (0, 36, .inl (fun _ => 0)), .inr (3, [.int (nI 0), .ref (n + 6)]), .inl (0, 36, .inl (fun _ => 0)), .inr (3, [.int (nI 0), .ref (n + 8)]), .inl (0, 36, .inl (fun _ => 0)), .inr (3, [.int 0, .null])]) hn (DX7_init_0.at 27 rfl) nwX7_18 (q := n + 9) rfl (by omega) rfl ?_
  refine gk_dup (pc := 54) (DX7_init_0.at 28 rfl) rfl ?_
  refine ha_init (pc := 55) [] [.ref (n + 9), .int (nI 2), .ref (n + 2)] (DX7_init_0.at 29 rfl) ciX7_24 rfl rfl (Nat.le_of_ble_eq_true rfl) (Nat.le_of_ble_eq_true rfl) (i_X3 (n := n + 10) (hn := by rw [HA_len hn]; rfl) (h9 := by omega) (hx := (HA_n hn (j := 9) rfl))  ?_)
  rw [HA_HA hn (l3 := [.inr (8, [.int (nI 1), .ref (n + 1), .long (lN 1)]), .inl (0, 4, .inl (upd (upd (upd (upd (fun _ => 0) 0 (nI 0)) 1 (nI 1)) 2 (nI 2)) 3 (nI 3))), .inl (5, 3, .inr (.inr (.inr (.inr (va_up (va_up (fun _ => none) 0 (some (n + 5))) 1 (some (n + 7))))))), .inr (3, [.int (nI 0), .ref (n + 4)]), .inl (0, 36, .inl (fun _ => 0)), .inr (3, [.int (nI 0), .ref (n + 6)]), .inl (0, 36, .inl (fun _ => 0)), .inr (3, [.int (nI 0), .ref (n + 8)]), .inl (0, 36, .inl (fun _ => 0)), .inr (3, [.int (nI 0), .ref (n + 10)]), .inl (0, 36, .inl (fun _ => 0))]) rfl]
  show gk_G E mX7_init (dd + 4, 0, 0) 58 [(1, .int (nI 2)), (0, .ref r)] [.ref (n + 9), .int (nI 2), .ref (n + 2)] (HA h r (.inr (7, [.ref (n + 0), .ref (n + 2), .ref (n + 3), .int (nI 0)])) [.inr (8, [.int (nI 1), .ref (n + 1), .long (lN 1)]), .inl (0, 4, .inl (upd (upd (upd (upd (fun _ => 0) 0 (nI 0)) 1 (nI 1)) 2 (nI 2)) 3 (nI 3))), .inl (5, 3, .inr (.inr (.inr (.inr (va_up (va_up (fun _ => none) 0 (some (n + 5))) 1 (some (n + 7))))))), .inr (3, [.int (nI 0), .ref (n + 4)]), .inl (0, 36, .inl (fun _ => 0)), .inr (3, [.int (nI 0), .ref (n + 6)]), .inl (0, 36, .inl (fun _ => 0)), .inr (3, [.int (nI 0), .ref (n + 8)]), .inl (0, 36, .inl (fun _ => 0)), .inr (3, [.int (nI 0), .ref (n + 10)]), .inl (0, 36, .inl (fun _ => 0))]) _
  refine ha_aast (pc := 58) (t := 5) (ci := 3) (i := 2) (j := 2) (l' := [.inr (8, [.int (nI 1), .ref (n + 1), .long (lN 1)]), .inl (0, 4, .inl (upd (upd (upd (upd (fun _ => 0) 0 (nI 0)) 1 (nI 1)) 2 (nI 2)) 3 (nI 3))), .inl (5, 3, .inr (.inr (.inr (.inr (va_up (va_up (va_up (fun _ => none) 0 (some (n + 5))) 1 (some (n + 7))) 2 (some (n + 9))))))), .inr (3, [.int (nI 0), .ref (n + 4)]), .inl (0, 36, .inl (fun _ => 0)), .inr (3, [.int (nI 0), .ref (n + 6)]), .inl (0, 36, .inl (fun _ => 0)), .inr (3, [.int (nI 0), .ref (n + 8)]), .inl (0, 36, .inl (fun _ => 0)), .inr (3, [.int (nI 0), .ref (n + 10)]), .inl (0, 36, .inl (fun _ => 0))]) hn (DX7_init_0.at 30 rfl) rfl rfl rfl (HA_n hn (j := 9) rfl) (by decide) (by decide) rfl ?_
  refine gk_iinc (pc := 59) (nI 3) [(1, .int (nI 3)), (0, .ref r)] 0 (DX7_init_0.at 31 rfl) rfl (by decide +kernel) (Nat.le_of_ble_eq_true rfl) rfl ?_
  refine gk_goto (pc := 62) 41 (DX7_init_0.at 32 rfl) rfl ?_
  refine gk_iload_n (pc := 41) (DX7_init_0.at 21 rfl) 0 rfl rfl ?_
  refine gk_iconst (pc := 42) (nI 3) (DX7_init_0.at 22 rfl) (by decide +kernel) ?_
  refine gk_icmp_ge (pc := 43) 65 (DX7_init_0.at 23 rfl) rfl (fun _ => ?_) (fun z => absurd (by decide) z)
  exact gk_return (pc := 65) (DX7_init_0.at 33 rfl) rfl ⟨rfl, k⟩
set_option maxHeartbeats 4000000 in
theorem i_X1 {E : gk_E} {dd n r : Nat} {q1 : Nat} {q2 : Nat} {fq1 : List Value} {q1_0 : Nat} {h : gk_H} {K : gk_H → Prop} (hn : h.length = n) (h9 : n < 797000) (hx : h[r]? = some (.inr (1, [.null, .null, .null, .null, .null]))) (hq1 : q1 ≠ r) (hq1o : h[q1]? = some (.inr (7, fq1))) (hq1_0 : fq1[0]? = some (.ref q1_0)) (k : K (HA h r (.inr (1, [.ref q1, .ref q2, .ref (n + 0), .ref (n + 3), .ref (n + 2)])) [.inr (3, [.int (nI 0), .ref (n + 1)]), .inl (0, 36, .inl (fun _ => 0)), .inl (0, 6, .inl (fun _ => 0)), .inr (6, [.int (nI 0), .ref (n + 4), .ref (n + 5), .ref (n + 6), .ref q1_0, .ref (n + 0)]), .inl (0, 6, .inl (fun _ => 0)), .inl (0, 6, .inl (fun _ => 0)), .inl (0, 6, .inl (fun _ => 0))])) : RnV E mX1_init (dd + 3, 7, 68) [.ref r, .ref q1, .ref q2] h K := by
  have hr : r < h.length := (List.getElem?_eq_some_iff.mp hx).1
  suffices H : RnV E mX1_init (dd + 3, 7, 68) [.ref r, .ref q1, .ref q2] (HA h r (.inr (1, [.null, .null, .null, .null, .null])) []) K by rw [HA_0 hx] at H; exact H
  show gk_G E mX1_init (dd + 3, 7, 68) 0 [(0, .ref r), (1, .ref q1), (2, .ref q2)] [] (HA h r (.inr (1, [.null, .null, .null, .null, .null])) []) (fun o h1 => o = none ∧ K h1)
  refine gk_aload_n (pc := 0) (DX1_init_0.at 0 rfl) 0 rfl rfl ?_
  refine gk_objI (pc := 1) (DX1_init_0.at 1 rfl) kx_251 kx_110 kx_111 (Nat.le_of_ble_eq_true rfl) ?_
  refine gk_aload_n (pc := 4) (DX1_init_0.at 2 rfl) 0 rfl rfl ?_
  refine ha_newO (pc := 5) (N := 2) (ci := 3) (fs := [.int 0, .null]) (l' := [.inr (3, [.int 0, .null])]) hn (DX1_init_0.at 3 rfl) nwX1_9 (q := n + 0) rfl (by omega) rfl ?_
  refine gk_dup (pc := 8) (DX1_init_0.at 4 rfl) rfl ?_
  refine ha_init (pc := 9) [] [.ref (n + 0), .ref r] (DX1_init_0.at 5 rfl) ciX1_11 rfl rfl (Nat.le_of_ble_eq_true rfl) (Nat.le_of_ble_eq_true rfl) (i_X3 (n := n + 1) (hn := by rw [HA_len hn]; rfl) (h9 := by omega) (hx := (HA_n hn (j := 0) rfl))  ?_)
  rw [HA_HA hn (l3 := [.inr (3, [.int (nI 0), .ref (n + 1)]), .inl (0, 36, .inl (fun _ => 0))]) rfl]
  show gk_G E mX1_init (dd + 3, 5, 30) 12 [(0, .ref r), (1, .ref q1), (2, .ref q2)] [.ref (n + 0), .ref r] (HA h r (.inr (1, [.null, .null, .null, .null, .null])) [.inr (3, [.int (nI 0), .ref (n + 1)]), .inl (0, 36, .inl (fun _ => 0))]) _
  refine ha_putF (pc := 12) (fs' := [.null, .null, .ref (n + 0), .null, .null]) hr (DX1_init_0.at 6 rfl) rfl fX1_12_1w (Nat.le_of_ble_eq_true rfl) rfl rfl rfl ?_
  refine gk_aload_n (pc := 15) (DX1_init_0.at 7 rfl) 0 rfl rfl ?_
  refine gk_bipush (pc := 16) (nI 6) (DX1_init_0.at 8 rfl) (by decide +kernel) ?_
  refine ha_newI (pc := 18) (m := 6) (l' := [.inr (3, [.int (nI 0), .ref (n + 1)]), .inl (0, 36, .inl (fun _ => 0)), .inl (0, 6, .inl (fun _ => 0))]) hn (DX1_init_0.at 9 rfl) kx_157 (by decide) (q := n + 2) rfl (by omega) rfl ?_
  refine ha_putF (pc := 20) (fs' := [.null, .null, .ref (n + 0), .null, .ref (n + 2)]) hr (DX1_init_0.at 10 rfl) rfl fX1_18_1w (Nat.le_of_ble_eq_true rfl) rfl rfl rfl ?_
  refine gk_aload_n (pc := 23) (DX1_init_0.at 11 rfl) 0 rfl rfl ?_
  refine gk_aload_n (pc := 24) (DX1_init_0.at 12 rfl) 1 rfl rfl ?_
  refine ha_putF (pc := 25) (fs' := [.ref q1, .null, .ref (n + 0), .null, .ref (n + 2)]) hr (DX1_init_0.at 13 rfl) rfl fX1_22_1w (Nat.le_of_ble_eq_true rfl) rfl rfl rfl ?_
  refine gk_aload_n (pc := 28) (DX1_init_0.at 14 rfl) 0 rfl rfl ?_
  refine gk_aload_n (pc := 29) (DX1_init_0.at 15 rfl) 2 rfl rfl ?_
  refine ha_putF (pc := 30) (fs' := [.ref q1, .ref q2, .ref (n + 0), .null, .ref (n + 2)]) hr (DX1_init_0.at 16 rfl) rfl fX1_26_1w (Nat.le_of_ble_eq_true rfl) rfl rfl rfl ?_
  refine gk_aload_n (pc := 33) (DX1_init_0.at 17 rfl) 0 rfl rfl ?_
  refine ha_newO (pc := 34) (N := 6) (ci := 6) (fs := [.int 0, .null, .null, .null, .null, .null]) (l' := [.inr (3, [.int (nI 0), .ref (n + 1)]), .inl (0, 36, .inl (fun _ => 0)), .inl (0, 6, .inl (fun _ => 0)), .inr (6, [.int 0, .null, .null, .null, .null, .null])]) hn (DX1_init_0.at 18 rfl) nwX1_30 (q := n + 3) rfl (by omega) rfl ?_
  refine gk_dup (pc := 37) (DX1_init_0.at 19 rfl) rfl ?_
  refine gk_aload_n (pc := 38) (DX1_init_0.at 20 rfl) 1 rfl rfl ?_
  refine gk_get (pc := 39) (.ref q1_0) (DX1_init_0.at 21 rfl) fX1_32_7 (HA_o hq1 hq1o) hq1_0 ?_
  refine gk_aload_n (pc := 42) (DX1_init_0.at 22 rfl) 0 rfl rfl ?_
  refine gk_get (pc := 43) (.ref (n + 0)) (DX1_init_0.at 23 rfl) fX1_12_1 (HA_r hr) rfl ?_
  refine ha_init (pc := 46) [.ref q1_0, .ref (n + 0)] [.ref (n + 3), .ref r] (DX1_init_0.at 24 rfl) ciX1_38 rfl rfl (Nat.le_of_ble_eq_true rfl) (Nat.le_of_ble_eq_true rfl) (i_X6 (n := n + 4) (hn := by rw [HA_len hn]; rfl) (h9 := by omega) (hx := (HA_n hn (j := 3) rfl))  ?_)
  rw [HA_HA hn (l3 := [.inr (3, [.int (nI 0), .ref (n + 1)]), .inl (0, 36, .inl (fun _ => 0)), .inl (0, 6, .inl (fun _ => 0)), .inr (6, [.int (nI 0), .ref (n + 4), .ref (n + 5), .ref (n + 6), .ref q1_0, .ref (n + 0)]), .inl (0, 6, .inl (fun _ => 0)), .inl (0, 6, .inl (fun _ => 0)), .inl (0, 6, .inl (fun _ => 0))]) rfl]
  show gk_G E mX1_init (dd + 3, 0, 0) 49 [(0, .ref r), (1, .ref q1), (2, .ref q2)] [.ref (n + 3), .ref r] (HA h r (.inr (1, [.ref q1, .ref q2, .ref (n + 0), .null, .ref (n + 2)])) [.inr (3, [.int (nI 0), .ref (n + 1)]), .inl (0, 36, .inl (fun _ => 0)), .inl (0, 6, .inl (fun _ => 0)), .inr (6, [.int (nI 0), .ref (n + 4), .ref (n + 5), .ref (n + 6), .ref q1_0, .ref (n + 0)]), .inl (0, 6, .inl (fun _ => 0)), .inl (0, 6, .inl (fun _ => 0)), .inl (0, 6, .inl (fun _ => 0))]) _
  refine ha_putF (pc := 49) (fs' := [.ref q1, .ref q2, .ref (n + 0), .ref (n + 3), .ref (n + 2)]) hr (DX1_init_0.at 25 rfl) rfl fX1_41_1w (Nat.le_of_ble_eq_true rfl) rfl rfl rfl ?_
  exact gk_return (pc := 52) (DX1_init_0.at 26 rfl) rfl ⟨rfl, k⟩
set_option maxHeartbeats 4000000 in
theorem i_X2 {E : gk_E} {dd n r : Nat} {q1 : Nat} {q2 : Nat} {fq1 : List Value} {q1_0 : Nat} {h : gk_H} {K : gk_H → Prop} (hn : h.length = n) (h9 : n < 797000) (hx : h[r]? = some (.inr (2, [.null, .null, .null, .null, .null]))) (hq1 : q1 ≠ r) (hq1o : h[q1]? = some (.inr (7, fq1))) (hq1_0 : fq1[0]? = some (.ref q1_0)) (k : K (HA h r (.inr (2, [.ref q1, .ref q2, .ref (n + 0), .ref (n + 2), .ref (n + 3)])) [.inr (3, [.int (nI 0), .ref (n + 1)]), .inl (0, 36, .inl (fun _ => 0)), .inl (6, 2, .inr (.inr (.inr (.inr (rl2 (n + 6) (n + 10)))))), .inl (7, 2, .inr (.inr (.inr (.inr (rl2 (n + 4) (n + 5)))))), .inl (0, 36, .inl (fun _ => 0)), .inl (0, 36, .inl (fun _ => 0)), .inr (6, [.int (nI 0), .ref (n + 7), .ref (n + 8), .ref (n + 9), .ref q1_0, .ref (n + 0)]), .inl (0, 6, .inl (fun _ => 0)), .inl (0, 6, .inl (fun _ => 0)), .inl (0, 6, .inl (fun _ => 0)), .inr (6, [.int (nI 0), .ref (n + 11), .ref (n + 12), .ref (n + 13), .ref q1_0, .ref (n + 0)]), .inl (0, 6, .inl (fun _ => 0)), .inl (0, 6, .inl (fun _ => 0)), .inl (0, 6, .inl (fun _ => 0))])) : RnV E mX2_init (dd + 3, 14, 162) [.ref r, .ref q1, .ref q2] h K := by
  rw [← up2 (n + 6) (n + 10)] at k
  have hr : r < h.length := (List.getElem?_eq_some_iff.mp hx).1
  suffices H : RnV E mX2_init (dd + 3, 14, 162) [.ref r, .ref q1, .ref q2] (HA h r (.inr (2, [.null, .null, .null, .null, .null])) []) K by rw [HA_0 hx] at H; exact H
  show gk_G E mX2_init (dd + 3, 14, 162) 0 [(0, .ref r), (1, .ref q1), (2, .ref q2)] [] (HA h r (.inr (2, [.null, .null, .null, .null, .null])) []) (fun o h1 => o = none ∧ K h1)
  refine gk_aload_n (pc := 0) (DX2_init_0.at 0 rfl) 0 rfl rfl ?_
  refine gk_objI (pc := 1) (DX2_init_0.at 1 rfl) kx_293 kx_110 kx_111 (Nat.le_of_ble_eq_true rfl) ?_
  refine gk_aload_n (pc := 4) (DX2_init_0.at 2 rfl) 0 rfl rfl ?_
  refine ha_newO (pc := 5) (N := 2) (ci := 3) (fs := [.int 0, .null]) (l' := [.inr (3, [.int 0, .null])]) hn (DX2_init_0.at 3 rfl) nwX2_9 (q := n + 0) rfl (by omega) rfl ?_
  refine gk_dup (pc := 8) (DX2_init_0.at 4 rfl) rfl ?_
  refine ha_init (pc := 9) [] [.ref (n + 0), .ref r] (DX2_init_0.at 5 rfl) ciX2_11 rfl rfl (Nat.le_of_ble_eq_true rfl) (Nat.le_of_ble_eq_true rfl) (i_X3 (n := n + 1) (hn := by rw [HA_len hn]; rfl) (h9 := by omega) (hx := (HA_n hn (j := 0) rfl))  ?_)
  rw [HA_HA hn (l3 := [.inr (3, [.int (nI 0), .ref (n + 1)]), .inl (0, 36, .inl (fun _ => 0))]) rfl]
  show gk_G E mX2_init (dd + 3, 12, 124) 12 [(0, .ref r), (1, .ref q1), (2, .ref q2)] [.ref (n + 0), .ref r] (HA h r (.inr (2, [.null, .null, .null, .null, .null])) [.inr (3, [.int (nI 0), .ref (n + 1)]), .inl (0, 36, .inl (fun _ => 0))]) _
  refine ha_putF (pc := 12) (fs' := [.null, .null, .ref (n + 0), .null, .null]) hr (DX2_init_0.at 6 rfl) rfl fX2_12_2w (Nat.le_of_ble_eq_true rfl) rfl rfl rfl ?_
  refine gk_aload_n (pc := 15) (DX2_init_0.at 7 rfl) 0 rfl rfl ?_
  refine gk_iconst (pc := 16) (nI 2) (DX2_init_0.at 8 rfl) (by decide +kernel) ?_
  refine ha_newQ (pc := 17) (t := 6) (m := 2) (l' := [.inr (3, [.int (nI 0), .ref (n + 1)]), .inl (0, 36, .inl (fun _ => 0)), .inl (6, 2, .inr (.inr (.inr (.inr (fun _ => none)))))]) hn (DX2_init_0.at 9 rfl) kx_296 (fun _ z => z.2.2.2.2.2.2.2.1.2.2.1) rfl (by decide) (q := n + 2) rfl (by omega) rfl ?_
  refine ha_putF (pc := 20) (fs' := [.null, .null, .ref (n + 0), .ref (n + 2), .null]) hr (DX2_init_0.at 10 rfl) rfl fX2_20_2w (Nat.le_of_ble_eq_true rfl) rfl rfl rfl ?_
  refine gk_aload_n (pc := 23) (DX2_init_0.at 11 rfl) 0 rfl rfl ?_
  refine gk_iconst (pc := 24) (nI 2) (DX2_init_0.at 12 rfl) (by decide +kernel) ?_
  refine gk_bipush (pc := 25) (nI 36) (DX2_init_0.at 13 rfl) (by decide +kernel) ?_
  refine ha_newM (pc := 27) (l' := [.inr (3, [.int (nI 0), .ref (n + 1)]), .inl (0, 36, .inl (fun _ => 0)), .inl (6, 2, .inr (.inr (.inr (.inr (fun _ => none))))), .inl (7, 2, .inr (.inr (.inr (.inr (rl2 (n + 4) (n + 5)))))), .inl (0, 36, .inl (fun _ => 0)), .inl (0, 36, .inl (fun _ => 0))]) hn (DX2_init_0.at 14 rfl) kx_298 kx_157 (q := n + 3) rfl (by omega) rfl ?_
  refine ha_putF (pc := 31) (fs' := [.null, .null, .ref (n + 0), .ref (n + 2), .ref (n + 3)]) hr (DX2_init_0.at 15 rfl) rfl fX2_26_2w (Nat.le_of_ble_eq_true rfl) rfl rfl rfl ?_
  refine gk_aload_n (pc := 34) (DX2_init_0.at 16 rfl) 0 rfl rfl ?_
  refine gk_aload_n (pc := 35) (DX2_init_0.at 17 rfl) 1 rfl rfl ?_
  refine ha_putF (pc := 36) (fs' := [.ref q1, .null, .ref (n + 0), .ref (n + 2), .ref (n + 3)]) hr (DX2_init_0.at 18 rfl) rfl fX2_29_2w (Nat.le_of_ble_eq_true rfl) rfl rfl rfl ?_
  refine gk_aload_n (pc := 39) (DX2_init_0.at 19 rfl) 0 rfl rfl ?_
  refine gk_aload_n (pc := 40) (DX2_init_0.at 20 rfl) 2 rfl rfl ?_
  refine ha_putF (pc := 41) (fs' := [.ref q1, .ref q2, .ref (n + 0), .ref (n + 2), .ref (n + 3)]) hr (DX2_init_0.at 21 rfl) rfl fX2_33_2w (Nat.le_of_ble_eq_true rfl) rfl rfl rfl ?_
  refine gk_iconst (pc := 44) (nI 0) (DX2_init_0.at 22 rfl) (by decide +kernel) ?_
  refine gk_istore_n (pc := 45) [(3, .int (nI 0)), (0, .ref r), (1, .ref q1), (2, .ref q2)] (DX2_init_0.at 23 rfl) rfl (Nat.le_of_ble_eq_true rfl) rfl ?_
  refine gk_iload_n (pc := 46) (DX2_init_0.at 24 rfl) 0 rfl rfl ?_
  refine gk_iconst (pc := 47) (nI 2) (DX2_init_0.at 25 rfl) (by decide +kernel) ?_
  refine gk_icmp_ge (pc := 48) 78 (DX2_init_0.at 26 rfl) rfl (fun z => absurd z (by decide)) (fun _ => ?_)
  refine gk_aload_n (pc := 51) (DX2_init_0.at 27 rfl) 1 rfl rfl ?_
  refine gk_get (pc := 52) (.ref (n + 2)) (DX2_init_0.at 28 rfl) fX2_20_2 (HA_r hr) rfl ?_
  refine gk_iload_n (pc := 55) (DX2_init_0.at 29 rfl) 0 rfl rfl ?_
  refine ha_newO (pc := 56) (N := 6) (ci := 6) (fs := [.int 0, .null, .null, .null, .null, .null]) (l' := [.inr (3, [.int (nI 0), .ref (n + 1)]), .inl (0, 36, .inl (fun _ => 0)), .inl (6, 2, .inr (.inr (.inr (.inr (fun _ => none))))), .inl (7, 2, .inr (.inr (.inr (.inr (rl2 (n + 4) (n + 5)))))), .inl (0, 36, .inl (fun _ => 0)), .inl (0, 36, .inl (fun _ => 0)), .inr (6, [.int 0, .null, .null, .null, .null, .null])]) hn (DX2_init_0.at 30 rfl) nwX2_18 (q := n + 6) rfl (by omega) rfl ?_
  refine gk_dup (pc := 59) (DX2_init_0.at 31 rfl) rfl ?_
  refine gk_aload_n (pc := 60) (DX2_init_0.at 32 rfl) 2 rfl rfl ?_
  refine gk_get (pc := 61) (.ref q1_0) (DX2_init_0.at 33 rfl) fX2_37_7 (HA_o hq1 hq1o) hq1_0 ?_
  refine gk_aload_n (pc := 64) (DX2_init_0.at 34 rfl) 1 rfl rfl ?_
  refine gk_get (pc := 65) (.ref (n + 0)) (DX2_init_0.at 35 rfl) fX2_12_2 (HA_r hr) rfl ?_
  refine ha_init (pc := 68) [.ref q1_0, .ref (n + 0)] [.ref (n + 6), .int (nI 0), .ref (n + 2)] (DX2_init_0.at 36 rfl) ciX2_43 rfl rfl (Nat.le_of_ble_eq_true rfl) (Nat.le_of_ble_eq_true rfl) (i_X6 (n := n + 7) (hn := by rw [HA_len hn]; rfl) (h9 := by omega) (hx := (HA_n hn (j := 6) rfl))  ?_)
  rw [HA_HA hn (l3 := [.inr (3, [.int (nI 0), .ref (n + 1)]), .inl (0, 36, .inl (fun _ => 0)), .inl (6, 2, .inr (.inr (.inr (.inr (fun _ => none))))), .inl (7, 2, .inr (.inr (.inr (.inr (rl2 (n + 4) (n + 5)))))), .inl (0, 36, .inl (fun _ => 0)), .inl (0, 36, .inl (fun _ => 0)), .inr (6, [.int (nI 0), .ref (n + 7), .ref (n + 8), .ref (n + 9), .ref q1_0, .ref (n + 0)]), .inl (0, 6, .inl (fun _ => 0)), .inl (0, 6, .inl (fun _ => 0)), .inl (0, 6, .inl (fun _ => 0))]) rfl]
  show gk_G E mX2_init (dd + 3, 4, 24) 71 [(3, .int (nI 0)), (0, .ref r), (1, .ref q1), (2, .ref q2)] [.ref (n + 6), .int (nI 0), .ref (n + 2)] (HA h r (.inr (2, [.ref q1, .ref q2, .ref (n + 0), .ref (n + 2), .ref (n + 3)])) [.inr (3, [.int (nI 0), .ref (n + 1)]), .inl (0, 36, .inl (fun _ => 0)), .inl (6, 2, .inr (.inr (.inr (.inr (fun _ => none))))), .inl (7, 2, .inr (.inr (.inr (.inr (rl2 (n + 4) (n + 5)))))), .inl (0, 36, .inl (fun _ => 0)), .inl (0, 36, .inl (fun _ => 0)), .inr (6, [.int (nI 0), .ref (n + 7), .ref (n + 8), .ref (n + 9), .ref q1_0, .ref (n + 0)]), .inl (0, 6, .inl (fun _ => 0)), .inl (0, 6, .inl (fun _ => 0)), .inl (0, 6, .inl (fun _ => 0))]) _
  refine ha_aast (pc := 71) (t := 6) (ci := 6) (i := 0) (j := 2) (l' := [.inr (3, [.int (nI 0), .ref (n + 1)]), .inl (0, 36, .inl (fun _ => 0)), .inl (6, 2, .inr (.inr (.inr (.inr (va_up (fun _ => none) 0 (some (n + 6))))))), .inl (7, 2, .inr (.inr (.inr (.inr (rl2 (n + 4) (n + 5)))))), .inl (0, 36, .inl (fun _ => 0)), .inl (0, 36, .inl (fun _ => 0)), .inr (6, [.int (nI 0), .ref (n + 7), .ref (n + 8), .ref (n + 9), .ref q1_0, .ref (n + 0)]), .inl (0, 6, .inl (fun _ => 0)), .inl (0, 6, .inl (fun _ => 0)), .inl (0, 6, .inl (fun _ => 0))]) hn (DX2_init_0.at 37 rfl) rfl rfl rfl (HA_n hn (j := 6) rfl) (by decide) (by decide) rfl ?_
  refine gk_iinc (pc := 72) (nI 1) [(3, .int (nI 1)), (0, .ref r), (1, .ref q1), (2, .ref q2)] 0 (DX2_init_0.at 38 rfl) rfl (by decide +kernel) (Nat.le_of_ble_eq_true rfl) rfl ?_
  refine gk_goto (pc := 75) 46 (DX2_init_0.at 39 rfl) rfl ?_
  refine gk_iload_n (pc := 46) (DX2_init_0.at 24 rfl) 0 rfl rfl ?_
  refine gk_iconst (pc := 47) (nI 2) (DX2_init_0.at 25 rfl) (by decide +kernel) ?_
  refine gk_icmp_ge (pc := 48) 78 (DX2_init_0.at 26 rfl) rfl (fun z => absurd z (by decide)) (fun _ => ?_)
  refine gk_aload_n (pc := 51) (DX2_init_0.at 27 rfl) 1 rfl rfl ?_
  refine gk_get (pc := 52) (.ref (n + 2)) (DX2_init_0.at 28 rfl) fX2_20_2 (HA_r hr) rfl ?_
  refine gk_iload_n (pc := 55) (DX2_init_0.at 29 rfl) 0 rfl rfl ?_
  refine ha_newO (pc := 56) (N := 6) (ci := 6) (fs := [.int 0, .null, .null, .null, .null, .null]) (l' := [.inr (3, [.int (nI 0), .ref (n + 1)]), .inl (0, 36, .inl (fun _ => 0)), .inl (6, 2, .inr (.inr (.inr (.inr (va_up (fun _ => none) 0 (some (n + 6))))))), .inl (7, 2, .inr (.inr (.inr (.inr (rl2 (n + 4) (n + 5)))))), .inl (0, 36, .inl (fun _ => 0)), .inl (0, 36, .inl (fun _ => 0)), .inr (6, [.int (nI 0), .ref (n + 7), .ref (n + 8), .ref (n + 9), .ref q1_0, .ref (n + 0)]), .inl (0, 6, .inl (fun _ => 0)), .inl (0, 6, .inl (fun _ => 0)), .inl (0, 6, .inl (fun _ => 0)), .inr (6, [.int 0, .null, .null, .null, .null, .null])]) hn (DX2_init_0.at 30 rfl) nwX2_18 (q := n + 10) rfl (by omega) rfl ?_
  refine gk_dup (pc := 59) (DX2_init_0.at 31 rfl) rfl ?_
  refine gk_aload_n (pc := 60) (DX2_init_0.at 32 rfl) 2 rfl rfl ?_
  refine gk_get (pc := 61) (.ref q1_0) (DX2_init_0.at 33 rfl) fX2_37_7 (HA_o hq1 hq1o) hq1_0 ?_
  refine gk_aload_n (pc := 64) (DX2_init_0.at 34 rfl) 1 rfl rfl ?_
  refine gk_get (pc := 65) (.ref (n + 0)) (DX2_init_0.at 35 rfl) fX2_12_2 (HA_r hr) rfl ?_
  refine ha_init (pc := 68) [.ref q1_0, .ref (n + 0)] [.ref (n + 10), .int (nI 1), .ref (n + 2)] (DX2_init_0.at 36 rfl) ciX2_43 rfl rfl (Nat.le_of_ble_eq_true rfl) (Nat.le_of_ble_eq_true rfl) (i_X6 (n := n + 11) (hn := by rw [HA_len hn]; rfl) (h9 := by omega) (hx := (HA_n hn (j := 10) rfl))  ?_)
  rw [HA_HA hn (l3 := [.inr (3, [.int (nI 0), .ref (n + 1)]), .inl (0, 36, .inl (fun _ => 0)), .inl (6, 2, .inr (.inr (.inr (.inr (va_up (fun _ => none) 0 (some (n + 6))))))), .inl (7, 2, .inr (.inr (.inr (.inr (rl2 (n + 4) (n + 5)))))), .inl (0, 36, .inl (fun _ => 0)), .inl (0, 36, .inl (fun _ => 0)), .inr (6, [.int (nI 0), .ref (n + 7), .ref (n + 8), .ref (n + 9), .ref q1_0, .ref (n + 0)]), .inl (0, 6, .inl (fun _ => 0)), .inl (0, 6, .inl (fun _ => 0)), .inl (0, 6, .inl (fun _ => 0)), .inr (6, [.int (nI 0), .ref (n + 11), .ref (n + 12), .ref (n + 13), .ref q1_0, .ref (n + 0)]), .inl (0, 6, .inl (fun _ => 0)), .inl (0, 6, .inl (fun _ => 0)), .inl (0, 6, .inl (fun _ => 0))]) rfl]
  show gk_G E mX2_init (dd + 3, 0, 0) 71 [(3, .int (nI 1)), (0, .ref r), (1, .ref q1), (2, .ref q2)] [.ref (n + 10), .int (nI 1), .ref (n + 2)] (HA h r (.inr (2, [.ref q1, .ref q2, .ref (n + 0), .ref (n + 2), .ref (n + 3)])) [.inr (3, [.int (nI 0), .ref (n + 1)]), .inl (0, 36, .inl (fun _ => 0)), .inl (6, 2, .inr (.inr (.inr (.inr (va_up (fun _ => none) 0 (some (n + 6))))))), .inl (7, 2, .inr (.inr (.inr (.inr (rl2 (n + 4) (n + 5)))))), .inl (0, 36, .inl (fun _ => 0)), .inl (0, 36, .inl (fun _ => 0)), .inr (6, [.int (nI 0), .ref (n + 7), .ref (n + 8), .ref (n + 9), .ref q1_0, .ref (n + 0)]), .inl (0, 6, .inl (fun _ => 0)), .inl (0, 6, .inl (fun _ => 0)), .inl (0, 6, .inl (fun _ => 0)), .inr (6, [.int (nI 0), .ref (n + 11), .ref (n + 12), .ref (n + 13), .ref q1_0, .ref (n + 0)]), .inl (0, 6, .inl (fun _ => 0)), .inl (0, 6, .inl (fun _ => 0)), .inl (0, 6, .inl (fun _ => 0))]) _
  refine ha_aast (pc := 71) (t := 6) (ci := 6) (i := 1) (j := 2) (l' := [.inr (3, [.int (nI 0), .ref (n + 1)]), .inl (0, 36, .inl (fun _ => 0)), .inl (6, 2, .inr (.inr (.inr (.inr (va_up (va_up (fun _ => none) 0 (some (n + 6))) 1 (some (n + 10))))))), .inl (7, 2, .inr (.inr (.inr (.inr (rl2 (n + 4) (n + 5)))))), .inl (0, 36, .inl (fun _ => 0)), .inl (0, 36, .inl (fun _ => 0)), .inr (6, [.int (nI 0), .ref (n + 7), .ref (n + 8), .ref (n + 9), .ref q1_0, .ref (n + 0)]), .inl (0, 6, .inl (fun _ => 0)), .inl (0, 6, .inl (fun _ => 0)), .inl (0, 6, .inl (fun _ => 0)), .inr (6, [.int (nI 0), .ref (n + 11), .ref (n + 12), .ref (n + 13), .ref q1_0, .ref (n + 0)]), .inl (0, 6, .inl (fun _ => 0)), .inl (0, 6, .inl (fun _ => 0)), .inl (0, 6, .inl (fun _ => 0))]) hn (DX2_init_0.at 37 rfl) rfl rfl rfl (HA_n hn (j := 10) rfl) (by decide) (by decide) rfl ?_
  refine gk_iinc (pc := 72) (nI 2) [(3, .int (nI 2)), (0, .ref r), (1, .ref q1), (2, .ref q2)] 0 (DX2_init_0.at 38 rfl) rfl (by decide +kernel) (Nat.le_of_ble_eq_true rfl) rfl ?_
  refine gk_goto (pc := 75) 46 (DX2_init_0.at 39 rfl) rfl ?_
  refine gk_iload_n (pc := 46) (DX2_init_0.at 24 rfl) 0 rfl rfl ?_
  refine gk_iconst (pc := 47) (nI 2) (DX2_init_0.at 25 rfl) (by decide +kernel) ?_
  refine gk_icmp_ge (pc := 48) 78 (DX2_init_0.at 26 rfl) rfl (fun _ => ?_) (fun z => absurd (by decide) z)
  exact gk_return (pc := 78) (DX2_init_0.at 40 rfl) rfl ⟨rfl, k⟩
