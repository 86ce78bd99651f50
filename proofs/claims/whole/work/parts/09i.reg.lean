abbrev pX12_pair_73 (E : gk_E) (dd : Nat) (o : Nat) (x1 : Int32) (x2 : Int32) (x3 : Int32) (x4 : Int32) (x5 : Int32) (x6 : Int32) (h : gk_H) (K : Int32 → gk_H → Prop) : Prop := gk_G E mX12_pair (dd + 1, 0, 0) 73 [(0, .ref o), (1, .int x1), (2, .int x2), (3, .int x3), (4, .int x4), (5, .int x5), (6, .int x6)] [] h (fun o h1 => ∃ v, o = some (.int v) ∧ K v h1)
set_option maxHeartbeats 4000000 in
theorem vX12_pair_0 {E : gk_E} {dd : Nat} {o : Nat} {x1 : Int32} {x2 : Int32}  {h : gk_H} {K : Int32 → gk_H → Prop} (hv : (∃ fs, h[o]? = some (.inr (11, fs))) ∧ RnI E mX12_isOther (dd, 0, 0) [.ref o, .int x1] h (fun v1 h1 => (v1 = 0 → K ((-1)) h1) ∧ (¬ v1 = 0 → (∃ fs, h1[o]? = some (.inr (11, fs))) ∧ RnI E mX12_isOther (dd, 0, 0) [.ref o, .int x2] h1 (fun v2 h2 => (¬ v2 = 0 → LdR h2 o 11 1 fun v3 => AlI h2 v3 x1 fun v4 => LdR h2 o 11 1 fun v5 => AlI h2 v5 x2 fun v6 => LdR h2 o 11 1 fun v7 => AsI h2 v7 v4 v4 fun h8 => LdR h8 o 11 1 fun v9 => AsI h8 v9 v6 v6 fun h10 => LdR h10 o 11 1 fun v11 => AsI h10 v11 x1 x2 fun h12 => LdR h12 o 11 1 fun v13 => AsI h12 v13 x2 x1 fun h14 => (∃ fs, h14[o]? = some (.inr (11, fs))) ∧ RnV E mX12_fixes (dd, 0, 0) [.ref o] h14 (fun h15 => pX12_pair_73 E dd o x1 x2 v4 v6 (nI 0) (nI 0) h15 K)) ∧ (v2 = 0 → K ((-1)) h2))))) : RnI E mX12_pair (dd + 1, 0, 0) [.ref o, .int x1, .int x2] h K := by
  show gk_G E mX12_pair (dd + 1, 0, 0) 0 [(0, .ref o), (1, .int x1), (2, .int x2)] [] h (fun o h1 => ∃ v, o = some (.int v) ∧ K v h1)
  refine gk_aload_n (pc := 0) (DX12_pair_0.at 0 rfl) 0 rfl rfl ?_
  refine gk_iload_n (pc := 1) (DX12_pair_0.at 1 rfl) 1 rfl rfl ?_
  obtain ⟨⟨fs1, q1⟩, hv⟩ := hv
  refine gk_vV (pc := 2) [.int x1] [] (DX12_pair_0.at 2 rfl) cvX12_83 q1 rfl rfl (Nat.le_of_ble_eq_true rfl) (Nat.le_of_ble_eq_true rfl) (gk_Run.post (fun o h1 z => ?_) hv)
  obtain ⟨v1, rfl, hv⟩ := z
  refine gk_if_eq (pc := 5) 16 (DX12_pair_0.at 3 rfl) (by decide) (fun c => ?_) (fun c => ?_)
  · replace hv := hv.1 c
    refine gk_iconst (pc := 16) ((-1)) (DX12_pair_0.at 8 rfl) ci_m1 ?_
    exact gk_ireturn (pc := 17) .int (DX12_pair_0.at 9 rfl) rfl rfl ⟨_, rfl, hv⟩
  · replace hv := hv.2 c
    refine gk_aload_n (pc := 8) (DX12_pair_0.at 4 rfl) 0 rfl rfl ?_
    refine gk_iload_n (pc := 9) (DX12_pair_0.at 5 rfl) 2 rfl rfl ?_
    obtain ⟨⟨fs2, q2⟩, hv⟩ := hv
    refine gk_vV (pc := 10) [.int x2] [] (DX12_pair_0.at 6 rfl) cvX12_83 q2 rfl rfl (Nat.le_of_ble_eq_true rfl) (Nat.le_of_ble_eq_true rfl) (gk_Run.post (fun o h2 z => ?_) hv)
    obtain ⟨v2, rfl, hv⟩ := z
    refine gk_if_ne (pc := 13) 18 (DX12_pair_0.at 7 rfl) (by decide) (fun c => ?_) (fun c => ?_)
    · replace hv := hv.1 c
      refine gk_aload_n (pc := 18) (DX12_pair_0.at 10 rfl) 0 rfl rfl ?_
      obtain ⟨fs3, v3, q3, r3, hv⟩ := hv
      refine gk_get (pc := 19) (.ref v3) (DX12_pair_0.at 11 rfl) fX12_15_11 q3 r3 ?_
      refine gk_iload_n (pc := 22) (DX12_pair_0.at 12 rfl) 1 rfl rfl ?_
      obtain ⟨n4, f4, q4, r4, hv⟩ := hv
      refine gk_iald (pc := 23) (DX12_pair_0.at 13 rfl) q4 r4 ?_
      generalize f4 _ = v4 at hv ⊢
      refine gk_istore_n (pc := 24) [(3, .int v4), (0, .ref o), (1, .int x1), (2, .int x2)] (DX12_pair_0.at 14 rfl) rfl (Nat.le_of_ble_eq_true rfl) rfl ?_
      refine gk_aload_n (pc := 25) (DX12_pair_0.at 15 rfl) 1 rfl rfl ?_
      obtain ⟨fs5, v5, q5, r5, hv⟩ := hv
      refine gk_get (pc := 26) (.ref v5) (DX12_pair_0.at 16 rfl) fX12_15_11 q5 r5 ?_
      refine gk_iload_n (pc := 29) (DX12_pair_0.at 17 rfl) 3 rfl rfl ?_
      obtain ⟨n6, f6, q6, r6, hv⟩ := hv
      refine gk_iald (pc := 30) (DX12_pair_0.at 18 rfl) q6 r6 ?_
      generalize f6 _ = v6 at hv ⊢
      refine gk_istore (pc := 31) [(4, .int v6), (3, .int v4), (0, .ref o), (1, .int x1), (2, .int x2)] (DX12_pair_0.at 19 rfl) (Nat.le_of_ble_eq_true rfl) rfl ?_
      refine gk_aload_n (pc := 33) (DX12_pair_0.at 20 rfl) 2 rfl rfl ?_
      obtain ⟨fs7, v7, q7, r7, hv⟩ := hv
      refine gk_get (pc := 34) (.ref v7) (DX12_pair_0.at 21 rfl) fX12_15_11 q7 r7 ?_
      refine gk_iload_n (pc := 37) (DX12_pair_0.at 22 rfl) 1 rfl rfl ?_
      refine gk_iload_n (pc := 38) (DX12_pair_0.at 23 rfl) 1 rfl rfl ?_
      obtain ⟨n8, f8, q8, r8, hv⟩ := hv
      refine gk_iast (pc := 39) (DX12_pair_0.at 24 rfl) q8 r8 ?_
      generalize h2.set _ _ = h8 at hv ⊢
      refine gk_aload_n (pc := 40) (DX12_pair_0.at 25 rfl) 2 rfl rfl ?_
      obtain ⟨fs9, v9, q9, r9, hv⟩ := hv
      refine gk_get (pc := 41) (.ref v9) (DX12_pair_0.at 26 rfl) fX12_15_11 q9 r9 ?_
      refine gk_iload (pc := 44) (DX12_pair_0.at 27 rfl) 0 rfl ?_
      refine gk_iload (pc := 46) (DX12_pair_0.at 28 rfl) 0 rfl ?_
      obtain ⟨n10, f10, q10, r10, hv⟩ := hv
      refine gk_iast (pc := 48) (DX12_pair_0.at 29 rfl) q10 r10 ?_
      generalize h8.set _ _ = h10 at hv ⊢
      refine gk_aload_n (pc := 49) (DX12_pair_0.at 30 rfl) 2 rfl rfl ?_
      obtain ⟨fs11, v11, q11, r11, hv⟩ := hv
      refine gk_get (pc := 50) (.ref v11) (DX12_pair_0.at 31 rfl) fX12_15_11 q11 r11 ?_
      refine gk_iload_n (pc := 53) (DX12_pair_0.at 32 rfl) 3 rfl rfl ?_
      refine gk_iload_n (pc := 54) (DX12_pair_0.at 33 rfl) 4 rfl rfl ?_
      obtain ⟨n12, f12, q12, r12, hv⟩ := hv
      refine gk_iast (pc := 55) (DX12_pair_0.at 34 rfl) q12 r12 ?_
      generalize h10.set _ _ = h12 at hv ⊢
      refine gk_aload_n (pc := 56) (DX12_pair_0.at 35 rfl) 2 rfl rfl ?_
      obtain ⟨fs13, v13, q13, r13, hv⟩ := hv
      refine gk_get (pc := 57) (.ref v13) (DX12_pair_0.at 36 rfl) fX12_15_11 q13 r13 ?_
      refine gk_iload_n (pc := 60) (DX12_pair_0.at 37 rfl) 4 rfl rfl ?_
      refine gk_iload_n (pc := 61) (DX12_pair_0.at 38 rfl) 3 rfl rfl ?_
      obtain ⟨n14, f14, q14, r14, hv⟩ := hv
      refine gk_iast (pc := 62) (DX12_pair_0.at 39 rfl) q14 r14 ?_
      generalize h12.set _ _ = h14 at hv ⊢
      refine gk_aload_n (pc := 63) (DX12_pair_0.at 40 rfl) 2 rfl rfl ?_
      obtain ⟨⟨fs15, q15⟩, hv⟩ := hv
      refine gk_vV (pc := 64) [] [] (DX12_pair_0.at 41 rfl) cvX12_67 q15 rfl rfl (Nat.le_of_ble_eq_true rfl) (Nat.le_of_ble_eq_true rfl) (gk_Run.post (fun o h15 z => ?_) hv)
      obtain ⟨rfl, hv⟩ := z
      refine gk_iconst (pc := 67) (nI 0) (DX12_pair_0.at 42 rfl) ci_0 ?_
      refine gk_istore (pc := 68) [(5, .int (nI 0)), (4, .int v6), (3, .int v4), (0, .ref o), (1, .int x1), (2, .int x2)] (DX12_pair_0.at 43 rfl) (Nat.le_of_ble_eq_true rfl) rfl ?_
      refine gk_iconst (pc := 70) (nI 0) (DX12_pair_0.at 44 rfl) ci_0 ?_
      refine gk_istore (pc := 71) [(6, .int (nI 0)), (5, .int (nI 0)), (4, .int v6), (3, .int v4), (0, .ref o), (1, .int x1), (2, .int x2)] (DX12_pair_0.at 45 rfl) (Nat.le_of_ble_eq_true rfl) rfl ?_
      exact gk_pick (pc := 73) [(0, .ref o), (1, .int x1), (2, .int x2), (3, .int v4), (4, .int v6), (5, .int (nI 0)), (6, .int (nI 0))] [4, 5, 6, 3, 2, 1, 0] rfl hv
    · replace hv := hv.2 c
      refine gk_iconst (pc := 16) ((-1)) (DX12_pair_0.at 8 rfl) ci_m1 ?_
      exact gk_ireturn (pc := 17) .int (DX12_pair_0.at 9 rfl) rfl rfl ⟨_, rfl, hv⟩
set_option maxHeartbeats 4000000 in
theorem vX12_pair_73 {E : gk_E} {dd : Nat} {o : Nat} {x1 : Int32} {x2 : Int32} {x3 : Int32} {x4 : Int32} {x5 : Int32} {x6 : Int32}  {h : gk_H} {K : Int32 → gk_H → Prop} (hv : LdI h o 11 0 fun v1 => (v1 ≤ x6 → K x5 h) ∧ (¬ v1 ≤ x6 → LdR h o 11 1 fun v2 => AlI h v2 x6 fun v3 => (¬ v3 = x6 → pX12_pair_73 E dd o x1 x2 x3 x4 (x5 + (nI 1)) (x6 + nI 1) h K) ∧ (v3 = x6 → pX12_pair_73 E dd o x1 x2 x3 x4 (x5 + (nI 0)) (x6 + nI 1) h K))) : pX12_pair_73 E dd o x1 x2 x3 x4 x5 x6 h K := by
  show gk_G E mX12_pair (dd + 1, 0, 0) 73 [(0, .ref o), (1, .int x1), (2, .int x2), (3, .int x3), (4, .int x4), (5, .int x5), (6, .int x6)] [] h (fun o h1 => ∃ v, o = some (.int v) ∧ K v h1)
  refine gk_iload (pc := 73) (DX12_pair_0.at 46 rfl) 6 rfl ?_
  refine gk_aload_n (pc := 75) (DX12_pair_0.at 47 rfl) 0 rfl rfl ?_
  obtain ⟨fs1, v1, q1, r1, hv⟩ := hv
  refine gk_get (pc := 76) (.int v1) (DX12_pair_0.at 48 rfl) fX12_9_11 q1 r1 ?_
  refine gk_icmp_ge (pc := 79) 110 (DX12_pair_0.at 49 rfl) (by decide) (fun c => ?_) (fun c => ?_)
  · replace hv := hv.1 c
    refine gk_iload (pc := 110) (DX12_pair_1.at 4 rfl) 5 rfl ?_
    exact gk_ireturn (pc := 112) .int (DX12_pair_1.at 5 rfl) rfl rfl ⟨_, rfl, hv⟩
  · replace hv := hv.2 c
    refine gk_iload (pc := 82) (DX12_pair_0.at 50 rfl) 5 rfl ?_
    refine gk_aload_n (pc := 84) (DX12_pair_0.at 51 rfl) 0 rfl rfl ?_
    obtain ⟨fs2, v2, q2, r2, hv⟩ := hv
    refine gk_get (pc := 85) (.ref v2) (DX12_pair_0.at 52 rfl) fX12_15_11 q2 r2 ?_
    refine gk_iload (pc := 88) (DX12_pair_0.at 53 rfl) 6 rfl ?_
    obtain ⟨n3, f3, q3, r3, hv⟩ := hv
    refine gk_iald (pc := 90) (DX12_pair_0.at 54 rfl) q3 r3 ?_
    generalize f3 _ = v3 at hv ⊢
    refine gk_iload (pc := 91) (DX12_pair_0.at 55 rfl) 6 rfl ?_
    refine gk_icmp_ne (pc := 93) 100 (DX12_pair_0.at 56 rfl) (by decide) (fun c => ?_) (fun c => ?_)
    · replace hv := hv.1 c
      refine gk_iconst (pc := 100) (nI 1) (DX12_pair_0.at 59 rfl) ci_1 ?_
      refine gk_iadd (pc := 101) (DX12_pair_1.at 0 rfl) ?_
      refine gk_istore (pc := 102) [(5, .int (x5 + (nI 1))), (0, .ref o), (1, .int x1), (2, .int x2), (3, .int x3), (4, .int x4), (6, .int x6)] (DX12_pair_1.at 1 rfl) (Nat.le_of_ble_eq_true rfl) rfl ?_
      refine gk_iinc (pc := 104) (x6 + nI 1) [(6, .int (x6 + nI 1)), (5, .int (x5 + (nI 1))), (0, .ref o), (1, .int x1), (2, .int x2), (3, .int x3), (4, .int x4)] 6 (DX12_pair_1.at 2 rfl) rfl (by rw [ci_1]) (Nat.le_of_ble_eq_true rfl) rfl ?_
      refine gk_goto (pc := 107) 73 (DX12_pair_1.at 3 rfl) (by decide) ?_
      exact gk_pick (pc := 73) [(0, .ref o), (1, .int x1), (2, .int x2), (3, .int x3), (4, .int x4), (5, .int (x5 + (nI 1))), (6, .int (x6 + nI 1))] [2, 3, 4, 5, 6, 1, 0] rfl hv
    · replace hv := hv.2 c
      refine gk_iconst (pc := 96) (nI 0) (DX12_pair_0.at 57 rfl) ci_0 ?_
      refine gk_goto (pc := 97) 101 (DX12_pair_0.at 58 rfl) (by decide) ?_
      refine gk_iadd (pc := 101) (DX12_pair_1.at 0 rfl) ?_
      refine gk_istore (pc := 102) [(5, .int (x5 + (nI 0))), (0, .ref o), (1, .int x1), (2, .int x2), (3, .int x3), (4, .int x4), (6, .int x6)] (DX12_pair_1.at 1 rfl) (Nat.le_of_ble_eq_true rfl) rfl ?_
      refine gk_iinc (pc := 104) (x6 + nI 1) [(6, .int (x6 + nI 1)), (5, .int (x5 + (nI 0))), (0, .ref o), (1, .int x1), (2, .int x2), (3, .int x3), (4, .int x4)] 6 (DX12_pair_1.at 2 rfl) rfl (by rw [ci_1]) (Nat.le_of_ble_eq_true rfl) rfl ?_
      refine gk_goto (pc := 107) 73 (DX12_pair_1.at 3 rfl) (by decide) ?_
      exact gk_pick (pc := 73) [(0, .ref o), (1, .int x1), (2, .int x2), (3, .int x3), (4, .int x4), (5, .int (x5 + (nI 0))), (6, .int (x6 + nI 1))] [2, 3, 4, 5, 6, 1, 0] rfl hv
abbrev pX12_power_42 (E : gk_E) (dd : Nat) (o : Nat) (x1 : Int32) (x2 : Int32) (x3 : Int32) (x4 : Int32) (x5 : Int32) (h : gk_H) (K : Int32 → gk_H → Prop) : Prop := gk_G E mX12_power (dd + 1, 0, 0) 42 [(0, .ref o), (1, .int x1), (2, .int x2), (3, .int x3), (4, .int x4), (5, .int x5)] [] h (fun o h1 => ∃ v, o = some (.int v) ∧ K v h1)
abbrev pX12_power_66 (E : gk_E) (dd : Nat) (o : Nat) (x1 : Int32) (x2 : Int32) (x3 : Int32) (x4 : Int32) (x5 : Int32) (x6 : Int32) (h : gk_H) (K : Int32 → gk_H → Prop) : Prop := gk_G E mX12_power (dd + 1, 0, 0) 66 [(0, .ref o), (1, .int x1), (2, .int x2), (3, .int x3), (4, .int x4), (5, .int x5), (6, .int x6)] [] h (fun o h1 => ∃ v, o = some (.int v) ∧ K v h1)
set_option maxHeartbeats 4000000 in
theorem vX12_power_0 {E : gk_E} {dd : Nat} {o : Nat} {x1 : Int32} {x2 : Int32}  {h : gk_H} {K : Int32 → gk_H → Prop} (hv : (∃ fs, h[o]? = some (.inr (11, fs))) ∧ RnI E mX12_isRelation (dd, 0, 0) [.ref o, .int x1] h (fun v1 h1 => (¬ v1 = 0 → RnI E mX12_isFrom (dd, 0, 0) [.long x2.toInt64, .long (lN 0), .long (lN 1)] h1 (fun v2 h2 => (¬ v2 = 0 → (∃ fs, h2[o]? = some (.inr (11, fs))) ∧ RnI E mX12_powerOf (dd, 0, 0) [.ref o, .int x1, .int (nI 16)] h2 (fun v3 h3 => (∃ fs, h3[o]? = some (.inr (11, fs))) ∧ RnI E mX12_composed (dd, 0, 0) [.ref o, .int v3, .int x1] h3 (fun v4 h4 => pX12_power_42 E dd o x1 x2 v3 (nI 1) v4 h4 K))) ∧ (v2 = 0 → K ((-1)) h2))) ∧ (v1 = 0 → K ((-2)) h1))) : RnI E mX12_power (dd + 1, 0, 0) [.ref o, .int x1, .int x2] h K := by
  show gk_G E mX12_power (dd + 1, 0, 0) 0 [(0, .ref o), (1, .int x1), (2, .int x2)] [] h (fun o h1 => ∃ v, o = some (.int v) ∧ K v h1)
  refine gk_aload_n (pc := 0) (DX12_power_0.at 0 rfl) 0 rfl rfl ?_
  refine gk_iload_n (pc := 1) (DX12_power_0.at 1 rfl) 1 rfl rfl ?_
  obtain ⟨⟨fs1, q1⟩, hv⟩ := hv
  refine gk_vV (pc := 2) [.int x1] [] (DX12_power_0.at 2 rfl) cvX12_91 q1 rfl rfl (Nat.le_of_ble_eq_true rfl) (Nat.le_of_ble_eq_true rfl) (gk_Run.post (fun o h1 z => ?_) hv)
  obtain ⟨v1, rfl, hv⟩ := z
  refine gk_if_ne (pc := 5) 11 (DX12_power_0.at 3 rfl) (by decide) (fun c => ?_) (fun c => ?_)
  · replace hv := hv.1 c
    refine gk_iload_n (pc := 11) (DX12_power_0.at 6 rfl) 2 rfl rfl ?_
    refine gk_i2l (pc := 12) (DX12_power_0.at 7 rfl) ?_
    refine gk_lconst (pc := 13) (lN 0) (DX12_power_0.at 8 rfl) rfl ?_
    refine gk_lconst (pc := 14) (lN 1) (DX12_power_0.at 9 rfl) rfl ?_
    refine gk_vS (pc := 15) [.long x2.toInt64, .long (lN 0), .long (lN 1)] [] (DX12_power_0.at 10 rfl) csX12_70 rfl rfl (Nat.le_of_ble_eq_true rfl) (Nat.le_of_ble_eq_true rfl) (gk_Run.post (fun o h2 z => ?_) hv)
    obtain ⟨v2, rfl, hv⟩ := z
    refine gk_if_ne (pc := 18) 23 (DX12_power_0.at 11 rfl) (by decide) (fun c => ?_) (fun c => ?_)
    · replace hv := hv.1 c
      refine gk_aload_n (pc := 23) (DX12_power_0.at 14 rfl) 0 rfl rfl ?_
      refine gk_iload_n (pc := 24) (DX12_power_0.at 15 rfl) 1 rfl rfl ?_
      refine gk_bipush (pc := 25) (nI 16) (DX12_power_0.at 16 rfl) cb_16 ?_
      obtain ⟨⟨fs3, q3⟩, hv⟩ := hv
      refine gk_vV (pc := 27) [.int x1, .int (nI 16)] [] (DX12_power_0.at 17 rfl) cvX12_117 q3 rfl rfl (Nat.le_of_ble_eq_true rfl) (Nat.le_of_ble_eq_true rfl) (gk_Run.post (fun o h3 z => ?_) hv)
      obtain ⟨v3, rfl, hv⟩ := z
      refine gk_istore_n (pc := 30) [(3, .int v3), (0, .ref o), (1, .int x1), (2, .int x2)] (DX12_power_0.at 18 rfl) rfl (Nat.le_of_ble_eq_true rfl) rfl ?_
      refine gk_iconst (pc := 31) (nI 1) (DX12_power_0.at 19 rfl) ci_1 ?_
      refine gk_istore (pc := 32) [(4, .int (nI 1)), (3, .int v3), (0, .ref o), (1, .int x1), (2, .int x2)] (DX12_power_0.at 20 rfl) (Nat.le_of_ble_eq_true rfl) rfl ?_
      refine gk_aload_n (pc := 34) (DX12_power_0.at 21 rfl) 2 rfl rfl ?_
      refine gk_iload_n (pc := 35) (DX12_power_0.at 22 rfl) 1 rfl rfl ?_
      refine gk_iload_n (pc := 36) (DX12_power_0.at 23 rfl) 3 rfl rfl ?_
      obtain ⟨⟨fs4, q4⟩, hv⟩ := hv
      refine gk_vV (pc := 37) [.int v3, .int x1] [] (DX12_power_0.at 24 rfl) cvX12_109 q4 rfl rfl (Nat.le_of_ble_eq_true rfl) (Nat.le_of_ble_eq_true rfl) (gk_Run.post (fun o h4 z => ?_) hv)
      obtain ⟨v4, rfl, hv⟩ := z
      refine gk_istore (pc := 40) [(5, .int v4), (4, .int (nI 1)), (3, .int v3), (0, .ref o), (1, .int x1), (2, .int x2)] (DX12_power_0.at 25 rfl) (Nat.le_of_ble_eq_true rfl) rfl ?_
      exact gk_pick (pc := 42) [(0, .ref o), (1, .int x1), (2, .int x2), (3, .int v3), (4, .int (nI 1)), (5, .int v4)] [3, 4, 5, 2, 1, 0] rfl hv
    · replace hv := hv.2 c
      refine gk_iconst (pc := 21) ((-1)) (DX12_power_0.at 12 rfl) ci_m1 ?_
      exact gk_ireturn (pc := 22) .int (DX12_power_0.at 13 rfl) rfl rfl ⟨_, rfl, hv⟩
  · replace hv := hv.2 c
    refine gk_bipush (pc := 8) ((-2)) (DX12_power_0.at 4 rfl) cb_m2 ?_
    exact gk_ireturn (pc := 10) .int (DX12_power_0.at 5 rfl) rfl rfl ⟨_, rfl, hv⟩
set_option maxHeartbeats 4000000 in
theorem vX12_power_42 {E : gk_E} {dd : Nat} {o : Nat} {x1 : Int32} {x2 : Int32} {x3 : Int32} {x4 : Int32} {x5 : Int32}  {h : gk_H} {K : Int32 → gk_H → Prop} (hv : (x5 = x3 → pX12_power_66 E dd o x1 x2 x3 x4 x5 (nI 0) h K) ∧ (¬ x5 = x3 → (∃ fs, h[o]? = some (.inr (11, fs))) ∧ RnI E mX12_composed (dd, 0, 0) [.ref o, .int x5, .int x1] h (fun v1 h1 => pX12_power_42 E dd o x1 x2 x3 (x4 + nI 1) v1 h1 K))) : pX12_power_42 E dd o x1 x2 x3 x4 x5 h K := by
  show gk_G E mX12_power (dd + 1, 0, 0) 42 [(0, .ref o), (1, .int x1), (2, .int x2), (3, .int x3), (4, .int x4), (5, .int x5)] [] h (fun o h1 => ∃ v, o = some (.int v) ∧ K v h1)
  refine gk_iload (pc := 42) (DX12_power_0.at 26 rfl) 5 rfl ?_
  refine gk_iload_n (pc := 44) (DX12_power_0.at 27 rfl) 3 rfl rfl ?_
  refine gk_icmp_eq (pc := 45) 63 (DX12_power_0.at 28 rfl) (by decide) (fun c => ?_) (fun c => ?_)
  · replace hv := hv.1 c
    refine gk_iconst (pc := 63) (nI 0) (DX12_power_0.at 36 rfl) ci_0 ?_
    refine gk_istore (pc := 64) [(6, .int (nI 0)), (0, .ref o), (1, .int x1), (2, .int x2), (3, .int x3), (4, .int x4), (5, .int x5)] (DX12_power_0.at 37 rfl) (Nat.le_of_ble_eq_true rfl) rfl ?_
    exact gk_pick (pc := 66) [(0, .ref o), (1, .int x1), (2, .int x2), (3, .int x3), (4, .int x4), (5, .int x5), (6, .int (nI 0))] [1, 2, 3, 4, 5, 6, 0] rfl hv
  · replace hv := hv.2 c
    refine gk_aload_n (pc := 48) (DX12_power_0.at 29 rfl) 0 rfl rfl ?_
    refine gk_iload (pc := 49) (DX12_power_0.at 30 rfl) 5 rfl ?_
    refine gk_iload_n (pc := 51) (DX12_power_0.at 31 rfl) 1 rfl rfl ?_
    obtain ⟨⟨fs1, q1⟩, hv⟩ := hv
    refine gk_vV (pc := 52) [.int x5, .int x1] [] (DX12_power_0.at 32 rfl) cvX12_109 q1 rfl rfl (Nat.le_of_ble_eq_true rfl) (Nat.le_of_ble_eq_true rfl) (gk_Run.post (fun o h1 z => ?_) hv)
    obtain ⟨v1, rfl, hv⟩ := z
    refine gk_istore (pc := 55) [(5, .int v1), (0, .ref o), (1, .int x1), (2, .int x2), (3, .int x3), (4, .int x4)] (DX12_power_0.at 33 rfl) (Nat.le_of_ble_eq_true rfl) rfl ?_
    refine gk_iinc (pc := 57) (x4 + nI 1) [(4, .int (x4 + nI 1)), (5, .int v1), (0, .ref o), (1, .int x1), (2, .int x2), (3, .int x3)] 5 (DX12_power_0.at 34 rfl) rfl (by rw [ci_1]) (Nat.le_of_ble_eq_true rfl) rfl ?_
    refine gk_goto (pc := 60) 42 (DX12_power_0.at 35 rfl) (by decide) ?_
    exact gk_pick (pc := 42) [(0, .ref o), (1, .int x1), (2, .int x2), (3, .int x3), (4, .int (x4 + nI 1)), (5, .int v1)] [2, 3, 4, 5, 0, 1] rfl hv
set_option maxHeartbeats 4000000 in
theorem vX12_power_66 {E : gk_E} {dd : Nat} {o : Nat} {x1 : Int32} {x2 : Int32} {x3 : Int32} {x4 : Int32} {x5 : Int32} {x6 : Int32}  {h : gk_H} {K : Int32 → gk_H → Prop} (hv : (∃ fs, h[o]? = some (.inr (11, fs))) ∧ RnI E mX12_powerOf (dd, 0, 0) [.ref o, .int x1, .int x6] h (fun v1 h1 => (∃ fs, h1[o]? = some (.inr (11, fs))) ∧ RnI E mX12_powerOf (dd, 0, 0) [.ref o, .int x1, .int (x6 + x4)] h1 (fun v2 h2 => (v1 = v2 → (¬ x2 = 0 → K x4 h2) ∧ (x2 = 0 → K x6 h2)) ∧ (¬ v1 = v2 → pX12_power_66 E dd o x1 x2 x3 x4 x5 (x6 + nI 1) h2 K)))) : pX12_power_66 E dd o x1 x2 x3 x4 x5 x6 h K := by
  show gk_G E mX12_power (dd + 1, 0, 0) 66 [(0, .ref o), (1, .int x1), (2, .int x2), (3, .int x3), (4, .int x4), (5, .int x5), (6, .int x6)] [] h (fun o h1 => ∃ v, o = some (.int v) ∧ K v h1)
  refine gk_aload_n (pc := 66) (DX12_power_0.at 38 rfl) 0 rfl rfl ?_
  refine gk_iload_n (pc := 67) (DX12_power_0.at 39 rfl) 1 rfl rfl ?_
  refine gk_iload (pc := 68) (DX12_power_0.at 40 rfl) 6 rfl ?_
  obtain ⟨⟨fs1, q1⟩, hv⟩ := hv
  refine gk_vV (pc := 70) [.int x1, .int x6] [] (DX12_power_0.at 41 rfl) cvX12_117 q1 rfl rfl (Nat.le_of_ble_eq_true rfl) (Nat.le_of_ble_eq_true rfl) (gk_Run.post (fun o h1 z => ?_) hv)
  obtain ⟨v1, rfl, hv⟩ := z
  refine gk_aload_n (pc := 73) (DX12_power_0.at 42 rfl) 0 rfl rfl ?_
  refine gk_iload_n (pc := 74) (DX12_power_0.at 43 rfl) 1 rfl rfl ?_
  refine gk_iload (pc := 75) (DX12_power_0.at 44 rfl) 6 rfl ?_
  refine gk_iload (pc := 77) (DX12_power_0.at 45 rfl) 4 rfl ?_
  refine gk_iadd (pc := 79) (DX12_power_0.at 46 rfl) ?_
  obtain ⟨⟨fs2, q2⟩, hv⟩ := hv
  refine gk_vV (pc := 80) [.int x1, .int (x6 + x4)] [.int v1] (DX12_power_0.at 47 rfl) cvX12_117 q2 rfl rfl (Nat.le_of_ble_eq_true rfl) (Nat.le_of_ble_eq_true rfl) (gk_Run.post (fun o h2 z => ?_) hv)
  obtain ⟨v2, rfl, hv⟩ := z
  refine gk_icmp_eq (pc := 83) 92 (DX12_power_0.at 48 rfl) (by decide) (fun c => ?_) (fun c => ?_)
  · replace hv := hv.1 c
    refine gk_iload_n (pc := 92) (DX12_power_0.at 51 rfl) 2 rfl rfl ?_
    refine gk_if_ne (pc := 93) 101 (DX12_power_0.at 52 rfl) (by decide) (fun c => ?_) (fun c => ?_)
    · replace hv := hv.1 c
      refine gk_iload (pc := 101) (DX12_power_0.at 55 rfl) 4 rfl ?_
      exact gk_ireturn (pc := 103) .int (DX12_power_0.at 56 rfl) rfl rfl ⟨_, rfl, hv⟩
    · replace hv := hv.2 c
      refine gk_iload (pc := 96) (DX12_power_0.at 53 rfl) 6 rfl ?_
      refine gk_goto (pc := 98) 103 (DX12_power_0.at 54 rfl) (by decide) ?_
      exact gk_ireturn (pc := 103) .int (DX12_power_0.at 56 rfl) rfl rfl ⟨_, rfl, hv⟩
  · replace hv := hv.2 c
    refine gk_iinc (pc := 86) (x6 + nI 1) [(6, .int (x6 + nI 1)), (0, .ref o), (1, .int x1), (2, .int x2), (3, .int x3), (4, .int x4), (5, .int x5)] 6 (DX12_power_0.at 49 rfl) rfl (by rw [ci_1]) (Nat.le_of_ble_eq_true rfl) rfl ?_
    refine gk_goto (pc := 89) 66 (DX12_power_0.at 50 rfl) (by decide) ?_
    exact gk_pick (pc := 66) [(0, .ref o), (1, .int x1), (2, .int x2), (3, .int x3), (4, .int x4), (5, .int x5), (6, .int (x6 + nI 1))] [1, 2, 3, 4, 5, 6, 0] rfl hv
abbrev pX12_powerOf_5 (E : gk_E) (dd : Nat) (o : Nat) (x1 : Int32) (x2 : Int32) (x3 : Int32) (x4 : Int32) (h : gk_H) (K : Int32 → gk_H → Prop) : Prop := gk_G E mX12_powerOf (dd + 1, 0, 0) 5 [(0, .ref o), (1, .int x1), (2, .int x2), (3, .int x3), (4, .int x4)] [] h (fun o h1 => ∃ v, o = some (.int v) ∧ K v h1)
set_option maxHeartbeats 4000000 in
theorem vX12_powerOf_0 {E : gk_E} {dd : Nat} {o : Nat} {x1 : Int32} {x2 : Int32}  {h : gk_H} {K : Int32 → gk_H → Prop} (hv : pX12_powerOf_5 E dd o x1 x2 x1 (nI 0) h K) : RnI E mX12_powerOf (dd + 1, 0, 0) [.ref o, .int x1, .int x2] h K := by
  show gk_G E mX12_powerOf (dd + 1, 0, 0) 0 [(0, .ref o), (1, .int x1), (2, .int x2)] [] h (fun o h1 => ∃ v, o = some (.int v) ∧ K v h1)
  refine gk_iload_n (pc := 0) (DX12_powerOf_0.at 0 rfl) 1 rfl rfl ?_
  refine gk_istore_n (pc := 1) [(3, .int x1), (0, .ref o), (1, .int x1), (2, .int x2)] (DX12_powerOf_0.at 1 rfl) rfl (Nat.le_of_ble_eq_true rfl) rfl ?_
  refine gk_iconst (pc := 2) (nI 0) (DX12_powerOf_0.at 2 rfl) ci_0 ?_
  refine gk_istore (pc := 3) [(4, .int (nI 0)), (3, .int x1), (0, .ref o), (1, .int x1), (2, .int x2)] (DX12_powerOf_0.at 3 rfl) (Nat.le_of_ble_eq_true rfl) rfl ?_
  exact gk_pick (pc := 5) [(0, .ref o), (1, .int x1), (2, .int x2), (3, .int x1), (4, .int (nI 0))] [2, 3, 4, 1, 0] rfl hv
set_option maxHeartbeats 4000000 in
theorem vX12_powerOf_5 {E : gk_E} {dd : Nat} {o : Nat} {x1 : Int32} {x2 : Int32} {x3 : Int32} {x4 : Int32}  {h : gk_H} {K : Int32 → gk_H → Prop} (hv : (x2 ≤ x4 → K x3 h) ∧ (¬ x2 ≤ x4 → (∃ fs, h[o]? = some (.inr (11, fs))) ∧ RnI E mX12_composed (dd, 0, 0) [.ref o, .int x3, .int x1] h (fun v1 h1 => pX12_powerOf_5 E dd o x1 x2 v1 (x4 + nI 1) h1 K))) : pX12_powerOf_5 E dd o x1 x2 x3 x4 h K := by
  show gk_G E mX12_powerOf (dd + 1, 0, 0) 5 [(0, .ref o), (1, .int x1), (2, .int x2), (3, .int x3), (4, .int x4)] [] h (fun o h1 => ∃ v, o = some (.int v) ∧ K v h1)
  refine gk_iload (pc := 5) (DX12_powerOf_0.at 4 rfl) 4 rfl ?_
  refine gk_iload_n (pc := 7) (DX12_powerOf_0.at 5 rfl) 2 rfl rfl ?_
  refine gk_icmp_ge (pc := 8) 24 (DX12_powerOf_0.at 6 rfl) (by decide) (fun c => ?_) (fun c => ?_)
  · replace hv := hv.1 c
    refine gk_iload_n (pc := 24) (DX12_powerOf_0.at 14 rfl) 3 rfl rfl ?_
    exact gk_ireturn (pc := 25) .int (DX12_powerOf_0.at 15 rfl) rfl rfl ⟨_, rfl, hv⟩
  · replace hv := hv.2 c
    refine gk_aload_n (pc := 11) (DX12_powerOf_0.at 7 rfl) 0 rfl rfl ?_
    refine gk_iload_n (pc := 12) (DX12_powerOf_0.at 8 rfl) 3 rfl rfl ?_
    refine gk_iload_n (pc := 13) (DX12_powerOf_0.at 9 rfl) 1 rfl rfl ?_
    obtain ⟨⟨fs1, q1⟩, hv⟩ := hv
    refine gk_vV (pc := 14) [.int x3, .int x1] [] (DX12_powerOf_0.at 10 rfl) cvX12_109 q1 rfl rfl (Nat.le_of_ble_eq_true rfl) (Nat.le_of_ble_eq_true rfl) (gk_Run.post (fun o h1 z => ?_) hv)
    obtain ⟨v1, rfl, hv⟩ := z
    refine gk_istore_n (pc := 17) [(3, .int v1), (0, .ref o), (1, .int x1), (2, .int x2), (4, .int x4)] (DX12_powerOf_0.at 11 rfl) rfl (Nat.le_of_ble_eq_true rfl) rfl ?_
    refine gk_iinc (pc := 18) (x4 + nI 1) [(4, .int (x4 + nI 1)), (3, .int v1), (0, .ref o), (1, .int x1), (2, .int x2)] 4 (DX12_powerOf_0.at 12 rfl) rfl (by rw [ci_1]) (Nat.le_of_ble_eq_true rfl) rfl ?_
    refine gk_goto (pc := 21) 5 (DX12_powerOf_0.at 13 rfl) (by decide) ?_
    exact gk_pick (pc := 5) [(0, .ref o), (1, .int x1), (2, .int x2), (3, .int v1), (4, .int (x4 + nI 1))] [2, 3, 4, 1, 0] rfl hv
set_option maxHeartbeats 4000000 in
theorem vX12_put_0 {E : gk_E} {dd : Nat} {o : Nat} {x1 : Int32} {x2 : Int32} {x3 : Int64}  {h : gk_H} {K : Int32 → gk_H → Prop} (hv : RnI E mX12_isList (dd, 0, 0) [.int x1] h (fun v1 h1 => (¬ v1 = 0 → LdR h1 o 11 15 fun v2 => AlI h1 v2 x1 fun v3 => (¬ v3 = ((-1)) → LdR h1 o 11 15 fun v4 => AlI h1 v4 x1 fun v5 => RnI E mX12_isFrom (dd, 0, 0) [.long x2.toInt64, .long (lN 0), .long ((v5 - (nI 1)).toInt64)] h1 (fun v6 h6 => (¬ v6 = 0 → LdR h6 o 11 16 fun v7 => AsL h6 v7 (((nI 12) * x1) + x2) x3 fun h8 => K (nI 1) h8) ∧ (v6 = 0 → K ((-13)) h6))) ∧ (v3 = ((-1)) → K ((-11)) h1)) ∧ (v1 = 0 → K ((-1)) h1))) : RnI E mX12_put (dd + 1, 0, 0) [.ref o, .int x1, .int x2, .long x3] h K := by
  show gk_G E mX12_put (dd + 1, 0, 0) 0 [(0, .ref o), (1, .int x1), (2, .int x2), (3, .long x3)] [] h (fun o h1 => ∃ v, o = some (.int v) ∧ K v h1)
  refine gk_iload_n (pc := 0) (DX12_put_0.at 0 rfl) 1 rfl rfl ?_
  refine gk_vS (pc := 1) [.int x1] [] (DX12_put_0.at 1 rfl) csX12_241 rfl rfl (Nat.le_of_ble_eq_true rfl) (Nat.le_of_ble_eq_true rfl) (gk_Run.post (fun o h1 z => ?_) hv)
  obtain ⟨v1, rfl, hv⟩ := z
  refine gk_if_ne (pc := 4) 9 (DX12_put_0.at 2 rfl) (by decide) (fun c => ?_) (fun c => ?_)
  · replace hv := hv.1 c
    refine gk_aload_n (pc := 9) (DX12_put_0.at 5 rfl) 0 rfl rfl ?_
    obtain ⟨fs2, v2, q2, r2, hv⟩ := hv
    refine gk_get (pc := 10) (.ref v2) (DX12_put_0.at 6 rfl) fX12_35_11 q2 r2 ?_
    refine gk_iload_n (pc := 13) (DX12_put_0.at 7 rfl) 1 rfl rfl ?_
    obtain ⟨n3, f3, q3, r3, hv⟩ := hv
    refine gk_iald (pc := 14) (DX12_put_0.at 8 rfl) q3 r3 ?_
    generalize f3 _ = v3 at hv ⊢
    refine gk_iconst (pc := 15) ((-1)) (DX12_put_0.at 9 rfl) ci_m1 ?_
    refine gk_icmp_ne (pc := 16) 22 (DX12_put_0.at 10 rfl) (by decide) (fun c => ?_) (fun c => ?_)
    · replace hv := hv.1 c
      refine gk_iload_n (pc := 22) (DX12_put_0.at 13 rfl) 2 rfl rfl ?_
      refine gk_i2l (pc := 23) (DX12_put_0.at 14 rfl) ?_
      refine gk_lconst (pc := 24) (lN 0) (DX12_put_0.at 15 rfl) rfl ?_
      refine gk_aload_n (pc := 25) (DX12_put_0.at 16 rfl) 0 rfl rfl ?_
      obtain ⟨fs4, v4, q4, r4, hv⟩ := hv
      refine gk_get (pc := 26) (.ref v4) (DX12_put_0.at 17 rfl) fX12_35_11 q4 r4 ?_
      refine gk_iload_n (pc := 29) (DX12_put_0.at 18 rfl) 1 rfl rfl ?_
      obtain ⟨n5, f5, q5, r5, hv⟩ := hv
      refine gk_iald (pc := 30) (DX12_put_0.at 19 rfl) q5 r5 ?_
      generalize f5 _ = v5 at hv ⊢
      refine gk_iconst (pc := 31) (nI 1) (DX12_put_0.at 20 rfl) ci_1 ?_
      refine gk_isub (pc := 32) (DX12_put_0.at 21 rfl) ?_
      refine gk_i2l (pc := 33) (DX12_put_0.at 22 rfl) ?_
      refine gk_vS (pc := 34) [.long x2.toInt64, .long (lN 0), .long ((v5 - (nI 1)).toInt64)] [] (DX12_put_0.at 23 rfl) csX12_70 rfl rfl (Nat.le_of_ble_eq_true rfl) (Nat.le_of_ble_eq_true rfl) (gk_Run.post (fun o h6 z => ?_) hv)
      obtain ⟨v6, rfl, hv⟩ := z
      refine gk_if_ne (pc := 37) 43 (DX12_put_0.at 24 rfl) (by decide) (fun c => ?_) (fun c => ?_)
      · replace hv := hv.1 c
        refine gk_aload_n (pc := 43) (DX12_put_0.at 27 rfl) 0 rfl rfl ?_
        obtain ⟨fs7, v7, q7, r7, hv⟩ := hv
        refine gk_get (pc := 44) (.ref v7) (DX12_put_0.at 28 rfl) fX12_38_11 q7 r7 ?_
        refine gk_bipush (pc := 47) (nI 12) (DX12_put_0.at 29 rfl) cb_12 ?_
        refine gk_iload_n (pc := 49) (DX12_put_0.at 30 rfl) 1 rfl rfl ?_
        refine gk_imul (pc := 50) (DX12_put_0.at 31 rfl) ?_
        refine gk_iload_n (pc := 51) (DX12_put_0.at 32 rfl) 2 rfl rfl ?_
        refine gk_iadd (pc := 52) (DX12_put_0.at 33 rfl) ?_
        refine gk_lload_n (pc := 53) (DX12_put_0.at 34 rfl) 3 rfl rfl ?_
        obtain ⟨n8, f8, q8, r8, hv⟩ := hv
        refine gk_last (pc := 54) (DX12_put_0.at 35 rfl) q8 r8 ?_
        generalize h6.set _ _ = h8 at hv ⊢
        refine gk_iconst (pc := 55) (nI 1) (DX12_put_0.at 36 rfl) ci_1 ?_
        exact gk_ireturn (pc := 56) .int (DX12_put_0.at 37 rfl) rfl rfl ⟨_, rfl, hv⟩
      · replace hv := hv.2 c
        refine gk_bipush (pc := 40) ((-13)) (DX12_put_0.at 25 rfl) cb_m13 ?_
        exact gk_ireturn (pc := 42) .int (DX12_put_0.at 26 rfl) rfl rfl ⟨_, rfl, hv⟩
    · replace hv := hv.2 c
      refine gk_bipush (pc := 19) ((-11)) (DX12_put_0.at 11 rfl) cb_m11 ?_
      exact gk_ireturn (pc := 21) .int (DX12_put_0.at 12 rfl) rfl rfl ⟨_, rfl, hv⟩
  · replace hv := hv.2 c
    refine gk_iconst (pc := 7) ((-1)) (DX12_put_0.at 3 rfl) ci_m1 ?_
    exact gk_ireturn (pc := 8) .int (DX12_put_0.at 4 rfl) rfl rfl ⟨_, rfl, hv⟩
abbrev pX12_read_20 (E : gk_E) (dd : Nat) (o : Nat) (x1 : Int32) (h : gk_H) (K : Int32 → gk_H → Prop) : Prop := gk_G E mX12_read (dd + 1, 0, 0) 20 [(0, .ref o), (1, .int x1)] [] h (fun o h1 => ∃ v, o = some (.int v) ∧ K v h1)
abbrev pX12_read_96 (E : gk_E) (dd : Nat) (o : Nat) (x1 : Int32) (x2 : Int32) (h : gk_H) (K : Int32 → gk_H → Prop) : Prop := gk_G E mX12_read (dd + 1, 0, 0) 96 [(0, .ref o), (1, .int x1), (2, .int x2)] [] h (fun o h1 => ∃ v, o = some (.int v) ∧ K v h1)
set_option maxHeartbeats 4000000 in
theorem vX12_read_0 {E : gk_E} {dd : Nat} {o : Nat}  {h : gk_H} {K : Int32 → gk_H → Prop} (hv : LdI h o 11 20 fun v1 => StI h o 11 21 v1 fun h2 => StI h2 o 11 20 (nI 0) fun h3 => StI h3 o 11 22 (nI 0) fun h4 => pX12_read_20 E dd o (nI 1) h4 K) : RnI E mX12_read (dd + 1, 0, 0) [.ref o] h K := by
  show gk_G E mX12_read (dd + 1, 0, 0) 0 [(0, .ref o)] [] h (fun o h1 => ∃ v, o = some (.int v) ∧ K v h1)
  refine gk_aload_n (pc := 0) (DX12_read_0.at 0 rfl) 0 rfl rfl ?_
  refine gk_aload_n (pc := 1) (DX12_read_0.at 1 rfl) 0 rfl rfl ?_
  obtain ⟨fs1, v1, q1, r1, hv⟩ := hv
  refine gk_get (pc := 2) (.int v1) (DX12_read_0.at 2 rfl) fX12_261_11 q1 r1 ?_
  obtain ⟨fs2, q2, r2, hv⟩ := hv
  refine gk_put (pc := 5) (DX12_read_0.at 3 rfl) fX12_267_11w q2 r2 rfl rfl ?_
  generalize h.set _ _ = h2 at hv ⊢
  refine gk_aload_n (pc := 8) (DX12_read_0.at 4 rfl) 0 rfl rfl ?_
  refine gk_iconst (pc := 9) (nI 0) (DX12_read_0.at 5 rfl) ci_0 ?_
  obtain ⟨fs3, q3, r3, hv⟩ := hv
  refine gk_put (pc := 10) (DX12_read_0.at 6 rfl) fX12_261_11w q3 r3 rfl rfl ?_
  generalize h2.set _ _ = h3 at hv ⊢
  refine gk_aload_n (pc := 13) (DX12_read_0.at 7 rfl) 0 rfl rfl ?_
  refine gk_iconst (pc := 14) (nI 0) (DX12_read_0.at 8 rfl) ci_0 ?_
  obtain ⟨fs4, q4, r4, hv⟩ := hv
  refine gk_put (pc := 15) (DX12_read_0.at 9 rfl) fX12_264_11w q4 r4 rfl rfl ?_
  generalize h3.set _ _ = h4 at hv ⊢
  refine gk_iconst (pc := 18) (nI 1) (DX12_read_0.at 10 rfl) ci_1 ?_
  refine gk_istore_n (pc := 19) [(1, .int (nI 1)), (0, .ref o)] (DX12_read_0.at 11 rfl) rfl (Nat.le_of_ble_eq_true rfl) rfl ?_
  exact gk_pick (pc := 20) [(0, .ref o), (1, .int (nI 1))] [1, 0] rfl hv
set_option maxHeartbeats 4000000 in
theorem vX12_read_20 {E : gk_E} {dd : Nat} {o : Nat} {x1 : Int32}  {h : gk_H} {K : Int32 → gk_H → Prop} (hv : (x1 = 0 → LdI h o 11 22 fun v1 => LdI h o 11 21 fun v2 => (v2 ≤ v1 → StI h o 11 22 (nI 0) fun h3 => pX12_read_96 E dd o x1 (nI 0) h3 K) ∧ (¬ v2 ≤ v1 → LdI h o 11 22 fun v4 => K (((-100)) - v4) h)) ∧ (¬ x1 = 0 → (∃ fs, h[o]? = some (.inr (11, fs))) ∧ RnI E mX12_statement (dd, 0, 0) [.ref o] h (fun v5 h5 => (¬ v5 = ((-1)) → (∃ fs, h5[o]? = some (.inr (11, fs))) ∧ RnI E mX12_isAt (dd, 0, 0) [.ref o, .int (nI 59), .int (nI 59)] h5 (fun v6 h6 => LdI h6 o 11 22 fun v7 => (v6 = 0 → StI h6 o 11 22 (v7 + (nI 0)) fun h8 => pX12_read_20 E dd o v6 h8 K) ∧ (¬ v6 = 0 → StI h6 o 11 22 (v7 + (nI 1)) fun h9 => pX12_read_20 E dd o v6 h9 K))) ∧ (v5 = ((-1)) → LdI h5 o 11 22 fun v10 => K (((-100)) - v10) h5)))) : pX12_read_20 E dd o x1 h K := by
  show gk_G E mX12_read (dd + 1, 0, 0) 20 [(0, .ref o), (1, .int x1)] [] h (fun o h1 => ∃ v, o = some (.int v) ∧ K v h1)
  refine gk_iload_n (pc := 20) (DX12_read_0.at 12 rfl) 1 rfl rfl ?_
  refine gk_if_eq (pc := 21) 70 (DX12_read_0.at 13 rfl) (by decide) (fun c => ?_) (fun c => ?_)
  · replace hv := hv.1 c
    refine gk_aload_n (pc := 70) (DX12_read_0.at 39 rfl) 0 rfl rfl ?_
    obtain ⟨fs1, v1, q1, r1, hv⟩ := hv
    refine gk_get (pc := 71) (.int v1) (DX12_read_0.at 40 rfl) fX12_264_11 q1 r1 ?_
    refine gk_aload_n (pc := 74) (DX12_read_0.at 41 rfl) 0 rfl rfl ?_
    obtain ⟨fs2, v2, q2, r2, hv⟩ := hv
    refine gk_get (pc := 75) (.int v2) (DX12_read_0.at 42 rfl) fX12_267_11 q2 r2 ?_
    refine gk_icmp_ge (pc := 78) 89 (DX12_read_0.at 43 rfl) (by decide) (fun c => ?_) (fun c => ?_)
    · replace hv := hv.1 c
      refine gk_aload_n (pc := 89) (DX12_read_0.at 49 rfl) 0 rfl rfl ?_
      refine gk_iconst (pc := 90) (nI 0) (DX12_read_0.at 50 rfl) ci_0 ?_
      obtain ⟨fs3, q3, r3, hv⟩ := hv
      refine gk_put (pc := 91) (DX12_read_0.at 51 rfl) fX12_264_11w q3 r3 rfl rfl ?_
      generalize h.set _ _ = h3 at hv ⊢
      refine gk_iconst (pc := 94) (nI 0) (DX12_read_0.at 52 rfl) ci_0 ?_
      refine gk_istore_n (pc := 95) [(2, .int (nI 0)), (0, .ref o), (1, .int x1)] (DX12_read_0.at 53 rfl) rfl (Nat.le_of_ble_eq_true rfl) rfl ?_
      exact gk_pick (pc := 96) [(0, .ref o), (1, .int x1), (2, .int (nI 0))] [1, 2, 0] rfl hv
    · replace hv := hv.2 c
      refine gk_bipush (pc := 81) ((-100)) (DX12_read_0.at 44 rfl) cb_m100 ?_
      refine gk_aload_n (pc := 83) (DX12_read_0.at 45 rfl) 0 rfl rfl ?_
      obtain ⟨fs4, v4, q4, r4, hv⟩ := hv
      refine gk_get (pc := 84) (.int v4) (DX12_read_0.at 46 rfl) fX12_264_11 q4 r4 ?_
      refine gk_isub (pc := 87) (DX12_read_0.at 47 rfl) ?_
      exact gk_ireturn (pc := 88) .int (DX12_read_0.at 48 rfl) rfl rfl ⟨_, rfl, hv⟩
  · replace hv := hv.2 c
    refine gk_aload_n (pc := 24) (DX12_read_0.at 14 rfl) 0 rfl rfl ?_
    obtain ⟨⟨fs5, q5⟩, hv⟩ := hv
    refine gk_vV (pc := 25) [] [] (DX12_read_0.at 15 rfl) cvX12_284 q5 rfl rfl (Nat.le_of_ble_eq_true rfl) (Nat.le_of_ble_eq_true rfl) (gk_Run.post (fun o h5 z => ?_) hv)
    obtain ⟨v5, rfl, hv⟩ := z
    refine gk_iconst (pc := 28) ((-1)) (DX12_read_0.at 16 rfl) ci_m1 ?_
    refine gk_icmp_ne (pc := 29) 40 (DX12_read_0.at 17 rfl) (by decide) (fun c => ?_) (fun c => ?_)
    · replace hv := hv.1 c
      refine gk_aload_n (pc := 40) (DX12_read_0.at 23 rfl) 0 rfl rfl ?_
      refine gk_bipush (pc := 41) (nI 59) (DX12_read_0.at 24 rfl) cb_59 ?_
      refine gk_bipush (pc := 43) (nI 59) (DX12_read_0.at 25 rfl) cb_59 ?_
      obtain ⟨⟨fs6, q6⟩, hv⟩ := hv
      refine gk_vV (pc := 45) [.int (nI 59), .int (nI 59)] [] (DX12_read_0.at 26 rfl) cvX12_270 q6 rfl rfl (Nat.le_of_ble_eq_true rfl) (Nat.le_of_ble_eq_true rfl) (gk_Run.post (fun o h6 z => ?_) hv)
      obtain ⟨v6, rfl, hv⟩ := z
      refine gk_istore_n (pc := 48) [(1, .int v6), (0, .ref o)] (DX12_read_0.at 27 rfl) rfl (Nat.le_of_ble_eq_true rfl) rfl ?_
      refine gk_aload_n (pc := 49) (DX12_read_0.at 28 rfl) 1 rfl rfl ?_
      refine gk_dup (pc := 50) (DX12_read_0.at 29 rfl) rfl ?_
      obtain ⟨fs7, v7, q7, r7, hv⟩ := hv
      refine gk_get (pc := 51) (.int v7) (DX12_read_0.at 30 rfl) fX12_264_11 q7 r7 ?_
      refine gk_iload_n (pc := 54) (DX12_read_0.at 31 rfl) 0 rfl rfl ?_
      refine gk_if_eq (pc := 55) 62 (DX12_read_0.at 32 rfl) (by decide) (fun c => ?_) (fun c => ?_)
      · replace hv := hv.1 c
        refine gk_iconst (pc := 62) (nI 0) (DX12_read_0.at 35 rfl) ci_0 ?_
        refine gk_iadd (pc := 63) (DX12_read_0.at 36 rfl) ?_
        obtain ⟨fs8, q8, r8, hv⟩ := hv
        refine gk_put (pc := 64) (DX12_read_0.at 37 rfl) fX12_264_11w q8 r8 rfl rfl ?_
        generalize h6.set _ _ = h8 at hv ⊢
        refine gk_goto (pc := 67) 20 (DX12_read_0.at 38 rfl) (by decide) ?_
        exact gk_pick (pc := 20) [(0, .ref o), (1, .int v6)] [1, 0] rfl hv
      · replace hv := hv.2 c
        refine gk_iconst (pc := 58) (nI 1) (DX12_read_0.at 33 rfl) ci_1 ?_
        refine gk_goto (pc := 59) 63 (DX12_read_0.at 34 rfl) (by decide) ?_
        refine gk_iadd (pc := 63) (DX12_read_0.at 36 rfl) ?_
        obtain ⟨fs9, q9, r9, hv⟩ := hv
        refine gk_put (pc := 64) (DX12_read_0.at 37 rfl) fX12_264_11w q9 r9 rfl rfl ?_
        generalize h6.set _ _ = h9 at hv ⊢
        refine gk_goto (pc := 67) 20 (DX12_read_0.at 38 rfl) (by decide) ?_
        exact gk_pick (pc := 20) [(0, .ref o), (1, .int v6)] [1, 0] rfl hv
    · replace hv := hv.2 c
      refine gk_bipush (pc := 32) ((-100)) (DX12_read_0.at 18 rfl) cb_m100 ?_
      refine gk_aload_n (pc := 34) (DX12_read_0.at 19 rfl) 0 rfl rfl ?_
      obtain ⟨fs10, v10, q10, r10, hv⟩ := hv
      refine gk_get (pc := 35) (.int v10) (DX12_read_0.at 20 rfl) fX12_264_11 q10 r10 ?_
      refine gk_isub (pc := 38) (DX12_read_0.at 21 rfl) ?_
      exact gk_ireturn (pc := 39) .int (DX12_read_0.at 22 rfl) rfl rfl ⟨_, rfl, hv⟩
set_option maxHeartbeats 4000000 in
theorem vX12_read_96 {E : gk_E} {dd : Nat} {o : Nat} {x1 : Int32} {x2 : Int32}  {h : gk_H} {K : Int32 → gk_H → Prop} (hv : LdI h o 11 22 fun v1 => LdI h o 11 21 fun v2 => (v2 ≤ v1 → K x2 h) ∧ (¬ v2 ≤ v1 → (∃ fs, h[o]? = some (.inr (11, fs))) ∧ RnI E mX12_statement (dd, 0, 0) [.ref o] h (fun v3 h3 => (∃ fs, h3[o]? = some (.inr (11, fs))) ∧ RnI E mX12_isDone (dd, 0, 0) [.ref o, .int v3] h3 (fun v4 h4 => (¬ v4 = 0 → LdI h4 o 11 22 fun v5 => StI h4 o 11 22 (v5 + (nI 1)) fun h6 => pX12_read_96 E dd o x1 (x2 + nI 1) h6 K) ∧ (v4 = 0 → K (((-300)) - x2) h4))))) : pX12_read_96 E dd o x1 x2 h K := by
  show gk_G E mX12_read (dd + 1, 0, 0) 96 [(0, .ref o), (1, .int x1), (2, .int x2)] [] h (fun o h1 => ∃ v, o = some (.int v) ∧ K v h1)
  refine gk_aload_n (pc := 96) (DX12_read_0.at 54 rfl) 0 rfl rfl ?_
  obtain ⟨fs1, v1, q1, r1, hv⟩ := hv
  refine gk_get (pc := 97) (.int v1) (DX12_read_0.at 55 rfl) fX12_264_11 q1 r1 ?_
  refine gk_aload_n (pc := 100) (DX12_read_0.at 56 rfl) 0 rfl rfl ?_
  obtain ⟨fs2, v2, q2, r2, hv⟩ := hv
  refine gk_get (pc := 101) (.int v2) (DX12_read_0.at 57 rfl) fX12_267_11 q2 r2 ?_
  refine gk_icmp_ge (pc := 104) 140 (DX12_read_0.at 58 rfl) (by decide) (fun c => ?_) (fun c => ?_)
  · replace hv := hv.1 c
    refine gk_iload_n (pc := 140) (DX12_read_1.at 16 rfl) 2 rfl rfl ?_
    exact gk_ireturn (pc := 141) .int (DX12_read_1.at 17 rfl) rfl rfl ⟨_, rfl, hv⟩
  · replace hv := hv.2 c
    refine gk_aload_n (pc := 107) (DX12_read_0.at 59 rfl) 0 rfl rfl ?_
    refine gk_aload_n (pc := 108) (DX12_read_1.at 0 rfl) 0 rfl rfl ?_
    obtain ⟨⟨fs3, q3⟩, hv⟩ := hv
    refine gk_vV (pc := 109) [] [.ref o] (DX12_read_1.at 1 rfl) cvX12_284 q3 rfl rfl (Nat.le_of_ble_eq_true rfl) (Nat.le_of_ble_eq_true rfl) (gk_Run.post (fun o h3 z => ?_) hv)
    obtain ⟨v3, rfl, hv⟩ := z
    obtain ⟨⟨fs4, q4⟩, hv⟩ := hv
    refine gk_vV (pc := 112) [.int v3] [] (DX12_read_1.at 2 rfl) cvX12_287 q4 rfl rfl (Nat.le_of_ble_eq_true rfl) (Nat.le_of_ble_eq_true rfl) (gk_Run.post (fun o h4 z => ?_) hv)
    obtain ⟨v4, rfl, hv⟩ := z
    refine gk_if_ne (pc := 115) 124 (DX12_read_1.at 3 rfl) (by decide) (fun c => ?_) (fun c => ?_)
    · replace hv := hv.1 c
      refine gk_iinc (pc := 124) (x2 + nI 1) [(2, .int (x2 + nI 1)), (0, .ref o), (1, .int x1)] 2 (DX12_read_1.at 8 rfl) rfl (by rw [ci_1]) (Nat.le_of_ble_eq_true rfl) rfl ?_
      refine gk_aload_n (pc := 127) (DX12_read_1.at 9 rfl) 1 rfl rfl ?_
      refine gk_dup (pc := 128) (DX12_read_1.at 10 rfl) rfl ?_
      obtain ⟨fs5, v5, q5, r5, hv⟩ := hv
      refine gk_get (pc := 129) (.int v5) (DX12_read_1.at 11 rfl) fX12_264_11 q5 r5 ?_
      refine gk_iconst (pc := 132) (nI 1) (DX12_read_1.at 12 rfl) ci_1 ?_
      refine gk_iadd (pc := 133) (DX12_read_1.at 13 rfl) ?_
      obtain ⟨fs6, q6, r6, hv⟩ := hv
      refine gk_put (pc := 134) (DX12_read_1.at 14 rfl) fX12_264_11w q6 r6 rfl rfl ?_
      generalize h4.set _ _ = h6 at hv ⊢
      refine gk_goto (pc := 137) 96 (DX12_read_1.at 15 rfl) (by decide) ?_
      exact gk_pick (pc := 96) [(0, .ref o), (1, .int x1), (2, .int (x2 + nI 1))] [1, 2, 0] rfl hv
    · replace hv := hv.2 c
      refine gk_sipush (pc := 118) ((-300)) (DX12_read_1.at 4 rfl) cs_m300 ?_
      refine gk_iload_n (pc := 121) (DX12_read_1.at 5 rfl) 2 rfl rfl ?_
      refine gk_isub (pc := 122) (DX12_read_1.at 6 rfl) ?_
      exact gk_ireturn (pc := 123) .int (DX12_read_1.at 7 rfl) rfl rfl ⟨_, rfl, hv⟩
set_option maxHeartbeats 4000000 in
theorem vX12_relabel_0 {E : gk_E} {dd : Nat} {o : Nat} {x1 : Int32} {x2 : Int32} {x3 : Int32} {x4 : Int32}  {h : gk_H} {K : Int32 → gk_H → Prop} (hv : RnI E mX12_isNet (dd, 0, 0) [.int x1] h (fun v1 h1 => (v1 = 0 → K ((-1)) h1) ∧ (¬ v1 = 0 → (∃ fs, h1[o]? = some (.inr (11, fs))) ∧ RnI E mX12_isNode (dd, 0, 0) [.ref o, .int x1, .int x2] h1 (fun v2 h2 => (v2 = 0 → K ((-1)) h2) ∧ (¬ v2 = 0 → (∃ fs, h2[o]? = some (.inr (11, fs))) ∧ RnI E mX12_isNode (dd, 0, 0) [.ref o, .int x1, .int x3] h2 (fun v3 h3 => (v3 = 0 → K ((-1)) h3) ∧ (¬ v3 = 0 → (x2 = x3 → K ((-1)) h3) ∧ (¬ x2 = x3 → (∃ fs, h3[o]? = some (.inr (11, fs))) ∧ RnI E mX12_isOther (dd, 0, 0) [.ref o, .int x4] h3 (fun v4 h4 => (¬ v4 = 0 → (∃ fs, h4[o]? = some (.inr (11, fs))) ∧ RnI E mX12_labelOf (dd, 0, 0) [.ref o, .int x1, .int x2, .int x3] h4 (fun v5 h5 => (∃ fs, h5[o]? = some (.inr (11, fs))) ∧ RnV E mX12_lays (dd, 0, 0) [.ref o, .int x1, .int x2, .int x3, .int x4] h5 (fun h6 => K v5 h6))) ∧ (v4 = 0 → K ((-1)) h4)))))))))) : RnI E mX12_relabel (dd + 1, 0, 0) [.ref o, .int x1, .int x2, .int x3, .int x4] h K := by
  show gk_G E mX12_relabel (dd + 1, 0, 0) 0 [(0, .ref o), (1, .int x1), (2, .int x2), (3, .int x3), (4, .int x4)] [] h (fun o h1 => ∃ v, o = some (.int v) ∧ K v h1)
  refine gk_iload_n (pc := 0) (DX12_relabel_0.at 0 rfl) 1 rfl rfl ?_
  refine gk_vS (pc := 1) [.int x1] [] (DX12_relabel_0.at 1 rfl) csX12_145 rfl rfl (Nat.le_of_ble_eq_true rfl) (Nat.le_of_ble_eq_true rfl) (gk_Run.post (fun o h1 z => ?_) hv)
  obtain ⟨v1, rfl, hv⟩ := z
  refine gk_if_eq (pc := 4) 39 (DX12_relabel_0.at 2 rfl) (by decide) (fun c => ?_) (fun c => ?_)
  · replace hv := hv.1 c
    refine gk_iconst (pc := 39) ((-1)) (DX12_relabel_0.at 20 rfl) ci_m1 ?_
    exact gk_ireturn (pc := 40) .int (DX12_relabel_0.at 21 rfl) rfl rfl ⟨_, rfl, hv⟩
  · replace hv := hv.2 c
    refine gk_aload_n (pc := 7) (DX12_relabel_0.at 3 rfl) 0 rfl rfl ?_
    refine gk_iload_n (pc := 8) (DX12_relabel_0.at 4 rfl) 1 rfl rfl ?_
    refine gk_iload_n (pc := 9) (DX12_relabel_0.at 5 rfl) 2 rfl rfl ?_
    obtain ⟨⟨fs2, q2⟩, hv⟩ := hv
    refine gk_vV (pc := 10) [.int x1, .int x2] [] (DX12_relabel_0.at 6 rfl) cvX12_155 q2 rfl rfl (Nat.le_of_ble_eq_true rfl) (Nat.le_of_ble_eq_true rfl) (gk_Run.post (fun o h2 z => ?_) hv)
    obtain ⟨v2, rfl, hv⟩ := z
    refine gk_if_eq (pc := 13) 39 (DX12_relabel_0.at 7 rfl) (by decide) (fun c => ?_) (fun c => ?_)
    · replace hv := hv.1 c
      refine gk_iconst (pc := 39) ((-1)) (DX12_relabel_0.at 20 rfl) ci_m1 ?_
      exact gk_ireturn (pc := 40) .int (DX12_relabel_0.at 21 rfl) rfl rfl ⟨_, rfl, hv⟩
    · replace hv := hv.2 c
      refine gk_aload_n (pc := 16) (DX12_relabel_0.at 8 rfl) 0 rfl rfl ?_
      refine gk_iload_n (pc := 17) (DX12_relabel_0.at 9 rfl) 1 rfl rfl ?_
      refine gk_iload_n (pc := 18) (DX12_relabel_0.at 10 rfl) 3 rfl rfl ?_
      obtain ⟨⟨fs3, q3⟩, hv⟩ := hv
      refine gk_vV (pc := 19) [.int x1, .int x3] [] (DX12_relabel_0.at 11 rfl) cvX12_155 q3 rfl rfl (Nat.le_of_ble_eq_true rfl) (Nat.le_of_ble_eq_true rfl) (gk_Run.post (fun o h3 z => ?_) hv)
      obtain ⟨v3, rfl, hv⟩ := z
      refine gk_if_eq (pc := 22) 39 (DX12_relabel_0.at 12 rfl) (by decide) (fun c => ?_) (fun c => ?_)
      · replace hv := hv.1 c
        refine gk_iconst (pc := 39) ((-1)) (DX12_relabel_0.at 20 rfl) ci_m1 ?_
        exact gk_ireturn (pc := 40) .int (DX12_relabel_0.at 21 rfl) rfl rfl ⟨_, rfl, hv⟩
      · replace hv := hv.2 c
        refine gk_iload_n (pc := 25) (DX12_relabel_0.at 13 rfl) 2 rfl rfl ?_
        refine gk_iload_n (pc := 26) (DX12_relabel_0.at 14 rfl) 3 rfl rfl ?_
        refine gk_icmp_eq (pc := 27) 39 (DX12_relabel_0.at 15 rfl) (by decide) (fun c => ?_) (fun c => ?_)
        · replace hv := hv.1 c
          refine gk_iconst (pc := 39) ((-1)) (DX12_relabel_0.at 20 rfl) ci_m1 ?_
          exact gk_ireturn (pc := 40) .int (DX12_relabel_0.at 21 rfl) rfl rfl ⟨_, rfl, hv⟩
        · replace hv := hv.2 c
          refine gk_aload_n (pc := 30) (DX12_relabel_0.at 16 rfl) 0 rfl rfl ?_
          refine gk_iload (pc := 31) (DX12_relabel_0.at 17 rfl) 4 rfl ?_
          obtain ⟨⟨fs4, q4⟩, hv⟩ := hv
          refine gk_vV (pc := 33) [.int x4] [] (DX12_relabel_0.at 18 rfl) cvX12_83 q4 rfl rfl (Nat.le_of_ble_eq_true rfl) (Nat.le_of_ble_eq_true rfl) (gk_Run.post (fun o h4 z => ?_) hv)
          obtain ⟨v4, rfl, hv⟩ := z
          refine gk_if_ne (pc := 36) 41 (DX12_relabel_0.at 19 rfl) (by decide) (fun c => ?_) (fun c => ?_)
          · replace hv := hv.1 c
            refine gk_aload_n (pc := 41) (DX12_relabel_0.at 22 rfl) 0 rfl rfl ?_
            refine gk_iload_n (pc := 42) (DX12_relabel_0.at 23 rfl) 1 rfl rfl ?_
            refine gk_iload_n (pc := 43) (DX12_relabel_0.at 24 rfl) 2 rfl rfl ?_
            refine gk_iload_n (pc := 44) (DX12_relabel_0.at 25 rfl) 3 rfl rfl ?_
            obtain ⟨⟨fs5, q5⟩, hv⟩ := hv
            refine gk_vV (pc := 45) [.int x1, .int x2, .int x3] [] (DX12_relabel_0.at 26 rfl) cvX12_158 q5 rfl rfl (Nat.le_of_ble_eq_true rfl) (Nat.le_of_ble_eq_true rfl) (gk_Run.post (fun o h5 z => ?_) hv)
            obtain ⟨v5, rfl, hv⟩ := z
            refine gk_istore (pc := 48) [(5, .int v5), (0, .ref o), (1, .int x1), (2, .int x2), (3, .int x3), (4, .int x4)] (DX12_relabel_0.at 27 rfl) (Nat.le_of_ble_eq_true rfl) rfl ?_
            refine gk_aload_n (pc := 50) (DX12_relabel_0.at 28 rfl) 1 rfl rfl ?_
            refine gk_iload_n (pc := 51) (DX12_relabel_0.at 29 rfl) 2 rfl rfl ?_
            refine gk_iload_n (pc := 52) (DX12_relabel_0.at 30 rfl) 3 rfl rfl ?_
            refine gk_iload_n (pc := 53) (DX12_relabel_0.at 31 rfl) 4 rfl rfl ?_
            refine gk_iload (pc := 54) (DX12_relabel_0.at 32 rfl) 5 rfl ?_
            obtain ⟨⟨fs6, q6⟩, hv⟩ := hv
            refine gk_vV (pc := 56) [.int x1, .int x2, .int x3, .int x4] [] (DX12_relabel_0.at 33 rfl) cvX12_141 q6 rfl rfl (Nat.le_of_ble_eq_true rfl) (Nat.le_of_ble_eq_true rfl) (gk_Run.post (fun o h6 z => ?_) hv)
            obtain ⟨rfl, hv⟩ := z
            refine gk_iload (pc := 59) (DX12_relabel_0.at 34 rfl) 0 rfl ?_
            exact gk_ireturn (pc := 61) .int (DX12_relabel_0.at 35 rfl) rfl rfl ⟨_, rfl, hv⟩
          · replace hv := hv.2 c
            refine gk_iconst (pc := 39) ((-1)) (DX12_relabel_0.at 20 rfl) ci_m1 ?_
            exact gk_ireturn (pc := 40) .int (DX12_relabel_0.at 21 rfl) rfl rfl ⟨_, rfl, hv⟩
abbrev pX12_seeks_56 (E : gk_E) (dd : Nat) (o : Nat) (x1 : Int32) (x2 : Int32) (x3 : Int32) (x4 : Int32) (x5 : Int32) (x6 : Int32) (h : gk_H) (K : Int32 → gk_H → Prop) : Prop := gk_G E mX12_seeks (dd + 1, 0, 0) 56 [(0, .ref o), (1, .int x1), (2, .int x2), (3, .int x3), (4, .int x4), (5, .int x5), (6, .int x6)] [] h (fun o h1 => ∃ v, o = some (.int v) ∧ K v h1)
set_option maxHeartbeats 4000000 in
theorem vX12_seeks_0 {E : gk_E} {dd : Nat} {o : Nat} {x1 : Int32} {x2 : Int32} {x3 : Int32} {x4 : Int32} {x5 : Int32}  {h : gk_H} {K : Int32 → gk_H → Prop} (hv : (0 ≤ x3 → pX12_seeks_56 E dd o x1 x2 x3 x4 x5 (nI 0) h K) ∧ (¬ 0 ≤ x3 → LdI h o 11 10 fun v1 => LdI h o 11 11 fun v2 => (¬ v1 = v2 → LdI h o 11 12 fun v3 => StI h o 11 12 v3 fun h4 => LdI h4 o 11 10 fun v5 => StI h4 o 11 10 (v5 + (nI 1)) fun h6 => LdI h6 o 11 12 fun v7 => (v7 = ((-5)) → K (nI 0) h6) ∧ (¬ v7 = ((-5)) → K (nI 1) h6)) ∧ (v1 = v2 → StI h o 11 12 x5 fun h8 => LdI h8 o 11 10 fun v9 => StI h8 o 11 10 (v9 + (nI 1)) fun h10 => LdI h10 o 11 12 fun v11 => (v11 = ((-5)) → K (nI 0) h10) ∧ (¬ v11 = ((-5)) → K (nI 1) h10)))) : RnI E mX12_seeks (dd + 1, 0, 0) [.ref o, .int x1, .int x2, .int x3, .int x4, .int x5] h K := by
  show gk_G E mX12_seeks (dd + 1, 0, 0) 0 [(0, .ref o), (1, .int x1), (2, .int x2), (3, .int x3), (4, .int x4), (5, .int x5)] [] h (fun o h1 => ∃ v, o = some (.int v) ∧ K v h1)
  refine gk_iload_n (pc := 0) (DX12_seeks_0.at 0 rfl) 3 rfl rfl ?_
  refine gk_if_ge (pc := 1) 53 (DX12_seeks_0.at 1 rfl) (by decide) (fun c => ?_) (fun c => ?_)
  · replace hv := hv.1 c
    refine gk_iconst (pc := 53) (nI 0) (DX12_seeks_0.at 27 rfl) ci_0 ?_
    refine gk_istore (pc := 54) [(6, .int (nI 0)), (0, .ref o), (1, .int x1), (2, .int x2), (3, .int x3), (4, .int x4), (5, .int x5)] (DX12_seeks_0.at 28 rfl) (Nat.le_of_ble_eq_true rfl) rfl ?_
    exact gk_pick (pc := 56) [(0, .ref o), (1, .int x1), (2, .int x2), (3, .int x3), (4, .int x4), (5, .int x5), (6, .int (nI 0))] [1, 2, 3, 4, 5, 6, 0] rfl hv
  · replace hv := hv.2 c
    refine gk_aload_n (pc := 4) (DX12_seeks_0.at 2 rfl) 0 rfl rfl ?_
    refine gk_aload_n (pc := 5) (DX12_seeks_0.at 3 rfl) 0 rfl rfl ?_
    obtain ⟨fs1, v1, q1, r1, hv⟩ := hv
    refine gk_get (pc := 6) (.int v1) (DX12_seeks_0.at 4 rfl) fX12_174_11 q1 r1 ?_
    refine gk_aload_n (pc := 9) (DX12_seeks_0.at 5 rfl) 0 rfl rfl ?_
    obtain ⟨fs2, v2, q2, r2, hv⟩ := hv
    refine gk_get (pc := 10) (.int v2) (DX12_seeks_0.at 6 rfl) fX12_177_11 q2 r2 ?_
    refine gk_icmp_ne (pc := 13) 21 (DX12_seeks_0.at 7 rfl) (by decide) (fun c => ?_) (fun c => ?_)
    · replace hv := hv.1 c
      refine gk_aload_n (pc := 21) (DX12_seeks_0.at 10 rfl) 0 rfl rfl ?_
      obtain ⟨fs3, v3, q3, r3, hv⟩ := hv
      refine gk_get (pc := 22) (.int v3) (DX12_seeks_0.at 11 rfl) fX12_180_11 q3 r3 ?_
      obtain ⟨fs4, q4, r4, hv⟩ := hv
      refine gk_put (pc := 25) (DX12_seeks_0.at 12 rfl) fX12_180_11w q4 r4 rfl rfl ?_
      generalize h.set _ _ = h4 at hv ⊢
      refine gk_aload_n (pc := 28) (DX12_seeks_0.at 13 rfl) 0 rfl rfl ?_
      refine gk_dup (pc := 29) (DX12_seeks_0.at 14 rfl) rfl ?_
      obtain ⟨fs5, v5, q5, r5, hv⟩ := hv
      refine gk_get (pc := 30) (.int v5) (DX12_seeks_0.at 15 rfl) fX12_174_11 q5 r5 ?_
      refine gk_iconst (pc := 33) (nI 1) (DX12_seeks_0.at 16 rfl) ci_1 ?_
      refine gk_iadd (pc := 34) (DX12_seeks_0.at 17 rfl) ?_
      obtain ⟨fs6, q6, r6, hv⟩ := hv
      refine gk_put (pc := 35) (DX12_seeks_0.at 18 rfl) fX12_174_11w q6 r6 rfl rfl ?_
      generalize h4.set _ _ = h6 at hv ⊢
      refine gk_aload_n (pc := 38) (DX12_seeks_0.at 19 rfl) 0 rfl rfl ?_
      obtain ⟨fs7, v7, q7, r7, hv⟩ := hv
      refine gk_get (pc := 39) (.int v7) (DX12_seeks_0.at 20 rfl) fX12_180_11 q7 r7 ?_
      refine gk_bipush (pc := 42) ((-5)) (DX12_seeks_0.at 21 rfl) cb_m5 ?_
      refine gk_icmp_eq (pc := 44) 51 (DX12_seeks_0.at 22 rfl) (by decide) (fun c => ?_) (fun c => ?_)
      · replace hv := hv.1 c
        refine gk_iconst (pc := 51) (nI 0) (DX12_seeks_0.at 25 rfl) ci_0 ?_
        exact gk_ireturn (pc := 52) .boolean (DX12_seeks_0.at 26 rfl) rfl rfl ⟨_, rfl, hv⟩
      · replace hv := hv.2 c
        refine gk_iconst (pc := 47) (nI 1) (DX12_seeks_0.at 23 rfl) ci_1 ?_
        refine gk_goto (pc := 48) 52 (DX12_seeks_0.at 24 rfl) (by decide) ?_
        exact gk_ireturn (pc := 52) .boolean (DX12_seeks_0.at 26 rfl) rfl rfl ⟨_, rfl, hv⟩
    · replace hv := hv.2 c
      refine gk_iload (pc := 16) (DX12_seeks_0.at 8 rfl) 5 rfl ?_
      refine gk_goto (pc := 18) 25 (DX12_seeks_0.at 9 rfl) (by decide) ?_
      obtain ⟨fs8, q8, r8, hv⟩ := hv
      refine gk_put (pc := 25) (DX12_seeks_0.at 12 rfl) fX12_180_11w q8 r8 rfl rfl ?_
      generalize h.set _ _ = h8 at hv ⊢
      refine gk_aload_n (pc := 28) (DX12_seeks_0.at 13 rfl) 0 rfl rfl ?_
      refine gk_dup (pc := 29) (DX12_seeks_0.at 14 rfl) rfl ?_
      obtain ⟨fs9, v9, q9, r9, hv⟩ := hv
      refine gk_get (pc := 30) (.int v9) (DX12_seeks_0.at 15 rfl) fX12_174_11 q9 r9 ?_
      refine gk_iconst (pc := 33) (nI 1) (DX12_seeks_0.at 16 rfl) ci_1 ?_
      refine gk_iadd (pc := 34) (DX12_seeks_0.at 17 rfl) ?_
      obtain ⟨fs10, q10, r10, hv⟩ := hv
      refine gk_put (pc := 35) (DX12_seeks_0.at 18 rfl) fX12_174_11w q10 r10 rfl rfl ?_
      generalize h8.set _ _ = h10 at hv ⊢
      refine gk_aload_n (pc := 38) (DX12_seeks_0.at 19 rfl) 0 rfl rfl ?_
      obtain ⟨fs11, v11, q11, r11, hv⟩ := hv
      refine gk_get (pc := 39) (.int v11) (DX12_seeks_0.at 20 rfl) fX12_180_11 q11 r11 ?_
      refine gk_bipush (pc := 42) ((-5)) (DX12_seeks_0.at 21 rfl) cb_m5 ?_
      refine gk_icmp_eq (pc := 44) 51 (DX12_seeks_0.at 22 rfl) (by decide) (fun c => ?_) (fun c => ?_)
      · replace hv := hv.1 c
        refine gk_iconst (pc := 51) (nI 0) (DX12_seeks_0.at 25 rfl) ci_0 ?_
        exact gk_ireturn (pc := 52) .boolean (DX12_seeks_0.at 26 rfl) rfl rfl ⟨_, rfl, hv⟩
      · replace hv := hv.2 c
        refine gk_iconst (pc := 47) (nI 1) (DX12_seeks_0.at 23 rfl) ci_1 ?_
        refine gk_goto (pc := 48) 52 (DX12_seeks_0.at 24 rfl) (by decide) ?_
        exact gk_ireturn (pc := 52) .boolean (DX12_seeks_0.at 26 rfl) rfl rfl ⟨_, rfl, hv⟩
set_option maxHeartbeats 4000000 in
theorem vX12_seeks_56 {E : gk_E} {dd : Nat} {o : Nat} {x1 : Int32} {x2 : Int32} {x3 : Int32} {x4 : Int32} {x5 : Int32} {x6 : Int32}  {h : gk_H} {K : Int32 → gk_H → Prop} (hv : LdR h o 11 3 fun v1 => AlI h v1 x2 fun v2 => (v2 ≤ x6 → K (nI 0) h) ∧ (¬ v2 ≤ x6 → (∃ fs, h[o]? = some (.inr (11, fs))) ∧ RnI E mX12_isLike (dd, 0, 0) [.ref o, .int x1, .int x2, .int x3, .int x6, .int x5] h (fun v3 h3 => (v3 = 0 → pX12_seeks_56 E dd o x1 x2 x3 x4 x5 (x6 + nI 1) h3 K) ∧ (¬ v3 = 0 → (∃ fs, h3[o]? = some (.inr (11, fs))) ∧ RnI E mX12_seeks (dd, 0, 0) [.ref o, .int x1, .int x2, .int (x3 - (nI 1)), .int (x4 / (nI 10)), .int (x5 + (x4 * (x6 + (nI 1))))] h3 (fun v4 h4 => (v4 = 0 → pX12_seeks_56 E dd o x1 x2 x3 x4 x5 (x6 + nI 1) h4 K) ∧ (¬ v4 = 0 → K (nI 1) h4)))))) : pX12_seeks_56 E dd o x1 x2 x3 x4 x5 x6 h K := by
  show gk_G E mX12_seeks (dd + 1, 0, 0) 56 [(0, .ref o), (1, .int x1), (2, .int x2), (3, .int x3), (4, .int x4), (5, .int x5), (6, .int x6)] [] h (fun o h1 => ∃ v, o = some (.int v) ∧ K v h1)
  refine gk_iload (pc := 56) (DX12_seeks_0.at 29 rfl) 6 rfl ?_
  refine gk_aload_n (pc := 58) (DX12_seeks_0.at 30 rfl) 0 rfl rfl ?_
  obtain ⟨fs1, v1, q1, r1, hv⟩ := hv
  refine gk_get (pc := 59) (.ref v1) (DX12_seeks_0.at 31 rfl) fX12_23_11 q1 r1 ?_
  refine gk_iload_n (pc := 62) (DX12_seeks_0.at 32 rfl) 2 rfl rfl ?_
  obtain ⟨n2, f2, q2, r2, hv⟩ := hv
  refine gk_iald (pc := 63) (DX12_seeks_0.at 33 rfl) q2 r2 ?_
  generalize f2 _ = v2 at hv ⊢
  refine gk_icmp_ge (pc := 64) 116 (DX12_seeks_0.at 34 rfl) (by decide) (fun c => ?_) (fun c => ?_)
  · replace hv := hv.1 c
    refine gk_iconst (pc := 116) (nI 0) (DX12_seeks_1.at 5 rfl) ci_0 ?_
    exact gk_ireturn (pc := 117) .boolean (DX12_seeks_1.at 6 rfl) rfl rfl ⟨_, rfl, hv⟩
  · replace hv := hv.2 c
    refine gk_aload_n (pc := 67) (DX12_seeks_0.at 35 rfl) 0 rfl rfl ?_
    refine gk_iload_n (pc := 68) (DX12_seeks_0.at 36 rfl) 1 rfl rfl ?_
    refine gk_iload_n (pc := 69) (DX12_seeks_0.at 37 rfl) 2 rfl rfl ?_
    refine gk_iload_n (pc := 70) (DX12_seeks_0.at 38 rfl) 3 rfl rfl ?_
    refine gk_iload (pc := 71) (DX12_seeks_0.at 39 rfl) 6 rfl ?_
    refine gk_iload (pc := 73) (DX12_seeks_0.at 40 rfl) 5 rfl ?_
    obtain ⟨⟨fs3, q3⟩, hv⟩ := hv
    refine gk_vV (pc := 75) [.int x1, .int x2, .int x3, .int x6, .int x5] [] (DX12_seeks_0.at 41 rfl) cvX12_183 q3 rfl rfl (Nat.le_of_ble_eq_true rfl) (Nat.le_of_ble_eq_true rfl) (gk_Run.post (fun o h3 z => ?_) hv)
    obtain ⟨v3, rfl, hv⟩ := z
    refine gk_if_eq (pc := 78) 110 (DX12_seeks_0.at 42 rfl) (by decide) (fun c => ?_) (fun c => ?_)
    · replace hv := hv.1 c
      refine gk_iinc (pc := 110) (x6 + nI 1) [(6, .int (x6 + nI 1)), (0, .ref o), (1, .int x1), (2, .int x2), (3, .int x3), (4, .int x4), (5, .int x5)] 6 (DX12_seeks_1.at 3 rfl) rfl (by rw [ci_1]) (Nat.le_of_ble_eq_true rfl) rfl ?_
      refine gk_goto (pc := 113) 56 (DX12_seeks_1.at 4 rfl) (by decide) ?_
      exact gk_pick (pc := 56) [(0, .ref o), (1, .int x1), (2, .int x2), (3, .int x3), (4, .int x4), (5, .int x5), (6, .int (x6 + nI 1))] [1, 2, 3, 4, 5, 6, 0] rfl hv
    · replace hv := hv.2 c
      refine gk_aload_n (pc := 81) (DX12_seeks_0.at 43 rfl) 0 rfl rfl ?_
      refine gk_iload_n (pc := 82) (DX12_seeks_0.at 44 rfl) 1 rfl rfl ?_
      refine gk_iload_n (pc := 83) (DX12_seeks_0.at 45 rfl) 2 rfl rfl ?_
      refine gk_iload_n (pc := 84) (DX12_seeks_0.at 46 rfl) 3 rfl rfl ?_
      refine gk_iconst (pc := 85) (nI 1) (DX12_seeks_0.at 47 rfl) ci_1 ?_
      refine gk_isub (pc := 86) (DX12_seeks_0.at 48 rfl) ?_
      refine gk_iload (pc := 87) (DX12_seeks_0.at 49 rfl) 4 rfl ?_
      refine gk_bipush (pc := 89) (nI 10) (DX12_seeks_0.at 50 rfl) cb_10 ?_
      refine gk_idiv (pc := 91) (DX12_seeks_0.at 51 rfl) (by decide) ?_
      refine gk_iload (pc := 92) (DX12_seeks_0.at 52 rfl) 5 rfl ?_
      refine gk_iload (pc := 94) (DX12_seeks_0.at 53 rfl) 4 rfl ?_
      refine gk_iload (pc := 96) (DX12_seeks_0.at 54 rfl) 6 rfl ?_
      refine gk_iconst (pc := 98) (nI 1) (DX12_seeks_0.at 55 rfl) ci_1 ?_
      refine gk_iadd (pc := 99) (DX12_seeks_0.at 56 rfl) ?_
      refine gk_imul (pc := 100) (DX12_seeks_0.at 57 rfl) ?_
      refine gk_iadd (pc := 101) (DX12_seeks_0.at 58 rfl) ?_
      obtain ⟨⟨fs4, q4⟩, hv⟩ := hv
      refine gk_vV (pc := 102) [.int x1, .int x2, .int (x3 - (nI 1)), .int (x4 / (nI 10)), .int (x5 + (x4 * (x6 + (nI 1))))] [] (DX12_seeks_0.at 59 rfl) cvX12_186 q4 rfl rfl (Nat.le_of_ble_eq_true rfl) (Nat.le_of_ble_eq_true rfl) (gk_Run.post (fun o h4 z => ?_) hv)
      obtain ⟨v4, rfl, hv⟩ := z
      refine gk_if_eq (pc := 105) 110 (DX12_seeks_1.at 0 rfl) (by decide) (fun c => ?_) (fun c => ?_)
      · replace hv := hv.1 c
        refine gk_iinc (pc := 110) (x6 + nI 1) [(6, .int (x6 + nI 1)), (0, .ref o), (1, .int x1), (2, .int x2), (3, .int x3), (4, .int x4), (5, .int x5)] 6 (DX12_seeks_1.at 3 rfl) rfl (by rw [ci_1]) (Nat.le_of_ble_eq_true rfl) rfl ?_
        refine gk_goto (pc := 113) 56 (DX12_seeks_1.at 4 rfl) (by decide) ?_
        exact gk_pick (pc := 56) [(0, .ref o), (1, .int x1), (2, .int x2), (3, .int x3), (4, .int x4), (5, .int x5), (6, .int (x6 + nI 1))] [1, 2, 3, 4, 5, 6, 0] rfl hv
      · replace hv := hv.2 c
        refine gk_iconst (pc := 108) (nI 1) (DX12_seeks_1.at 1 rfl) ci_1 ?_
        exact gk_ireturn (pc := 109) .boolean (DX12_seeks_1.at 2 rfl) rfl rfl ⟨_, rfl, hv⟩
abbrev pX12_solved_57 (E : gk_E) (dd : Nat) (o : Nat) (x1 : Int32) (x2 : Int32) (x3 : Int32) (x4 : Int32) (x5 : Int32) (x6 : Int32) (x7 : Int32) (x8 : Int32) (h : gk_H) (K : Int32 → gk_H → Prop) : Prop := gk_G E mX12_solved (dd + 1, 0, 0) 57 [(0, .ref o), (1, .int x1), (2, .int x2), (3, .int x3), (4, .int x4), (5, .int x5), (6, .int x6), (7, .int x7), (8, .int x8)] [] h (fun o h1 => ∃ v, o = some (.int v) ∧ K v h1)
set_option maxHeartbeats 4000000 in
theorem vX12_solved_0 {E : gk_E} {dd : Nat} {o : Nat} {x1 : Int32} {x2 : Int32} {x3 : Int32} {x4 : Int32}  {h : gk_H} {K : Int32 → gk_H → Prop} (hv : (∃ fs, h[o]? = some (.inr (11, fs))) ∧ RnI E mX12_isRelation (dd, 0, 0) [.ref o, .int x1] h (fun v1 h1 => (v1 = 0 → K ((-2)) h1) ∧ (¬ v1 = 0 → (∃ fs, h1[o]? = some (.inr (11, fs))) ∧ RnI E mX12_isRelation (dd, 0, 0) [.ref o, .int x2] h1 (fun v2 h2 => (v2 = 0 → K ((-2)) h2) ∧ (¬ v2 = 0 → RnI E mX12_isFrom (dd, 0, 0) [.long x3.toInt64, .long (lN 0), .long (lN 1)] h2 (fun v3 h3 => (¬ v3 = 0 → RnI E mX12_isFrom (dd, 0, 0) [.long x4.toInt64, .long (lN 0), .long (lN 2)] h3 (fun v4 h4 => (¬ v4 = 0 → pX12_solved_57 E dd o x1 x2 x3 x4 (nI 0) ((-5)) (nI 0) (nI 0) h4 K) ∧ (v4 = 0 → K ((-1)) h4))) ∧ (v3 = 0 → K ((-2)) h3))))))) : RnI E mX12_solved (dd + 1, 0, 0) [.ref o, .int x1, .int x2, .int x3, .int x4] h K := by
  show gk_G E mX12_solved (dd + 1, 0, 0) 0 [(0, .ref o), (1, .int x1), (2, .int x2), (3, .int x3), (4, .int x4)] [] h (fun o h1 => ∃ v, o = some (.int v) ∧ K v h1)
  refine gk_aload_n (pc := 0) (DX12_solved_0.at 0 rfl) 0 rfl rfl ?_
  refine gk_iload_n (pc := 1) (DX12_solved_0.at 1 rfl) 1 rfl rfl ?_
  obtain ⟨⟨fs1, q1⟩, hv⟩ := hv
  refine gk_vV (pc := 2) [.int x1] [] (DX12_solved_0.at 2 rfl) cvX12_91 q1 rfl rfl (Nat.le_of_ble_eq_true rfl) (Nat.le_of_ble_eq_true rfl) (gk_Run.post (fun o h1 z => ?_) hv)
  obtain ⟨v1, rfl, hv⟩ := z
  refine gk_if_eq (pc := 5) 26 (DX12_solved_0.at 3 rfl) (by decide) (fun c => ?_) (fun c => ?_)
  · replace hv := hv.1 c
    refine gk_bipush (pc := 26) ((-2)) (DX12_solved_0.at 14 rfl) cb_m2 ?_
    exact gk_ireturn (pc := 28) .int (DX12_solved_0.at 15 rfl) rfl rfl ⟨_, rfl, hv⟩
  · replace hv := hv.2 c
    refine gk_aload_n (pc := 8) (DX12_solved_0.at 4 rfl) 0 rfl rfl ?_
    refine gk_iload_n (pc := 9) (DX12_solved_0.at 5 rfl) 2 rfl rfl ?_
    obtain ⟨⟨fs2, q2⟩, hv⟩ := hv
    refine gk_vV (pc := 10) [.int x2] [] (DX12_solved_0.at 6 rfl) cvX12_91 q2 rfl rfl (Nat.le_of_ble_eq_true rfl) (Nat.le_of_ble_eq_true rfl) (gk_Run.post (fun o h2 z => ?_) hv)
    obtain ⟨v2, rfl, hv⟩ := z
    refine gk_if_eq (pc := 13) 26 (DX12_solved_0.at 7 rfl) (by decide) (fun c => ?_) (fun c => ?_)
    · replace hv := hv.1 c
      refine gk_bipush (pc := 26) ((-2)) (DX12_solved_0.at 14 rfl) cb_m2 ?_
      exact gk_ireturn (pc := 28) .int (DX12_solved_0.at 15 rfl) rfl rfl ⟨_, rfl, hv⟩
    · replace hv := hv.2 c
      refine gk_iload_n (pc := 16) (DX12_solved_0.at 8 rfl) 3 rfl rfl ?_
      refine gk_i2l (pc := 17) (DX12_solved_0.at 9 rfl) ?_
      refine gk_lconst (pc := 18) (lN 0) (DX12_solved_0.at 10 rfl) rfl ?_
      refine gk_lconst (pc := 19) (lN 1) (DX12_solved_0.at 11 rfl) rfl ?_
      refine gk_vS (pc := 20) [.long x3.toInt64, .long (lN 0), .long (lN 1)] [] (DX12_solved_0.at 12 rfl) csX12_70 rfl rfl (Nat.le_of_ble_eq_true rfl) (Nat.le_of_ble_eq_true rfl) (gk_Run.post (fun o h3 z => ?_) hv)
      obtain ⟨v3, rfl, hv⟩ := z
      refine gk_if_ne (pc := 23) 29 (DX12_solved_0.at 13 rfl) (by decide) (fun c => ?_) (fun c => ?_)
      · replace hv := hv.1 c
        refine gk_iload (pc := 29) (DX12_solved_0.at 16 rfl) 4 rfl ?_
        refine gk_i2l (pc := 31) (DX12_solved_0.at 17 rfl) ?_
        refine gk_lconst (pc := 32) (lN 0) (DX12_solved_0.at 18 rfl) rfl ?_
        refine gk_ldc2 (pc := 33) (lN 2) (DX12_solved_0.at 19 rfl) klX12_123 ?_
        refine gk_vS (pc := 36) [.long x4.toInt64, .long (lN 0), .long (lN 2)] [] (DX12_solved_0.at 20 rfl) csX12_70 rfl rfl (Nat.le_of_ble_eq_true rfl) (Nat.le_of_ble_eq_true rfl) (gk_Run.post (fun o h4 z => ?_) hv)
        obtain ⟨v4, rfl, hv⟩ := z
        refine gk_if_ne (pc := 39) 44 (DX12_solved_0.at 21 rfl) (by decide) (fun c => ?_) (fun c => ?_)
        · replace hv := hv.1 c
          refine gk_iconst (pc := 44) (nI 0) (DX12_solved_0.at 24 rfl) ci_0 ?_
          refine gk_istore (pc := 45) [(5, .int (nI 0)), (0, .ref o), (1, .int x1), (2, .int x2), (3, .int x3), (4, .int x4)] (DX12_solved_0.at 25 rfl) (Nat.le_of_ble_eq_true rfl) rfl ?_
          refine gk_bipush (pc := 47) ((-5)) (DX12_solved_0.at 26 rfl) cb_m5 ?_
          refine gk_istore (pc := 49) [(6, .int ((-5))), (5, .int (nI 0)), (0, .ref o), (1, .int x1), (2, .int x2), (3, .int x3), (4, .int x4)] (DX12_solved_0.at 27 rfl) (Nat.le_of_ble_eq_true rfl) rfl ?_
          refine gk_iconst (pc := 51) (nI 0) (DX12_solved_0.at 28 rfl) ci_0 ?_
          refine gk_istore (pc := 52) [(7, .int (nI 0)), (6, .int ((-5))), (5, .int (nI 0)), (0, .ref o), (1, .int x1), (2, .int x2), (3, .int x3), (4, .int x4)] (DX12_solved_0.at 29 rfl) (Nat.le_of_ble_eq_true rfl) rfl ?_
          refine gk_iconst (pc := 54) (nI 0) (DX12_solved_0.at 30 rfl) ci_0 ?_
          refine gk_istore (pc := 55) [(8, .int (nI 0)), (7, .int (nI 0)), (6, .int ((-5))), (5, .int (nI 0)), (0, .ref o), (1, .int x1), (2, .int x2), (3, .int x3), (4, .int x4)] (DX12_solved_0.at 31 rfl) (Nat.le_of_ble_eq_true rfl) rfl ?_
          exact gk_pick (pc := 57) [(0, .ref o), (1, .int x1), (2, .int x2), (3, .int x3), (4, .int x4), (5, .int (nI 0)), (6, .int ((-5))), (7, .int (nI 0)), (8, .int (nI 0))] [4, 5, 6, 7, 8, 3, 2, 1, 0] rfl hv
        · replace hv := hv.2 c
          refine gk_iconst (pc := 42) ((-1)) (DX12_solved_0.at 22 rfl) ci_m1 ?_
          exact gk_ireturn (pc := 43) .int (DX12_solved_0.at 23 rfl) rfl rfl ⟨_, rfl, hv⟩
      · replace hv := hv.2 c
        refine gk_bipush (pc := 26) ((-2)) (DX12_solved_0.at 14 rfl) cb_m2 ?_
        exact gk_ireturn (pc := 28) .int (DX12_solved_0.at 15 rfl) rfl rfl ⟨_, rfl, hv⟩
set_option maxHeartbeats 4000000 in
theorem vX12_solved_57 {E : gk_E} {dd : Nat} {o : Nat} {x1 : Int32} {x2 : Int32} {x3 : Int32} {x4 : Int32} {x5 : Int32} {x6 : Int32} {x7 : Int32} {x8 : Int32}  {h : gk_H} {K : Int32 → gk_H → Prop} (hv : LdI h o 11 0 fun v1 => (((nI 1) <<< (v1 &&& 31)) ≤ x8 → (¬ x4 = 0 → (¬ x4 = (nI 1) → (¬ x5 = 0 → K x7 h) ∧ (x5 = 0 → K ((-5)) h)) ∧ (x4 = (nI 1) → K x6 h)) ∧ (x4 = 0 → K x5 h)) ∧ (¬ ((nI 1) <<< (v1 &&& 31)) ≤ x8 → (∃ fs, h[o]? = some (.inr (11, fs))) ∧ RnI E mX12_composedBy (dd, 0, 0) [.ref o, .int x8, .int x1, .int x3] h (fun v2 h2 => (¬ v2 = x2 → pX12_solved_57 E dd o x1 x2 x3 x4 x5 x6 x7 (x8 + nI 1) h2 K) ∧ (v2 = x2 → (¬ x5 = 0 → pX12_solved_57 E dd o x1 x2 x3 x4 (x5 + nI 1) x6 (x7 ||| x8) (x8 + nI 1) h2 K) ∧ (x5 = 0 → pX12_solved_57 E dd o x1 x2 x3 x4 (x5 + nI 1) x8 (x7 ||| x8) (x8 + nI 1) h2 K))))) : pX12_solved_57 E dd o x1 x2 x3 x4 x5 x6 x7 x8 h K := by
  show gk_G E mX12_solved (dd + 1, 0, 0) 57 [(0, .ref o), (1, .int x1), (2, .int x2), (3, .int x3), (4, .int x4), (5, .int x5), (6, .int x6), (7, .int x7), (8, .int x8)] [] h (fun o h1 => ∃ v, o = some (.int v) ∧ K v h1)
  refine gk_iload (pc := 57) (DX12_solved_0.at 32 rfl) 8 rfl ?_
  refine gk_iconst (pc := 59) (nI 1) (DX12_solved_0.at 33 rfl) ci_1 ?_
  refine gk_aload_n (pc := 60) (DX12_solved_0.at 34 rfl) 0 rfl rfl ?_
  obtain ⟨fs1, v1, q1, r1, hv⟩ := hv
  refine gk_get (pc := 61) (.int v1) (DX12_solved_0.at 35 rfl) fX12_9_11 q1 r1 ?_
  refine gk_ishl (pc := 64) (DX12_solved_0.at 36 rfl) ?_
  refine gk_icmp_ge (pc := 65) 110 (DX12_solved_0.at 37 rfl) (by decide) (fun c => ?_) (fun c => ?_)
  · replace hv := hv.1 c
    refine gk_iload (pc := 110) (DX12_solved_0.at 58 rfl) 4 rfl ?_
    refine gk_if_ne (pc := 112) 120 (DX12_solved_0.at 59 rfl) (by decide) (fun c => ?_) (fun c => ?_)
    · replace hv := hv.1 c
      refine gk_iload (pc := 120) (DX12_solved_1.at 2 rfl) 4 rfl ?_
      refine gk_iconst (pc := 122) (nI 1) (DX12_solved_1.at 3 rfl) ci_1 ?_
      refine gk_icmp_ne (pc := 123) 131 (DX12_solved_1.at 4 rfl) (by decide) (fun c => ?_) (fun c => ?_)
      · replace hv := hv.1 c
        refine gk_iload (pc := 131) (DX12_solved_1.at 7 rfl) 5 rfl ?_
        refine gk_if_ne (pc := 133) 141 (DX12_solved_1.at 8 rfl) (by decide) (fun c => ?_) (fun c => ?_)
        · replace hv := hv.1 c
          refine gk_iload (pc := 141) (DX12_solved_1.at 11 rfl) 7 rfl ?_
          exact gk_ireturn (pc := 143) .int (DX12_solved_1.at 12 rfl) rfl rfl ⟨_, rfl, hv⟩
        · replace hv := hv.2 c
          refine gk_bipush (pc := 136) ((-5)) (DX12_solved_1.at 9 rfl) cb_m5 ?_
          refine gk_goto (pc := 138) 143 (DX12_solved_1.at 10 rfl) (by decide) ?_
          exact gk_ireturn (pc := 143) .int (DX12_solved_1.at 12 rfl) rfl rfl ⟨_, rfl, hv⟩
      · replace hv := hv.2 c
        refine gk_iload (pc := 126) (DX12_solved_1.at 5 rfl) 6 rfl ?_
        refine gk_goto (pc := 128) 143 (DX12_solved_1.at 6 rfl) (by decide) ?_
        exact gk_ireturn (pc := 143) .int (DX12_solved_1.at 12 rfl) rfl rfl ⟨_, rfl, hv⟩
    · replace hv := hv.2 c
      refine gk_iload (pc := 115) (DX12_solved_1.at 0 rfl) 5 rfl ?_
      refine gk_goto (pc := 117) 143 (DX12_solved_1.at 1 rfl) (by decide) ?_
      exact gk_ireturn (pc := 143) .int (DX12_solved_1.at 12 rfl) rfl rfl ⟨_, rfl, hv⟩
  · replace hv := hv.2 c
    refine gk_aload_n (pc := 68) (DX12_solved_0.at 38 rfl) 0 rfl rfl ?_
    refine gk_iload (pc := 69) (DX12_solved_0.at 39 rfl) 8 rfl ?_
    refine gk_iload_n (pc := 71) (DX12_solved_0.at 40 rfl) 1 rfl rfl ?_
    refine gk_iload_n (pc := 72) (DX12_solved_0.at 41 rfl) 3 rfl rfl ?_
    obtain ⟨⟨fs2, q2⟩, hv⟩ := hv
    refine gk_vV (pc := 73) [.int x8, .int x1, .int x3] [] (DX12_solved_0.at 42 rfl) cvX12_113 q2 rfl rfl (Nat.le_of_ble_eq_true rfl) (Nat.le_of_ble_eq_true rfl) (gk_Run.post (fun o h2 z => ?_) hv)
    obtain ⟨v2, rfl, hv⟩ := z
    refine gk_iload_n (pc := 76) (DX12_solved_0.at 43 rfl) 2 rfl rfl ?_
    refine gk_icmp_ne (pc := 77) 104 (DX12_solved_0.at 44 rfl) (by decide) (fun c => ?_) (fun c => ?_)
    · replace hv := hv.1 c
      refine gk_iinc (pc := 104) (x8 + nI 1) [(8, .int (x8 + nI 1)), (0, .ref o), (1, .int x1), (2, .int x2), (3, .int x3), (4, .int x4), (5, .int x5), (6, .int x6), (7, .int x7)] 8 (DX12_solved_0.at 56 rfl) rfl (by rw [ci_1]) (Nat.le_of_ble_eq_true rfl) rfl ?_
      refine gk_goto (pc := 107) 57 (DX12_solved_0.at 57 rfl) (by decide) ?_
      exact gk_pick (pc := 57) [(0, .ref o), (1, .int x1), (2, .int x2), (3, .int x3), (4, .int x4), (5, .int x5), (6, .int x6), (7, .int x7), (8, .int (x8 + nI 1))] [1, 2, 3, 4, 5, 6, 7, 8, 0] rfl hv
    · replace hv := hv.2 c
      refine gk_iload (pc := 80) (DX12_solved_0.at 45 rfl) 5 rfl ?_
      refine gk_if_ne (pc := 82) 90 (DX12_solved_0.at 46 rfl) (by decide) (fun c => ?_) (fun c => ?_)
      · replace hv := hv.1 c
        refine gk_iload (pc := 90) (DX12_solved_0.at 49 rfl) 6 rfl ?_
        refine gk_istore (pc := 92) [(6, .int x6), (0, .ref o), (1, .int x1), (2, .int x2), (3, .int x3), (4, .int x4), (5, .int x5), (7, .int x7), (8, .int x8)] (DX12_solved_0.at 50 rfl) (Nat.le_of_ble_eq_true rfl) rfl ?_
        refine gk_iload (pc := 94) (DX12_solved_0.at 51 rfl) 7 rfl ?_
        refine gk_iload (pc := 96) (DX12_solved_0.at 52 rfl) 8 rfl ?_
        refine gk_ior (pc := 98) (DX12_solved_0.at 53 rfl) ?_
        refine gk_istore (pc := 99) [(7, .int (x7 ||| x8)), (6, .int x6), (0, .ref o), (1, .int x1), (2, .int x2), (3, .int x3), (4, .int x4), (5, .int x5), (8, .int x8)] (DX12_solved_0.at 54 rfl) (Nat.le_of_ble_eq_true rfl) rfl ?_
        refine gk_iinc (pc := 101) (x5 + nI 1) [(5, .int (x5 + nI 1)), (7, .int (x7 ||| x8)), (6, .int x6), (0, .ref o), (1, .int x1), (2, .int x2), (3, .int x3), (4, .int x4), (8, .int x8)] 7 (DX12_solved_0.at 55 rfl) rfl (by rw [ci_1]) (Nat.le_of_ble_eq_true rfl) rfl ?_
        refine gk_iinc (pc := 104) (x8 + nI 1) [(8, .int (x8 + nI 1)), (5, .int (x5 + nI 1)), (7, .int (x7 ||| x8)), (6, .int x6), (0, .ref o), (1, .int x1), (2, .int x2), (3, .int x3), (4, .int x4)] 8 (DX12_solved_0.at 56 rfl) rfl (by rw [ci_1]) (Nat.le_of_ble_eq_true rfl) rfl ?_
        refine gk_goto (pc := 107) 57 (DX12_solved_0.at 57 rfl) (by decide) ?_
        exact gk_pick (pc := 57) [(0, .ref o), (1, .int x1), (2, .int x2), (3, .int x3), (4, .int x4), (5, .int (x5 + nI 1)), (6, .int x6), (7, .int (x7 ||| x8)), (8, .int (x8 + nI 1))] [4, 5, 6, 7, 8, 1, 3, 2, 0] rfl hv
      · replace hv := hv.2 c
        refine gk_iload (pc := 85) (DX12_solved_0.at 47 rfl) 8 rfl ?_
        refine gk_goto (pc := 87) 92 (DX12_solved_0.at 48 rfl) (by decide) ?_
        refine gk_istore (pc := 92) [(6, .int x8), (0, .ref o), (1, .int x1), (2, .int x2), (3, .int x3), (4, .int x4), (5, .int x5), (7, .int x7), (8, .int x8)] (DX12_solved_0.at 50 rfl) (Nat.le_of_ble_eq_true rfl) rfl ?_
        refine gk_iload (pc := 94) (DX12_solved_0.at 51 rfl) 7 rfl ?_
        refine gk_iload (pc := 96) (DX12_solved_0.at 52 rfl) 8 rfl ?_
        refine gk_ior (pc := 98) (DX12_solved_0.at 53 rfl) ?_
        refine gk_istore (pc := 99) [(7, .int (x7 ||| x8)), (6, .int x8), (0, .ref o), (1, .int x1), (2, .int x2), (3, .int x3), (4, .int x4), (5, .int x5), (8, .int x8)] (DX12_solved_0.at 54 rfl) (Nat.le_of_ble_eq_true rfl) rfl ?_
        refine gk_iinc (pc := 101) (x5 + nI 1) [(5, .int (x5 + nI 1)), (7, .int (x7 ||| x8)), (6, .int x8), (0, .ref o), (1, .int x1), (2, .int x2), (3, .int x3), (4, .int x4), (8, .int x8)] 7 (DX12_solved_0.at 55 rfl) rfl (by rw [ci_1]) (Nat.le_of_ble_eq_true rfl) rfl ?_
        refine gk_iinc (pc := 104) (x8 + nI 1) [(8, .int (x8 + nI 1)), (5, .int (x5 + nI 1)), (7, .int (x7 ||| x8)), (6, .int x8), (0, .ref o), (1, .int x1), (2, .int x2), (3, .int x3), (4, .int x4)] 8 (DX12_solved_0.at 56 rfl) rfl (by rw [ci_1]) (Nat.le_of_ble_eq_true rfl) rfl ?_
        refine gk_goto (pc := 107) 57 (DX12_solved_0.at 57 rfl) (by decide) ?_
        exact gk_pick (pc := 57) [(0, .ref o), (1, .int x1), (2, .int x2), (3, .int x3), (4, .int x4), (5, .int (x5 + nI 1)), (6, .int x8), (7, .int (x7 ||| x8)), (8, .int (x8 + nI 1))] [4, 5, 6, 7, 8, 1, 3, 2, 0] rfl hv
set_option maxHeartbeats 4000000 in
theorem vX12_sound_0 {E : gk_E} {dd : Nat} {o : Nat} {x1 : Int32}  {h : gk_H} {K : Int32 → gk_H → Prop} (hv : RnI E mX12_isNet (dd, 0, 0) [.int x1] h (fun v1 h1 => (v1 = 0 → K ((-1)) h1) ∧ (¬ v1 = 0 → (∃ fs, h1[o]? = some (.inr (11, fs))) ∧ RnI E mX12_unsound (dd, 0, 0) [.ref o, .int x1] h1 (fun v2 h2 => K v2 h2)))) : RnI E mX12_sound (dd + 1, 0, 0) [.ref o, .int x1] h K := by
  show gk_G E mX12_sound (dd + 1, 0, 0) 0 [(0, .ref o), (1, .int x1)] [] h (fun o h1 => ∃ v, o = some (.int v) ∧ K v h1)
  refine gk_iload_n (pc := 0) (DX12_sound_0.at 0 rfl) 1 rfl rfl ?_
  refine gk_vS (pc := 1) [.int x1] [] (DX12_sound_0.at 1 rfl) csX12_145 rfl rfl (Nat.le_of_ble_eq_true rfl) (Nat.le_of_ble_eq_true rfl) (gk_Run.post (fun o h1 z => ?_) hv)
  obtain ⟨v1, rfl, hv⟩ := z
  refine gk_if_eq (pc := 4) 15 (DX12_sound_0.at 2 rfl) (by decide) (fun c => ?_) (fun c => ?_)
  · replace hv := hv.1 c
    refine gk_iconst (pc := 15) ((-1)) (DX12_sound_0.at 7 rfl) ci_m1 ?_
    exact gk_ireturn (pc := 16) .int (DX12_sound_0.at 8 rfl) rfl rfl ⟨_, rfl, hv⟩
  · replace hv := hv.2 c
    refine gk_aload_n (pc := 7) (DX12_sound_0.at 3 rfl) 0 rfl rfl ?_
    refine gk_iload_n (pc := 8) (DX12_sound_0.at 4 rfl) 1 rfl rfl ?_
    obtain ⟨⟨fs2, q2⟩, hv⟩ := hv
    refine gk_vV (pc := 9) [.int x1] [] (DX12_sound_0.at 5 rfl) cvX12_164 q2 rfl rfl (Nat.le_of_ble_eq_true rfl) (Nat.le_of_ble_eq_true rfl) (gk_Run.post (fun o h2 z => ?_) hv)
    obtain ⟨v2, rfl, hv⟩ := z
    refine gk_goto (pc := 12) 16 (DX12_sound_0.at 6 rfl) (by decide) ?_
    exact gk_ireturn (pc := 16) .int (DX12_sound_0.at 8 rfl) rfl rfl ⟨_, rfl, hv⟩
set_option maxHeartbeats 4000000 in
theorem vX12_spelled_0 {E : gk_E} {dd : Nat} {o : Nat} {x1 : Int32}  {h : gk_H} {K : Int32 → gk_H → Prop} (hv : (((-1)) ≤ x1 → StI h o 11 25 x1 fun h1 => (∃ fs, h1[o]? = some (.inr (11, fs))) ∧ RnV E mX12_spells (dd, 0, 0) [.ref o] h1 (fun h2 => (¬ x1 = ((-1)) → LdI h2 o 11 26 fun v3 => K v3 h2) ∧ (x1 = ((-1)) → LdI h2 o 11 24 fun v4 => K v4 h2))) ∧ (¬ ((-1)) ≤ x1 → K ((-1)) h)) : RnI E mX12_spelled (dd + 1, 0, 0) [.ref o, .int x1] h K := by
  show gk_G E mX12_spelled (dd + 1, 0, 0) 0 [(0, .ref o), (1, .int x1)] [] h (fun o h1 => ∃ v, o = some (.int v) ∧ K v h1)
  refine gk_iload_n (pc := 0) (DX12_spelled_0.at 0 rfl) 1 rfl rfl ?_
  refine gk_iconst (pc := 1) ((-1)) (DX12_spelled_0.at 1 rfl) ci_m1 ?_
  refine gk_icmp_ge (pc := 2) 7 (DX12_spelled_0.at 2 rfl) (by decide) (fun c => ?_) (fun c => ?_)
  · replace hv := hv.1 c
    refine gk_aload_n (pc := 7) (DX12_spelled_0.at 5 rfl) 0 rfl rfl ?_
    refine gk_iload_n (pc := 8) (DX12_spelled_0.at 6 rfl) 1 rfl rfl ?_
    obtain ⟨fs1, q1, r1, hv⟩ := hv
    refine gk_put (pc := 9) (DX12_spelled_0.at 7 rfl) fX12_293_11w q1 r1 rfl rfl ?_
    generalize h.set _ _ = h1 at hv ⊢
    refine gk_aload_n (pc := 12) (DX12_spelled_0.at 8 rfl) 0 rfl rfl ?_
    obtain ⟨⟨fs2, q2⟩, hv⟩ := hv
    refine gk_vV (pc := 13) [] [] (DX12_spelled_0.at 9 rfl) cvX12_309 q2 rfl rfl (Nat.le_of_ble_eq_true rfl) (Nat.le_of_ble_eq_true rfl) (gk_Run.post (fun o h2 z => ?_) hv)
    obtain ⟨rfl, hv⟩ := z
    refine gk_iload_n (pc := 16) (DX12_spelled_0.at 10 rfl) 1 rfl rfl ?_
    refine gk_iconst (pc := 17) ((-1)) (DX12_spelled_0.at 11 rfl) ci_m1 ?_
    refine gk_icmp_ne (pc := 18) 28 (DX12_spelled_0.at 12 rfl) (by decide) (fun c => ?_) (fun c => ?_)
    · replace hv := hv.1 c
      refine gk_aload_n (pc := 28) (DX12_spelled_0.at 16 rfl) 0 rfl rfl ?_
      obtain ⟨fs3, v3, q3, r3, hv⟩ := hv
      refine gk_get (pc := 29) (.int v3) (DX12_spelled_0.at 17 rfl) fX12_296_11 q3 r3 ?_
      exact gk_ireturn (pc := 32) .int (DX12_spelled_0.at 18 rfl) rfl rfl ⟨_, rfl, hv⟩
    · replace hv := hv.2 c
      refine gk_aload_n (pc := 21) (DX12_spelled_0.at 13 rfl) 0 rfl rfl ?_
      obtain ⟨fs4, v4, q4, r4, hv⟩ := hv
      refine gk_get (pc := 22) (.int v4) (DX12_spelled_0.at 14 rfl) fX12_290_11 q4 r4 ?_
      refine gk_goto (pc := 25) 32 (DX12_spelled_0.at 15 rfl) (by decide) ?_
      exact gk_ireturn (pc := 32) .int (DX12_spelled_0.at 18 rfl) rfl rfl ⟨_, rfl, hv⟩
  · replace hv := hv.2 c
    refine gk_iconst (pc := 5) ((-1)) (DX12_spelled_0.at 3 rfl) ci_m1 ?_
    exact gk_ireturn (pc := 6) .int (DX12_spelled_0.at 4 rfl) rfl rfl ⟨_, rfl, hv⟩
abbrev pX12_spells_25 (E : gk_E) (dd : Nat) (o : Nat) (x1 : Int32) (h : gk_H) (K : gk_H → Prop) : Prop := gk_G E mX12_spells (dd + 1, 0, 0) 25 [(0, .ref o), (1, .int x1)] [] h (fun o h1 => o = none ∧ K h1)
abbrev pX12_spells_77 (E : gk_E) (dd : Nat) (o : Nat) (x1 : Int32) (h : gk_H) (K : gk_H → Prop) : Prop := gk_G E mX12_spells (dd + 1, 0, 0) 77 [(0, .ref o), (1, .int x1)] [] h (fun o h1 => o = none ∧ K h1)
abbrev pX12_spells_87 (E : gk_E) (dd : Nat) (o : Nat) (x1 : Int32) (x2 : Int32) (h : gk_H) (K : gk_H → Prop) : Prop := gk_G E mX12_spells (dd + 1, 0, 0) 87 [(0, .ref o), (1, .int x1), (2, .int x2)] [] h (fun o h1 => o = none ∧ K h1)
abbrev pX12_spells_97 (E : gk_E) (dd : Nat) (o : Nat) (x1 : Int32) (x2 : Int32) (x3 : Int32) (h : gk_H) (K : gk_H → Prop) : Prop := gk_G E mX12_spells (dd + 1, 0, 0) 97 [(0, .ref o), (1, .int x1), (2, .int x2), (3, .int x3)] [] h (fun o h1 => o = none ∧ K h1)
set_option maxHeartbeats 4000000 in
theorem vX12_spells_0 {E : gk_E} {dd : Nat} {o : Nat}  {h : gk_H} {K : gk_H → Prop} (hv : StI h o 11 24 (nI 0) fun h1 => StI h1 o 11 26 ((-1)) fun h2 => (∃ fs, h2[o]? = some (.inr (11, fs))) ∧ RnV E mX12_writesWord (dd, 0, 0) [.ref o, .int (nI 0)] h2 (fun h3 => LdI h3 o 11 0 fun v4 => (∃ fs, h3[o]? = some (.inr (11, fs))) ∧ RnV E mX12_writesFigure (dd, 0, 0) [.ref o, .int v4] h3 (fun h5 => pX12_spells_25 E dd o (nI 1) h5 K))) : RnV E mX12_spells (dd + 1, 0, 0) [.ref o] h K := by
  show gk_G E mX12_spells (dd + 1, 0, 0) 0 [(0, .ref o)] [] h (fun o h1 => o = none ∧ K h1)
  refine gk_aload_n (pc := 0) (DX12_spells_0.at 0 rfl) 0 rfl rfl ?_
  refine gk_iconst (pc := 1) (nI 0) (DX12_spells_0.at 1 rfl) ci_0 ?_
  obtain ⟨fs1, q1, r1, hv⟩ := hv
  refine gk_put (pc := 2) (DX12_spells_0.at 2 rfl) fX12_290_11w q1 r1 rfl rfl ?_
  generalize h.set _ _ = h1 at hv ⊢
  refine gk_aload_n (pc := 5) (DX12_spells_0.at 3 rfl) 0 rfl rfl ?_
  refine gk_iconst (pc := 6) ((-1)) (DX12_spells_0.at 4 rfl) ci_m1 ?_
  obtain ⟨fs2, q2, r2, hv⟩ := hv
  refine gk_put (pc := 7) (DX12_spells_0.at 5 rfl) fX12_296_11w q2 r2 rfl rfl ?_
  generalize h1.set _ _ = h2 at hv ⊢
  refine gk_aload_n (pc := 10) (DX12_spells_0.at 6 rfl) 0 rfl rfl ?_
  refine gk_iconst (pc := 11) (nI 0) (DX12_spells_0.at 7 rfl) ci_0 ?_
  obtain ⟨⟨fs3, q3⟩, hv⟩ := hv
  refine gk_vV (pc := 12) [.int (nI 0)] [] (DX12_spells_0.at 8 rfl) cvX12_303 q3 rfl rfl (Nat.le_of_ble_eq_true rfl) (Nat.le_of_ble_eq_true rfl) (gk_Run.post (fun o h3 z => ?_) hv)
  obtain ⟨rfl, hv⟩ := z
  refine gk_aload_n (pc := 15) (DX12_spells_0.at 9 rfl) 0 rfl rfl ?_
  refine gk_aload_n (pc := 16) (DX12_spells_0.at 10 rfl) 0 rfl rfl ?_
  obtain ⟨fs4, v4, q4, r4, hv⟩ := hv
  refine gk_get (pc := 17) (.int v4) (DX12_spells_0.at 11 rfl) fX12_9_11 q4 r4 ?_
  obtain ⟨⟨fs5, q5⟩, hv⟩ := hv
  refine gk_vV (pc := 20) [.int v4] [] (DX12_spells_0.at 12 rfl) cvX12_306 q5 rfl rfl (Nat.le_of_ble_eq_true rfl) (Nat.le_of_ble_eq_true rfl) (gk_Run.post (fun o h5 z => ?_) hv)
  obtain ⟨rfl, hv⟩ := z
  refine gk_iconst (pc := 23) (nI 1) (DX12_spells_0.at 13 rfl) ci_1 ?_
  refine gk_istore_n (pc := 24) [(1, .int (nI 1)), (0, .ref o)] (DX12_spells_0.at 14 rfl) rfl (Nat.le_of_ble_eq_true rfl) rfl ?_
  exact gk_pick (pc := 25) [(0, .ref o), (1, .int (nI 1))] [1, 0] rfl hv
set_option maxHeartbeats 4000000 in
theorem vX12_spells_25 {E : gk_E} {dd : Nat} {o : Nat} {x1 : Int32}  {h : gk_H} {K : gk_H → Prop} (hv : LdI h o 11 0 fun v1 => (v1 ≤ x1 → pX12_spells_77 E dd o (nI 1) h K) ∧ (¬ v1 ≤ x1 → LdR h o 11 1 fun v2 => AlI h v2 x1 fun v3 => (v3 ≤ x1 → pX12_spells_25 E dd o (x1 + nI 1) h K) ∧ (¬ v3 ≤ x1 → (∃ fs, h[o]? = some (.inr (11, fs))) ∧ RnV E mX12_writes (dd, 0, 0) [.ref o, .int (nI 59)] h (fun h4 => (∃ fs, h4[o]? = some (.inr (11, fs))) ∧ RnV E mX12_writesWord (dd, 0, 0) [.ref o, .int (nI 1)] h4 (fun h5 => (∃ fs, h5[o]? = some (.inr (11, fs))) ∧ RnV E mX12_writesFigure (dd, 0, 0) [.ref o, .int x1] h5 (fun h6 => LdR h6 o 11 1 fun v7 => AlI h6 v7 x1 fun v8 => (∃ fs, h6[o]? = some (.inr (11, fs))) ∧ RnV E mX12_writesFigure (dd, 0, 0) [.ref o, .int v8] h6 (fun h9 => pX12_spells_25 E dd o (x1 + nI 1) h9 K))))))) : pX12_spells_25 E dd o x1 h K := by
  show gk_G E mX12_spells (dd + 1, 0, 0) 25 [(0, .ref o), (1, .int x1)] [] h (fun o h1 => o = none ∧ K h1)
  refine gk_iload_n (pc := 25) (DX12_spells_0.at 15 rfl) 1 rfl rfl ?_
  refine gk_aload_n (pc := 26) (DX12_spells_0.at 16 rfl) 0 rfl rfl ?_
  obtain ⟨fs1, v1, q1, r1, hv⟩ := hv
  refine gk_get (pc := 27) (.int v1) (DX12_spells_0.at 17 rfl) fX12_9_11 q1 r1 ?_
  refine gk_icmp_ge (pc := 30) 75 (DX12_spells_0.at 18 rfl) (by decide) (fun c => ?_) (fun c => ?_)
  · replace hv := hv.1 c
    refine gk_iconst (pc := 75) (nI 1) (DX12_spells_0.at 42 rfl) ci_1 ?_
    refine gk_istore_n (pc := 76) [(1, .int (nI 1)), (0, .ref o)] (DX12_spells_0.at 43 rfl) rfl (Nat.le_of_ble_eq_true rfl) rfl ?_
    exact gk_pick (pc := 77) [(0, .ref o), (1, .int (nI 1))] [1, 0] rfl hv
  · replace hv := hv.2 c
    refine gk_aload_n (pc := 33) (DX12_spells_0.at 19 rfl) 0 rfl rfl ?_
    obtain ⟨fs2, v2, q2, r2, hv⟩ := hv
    refine gk_get (pc := 34) (.ref v2) (DX12_spells_0.at 20 rfl) fX12_15_11 q2 r2 ?_
    refine gk_iload_n (pc := 37) (DX12_spells_0.at 21 rfl) 1 rfl rfl ?_
    obtain ⟨n3, f3, q3, r3, hv⟩ := hv
    refine gk_iald (pc := 38) (DX12_spells_0.at 22 rfl) q3 r3 ?_
    generalize f3 _ = v3 at hv ⊢
    refine gk_iload_n (pc := 39) (DX12_spells_0.at 23 rfl) 1 rfl rfl ?_
    refine gk_icmp_le (pc := 40) 69 (DX12_spells_0.at 24 rfl) (by decide) (fun c => ?_) (fun c => ?_)
    · replace hv := hv.1 c
      refine gk_iinc (pc := 69) (x1 + nI 1) [(1, .int (x1 + nI 1)), (0, .ref o)] 1 (DX12_spells_0.at 40 rfl) rfl (by rw [ci_1]) (Nat.le_of_ble_eq_true rfl) rfl ?_
      refine gk_goto (pc := 72) 25 (DX12_spells_0.at 41 rfl) (by decide) ?_
      exact gk_pick (pc := 25) [(0, .ref o), (1, .int (x1 + nI 1))] [1, 0] rfl hv
    · replace hv := hv.2 c
      refine gk_aload_n (pc := 43) (DX12_spells_0.at 25 rfl) 0 rfl rfl ?_
      refine gk_bipush (pc := 44) (nI 59) (DX12_spells_0.at 26 rfl) cb_59 ?_
      obtain ⟨⟨fs4, q4⟩, hv⟩ := hv
      refine gk_vV (pc := 46) [.int (nI 59)] [] (DX12_spells_0.at 27 rfl) cvX12_299 q4 rfl rfl (Nat.le_of_ble_eq_true rfl) (Nat.le_of_ble_eq_true rfl) (gk_Run.post (fun o h4 z => ?_) hv)
      obtain ⟨rfl, hv⟩ := z
      refine gk_aload_n (pc := 49) (DX12_spells_0.at 28 rfl) 0 rfl rfl ?_
      refine gk_iconst (pc := 50) (nI 1) (DX12_spells_0.at 29 rfl) ci_1 ?_
      obtain ⟨⟨fs5, q5⟩, hv⟩ := hv
      refine gk_vV (pc := 51) [.int (nI 1)] [] (DX12_spells_0.at 30 rfl) cvX12_303 q5 rfl rfl (Nat.le_of_ble_eq_true rfl) (Nat.le_of_ble_eq_true rfl) (gk_Run.post (fun o h5 z => ?_) hv)
      obtain ⟨rfl, hv⟩ := z
      refine gk_aload_n (pc := 54) (DX12_spells_0.at 31 rfl) 0 rfl rfl ?_
      refine gk_iload_n (pc := 55) (DX12_spells_0.at 32 rfl) 1 rfl rfl ?_
      obtain ⟨⟨fs6, q6⟩, hv⟩ := hv
      refine gk_vV (pc := 56) [.int x1] [] (DX12_spells_0.at 33 rfl) cvX12_306 q6 rfl rfl (Nat.le_of_ble_eq_true rfl) (Nat.le_of_ble_eq_true rfl) (gk_Run.post (fun o h6 z => ?_) hv)
      obtain ⟨rfl, hv⟩ := z
      refine gk_aload_n (pc := 59) (DX12_spells_0.at 34 rfl) 0 rfl rfl ?_
      refine gk_aload_n (pc := 60) (DX12_spells_0.at 35 rfl) 0 rfl rfl ?_
      obtain ⟨fs7, v7, q7, r7, hv⟩ := hv
      refine gk_get (pc := 61) (.ref v7) (DX12_spells_0.at 36 rfl) fX12_15_11 q7 r7 ?_
      refine gk_iload_n (pc := 64) (DX12_spells_0.at 37 rfl) 1 rfl rfl ?_
      obtain ⟨n8, f8, q8, r8, hv⟩ := hv
      refine gk_iald (pc := 65) (DX12_spells_0.at 38 rfl) q8 r8 ?_
      generalize f8 _ = v8 at hv ⊢
      obtain ⟨⟨fs9, q9⟩, hv⟩ := hv
      refine gk_vV (pc := 66) [.int v8] [] (DX12_spells_0.at 39 rfl) cvX12_306 q9 rfl rfl (Nat.le_of_ble_eq_true rfl) (Nat.le_of_ble_eq_true rfl) (gk_Run.post (fun o h9 z => ?_) hv)
      obtain ⟨rfl, hv⟩ := z
      refine gk_iinc (pc := 69) (x1 + nI 1) [(1, .int (x1 + nI 1)), (0, .ref o)] 1 (DX12_spells_0.at 40 rfl) rfl (by rw [ci_1]) (Nat.le_of_ble_eq_true rfl) rfl ?_
      refine gk_goto (pc := 72) 25 (DX12_spells_0.at 41 rfl) (by decide) ?_
      exact gk_pick (pc := 25) [(0, .ref o), (1, .int (x1 + nI 1))] [1, 0] rfl hv
set_option maxHeartbeats 4000000 in
theorem vX12_spells_77 {E : gk_E} {dd : Nat} {o : Nat} {x1 : Int32}  {h : gk_H} {K : gk_H → Prop} (hv : LdI h o 11 0 fun v1 => (v1 ≤ x1 → K h) ∧ (¬ v1 ≤ x1 → pX12_spells_87 E dd o x1 (nI 1) h K)) : pX12_spells_77 E dd o x1 h K := by
  show gk_G E mX12_spells (dd + 1, 0, 0) 77 [(0, .ref o), (1, .int x1)] [] h (fun o h1 => o = none ∧ K h1)
  refine gk_iload_n (pc := 77) (DX12_spells_0.at 44 rfl) 1 rfl rfl ?_
  refine gk_aload_n (pc := 78) (DX12_spells_0.at 45 rfl) 0 rfl rfl ?_
  obtain ⟨fs1, v1, q1, r1, hv⟩ := hv
  refine gk_get (pc := 79) (.int v1) (DX12_spells_0.at 46 rfl) fX12_9_11 q1 r1 ?_
  refine gk_icmp_ge (pc := 82) 169 (DX12_spells_0.at 47 rfl) (by decide) (fun c => ?_) (fun c => ?_)
  · replace hv := hv.1 c
    exact gk_return (pc := 169) (DX12_spells_1.at 33 rfl) rfl ⟨rfl, hv⟩
  · replace hv := hv.2 c
    refine gk_iconst (pc := 85) (nI 1) (DX12_spells_0.at 48 rfl) ci_1 ?_
    refine gk_istore_n (pc := 86) [(2, .int (nI 1)), (0, .ref o), (1, .int x1)] (DX12_spells_0.at 49 rfl) rfl (Nat.le_of_ble_eq_true rfl) rfl ?_
    exact gk_pick (pc := 87) [(0, .ref o), (1, .int x1), (2, .int (nI 1))] [1, 2, 0] rfl hv
set_option maxHeartbeats 4000000 in
theorem vX12_spells_87 {E : gk_E} {dd : Nat} {o : Nat} {x1 : Int32} {x2 : Int32}  {h : gk_H} {K : gk_H → Prop} (hv : LdI h o 11 0 fun v1 => (v1 ≤ x2 → pX12_spells_77 E dd o (x1 + nI 1) h K) ∧ (¬ v1 ≤ x2 → pX12_spells_97 E dd o x1 x2 (nI 1) h K)) : pX12_spells_87 E dd o x1 x2 h K := by
  show gk_G E mX12_spells (dd + 1, 0, 0) 87 [(0, .ref o), (1, .int x1), (2, .int x2)] [] h (fun o h1 => o = none ∧ K h1)
  refine gk_iload_n (pc := 87) (DX12_spells_0.at 50 rfl) 2 rfl rfl ?_
  refine gk_aload_n (pc := 88) (DX12_spells_0.at 51 rfl) 0 rfl rfl ?_
  obtain ⟨fs1, v1, q1, r1, hv⟩ := hv
  refine gk_get (pc := 89) (.int v1) (DX12_spells_0.at 52 rfl) fX12_9_11 q1 r1 ?_
  refine gk_icmp_ge (pc := 92) 163 (DX12_spells_0.at 53 rfl) (by decide) (fun c => ?_) (fun c => ?_)
  · replace hv := hv.1 c
    refine gk_iinc (pc := 163) (x1 + nI 1) [(1, .int (x1 + nI 1)), (0, .ref o), (2, .int x2)] 1 (DX12_spells_1.at 31 rfl) rfl (by rw [ci_1]) (Nat.le_of_ble_eq_true rfl) rfl ?_
    refine gk_goto (pc := 166) 77 (DX12_spells_1.at 32 rfl) (by decide) ?_
    exact gk_pick (pc := 77) [(0, .ref o), (1, .int (x1 + nI 1))] [1, 0] rfl hv
  · replace hv := hv.2 c
    refine gk_iconst (pc := 95) (nI 1) (DX12_spells_0.at 54 rfl) ci_1 ?_
    refine gk_istore_n (pc := 96) [(3, .int (nI 1)), (0, .ref o), (1, .int x1), (2, .int x2)] (DX12_spells_0.at 55 rfl) rfl (Nat.le_of_ble_eq_true rfl) rfl ?_
    exact gk_pick (pc := 97) [(0, .ref o), (1, .int x1), (2, .int x2), (3, .int (nI 1))] [1, 2, 3, 0] rfl hv
set_option maxHeartbeats 4000000 in
theorem vX12_spells_97 {E : gk_E} {dd : Nat} {o : Nat} {x1 : Int32} {x2 : Int32} {x3 : Int32}  {h : gk_H} {K : gk_H → Prop} (hv : LdI h o 11 0 fun v1 => (v1 ≤ x3 → pX12_spells_87 E dd o x1 (x2 + nI 1) h K) ∧ (¬ v1 ≤ x3 → (∃ fs, h[o]? = some (.inr (11, fs))) ∧ RnI E mX12_is (dd, 0, 0) [.ref o, .int x1, .int x2, .int x3] h (fun v2 h2 => (v2 = 0 → pX12_spells_97 E dd o x1 x2 (x3 + nI 1) h2 K) ∧ (¬ v2 = 0 → (∃ fs, h2[o]? = some (.inr (11, fs))) ∧ RnI E mX12_isLeast (dd, 0, 0) [.ref o, .int x1, .int x2, .int x3] h2 (fun v3 h3 => (v3 = 0 → pX12_spells_97 E dd o x1 x2 (x3 + nI 1) h3 K) ∧ (¬ v3 = 0 → (∃ fs, h3[o]? = some (.inr (11, fs))) ∧ RnV E mX12_writes (dd, 0, 0) [.ref o, .int (nI 59)] h3 (fun h4 => (∃ fs, h4[o]? = some (.inr (11, fs))) ∧ RnV E mX12_writesWord (dd, 0, 0) [.ref o, .int (nI 2)] h4 (fun h5 => (∃ fs, h5[o]? = some (.inr (11, fs))) ∧ RnV E mX12_writesFigure (dd, 0, 0) [.ref o, .int x1] h5 (fun h6 => (∃ fs, h6[o]? = some (.inr (11, fs))) ∧ RnV E mX12_writesFigure (dd, 0, 0) [.ref o, .int x2] h6 (fun h7 => (∃ fs, h7[o]? = some (.inr (11, fs))) ∧ RnV E mX12_writesFigure (dd, 0, 0) [.ref o, .int x3] h7 (fun h8 => pX12_spells_97 E dd o x1 x2 (x3 + nI 1) h8 K))))))))))) : pX12_spells_97 E dd o x1 x2 x3 h K := by
  show gk_G E mX12_spells (dd + 1, 0, 0) 97 [(0, .ref o), (1, .int x1), (2, .int x2), (3, .int x3)] [] h (fun o h1 => o = none ∧ K h1)
  refine gk_iload_n (pc := 97) (DX12_spells_0.at 56 rfl) 3 rfl rfl ?_
  refine gk_aload_n (pc := 98) (DX12_spells_0.at 57 rfl) 0 rfl rfl ?_
  obtain ⟨fs1, v1, q1, r1, hv⟩ := hv
  refine gk_get (pc := 99) (.int v1) (DX12_spells_0.at 58 rfl) fX12_9_11 q1 r1 ?_
  refine gk_icmp_ge (pc := 102) 157 (DX12_spells_0.at 59 rfl) (by decide) (fun c => ?_) (fun c => ?_)
  · replace hv := hv.1 c
    refine gk_iinc (pc := 157) (x2 + nI 1) [(2, .int (x2 + nI 1)), (0, .ref o), (1, .int x1), (3, .int x3)] 2 (DX12_spells_1.at 29 rfl) rfl (by rw [ci_1]) (Nat.le_of_ble_eq_true rfl) rfl ?_
    refine gk_goto (pc := 160) 87 (DX12_spells_1.at 30 rfl) (by decide) ?_
    exact gk_pick (pc := 87) [(0, .ref o), (1, .int x1), (2, .int (x2 + nI 1))] [1, 2, 0] rfl hv
  · replace hv := hv.2 c
    refine gk_aload_n (pc := 105) (DX12_spells_1.at 0 rfl) 0 rfl rfl ?_
    refine gk_iload_n (pc := 106) (DX12_spells_1.at 1 rfl) 1 rfl rfl ?_
    refine gk_iload_n (pc := 107) (DX12_spells_1.at 2 rfl) 2 rfl rfl ?_
    refine gk_iload_n (pc := 108) (DX12_spells_1.at 3 rfl) 3 rfl rfl ?_
    obtain ⟨⟨fs2, q2⟩, hv⟩ := hv
    refine gk_vV (pc := 109) [.int x1, .int x2, .int x3] [] (DX12_spells_1.at 4 rfl) cvX12_105 q2 rfl rfl (Nat.le_of_ble_eq_true rfl) (Nat.le_of_ble_eq_true rfl) (gk_Run.post (fun o h2 z => ?_) hv)
    obtain ⟨v2, rfl, hv⟩ := z
    refine gk_if_eq (pc := 112) 151 (DX12_spells_1.at 5 rfl) (by decide) (fun c => ?_) (fun c => ?_)
    · replace hv := hv.1 c
      refine gk_iinc (pc := 151) (x3 + nI 1) [(3, .int (x3 + nI 1)), (0, .ref o), (1, .int x1), (2, .int x2)] 3 (DX12_spells_1.at 27 rfl) rfl (by rw [ci_1]) (Nat.le_of_ble_eq_true rfl) rfl ?_
      refine gk_goto (pc := 154) 97 (DX12_spells_1.at 28 rfl) (by decide) ?_
      exact gk_pick (pc := 97) [(0, .ref o), (1, .int x1), (2, .int x2), (3, .int (x3 + nI 1))] [1, 2, 3, 0] rfl hv
    · replace hv := hv.2 c
      refine gk_aload_n (pc := 115) (DX12_spells_1.at 6 rfl) 0 rfl rfl ?_
      refine gk_iload_n (pc := 116) (DX12_spells_1.at 7 rfl) 1 rfl rfl ?_
      refine gk_iload_n (pc := 117) (DX12_spells_1.at 8 rfl) 2 rfl rfl ?_
      refine gk_iload_n (pc := 118) (DX12_spells_1.at 9 rfl) 3 rfl rfl ?_
      obtain ⟨⟨fs3, q3⟩, hv⟩ := hv
      refine gk_vV (pc := 119) [.int x1, .int x2, .int x3] [] (DX12_spells_1.at 10 rfl) cvX12_127 q3 rfl rfl (Nat.le_of_ble_eq_true rfl) (Nat.le_of_ble_eq_true rfl) (gk_Run.post (fun o h3 z => ?_) hv)
      obtain ⟨v3, rfl, hv⟩ := z
      refine gk_if_eq (pc := 122) 151 (DX12_spells_1.at 11 rfl) (by decide) (fun c => ?_) (fun c => ?_)
      · replace hv := hv.1 c
        refine gk_iinc (pc := 151) (x3 + nI 1) [(3, .int (x3 + nI 1)), (0, .ref o), (1, .int x1), (2, .int x2)] 3 (DX12_spells_1.at 27 rfl) rfl (by rw [ci_1]) (Nat.le_of_ble_eq_true rfl) rfl ?_
        refine gk_goto (pc := 154) 97 (DX12_spells_1.at 28 rfl) (by decide) ?_
        exact gk_pick (pc := 97) [(0, .ref o), (1, .int x1), (2, .int x2), (3, .int (x3 + nI 1))] [1, 2, 3, 0] rfl hv
      · replace hv := hv.2 c
        refine gk_aload_n (pc := 125) (DX12_spells_1.at 12 rfl) 0 rfl rfl ?_
        refine gk_bipush (pc := 126) (nI 59) (DX12_spells_1.at 13 rfl) cb_59 ?_
        obtain ⟨⟨fs4, q4⟩, hv⟩ := hv
        refine gk_vV (pc := 128) [.int (nI 59)] [] (DX12_spells_1.at 14 rfl) cvX12_299 q4 rfl rfl (Nat.le_of_ble_eq_true rfl) (Nat.le_of_ble_eq_true rfl) (gk_Run.post (fun o h4 z => ?_) hv)
        obtain ⟨rfl, hv⟩ := z
        refine gk_aload_n (pc := 131) (DX12_spells_1.at 15 rfl) 0 rfl rfl ?_
        refine gk_iconst (pc := 132) (nI 2) (DX12_spells_1.at 16 rfl) ci_2 ?_
        obtain ⟨⟨fs5, q5⟩, hv⟩ := hv
        refine gk_vV (pc := 133) [.int (nI 2)] [] (DX12_spells_1.at 17 rfl) cvX12_303 q5 rfl rfl (Nat.le_of_ble_eq_true rfl) (Nat.le_of_ble_eq_true rfl) (gk_Run.post (fun o h5 z => ?_) hv)
        obtain ⟨rfl, hv⟩ := z
        refine gk_aload_n (pc := 136) (DX12_spells_1.at 18 rfl) 0 rfl rfl ?_
        refine gk_iload_n (pc := 137) (DX12_spells_1.at 19 rfl) 1 rfl rfl ?_
        obtain ⟨⟨fs6, q6⟩, hv⟩ := hv
        refine gk_vV (pc := 138) [.int x1] [] (DX12_spells_1.at 20 rfl) cvX12_306 q6 rfl rfl (Nat.le_of_ble_eq_true rfl) (Nat.le_of_ble_eq_true rfl) (gk_Run.post (fun o h6 z => ?_) hv)
        obtain ⟨rfl, hv⟩ := z
        refine gk_aload_n (pc := 141) (DX12_spells_1.at 21 rfl) 0 rfl rfl ?_
        refine gk_iload_n (pc := 142) (DX12_spells_1.at 22 rfl) 2 rfl rfl ?_
        obtain ⟨⟨fs7, q7⟩, hv⟩ := hv
        refine gk_vV (pc := 143) [.int x2] [] (DX12_spells_1.at 23 rfl) cvX12_306 q7 rfl rfl (Nat.le_of_ble_eq_true rfl) (Nat.le_of_ble_eq_true rfl) (gk_Run.post (fun o h7 z => ?_) hv)
        obtain ⟨rfl, hv⟩ := z
        refine gk_aload_n (pc := 146) (DX12_spells_1.at 24 rfl) 0 rfl rfl ?_
        refine gk_iload_n (pc := 147) (DX12_spells_1.at 25 rfl) 3 rfl rfl ?_
        obtain ⟨⟨fs8, q8⟩, hv⟩ := hv
        refine gk_vV (pc := 148) [.int x3] [] (DX12_spells_1.at 26 rfl) cvX12_306 q8 rfl rfl (Nat.le_of_ble_eq_true rfl) (Nat.le_of_ble_eq_true rfl) (gk_Run.post (fun o h8 z => ?_) hv)
        obtain ⟨rfl, hv⟩ := z
        refine gk_iinc (pc := 151) (x3 + nI 1) [(3, .int (x3 + nI 1)), (0, .ref o), (1, .int x1), (2, .int x2)] 3 (DX12_spells_1.at 27 rfl) rfl (by rw [ci_1]) (Nat.le_of_ble_eq_true rfl) rfl ?_
        refine gk_goto (pc := 154) 97 (DX12_spells_1.at 28 rfl) (by decide) ?_
        exact gk_pick (pc := 97) [(0, .ref o), (1, .int x1), (2, .int x2), (3, .int (x3 + nI 1))] [1, 2, 3, 0] rfl hv
abbrev pX12_statement_14 (E : gk_E) (dd : Nat) (o : Nat) (x1 : Int32) (x2 : Int32) (h : gk_H) (K : Int32 → gk_H → Prop) : Prop := gk_G E mX12_statement (dd + 1, 0, 0) 14 [(0, .ref o), (1, .int x1), (2, .int x2)] [] h (fun o h1 => ∃ v, o = some (.int v) ∧ K v h1)
set_option maxHeartbeats 4000000 in
theorem vX12_statement_0 {E : gk_E} {dd : Nat} {o : Nat}  {h : gk_H} {K : Int32 → gk_H → Prop} (hv : (∃ fs, h[o]? = some (.inr (11, fs))) ∧ RnI E mX12_word (dd, 0, 0) [.ref o] h (fun v1 h1 => (¬ v1 = ((-1)) → pX12_statement_14 E dd o v1 (nI 0) h1 K) ∧ (v1 = ((-1)) → K ((-1)) h1))) : RnI E mX12_statement (dd + 1, 0, 0) [.ref o] h K := by
  show gk_G E mX12_statement (dd + 1, 0, 0) 0 [(0, .ref o)] [] h (fun o h1 => ∃ v, o = some (.int v) ∧ K v h1)
  refine gk_aload_n (pc := 0) (DX12_statement_0.at 0 rfl) 0 rfl rfl ?_
  obtain ⟨⟨fs1, q1⟩, hv⟩ := hv
  refine gk_vV (pc := 1) [] [] (DX12_statement_0.at 1 rfl) cvX12_273 q1 rfl rfl (Nat.le_of_ble_eq_true rfl) (Nat.le_of_ble_eq_true rfl) (gk_Run.post (fun o h1 z => ?_) hv)
  obtain ⟨v1, rfl, hv⟩ := z
  refine gk_istore_n (pc := 4) [(1, .int v1), (0, .ref o)] (DX12_statement_0.at 2 rfl) rfl (Nat.le_of_ble_eq_true rfl) rfl ?_
  refine gk_iload_n (pc := 5) (DX12_statement_0.at 3 rfl) 0 rfl rfl ?_
  refine gk_iconst (pc := 6) ((-1)) (DX12_statement_0.at 4 rfl) ci_m1 ?_
  refine gk_icmp_ne (pc := 7) 12 (DX12_statement_0.at 5 rfl) (by decide) (fun c => ?_) (fun c => ?_)
  · replace hv := hv.1 c
    refine gk_iconst (pc := 12) (nI 0) (DX12_statement_0.at 8 rfl) ci_0 ?_
    refine gk_istore_n (pc := 13) [(2, .int (nI 0)), (1, .int v1), (0, .ref o)] (DX12_statement_0.at 9 rfl) rfl (Nat.le_of_ble_eq_true rfl) rfl ?_
    exact gk_pick (pc := 14) [(0, .ref o), (1, .int v1), (2, .int (nI 0))] [2, 1, 0] rfl hv
  · replace hv := hv.2 c
    refine gk_iconst (pc := 10) ((-1)) (DX12_statement_0.at 6 rfl) ci_m1 ?_
    exact gk_ireturn (pc := 11) .int (DX12_statement_0.at 7 rfl) rfl rfl ⟨_, rfl, hv⟩
set_option maxHeartbeats 4000000 in
theorem vX12_statement_14 {E : gk_E} {dd : Nat} {o : Nat} {x1 : Int32} {x2 : Int32}  {h : gk_H} {K : Int32 → gk_H → Prop} (hv : LdR h o 11 18 fun v1 => AlI h v1 x1 fun v2 => (v2 ≤ x2 → K x1 h) ∧ (¬ v2 ≤ x2 → (∃ fs, h[o]? = some (.inr (11, fs))) ∧ RnI E mX12_isAt (dd, 0, 0) [.ref o, .int (nI 32), .int (nI 32)] h (fun v3 h3 => (¬ v3 = 0 → LdI h3 o 11 22 fun v4 => StI h3 o 11 22 (v4 + (nI 1)) fun h5 => (∃ fs, h5[o]? = some (.inr (11, fs))) ∧ RnI E mX12_isAt (dd, 0, 0) [.ref o, .int (nI 48), .int (nI 57)] h5 (fun v6 h6 => (¬ v6 = 0 → LdR h6 o 11 23 fun v7 => LdR h6 o 11 19 fun v8 => LdI h6 o 11 22 fun v9 => AlI h6 v8 v9 fun v10 => AsI h6 v7 x2 (v10 - (nI 48)) fun h11 => LdI h11 o 11 22 fun v12 => StI h11 o 11 22 (v12 + (nI 1)) fun h13 => pX12_statement_14 E dd o x1 (x2 + nI 1) h13 K) ∧ (v6 = 0 → K ((-1)) h6))) ∧ (v3 = 0 → K ((-1)) h3)))) : pX12_statement_14 E dd o x1 x2 h K := by
  show gk_G E mX12_statement (dd + 1, 0, 0) 14 [(0, .ref o), (1, .int x1), (2, .int x2)] [] h (fun o h1 => ∃ v, o = some (.int v) ∧ K v h1)
  refine gk_iload_n (pc := 14) (DX12_statement_0.at 10 rfl) 2 rfl rfl ?_
  refine gk_aload_n (pc := 15) (DX12_statement_0.at 11 rfl) 0 rfl rfl ?_
  obtain ⟨fs1, v1, q1, r1, hv⟩ := hv
  refine gk_get (pc := 16) (.ref v1) (DX12_statement_0.at 12 rfl) fX12_46_11 q1 r1 ?_
  refine gk_iload_n (pc := 19) (DX12_statement_0.at 13 rfl) 1 rfl rfl ?_
  obtain ⟨n2, f2, q2, r2, hv⟩ := hv
  refine gk_iald (pc := 20) (DX12_statement_0.at 14 rfl) q2 r2 ?_
  generalize f2 _ = v2 at hv ⊢
  refine gk_icmp_ge (pc := 21) 94 (DX12_statement_0.at 15 rfl) (by decide) (fun c => ?_) (fun c => ?_)
  · replace hv := hv.1 c
    refine gk_iload_n (pc := 94) (DX12_statement_0.at 55 rfl) 1 rfl rfl ?_
    exact gk_ireturn (pc := 95) .int (DX12_statement_0.at 56 rfl) rfl rfl ⟨_, rfl, hv⟩
  · replace hv := hv.2 c
    refine gk_aload_n (pc := 24) (DX12_statement_0.at 16 rfl) 0 rfl rfl ?_
    refine gk_bipush (pc := 25) (nI 32) (DX12_statement_0.at 17 rfl) cb_32 ?_
    refine gk_bipush (pc := 27) (nI 32) (DX12_statement_0.at 18 rfl) cb_32 ?_
    obtain ⟨⟨fs3, q3⟩, hv⟩ := hv
    refine gk_vV (pc := 29) [.int (nI 32), .int (nI 32)] [] (DX12_statement_0.at 19 rfl) cvX12_270 q3 rfl rfl (Nat.le_of_ble_eq_true rfl) (Nat.le_of_ble_eq_true rfl) (gk_Run.post (fun o h3 z => ?_) hv)
    obtain ⟨v3, rfl, hv⟩ := z
    refine gk_if_ne (pc := 32) 37 (DX12_statement_0.at 20 rfl) (by decide) (fun c => ?_) (fun c => ?_)
    · replace hv := hv.1 c
      refine gk_aload_n (pc := 37) (DX12_statement_0.at 23 rfl) 0 rfl rfl ?_
      refine gk_dup (pc := 38) (DX12_statement_0.at 24 rfl) rfl ?_
      obtain ⟨fs4, v4, q4, r4, hv⟩ := hv
      refine gk_get (pc := 39) (.int v4) (DX12_statement_0.at 25 rfl) fX12_264_11 q4 r4 ?_
      refine gk_iconst (pc := 42) (nI 1) (DX12_statement_0.at 26 rfl) ci_1 ?_
      refine gk_iadd (pc := 43) (DX12_statement_0.at 27 rfl) ?_
      obtain ⟨fs5, q5, r5, hv⟩ := hv
      refine gk_put (pc := 44) (DX12_statement_0.at 28 rfl) fX12_264_11w q5 r5 rfl rfl ?_
      generalize h3.set _ _ = h5 at hv ⊢
      refine gk_aload_n (pc := 47) (DX12_statement_0.at 29 rfl) 0 rfl rfl ?_
      refine gk_bipush (pc := 48) (nI 48) (DX12_statement_0.at 30 rfl) cb_48 ?_
      refine gk_bipush (pc := 50) (nI 57) (DX12_statement_0.at 31 rfl) cb_57 ?_
      obtain ⟨⟨fs6, q6⟩, hv⟩ := hv
      refine gk_vV (pc := 52) [.int (nI 48), .int (nI 57)] [] (DX12_statement_0.at 32 rfl) cvX12_270 q6 rfl rfl (Nat.le_of_ble_eq_true rfl) (Nat.le_of_ble_eq_true rfl) (gk_Run.post (fun o h6 z => ?_) hv)
      obtain ⟨v6, rfl, hv⟩ := z
      refine gk_if_ne (pc := 55) 60 (DX12_statement_0.at 33 rfl) (by decide) (fun c => ?_) (fun c => ?_)
      · replace hv := hv.1 c
        refine gk_aload_n (pc := 60) (DX12_statement_0.at 36 rfl) 0 rfl rfl ?_
        obtain ⟨fs7, v7, q7, r7, hv⟩ := hv
        refine gk_get (pc := 61) (.ref v7) (DX12_statement_0.at 37 rfl) fX12_52_11 q7 r7 ?_
        refine gk_iload_n (pc := 64) (DX12_statement_0.at 38 rfl) 2 rfl rfl ?_
        refine gk_aload_n (pc := 65) (DX12_statement_0.at 39 rfl) 0 rfl rfl ?_
        obtain ⟨fs8, v8, q8, r8, hv⟩ := hv
        refine gk_get (pc := 66) (.ref v8) (DX12_statement_0.at 40 rfl) fX12_49_11 q8 r8 ?_
        refine gk_aload_n (pc := 69) (DX12_statement_0.at 41 rfl) 0 rfl rfl ?_
        obtain ⟨fs9, v9, q9, r9, hv⟩ := hv
        refine gk_get (pc := 70) (.int v9) (DX12_statement_0.at 42 rfl) fX12_264_11 q9 r9 ?_
        obtain ⟨n10, f10, q10, r10, hv⟩ := hv
        refine gk_iald (pc := 73) (DX12_statement_0.at 43 rfl) q10 r10 ?_
        generalize f10 _ = v10 at hv ⊢
        refine gk_bipush (pc := 74) (nI 48) (DX12_statement_0.at 44 rfl) cb_48 ?_
        refine gk_isub (pc := 76) (DX12_statement_0.at 45 rfl) ?_
        obtain ⟨n11, f11, q11, r11, hv⟩ := hv
        refine gk_iast (pc := 77) (DX12_statement_0.at 46 rfl) q11 r11 ?_
        generalize h6.set _ _ = h11 at hv ⊢
        refine gk_aload_n (pc := 78) (DX12_statement_0.at 47 rfl) 0 rfl rfl ?_
        refine gk_dup (pc := 79) (DX12_statement_0.at 48 rfl) rfl ?_
        obtain ⟨fs12, v12, q12, r12, hv⟩ := hv
        refine gk_get (pc := 80) (.int v12) (DX12_statement_0.at 49 rfl) fX12_264_11 q12 r12 ?_
        refine gk_iconst (pc := 83) (nI 1) (DX12_statement_0.at 50 rfl) ci_1 ?_
        refine gk_iadd (pc := 84) (DX12_statement_0.at 51 rfl) ?_
        obtain ⟨fs13, q13, r13, hv⟩ := hv
        refine gk_put (pc := 85) (DX12_statement_0.at 52 rfl) fX12_264_11w q13 r13 rfl rfl ?_
        generalize h11.set _ _ = h13 at hv ⊢
        refine gk_iinc (pc := 88) (x2 + nI 1) [(2, .int (x2 + nI 1)), (0, .ref o), (1, .int x1)] 2 (DX12_statement_0.at 53 rfl) rfl (by rw [ci_1]) (Nat.le_of_ble_eq_true rfl) rfl ?_
        refine gk_goto (pc := 91) 14 (DX12_statement_0.at 54 rfl) (by decide) ?_
        exact gk_pick (pc := 14) [(0, .ref o), (1, .int x1), (2, .int (x2 + nI 1))] [1, 2, 0] rfl hv
      · replace hv := hv.2 c
        refine gk_iconst (pc := 58) ((-1)) (DX12_statement_0.at 34 rfl) ci_m1 ?_
        exact gk_ireturn (pc := 59) .int (DX12_statement_0.at 35 rfl) rfl rfl ⟨_, rfl, hv⟩
    · replace hv := hv.2 c
      refine gk_iconst (pc := 35) ((-1)) (DX12_statement_0.at 21 rfl) ci_m1 ?_
      exact gk_ireturn (pc := 36) .int (DX12_statement_0.at 22 rfl) rfl rfl ⟨_, rfl, hv⟩
set_option maxHeartbeats 4000000 in
theorem vX12_take_0 {E : gk_E} {dd : Nat} {o : Nat} {x1 : Int32}  {h : gk_H} {K : Int32 → gk_H → Prop} (hv : RnI E mX12_isNet (dd, 0, 0) [.int x1] h (fun v1 h1 => (¬ v1 = 0 → LdI h1 o 11 6 fun v2 => (¬ v2 = 0 → (∃ fs, h1[o]? = some (.inr (11, fs))) ∧ RnV E mX12_likens (dd, 0, 0) [.ref o, .int (nI 4), .int x1] h1 (fun h3 => LdR h3 o 11 3 fun v4 => AlI h3 v4 x1 fun v5 => K v5 h3)) ∧ (v2 = 0 → K ((-3)) h1)) ∧ (v1 = 0 → K ((-1)) h1))) : RnI E mX12_take (dd + 1, 0, 0) [.ref o, .int x1] h K := by
  show gk_G E mX12_take (dd + 1, 0, 0) 0 [(0, .ref o), (1, .int x1)] [] h (fun o h1 => ∃ v, o = some (.int v) ∧ K v h1)
  refine gk_iload_n (pc := 0) (DX12_take_0.at 0 rfl) 1 rfl rfl ?_
  refine gk_vS (pc := 1) [.int x1] [] (DX12_take_0.at 1 rfl) csX12_145 rfl rfl (Nat.le_of_ble_eq_true rfl) (Nat.le_of_ble_eq_true rfl) (gk_Run.post (fun o h1 z => ?_) hv)
  obtain ⟨v1, rfl, hv⟩ := z
  refine gk_if_ne (pc := 4) 9 (DX12_take_0.at 2 rfl) (by decide) (fun c => ?_) (fun c => ?_)
  · replace hv := hv.1 c
    refine gk_aload_n (pc := 9) (DX12_take_0.at 5 rfl) 0 rfl rfl ?_
    obtain ⟨fs2, v2, q2, r2, hv⟩ := hv
    refine gk_get (pc := 10) (.int v2) (DX12_take_0.at 6 rfl) fX12_78_11 q2 r2 ?_
    refine gk_if_ne (pc := 13) 19 (DX12_take_0.at 7 rfl) (by decide) (fun c => ?_) (fun c => ?_)
    · replace hv := hv.1 c
      refine gk_aload_n (pc := 19) (DX12_take_0.at 10 rfl) 0 rfl rfl ?_
      refine gk_iconst (pc := 20) (nI 4) (DX12_take_0.at 11 rfl) ci_4 ?_
      refine gk_iload_n (pc := 21) (DX12_take_0.at 12 rfl) 1 rfl rfl ?_
      obtain ⟨⟨fs3, q3⟩, hv⟩ := hv
      refine gk_vV (pc := 22) [.int (nI 4), .int x1] [] (DX12_take_0.at 13 rfl) cvX12_161 q3 rfl rfl (Nat.le_of_ble_eq_true rfl) (Nat.le_of_ble_eq_true rfl) (gk_Run.post (fun o h3 z => ?_) hv)
      obtain ⟨rfl, hv⟩ := z
      refine gk_aload_n (pc := 25) (DX12_take_0.at 14 rfl) 0 rfl rfl ?_
      obtain ⟨fs4, v4, q4, r4, hv⟩ := hv
      refine gk_get (pc := 26) (.ref v4) (DX12_take_0.at 15 rfl) fX12_23_11 q4 r4 ?_
      refine gk_iload_n (pc := 29) (DX12_take_0.at 16 rfl) 1 rfl rfl ?_
      obtain ⟨n5, f5, q5, r5, hv⟩ := hv
      refine gk_iald (pc := 30) (DX12_take_0.at 17 rfl) q5 r5 ?_
      generalize f5 _ = v5 at hv ⊢
      exact gk_ireturn (pc := 31) .int (DX12_take_0.at 18 rfl) rfl rfl ⟨_, rfl, hv⟩
    · replace hv := hv.2 c
      refine gk_bipush (pc := 16) ((-3)) (DX12_take_0.at 8 rfl) cb_m3 ?_
      exact gk_ireturn (pc := 18) .int (DX12_take_0.at 9 rfl) rfl rfl ⟨_, rfl, hv⟩
  · replace hv := hv.2 c
    refine gk_iconst (pc := 7) ((-1)) (DX12_take_0.at 3 rfl) ci_m1 ?_
    exact gk_ireturn (pc := 8) .int (DX12_take_0.at 4 rfl) rfl rfl ⟨_, rfl, hv⟩
abbrev pX12_triangle_61 (E : gk_E) (dd : Nat) (o : Nat) (x1 : Int32) (x2 : Int32) (x3 : Int32) (x4 : Int32) (x5 : Int32) (x6 : Int32) (h : gk_H) (K : Int32 → gk_H → Prop) : Prop := gk_G E mX12_triangle (dd + 1, 0, 0) 61 [(0, .ref o), (1, .int x1), (2, .int x2), (3, .int x3), (4, .int x4), (5, .int x5), (6, .int x6)] [] h (fun o h1 => ∃ v, o = some (.int v) ∧ K v h1)
set_option maxHeartbeats 4000000 in
theorem vX12_triangle_0 {E : gk_E} {dd : Nat} {o : Nat} {x1 : Int32} {x2 : Int32} {x3 : Int32} {x4 : Int32}  {h : gk_H} {K : Int32 → gk_H → Prop} (hv : (∃ fs, h[o]? = some (.inr (11, fs))) ∧ RnI E mX12_isAtom (dd, 0, 0) [.ref o, .int x1] h (fun v1 h1 => (v1 = 0 → K ((-1)) h1) ∧ (¬ v1 = 0 → (∃ fs, h1[o]? = some (.inr (11, fs))) ∧ RnI E mX12_isAtom (dd, 0, 0) [.ref o, .int x2] h1 (fun v2 h2 => (v2 = 0 → K ((-1)) h2) ∧ (¬ v2 = 0 → (∃ fs, h2[o]? = some (.inr (11, fs))) ∧ RnI E mX12_isAtom (dd, 0, 0) [.ref o, .int x3] h2 (fun v3 h3 => (¬ v3 = 0 → RnI E mX12_isFrom (dd, 0, 0) [.long x4.toInt64, .long (lN 0), .long (lN 1)] h3 (fun v4 h4 => (¬ v4 = 0 → (x1 = 0 → K ((-3)) h4) ∧ (¬ x1 = 0 → (x2 = 0 → K ((-3)) h4) ∧ (¬ x2 = 0 → (¬ x3 = 0 → pX12_triangle_61 E dd o x1 x2 x3 x4 (nI 0) (nI 0) h4 K) ∧ (x3 = 0 → K ((-3)) h4)))) ∧ (v4 = 0 → K ((-2)) h4))) ∧ (v3 = 0 → K ((-1)) h3))))))) : RnI E mX12_triangle (dd + 1, 0, 0) [.ref o, .int x1, .int x2, .int x3, .int x4] h K := by
  show gk_G E mX12_triangle (dd + 1, 0, 0) 0 [(0, .ref o), (1, .int x1), (2, .int x2), (3, .int x3), (4, .int x4)] [] h (fun o h1 => ∃ v, o = some (.int v) ∧ K v h1)
  refine gk_aload_n (pc := 0) (DX12_triangle_0.at 0 rfl) 0 rfl rfl ?_
  refine gk_iload_n (pc := 1) (DX12_triangle_0.at 1 rfl) 1 rfl rfl ?_
  obtain ⟨⟨fs1, q1⟩, hv⟩ := hv
  refine gk_vV (pc := 2) [.int x1] [] (DX12_triangle_0.at 2 rfl) cvX12_98 q1 rfl rfl (Nat.le_of_ble_eq_true rfl) (Nat.le_of_ble_eq_true rfl) (gk_Run.post (fun o h1 z => ?_) hv)
  obtain ⟨v1, rfl, hv⟩ := z
  refine gk_if_eq (pc := 5) 24 (DX12_triangle_0.at 3 rfl) (by decide) (fun c => ?_) (fun c => ?_)
  · replace hv := hv.1 c
    refine gk_iconst (pc := 24) ((-1)) (DX12_triangle_0.at 12 rfl) ci_m1 ?_
    exact gk_ireturn (pc := 25) .int (DX12_triangle_0.at 13 rfl) rfl rfl ⟨_, rfl, hv⟩
  · replace hv := hv.2 c
    refine gk_aload_n (pc := 8) (DX12_triangle_0.at 4 rfl) 0 rfl rfl ?_
    refine gk_iload_n (pc := 9) (DX12_triangle_0.at 5 rfl) 2 rfl rfl ?_
    obtain ⟨⟨fs2, q2⟩, hv⟩ := hv
    refine gk_vV (pc := 10) [.int x2] [] (DX12_triangle_0.at 6 rfl) cvX12_98 q2 rfl rfl (Nat.le_of_ble_eq_true rfl) (Nat.le_of_ble_eq_true rfl) (gk_Run.post (fun o h2 z => ?_) hv)
    obtain ⟨v2, rfl, hv⟩ := z
    refine gk_if_eq (pc := 13) 24 (DX12_triangle_0.at 7 rfl) (by decide) (fun c => ?_) (fun c => ?_)
    · replace hv := hv.1 c
      refine gk_iconst (pc := 24) ((-1)) (DX12_triangle_0.at 12 rfl) ci_m1 ?_
      exact gk_ireturn (pc := 25) .int (DX12_triangle_0.at 13 rfl) rfl rfl ⟨_, rfl, hv⟩
    · replace hv := hv.2 c
      refine gk_aload_n (pc := 16) (DX12_triangle_0.at 8 rfl) 0 rfl rfl ?_
      refine gk_iload_n (pc := 17) (DX12_triangle_0.at 9 rfl) 3 rfl rfl ?_
      obtain ⟨⟨fs3, q3⟩, hv⟩ := hv
      refine gk_vV (pc := 18) [.int x3] [] (DX12_triangle_0.at 10 rfl) cvX12_98 q3 rfl rfl (Nat.le_of_ble_eq_true rfl) (Nat.le_of_ble_eq_true rfl) (gk_Run.post (fun o h3 z => ?_) hv)
      obtain ⟨v3, rfl, hv⟩ := z
      refine gk_if_ne (pc := 21) 26 (DX12_triangle_0.at 11 rfl) (by decide) (fun c => ?_) (fun c => ?_)
      · replace hv := hv.1 c
        refine gk_iload (pc := 26) (DX12_triangle_0.at 14 rfl) 4 rfl ?_
        refine gk_i2l (pc := 28) (DX12_triangle_0.at 15 rfl) ?_
        refine gk_lconst (pc := 29) (lN 0) (DX12_triangle_0.at 16 rfl) rfl ?_
        refine gk_lconst (pc := 30) (lN 1) (DX12_triangle_0.at 17 rfl) rfl ?_
        refine gk_vS (pc := 31) [.long x4.toInt64, .long (lN 0), .long (lN 1)] [] (DX12_triangle_0.at 18 rfl) csX12_70 rfl rfl (Nat.le_of_ble_eq_true rfl) (Nat.le_of_ble_eq_true rfl) (gk_Run.post (fun o h4 z => ?_) hv)
        obtain ⟨v4, rfl, hv⟩ := z
        refine gk_if_ne (pc := 34) 40 (DX12_triangle_0.at 19 rfl) (by decide) (fun c => ?_) (fun c => ?_)
        · replace hv := hv.1 c
          refine gk_iload_n (pc := 40) (DX12_triangle_0.at 22 rfl) 1 rfl rfl ?_
          refine gk_if_eq (pc := 41) 52 (DX12_triangle_0.at 23 rfl) (by decide) (fun c => ?_) (fun c => ?_)
          · replace hv := hv.1 c
            refine gk_bipush (pc := 52) ((-3)) (DX12_triangle_0.at 28 rfl) cb_m3 ?_
            exact gk_ireturn (pc := 54) .int (DX12_triangle_0.at 29 rfl) rfl rfl ⟨_, rfl, hv⟩
          · replace hv := hv.2 c
            refine gk_iload_n (pc := 44) (DX12_triangle_0.at 24 rfl) 2 rfl rfl ?_
            refine gk_if_eq (pc := 45) 52 (DX12_triangle_0.at 25 rfl) (by decide) (fun c => ?_) (fun c => ?_)
            · replace hv := hv.1 c
              refine gk_bipush (pc := 52) ((-3)) (DX12_triangle_0.at 28 rfl) cb_m3 ?_
              exact gk_ireturn (pc := 54) .int (DX12_triangle_0.at 29 rfl) rfl rfl ⟨_, rfl, hv⟩
            · replace hv := hv.2 c
              refine gk_iload_n (pc := 48) (DX12_triangle_0.at 26 rfl) 3 rfl rfl ?_
              refine gk_if_ne (pc := 49) 55 (DX12_triangle_0.at 27 rfl) (by decide) (fun c => ?_) (fun c => ?_)
              · replace hv := hv.1 c
                refine gk_iconst (pc := 55) (nI 0) (DX12_triangle_0.at 30 rfl) ci_0 ?_
                refine gk_istore (pc := 56) [(5, .int (nI 0)), (0, .ref o), (1, .int x1), (2, .int x2), (3, .int x3), (4, .int x4)] (DX12_triangle_0.at 31 rfl) (Nat.le_of_ble_eq_true rfl) rfl ?_
                refine gk_iconst (pc := 58) (nI 0) (DX12_triangle_0.at 32 rfl) ci_0 ?_
                refine gk_istore (pc := 59) [(6, .int (nI 0)), (5, .int (nI 0)), (0, .ref o), (1, .int x1), (2, .int x2), (3, .int x3), (4, .int x4)] (DX12_triangle_0.at 33 rfl) (Nat.le_of_ble_eq_true rfl) rfl ?_
                exact gk_pick (pc := 61) [(0, .ref o), (1, .int x1), (2, .int x2), (3, .int x3), (4, .int x4), (5, .int (nI 0)), (6, .int (nI 0))] [2, 3, 4, 5, 6, 1, 0] rfl hv
              · replace hv := hv.2 c
                refine gk_bipush (pc := 52) ((-3)) (DX12_triangle_0.at 28 rfl) cb_m3 ?_
                exact gk_ireturn (pc := 54) .int (DX12_triangle_0.at 29 rfl) rfl rfl ⟨_, rfl, hv⟩
        · replace hv := hv.2 c
          refine gk_bipush (pc := 37) ((-2)) (DX12_triangle_0.at 20 rfl) cb_m2 ?_
          exact gk_ireturn (pc := 39) .int (DX12_triangle_0.at 21 rfl) rfl rfl ⟨_, rfl, hv⟩
      · replace hv := hv.2 c
        refine gk_iconst (pc := 24) ((-1)) (DX12_triangle_0.at 12 rfl) ci_m1 ?_
        exact gk_ireturn (pc := 25) .int (DX12_triangle_0.at 13 rfl) rfl rfl ⟨_, rfl, hv⟩
set_option maxHeartbeats 4000000 in
theorem vX12_triangle_61 {E : gk_E} {dd : Nat} {o : Nat} {x1 : Int32} {x2 : Int32} {x3 : Int32} {x4 : Int32} {x5 : Int32} {x6 : Int32}  {h : gk_H} {K : Int32 → gk_H → Prop} (hv : ((nI 6) ≤ x6 → K x5 h) ∧ (¬ (nI 6) ≤ x6 → (∃ fs, h[o]? = some (.inr (11, fs))) ∧ RnI E mX12_turn (dd, 0, 0) [.ref o, .int x1, .int x2, .int x3, .int x6] h (fun v1 h1 => LdR h1 o 11 2 fun v2 => AlZ h1 v2 v1 fun v3 => (¬ x4 = (nI 1) → (¬ v3 = (nI 0) → LdR h1 o 11 2 fun v4 => (¬ x4 = (nI 1) → AsZ h1 v4 v1 (nI 0) fun h5 => pX12_triangle_61 E dd o x1 x2 x3 x4 (x5 + (nI 1)) (x6 + nI 1) h5 K) ∧ (x4 = (nI 1) → AsZ h1 v4 v1 (nI 1) fun h6 => pX12_triangle_61 E dd o x1 x2 x3 x4 (x5 + (nI 1)) (x6 + nI 1) h6 K)) ∧ (v3 = (nI 0) → LdR h1 o 11 2 fun v7 => (¬ x4 = (nI 1) → AsZ h1 v7 v1 (nI 0) fun h8 => pX12_triangle_61 E dd o x1 x2 x3 x4 (x5 + (nI 0)) (x6 + nI 1) h8 K) ∧ (x4 = (nI 1) → AsZ h1 v7 v1 (nI 1) fun h9 => pX12_triangle_61 E dd o x1 x2 x3 x4 (x5 + (nI 0)) (x6 + nI 1) h9 K))) ∧ (x4 = (nI 1) → (¬ v3 = (nI 1) → LdR h1 o 11 2 fun v10 => (¬ x4 = (nI 1) → AsZ h1 v10 v1 (nI 0) fun h11 => pX12_triangle_61 E dd o x1 x2 x3 x4 (x5 + (nI 1)) (x6 + nI 1) h11 K) ∧ (x4 = (nI 1) → AsZ h1 v10 v1 (nI 1) fun h12 => pX12_triangle_61 E dd o x1 x2 x3 x4 (x5 + (nI 1)) (x6 + nI 1) h12 K)) ∧ (v3 = (nI 1) → LdR h1 o 11 2 fun v13 => (¬ x4 = (nI 1) → AsZ h1 v13 v1 (nI 0) fun h14 => pX12_triangle_61 E dd o x1 x2 x3 x4 (x5 + (nI 0)) (x6 + nI 1) h14 K) ∧ (x4 = (nI 1) → AsZ h1 v13 v1 (nI 1) fun h15 => pX12_triangle_61 E dd o x1 x2 x3 x4 (x5 + (nI 0)) (x6 + nI 1) h15 K)))))) : pX12_triangle_61 E dd o x1 x2 x3 x4 x5 x6 h K := by
  show gk_G E mX12_triangle (dd + 1, 0, 0) 61 [(0, .ref o), (1, .int x1), (2, .int x2), (3, .int x3), (4, .int x4), (5, .int x5), (6, .int x6)] [] h (fun o h1 => ∃ v, o = some (.int v) ∧ K v h1)
  refine gk_iload (pc := 61) (DX12_triangle_0.at 34 rfl) 6 rfl ?_
  refine gk_bipush (pc := 63) (nI 6) (DX12_triangle_0.at 35 rfl) cb_6 ?_
  refine gk_icmp_ge (pc := 65) 134 (DX12_triangle_0.at 36 rfl) (by decide) (fun c => ?_) (fun c => ?_)
  · replace hv := hv.1 c
    refine gk_iload (pc := 134) (DX12_triangle_1.at 13 rfl) 5 rfl ?_
    exact gk_ireturn (pc := 136) .int (DX12_triangle_1.at 14 rfl) rfl rfl ⟨_, rfl, hv⟩
  · replace hv := hv.2 c
    refine gk_aload_n (pc := 68) (DX12_triangle_0.at 37 rfl) 0 rfl rfl ?_
    refine gk_iload_n (pc := 69) (DX12_triangle_0.at 38 rfl) 1 rfl rfl ?_
    refine gk_iload_n (pc := 70) (DX12_triangle_0.at 39 rfl) 2 rfl rfl ?_
    refine gk_iload_n (pc := 71) (DX12_triangle_0.at 40 rfl) 3 rfl rfl ?_
    refine gk_iload (pc := 72) (DX12_triangle_0.at 41 rfl) 6 rfl ?_
    obtain ⟨⟨fs1, q1⟩, hv⟩ := hv
    refine gk_vV (pc := 74) [.int x1, .int x2, .int x3, .int x6] [] (DX12_triangle_0.at 42 rfl) cvX12_101 q1 rfl rfl (Nat.le_of_ble_eq_true rfl) (Nat.le_of_ble_eq_true rfl) (gk_Run.post (fun o h1 z => ?_) hv)
    obtain ⟨v1, rfl, hv⟩ := z
    refine gk_istore (pc := 77) [(7, .int v1), (0, .ref o), (1, .int x1), (2, .int x2), (3, .int x3), (4, .int x4), (5, .int x5), (6, .int x6)] (DX12_triangle_0.at 43 rfl) (Nat.le_of_ble_eq_true rfl) rfl ?_
    refine gk_iload (pc := 79) (DX12_triangle_0.at 44 rfl) 6 rfl ?_
    refine gk_aload_n (pc := 81) (DX12_triangle_0.at 45 rfl) 1 rfl rfl ?_
    obtain ⟨fs2, v2, q2, r2, hv⟩ := hv
    refine gk_get (pc := 82) (.ref v2) (DX12_triangle_0.at 46 rfl) fX12_19_11 q2 r2 ?_
    refine gk_iload (pc := 85) (DX12_triangle_0.at 47 rfl) 0 rfl ?_
    obtain ⟨n3, f3, q3, r3, hv⟩ := hv
    refine gk_zald (pc := 87) (DX12_triangle_0.at 48 rfl) q3 r3 ?_
    generalize f3 _ = v3 at hv ⊢
    refine gk_iload (pc := 88) (DX12_triangle_0.at 49 rfl) 5 rfl ?_
    refine gk_iconst (pc := 90) (nI 1) (DX12_triangle_0.at 50 rfl) ci_1 ?_
    refine gk_icmp_ne (pc := 91) 98 (DX12_triangle_0.at 51 rfl) (by decide) (fun c => ?_) (fun c => ?_)
    · replace hv := hv.1 c
      refine gk_iconst (pc := 98) (nI 0) (DX12_triangle_0.at 54 rfl) ci_0 ?_
      refine gk_icmp_ne (pc := 99) 106 (DX12_triangle_0.at 55 rfl) (by decide) (fun c => ?_) (fun c => ?_)
      · replace hv := hv.1 c
        refine gk_iconst (pc := 106) (nI 1) (DX12_triangle_0.at 58 rfl) ci_1 ?_
        refine gk_iadd (pc := 107) (DX12_triangle_0.at 59 rfl) ?_
        refine gk_istore (pc := 108) [(5, .int (x5 + (nI 1))), (7, .int v1), (0, .ref o), (1, .int x1), (2, .int x2), (3, .int x3), (4, .int x4), (6, .int x6)] (DX12_triangle_1.at 0 rfl) (Nat.le_of_ble_eq_true rfl) rfl ?_
        refine gk_aload_n (pc := 110) (DX12_triangle_1.at 1 rfl) 2 rfl rfl ?_
        obtain ⟨fs4, v4, q4, r4, hv⟩ := hv
        refine gk_get (pc := 111) (.ref v4) (DX12_triangle_1.at 2 rfl) fX12_19_11 q4 r4 ?_
        refine gk_iload (pc := 114) (DX12_triangle_1.at 3 rfl) 1 rfl ?_
        refine gk_iload (pc := 116) (DX12_triangle_1.at 4 rfl) 6 rfl ?_
        refine gk_iconst (pc := 118) (nI 1) (DX12_triangle_1.at 5 rfl) ci_1 ?_
        refine gk_icmp_ne (pc := 119) 126 (DX12_triangle_1.at 6 rfl) (by decide) (fun c => ?_) (fun c => ?_)
        · replace hv := hv.1 c
          refine gk_iconst (pc := 126) (nI 0) (DX12_triangle_1.at 9 rfl) ci_0 ?_
          obtain ⟨n5, f5, q5, r5, hv⟩ := hv
          refine gk_zast (pc := 127) (DX12_triangle_1.at 10 rfl) q5 r5 ?_
          generalize h1.set _ _ = h5 at hv ⊢
          refine gk_iinc (pc := 128) (x6 + nI 1) [(6, .int (x6 + nI 1)), (5, .int (x5 + (nI 1))), (7, .int v1), (0, .ref o), (1, .int x1), (2, .int x2), (3, .int x3), (4, .int x4)] 7 (DX12_triangle_1.at 11 rfl) rfl (by rw [ci_1]) (Nat.le_of_ble_eq_true rfl) rfl ?_
          refine gk_goto (pc := 131) 61 (DX12_triangle_1.at 12 rfl) (by decide) ?_
          exact gk_pick (pc := 61) [(0, .ref o), (1, .int x1), (2, .int x2), (3, .int x3), (4, .int x4), (5, .int (x5 + (nI 1))), (6, .int (x6 + nI 1))] [3, 4, 5, 6, 7, 1, 0] rfl hv
        · replace hv := hv.2 c
          refine gk_iconst (pc := 122) (nI 1) (DX12_triangle_1.at 7 rfl) ci_1 ?_
          refine gk_goto (pc := 123) 127 (DX12_triangle_1.at 8 rfl) (by decide) ?_
          obtain ⟨n6, f6, q6, r6, hv⟩ := hv
          refine gk_zast (pc := 127) (DX12_triangle_1.at 10 rfl) q6 r6 ?_
          generalize h1.set _ _ = h6 at hv ⊢
          refine gk_iinc (pc := 128) (x6 + nI 1) [(6, .int (x6 + nI 1)), (5, .int (x5 + (nI 1))), (7, .int v1), (0, .ref o), (1, .int x1), (2, .int x2), (3, .int x3), (4, .int x4)] 7 (DX12_triangle_1.at 11 rfl) rfl (by rw [ci_1]) (Nat.le_of_ble_eq_true rfl) rfl ?_
          refine gk_goto (pc := 131) 61 (DX12_triangle_1.at 12 rfl) (by decide) ?_
          exact gk_pick (pc := 61) [(0, .ref o), (1, .int x1), (2, .int x2), (3, .int x3), (4, .int x4), (5, .int (x5 + (nI 1))), (6, .int (x6 + nI 1))] [3, 4, 5, 6, 7, 1, 0] rfl hv
      · replace hv := hv.2 c
        refine gk_iconst (pc := 102) (nI 0) (DX12_triangle_0.at 56 rfl) ci_0 ?_
        refine gk_goto (pc := 103) 107 (DX12_triangle_0.at 57 rfl) (by decide) ?_
        refine gk_iadd (pc := 107) (DX12_triangle_0.at 59 rfl) ?_
        refine gk_istore (pc := 108) [(5, .int (x5 + (nI 0))), (7, .int v1), (0, .ref o), (1, .int x1), (2, .int x2), (3, .int x3), (4, .int x4), (6, .int x6)] (DX12_triangle_1.at 0 rfl) (Nat.le_of_ble_eq_true rfl) rfl ?_
        refine gk_aload_n (pc := 110) (DX12_triangle_1.at 1 rfl) 2 rfl rfl ?_
        obtain ⟨fs7, v7, q7, r7, hv⟩ := hv
        refine gk_get (pc := 111) (.ref v7) (DX12_triangle_1.at 2 rfl) fX12_19_11 q7 r7 ?_
        refine gk_iload (pc := 114) (DX12_triangle_1.at 3 rfl) 1 rfl ?_
        refine gk_iload (pc := 116) (DX12_triangle_1.at 4 rfl) 6 rfl ?_
        refine gk_iconst (pc := 118) (nI 1) (DX12_triangle_1.at 5 rfl) ci_1 ?_
        refine gk_icmp_ne (pc := 119) 126 (DX12_triangle_1.at 6 rfl) (by decide) (fun c => ?_) (fun c => ?_)
        · replace hv := hv.1 c
          refine gk_iconst (pc := 126) (nI 0) (DX12_triangle_1.at 9 rfl) ci_0 ?_
          obtain ⟨n8, f8, q8, r8, hv⟩ := hv
          refine gk_zast (pc := 127) (DX12_triangle_1.at 10 rfl) q8 r8 ?_
          generalize h1.set _ _ = h8 at hv ⊢
          refine gk_iinc (pc := 128) (x6 + nI 1) [(6, .int (x6 + nI 1)), (5, .int (x5 + (nI 0))), (7, .int v1), (0, .ref o), (1, .int x1), (2, .int x2), (3, .int x3), (4, .int x4)] 7 (DX12_triangle_1.at 11 rfl) rfl (by rw [ci_1]) (Nat.le_of_ble_eq_true rfl) rfl ?_
          refine gk_goto (pc := 131) 61 (DX12_triangle_1.at 12 rfl) (by decide) ?_
          exact gk_pick (pc := 61) [(0, .ref o), (1, .int x1), (2, .int x2), (3, .int x3), (4, .int x4), (5, .int (x5 + (nI 0))), (6, .int (x6 + nI 1))] [3, 4, 5, 6, 7, 1, 0] rfl hv
        · replace hv := hv.2 c
          refine gk_iconst (pc := 122) (nI 1) (DX12_triangle_1.at 7 rfl) ci_1 ?_
          refine gk_goto (pc := 123) 127 (DX12_triangle_1.at 8 rfl) (by decide) ?_
          obtain ⟨n9, f9, q9, r9, hv⟩ := hv
          refine gk_zast (pc := 127) (DX12_triangle_1.at 10 rfl) q9 r9 ?_
          generalize h1.set _ _ = h9 at hv ⊢
          refine gk_iinc (pc := 128) (x6 + nI 1) [(6, .int (x6 + nI 1)), (5, .int (x5 + (nI 0))), (7, .int v1), (0, .ref o), (1, .int x1), (2, .int x2), (3, .int x3), (4, .int x4)] 7 (DX12_triangle_1.at 11 rfl) rfl (by rw [ci_1]) (Nat.le_of_ble_eq_true rfl) rfl ?_
          refine gk_goto (pc := 131) 61 (DX12_triangle_1.at 12 rfl) (by decide) ?_
          exact gk_pick (pc := 61) [(0, .ref o), (1, .int x1), (2, .int x2), (3, .int x3), (4, .int x4), (5, .int (x5 + (nI 0))), (6, .int (x6 + nI 1))] [3, 4, 5, 6, 7, 1, 0] rfl hv
    · replace hv := hv.2 c
      refine gk_iconst (pc := 94) (nI 1) (DX12_triangle_0.at 52 rfl) ci_1 ?_
      refine gk_goto (pc := 95) 99 (DX12_triangle_0.at 53 rfl) (by decide) ?_
      refine gk_icmp_ne (pc := 99) 106 (DX12_triangle_0.at 55 rfl) (by decide) (fun c => ?_) (fun c => ?_)
      · replace hv := hv.1 c
        refine gk_iconst (pc := 106) (nI 1) (DX12_triangle_0.at 58 rfl) ci_1 ?_
        refine gk_iadd (pc := 107) (DX12_triangle_0.at 59 rfl) ?_
        refine gk_istore (pc := 108) [(5, .int (x5 + (nI 1))), (7, .int v1), (0, .ref o), (1, .int x1), (2, .int x2), (3, .int x3), (4, .int x4), (6, .int x6)] (DX12_triangle_1.at 0 rfl) (Nat.le_of_ble_eq_true rfl) rfl ?_
        refine gk_aload_n (pc := 110) (DX12_triangle_1.at 1 rfl) 2 rfl rfl ?_
        obtain ⟨fs10, v10, q10, r10, hv⟩ := hv
        refine gk_get (pc := 111) (.ref v10) (DX12_triangle_1.at 2 rfl) fX12_19_11 q10 r10 ?_
        refine gk_iload (pc := 114) (DX12_triangle_1.at 3 rfl) 1 rfl ?_
        refine gk_iload (pc := 116) (DX12_triangle_1.at 4 rfl) 6 rfl ?_
        refine gk_iconst (pc := 118) (nI 1) (DX12_triangle_1.at 5 rfl) ci_1 ?_
        refine gk_icmp_ne (pc := 119) 126 (DX12_triangle_1.at 6 rfl) (by decide) (fun c => ?_) (fun c => ?_)
        · replace hv := hv.1 c
          refine gk_iconst (pc := 126) (nI 0) (DX12_triangle_1.at 9 rfl) ci_0 ?_
          obtain ⟨n11, f11, q11, r11, hv⟩ := hv
          refine gk_zast (pc := 127) (DX12_triangle_1.at 10 rfl) q11 r11 ?_
          generalize h1.set _ _ = h11 at hv ⊢
          refine gk_iinc (pc := 128) (x6 + nI 1) [(6, .int (x6 + nI 1)), (5, .int (x5 + (nI 1))), (7, .int v1), (0, .ref o), (1, .int x1), (2, .int x2), (3, .int x3), (4, .int x4)] 7 (DX12_triangle_1.at 11 rfl) rfl (by rw [ci_1]) (Nat.le_of_ble_eq_true rfl) rfl ?_
          refine gk_goto (pc := 131) 61 (DX12_triangle_1.at 12 rfl) (by decide) ?_
          exact gk_pick (pc := 61) [(0, .ref o), (1, .int x1), (2, .int x2), (3, .int x3), (4, .int x4), (5, .int (x5 + (nI 1))), (6, .int (x6 + nI 1))] [3, 4, 5, 6, 7, 1, 0] rfl hv
        · replace hv := hv.2 c
          refine gk_iconst (pc := 122) (nI 1) (DX12_triangle_1.at 7 rfl) ci_1 ?_
          refine gk_goto (pc := 123) 127 (DX12_triangle_1.at 8 rfl) (by decide) ?_
          obtain ⟨n12, f12, q12, r12, hv⟩ := hv
          refine gk_zast (pc := 127) (DX12_triangle_1.at 10 rfl) q12 r12 ?_
          generalize h1.set _ _ = h12 at hv ⊢
          refine gk_iinc (pc := 128) (x6 + nI 1) [(6, .int (x6 + nI 1)), (5, .int (x5 + (nI 1))), (7, .int v1), (0, .ref o), (1, .int x1), (2, .int x2), (3, .int x3), (4, .int x4)] 7 (DX12_triangle_1.at 11 rfl) rfl (by rw [ci_1]) (Nat.le_of_ble_eq_true rfl) rfl ?_
          refine gk_goto (pc := 131) 61 (DX12_triangle_1.at 12 rfl) (by decide) ?_
          exact gk_pick (pc := 61) [(0, .ref o), (1, .int x1), (2, .int x2), (3, .int x3), (4, .int x4), (5, .int (x5 + (nI 1))), (6, .int (x6 + nI 1))] [3, 4, 5, 6, 7, 1, 0] rfl hv
      · replace hv := hv.2 c
        refine gk_iconst (pc := 102) (nI 0) (DX12_triangle_0.at 56 rfl) ci_0 ?_
        refine gk_goto (pc := 103) 107 (DX12_triangle_0.at 57 rfl) (by decide) ?_
        refine gk_iadd (pc := 107) (DX12_triangle_0.at 59 rfl) ?_
        refine gk_istore (pc := 108) [(5, .int (x5 + (nI 0))), (7, .int v1), (0, .ref o), (1, .int x1), (2, .int x2), (3, .int x3), (4, .int x4), (6, .int x6)] (DX12_triangle_1.at 0 rfl) (Nat.le_of_ble_eq_true rfl) rfl ?_
        refine gk_aload_n (pc := 110) (DX12_triangle_1.at 1 rfl) 2 rfl rfl ?_
        obtain ⟨fs13, v13, q13, r13, hv⟩ := hv
        refine gk_get (pc := 111) (.ref v13) (DX12_triangle_1.at 2 rfl) fX12_19_11 q13 r13 ?_
        refine gk_iload (pc := 114) (DX12_triangle_1.at 3 rfl) 1 rfl ?_
        refine gk_iload (pc := 116) (DX12_triangle_1.at 4 rfl) 6 rfl ?_
        refine gk_iconst (pc := 118) (nI 1) (DX12_triangle_1.at 5 rfl) ci_1 ?_
        refine gk_icmp_ne (pc := 119) 126 (DX12_triangle_1.at 6 rfl) (by decide) (fun c => ?_) (fun c => ?_)
        · replace hv := hv.1 c
          refine gk_iconst (pc := 126) (nI 0) (DX12_triangle_1.at 9 rfl) ci_0 ?_
          obtain ⟨n14, f14, q14, r14, hv⟩ := hv
          refine gk_zast (pc := 127) (DX12_triangle_1.at 10 rfl) q14 r14 ?_
          generalize h1.set _ _ = h14 at hv ⊢
          refine gk_iinc (pc := 128) (x6 + nI 1) [(6, .int (x6 + nI 1)), (5, .int (x5 + (nI 0))), (7, .int v1), (0, .ref o), (1, .int x1), (2, .int x2), (3, .int x3), (4, .int x4)] 7 (DX12_triangle_1.at 11 rfl) rfl (by rw [ci_1]) (Nat.le_of_ble_eq_true rfl) rfl ?_
          refine gk_goto (pc := 131) 61 (DX12_triangle_1.at 12 rfl) (by decide) ?_
          exact gk_pick (pc := 61) [(0, .ref o), (1, .int x1), (2, .int x2), (3, .int x3), (4, .int x4), (5, .int (x5 + (nI 0))), (6, .int (x6 + nI 1))] [3, 4, 5, 6, 7, 1, 0] rfl hv
        · replace hv := hv.2 c
          refine gk_iconst (pc := 122) (nI 1) (DX12_triangle_1.at 7 rfl) ci_1 ?_
          refine gk_goto (pc := 123) 127 (DX12_triangle_1.at 8 rfl) (by decide) ?_
          obtain ⟨n15, f15, q15, r15, hv⟩ := hv
          refine gk_zast (pc := 127) (DX12_triangle_1.at 10 rfl) q15 r15 ?_
          generalize h1.set _ _ = h15 at hv ⊢
          refine gk_iinc (pc := 128) (x6 + nI 1) [(6, .int (x6 + nI 1)), (5, .int (x5 + (nI 0))), (7, .int v1), (0, .ref o), (1, .int x1), (2, .int x2), (3, .int x3), (4, .int x4)] 7 (DX12_triangle_1.at 11 rfl) rfl (by rw [ci_1]) (Nat.le_of_ble_eq_true rfl) rfl ?_
          refine gk_goto (pc := 131) 61 (DX12_triangle_1.at 12 rfl) (by decide) ?_
          exact gk_pick (pc := 61) [(0, .ref o), (1, .int x1), (2, .int x2), (3, .int x3), (4, .int x4), (5, .int (x5 + (nI 0))), (6, .int (x6 + nI 1))] [3, 4, 5, 6, 7, 1, 0] rfl hv
set_option maxHeartbeats 4000000 in
theorem vX12_turn_0 {E : gk_E} {dd : Nat} {o : Nat} {x1 : Int32} {x2 : Int32} {x3 : Int32} {x4 : Int32}  {h : gk_H} {K : Int32 → gk_H → Prop} (hv : (((x4 = nI 0 → K ((((nI 16) * x1) + ((nI 4) * x2)) + x3) h) ∧ (x4 = nI 1 → LdR h o 11 1 fun v1 => AlI h v1 x1 fun v2 => K ((((nI 16) * v2) + ((nI 4) * x3)) + x2) h) ∧ (x4 = nI 2 → LdR h o 11 1 fun v3 => AlI h v3 x2 fun v4 => K ((((nI 16) * x3) + ((nI 4) * v4)) + x1) h) ∧ (x4 = nI 3 → LdR h o 11 1 fun v5 => AlI h v5 x2 fun v6 => LdR h o 11 1 fun v7 => AlI h v7 x1 fun v8 => LdR h o 11 1 fun v9 => AlI h v9 x3 fun v10 => K ((((nI 16) * v6) + ((nI 4) * v8)) + v10) h) ∧ (x4 = nI 4 → LdR h o 11 1 fun v11 => AlI h v11 x3 fun v12 => LdR h o 11 1 fun v13 => AlI h v13 x1 fun v14 => K ((((nI 16) * x2) + ((nI 4) * v12)) + v14) h)) ∧ ((∀ k : Nat, k < 5 → ¬ x4 = nI k) → LdR h o 11 1 fun v15 => AlI h v15 x3 fun v16 => LdR h o 11 1 fun v17 => AlI h v17 x2 fun v18 => K ((((nI 16) * v16) + ((nI 4) * x1)) + v18) h))) : RnI E mX12_turn (dd, 0, 0) [.ref o, .int x1, .int x2, .int x3, .int x4] h K := by
  show gk_G E mX12_turn (dd, 0, 0) 0 [(0, .ref o), (1, .int x1), (2, .int x2), (3, .int x3), (4, .int x4)] [] h (fun o h1 => ∃ v, o = some (.int v) ∧ K v h1)
  refine gk_iload (pc := 0) (DX12_turn_0.at 0 rfl) 4 rfl ?_
  refine gk_tsw (pc := 2) (n := 5) (fun k => [36, 47, 63, 79, 105].getD k 0) 126 (DX12_turn_0.at 1 rfl) (by decide +kernel) (by decide) (by decide) (by decide) (by decide) (fun k hk c => ?_) (fun c => ?_)
  · replace hv := hv.1
    match k, hk, c with
    | 0, _, c =>
      replace hv := hv.1 c
      refine gk_bipush (pc := 36) (nI 16) (DX12_turn_0.at 2 rfl) cb_16 ?_
      refine gk_iload_n (pc := 38) (DX12_turn_0.at 3 rfl) 1 rfl rfl ?_
      refine gk_imul (pc := 39) (DX12_turn_0.at 4 rfl) ?_
      refine gk_iconst (pc := 40) (nI 4) (DX12_turn_0.at 5 rfl) ci_4 ?_
      refine gk_iload_n (pc := 41) (DX12_turn_0.at 6 rfl) 2 rfl rfl ?_
      refine gk_imul (pc := 42) (DX12_turn_0.at 7 rfl) ?_
      refine gk_iadd (pc := 43) (DX12_turn_0.at 8 rfl) ?_
      refine gk_iload_n (pc := 44) (DX12_turn_0.at 9 rfl) 3 rfl rfl ?_
      refine gk_iadd (pc := 45) (DX12_turn_0.at 10 rfl) ?_
      exact gk_ireturn (pc := 46) .int (DX12_turn_0.at 11 rfl) rfl rfl ⟨_, rfl, hv⟩
    | 1, _, c =>
      replace hv := hv.2.1 c
      refine gk_bipush (pc := 47) (nI 16) (DX12_turn_0.at 12 rfl) cb_16 ?_
      refine gk_aload_n (pc := 49) (DX12_turn_0.at 13 rfl) 0 rfl rfl ?_
      obtain ⟨fs1, v1, q1, r1, hv⟩ := hv
      refine gk_get (pc := 50) (.ref v1) (DX12_turn_0.at 14 rfl) fX12_15_11 q1 r1 ?_
      refine gk_iload_n (pc := 53) (DX12_turn_0.at 15 rfl) 1 rfl rfl ?_
      obtain ⟨n2, f2, q2, r2, hv⟩ := hv
      refine gk_iald (pc := 54) (DX12_turn_0.at 16 rfl) q2 r2 ?_
      generalize f2 _ = v2 at hv ⊢
      refine gk_imul (pc := 55) (DX12_turn_0.at 17 rfl) ?_
      refine gk_iconst (pc := 56) (nI 4) (DX12_turn_0.at 18 rfl) ci_4 ?_
      refine gk_iload_n (pc := 57) (DX12_turn_0.at 19 rfl) 3 rfl rfl ?_
      refine gk_imul (pc := 58) (DX12_turn_0.at 20 rfl) ?_
      refine gk_iadd (pc := 59) (DX12_turn_0.at 21 rfl) ?_
      refine gk_iload_n (pc := 60) (DX12_turn_0.at 22 rfl) 2 rfl rfl ?_
      refine gk_iadd (pc := 61) (DX12_turn_0.at 23 rfl) ?_
      exact gk_ireturn (pc := 62) .int (DX12_turn_0.at 24 rfl) rfl rfl ⟨_, rfl, hv⟩
    | 2, _, c =>
      replace hv := hv.2.2.1 c
      refine gk_bipush (pc := 63) (nI 16) (DX12_turn_0.at 25 rfl) cb_16 ?_
      refine gk_iload_n (pc := 65) (DX12_turn_0.at 26 rfl) 3 rfl rfl ?_
      refine gk_imul (pc := 66) (DX12_turn_0.at 27 rfl) ?_
      refine gk_iconst (pc := 67) (nI 4) (DX12_turn_0.at 28 rfl) ci_4 ?_
      refine gk_aload_n (pc := 68) (DX12_turn_0.at 29 rfl) 0 rfl rfl ?_
      obtain ⟨fs3, v3, q3, r3, hv⟩ := hv
      refine gk_get (pc := 69) (.ref v3) (DX12_turn_0.at 30 rfl) fX12_15_11 q3 r3 ?_
      refine gk_iload_n (pc := 72) (DX12_turn_0.at 31 rfl) 2 rfl rfl ?_
      obtain ⟨n4, f4, q4, r4, hv⟩ := hv
      refine gk_iald (pc := 73) (DX12_turn_0.at 32 rfl) q4 r4 ?_
      generalize f4 _ = v4 at hv ⊢
      refine gk_imul (pc := 74) (DX12_turn_0.at 33 rfl) ?_
      refine gk_iadd (pc := 75) (DX12_turn_0.at 34 rfl) ?_
      refine gk_iload_n (pc := 76) (DX12_turn_0.at 35 rfl) 1 rfl rfl ?_
      refine gk_iadd (pc := 77) (DX12_turn_0.at 36 rfl) ?_
      exact gk_ireturn (pc := 78) .int (DX12_turn_0.at 37 rfl) rfl rfl ⟨_, rfl, hv⟩
    | 3, _, c =>
      replace hv := hv.2.2.2.1 c
      refine gk_bipush (pc := 79) (nI 16) (DX12_turn_0.at 38 rfl) cb_16 ?_
      refine gk_aload_n (pc := 81) (DX12_turn_0.at 39 rfl) 0 rfl rfl ?_
      obtain ⟨fs5, v5, q5, r5, hv⟩ := hv
      refine gk_get (pc := 82) (.ref v5) (DX12_turn_0.at 40 rfl) fX12_15_11 q5 r5 ?_
      refine gk_iload_n (pc := 85) (DX12_turn_0.at 41 rfl) 2 rfl rfl ?_
      obtain ⟨n6, f6, q6, r6, hv⟩ := hv
      refine gk_iald (pc := 86) (DX12_turn_0.at 42 rfl) q6 r6 ?_
      generalize f6 _ = v6 at hv ⊢
      refine gk_imul (pc := 87) (DX12_turn_0.at 43 rfl) ?_
      refine gk_iconst (pc := 88) (nI 4) (DX12_turn_0.at 44 rfl) ci_4 ?_
      refine gk_aload_n (pc := 89) (DX12_turn_0.at 45 rfl) 0 rfl rfl ?_
      obtain ⟨fs7, v7, q7, r7, hv⟩ := hv
      refine gk_get (pc := 90) (.ref v7) (DX12_turn_0.at 46 rfl) fX12_15_11 q7 r7 ?_
      refine gk_iload_n (pc := 93) (DX12_turn_0.at 47 rfl) 1 rfl rfl ?_
      obtain ⟨n8, f8, q8, r8, hv⟩ := hv
      refine gk_iald (pc := 94) (DX12_turn_0.at 48 rfl) q8 r8 ?_
      generalize f8 _ = v8 at hv ⊢
      refine gk_imul (pc := 95) (DX12_turn_0.at 49 rfl) ?_
      refine gk_iadd (pc := 96) (DX12_turn_0.at 50 rfl) ?_
      refine gk_aload_n (pc := 97) (DX12_turn_0.at 51 rfl) 0 rfl rfl ?_
      obtain ⟨fs9, v9, q9, r9, hv⟩ := hv
      refine gk_get (pc := 98) (.ref v9) (DX12_turn_0.at 52 rfl) fX12_15_11 q9 r9 ?_
      refine gk_iload_n (pc := 101) (DX12_turn_0.at 53 rfl) 3 rfl rfl ?_
      obtain ⟨n10, f10, q10, r10, hv⟩ := hv
      refine gk_iald (pc := 102) (DX12_turn_0.at 54 rfl) q10 r10 ?_
      generalize f10 _ = v10 at hv ⊢
      refine gk_iadd (pc := 103) (DX12_turn_0.at 55 rfl) ?_
      exact gk_ireturn (pc := 104) .int (DX12_turn_0.at 56 rfl) rfl rfl ⟨_, rfl, hv⟩
    | 4, _, c =>
      replace hv := hv.2.2.2.2 c
      refine gk_bipush (pc := 105) (nI 16) (DX12_turn_0.at 57 rfl) cb_16 ?_
      refine gk_iload_n (pc := 107) (DX12_turn_0.at 58 rfl) 2 rfl rfl ?_
      refine gk_imul (pc := 108) (DX12_turn_0.at 59 rfl) ?_
      refine gk_iconst (pc := 109) (nI 4) (DX12_turn_1.at 0 rfl) ci_4 ?_
      refine gk_aload_n (pc := 110) (DX12_turn_1.at 1 rfl) 0 rfl rfl ?_
      obtain ⟨fs11, v11, q11, r11, hv⟩ := hv
      refine gk_get (pc := 111) (.ref v11) (DX12_turn_1.at 2 rfl) fX12_15_11 q11 r11 ?_
      refine gk_iload_n (pc := 114) (DX12_turn_1.at 3 rfl) 3 rfl rfl ?_
      obtain ⟨n12, f12, q12, r12, hv⟩ := hv
      refine gk_iald (pc := 115) (DX12_turn_1.at 4 rfl) q12 r12 ?_
      generalize f12 _ = v12 at hv ⊢
      refine gk_imul (pc := 116) (DX12_turn_1.at 5 rfl) ?_
      refine gk_iadd (pc := 117) (DX12_turn_1.at 6 rfl) ?_
      refine gk_aload_n (pc := 118) (DX12_turn_1.at 7 rfl) 0 rfl rfl ?_
      obtain ⟨fs13, v13, q13, r13, hv⟩ := hv
      refine gk_get (pc := 119) (.ref v13) (DX12_turn_1.at 8 rfl) fX12_15_11 q13 r13 ?_
      refine gk_iload_n (pc := 122) (DX12_turn_1.at 9 rfl) 1 rfl rfl ?_
      obtain ⟨n14, f14, q14, r14, hv⟩ := hv
      refine gk_iald (pc := 123) (DX12_turn_1.at 10 rfl) q14 r14 ?_
      generalize f14 _ = v14 at hv ⊢
      refine gk_iadd (pc := 124) (DX12_turn_1.at 11 rfl) ?_
      exact gk_ireturn (pc := 125) .int (DX12_turn_1.at 12 rfl) rfl rfl ⟨_, rfl, hv⟩
    | k + 5, hk, _ => exact absurd hk (by omega)
  · replace hv := hv.2 c
    refine gk_bipush (pc := 126) (nI 16) (DX12_turn_1.at 13 rfl) cb_16 ?_
    refine gk_aload_n (pc := 128) (DX12_turn_1.at 14 rfl) 0 rfl rfl ?_
    obtain ⟨fs15, v15, q15, r15, hv⟩ := hv
    refine gk_get (pc := 129) (.ref v15) (DX12_turn_1.at 15 rfl) fX12_15_11 q15 r15 ?_
    refine gk_iload_n (pc := 132) (DX12_turn_1.at 16 rfl) 3 rfl rfl ?_
    obtain ⟨n16, f16, q16, r16, hv⟩ := hv
    refine gk_iald (pc := 133) (DX12_turn_1.at 17 rfl) q16 r16 ?_
    generalize f16 _ = v16 at hv ⊢
    refine gk_imul (pc := 134) (DX12_turn_1.at 18 rfl) ?_
    refine gk_iconst (pc := 135) (nI 4) (DX12_turn_1.at 19 rfl) ci_4 ?_
    refine gk_iload_n (pc := 136) (DX12_turn_1.at 20 rfl) 1 rfl rfl ?_
    refine gk_imul (pc := 137) (DX12_turn_1.at 21 rfl) ?_
    refine gk_iadd (pc := 138) (DX12_turn_1.at 22 rfl) ?_
    refine gk_aload_n (pc := 139) (DX12_turn_1.at 23 rfl) 0 rfl rfl ?_
    obtain ⟨fs17, v17, q17, r17, hv⟩ := hv
    refine gk_get (pc := 140) (.ref v17) (DX12_turn_1.at 24 rfl) fX12_15_11 q17 r17 ?_
    refine gk_iload_n (pc := 143) (DX12_turn_1.at 25 rfl) 2 rfl rfl ?_
    obtain ⟨n18, f18, q18, r18, hv⟩ := hv
    refine gk_iald (pc := 144) (DX12_turn_1.at 26 rfl) q18 r18 ?_
    generalize f18 _ = v18 at hv ⊢
    refine gk_iadd (pc := 145) (DX12_turn_1.at 27 rfl) ?_
    exact gk_ireturn (pc := 146) .int (DX12_turn_1.at 28 rfl) rfl rfl ⟨_, rfl, hv⟩
abbrev pX12_turned_4 (E : gk_E) (dd : Nat) (o : Nat) (x1 : Int32) (x2 : Int32) (x3 : Int32) (h : gk_H) (K : Int32 → gk_H → Prop) : Prop := gk_G E mX12_turned (dd + 1, 0, 0) 4 [(0, .ref o), (1, .int x1), (2, .int x2), (3, .int x3)] [] h (fun o h1 => ∃ v, o = some (.int v) ∧ K v h1)
set_option maxHeartbeats 4000000 in
theorem vX12_turned_0 {E : gk_E} {dd : Nat} {o : Nat} {x1 : Int32}  {h : gk_H} {K : Int32 → gk_H → Prop} (hv : pX12_turned_4 E dd o x1 (nI 0) (nI 0) h K) : RnI E mX12_turned (dd + 1, 0, 0) [.ref o, .int x1] h K := by
  show gk_G E mX12_turned (dd + 1, 0, 0) 0 [(0, .ref o), (1, .int x1)] [] h (fun o h1 => ∃ v, o = some (.int v) ∧ K v h1)
  refine gk_iconst (pc := 0) (nI 0) (DX12_turned_0.at 0 rfl) ci_0 ?_
  refine gk_istore_n (pc := 1) [(2, .int (nI 0)), (0, .ref o), (1, .int x1)] (DX12_turned_0.at 1 rfl) rfl (Nat.le_of_ble_eq_true rfl) rfl ?_
  refine gk_iconst (pc := 2) (nI 0) (DX12_turned_0.at 2 rfl) ci_0 ?_
  refine gk_istore_n (pc := 3) [(3, .int (nI 0)), (2, .int (nI 0)), (0, .ref o), (1, .int x1)] (DX12_turned_0.at 3 rfl) rfl (Nat.le_of_ble_eq_true rfl) rfl ?_
  exact gk_pick (pc := 4) [(0, .ref o), (1, .int x1), (2, .int (nI 0)), (3, .int (nI 0))] [2, 3, 1, 0] rfl hv
set_option maxHeartbeats 4000000 in
theorem vX12_turned_4 {E : gk_E} {dd : Nat} {o : Nat} {x1 : Int32} {x2 : Int32} {x3 : Int32}  {h : gk_H} {K : Int32 → gk_H → Prop} (hv : LdI h o 11 0 fun v1 => (v1 ≤ x3 → K x2 h) ∧ (¬ v1 ≤ x3 → RnI E mX12_has (dd, 0, 0) [.int x1, .int x3] h (fun v2 h2 => (v2 = 0 → pX12_turned_4 E dd o x1 (x2 ||| (nI 0)) (x3 + nI 1) h2 K) ∧ (¬ v2 = 0 → LdR h2 o 11 1 fun v3 => AlI h2 v3 x3 fun v4 => pX12_turned_4 E dd o x1 (x2 ||| ((nI 1) <<< (v4 &&& 31))) (x3 + nI 1) h2 K)))) : pX12_turned_4 E dd o x1 x2 x3 h K := by
  show gk_G E mX12_turned (dd + 1, 0, 0) 4 [(0, .ref o), (1, .int x1), (2, .int x2), (3, .int x3)] [] h (fun o h1 => ∃ v, o = some (.int v) ∧ K v h1)
  refine gk_iload_n (pc := 4) (DX12_turned_0.at 4 rfl) 3 rfl rfl ?_
  refine gk_aload_n (pc := 5) (DX12_turned_0.at 5 rfl) 0 rfl rfl ?_
  obtain ⟨fs1, v1, q1, r1, hv⟩ := hv
  refine gk_get (pc := 6) (.int v1) (DX12_turned_0.at 6 rfl) fX12_9_11 q1 r1 ?_
  refine gk_icmp_ge (pc := 9) 41 (DX12_turned_0.at 7 rfl) (by decide) (fun c => ?_) (fun c => ?_)
  · replace hv := hv.1 c
    refine gk_iload_n (pc := 41) (DX12_turned_0.at 25 rfl) 2 rfl rfl ?_
    exact gk_ireturn (pc := 42) .int (DX12_turned_0.at 26 rfl) rfl rfl ⟨_, rfl, hv⟩
  · replace hv := hv.2 c
    refine gk_iload_n (pc := 12) (DX12_turned_0.at 8 rfl) 2 rfl rfl ?_
    refine gk_iload_n (pc := 13) (DX12_turned_0.at 9 rfl) 1 rfl rfl ?_
    refine gk_iload_n (pc := 14) (DX12_turned_0.at 10 rfl) 3 rfl rfl ?_
    refine gk_vS (pc := 15) [.int x1, .int x3] [.int x2] (DX12_turned_0.at 11 rfl) csX12_87 rfl rfl (Nat.le_of_ble_eq_true rfl) (Nat.le_of_ble_eq_true rfl) (gk_Run.post (fun o h2 z => ?_) hv)
    obtain ⟨v2, rfl, hv⟩ := z
    refine gk_if_eq (pc := 18) 32 (DX12_turned_0.at 12 rfl) (by decide) (fun c => ?_) (fun c => ?_)
    · replace hv := hv.1 c
      refine gk_iconst (pc := 32) (nI 0) (DX12_turned_0.at 20 rfl) ci_0 ?_
      refine gk_ior (pc := 33) (DX12_turned_0.at 21 rfl) ?_
      refine gk_istore_n (pc := 34) [(2, .int (x2 ||| (nI 0))), (0, .ref o), (1, .int x1), (3, .int x3)] (DX12_turned_0.at 22 rfl) rfl (Nat.le_of_ble_eq_true rfl) rfl ?_
      refine gk_iinc (pc := 35) (x3 + nI 1) [(3, .int (x3 + nI 1)), (2, .int (x2 ||| (nI 0))), (0, .ref o), (1, .int x1)] 3 (DX12_turned_0.at 23 rfl) rfl (by rw [ci_1]) (Nat.le_of_ble_eq_true rfl) rfl ?_
      refine gk_goto (pc := 38) 4 (DX12_turned_0.at 24 rfl) (by decide) ?_
      exact gk_pick (pc := 4) [(0, .ref o), (1, .int x1), (2, .int (x2 ||| (nI 0))), (3, .int (x3 + nI 1))] [2, 3, 1, 0] rfl hv
    · replace hv := hv.2 c
      refine gk_iconst (pc := 21) (nI 1) (DX12_turned_0.at 13 rfl) ci_1 ?_
      refine gk_aload_n (pc := 22) (DX12_turned_0.at 14 rfl) 0 rfl rfl ?_
      obtain ⟨fs3, v3, q3, r3, hv⟩ := hv
      refine gk_get (pc := 23) (.ref v3) (DX12_turned_0.at 15 rfl) fX12_15_11 q3 r3 ?_
      refine gk_iload_n (pc := 26) (DX12_turned_0.at 16 rfl) 3 rfl rfl ?_
      obtain ⟨n4, f4, q4, r4, hv⟩ := hv
      refine gk_iald (pc := 27) (DX12_turned_0.at 17 rfl) q4 r4 ?_
      generalize f4 _ = v4 at hv ⊢
      refine gk_ishl (pc := 28) (DX12_turned_0.at 18 rfl) ?_
      refine gk_goto (pc := 29) 33 (DX12_turned_0.at 19 rfl) (by decide) ?_
      refine gk_ior (pc := 33) (DX12_turned_0.at 21 rfl) ?_
      refine gk_istore_n (pc := 34) [(2, .int (x2 ||| ((nI 1) <<< (v4 &&& 31)))), (0, .ref o), (1, .int x1), (3, .int x3)] (DX12_turned_0.at 22 rfl) rfl (Nat.le_of_ble_eq_true rfl) rfl ?_
      refine gk_iinc (pc := 35) (x3 + nI 1) [(3, .int (x3 + nI 1)), (2, .int (x2 ||| ((nI 1) <<< (v4 &&& 31)))), (0, .ref o), (1, .int x1)] 3 (DX12_turned_0.at 23 rfl) rfl (by rw [ci_1]) (Nat.le_of_ble_eq_true rfl) rfl ?_
      refine gk_goto (pc := 38) 4 (DX12_turned_0.at 24 rfl) (by decide) ?_
      exact gk_pick (pc := 4) [(0, .ref o), (1, .int x1), (2, .int (x2 ||| ((nI 1) <<< (v4 &&& 31)))), (3, .int (x3 + nI 1))] [2, 3, 1, 0] rfl hv
abbrev pX12_undo_20 (E : gk_E) (dd : Nat) (o : Nat) (x1 : Int32) (h : gk_H) (K : Int32 → gk_H → Prop) : Prop := gk_G E mX12_undo (dd, 0, 0) 20 [(0, .ref o), (1, .int x1)] [] h (fun o h1 => ∃ v, o = some (.int v) ∧ K v h1)
abbrev pX12_undo_45 (E : gk_E) (dd : Nat) (o : Nat) (x1 : Int32) (h : gk_H) (K : Int32 → gk_H → Prop) : Prop := gk_G E mX12_undo (dd, 0, 0) 45 [(0, .ref o), (1, .int x1)] [] h (fun o h1 => ∃ v, o = some (.int v) ∧ K v h1)
abbrev pX12_undo_71 (E : gk_E) (dd : Nat) (o : Nat) (x1 : Int32) (h : gk_H) (K : Int32 → gk_H → Prop) : Prop := gk_G E mX12_undo (dd, 0, 0) 71 [(0, .ref o), (1, .int x1)] [] h (fun o h1 => ∃ v, o = some (.int v) ∧ K v h1)
abbrev pX12_undo_96 (E : gk_E) (dd : Nat) (o : Nat) (x1 : Int32) (h : gk_H) (K : Int32 → gk_H → Prop) : Prop := gk_G E mX12_undo (dd, 0, 0) 96 [(0, .ref o), (1, .int x1)] [] h (fun o h1 => ∃ v, o = some (.int v) ∧ K v h1)
set_option maxHeartbeats 4000000 in
theorem vX12_undo_0 {E : gk_E} {dd : Nat} {o : Nat}  {h : gk_H} {K : Int32 → gk_H → Prop} (hv : LdI h o 11 27 fun v1 => (¬ v1 = 0 → LdI h o 11 28 fun v2 => StI h o 11 0 v2 fun h3 => pX12_undo_20 E dd o (nI 0) h3 K) ∧ (v1 = 0 → K ((-3)) h)) : RnI E mX12_undo (dd, 0, 0) [.ref o] h K := by
  show gk_G E mX12_undo (dd, 0, 0) 0 [(0, .ref o)] [] h (fun o h1 => ∃ v, o = some (.int v) ∧ K v h1)
  refine gk_aload_n (pc := 0) (DX12_undo_0.at 0 rfl) 0 rfl rfl ?_
  obtain ⟨fs1, v1, q1, r1, hv⟩ := hv
  refine gk_get (pc := 1) (.int v1) (DX12_undo_0.at 1 rfl) fX12_312_11 q1 r1 ?_
  refine gk_if_ne (pc := 4) 10 (DX12_undo_0.at 2 rfl) (by decide) (fun c => ?_) (fun c => ?_)
  · replace hv := hv.1 c
    refine gk_aload_n (pc := 10) (DX12_undo_0.at 5 rfl) 0 rfl rfl ?_
    refine gk_aload_n (pc := 11) (DX12_undo_0.at 6 rfl) 0 rfl rfl ?_
    obtain ⟨fs2, v2, q2, r2, hv⟩ := hv
    refine gk_get (pc := 12) (.int v2) (DX12_undo_0.at 7 rfl) fX12_315_11 q2 r2 ?_
    obtain ⟨fs3, q3, r3, hv⟩ := hv
    refine gk_put (pc := 15) (DX12_undo_0.at 8 rfl) fX12_9_11w q3 r3 rfl rfl ?_
    generalize h.set _ _ = h3 at hv ⊢
    refine gk_iconst (pc := 18) (nI 0) (DX12_undo_0.at 9 rfl) ci_0 ?_
    refine gk_istore_n (pc := 19) [(1, .int (nI 0)), (0, .ref o)] (DX12_undo_0.at 10 rfl) rfl (Nat.le_of_ble_eq_true rfl) rfl ?_
    exact gk_pick (pc := 20) [(0, .ref o), (1, .int (nI 0))] [1, 0] rfl hv
  · replace hv := hv.2 c
    refine gk_bipush (pc := 7) ((-3)) (DX12_undo_0.at 3 rfl) cb_m3 ?_
    exact gk_ireturn (pc := 9) .int (DX12_undo_0.at 4 rfl) rfl rfl ⟨_, rfl, hv⟩
set_option maxHeartbeats 4000000 in
theorem vX12_undo_20 {E : gk_E} {dd : Nat} {o : Nat} {x1 : Int32}  {h : gk_H} {K : Int32 → gk_H → Prop} (hv : ((nI 4) ≤ x1 → pX12_undo_45 E dd o (nI 0) h K) ∧ (¬ (nI 4) ≤ x1 → LdR h o 11 1 fun v1 => LdR h o 11 29 fun v2 => AlI h v2 x1 fun v3 => AsI h v1 x1 v3 fun h4 => pX12_undo_20 E dd o (x1 + nI 1) h4 K)) : pX12_undo_20 E dd o x1 h K := by
  show gk_G E mX12_undo (dd, 0, 0) 20 [(0, .ref o), (1, .int x1)] [] h (fun o h1 => ∃ v, o = some (.int v) ∧ K v h1)
  refine gk_iload_n (pc := 20) (DX12_undo_0.at 11 rfl) 1 rfl rfl ?_
  refine gk_iconst (pc := 21) (nI 4) (DX12_undo_0.at 12 rfl) ci_4 ?_
  refine gk_icmp_ge (pc := 22) 43 (DX12_undo_0.at 13 rfl) (by decide) (fun c => ?_) (fun c => ?_)
  · replace hv := hv.1 c
    refine gk_iconst (pc := 43) (nI 0) (DX12_undo_0.at 24 rfl) ci_0 ?_
    refine gk_istore_n (pc := 44) [(1, .int (nI 0)), (0, .ref o)] (DX12_undo_0.at 25 rfl) rfl (Nat.le_of_ble_eq_true rfl) rfl ?_
    exact gk_pick (pc := 45) [(0, .ref o), (1, .int (nI 0))] [1, 0] rfl hv
  · replace hv := hv.2 c
    refine gk_aload_n (pc := 25) (DX12_undo_0.at 14 rfl) 0 rfl rfl ?_
    obtain ⟨fs1, v1, q1, r1, hv⟩ := hv
    refine gk_get (pc := 26) (.ref v1) (DX12_undo_0.at 15 rfl) fX12_15_11 q1 r1 ?_
    refine gk_iload_n (pc := 29) (DX12_undo_0.at 16 rfl) 1 rfl rfl ?_
    refine gk_aload_n (pc := 30) (DX12_undo_0.at 17 rfl) 0 rfl rfl ?_
    obtain ⟨fs2, v2, q2, r2, hv⟩ := hv
    refine gk_get (pc := 31) (.ref v2) (DX12_undo_0.at 18 rfl) fX12_55_11 q2 r2 ?_
    refine gk_iload_n (pc := 34) (DX12_undo_0.at 19 rfl) 1 rfl rfl ?_
    obtain ⟨n3, f3, q3, r3, hv⟩ := hv
    refine gk_iald (pc := 35) (DX12_undo_0.at 20 rfl) q3 r3 ?_
    generalize f3 _ = v3 at hv ⊢
    obtain ⟨n4, f4, q4, r4, hv⟩ := hv
    refine gk_iast (pc := 36) (DX12_undo_0.at 21 rfl) q4 r4 ?_
    generalize h.set _ _ = h4 at hv ⊢
    refine gk_iinc (pc := 37) (x1 + nI 1) [(1, .int (x1 + nI 1)), (0, .ref o)] 1 (DX12_undo_0.at 22 rfl) rfl (by rw [ci_1]) (Nat.le_of_ble_eq_true rfl) rfl ?_
    refine gk_goto (pc := 40) 20 (DX12_undo_0.at 23 rfl) (by decide) ?_
    exact gk_pick (pc := 20) [(0, .ref o), (1, .int (x1 + nI 1))] [1, 0] rfl hv
set_option maxHeartbeats 4000000 in
theorem vX12_undo_45 {E : gk_E} {dd : Nat} {o : Nat} {x1 : Int32}  {h : gk_H} {K : Int32 → gk_H → Prop} (hv : ((nI 64) ≤ x1 → pX12_undo_71 E dd o (nI 0) h K) ∧ (¬ (nI 64) ≤ x1 → LdR h o 11 2 fun v1 => LdR h o 11 30 fun v2 => AlZ h v2 x1 fun v3 => AsZ h v1 x1 v3 fun h4 => pX12_undo_45 E dd o (x1 + nI 1) h4 K)) : pX12_undo_45 E dd o x1 h K := by
  show gk_G E mX12_undo (dd, 0, 0) 45 [(0, .ref o), (1, .int x1)] [] h (fun o h1 => ∃ v, o = some (.int v) ∧ K v h1)
  refine gk_iload_n (pc := 45) (DX12_undo_0.at 26 rfl) 1 rfl rfl ?_
  refine gk_bipush (pc := 46) (nI 64) (DX12_undo_0.at 27 rfl) cb_64 ?_
  refine gk_icmp_ge (pc := 48) 69 (DX12_undo_0.at 28 rfl) (by decide) (fun c => ?_) (fun c => ?_)
  · replace hv := hv.1 c
    refine gk_iconst (pc := 69) (nI 0) (DX12_undo_0.at 39 rfl) ci_0 ?_
    refine gk_istore_n (pc := 70) [(1, .int (nI 0)), (0, .ref o)] (DX12_undo_0.at 40 rfl) rfl (Nat.le_of_ble_eq_true rfl) rfl ?_
    exact gk_pick (pc := 71) [(0, .ref o), (1, .int (nI 0))] [1, 0] rfl hv
  · replace hv := hv.2 c
    refine gk_aload_n (pc := 51) (DX12_undo_0.at 29 rfl) 0 rfl rfl ?_
    obtain ⟨fs1, v1, q1, r1, hv⟩ := hv
    refine gk_get (pc := 52) (.ref v1) (DX12_undo_0.at 30 rfl) fX12_19_11 q1 r1 ?_
    refine gk_iload_n (pc := 55) (DX12_undo_0.at 31 rfl) 1 rfl rfl ?_
    refine gk_aload_n (pc := 56) (DX12_undo_0.at 32 rfl) 0 rfl rfl ?_
    obtain ⟨fs2, v2, q2, r2, hv⟩ := hv
    refine gk_get (pc := 57) (.ref v2) (DX12_undo_0.at 33 rfl) fX12_58_11 q2 r2 ?_
    refine gk_iload_n (pc := 60) (DX12_undo_0.at 34 rfl) 1 rfl rfl ?_
    obtain ⟨n3, f3, q3, r3, hv⟩ := hv
    refine gk_zald (pc := 61) (DX12_undo_0.at 35 rfl) q3 r3 ?_
    generalize f3 _ = v3 at hv ⊢
    obtain ⟨n4, f4, q4, r4, hv⟩ := hv
    refine gk_zast (pc := 62) (DX12_undo_0.at 36 rfl) q4 r4 ?_
    generalize h.set _ _ = h4 at hv ⊢
    refine gk_iinc (pc := 63) (x1 + nI 1) [(1, .int (x1 + nI 1)), (0, .ref o)] 1 (DX12_undo_0.at 37 rfl) rfl (by rw [ci_1]) (Nat.le_of_ble_eq_true rfl) rfl ?_
    refine gk_goto (pc := 66) 45 (DX12_undo_0.at 38 rfl) (by decide) ?_
    exact gk_pick (pc := 45) [(0, .ref o), (1, .int (x1 + nI 1))] [1, 0] rfl hv
set_option maxHeartbeats 4000000 in
theorem vX12_undo_71 {E : gk_E} {dd : Nat} {o : Nat} {x1 : Int32}  {h : gk_H} {K : Int32 → gk_H → Prop} (hv : ((nI 3) < x1 → pX12_undo_96 E dd o (nI 0) h K) ∧ (¬ (nI 3) < x1 → LdR h o 11 3 fun v1 => LdR h o 11 31 fun v2 => AlI h v2 x1 fun v3 => AsI h v1 x1 v3 fun h4 => pX12_undo_71 E dd o (x1 + nI 1) h4 K)) : pX12_undo_71 E dd o x1 h K := by
  show gk_G E mX12_undo (dd, 0, 0) 71 [(0, .ref o), (1, .int x1)] [] h (fun o h1 => ∃ v, o = some (.int v) ∧ K v h1)
  refine gk_iload_n (pc := 71) (DX12_undo_0.at 41 rfl) 1 rfl rfl ?_
  refine gk_iconst (pc := 72) (nI 3) (DX12_undo_0.at 42 rfl) ci_3 ?_
  refine gk_icmp_gt (pc := 73) 94 (DX12_undo_0.at 43 rfl) (by decide) (fun c => ?_) (fun c => ?_)
  · replace hv := hv.1 c
    refine gk_iconst (pc := 94) (nI 0) (DX12_undo_0.at 54 rfl) ci_0 ?_
    refine gk_istore_n (pc := 95) [(1, .int (nI 0)), (0, .ref o)] (DX12_undo_0.at 55 rfl) rfl (Nat.le_of_ble_eq_true rfl) rfl ?_
    exact gk_pick (pc := 96) [(0, .ref o), (1, .int (nI 0))] [1, 0] rfl hv
  · replace hv := hv.2 c
    refine gk_aload_n (pc := 76) (DX12_undo_0.at 44 rfl) 0 rfl rfl ?_
    obtain ⟨fs1, v1, q1, r1, hv⟩ := hv
    refine gk_get (pc := 77) (.ref v1) (DX12_undo_0.at 45 rfl) fX12_23_11 q1 r1 ?_
    refine gk_iload_n (pc := 80) (DX12_undo_0.at 46 rfl) 1 rfl rfl ?_
    refine gk_aload_n (pc := 81) (DX12_undo_0.at 47 rfl) 0 rfl rfl ?_
    obtain ⟨fs2, v2, q2, r2, hv⟩ := hv
    refine gk_get (pc := 82) (.ref v2) (DX12_undo_0.at 48 rfl) fX12_61_11 q2 r2 ?_
    refine gk_iload_n (pc := 85) (DX12_undo_0.at 49 rfl) 1 rfl rfl ?_
    obtain ⟨n3, f3, q3, r3, hv⟩ := hv
    refine gk_iald (pc := 86) (DX12_undo_0.at 50 rfl) q3 r3 ?_
    generalize f3 _ = v3 at hv ⊢
    obtain ⟨n4, f4, q4, r4, hv⟩ := hv
    refine gk_iast (pc := 87) (DX12_undo_0.at 51 rfl) q4 r4 ?_
    generalize h.set _ _ = h4 at hv ⊢
    refine gk_iinc (pc := 88) (x1 + nI 1) [(1, .int (x1 + nI 1)), (0, .ref o)] 1 (DX12_undo_0.at 52 rfl) rfl (by rw [ci_1]) (Nat.le_of_ble_eq_true rfl) rfl ?_
    refine gk_goto (pc := 91) 71 (DX12_undo_0.at 53 rfl) (by decide) ?_
    exact gk_pick (pc := 71) [(0, .ref o), (1, .int (x1 + nI 1))] [1, 0] rfl hv
set_option maxHeartbeats 4000000 in
theorem vX12_undo_96 {E : gk_E} {dd : Nat} {o : Nat} {x1 : Int32}  {h : gk_H} {K : Int32 → gk_H → Prop} (hv : ((nI 144) ≤ x1 → LdI h o 11 33 fun v1 => StZ h o 11 5 v1 fun h2 => StI h2 o 11 6 (nI 0) fun h3 => LdI h3 o 11 0 fun v4 => K v4 h3) ∧ (¬ (nI 144) ≤ x1 → LdR h o 11 4 fun v5 => LdR h o 11 32 fun v6 => AlI h v6 x1 fun v7 => AsI h v5 x1 v7 fun h8 => pX12_undo_96 E dd o (x1 + nI 1) h8 K)) : pX12_undo_96 E dd o x1 h K := by
  show gk_G E mX12_undo (dd, 0, 0) 96 [(0, .ref o), (1, .int x1)] [] h (fun o h1 => ∃ v, o = some (.int v) ∧ K v h1)
  refine gk_iload_n (pc := 96) (DX12_undo_0.at 56 rfl) 1 rfl rfl ?_
  refine gk_sipush (pc := 97) (nI 144) (DX12_undo_0.at 57 rfl) cs_144 ?_
  refine gk_icmp_ge (pc := 100) 121 (DX12_undo_0.at 58 rfl) (by decide) (fun c => ?_) (fun c => ?_)
  · replace hv := hv.1 c
    refine gk_aload_n (pc := 121) (DX12_undo_1.at 9 rfl) 0 rfl rfl ?_
    refine gk_aload_n (pc := 122) (DX12_undo_1.at 10 rfl) 0 rfl rfl ?_
    obtain ⟨fs1, v1, q1, r1, hv⟩ := hv
    refine gk_get (pc := 123) (.int v1) (DX12_undo_1.at 11 rfl) fX12_318_11 q1 r1 ?_
    obtain ⟨b2, fs2, q2, r2, hv⟩ := hv
    refine gk_put (pc := 126) (DX12_undo_1.at 12 rfl) fX12_74_11w q2 r2 (bz_n b2) (bz_f b2) ?_
    generalize h.set _ _ = h2 at hv ⊢
    refine gk_aload_n (pc := 129) (DX12_undo_1.at 13 rfl) 0 rfl rfl ?_
    refine gk_iconst (pc := 130) (nI 0) (DX12_undo_1.at 14 rfl) ci_0 ?_
    obtain ⟨fs3, q3, r3, hv⟩ := hv
    refine gk_put (pc := 131) (DX12_undo_1.at 15 rfl) fX12_78_11w q3 r3 rfl rfl ?_
    generalize h2.set _ _ = h3 at hv ⊢
    refine gk_aload_n (pc := 134) (DX12_undo_1.at 16 rfl) 0 rfl rfl ?_
    obtain ⟨fs4, v4, q4, r4, hv⟩ := hv
    refine gk_get (pc := 135) (.int v4) (DX12_undo_1.at 17 rfl) fX12_9_11 q4 r4 ?_
    exact gk_ireturn (pc := 138) .int (DX12_undo_1.at 18 rfl) rfl rfl ⟨_, rfl, hv⟩
  · replace hv := hv.2 c
    refine gk_aload_n (pc := 103) (DX12_undo_0.at 59 rfl) 0 rfl rfl ?_
    obtain ⟨fs5, v5, q5, r5, hv⟩ := hv
    refine gk_get (pc := 104) (.ref v5) (DX12_undo_1.at 0 rfl) fX12_26_11 q5 r5 ?_
    refine gk_iload_n (pc := 107) (DX12_undo_1.at 1 rfl) 1 rfl rfl ?_
    refine gk_aload_n (pc := 108) (DX12_undo_1.at 2 rfl) 0 rfl rfl ?_
    obtain ⟨fs6, v6, q6, r6, hv⟩ := hv
    refine gk_get (pc := 109) (.ref v6) (DX12_undo_1.at 3 rfl) fX12_64_11 q6 r6 ?_
    refine gk_iload_n (pc := 112) (DX12_undo_1.at 4 rfl) 1 rfl rfl ?_
    obtain ⟨n7, f7, q7, r7, hv⟩ := hv
    refine gk_iald (pc := 113) (DX12_undo_1.at 5 rfl) q7 r7 ?_
    generalize f7 _ = v7 at hv ⊢
    obtain ⟨n8, f8, q8, r8, hv⟩ := hv
    refine gk_iast (pc := 114) (DX12_undo_1.at 6 rfl) q8 r8 ?_
    generalize h.set _ _ = h8 at hv ⊢
    refine gk_iinc (pc := 115) (x1 + nI 1) [(1, .int (x1 + nI 1)), (0, .ref o)] 1 (DX12_undo_1.at 7 rfl) rfl (by rw [ci_1]) (Nat.le_of_ble_eq_true rfl) rfl ?_
    refine gk_goto (pc := 118) 96 (DX12_undo_1.at 8 rfl) (by decide) ?_
    exact gk_pick (pc := 96) [(0, .ref o), (1, .int (x1 + nI 1))] [1, 0] rfl hv
abbrev pX12_unsound_2 (E : gk_E) (dd : Nat) (o : Nat) (x1 : Int32) (x2 : Int32) (h : gk_H) (K : Int32 → gk_H → Prop) : Prop := gk_G E mX12_unsound (dd + 1, 0, 0) 2 [(0, .ref o), (1, .int x1), (2, .int x2)] [] h (fun o h1 => ∃ v, o = some (.int v) ∧ K v h1)
abbrev pX12_unsound_14 (E : gk_E) (dd : Nat) (o : Nat) (x1 : Int32) (x2 : Int32) (x3 : Int32) (h : gk_H) (K : Int32 → gk_H → Prop) : Prop := gk_G E mX12_unsound (dd + 1, 0, 0) 14 [(0, .ref o), (1, .int x1), (2, .int x2), (3, .int x3)] [] h (fun o h1 => ∃ v, o = some (.int v) ∧ K v h1)
abbrev pX12_unsound_27 (E : gk_E) (dd : Nat) (o : Nat) (x1 : Int32) (x2 : Int32) (x3 : Int32) (x4 : Int32) (h : gk_H) (K : Int32 → gk_H → Prop) : Prop := gk_G E mX12_unsound (dd + 1, 0, 0) 27 [(0, .ref o), (1, .int x1), (2, .int x2), (3, .int x3), (4, .int x4)] [] h (fun o h1 => ∃ v, o = some (.int v) ∧ K v h1)
set_option maxHeartbeats 4000000 in
theorem vX12_unsound_0 {E : gk_E} {dd : Nat} {o : Nat} {x1 : Int32}  {h : gk_H} {K : Int32 → gk_H → Prop} (hv : pX12_unsound_2 E dd o x1 (nI 0) h K) : RnI E mX12_unsound (dd + 1, 0, 0) [.ref o, .int x1] h K := by
  show gk_G E mX12_unsound (dd + 1, 0, 0) 0 [(0, .ref o), (1, .int x1)] [] h (fun o h1 => ∃ v, o = some (.int v) ∧ K v h1)
  refine gk_iconst (pc := 0) (nI 0) (DX12_unsound_0.at 0 rfl) ci_0 ?_
  refine gk_istore_n (pc := 1) [(2, .int (nI 0)), (0, .ref o), (1, .int x1)] (DX12_unsound_0.at 1 rfl) rfl (Nat.le_of_ble_eq_true rfl) rfl ?_
  exact gk_pick (pc := 2) [(0, .ref o), (1, .int x1), (2, .int (nI 0))] [1, 2, 0] rfl hv
set_option maxHeartbeats 4000000 in
theorem vX12_unsound_2 {E : gk_E} {dd : Nat} {o : Nat} {x1 : Int32} {x2 : Int32}  {h : gk_H} {K : Int32 → gk_H → Prop} (hv : LdR h o 11 3 fun v1 => AlI h v1 x1 fun v2 => (v2 ≤ x2 → K ((-5)) h) ∧ (¬ v2 ≤ x2 → pX12_unsound_14 E dd o x1 x2 (nI 0) h K)) : pX12_unsound_2 E dd o x1 x2 h K := by
  show gk_G E mX12_unsound (dd + 1, 0, 0) 2 [(0, .ref o), (1, .int x1), (2, .int x2)] [] h (fun o h1 => ∃ v, o = some (.int v) ∧ K v h1)
  refine gk_iload_n (pc := 2) (DX12_unsound_0.at 2 rfl) 2 rfl rfl ?_
  refine gk_aload_n (pc := 3) (DX12_unsound_0.at 3 rfl) 0 rfl rfl ?_
  obtain ⟨fs1, v1, q1, r1, hv⟩ := hv
  refine gk_get (pc := 4) (.ref v1) (DX12_unsound_0.at 4 rfl) fX12_23_11 q1 r1 ?_
  refine gk_iload_n (pc := 7) (DX12_unsound_0.at 5 rfl) 1 rfl rfl ?_
  obtain ⟨n2, f2, q2, r2, hv⟩ := hv
  refine gk_iald (pc := 8) (DX12_unsound_0.at 6 rfl) q2 r2 ?_
  generalize f2 _ = v2 at hv ⊢
  refine gk_icmp_ge (pc := 9) 99 (DX12_unsound_0.at 7 rfl) (by decide) (fun c => ?_) (fun c => ?_)
  · replace hv := hv.1 c
    refine gk_bipush (pc := 99) ((-5)) (DX12_unsound_0.at 58 rfl) cb_m5 ?_
    exact gk_ireturn (pc := 101) .int (DX12_unsound_0.at 59 rfl) rfl rfl ⟨_, rfl, hv⟩
  · replace hv := hv.2 c
    refine gk_iconst (pc := 12) (nI 0) (DX12_unsound_0.at 8 rfl) ci_0 ?_
    refine gk_istore_n (pc := 13) [(3, .int (nI 0)), (0, .ref o), (1, .int x1), (2, .int x2)] (DX12_unsound_0.at 9 rfl) rfl (Nat.le_of_ble_eq_true rfl) rfl ?_
    exact gk_pick (pc := 14) [(0, .ref o), (1, .int x1), (2, .int x2), (3, .int (nI 0))] [1, 2, 3, 0] rfl hv
set_option maxHeartbeats 4000000 in
theorem vX12_unsound_14 {E : gk_E} {dd : Nat} {o : Nat} {x1 : Int32} {x2 : Int32} {x3 : Int32}  {h : gk_H} {K : Int32 → gk_H → Prop} (hv : LdR h o 11 3 fun v1 => AlI h v1 x1 fun v2 => (v2 ≤ x3 → pX12_unsound_2 E dd o x1 (x2 + nI 1) h K) ∧ (¬ v2 ≤ x3 → pX12_unsound_27 E dd o x1 x2 x3 (nI 0) h K)) : pX12_unsound_14 E dd o x1 x2 x3 h K := by
  show gk_G E mX12_unsound (dd + 1, 0, 0) 14 [(0, .ref o), (1, .int x1), (2, .int x2), (3, .int x3)] [] h (fun o h1 => ∃ v, o = some (.int v) ∧ K v h1)
  refine gk_iload_n (pc := 14) (DX12_unsound_0.at 10 rfl) 3 rfl rfl ?_
  refine gk_aload_n (pc := 15) (DX12_unsound_0.at 11 rfl) 0 rfl rfl ?_
  obtain ⟨fs1, v1, q1, r1, hv⟩ := hv
  refine gk_get (pc := 16) (.ref v1) (DX12_unsound_0.at 12 rfl) fX12_23_11 q1 r1 ?_
  refine gk_iload_n (pc := 19) (DX12_unsound_0.at 13 rfl) 1 rfl rfl ?_
  obtain ⟨n2, f2, q2, r2, hv⟩ := hv
  refine gk_iald (pc := 20) (DX12_unsound_0.at 14 rfl) q2 r2 ?_
  generalize f2 _ = v2 at hv ⊢
  refine gk_icmp_ge (pc := 21) 93 (DX12_unsound_0.at 15 rfl) (by decide) (fun c => ?_) (fun c => ?_)
  · replace hv := hv.1 c
    refine gk_iinc (pc := 93) (x2 + nI 1) [(2, .int (x2 + nI 1)), (0, .ref o), (1, .int x1), (3, .int x3)] 2 (DX12_unsound_0.at 56 rfl) rfl (by rw [ci_1]) (Nat.le_of_ble_eq_true rfl) rfl ?_
    refine gk_goto (pc := 96) 2 (DX12_unsound_0.at 57 rfl) (by decide) ?_
    exact gk_pick (pc := 2) [(0, .ref o), (1, .int x1), (2, .int (x2 + nI 1))] [1, 2, 0] rfl hv
  · replace hv := hv.2 c
    refine gk_iconst (pc := 24) (nI 0) (DX12_unsound_0.at 16 rfl) ci_0 ?_
    refine gk_istore (pc := 25) [(4, .int (nI 0)), (0, .ref o), (1, .int x1), (2, .int x2), (3, .int x3)] (DX12_unsound_0.at 17 rfl) (Nat.le_of_ble_eq_true rfl) rfl ?_
    exact gk_pick (pc := 27) [(0, .ref o), (1, .int x1), (2, .int x2), (3, .int x3), (4, .int (nI 0))] [1, 2, 3, 4, 0] rfl hv
set_option maxHeartbeats 4000000 in
theorem vX12_unsound_27 {E : gk_E} {dd : Nat} {o : Nat} {x1 : Int32} {x2 : Int32} {x3 : Int32} {x4 : Int32}  {h : gk_H} {K : Int32 → gk_H → Prop} (hv : LdR h o 11 3 fun v1 => AlI h v1 x1 fun v2 => (v2 ≤ x4 → pX12_unsound_14 E dd o x1 x2 (x3 + nI 1) h K) ∧ (¬ v2 ≤ x4 → (∃ fs, h[o]? = some (.inr (11, fs))) ∧ RnI E mX12_labelOf (dd, 0, 0) [.ref o, .int x1, .int x2, .int x3] h (fun v3 h3 => (∃ fs, h3[o]? = some (.inr (11, fs))) ∧ RnI E mX12_labelOf (dd, 0, 0) [.ref o, .int x1, .int x3, .int x4] h3 (fun v4 h4 => (∃ fs, h4[o]? = some (.inr (11, fs))) ∧ RnI E mX12_labelOf (dd, 0, 0) [.ref o, .int x1, .int x2, .int x4] h4 (fun v5 h5 => (∃ fs, h5[o]? = some (.inr (11, fs))) ∧ RnI E mX12_is (dd, 0, 0) [.ref o, .int v3, .int v4, .int v5] h5 (fun v6 h6 => (¬ v6 = 0 → pX12_unsound_27 E dd o x1 x2 x3 (x4 + nI 1) h6 K) ∧ (v6 = 0 → K ((((nI 100) * x2) + ((nI 10) * x3)) + x4) h6))))))) : pX12_unsound_27 E dd o x1 x2 x3 x4 h K := by
  show gk_G E mX12_unsound (dd + 1, 0, 0) 27 [(0, .ref o), (1, .int x1), (2, .int x2), (3, .int x3), (4, .int x4)] [] h (fun o h1 => ∃ v, o = some (.int v) ∧ K v h1)
  refine gk_iload (pc := 27) (DX12_unsound_0.at 18 rfl) 4 rfl ?_
  refine gk_aload_n (pc := 29) (DX12_unsound_0.at 19 rfl) 0 rfl rfl ?_
  obtain ⟨fs1, v1, q1, r1, hv⟩ := hv
  refine gk_get (pc := 30) (.ref v1) (DX12_unsound_0.at 20 rfl) fX12_23_11 q1 r1 ?_
  refine gk_iload_n (pc := 33) (DX12_unsound_0.at 21 rfl) 1 rfl rfl ?_
  obtain ⟨n2, f2, q2, r2, hv⟩ := hv
  refine gk_iald (pc := 34) (DX12_unsound_0.at 22 rfl) q2 r2 ?_
  generalize f2 _ = v2 at hv ⊢
  refine gk_icmp_ge (pc := 35) 87 (DX12_unsound_0.at 23 rfl) (by decide) (fun c => ?_) (fun c => ?_)
  · replace hv := hv.1 c
    refine gk_iinc (pc := 87) (x3 + nI 1) [(3, .int (x3 + nI 1)), (0, .ref o), (1, .int x1), (2, .int x2), (4, .int x4)] 3 (DX12_unsound_0.at 54 rfl) rfl (by rw [ci_1]) (Nat.le_of_ble_eq_true rfl) rfl ?_
    refine gk_goto (pc := 90) 14 (DX12_unsound_0.at 55 rfl) (by decide) ?_
    exact gk_pick (pc := 14) [(0, .ref o), (1, .int x1), (2, .int x2), (3, .int (x3 + nI 1))] [1, 2, 3, 0] rfl hv
  · replace hv := hv.2 c
    refine gk_aload_n (pc := 38) (DX12_unsound_0.at 24 rfl) 0 rfl rfl ?_
    refine gk_aload_n (pc := 39) (DX12_unsound_0.at 25 rfl) 0 rfl rfl ?_
    refine gk_iload_n (pc := 40) (DX12_unsound_0.at 26 rfl) 1 rfl rfl ?_
    refine gk_iload_n (pc := 41) (DX12_unsound_0.at 27 rfl) 2 rfl rfl ?_
    refine gk_iload_n (pc := 42) (DX12_unsound_0.at 28 rfl) 3 rfl rfl ?_
    obtain ⟨⟨fs3, q3⟩, hv⟩ := hv
    refine gk_vV (pc := 43) [.int x1, .int x2, .int x3] [.ref o] (DX12_unsound_0.at 29 rfl) cvX12_158 q3 rfl rfl (Nat.le_of_ble_eq_true rfl) (Nat.le_of_ble_eq_true rfl) (gk_Run.post (fun o h3 z => ?_) hv)
    obtain ⟨v3, rfl, hv⟩ := z
    refine gk_aload_n (pc := 46) (DX12_unsound_0.at 30 rfl) 0 rfl rfl ?_
    refine gk_iload_n (pc := 47) (DX12_unsound_0.at 31 rfl) 1 rfl rfl ?_
    refine gk_iload_n (pc := 48) (DX12_unsound_0.at 32 rfl) 3 rfl rfl ?_
    refine gk_iload (pc := 49) (DX12_unsound_0.at 33 rfl) 4 rfl ?_
    obtain ⟨⟨fs4, q4⟩, hv⟩ := hv
    refine gk_vV (pc := 51) [.int x1, .int x3, .int x4] [.int v3, .ref o] (DX12_unsound_0.at 34 rfl) cvX12_158 q4 rfl rfl (Nat.le_of_ble_eq_true rfl) (Nat.le_of_ble_eq_true rfl) (gk_Run.post (fun o h4 z => ?_) hv)
    obtain ⟨v4, rfl, hv⟩ := z
    refine gk_aload_n (pc := 54) (DX12_unsound_0.at 35 rfl) 0 rfl rfl ?_
    refine gk_iload_n (pc := 55) (DX12_unsound_0.at 36 rfl) 1 rfl rfl ?_
    refine gk_iload_n (pc := 56) (DX12_unsound_0.at 37 rfl) 2 rfl rfl ?_
    refine gk_iload (pc := 57) (DX12_unsound_0.at 38 rfl) 4 rfl ?_
    obtain ⟨⟨fs5, q5⟩, hv⟩ := hv
    refine gk_vV (pc := 59) [.int x1, .int x2, .int x4] [.int v4, .int v3, .ref o] (DX12_unsound_0.at 39 rfl) cvX12_158 q5 rfl rfl (Nat.le_of_ble_eq_true rfl) (Nat.le_of_ble_eq_true rfl) (gk_Run.post (fun o h5 z => ?_) hv)
    obtain ⟨v5, rfl, hv⟩ := z
    obtain ⟨⟨fs6, q6⟩, hv⟩ := hv
    refine gk_vV (pc := 62) [.int v3, .int v4, .int v5] [] (DX12_unsound_0.at 40 rfl) cvX12_105 q6 rfl rfl (Nat.le_of_ble_eq_true rfl) (Nat.le_of_ble_eq_true rfl) (gk_Run.post (fun o h6 z => ?_) hv)
    obtain ⟨v6, rfl, hv⟩ := z
    refine gk_if_ne (pc := 65) 81 (DX12_unsound_0.at 41 rfl) (by decide) (fun c => ?_) (fun c => ?_)
    · replace hv := hv.1 c
      refine gk_iinc (pc := 81) (x4 + nI 1) [(4, .int (x4 + nI 1)), (0, .ref o), (1, .int x1), (2, .int x2), (3, .int x3)] 4 (DX12_unsound_0.at 52 rfl) rfl (by rw [ci_1]) (Nat.le_of_ble_eq_true rfl) rfl ?_
      refine gk_goto (pc := 84) 27 (DX12_unsound_0.at 53 rfl) (by decide) ?_
      exact gk_pick (pc := 27) [(0, .ref o), (1, .int x1), (2, .int x2), (3, .int x3), (4, .int (x4 + nI 1))] [1, 2, 3, 4, 0] rfl hv
    · replace hv := hv.2 c
      refine gk_bipush (pc := 68) (nI 100) (DX12_unsound_0.at 42 rfl) cb_100 ?_
      refine gk_iload_n (pc := 70) (DX12_unsound_0.at 43 rfl) 2 rfl rfl ?_
      refine gk_imul (pc := 71) (DX12_unsound_0.at 44 rfl) ?_
      refine gk_bipush (pc := 72) (nI 10) (DX12_unsound_0.at 45 rfl) cb_10 ?_
      refine gk_iload_n (pc := 74) (DX12_unsound_0.at 46 rfl) 3 rfl rfl ?_
      refine gk_imul (pc := 75) (DX12_unsound_0.at 47 rfl) ?_
      refine gk_iadd (pc := 76) (DX12_unsound_0.at 48 rfl) ?_
      refine gk_iload (pc := 77) (DX12_unsound_0.at 49 rfl) 4 rfl ?_
      refine gk_iadd (pc := 79) (DX12_unsound_0.at 50 rfl) ?_
      exact gk_ireturn (pc := 80) .int (DX12_unsound_0.at 51 rfl) rfl rfl ⟨_, rfl, hv⟩
set_option maxHeartbeats 4000000 in
theorem vX12_whyNot_0 {E : gk_E} {dd : Nat} {o : Nat} {x1 : Int32} {x2 : Int32}  {h : gk_H} {K : Int32 → gk_H → Prop} (hv : RnI E mX12_isNet (dd, 0, 0) [.int x1] h (fun v1 h1 => (¬ v1 = 0 → RnI E mX12_isFrom (dd, 0, 0) [.long x2.toInt64, .long (lN 0), .long (lN 2)] h1 (fun v2 h2 => (¬ v2 = 0 → (∃ fs, h2[o]? = some (.inr (11, fs))) ∧ RnI E mX12_isPlayed (dd, 0, 0) [.ref o, .int x1] h2 (fun v3 h3 => (v3 = 0 → K ((-3)) h3) ∧ (¬ v3 = 0 → LdR h3 o 11 3 fun v4 => AlI h3 v4 x1 fun v5 => ((nI 3) < v5 → K ((-3)) h3) ∧ (¬ (nI 3) < v5 → K (nI 0) h3)))) ∧ (v2 = 0 → K ((-2)) h2))) ∧ (v1 = 0 → K ((-1)) h1))) : RnI E mX12_whyNot (dd + 1, 0, 0) [.ref o, .int x1, .int x2] h K := by
  show gk_G E mX12_whyNot (dd + 1, 0, 0) 0 [(0, .ref o), (1, .int x1), (2, .int x2)] [] h (fun o h1 => ∃ v, o = some (.int v) ∧ K v h1)
  refine gk_iload_n (pc := 0) (DX12_whyNot_0.at 0 rfl) 1 rfl rfl ?_
  refine gk_vS (pc := 1) [.int x1] [] (DX12_whyNot_0.at 1 rfl) csX12_145 rfl rfl (Nat.le_of_ble_eq_true rfl) (Nat.le_of_ble_eq_true rfl) (gk_Run.post (fun o h1 z => ?_) hv)
  obtain ⟨v1, rfl, hv⟩ := z
  refine gk_if_ne (pc := 4) 9 (DX12_whyNot_0.at 2 rfl) (by decide) (fun c => ?_) (fun c => ?_)
  · replace hv := hv.1 c
    refine gk_iload_n (pc := 9) (DX12_whyNot_0.at 5 rfl) 2 rfl rfl ?_
    refine gk_i2l (pc := 10) (DX12_whyNot_0.at 6 rfl) ?_
    refine gk_lconst (pc := 11) (lN 0) (DX12_whyNot_0.at 7 rfl) rfl ?_
    refine gk_ldc2 (pc := 12) (lN 2) (DX12_whyNot_0.at 8 rfl) klX12_123 ?_
    refine gk_vS (pc := 15) [.long x2.toInt64, .long (lN 0), .long (lN 2)] [] (DX12_whyNot_0.at 9 rfl) csX12_70 rfl rfl (Nat.le_of_ble_eq_true rfl) (Nat.le_of_ble_eq_true rfl) (gk_Run.post (fun o h2 z => ?_) hv)
    obtain ⟨v2, rfl, hv⟩ := z
    refine gk_if_ne (pc := 18) 24 (DX12_whyNot_0.at 10 rfl) (by decide) (fun c => ?_) (fun c => ?_)
    · replace hv := hv.1 c
      refine gk_aload_n (pc := 24) (DX12_whyNot_0.at 13 rfl) 0 rfl rfl ?_
      refine gk_iload_n (pc := 25) (DX12_whyNot_0.at 14 rfl) 1 rfl rfl ?_
      obtain ⟨⟨fs3, q3⟩, hv⟩ := hv
      refine gk_vV (pc := 26) [.int x1] [] (DX12_whyNot_0.at 15 rfl) cvX12_220 q3 rfl rfl (Nat.le_of_ble_eq_true rfl) (Nat.le_of_ble_eq_true rfl) (gk_Run.post (fun o h3 z => ?_) hv)
      obtain ⟨v3, rfl, hv⟩ := z
      refine gk_if_eq (pc := 29) 46 (DX12_whyNot_0.at 16 rfl) (by decide) (fun c => ?_) (fun c => ?_)
      · replace hv := hv.1 c
        refine gk_bipush (pc := 46) ((-3)) (DX12_whyNot_0.at 25 rfl) cb_m3 ?_
        exact gk_ireturn (pc := 48) .int (DX12_whyNot_0.at 26 rfl) rfl rfl ⟨_, rfl, hv⟩
      · replace hv := hv.2 c
        refine gk_aload_n (pc := 32) (DX12_whyNot_0.at 17 rfl) 0 rfl rfl ?_
        obtain ⟨fs4, v4, q4, r4, hv⟩ := hv
        refine gk_get (pc := 33) (.ref v4) (DX12_whyNot_0.at 18 rfl) fX12_23_11 q4 r4 ?_
        refine gk_iload_n (pc := 36) (DX12_whyNot_0.at 19 rfl) 1 rfl rfl ?_
        obtain ⟨n5, f5, q5, r5, hv⟩ := hv
        refine gk_iald (pc := 37) (DX12_whyNot_0.at 20 rfl) q5 r5 ?_
        generalize f5 _ = v5 at hv ⊢
        refine gk_iconst (pc := 38) (nI 3) (DX12_whyNot_0.at 21 rfl) ci_3 ?_
        refine gk_icmp_gt (pc := 39) 46 (DX12_whyNot_0.at 22 rfl) (by decide) (fun c => ?_) (fun c => ?_)
        · replace hv := hv.1 c
          refine gk_bipush (pc := 46) ((-3)) (DX12_whyNot_0.at 25 rfl) cb_m3 ?_
          exact gk_ireturn (pc := 48) .int (DX12_whyNot_0.at 26 rfl) rfl rfl ⟨_, rfl, hv⟩
        · replace hv := hv.2 c
          refine gk_iconst (pc := 42) (nI 0) (DX12_whyNot_0.at 23 rfl) ci_0 ?_
          refine gk_goto (pc := 43) 48 (DX12_whyNot_0.at 24 rfl) (by decide) ?_
          exact gk_ireturn (pc := 48) .int (DX12_whyNot_0.at 26 rfl) rfl rfl ⟨_, rfl, hv⟩
    · replace hv := hv.2 c
      refine gk_bipush (pc := 21) ((-2)) (DX12_whyNot_0.at 11 rfl) cb_m2 ?_
      exact gk_ireturn (pc := 23) .int (DX12_whyNot_0.at 12 rfl) rfl rfl ⟨_, rfl, hv⟩
  · replace hv := hv.2 c
    refine gk_iconst (pc := 7) ((-1)) (DX12_whyNot_0.at 3 rfl) ci_m1 ?_
    exact gk_ireturn (pc := 8) .int (DX12_whyNot_0.at 4 rfl) rfl rfl ⟨_, rfl, hv⟩
set_option maxHeartbeats 4000000 in
theorem vX12_wipe_0 {E : gk_E} {dd : Nat} {o : Nat}  {h : gk_H} {K : Int32 → gk_H → Prop} (hv : LdI h o 11 20 fun v1 => StI h o 11 20 (nI 0) fun h2 => K v1 h2) : RnI E mX12_wipe (dd, 0, 0) [.ref o] h K := by
  show gk_G E mX12_wipe (dd, 0, 0) 0 [(0, .ref o)] [] h (fun o h1 => ∃ v, o = some (.int v) ∧ K v h1)
  refine gk_aload_n (pc := 0) (DX12_wipe_0.at 0 rfl) 0 rfl rfl ?_
  obtain ⟨fs1, v1, q1, r1, hv⟩ := hv
  refine gk_get (pc := 1) (.int v1) (DX12_wipe_0.at 1 rfl) fX12_261_11 q1 r1 ?_
  refine gk_istore_n (pc := 4) [(1, .int v1), (0, .ref o)] (DX12_wipe_0.at 2 rfl) rfl (Nat.le_of_ble_eq_true rfl) rfl ?_
  refine gk_aload_n (pc := 5) (DX12_wipe_0.at 3 rfl) 1 rfl rfl ?_
  refine gk_iconst (pc := 6) (nI 0) (DX12_wipe_0.at 4 rfl) ci_0 ?_
  obtain ⟨fs2, q2, r2, hv⟩ := hv
  refine gk_put (pc := 7) (DX12_wipe_0.at 5 rfl) fX12_261_11w q2 r2 rfl rfl ?_
  generalize h.set _ _ = h2 at hv ⊢
  refine gk_iload_n (pc := 10) (DX12_wipe_0.at 6 rfl) 0 rfl rfl ?_
  exact gk_ireturn (pc := 11) .int (DX12_wipe_0.at 7 rfl) rfl rfl ⟨_, rfl, hv⟩
set_option maxHeartbeats 4000000 in
theorem vX12_won_0 {E : gk_E} {dd : Nat} {o : Nat} {x1 : Int32} {x2 : Int32}  {h : gk_H} {K : Int32 → gk_H → Prop} (hv : (∃ fs, h[o]? = some (.inr (11, fs))) ∧ RnI E mX12_whyNot (dd, 0, 0) [.ref o, .int x1, .int x2] h (fun v1 h1 => (v1 = 0 → (∃ fs, h1[o]? = some (.inr (11, fs))) ∧ RnV E mX12_likens (dd, 0, 0) [.ref o, .int x1, .int (nI 5)] h1 (fun h2 => (∃ fs, h2[o]? = some (.inr (11, fs))) ∧ RnI E mX12_isWon (dd, 0, 0) [.ref o, .int x2] h2 (fun v3 h3 => (v3 = 0 → K (nI 0) h3) ∧ (¬ v3 = 0 → K (nI 1) h3)))) ∧ (¬ v1 = 0 → K v1 h1))) : RnI E mX12_won (dd + 1, 0, 0) [.ref o, .int x1, .int x2] h K := by
  show gk_G E mX12_won (dd + 1, 0, 0) 0 [(0, .ref o), (1, .int x1), (2, .int x2)] [] h (fun o h1 => ∃ v, o = some (.int v) ∧ K v h1)
  refine gk_aload_n (pc := 0) (DX12_won_0.at 0 rfl) 0 rfl rfl ?_
  refine gk_iload_n (pc := 1) (DX12_won_0.at 1 rfl) 1 rfl rfl ?_
  refine gk_iload_n (pc := 2) (DX12_won_0.at 2 rfl) 2 rfl rfl ?_
  obtain ⟨⟨fs1, q1⟩, hv⟩ := hv
  refine gk_vV (pc := 3) [.int x1, .int x2] [] (DX12_won_0.at 3 rfl) cvX12_223 q1 rfl rfl (Nat.le_of_ble_eq_true rfl) (Nat.le_of_ble_eq_true rfl) (gk_Run.post (fun o h1 z => ?_) hv)
  obtain ⟨v1, rfl, hv⟩ := z
  refine gk_istore_n (pc := 6) [(3, .int v1), (0, .ref o), (1, .int x1), (2, .int x2)] (DX12_won_0.at 4 rfl) rfl (Nat.le_of_ble_eq_true rfl) rfl ?_
  refine gk_iload_n (pc := 7) (DX12_won_0.at 5 rfl) 0 rfl rfl ?_
  refine gk_if_eq (pc := 8) 13 (DX12_won_0.at 6 rfl) (by decide) (fun c => ?_) (fun c => ?_)
  · replace hv := hv.1 c
    refine gk_aload_n (pc := 13) (DX12_won_0.at 9 rfl) 1 rfl rfl ?_
    refine gk_iload_n (pc := 14) (DX12_won_0.at 10 rfl) 2 rfl rfl ?_
    refine gk_iconst (pc := 15) (nI 5) (DX12_won_0.at 11 rfl) ci_5 ?_
    obtain ⟨⟨fs2, q2⟩, hv⟩ := hv
    refine gk_vV (pc := 16) [.int x1, .int (nI 5)] [] (DX12_won_0.at 12 rfl) cvX12_161 q2 rfl rfl (Nat.le_of_ble_eq_true rfl) (Nat.le_of_ble_eq_true rfl) (gk_Run.post (fun o h2 z => ?_) hv)
    obtain ⟨rfl, hv⟩ := z
    refine gk_aload_n (pc := 19) (DX12_won_0.at 13 rfl) 1 rfl rfl ?_
    refine gk_iload_n (pc := 20) (DX12_won_0.at 14 rfl) 3 rfl rfl ?_
    obtain ⟨⟨fs3, q3⟩, hv⟩ := hv
    refine gk_vV (pc := 21) [.int x2] [] (DX12_won_0.at 15 rfl) cvX12_205 q3 rfl rfl (Nat.le_of_ble_eq_true rfl) (Nat.le_of_ble_eq_true rfl) (gk_Run.post (fun o h3 z => ?_) hv)
    obtain ⟨v3, rfl, hv⟩ := z
    refine gk_if_eq (pc := 24) 31 (DX12_won_0.at 16 rfl) (by decide) (fun c => ?_) (fun c => ?_)
    · replace hv := hv.1 c
      refine gk_iconst (pc := 31) (nI 0) (DX12_won_0.at 19 rfl) ci_0 ?_
      exact gk_ireturn (pc := 32) .int (DX12_won_0.at 20 rfl) rfl rfl ⟨_, rfl, hv⟩
    · replace hv := hv.2 c
      refine gk_iconst (pc := 27) (nI 1) (DX12_won_0.at 17 rfl) ci_1 ?_
      refine gk_goto (pc := 28) 32 (DX12_won_0.at 18 rfl) (by decide) ?_
      exact gk_ireturn (pc := 32) .int (DX12_won_0.at 20 rfl) rfl rfl ⟨_, rfl, hv⟩
  · replace hv := hv.2 c
    refine gk_iload_n (pc := 11) (DX12_won_0.at 7 rfl) 0 rfl rfl ?_
    exact gk_ireturn (pc := 12) .int (DX12_won_0.at 8 rfl) rfl rfl ⟨_, rfl, hv⟩
abbrev pX12_word_5 (E : gk_E) (dd : Nat) (o : Nat) (x1 : Int32) (h : gk_H) (K : Int32 → gk_H → Prop) : Prop := gk_G E mX12_word (dd + 1, 0, 0) 5 [(0, .ref o), (1, .int x1)] [] h (fun o h1 => ∃ v, o = some (.int v) ∧ K v h1)
abbrev pX12_word_33 (E : gk_E) (dd : Nat) (o : Nat) (x1 : Int32) (x2 : Int32) (x3 : Int32) (h : gk_H) (K : Int32 → gk_H → Prop) : Prop := gk_G E mX12_word (dd + 1, 0, 0) 33 [(0, .ref o), (1, .int x1), (2, .int x2), (3, .int x3)] [] h (fun o h1 => ∃ v, o = some (.int v) ∧ K v h1)
abbrev pX12_word_41 (E : gk_E) (dd : Nat) (o : Nat) (x1 : Int32) (x2 : Int32) (x3 : Int32) (x4 : Int32) (h : gk_H) (K : Int32 → gk_H → Prop) : Prop := gk_G E mX12_word (dd + 1, 0, 0) 41 [(0, .ref o), (1, .int x1), (2, .int x2), (3, .int x3), (4, .int x4)] [] h (fun o h1 => ∃ v, o = some (.int v) ∧ K v h1)
abbrev pX12_word_82 (E : gk_E) (dd : Nat) (o : Nat) (x1 : Int32) (x2 : Int32) (x3 : Int32) (x4 : Int32) (x5 : Int32) (x6 : Int32) (h : gk_H) (K : Int32 → gk_H → Prop) : Prop := gk_G E mX12_word (dd + 1, 0, 0) 82 [(0, .ref o), (1, .int x1), (2, .int x2), (3, .int x3), (4, .int x4), (5, .int x5), (6, .int x6)] [] h (fun o h1 => ∃ v, o = some (.int v) ∧ K v h1)
set_option maxHeartbeats 4000000 in
theorem vX12_word_0 {E : gk_E} {dd : Nat} {o : Nat}  {h : gk_H} {K : Int32 → gk_H → Prop} (hv : LdI h o 11 22 fun v1 => pX12_word_5 E dd o v1 h K) : RnI E mX12_word (dd + 1, 0, 0) [.ref o] h K := by
  show gk_G E mX12_word (dd + 1, 0, 0) 0 [(0, .ref o)] [] h (fun o h1 => ∃ v, o = some (.int v) ∧ K v h1)
  refine gk_aload_n (pc := 0) (DX12_word_0.at 0 rfl) 0 rfl rfl ?_
  obtain ⟨fs1, v1, q1, r1, hv⟩ := hv
  refine gk_get (pc := 1) (.int v1) (DX12_word_0.at 1 rfl) fX12_264_11 q1 r1 ?_
  refine gk_istore_n (pc := 4) [(1, .int v1), (0, .ref o)] (DX12_word_0.at 2 rfl) rfl (Nat.le_of_ble_eq_true rfl) rfl ?_
  exact gk_pick (pc := 5) [(0, .ref o), (1, .int v1)] [1, 0] rfl hv
set_option maxHeartbeats 4000000 in
theorem vX12_word_5 {E : gk_E} {dd : Nat} {o : Nat} {x1 : Int32}  {h : gk_H} {K : Int32 → gk_H → Prop} (hv : (∃ fs, h[o]? = some (.inr (11, fs))) ∧ RnI E mX12_isAt (dd, 0, 0) [.ref o, .int (nI 97), .int (nI 122)] h (fun v1 h1 => (v1 = 0 → pX12_word_33 E dd o x1 (nI 0) (nI 0) h1 K) ∧ (¬ v1 = 0 → LdI h1 o 11 22 fun v2 => StI h1 o 11 22 (v2 + (nI 1)) fun h3 => pX12_word_5 E dd o x1 h3 K))) : pX12_word_5 E dd o x1 h K := by
  show gk_G E mX12_word (dd + 1, 0, 0) 5 [(0, .ref o), (1, .int x1)] [] h (fun o h1 => ∃ v, o = some (.int v) ∧ K v h1)
  refine gk_aload_n (pc := 5) (DX12_word_0.at 3 rfl) 0 rfl rfl ?_
  refine gk_bipush (pc := 6) (nI 97) (DX12_word_0.at 4 rfl) cb_97 ?_
  refine gk_bipush (pc := 8) (nI 122) (DX12_word_0.at 5 rfl) cb_122 ?_
  obtain ⟨⟨fs1, q1⟩, hv⟩ := hv
  refine gk_vV (pc := 10) [.int (nI 97), .int (nI 122)] [] (DX12_word_0.at 6 rfl) cvX12_270 q1 rfl rfl (Nat.le_of_ble_eq_true rfl) (Nat.le_of_ble_eq_true rfl) (gk_Run.post (fun o h1 z => ?_) hv)
  obtain ⟨v1, rfl, hv⟩ := z
  refine gk_if_eq (pc := 13) 29 (DX12_word_0.at 7 rfl) (by decide) (fun c => ?_) (fun c => ?_)
  · replace hv := hv.1 c
    refine gk_iconst (pc := 29) (nI 0) (DX12_word_0.at 15 rfl) ci_0 ?_
    refine gk_istore_n (pc := 30) [(2, .int (nI 0)), (0, .ref o), (1, .int x1)] (DX12_word_0.at 16 rfl) rfl (Nat.le_of_ble_eq_true rfl) rfl ?_
    refine gk_iconst (pc := 31) (nI 0) (DX12_word_0.at 17 rfl) ci_0 ?_
    refine gk_istore_n (pc := 32) [(3, .int (nI 0)), (2, .int (nI 0)), (0, .ref o), (1, .int x1)] (DX12_word_0.at 18 rfl) rfl (Nat.le_of_ble_eq_true rfl) rfl ?_
    exact gk_pick (pc := 33) [(0, .ref o), (1, .int x1), (2, .int (nI 0)), (3, .int (nI 0))] [2, 3, 1, 0] rfl hv
  · replace hv := hv.2 c
    refine gk_aload_n (pc := 16) (DX12_word_0.at 8 rfl) 0 rfl rfl ?_
    refine gk_dup (pc := 17) (DX12_word_0.at 9 rfl) rfl ?_
    obtain ⟨fs2, v2, q2, r2, hv⟩ := hv
    refine gk_get (pc := 18) (.int v2) (DX12_word_0.at 10 rfl) fX12_264_11 q2 r2 ?_
    refine gk_iconst (pc := 21) (nI 1) (DX12_word_0.at 11 rfl) ci_1 ?_
    refine gk_iadd (pc := 22) (DX12_word_0.at 12 rfl) ?_
    obtain ⟨fs3, q3, r3, hv⟩ := hv
    refine gk_put (pc := 23) (DX12_word_0.at 13 rfl) fX12_264_11w q3 r3 rfl rfl ?_
    generalize h1.set _ _ = h3 at hv ⊢
    refine gk_goto (pc := 26) 5 (DX12_word_0.at 14 rfl) (by decide) ?_
    exact gk_pick (pc := 5) [(0, .ref o), (1, .int x1)] [0, 1] rfl hv
set_option maxHeartbeats 4000000 in
theorem vX12_word_33 {E : gk_E} {dd : Nat} {o : Nat} {x1 : Int32} {x2 : Int32} {x3 : Int32}  {h : gk_H} {K : Int32 → gk_H → Prop} (hv : ((nI 4) ≤ x3 → StI h o 11 22 x1 fun h1 => K ((-1)) h1) ∧ (¬ (nI 4) ≤ x3 → pX12_word_41 E dd o x1 x2 x3 x2 h K)) : pX12_word_33 E dd o x1 x2 x3 h K := by
  show gk_G E mX12_word (dd + 1, 0, 0) 33 [(0, .ref o), (1, .int x1), (2, .int x2), (3, .int x3)] [] h (fun o h1 => ∃ v, o = some (.int v) ∧ K v h1)
  refine gk_iload_n (pc := 33) (DX12_word_0.at 19 rfl) 3 rfl rfl ?_
  refine gk_iconst (pc := 34) (nI 4) (DX12_word_0.at 20 rfl) ci_4 ?_
  refine gk_icmp_ge (pc := 35) 150 (DX12_word_0.at 21 rfl) (by decide) (fun c => ?_) (fun c => ?_)
  · replace hv := hv.1 c
    refine gk_aload_n (pc := 150) (DX12_word_1.at 23 rfl) 0 rfl rfl ?_
    refine gk_iload_n (pc := 151) (DX12_word_1.at 24 rfl) 1 rfl rfl ?_
    obtain ⟨fs1, q1, r1, hv⟩ := hv
    refine gk_put (pc := 152) (DX12_word_1.at 25 rfl) fX12_264_11w q1 r1 rfl rfl ?_
    generalize h.set _ _ = h1 at hv ⊢
    refine gk_iconst (pc := 155) ((-1)) (DX12_word_1.at 26 rfl) ci_m1 ?_
    exact gk_ireturn (pc := 156) .int (DX12_word_1.at 27 rfl) rfl rfl ⟨_, rfl, hv⟩
  · replace hv := hv.2 c
    refine gk_iload_n (pc := 38) (DX12_word_0.at 22 rfl) 2 rfl rfl ?_
    refine gk_istore (pc := 39) [(4, .int x2), (0, .ref o), (1, .int x1), (2, .int x2), (3, .int x3)] (DX12_word_0.at 23 rfl) (Nat.le_of_ble_eq_true rfl) rfl ?_
    exact gk_pick (pc := 41) [(0, .ref o), (1, .int x1), (2, .int x2), (3, .int x3), (4, .int x2)] [1, 2, 3, 4, 0] rfl hv
set_option maxHeartbeats 4000000 in
theorem vX12_word_41 {E : gk_E} {dd : Nat} {o : Nat} {x1 : Int32} {x2 : Int32} {x3 : Int32} {x4 : Int32}  {h : gk_H} {K : Int32 → gk_H → Prop} (hv : LdR h o 11 17 fun v1 => AlC h v1 x4 fun v2 => (v2 = (nI 32) → LdI h o 11 22 fun v3 => (¬ (x4 - x2) = (v3 - x1) → pX12_word_82 E dd o x1 x2 x3 x4 (nI 0) (nI 0) h K) ∧ ((x4 - x2) = (v3 - x1) → pX12_word_82 E dd o x1 x2 x3 x4 (nI 1) (nI 0) h K)) ∧ (¬ v2 = (nI 32) → pX12_word_41 E dd o x1 x2 x3 (x4 + nI 1) h K)) : pX12_word_41 E dd o x1 x2 x3 x4 h K := by
  show gk_G E mX12_word (dd + 1, 0, 0) 41 [(0, .ref o), (1, .int x1), (2, .int x2), (3, .int x3), (4, .int x4)] [] h (fun o h1 => ∃ v, o = some (.int v) ∧ K v h1)
  refine gk_aload_n (pc := 41) (DX12_word_0.at 24 rfl) 0 rfl rfl ?_
  obtain ⟨fs1, v1, q1, r1, hv⟩ := hv
  refine gk_get (pc := 42) (.ref v1) (DX12_word_0.at 25 rfl) fX12_42_11 q1 r1 ?_
  refine gk_iload (pc := 45) (DX12_word_0.at 26 rfl) 4 rfl ?_
  obtain ⟨n2, f2, q2, r2, hv⟩ := hv
  refine gk_cald (pc := 47) (DX12_word_0.at 27 rfl) q2 r2 ?_
  generalize f2 _ = v2 at hv ⊢
  refine gk_bipush (pc := 48) (nI 32) (DX12_word_0.at 28 rfl) cb_32 ?_
  refine gk_icmp_eq (pc := 50) 59 (DX12_word_0.at 29 rfl) (by decide) (fun c => ?_) (fun c => ?_)
  · replace hv := hv.1 c
    refine gk_iload (pc := 59) (DX12_word_0.at 32 rfl) 4 rfl ?_
    refine gk_iload_n (pc := 61) (DX12_word_0.at 33 rfl) 2 rfl rfl ?_
    refine gk_isub (pc := 62) (DX12_word_0.at 34 rfl) ?_
    refine gk_aload_n (pc := 63) (DX12_word_0.at 35 rfl) 0 rfl rfl ?_
    obtain ⟨fs3, v3, q3, r3, hv⟩ := hv
    refine gk_get (pc := 64) (.int v3) (DX12_word_0.at 36 rfl) fX12_264_11 q3 r3 ?_
    refine gk_iload_n (pc := 67) (DX12_word_0.at 37 rfl) 1 rfl rfl ?_
    refine gk_isub (pc := 68) (DX12_word_0.at 38 rfl) ?_
    refine gk_icmp_ne (pc := 69) 76 (DX12_word_0.at 39 rfl) (by decide) (fun c => ?_) (fun c => ?_)
    · replace hv := hv.1 c
      refine gk_iconst (pc := 76) (nI 0) (DX12_word_0.at 42 rfl) ci_0 ?_
      refine gk_istore (pc := 77) [(5, .int (nI 0)), (0, .ref o), (1, .int x1), (2, .int x2), (3, .int x3), (4, .int x4)] (DX12_word_0.at 43 rfl) (Nat.le_of_ble_eq_true rfl) rfl ?_
      refine gk_iconst (pc := 79) (nI 0) (DX12_word_0.at 44 rfl) ci_0 ?_
      refine gk_istore (pc := 80) [(6, .int (nI 0)), (5, .int (nI 0)), (0, .ref o), (1, .int x1), (2, .int x2), (3, .int x3), (4, .int x4)] (DX12_word_0.at 45 rfl) (Nat.le_of_ble_eq_true rfl) rfl ?_
      exact gk_pick (pc := 82) [(0, .ref o), (1, .int x1), (2, .int x2), (3, .int x3), (4, .int x4), (5, .int (nI 0)), (6, .int (nI 0))] [2, 3, 4, 5, 6, 1, 0] rfl hv
    · replace hv := hv.2 c
      refine gk_iconst (pc := 72) (nI 1) (DX12_word_0.at 40 rfl) ci_1 ?_
      refine gk_goto (pc := 73) 77 (DX12_word_0.at 41 rfl) (by decide) ?_
      refine gk_istore (pc := 77) [(5, .int (nI 1)), (0, .ref o), (1, .int x1), (2, .int x2), (3, .int x3), (4, .int x4)] (DX12_word_0.at 43 rfl) (Nat.le_of_ble_eq_true rfl) rfl ?_
      refine gk_iconst (pc := 79) (nI 0) (DX12_word_0.at 44 rfl) ci_0 ?_
      refine gk_istore (pc := 80) [(6, .int (nI 0)), (5, .int (nI 1)), (0, .ref o), (1, .int x1), (2, .int x2), (3, .int x3), (4, .int x4)] (DX12_word_0.at 45 rfl) (Nat.le_of_ble_eq_true rfl) rfl ?_
      exact gk_pick (pc := 82) [(0, .ref o), (1, .int x1), (2, .int x2), (3, .int x3), (4, .int x4), (5, .int (nI 1)), (6, .int (nI 0))] [2, 3, 4, 5, 6, 1, 0] rfl hv
  · replace hv := hv.2 c
    refine gk_iinc (pc := 53) (x4 + nI 1) [(4, .int (x4 + nI 1)), (0, .ref o), (1, .int x1), (2, .int x2), (3, .int x3)] 4 (DX12_word_0.at 30 rfl) rfl (by rw [ci_1]) (Nat.le_of_ble_eq_true rfl) rfl ?_
    refine gk_goto (pc := 56) 41 (DX12_word_0.at 31 rfl) (by decide) ?_
    exact gk_pick (pc := 41) [(0, .ref o), (1, .int x1), (2, .int x2), (3, .int x3), (4, .int (x4 + nI 1))] [1, 2, 3, 4, 0] rfl hv
set_option maxHeartbeats 4000000 in
theorem vX12_word_82 {E : gk_E} {dd : Nat} {o : Nat} {x1 : Int32} {x2 : Int32} {x3 : Int32} {x4 : Int32} {x5 : Int32} {x6 : Int32}  {h : gk_H} {K : Int32 → gk_H → Prop} (hv : (x5 = 0 → (x5 = 0 → pX12_word_33 E dd o x1 (x4 + (nI 1)) (x3 + nI 1) h K) ∧ (¬ x5 = 0 → K x3 h)) ∧ (¬ x5 = 0 → LdI h o 11 22 fun v1 => ((v1 - x1) ≤ x6 → (x5 = 0 → pX12_word_33 E dd o x1 (x4 + (nI 1)) (x3 + nI 1) h K) ∧ (¬ x5 = 0 → K x3 h)) ∧ (¬ (v1 - x1) ≤ x6 → LdR h o 11 17 fun v2 => AlC h v2 (x2 + x6) fun v3 => LdR h o 11 19 fun v4 => AlI h v4 (x1 + x6) fun v5 => (¬ v3 = v5 → pX12_word_82 E dd o x1 x2 x3 x4 (nI 0) (x6 + nI 1) h K) ∧ (v3 = v5 → pX12_word_82 E dd o x1 x2 x3 x4 (nI 1) (x6 + nI 1) h K)))) : pX12_word_82 E dd o x1 x2 x3 x4 x5 x6 h K := by
  show gk_G E mX12_word (dd + 1, 0, 0) 82 [(0, .ref o), (1, .int x1), (2, .int x2), (3, .int x3), (4, .int x4), (5, .int x5), (6, .int x6)] [] h (fun o h1 => ∃ v, o = some (.int v) ∧ K v h1)
  refine gk_iload (pc := 82) (DX12_word_0.at 46 rfl) 5 rfl ?_
  refine gk_if_eq (pc := 84) 132 (DX12_word_0.at 47 rfl) (by decide) (fun c => ?_) (fun c => ?_)
  · replace hv := hv.1 c
    refine gk_iload (pc := 132) (DX12_word_1.at 13 rfl) 5 rfl ?_
    refine gk_if_eq (pc := 134) 139 (DX12_word_1.at 14 rfl) (by decide) (fun c => ?_) (fun c => ?_)
    · replace hv := hv.1 c
      refine gk_iload (pc := 139) (DX12_word_1.at 17 rfl) 4 rfl ?_
      refine gk_iconst (pc := 141) (nI 1) (DX12_word_1.at 18 rfl) ci_1 ?_
      refine gk_iadd (pc := 142) (DX12_word_1.at 19 rfl) ?_
      refine gk_istore_n (pc := 143) [(2, .int (x4 + (nI 1))), (0, .ref o), (1, .int x1), (3, .int x3), (4, .int x4), (5, .int x5), (6, .int x6)] (DX12_word_1.at 20 rfl) rfl (Nat.le_of_ble_eq_true rfl) rfl ?_
      refine gk_iinc (pc := 144) (x3 + nI 1) [(3, .int (x3 + nI 1)), (2, .int (x4 + (nI 1))), (0, .ref o), (1, .int x1), (4, .int x4), (5, .int x5), (6, .int x6)] 3 (DX12_word_1.at 21 rfl) rfl (by rw [ci_1]) (Nat.le_of_ble_eq_true rfl) rfl ?_
      refine gk_goto (pc := 147) 33 (DX12_word_1.at 22 rfl) (by decide) ?_
      exact gk_pick (pc := 33) [(0, .ref o), (1, .int x1), (2, .int (x4 + (nI 1))), (3, .int (x3 + nI 1))] [2, 3, 1, 0] rfl hv
    · replace hv := hv.2 c
      refine gk_iload_n (pc := 137) (DX12_word_1.at 15 rfl) 3 rfl rfl ?_
      exact gk_ireturn (pc := 138) .int (DX12_word_1.at 16 rfl) rfl rfl ⟨_, rfl, hv⟩
  · replace hv := hv.2 c
    refine gk_iload (pc := 87) (DX12_word_0.at 48 rfl) 6 rfl ?_
    refine gk_aload_n (pc := 89) (DX12_word_0.at 49 rfl) 0 rfl rfl ?_
    obtain ⟨fs1, v1, q1, r1, hv⟩ := hv
    refine gk_get (pc := 90) (.int v1) (DX12_word_0.at 50 rfl) fX12_264_11 q1 r1 ?_
    refine gk_iload_n (pc := 93) (DX12_word_0.at 51 rfl) 1 rfl rfl ?_
    refine gk_isub (pc := 94) (DX12_word_0.at 52 rfl) ?_
    refine gk_icmp_ge (pc := 95) 132 (DX12_word_0.at 53 rfl) (by decide) (fun c => ?_) (fun c => ?_)
    · replace hv := hv.1 c
      refine gk_iload (pc := 132) (DX12_word_1.at 13 rfl) 5 rfl ?_
      refine gk_if_eq (pc := 134) 139 (DX12_word_1.at 14 rfl) (by decide) (fun c => ?_) (fun c => ?_)
      · replace hv := hv.1 c
        refine gk_iload (pc := 139) (DX12_word_1.at 17 rfl) 4 rfl ?_
        refine gk_iconst (pc := 141) (nI 1) (DX12_word_1.at 18 rfl) ci_1 ?_
        refine gk_iadd (pc := 142) (DX12_word_1.at 19 rfl) ?_
        refine gk_istore_n (pc := 143) [(2, .int (x4 + (nI 1))), (0, .ref o), (1, .int x1), (3, .int x3), (4, .int x4), (5, .int x5), (6, .int x6)] (DX12_word_1.at 20 rfl) rfl (Nat.le_of_ble_eq_true rfl) rfl ?_
        refine gk_iinc (pc := 144) (x3 + nI 1) [(3, .int (x3 + nI 1)), (2, .int (x4 + (nI 1))), (0, .ref o), (1, .int x1), (4, .int x4), (5, .int x5), (6, .int x6)] 3 (DX12_word_1.at 21 rfl) rfl (by rw [ci_1]) (Nat.le_of_ble_eq_true rfl) rfl ?_
        refine gk_goto (pc := 147) 33 (DX12_word_1.at 22 rfl) (by decide) ?_
        exact gk_pick (pc := 33) [(0, .ref o), (1, .int x1), (2, .int (x4 + (nI 1))), (3, .int (x3 + nI 1))] [2, 3, 1, 0] rfl hv
      · replace hv := hv.2 c
        refine gk_iload_n (pc := 137) (DX12_word_1.at 15 rfl) 3 rfl rfl ?_
        exact gk_ireturn (pc := 138) .int (DX12_word_1.at 16 rfl) rfl rfl ⟨_, rfl, hv⟩
    · replace hv := hv.2 c
      refine gk_aload_n (pc := 98) (DX12_word_0.at 54 rfl) 0 rfl rfl ?_
      obtain ⟨fs2, v2, q2, r2, hv⟩ := hv
      refine gk_get (pc := 99) (.ref v2) (DX12_word_0.at 55 rfl) fX12_42_11 q2 r2 ?_
      refine gk_iload_n (pc := 102) (DX12_word_0.at 56 rfl) 2 rfl rfl ?_
      refine gk_iload (pc := 103) (DX12_word_0.at 57 rfl) 6 rfl ?_
      refine gk_iadd (pc := 105) (DX12_word_0.at 58 rfl) ?_
      obtain ⟨n3, f3, q3, r3, hv⟩ := hv
      refine gk_cald (pc := 106) (DX12_word_0.at 59 rfl) q3 r3 ?_
      generalize f3 _ = v3 at hv ⊢
      refine gk_aload_n (pc := 107) (DX12_word_1.at 0 rfl) 0 rfl rfl ?_
      obtain ⟨fs4, v4, q4, r4, hv⟩ := hv
      refine gk_get (pc := 108) (.ref v4) (DX12_word_1.at 1 rfl) fX12_49_11 q4 r4 ?_
      refine gk_iload_n (pc := 111) (DX12_word_1.at 2 rfl) 1 rfl rfl ?_
      refine gk_iload (pc := 112) (DX12_word_1.at 3 rfl) 6 rfl ?_
      refine gk_iadd (pc := 114) (DX12_word_1.at 4 rfl) ?_
      obtain ⟨n5, f5, q5, r5, hv⟩ := hv
      refine gk_iald (pc := 115) (DX12_word_1.at 5 rfl) q5 r5 ?_
      generalize f5 _ = v5 at hv ⊢
      refine gk_icmp_ne (pc := 116) 123 (DX12_word_1.at 6 rfl) (by decide) (fun c => ?_) (fun c => ?_)
      · replace hv := hv.1 c
        refine gk_iconst (pc := 123) (nI 0) (DX12_word_1.at 9 rfl) ci_0 ?_
        refine gk_istore (pc := 124) [(5, .int (nI 0)), (0, .ref o), (1, .int x1), (2, .int x2), (3, .int x3), (4, .int x4), (6, .int x6)] (DX12_word_1.at 10 rfl) (Nat.le_of_ble_eq_true rfl) rfl ?_
        refine gk_iinc (pc := 126) (x6 + nI 1) [(6, .int (x6 + nI 1)), (5, .int (nI 0)), (0, .ref o), (1, .int x1), (2, .int x2), (3, .int x3), (4, .int x4)] 6 (DX12_word_1.at 11 rfl) rfl (by rw [ci_1]) (Nat.le_of_ble_eq_true rfl) rfl ?_
        refine gk_goto (pc := 129) 82 (DX12_word_1.at 12 rfl) (by decide) ?_
        exact gk_pick (pc := 82) [(0, .ref o), (1, .int x1), (2, .int x2), (3, .int x3), (4, .int x4), (5, .int (nI 0)), (6, .int (x6 + nI 1))] [2, 3, 4, 5, 6, 1, 0] rfl hv
      · replace hv := hv.2 c
        refine gk_iconst (pc := 119) (nI 1) (DX12_word_1.at 7 rfl) ci_1 ?_
        refine gk_goto (pc := 120) 124 (DX12_word_1.at 8 rfl) (by decide) ?_
        refine gk_istore (pc := 124) [(5, .int (nI 1)), (0, .ref o), (1, .int x1), (2, .int x2), (3, .int x3), (4, .int x4), (6, .int x6)] (DX12_word_1.at 10 rfl) (Nat.le_of_ble_eq_true rfl) rfl ?_
        refine gk_iinc (pc := 126) (x6 + nI 1) [(6, .int (x6 + nI 1)), (5, .int (nI 1)), (0, .ref o), (1, .int x1), (2, .int x2), (3, .int x3), (4, .int x4)] 6 (DX12_word_1.at 11 rfl) rfl (by rw [ci_1]) (Nat.le_of_ble_eq_true rfl) rfl ?_
        refine gk_goto (pc := 129) 82 (DX12_word_1.at 12 rfl) (by decide) ?_
        exact gk_pick (pc := 82) [(0, .ref o), (1, .int x1), (2, .int x2), (3, .int x3), (4, .int x4), (5, .int (nI 1)), (6, .int (x6 + nI 1))] [2, 3, 4, 5, 6, 1, 0] rfl hv
set_option maxHeartbeats 4000000 in
theorem vX12_writes_0 {E : gk_E} {dd : Nat} {o : Nat} {x1 : Int32}  {h : gk_H} {K : gk_H → Prop} (hv : LdI h o 11 24 fun v1 => LdI h o 11 25 fun v2 => (¬ v1 = v2 → LdI h o 11 26 fun v3 => StI h o 11 26 v3 fun h4 => LdI h4 o 11 24 fun v5 => StI h4 o 11 24 (v5 + (nI 1)) fun h6 => K h6) ∧ (v1 = v2 → StI h o 11 26 x1 fun h7 => LdI h7 o 11 24 fun v8 => StI h7 o 11 24 (v8 + (nI 1)) fun h9 => K h9)) : RnV E mX12_writes (dd, 0, 0) [.ref o, .int x1] h K := by
  show gk_G E mX12_writes (dd, 0, 0) 0 [(0, .ref o), (1, .int x1)] [] h (fun o h1 => o = none ∧ K h1)
  refine gk_aload_n (pc := 0) (DX12_writes_0.at 0 rfl) 0 rfl rfl ?_
  refine gk_aload_n (pc := 1) (DX12_writes_0.at 1 rfl) 0 rfl rfl ?_
  obtain ⟨fs1, v1, q1, r1, hv⟩ := hv
  refine gk_get (pc := 2) (.int v1) (DX12_writes_0.at 2 rfl) fX12_290_11 q1 r1 ?_
  refine gk_aload_n (pc := 5) (DX12_writes_0.at 3 rfl) 0 rfl rfl ?_
  obtain ⟨fs2, v2, q2, r2, hv⟩ := hv
  refine gk_get (pc := 6) (.int v2) (DX12_writes_0.at 4 rfl) fX12_293_11 q2 r2 ?_
  refine gk_icmp_ne (pc := 9) 16 (DX12_writes_0.at 5 rfl) (by decide) (fun c => ?_) (fun c => ?_)
  · replace hv := hv.1 c
    refine gk_aload_n (pc := 16) (DX12_writes_0.at 8 rfl) 0 rfl rfl ?_
    obtain ⟨fs3, v3, q3, r3, hv⟩ := hv
    refine gk_get (pc := 17) (.int v3) (DX12_writes_0.at 9 rfl) fX12_296_11 q3 r3 ?_
    obtain ⟨fs4, q4, r4, hv⟩ := hv
    refine gk_put (pc := 20) (DX12_writes_0.at 10 rfl) fX12_296_11w q4 r4 rfl rfl ?_
    generalize h.set _ _ = h4 at hv ⊢
    refine gk_aload_n (pc := 23) (DX12_writes_0.at 11 rfl) 0 rfl rfl ?_
    refine gk_dup (pc := 24) (DX12_writes_0.at 12 rfl) rfl ?_
    obtain ⟨fs5, v5, q5, r5, hv⟩ := hv
    refine gk_get (pc := 25) (.int v5) (DX12_writes_0.at 13 rfl) fX12_290_11 q5 r5 ?_
    refine gk_iconst (pc := 28) (nI 1) (DX12_writes_0.at 14 rfl) ci_1 ?_
    refine gk_iadd (pc := 29) (DX12_writes_0.at 15 rfl) ?_
    obtain ⟨fs6, q6, r6, hv⟩ := hv
    refine gk_put (pc := 30) (DX12_writes_0.at 16 rfl) fX12_290_11w q6 r6 rfl rfl ?_
    generalize h4.set _ _ = h6 at hv ⊢
    exact gk_return (pc := 33) (DX12_writes_0.at 17 rfl) rfl ⟨rfl, hv⟩
  · replace hv := hv.2 c
    refine gk_iload_n (pc := 12) (DX12_writes_0.at 6 rfl) 1 rfl rfl ?_
    refine gk_goto (pc := 13) 20 (DX12_writes_0.at 7 rfl) (by decide) ?_
    obtain ⟨fs7, q7, r7, hv⟩ := hv
    refine gk_put (pc := 20) (DX12_writes_0.at 10 rfl) fX12_296_11w q7 r7 rfl rfl ?_
    generalize h.set _ _ = h7 at hv ⊢
    refine gk_aload_n (pc := 23) (DX12_writes_0.at 11 rfl) 0 rfl rfl ?_
    refine gk_dup (pc := 24) (DX12_writes_0.at 12 rfl) rfl ?_
    obtain ⟨fs8, v8, q8, r8, hv⟩ := hv
    refine gk_get (pc := 25) (.int v8) (DX12_writes_0.at 13 rfl) fX12_290_11 q8 r8 ?_
    refine gk_iconst (pc := 28) (nI 1) (DX12_writes_0.at 14 rfl) ci_1 ?_
    refine gk_iadd (pc := 29) (DX12_writes_0.at 15 rfl) ?_
    obtain ⟨fs9, q9, r9, hv⟩ := hv
    refine gk_put (pc := 30) (DX12_writes_0.at 16 rfl) fX12_290_11w q9 r9 rfl rfl ?_
    generalize h7.set _ _ = h9 at hv ⊢
    exact gk_return (pc := 33) (DX12_writes_0.at 17 rfl) rfl ⟨rfl, hv⟩
set_option maxHeartbeats 4000000 in
theorem vX12_writesFigure_0 {E : gk_E} {dd : Nat} {o : Nat} {x1 : Int32}  {h : gk_H} {K : gk_H → Prop} (hv : (∃ fs, h[o]? = some (.inr (11, fs))) ∧ RnV E mX12_writes (dd, 0, 0) [.ref o, .int (nI 32)] h (fun h1 => (∃ fs, h1[o]? = some (.inr (11, fs))) ∧ RnV E mX12_writes (dd, 0, 0) [.ref o, .int ((nI 48) + x1)] h1 (fun h2 => K h2))) : RnV E mX12_writesFigure (dd + 1, 0, 0) [.ref o, .int x1] h K := by
  show gk_G E mX12_writesFigure (dd + 1, 0, 0) 0 [(0, .ref o), (1, .int x1)] [] h (fun o h1 => o = none ∧ K h1)
  refine gk_aload_n (pc := 0) (DX12_writesFigure_0.at 0 rfl) 0 rfl rfl ?_
  refine gk_bipush (pc := 1) (nI 32) (DX12_writesFigure_0.at 1 rfl) cb_32 ?_
  obtain ⟨⟨fs1, q1⟩, hv⟩ := hv
  refine gk_vV (pc := 3) [.int (nI 32)] [] (DX12_writesFigure_0.at 2 rfl) cvX12_299 q1 rfl rfl (Nat.le_of_ble_eq_true rfl) (Nat.le_of_ble_eq_true rfl) (gk_Run.post (fun o h1 z => ?_) hv)
  obtain ⟨rfl, hv⟩ := z
  refine gk_aload_n (pc := 6) (DX12_writesFigure_0.at 3 rfl) 0 rfl rfl ?_
  refine gk_bipush (pc := 7) (nI 48) (DX12_writesFigure_0.at 4 rfl) cb_48 ?_
  refine gk_iload_n (pc := 9) (DX12_writesFigure_0.at 5 rfl) 1 rfl rfl ?_
  refine gk_iadd (pc := 10) (DX12_writesFigure_0.at 6 rfl) ?_
  obtain ⟨⟨fs2, q2⟩, hv⟩ := hv
  refine gk_vV (pc := 11) [.int ((nI 48) + x1)] [] (DX12_writesFigure_0.at 7 rfl) cvX12_299 q2 rfl rfl (Nat.le_of_ble_eq_true rfl) (Nat.le_of_ble_eq_true rfl) (gk_Run.post (fun o h2 z => ?_) hv)
  obtain ⟨rfl, hv⟩ := z
  exact gk_return (pc := 14) (DX12_writesFigure_0.at 8 rfl) rfl ⟨rfl, hv⟩
abbrev pX12_writesWord_4 (E : gk_E) (dd : Nat) (o : Nat) (x1 : Int32) (x2 : Int32) (x3 : Int32) (h : gk_H) (K : gk_H → Prop) : Prop := gk_G E mX12_writesWord (dd + 1, 0, 0) 4 [(0, .ref o), (1, .int x1), (2, .int x2), (3, .int x3)] [] h (fun o h1 => o = none ∧ K h1)
abbrev pX12_writesWord_36 (E : gk_E) (dd : Nat) (o : Nat) (x1 : Int32) (x2 : Int32) (x3 : Int32) (h : gk_H) (K : gk_H → Prop) : Prop := gk_G E mX12_writesWord (dd + 1, 0, 0) 36 [(0, .ref o), (1, .int x1), (2, .int x2), (3, .int x3)] [] h (fun o h1 => o = none ∧ K h1)
set_option maxHeartbeats 4000000 in
theorem vX12_writesWord_0 {E : gk_E} {dd : Nat} {o : Nat} {x1 : Int32}  {h : gk_H} {K : gk_H → Prop} (hv : pX12_writesWord_4 E dd o x1 (nI 0) (nI 0) h K) : RnV E mX12_writesWord (dd + 1, 0, 0) [.ref o, .int x1] h K := by
  show gk_G E mX12_writesWord (dd + 1, 0, 0) 0 [(0, .ref o), (1, .int x1)] [] h (fun o h1 => o = none ∧ K h1)
  refine gk_iconst (pc := 0) (nI 0) (DX12_writesWord_0.at 0 rfl) ci_0 ?_
  refine gk_istore_n (pc := 1) [(2, .int (nI 0)), (0, .ref o), (1, .int x1)] (DX12_writesWord_0.at 1 rfl) rfl (Nat.le_of_ble_eq_true rfl) rfl ?_
  refine gk_iconst (pc := 2) (nI 0) (DX12_writesWord_0.at 2 rfl) ci_0 ?_
  refine gk_istore_n (pc := 3) [(3, .int (nI 0)), (2, .int (nI 0)), (0, .ref o), (1, .int x1)] (DX12_writesWord_0.at 3 rfl) rfl (Nat.le_of_ble_eq_true rfl) rfl ?_
  exact gk_pick (pc := 4) [(0, .ref o), (1, .int x1), (2, .int (nI 0)), (3, .int (nI 0))] [2, 3, 1, 0] rfl hv
set_option maxHeartbeats 4000000 in
theorem vX12_writesWord_4 {E : gk_E} {dd : Nat} {o : Nat} {x1 : Int32} {x2 : Int32} {x3 : Int32}  {h : gk_H} {K : gk_H → Prop} (hv : (x1 ≤ x3 → pX12_writesWord_36 E dd o x1 x2 x2 h K) ∧ (¬ x1 ≤ x3 → LdR h o 11 17 fun v1 => AlC h v1 x2 fun v2 => (¬ v2 = (nI 32) → pX12_writesWord_4 E dd o x1 (x2 + nI 1) (x3 + (nI 0)) h K) ∧ (v2 = (nI 32) → pX12_writesWord_4 E dd o x1 (x2 + nI 1) (x3 + (nI 1)) h K))) : pX12_writesWord_4 E dd o x1 x2 x3 h K := by
  show gk_G E mX12_writesWord (dd + 1, 0, 0) 4 [(0, .ref o), (1, .int x1), (2, .int x2), (3, .int x3)] [] h (fun o h1 => o = none ∧ K h1)
  refine gk_iload_n (pc := 4) (DX12_writesWord_0.at 4 rfl) 3 rfl rfl ?_
  refine gk_iload_n (pc := 5) (DX12_writesWord_0.at 5 rfl) 1 rfl rfl ?_
  refine gk_icmp_ge (pc := 6) 34 (DX12_writesWord_0.at 6 rfl) (by decide) (fun c => ?_) (fun c => ?_)
  · replace hv := hv.1 c
    refine gk_iload_n (pc := 34) (DX12_writesWord_0.at 21 rfl) 2 rfl rfl ?_
    refine gk_istore_n (pc := 35) [(3, .int x2), (0, .ref o), (1, .int x1), (2, .int x2)] (DX12_writesWord_0.at 22 rfl) rfl (Nat.le_of_ble_eq_true rfl) rfl ?_
    exact gk_pick (pc := 36) [(0, .ref o), (1, .int x1), (2, .int x2), (3, .int x2)] [1, 2, 3, 0] rfl hv
  · replace hv := hv.2 c
    refine gk_iload_n (pc := 9) (DX12_writesWord_0.at 7 rfl) 3 rfl rfl ?_
    refine gk_aload_n (pc := 10) (DX12_writesWord_0.at 8 rfl) 0 rfl rfl ?_
    obtain ⟨fs1, v1, q1, r1, hv⟩ := hv
    refine gk_get (pc := 11) (.ref v1) (DX12_writesWord_0.at 9 rfl) fX12_42_11 q1 r1 ?_
    refine gk_iload_n (pc := 14) (DX12_writesWord_0.at 10 rfl) 2 rfl rfl ?_
    obtain ⟨n2, f2, q2, r2, hv⟩ := hv
    refine gk_cald (pc := 15) (DX12_writesWord_0.at 11 rfl) q2 r2 ?_
    generalize f2 _ = v2 at hv ⊢
    refine gk_bipush (pc := 16) (nI 32) (DX12_writesWord_0.at 12 rfl) cb_32 ?_
    refine gk_icmp_ne (pc := 18) 25 (DX12_writesWord_0.at 13 rfl) (by decide) (fun c => ?_) (fun c => ?_)
    · replace hv := hv.1 c
      refine gk_iconst (pc := 25) (nI 0) (DX12_writesWord_0.at 16 rfl) ci_0 ?_
      refine gk_iadd (pc := 26) (DX12_writesWord_0.at 17 rfl) ?_
      refine gk_istore_n (pc := 27) [(3, .int (x3 + (nI 0))), (0, .ref o), (1, .int x1), (2, .int x2)] (DX12_writesWord_0.at 18 rfl) rfl (Nat.le_of_ble_eq_true rfl) rfl ?_
      refine gk_iinc (pc := 28) (x2 + nI 1) [(2, .int (x2 + nI 1)), (3, .int (x3 + (nI 0))), (0, .ref o), (1, .int x1)] 3 (DX12_writesWord_0.at 19 rfl) rfl (by rw [ci_1]) (Nat.le_of_ble_eq_true rfl) rfl ?_
      refine gk_goto (pc := 31) 4 (DX12_writesWord_0.at 20 rfl) (by decide) ?_
      exact gk_pick (pc := 4) [(0, .ref o), (1, .int x1), (2, .int (x2 + nI 1)), (3, .int (x3 + (nI 0)))] [2, 3, 0, 1] rfl hv
    · replace hv := hv.2 c
      refine gk_iconst (pc := 21) (nI 1) (DX12_writesWord_0.at 14 rfl) ci_1 ?_
      refine gk_goto (pc := 22) 26 (DX12_writesWord_0.at 15 rfl) (by decide) ?_
      refine gk_iadd (pc := 26) (DX12_writesWord_0.at 17 rfl) ?_
      refine gk_istore_n (pc := 27) [(3, .int (x3 + (nI 1))), (0, .ref o), (1, .int x1), (2, .int x2)] (DX12_writesWord_0.at 18 rfl) rfl (Nat.le_of_ble_eq_true rfl) rfl ?_
      refine gk_iinc (pc := 28) (x2 + nI 1) [(2, .int (x2 + nI 1)), (3, .int (x3 + (nI 1))), (0, .ref o), (1, .int x1)] 3 (DX12_writesWord_0.at 19 rfl) rfl (by rw [ci_1]) (Nat.le_of_ble_eq_true rfl) rfl ?_
      refine gk_goto (pc := 31) 4 (DX12_writesWord_0.at 20 rfl) (by decide) ?_
      exact gk_pick (pc := 4) [(0, .ref o), (1, .int x1), (2, .int (x2 + nI 1)), (3, .int (x3 + (nI 1)))] [2, 3, 0, 1] rfl hv
set_option maxHeartbeats 4000000 in
theorem vX12_writesWord_36 {E : gk_E} {dd : Nat} {o : Nat} {x1 : Int32} {x2 : Int32} {x3 : Int32}  {h : gk_H} {K : gk_H → Prop} (hv : LdR h o 11 17 fun v1 => AlC h v1 x3 fun v2 => (v2 = (nI 32) → K h) ∧ (¬ v2 = (nI 32) → LdR h o 11 17 fun v3 => AlC h v3 x3 fun v4 => (∃ fs, h[o]? = some (.inr (11, fs))) ∧ RnV E mX12_writes (dd, 0, 0) [.ref o, .int v4] h (fun h5 => pX12_writesWord_36 E dd o x1 x2 (x3 + nI 1) h5 K))) : pX12_writesWord_36 E dd o x1 x2 x3 h K := by
  show gk_G E mX12_writesWord (dd + 1, 0, 0) 36 [(0, .ref o), (1, .int x1), (2, .int x2), (3, .int x3)] [] h (fun o h1 => o = none ∧ K h1)
  refine gk_aload_n (pc := 36) (DX12_writesWord_0.at 23 rfl) 0 rfl rfl ?_
  obtain ⟨fs1, v1, q1, r1, hv⟩ := hv
  refine gk_get (pc := 37) (.ref v1) (DX12_writesWord_0.at 24 rfl) fX12_42_11 q1 r1 ?_
  refine gk_iload_n (pc := 40) (DX12_writesWord_0.at 25 rfl) 3 rfl rfl ?_
  obtain ⟨n2, f2, q2, r2, hv⟩ := hv
  refine gk_cald (pc := 41) (DX12_writesWord_0.at 26 rfl) q2 r2 ?_
  generalize f2 _ = v2 at hv ⊢
  refine gk_bipush (pc := 42) (nI 32) (DX12_writesWord_0.at 27 rfl) cb_32 ?_
  refine gk_icmp_eq (pc := 44) 63 (DX12_writesWord_0.at 28 rfl) (by decide) (fun c => ?_) (fun c => ?_)
  · replace hv := hv.1 c
    exact gk_return (pc := 63) (DX12_writesWord_0.at 37 rfl) rfl ⟨rfl, hv⟩
  · replace hv := hv.2 c
    refine gk_aload_n (pc := 47) (DX12_writesWord_0.at 29 rfl) 0 rfl rfl ?_
    refine gk_aload_n (pc := 48) (DX12_writesWord_0.at 30 rfl) 0 rfl rfl ?_
    obtain ⟨fs3, v3, q3, r3, hv⟩ := hv
    refine gk_get (pc := 49) (.ref v3) (DX12_writesWord_0.at 31 rfl) fX12_42_11 q3 r3 ?_
    refine gk_iload_n (pc := 52) (DX12_writesWord_0.at 32 rfl) 3 rfl rfl ?_
    obtain ⟨n4, f4, q4, r4, hv⟩ := hv
    refine gk_cald (pc := 53) (DX12_writesWord_0.at 33 rfl) q4 r4 ?_
    generalize f4 _ = v4 at hv ⊢
    obtain ⟨⟨fs5, q5⟩, hv⟩ := hv
    refine gk_vV (pc := 54) [.int v4] [] (DX12_writesWord_0.at 34 rfl) cvX12_299 q5 rfl rfl (Nat.le_of_ble_eq_true rfl) (Nat.le_of_ble_eq_true rfl) (gk_Run.post (fun o h5 z => ?_) hv)
    obtain ⟨rfl, hv⟩ := z
    refine gk_iinc (pc := 57) (x3 + nI 1) [(3, .int (x3 + nI 1)), (0, .ref o), (1, .int x1), (2, .int x2)] 3 (DX12_writesWord_0.at 35 rfl) rfl (by rw [ci_1]) (Nat.le_of_ble_eq_true rfl) rfl ?_
    refine gk_goto (pc := 60) 36 (DX12_writesWord_0.at 36 rfl) (by decide) ?_
    exact gk_pick (pc := 36) [(0, .ref o), (1, .int x1), (2, .int x2), (3, .int (x3 + nI 1))] [1, 2, 3, 0] rfl hv
