abbrev pX12_isMet_3 (E : gk_E) (dd : Nat) (o : Nat) (x1 : Int32) (x2 : Int32) (x3 : Int32) (x4 : Int32) (h : gk_H) (K : Int32 → gk_H → Prop) : Prop := gk_G E mX12_isMet (dd, 0, 0) 3 [(0, .ref o), (1, .int x1), (2, .int x2), (3, .int x3), (4, .int x4)] [] h (fun o h1 => ∃ v, o = some (.int v) ∧ K v h1)
set_option maxHeartbeats 4000000 in
theorem vX12_isMet_0 {E : gk_E} {dd : Nat} {o : Nat} {x1 : Int32} {x2 : Int32} {x3 : Int32}  {h : gk_H} {K : Int32 → gk_H → Prop} (hv : pX12_isMet_3 E dd o x1 x2 x3 (nI 0) h K) : RnI E mX12_isMet (dd, 0, 0) [.ref o, .int x1, .int x2, .int x3] h K := by
  show gk_G E mX12_isMet (dd, 0, 0) 0 [(0, .ref o), (1, .int x1), (2, .int x2), (3, .int x3)] [] h (fun o h1 => ∃ v, o = some (.int v) ∧ K v h1)
  refine gk_iconst (pc := 0) (nI 0) (DX12_isMet_0.at 0 rfl) ci_0 ?_
  refine gk_istore (pc := 1) [(4, .int (nI 0)), (0, .ref o), (1, .int x1), (2, .int x2), (3, .int x3)] (DX12_isMet_0.at 1 rfl) (Nat.le_of_ble_eq_true rfl) rfl ?_
  exact gk_pick (pc := 3) [(0, .ref o), (1, .int x1), (2, .int x2), (3, .int x3), (4, .int (nI 0))] [1, 2, 3, 4, 0] rfl hv
set_option maxHeartbeats 4000000 in
theorem vX12_isMet_3 {E : gk_E} {dd : Nat} {o : Nat} {x1 : Int32} {x2 : Int32} {x3 : Int32} {x4 : Int32}  {h : gk_H} {K : Int32 → gk_H → Prop} (hv : LdI h o 11 13 fun v1 => (v1 ≤ x4 → K (nI 0) h) ∧ (¬ v1 ≤ x4 → LdR h o 11 14 fun v2 => AlI h v2 x4 fun v3 => (¬ v3 = x2 → pX12_isMet_3 E dd o x1 x2 x3 (x4 + nI 1) h K) ∧ (v3 = x2 → LdR h o 11 14 fun v4 => LdI h o 11 13 fun v5 => LdI h o 11 13 fun v6 => (¬ v6 = 0) ∧ (AlI h v4 (((x1 - x4) + v5) - ((x1 - x4) + v5) / v6 * v6) fun v7 => (¬ v7 = x3 → pX12_isMet_3 E dd o x1 x2 x3 (x4 + nI 1) h K) ∧ (v7 = x3 → K (nI 1) h))))) : pX12_isMet_3 E dd o x1 x2 x3 x4 h K := by
  show gk_G E mX12_isMet (dd, 0, 0) 3 [(0, .ref o), (1, .int x1), (2, .int x2), (3, .int x3), (4, .int x4)] [] h (fun o h1 => ∃ v, o = some (.int v) ∧ K v h1)
  refine gk_iload (pc := 3) (DX12_isMet_0.at 2 rfl) 4 rfl ?_
  refine gk_aload_n (pc := 5) (DX12_isMet_0.at 3 rfl) 0 rfl rfl ?_
  obtain ⟨fs1, v1, q1, r1, hv⟩ := hv
  refine gk_get (pc := 6) (.int v1) (DX12_isMet_0.at 4 rfl) fX12_235_11 q1 r1 ?_
  refine gk_icmp_ge (pc := 9) 54 (DX12_isMet_0.at 5 rfl) (by decide) (fun c => ?_) (fun c => ?_)
  · replace hv := hv.1 c
    refine gk_iconst (pc := 54) (nI 0) (DX12_isMet_0.at 30 rfl) ci_0 ?_
    exact gk_ireturn (pc := 55) .boolean (DX12_isMet_0.at 31 rfl) rfl rfl ⟨_, rfl, hv⟩
  · replace hv := hv.2 c
    refine gk_aload_n (pc := 12) (DX12_isMet_0.at 6 rfl) 0 rfl rfl ?_
    obtain ⟨fs2, v2, q2, r2, hv⟩ := hv
    refine gk_get (pc := 13) (.ref v2) (DX12_isMet_0.at 7 rfl) fX12_32_11 q2 r2 ?_
    refine gk_iload (pc := 16) (DX12_isMet_0.at 8 rfl) 4 rfl ?_
    obtain ⟨n3, f3, q3, r3, hv⟩ := hv
    refine gk_iald (pc := 18) (DX12_isMet_0.at 9 rfl) q3 r3 ?_
    generalize f3 _ = v3 at hv ⊢
    refine gk_iload_n (pc := 19) (DX12_isMet_0.at 10 rfl) 2 rfl rfl ?_
    refine gk_icmp_ne (pc := 20) 48 (DX12_isMet_0.at 11 rfl) (by decide) (fun c => ?_) (fun c => ?_)
    · replace hv := hv.1 c
      refine gk_iinc (pc := 48) (x4 + nI 1) [(4, .int (x4 + nI 1)), (0, .ref o), (1, .int x1), (2, .int x2), (3, .int x3)] 4 (DX12_isMet_0.at 28 rfl) rfl (by rw [ci_1]) (Nat.le_of_ble_eq_true rfl) rfl ?_
      refine gk_goto (pc := 51) 3 (DX12_isMet_0.at 29 rfl) (by decide) ?_
      exact gk_pick (pc := 3) [(0, .ref o), (1, .int x1), (2, .int x2), (3, .int x3), (4, .int (x4 + nI 1))] [1, 2, 3, 4, 0] rfl hv
    · replace hv := hv.2 c
      refine gk_aload_n (pc := 23) (DX12_isMet_0.at 12 rfl) 0 rfl rfl ?_
      obtain ⟨fs4, v4, q4, r4, hv⟩ := hv
      refine gk_get (pc := 24) (.ref v4) (DX12_isMet_0.at 13 rfl) fX12_32_11 q4 r4 ?_
      refine gk_iload_n (pc := 27) (DX12_isMet_0.at 14 rfl) 1 rfl rfl ?_
      refine gk_iload (pc := 28) (DX12_isMet_0.at 15 rfl) 4 rfl ?_
      refine gk_isub (pc := 30) (DX12_isMet_0.at 16 rfl) ?_
      refine gk_aload_n (pc := 31) (DX12_isMet_0.at 17 rfl) 0 rfl rfl ?_
      obtain ⟨fs5, v5, q5, r5, hv⟩ := hv
      refine gk_get (pc := 32) (.int v5) (DX12_isMet_0.at 18 rfl) fX12_235_11 q5 r5 ?_
      refine gk_iadd (pc := 35) (DX12_isMet_0.at 19 rfl) ?_
      refine gk_aload_n (pc := 36) (DX12_isMet_0.at 20 rfl) 0 rfl rfl ?_
      obtain ⟨fs6, v6, q6, r6, hv⟩ := hv
      refine gk_get (pc := 37) (.int v6) (DX12_isMet_0.at 21 rfl) fX12_235_11 q6 r6 ?_
      obtain ⟨hy, hv⟩ := hv
      refine gk_irem (pc := 40) (DX12_isMet_0.at 22 rfl) hy ?_
      obtain ⟨n7, f7, q7, r7, hv⟩ := hv
      refine gk_iald (pc := 41) (DX12_isMet_0.at 23 rfl) q7 r7 ?_
      generalize f7 _ = v7 at hv ⊢
      refine gk_iload_n (pc := 42) (DX12_isMet_0.at 24 rfl) 3 rfl rfl ?_
      refine gk_icmp_ne (pc := 43) 48 (DX12_isMet_0.at 25 rfl) (by decide) (fun c => ?_) (fun c => ?_)
      · replace hv := hv.1 c
        refine gk_iinc (pc := 48) (x4 + nI 1) [(4, .int (x4 + nI 1)), (0, .ref o), (1, .int x1), (2, .int x2), (3, .int x3)] 4 (DX12_isMet_0.at 28 rfl) rfl (by rw [ci_1]) (Nat.le_of_ble_eq_true rfl) rfl ?_
        refine gk_goto (pc := 51) 3 (DX12_isMet_0.at 29 rfl) (by decide) ?_
        exact gk_pick (pc := 3) [(0, .ref o), (1, .int x1), (2, .int x2), (3, .int x3), (4, .int (x4 + nI 1))] [1, 2, 3, 4, 0] rfl hv
      · replace hv := hv.2 c
        refine gk_iconst (pc := 46) (nI 1) (DX12_isMet_0.at 26 rfl) ci_1 ?_
        exact gk_ireturn (pc := 47) .boolean (DX12_isMet_0.at 27 rfl) rfl rfl ⟨_, rfl, hv⟩
set_option maxHeartbeats 4000000 in
theorem vX12_isNet_0 {E : gk_E} {dd : Nat} {x0 : Int32}  {h : gk_H} {K : Int32 → gk_H → Prop} (hv : RnI E mX12_isFrom (dd, 0, 0) [.long x0.toInt64, .long (lN 0), .long (lN 2)] h (fun v1 h1 => (bz v1 ∧ K v1 h1))) : RnI E mX12_isNet (dd + 1, 0, 0) [.int x0] h K := by
  show gk_G E mX12_isNet (dd + 1, 0, 0) 0 [(0, .int x0)] [] h (fun o h1 => ∃ v, o = some (.int v) ∧ K v h1)
  refine gk_iload_n (pc := 0) (DX12_isNet_0.at 0 rfl) 0 rfl rfl ?_
  refine gk_i2l (pc := 1) (DX12_isNet_0.at 1 rfl) ?_
  refine gk_lconst (pc := 2) (lN 0) (DX12_isNet_0.at 2 rfl) rfl ?_
  refine gk_ldc2 (pc := 3) (lN 2) (DX12_isNet_0.at 3 rfl) klX12_123 ?_
  refine gk_vS (pc := 6) [.long x0.toInt64, .long (lN 0), .long (lN 2)] [] (DX12_isNet_0.at 4 rfl) csX12_70 rfl rfl (Nat.le_of_ble_eq_true rfl) (Nat.le_of_ble_eq_true rfl) (gk_Run.post (fun o h1 z => ?_) hv)
  obtain ⟨v1, rfl, hv⟩ := z
  exact gk_ireturn (pc := 9) .boolean (DX12_isNet_0.at 5 rfl) rfl (bz_n hv.1) ⟨_, rfl, hv.2⟩
set_option maxHeartbeats 4000000 in
theorem vX12_isNode_0 {E : gk_E} {dd : Nat} {o : Nat} {x1 : Int32} {x2 : Int32}  {h : gk_H} {K : Int32 → gk_H → Prop} (hv : LdR h o 11 3 fun v1 => AlI h v1 x1 fun v2 => RnI E mX12_isFrom (dd, 0, 0) [.long x2.toInt64, .long (lN 0), .long ((v2 - (nI 1)).toInt64)] h (fun v3 h3 => (bz v3 ∧ K v3 h3))) : RnI E mX12_isNode (dd + 1, 0, 0) [.ref o, .int x1, .int x2] h K := by
  show gk_G E mX12_isNode (dd + 1, 0, 0) 0 [(0, .ref o), (1, .int x1), (2, .int x2)] [] h (fun o h1 => ∃ v, o = some (.int v) ∧ K v h1)
  refine gk_iload_n (pc := 0) (DX12_isNode_0.at 0 rfl) 2 rfl rfl ?_
  refine gk_i2l (pc := 1) (DX12_isNode_0.at 1 rfl) ?_
  refine gk_lconst (pc := 2) (lN 0) (DX12_isNode_0.at 2 rfl) rfl ?_
  refine gk_aload_n (pc := 3) (DX12_isNode_0.at 3 rfl) 0 rfl rfl ?_
  obtain ⟨fs1, v1, q1, r1, hv⟩ := hv
  refine gk_get (pc := 4) (.ref v1) (DX12_isNode_0.at 4 rfl) fX12_23_11 q1 r1 ?_
  refine gk_iload_n (pc := 7) (DX12_isNode_0.at 5 rfl) 1 rfl rfl ?_
  obtain ⟨n2, f2, q2, r2, hv⟩ := hv
  refine gk_iald (pc := 8) (DX12_isNode_0.at 6 rfl) q2 r2 ?_
  generalize f2 _ = v2 at hv ⊢
  refine gk_iconst (pc := 9) (nI 1) (DX12_isNode_0.at 7 rfl) ci_1 ?_
  refine gk_isub (pc := 10) (DX12_isNode_0.at 8 rfl) ?_
  refine gk_i2l (pc := 11) (DX12_isNode_0.at 9 rfl) ?_
  refine gk_vS (pc := 12) [.long x2.toInt64, .long (lN 0), .long ((v2 - (nI 1)).toInt64)] [] (DX12_isNode_0.at 10 rfl) csX12_70 rfl rfl (Nat.le_of_ble_eq_true rfl) (Nat.le_of_ble_eq_true rfl) (gk_Run.post (fun o h3 z => ?_) hv)
  obtain ⟨v3, rfl, hv⟩ := z
  exact gk_ireturn (pc := 15) .boolean (DX12_isNode_0.at 11 rfl) rfl (bz_n hv.1) ⟨_, rfl, hv.2⟩
set_option maxHeartbeats 4000000 in
theorem vX12_isOther_0 {E : gk_E} {dd : Nat} {o : Nat} {x1 : Int32}  {h : gk_H} {K : Int32 → gk_H → Prop} (hv : LdI h o 11 0 fun v1 => RnI E mX12_isFrom (dd, 0, 0) [.long x1.toInt64, .long (lN 1), .long ((v1 - (nI 1)).toInt64)] h (fun v2 h2 => (bz v2 ∧ K v2 h2))) : RnI E mX12_isOther (dd + 1, 0, 0) [.ref o, .int x1] h K := by
  show gk_G E mX12_isOther (dd + 1, 0, 0) 0 [(0, .ref o), (1, .int x1)] [] h (fun o h1 => ∃ v, o = some (.int v) ∧ K v h1)
  refine gk_iload_n (pc := 0) (DX12_isOther_0.at 0 rfl) 1 rfl rfl ?_
  refine gk_i2l (pc := 1) (DX12_isOther_0.at 1 rfl) ?_
  refine gk_lconst (pc := 2) (lN 1) (DX12_isOther_0.at 2 rfl) rfl ?_
  refine gk_aload_n (pc := 3) (DX12_isOther_0.at 3 rfl) 0 rfl rfl ?_
  obtain ⟨fs1, v1, q1, r1, hv⟩ := hv
  refine gk_get (pc := 4) (.int v1) (DX12_isOther_0.at 4 rfl) fX12_9_11 q1 r1 ?_
  refine gk_iconst (pc := 7) (nI 1) (DX12_isOther_0.at 5 rfl) ci_1 ?_
  refine gk_isub (pc := 8) (DX12_isOther_0.at 6 rfl) ?_
  refine gk_i2l (pc := 9) (DX12_isOther_0.at 7 rfl) ?_
  refine gk_vS (pc := 10) [.long x1.toInt64, .long (lN 1), .long ((v1 - (nI 1)).toInt64)] [] (DX12_isOther_0.at 8 rfl) csX12_70 rfl rfl (Nat.le_of_ble_eq_true rfl) (Nat.le_of_ble_eq_true rfl) (gk_Run.post (fun o h2 z => ?_) hv)
  obtain ⟨v2, rfl, hv⟩ := z
  exact gk_ireturn (pc := 13) .boolean (DX12_isOther_0.at 9 rfl) rfl (bz_n hv.1) ⟨_, rfl, hv.2⟩
abbrev pX12_isPictured_34 (E : gk_E) (dd : Nat) (o : Nat) (x1 : Int32) (x2 : Int32) (h : gk_H) (K : Int32 → gk_H → Prop) : Prop := gk_G E mX12_isPictured (dd + 1, 0, 0) 34 [(0, .ref o), (1, .int x1), (2, .int x2)] [] h (fun o h1 => ∃ v, o = some (.int v) ∧ K v h1)
set_option maxHeartbeats 4000000 in
theorem vX12_isPictured_0 {E : gk_E} {dd : Nat} {o : Nat} {x1 : Int32}  {h : gk_H} {K : Int32 → gk_H → Prop} (hv : LdI h o 11 13 fun v1 => (((nI 2) * x1) ≤ v1 → pX12_isPictured_34 E dd o x1 (nI 1) h K) ∧ (¬ ((nI 2) * x1) ≤ v1 → (∃ fs, h[o]? = some (.inr (11, fs))) ∧ RnI E mX12_isAllHad (dd, 0, 0) [.ref o] h (fun v2 h2 => (v2 = 0 → K (nI 0) h2) ∧ (¬ v2 = 0 → (∃ fs, h2[o]? = some (.inr (11, fs))) ∧ RnI E mX12_falseStep (dd, 0, 0) [.ref o] h2 (fun v3 h3 => (¬ v3 = ((-5)) → K (nI 0) h3) ∧ (v3 = ((-5)) → K (nI 1) h3)))))) : RnI E mX12_isPictured (dd + 1, 0, 0) [.ref o, .int x1] h K := by
  show gk_G E mX12_isPictured (dd + 1, 0, 0) 0 [(0, .ref o), (1, .int x1)] [] h (fun o h1 => ∃ v, o = some (.int v) ∧ K v h1)
  refine gk_iconst (pc := 0) (nI 2) (DX12_isPictured_0.at 0 rfl) ci_2 ?_
  refine gk_iload_n (pc := 1) (DX12_isPictured_0.at 1 rfl) 1 rfl rfl ?_
  refine gk_imul (pc := 2) (DX12_isPictured_0.at 2 rfl) ?_
  refine gk_aload_n (pc := 3) (DX12_isPictured_0.at 3 rfl) 0 rfl rfl ?_
  obtain ⟨fs1, v1, q1, r1, hv⟩ := hv
  refine gk_get (pc := 4) (.int v1) (DX12_isPictured_0.at 4 rfl) fX12_235_11 q1 r1 ?_
  refine gk_icmp_le (pc := 7) 32 (DX12_isPictured_0.at 5 rfl) (by decide) (fun c => ?_) (fun c => ?_)
  · replace hv := hv.1 c
    refine gk_iconst (pc := 32) (nI 1) (DX12_isPictured_0.at 17 rfl) ci_1 ?_
    refine gk_istore_n (pc := 33) [(2, .int (nI 1)), (0, .ref o), (1, .int x1)] (DX12_isPictured_0.at 18 rfl) rfl (Nat.le_of_ble_eq_true rfl) rfl ?_
    exact gk_pick (pc := 34) [(0, .ref o), (1, .int x1), (2, .int (nI 1))] [1, 2, 0] rfl hv
  · replace hv := hv.2 c
    refine gk_aload_n (pc := 10) (DX12_isPictured_0.at 6 rfl) 0 rfl rfl ?_
    obtain ⟨⟨fs2, q2⟩, hv⟩ := hv
    refine gk_vV (pc := 11) [] [] (DX12_isPictured_0.at 7 rfl) cvX12_244 q2 rfl rfl (Nat.le_of_ble_eq_true rfl) (Nat.le_of_ble_eq_true rfl) (gk_Run.post (fun o h2 z => ?_) hv)
    obtain ⟨v2, rfl, hv⟩ := z
    refine gk_if_eq (pc := 14) 30 (DX12_isPictured_0.at 8 rfl) (by decide) (fun c => ?_) (fun c => ?_)
    · replace hv := hv.1 c
      refine gk_iconst (pc := 30) (nI 0) (DX12_isPictured_0.at 15 rfl) ci_0 ?_
      exact gk_ireturn (pc := 31) .boolean (DX12_isPictured_0.at 16 rfl) rfl rfl ⟨_, rfl, hv⟩
    · replace hv := hv.2 c
      refine gk_aload_n (pc := 17) (DX12_isPictured_0.at 9 rfl) 0 rfl rfl ?_
      obtain ⟨⟨fs3, q3⟩, hv⟩ := hv
      refine gk_vV (pc := 18) [] [] (DX12_isPictured_0.at 10 rfl) cvX12_248 q3 rfl rfl (Nat.le_of_ble_eq_true rfl) (Nat.le_of_ble_eq_true rfl) (gk_Run.post (fun o h3 z => ?_) hv)
      obtain ⟨v3, rfl, hv⟩ := z
      refine gk_bipush (pc := 21) ((-5)) (DX12_isPictured_0.at 11 rfl) cb_m5 ?_
      refine gk_icmp_ne (pc := 23) 30 (DX12_isPictured_0.at 12 rfl) (by decide) (fun c => ?_) (fun c => ?_)
      · replace hv := hv.1 c
        refine gk_iconst (pc := 30) (nI 0) (DX12_isPictured_0.at 15 rfl) ci_0 ?_
        exact gk_ireturn (pc := 31) .boolean (DX12_isPictured_0.at 16 rfl) rfl rfl ⟨_, rfl, hv⟩
      · replace hv := hv.2 c
        refine gk_iconst (pc := 26) (nI 1) (DX12_isPictured_0.at 13 rfl) ci_1 ?_
        refine gk_goto (pc := 27) 31 (DX12_isPictured_0.at 14 rfl) (by decide) ?_
        exact gk_ireturn (pc := 31) .boolean (DX12_isPictured_0.at 16 rfl) rfl rfl ⟨_, rfl, hv⟩
set_option maxHeartbeats 4000000 in
theorem vX12_isPictured_34 {E : gk_E} {dd : Nat} {o : Nat} {x1 : Int32} {x2 : Int32}  {h : gk_H} {K : Int32 → gk_H → Prop} (hv : LdI h o 11 0 fun v1 => (v1 ≤ x2 → K (nI 0) h) ∧ (¬ v1 ≤ x2 → LdI h o 11 13 fun v2 => (¬ ((nI 2) * x1) = v2 → LdR h o 11 14 fun v3 => AsI h v3 x1 x2 fun h4 => LdR h4 o 11 14 fun v5 => LdI h4 o 11 13 fun v6 => LdR h4 o 11 1 fun v7 => AlI h4 v7 x2 fun v8 => AsI h4 v5 (v6 - x1) v8 fun h9 => (∃ fs, h9[o]? = some (.inr (11, fs))) ∧ RnI E mX12_isPictured (dd, 0, 0) [.ref o, .int (x1 + (nI 1))] h9 (fun v10 h10 => (v10 = 0 → pX12_isPictured_34 E dd o x1 (x2 + nI 1) h10 K) ∧ (¬ v10 = 0 → K (nI 1) h10))) ∧ (((nI 2) * x1) = v2 → LdR h o 11 1 fun v11 => AlI h v11 x2 fun v12 => (¬ v12 = x2 → pX12_isPictured_34 E dd o x1 (x2 + nI 1) h K) ∧ (v12 = x2 → LdR h o 11 14 fun v13 => AsI h v13 x1 x2 fun h14 => LdR h14 o 11 14 fun v15 => LdI h14 o 11 13 fun v16 => LdR h14 o 11 1 fun v17 => AlI h14 v17 x2 fun v18 => AsI h14 v15 (v16 - x1) v18 fun h19 => (∃ fs, h19[o]? = some (.inr (11, fs))) ∧ RnI E mX12_isPictured (dd, 0, 0) [.ref o, .int (x1 + (nI 1))] h19 (fun v20 h20 => (v20 = 0 → pX12_isPictured_34 E dd o x1 (x2 + nI 1) h20 K) ∧ (¬ v20 = 0 → K (nI 1) h20)))))) : pX12_isPictured_34 E dd o x1 x2 h K := by
  show gk_G E mX12_isPictured (dd + 1, 0, 0) 34 [(0, .ref o), (1, .int x1), (2, .int x2)] [] h (fun o h1 => ∃ v, o = some (.int v) ∧ K v h1)
  refine gk_iload_n (pc := 34) (DX12_isPictured_0.at 19 rfl) 2 rfl rfl ?_
  refine gk_aload_n (pc := 35) (DX12_isPictured_0.at 20 rfl) 0 rfl rfl ?_
  obtain ⟨fs1, v1, q1, r1, hv⟩ := hv
  refine gk_get (pc := 36) (.int v1) (DX12_isPictured_0.at 21 rfl) fX12_9_11 q1 r1 ?_
  refine gk_icmp_ge (pc := 39) 104 (DX12_isPictured_0.at 22 rfl) (by decide) (fun c => ?_) (fun c => ?_)
  · replace hv := hv.1 c
    refine gk_iconst (pc := 104) (nI 0) (DX12_isPictured_1.at 1 rfl) ci_0 ?_
    exact gk_ireturn (pc := 105) .boolean (DX12_isPictured_1.at 2 rfl) rfl rfl ⟨_, rfl, hv⟩
  · replace hv := hv.2 c
    refine gk_iconst (pc := 42) (nI 2) (DX12_isPictured_0.at 23 rfl) ci_2 ?_
    refine gk_iload_n (pc := 43) (DX12_isPictured_0.at 24 rfl) 1 rfl rfl ?_
    refine gk_imul (pc := 44) (DX12_isPictured_0.at 25 rfl) ?_
    refine gk_aload_n (pc := 45) (DX12_isPictured_0.at 26 rfl) 0 rfl rfl ?_
    obtain ⟨fs2, v2, q2, r2, hv⟩ := hv
    refine gk_get (pc := 46) (.int v2) (DX12_isPictured_0.at 27 rfl) fX12_235_11 q2 r2 ?_
    refine gk_icmp_ne (pc := 49) 62 (DX12_isPictured_0.at 28 rfl) (by decide) (fun c => ?_) (fun c => ?_)
    · replace hv := hv.1 c
      refine gk_aload_n (pc := 62) (DX12_isPictured_0.at 35 rfl) 0 rfl rfl ?_
      obtain ⟨fs3, v3, q3, r3, hv⟩ := hv
      refine gk_get (pc := 63) (.ref v3) (DX12_isPictured_0.at 36 rfl) fX12_32_11 q3 r3 ?_
      refine gk_iload_n (pc := 66) (DX12_isPictured_0.at 37 rfl) 1 rfl rfl ?_
      refine gk_iload_n (pc := 67) (DX12_isPictured_0.at 38 rfl) 2 rfl rfl ?_
      obtain ⟨n4, f4, q4, r4, hv⟩ := hv
      refine gk_iast (pc := 68) (DX12_isPictured_0.at 39 rfl) q4 r4 ?_
      generalize h.set _ _ = h4 at hv ⊢
      refine gk_aload_n (pc := 69) (DX12_isPictured_0.at 40 rfl) 0 rfl rfl ?_
      obtain ⟨fs5, v5, q5, r5, hv⟩ := hv
      refine gk_get (pc := 70) (.ref v5) (DX12_isPictured_0.at 41 rfl) fX12_32_11 q5 r5 ?_
      refine gk_aload_n (pc := 73) (DX12_isPictured_0.at 42 rfl) 0 rfl rfl ?_
      obtain ⟨fs6, v6, q6, r6, hv⟩ := hv
      refine gk_get (pc := 74) (.int v6) (DX12_isPictured_0.at 43 rfl) fX12_235_11 q6 r6 ?_
      refine gk_iload_n (pc := 77) (DX12_isPictured_0.at 44 rfl) 1 rfl rfl ?_
      refine gk_isub (pc := 78) (DX12_isPictured_0.at 45 rfl) ?_
      refine gk_aload_n (pc := 79) (DX12_isPictured_0.at 46 rfl) 0 rfl rfl ?_
      obtain ⟨fs7, v7, q7, r7, hv⟩ := hv
      refine gk_get (pc := 80) (.ref v7) (DX12_isPictured_0.at 47 rfl) fX12_15_11 q7 r7 ?_
      refine gk_iload_n (pc := 83) (DX12_isPictured_0.at 48 rfl) 2 rfl rfl ?_
      obtain ⟨n8, f8, q8, r8, hv⟩ := hv
      refine gk_iald (pc := 84) (DX12_isPictured_0.at 49 rfl) q8 r8 ?_
      generalize f8 _ = v8 at hv ⊢
      obtain ⟨n9, f9, q9, r9, hv⟩ := hv
      refine gk_iast (pc := 85) (DX12_isPictured_0.at 50 rfl) q9 r9 ?_
      generalize h4.set _ _ = h9 at hv ⊢
      refine gk_aload_n (pc := 86) (DX12_isPictured_0.at 51 rfl) 0 rfl rfl ?_
      refine gk_iload_n (pc := 87) (DX12_isPictured_0.at 52 rfl) 1 rfl rfl ?_
      refine gk_iconst (pc := 88) (nI 1) (DX12_isPictured_0.at 53 rfl) ci_1 ?_
      refine gk_iadd (pc := 89) (DX12_isPictured_0.at 54 rfl) ?_
      obtain ⟨⟨fs10, q10⟩, hv⟩ := hv
      refine gk_vV (pc := 90) [.int (x1 + (nI 1))] [] (DX12_isPictured_0.at 55 rfl) cvX12_252 q10 rfl rfl (Nat.le_of_ble_eq_true rfl) (Nat.le_of_ble_eq_true rfl) (gk_Run.post (fun o h10 z => ?_) hv)
      obtain ⟨v10, rfl, hv⟩ := z
      refine gk_if_eq (pc := 93) 98 (DX12_isPictured_0.at 56 rfl) (by decide) (fun c => ?_) (fun c => ?_)
      · replace hv := hv.1 c
        refine gk_iinc (pc := 98) (x2 + nI 1) [(2, .int (x2 + nI 1)), (0, .ref o), (1, .int x1)] 2 (DX12_isPictured_0.at 59 rfl) rfl (by rw [ci_1]) (Nat.le_of_ble_eq_true rfl) rfl ?_
        refine gk_goto (pc := 101) 34 (DX12_isPictured_1.at 0 rfl) (by decide) ?_
        exact gk_pick (pc := 34) [(0, .ref o), (1, .int x1), (2, .int (x2 + nI 1))] [1, 2, 0] rfl hv
      · replace hv := hv.2 c
        refine gk_iconst (pc := 96) (nI 1) (DX12_isPictured_0.at 57 rfl) ci_1 ?_
        exact gk_ireturn (pc := 97) .boolean (DX12_isPictured_0.at 58 rfl) rfl rfl ⟨_, rfl, hv⟩
    · replace hv := hv.2 c
      refine gk_aload_n (pc := 52) (DX12_isPictured_0.at 29 rfl) 0 rfl rfl ?_
      obtain ⟨fs11, v11, q11, r11, hv⟩ := hv
      refine gk_get (pc := 53) (.ref v11) (DX12_isPictured_0.at 30 rfl) fX12_15_11 q11 r11 ?_
      refine gk_iload_n (pc := 56) (DX12_isPictured_0.at 31 rfl) 2 rfl rfl ?_
      obtain ⟨n12, f12, q12, r12, hv⟩ := hv
      refine gk_iald (pc := 57) (DX12_isPictured_0.at 32 rfl) q12 r12 ?_
      generalize f12 _ = v12 at hv ⊢
      refine gk_iload_n (pc := 58) (DX12_isPictured_0.at 33 rfl) 2 rfl rfl ?_
      refine gk_icmp_ne (pc := 59) 98 (DX12_isPictured_0.at 34 rfl) (by decide) (fun c => ?_) (fun c => ?_)
      · replace hv := hv.1 c
        refine gk_iinc (pc := 98) (x2 + nI 1) [(2, .int (x2 + nI 1)), (0, .ref o), (1, .int x1)] 2 (DX12_isPictured_0.at 59 rfl) rfl (by rw [ci_1]) (Nat.le_of_ble_eq_true rfl) rfl ?_
        refine gk_goto (pc := 101) 34 (DX12_isPictured_1.at 0 rfl) (by decide) ?_
        exact gk_pick (pc := 34) [(0, .ref o), (1, .int x1), (2, .int (x2 + nI 1))] [1, 2, 0] rfl hv
      · replace hv := hv.2 c
        refine gk_aload_n (pc := 62) (DX12_isPictured_0.at 35 rfl) 0 rfl rfl ?_
        obtain ⟨fs13, v13, q13, r13, hv⟩ := hv
        refine gk_get (pc := 63) (.ref v13) (DX12_isPictured_0.at 36 rfl) fX12_32_11 q13 r13 ?_
        refine gk_iload_n (pc := 66) (DX12_isPictured_0.at 37 rfl) 1 rfl rfl ?_
        refine gk_iload_n (pc := 67) (DX12_isPictured_0.at 38 rfl) 2 rfl rfl ?_
        obtain ⟨n14, f14, q14, r14, hv⟩ := hv
        refine gk_iast (pc := 68) (DX12_isPictured_0.at 39 rfl) q14 r14 ?_
        generalize h.set _ _ = h14 at hv ⊢
        refine gk_aload_n (pc := 69) (DX12_isPictured_0.at 40 rfl) 0 rfl rfl ?_
        obtain ⟨fs15, v15, q15, r15, hv⟩ := hv
        refine gk_get (pc := 70) (.ref v15) (DX12_isPictured_0.at 41 rfl) fX12_32_11 q15 r15 ?_
        refine gk_aload_n (pc := 73) (DX12_isPictured_0.at 42 rfl) 0 rfl rfl ?_
        obtain ⟨fs16, v16, q16, r16, hv⟩ := hv
        refine gk_get (pc := 74) (.int v16) (DX12_isPictured_0.at 43 rfl) fX12_235_11 q16 r16 ?_
        refine gk_iload_n (pc := 77) (DX12_isPictured_0.at 44 rfl) 1 rfl rfl ?_
        refine gk_isub (pc := 78) (DX12_isPictured_0.at 45 rfl) ?_
        refine gk_aload_n (pc := 79) (DX12_isPictured_0.at 46 rfl) 0 rfl rfl ?_
        obtain ⟨fs17, v17, q17, r17, hv⟩ := hv
        refine gk_get (pc := 80) (.ref v17) (DX12_isPictured_0.at 47 rfl) fX12_15_11 q17 r17 ?_
        refine gk_iload_n (pc := 83) (DX12_isPictured_0.at 48 rfl) 2 rfl rfl ?_
        obtain ⟨n18, f18, q18, r18, hv⟩ := hv
        refine gk_iald (pc := 84) (DX12_isPictured_0.at 49 rfl) q18 r18 ?_
        generalize f18 _ = v18 at hv ⊢
        obtain ⟨n19, f19, q19, r19, hv⟩ := hv
        refine gk_iast (pc := 85) (DX12_isPictured_0.at 50 rfl) q19 r19 ?_
        generalize h14.set _ _ = h19 at hv ⊢
        refine gk_aload_n (pc := 86) (DX12_isPictured_0.at 51 rfl) 0 rfl rfl ?_
        refine gk_iload_n (pc := 87) (DX12_isPictured_0.at 52 rfl) 1 rfl rfl ?_
        refine gk_iconst (pc := 88) (nI 1) (DX12_isPictured_0.at 53 rfl) ci_1 ?_
        refine gk_iadd (pc := 89) (DX12_isPictured_0.at 54 rfl) ?_
        obtain ⟨⟨fs20, q20⟩, hv⟩ := hv
        refine gk_vV (pc := 90) [.int (x1 + (nI 1))] [] (DX12_isPictured_0.at 55 rfl) cvX12_252 q20 rfl rfl (Nat.le_of_ble_eq_true rfl) (Nat.le_of_ble_eq_true rfl) (gk_Run.post (fun o h20 z => ?_) hv)
        obtain ⟨v20, rfl, hv⟩ := z
        refine gk_if_eq (pc := 93) 98 (DX12_isPictured_0.at 56 rfl) (by decide) (fun c => ?_) (fun c => ?_)
        · replace hv := hv.1 c
          refine gk_iinc (pc := 98) (x2 + nI 1) [(2, .int (x2 + nI 1)), (0, .ref o), (1, .int x1)] 2 (DX12_isPictured_0.at 59 rfl) rfl (by rw [ci_1]) (Nat.le_of_ble_eq_true rfl) rfl ?_
          refine gk_goto (pc := 101) 34 (DX12_isPictured_1.at 0 rfl) (by decide) ?_
          exact gk_pick (pc := 34) [(0, .ref o), (1, .int x1), (2, .int (x2 + nI 1))] [1, 2, 0] rfl hv
        · replace hv := hv.2 c
          refine gk_iconst (pc := 96) (nI 1) (DX12_isPictured_0.at 57 rfl) ci_1 ?_
          exact gk_ireturn (pc := 97) .boolean (DX12_isPictured_0.at 58 rfl) rfl rfl ⟨_, rfl, hv⟩
set_option maxHeartbeats 4000000 in
theorem vX12_isPlayed_0 {E : gk_E} {dd : Nat} {o : Nat} {x1 : Int32}  {h : gk_H} {K : Int32 → gk_H → Prop} (hv : (∃ fs, h[o]? = some (.inr (11, fs))) ∧ RnI E mX12_unsound (dd, 0, 0) [.ref o, .int x1] h (fun v1 h1 => (¬ v1 = ((-5)) → K (nI 0) h1) ∧ (v1 = ((-5)) → (∃ fs, h1[o]? = some (.inr (11, fs))) ∧ RnI E mX12_isBarred (dd, 0, 0) [.ref o, .int x1] h1 (fun v2 h2 => (¬ v2 = 0 → K (nI 0) h2) ∧ (v2 = 0 → K (nI 1) h2))))) : RnI E mX12_isPlayed (dd + 1, 0, 0) [.ref o, .int x1] h K := by
  show gk_G E mX12_isPlayed (dd + 1, 0, 0) 0 [(0, .ref o), (1, .int x1)] [] h (fun o h1 => ∃ v, o = some (.int v) ∧ K v h1)
  refine gk_aload_n (pc := 0) (DX12_isPlayed_0.at 0 rfl) 0 rfl rfl ?_
  refine gk_iload_n (pc := 1) (DX12_isPlayed_0.at 1 rfl) 1 rfl rfl ?_
  obtain ⟨⟨fs1, q1⟩, hv⟩ := hv
  refine gk_vV (pc := 2) [.int x1] [] (DX12_isPlayed_0.at 2 rfl) cvX12_164 q1 rfl rfl (Nat.le_of_ble_eq_true rfl) (Nat.le_of_ble_eq_true rfl) (gk_Run.post (fun o h1 z => ?_) hv)
  obtain ⟨v1, rfl, hv⟩ := z
  refine gk_bipush (pc := 5) ((-5)) (DX12_isPlayed_0.at 3 rfl) cb_m5 ?_
  refine gk_icmp_ne (pc := 7) 22 (DX12_isPlayed_0.at 4 rfl) (by decide) (fun c => ?_) (fun c => ?_)
  · replace hv := hv.1 c
    refine gk_iconst (pc := 22) (nI 0) (DX12_isPlayed_0.at 11 rfl) ci_0 ?_
    exact gk_ireturn (pc := 23) .boolean (DX12_isPlayed_0.at 12 rfl) rfl rfl ⟨_, rfl, hv⟩
  · replace hv := hv.2 c
    refine gk_aload_n (pc := 10) (DX12_isPlayed_0.at 5 rfl) 0 rfl rfl ?_
    refine gk_iload_n (pc := 11) (DX12_isPlayed_0.at 6 rfl) 1 rfl rfl ?_
    obtain ⟨⟨fs2, q2⟩, hv⟩ := hv
    refine gk_vV (pc := 12) [.int x1] [] (DX12_isPlayed_0.at 7 rfl) cvX12_202 q2 rfl rfl (Nat.le_of_ble_eq_true rfl) (Nat.le_of_ble_eq_true rfl) (gk_Run.post (fun o h2 z => ?_) hv)
    obtain ⟨v2, rfl, hv⟩ := z
    refine gk_if_ne (pc := 15) 22 (DX12_isPlayed_0.at 8 rfl) (by decide) (fun c => ?_) (fun c => ?_)
    · replace hv := hv.1 c
      refine gk_iconst (pc := 22) (nI 0) (DX12_isPlayed_0.at 11 rfl) ci_0 ?_
      exact gk_ireturn (pc := 23) .boolean (DX12_isPlayed_0.at 12 rfl) rfl rfl ⟨_, rfl, hv⟩
    · replace hv := hv.2 c
      refine gk_iconst (pc := 18) (nI 1) (DX12_isPlayed_0.at 9 rfl) ci_1 ?_
      refine gk_goto (pc := 19) 23 (DX12_isPlayed_0.at 10 rfl) (by decide) ?_
      exact gk_ireturn (pc := 23) .boolean (DX12_isPlayed_0.at 12 rfl) rfl rfl ⟨_, rfl, hv⟩
set_option maxHeartbeats 4000000 in
theorem vX12_isRelation_0 {E : gk_E} {dd : Nat} {o : Nat} {x1 : Int32}  {h : gk_H} {K : Int32 → gk_H → Prop} (hv : LdI h o 11 0 fun v1 => RnI E mX12_isFrom (dd, 0, 0) [.long x1.toInt64, .long (lN 0), .long ((((nI 1) <<< (v1 &&& 31)) - (nI 1)).toInt64)] h (fun v2 h2 => (bz v2 ∧ K v2 h2))) : RnI E mX12_isRelation (dd + 1, 0, 0) [.ref o, .int x1] h K := by
  show gk_G E mX12_isRelation (dd + 1, 0, 0) 0 [(0, .ref o), (1, .int x1)] [] h (fun o h1 => ∃ v, o = some (.int v) ∧ K v h1)
  refine gk_iload_n (pc := 0) (DX12_isRelation_0.at 0 rfl) 1 rfl rfl ?_
  refine gk_i2l (pc := 1) (DX12_isRelation_0.at 1 rfl) ?_
  refine gk_lconst (pc := 2) (lN 0) (DX12_isRelation_0.at 2 rfl) rfl ?_
  refine gk_iconst (pc := 3) (nI 1) (DX12_isRelation_0.at 3 rfl) ci_1 ?_
  refine gk_aload_n (pc := 4) (DX12_isRelation_0.at 4 rfl) 0 rfl rfl ?_
  obtain ⟨fs1, v1, q1, r1, hv⟩ := hv
  refine gk_get (pc := 5) (.int v1) (DX12_isRelation_0.at 5 rfl) fX12_9_11 q1 r1 ?_
  refine gk_ishl (pc := 8) (DX12_isRelation_0.at 6 rfl) ?_
  refine gk_iconst (pc := 9) (nI 1) (DX12_isRelation_0.at 7 rfl) ci_1 ?_
  refine gk_isub (pc := 10) (DX12_isRelation_0.at 8 rfl) ?_
  refine gk_i2l (pc := 11) (DX12_isRelation_0.at 9 rfl) ?_
  refine gk_vS (pc := 12) [.long x1.toInt64, .long (lN 0), .long ((((nI 1) <<< (v1 &&& 31)) - (nI 1)).toInt64)] [] (DX12_isRelation_0.at 10 rfl) csX12_70 rfl rfl (Nat.le_of_ble_eq_true rfl) (Nat.le_of_ble_eq_true rfl) (gk_Run.post (fun o h2 z => ?_) hv)
  obtain ⟨v2, rfl, hv⟩ := z
  exact gk_ireturn (pc := 15) .boolean (DX12_isRelation_0.at 11 rfl) rfl (bz_n hv.1) ⟨_, rfl, hv.2⟩
set_option maxHeartbeats 4000000 in
theorem vX12_isWon_0 {E : gk_E} {dd : Nat} {o : Nat} {x1 : Int32}  {h : gk_H} {K : Int32 → gk_H → Prop} (hv : (¬ x1 = 0 → (∃ fs, h[o]? = some (.inr (11, fs))) ∧ RnI E mX12_killerOf (dd, 0, 0) [.ref o, .int x1] h (fun v1 h1 => (¬ v1 = ((-5)) → K (nI 0) h1) ∧ (v1 = ((-5)) → K (nI 1) h1))) ∧ (x1 = 0 → K (nI 1) h)) : RnI E mX12_isWon (dd + 1, 0, 0) [.ref o, .int x1] h K := by
  show gk_G E mX12_isWon (dd + 1, 0, 0) 0 [(0, .ref o), (1, .int x1)] [] h (fun o h1 => ∃ v, o = some (.int v) ∧ K v h1)
  refine gk_iload_n (pc := 0) (DX12_isWon_0.at 0 rfl) 1 rfl rfl ?_
  refine gk_if_ne (pc := 1) 6 (DX12_isWon_0.at 1 rfl) (by decide) (fun c => ?_) (fun c => ?_)
  · replace hv := hv.1 c
    refine gk_aload_n (pc := 6) (DX12_isWon_0.at 4 rfl) 0 rfl rfl ?_
    refine gk_iload_n (pc := 7) (DX12_isWon_0.at 5 rfl) 1 rfl rfl ?_
    obtain ⟨⟨fs1, q1⟩, hv⟩ := hv
    refine gk_vV (pc := 8) [.int x1] [] (DX12_isWon_0.at 6 rfl) cvX12_217 q1 rfl rfl (Nat.le_of_ble_eq_true rfl) (Nat.le_of_ble_eq_true rfl) (gk_Run.post (fun o h1 z => ?_) hv)
    obtain ⟨v1, rfl, hv⟩ := z
    refine gk_bipush (pc := 11) ((-5)) (DX12_isWon_0.at 7 rfl) cb_m5 ?_
    refine gk_icmp_ne (pc := 13) 20 (DX12_isWon_0.at 8 rfl) (by decide) (fun c => ?_) (fun c => ?_)
    · replace hv := hv.1 c
      refine gk_iconst (pc := 20) (nI 0) (DX12_isWon_0.at 11 rfl) ci_0 ?_
      exact gk_ireturn (pc := 21) .boolean (DX12_isWon_0.at 12 rfl) rfl rfl ⟨_, rfl, hv⟩
    · replace hv := hv.2 c
      refine gk_iconst (pc := 16) (nI 1) (DX12_isWon_0.at 9 rfl) ci_1 ?_
      refine gk_goto (pc := 17) 21 (DX12_isWon_0.at 10 rfl) (by decide) ?_
      exact gk_ireturn (pc := 21) .boolean (DX12_isWon_0.at 12 rfl) rfl rfl ⟨_, rfl, hv⟩
  · replace hv := hv.2 c
    refine gk_iconst (pc := 4) (nI 1) (DX12_isWon_0.at 2 rfl) ci_1 ?_
    exact gk_ireturn (pc := 5) .boolean (DX12_isWon_0.at 3 rfl) rfl rfl ⟨_, rfl, hv⟩
abbrev pX12_judge_48 (E : gk_E) (dd : Nat) (o : Nat) (x1 : Int32) (x2 : Int32) (h : gk_H) (K : Int32 → gk_H → Prop) : Prop := gk_G E mX12_judge (dd + 1, 0, 0) 48 [(0, .ref o), (1, .int x1), (2, .int x2)] [] h (fun o h1 => ∃ v, o = some (.int v) ∧ K v h1)
set_option maxHeartbeats 4000000 in
theorem vX12_judge_0 {E : gk_E} {dd : Nat} {o : Nat} {x1 : Int32}  {h : gk_H} {K : Int32 → gk_H → Prop} (hv : RnI E mX12_isList (dd, 0, 0) [.int x1] h (fun v1 h1 => (¬ v1 = 0 → LdR h1 o 11 15 fun v2 => AlI h1 v2 x1 fun v3 => (¬ v3 = ((-1)) → LdR h1 o 11 15 fun v4 => AlI h1 v4 x1 fun v5 => (¬ v5 = 0 → LdR h1 o 11 15 fun v6 => AlI h1 v6 x1 fun v7 => StI h1 o 11 13 (v7 + (nI 1)) fun h8 => pX12_judge_48 E dd o x1 (nI 1) h8 K) ∧ (v5 = 0 → K ((-2)) h1)) ∧ (v3 = ((-1)) → K ((-11)) h1)) ∧ (v1 = 0 → K ((-1)) h1))) : RnI E mX12_judge (dd + 1, 0, 0) [.ref o, .int x1] h K := by
  show gk_G E mX12_judge (dd + 1, 0, 0) 0 [(0, .ref o), (1, .int x1)] [] h (fun o h1 => ∃ v, o = some (.int v) ∧ K v h1)
  refine gk_iload_n (pc := 0) (DX12_judge_0.at 0 rfl) 1 rfl rfl ?_
  refine gk_vS (pc := 1) [.int x1] [] (DX12_judge_0.at 1 rfl) csX12_241 rfl rfl (Nat.le_of_ble_eq_true rfl) (Nat.le_of_ble_eq_true rfl) (gk_Run.post (fun o h1 z => ?_) hv)
  obtain ⟨v1, rfl, hv⟩ := z
  refine gk_if_ne (pc := 4) 9 (DX12_judge_0.at 2 rfl) (by decide) (fun c => ?_) (fun c => ?_)
  · replace hv := hv.1 c
    refine gk_aload_n (pc := 9) (DX12_judge_0.at 5 rfl) 0 rfl rfl ?_
    obtain ⟨fs2, v2, q2, r2, hv⟩ := hv
    refine gk_get (pc := 10) (.ref v2) (DX12_judge_0.at 6 rfl) fX12_35_11 q2 r2 ?_
    refine gk_iload_n (pc := 13) (DX12_judge_0.at 7 rfl) 1 rfl rfl ?_
    obtain ⟨n3, f3, q3, r3, hv⟩ := hv
    refine gk_iald (pc := 14) (DX12_judge_0.at 8 rfl) q3 r3 ?_
    generalize f3 _ = v3 at hv ⊢
    refine gk_iconst (pc := 15) ((-1)) (DX12_judge_0.at 9 rfl) ci_m1 ?_
    refine gk_icmp_ne (pc := 16) 22 (DX12_judge_0.at 10 rfl) (by decide) (fun c => ?_) (fun c => ?_)
    · replace hv := hv.1 c
      refine gk_aload_n (pc := 22) (DX12_judge_0.at 13 rfl) 0 rfl rfl ?_
      obtain ⟨fs4, v4, q4, r4, hv⟩ := hv
      refine gk_get (pc := 23) (.ref v4) (DX12_judge_0.at 14 rfl) fX12_35_11 q4 r4 ?_
      refine gk_iload_n (pc := 26) (DX12_judge_0.at 15 rfl) 1 rfl rfl ?_
      obtain ⟨n5, f5, q5, r5, hv⟩ := hv
      refine gk_iald (pc := 27) (DX12_judge_0.at 16 rfl) q5 r5 ?_
      generalize f5 _ = v5 at hv ⊢
      refine gk_if_ne (pc := 28) 34 (DX12_judge_0.at 17 rfl) (by decide) (fun c => ?_) (fun c => ?_)
      · replace hv := hv.1 c
        refine gk_aload_n (pc := 34) (DX12_judge_0.at 20 rfl) 0 rfl rfl ?_
        refine gk_aload_n (pc := 35) (DX12_judge_0.at 21 rfl) 0 rfl rfl ?_
        obtain ⟨fs6, v6, q6, r6, hv⟩ := hv
        refine gk_get (pc := 36) (.ref v6) (DX12_judge_0.at 22 rfl) fX12_35_11 q6 r6 ?_
        refine gk_iload_n (pc := 39) (DX12_judge_0.at 23 rfl) 1 rfl rfl ?_
        obtain ⟨n7, f7, q7, r7, hv⟩ := hv
        refine gk_iald (pc := 40) (DX12_judge_0.at 24 rfl) q7 r7 ?_
        generalize f7 _ = v7 at hv ⊢
        refine gk_iconst (pc := 41) (nI 1) (DX12_judge_0.at 25 rfl) ci_1 ?_
        refine gk_iadd (pc := 42) (DX12_judge_0.at 26 rfl) ?_
        obtain ⟨fs8, q8, r8, hv⟩ := hv
        refine gk_put (pc := 43) (DX12_judge_0.at 27 rfl) fX12_235_11w q8 r8 rfl rfl ?_
        generalize h1.set _ _ = h8 at hv ⊢
        refine gk_iconst (pc := 46) (nI 1) (DX12_judge_0.at 28 rfl) ci_1 ?_
        refine gk_istore_n (pc := 47) [(2, .int (nI 1)), (0, .ref o), (1, .int x1)] (DX12_judge_0.at 29 rfl) rfl (Nat.le_of_ble_eq_true rfl) rfl ?_
        exact gk_pick (pc := 48) [(0, .ref o), (1, .int x1), (2, .int (nI 1))] [1, 2, 0] rfl hv
      · replace hv := hv.2 c
        refine gk_bipush (pc := 31) ((-2)) (DX12_judge_0.at 18 rfl) cb_m2 ?_
        exact gk_ireturn (pc := 33) .int (DX12_judge_0.at 19 rfl) rfl rfl ⟨_, rfl, hv⟩
    · replace hv := hv.2 c
      refine gk_bipush (pc := 19) ((-11)) (DX12_judge_0.at 11 rfl) cb_m11 ?_
      exact gk_ireturn (pc := 21) .int (DX12_judge_0.at 12 rfl) rfl rfl ⟨_, rfl, hv⟩
  · replace hv := hv.2 c
    refine gk_iconst (pc := 7) ((-1)) (DX12_judge_0.at 3 rfl) ci_m1 ?_
    exact gk_ireturn (pc := 8) .int (DX12_judge_0.at 4 rfl) rfl rfl ⟨_, rfl, hv⟩
set_option maxHeartbeats 4000000 in
theorem vX12_judge_48 {E : gk_E} {dd : Nat} {o : Nat} {x1 : Int32} {x2 : Int32}  {h : gk_H} {K : Int32 → gk_H → Prop} (hv : LdI h o 11 13 fun v1 => (v1 ≤ x2 → LdR h o 11 14 fun v2 => AsI h v2 (nI 0) (nI 0) fun h3 => (∃ fs, h3[o]? = some (.inr (11, fs))) ∧ RnI E mX12_isAllHad (dd, 0, 0) [.ref o] h3 (fun v4 h4 => (¬ v4 = 0 → (∃ fs, h4[o]? = some (.inr (11, fs))) ∧ RnI E mX12_falseStep (dd, 0, 0) [.ref o] h4 (fun v5 h5 => (¬ v5 = ((-5)) → K ((nI 100) + v5) h5) ∧ (v5 = ((-5)) → K ((-5)) h5))) ∧ (v4 = 0 → K (nI 200) h4))) ∧ (¬ v1 ≤ x2 → LdR h o 11 16 fun v6 => AlL h v6 ((((nI 12) * x1) + x2) - (nI 1)) fun v7 => LdR h o 11 16 fun v8 => LdI h o 11 13 fun v9 => AlL h v8 (((((nI 12) * x1) + v9) - x2) - (nI 1)) fun v10 => LdI h o 11 0 fun v11 => RnI E mX12_isFrom (dd, 0, 0) [.long v7, .long (lN 1), .long ((v11 - (nI 1)).toInt64)] h (fun v12 h12 => (v12 = 0 → K (x2 - (nI 1)) h12) ∧ (¬ v12 = 0 → LdI h12 o 11 0 fun v13 => RnI E mX12_isFrom (dd, 0, 0) [.long v10, .long (lN 1), .long ((v13 - (nI 1)).toInt64)] h12 (fun v14 h14 => (v14 = 0 → K (x2 - (nI 1)) h14) ∧ (¬ v14 = 0 → LdR h14 o 11 1 fun v15 => AlI h14 v15 v10.toInt32 fun v16 => ((lg_cmp v16.toInt64 v7) = 0 → LdR h14 o 11 14 fun v17 => AsI h14 v17 x2 v7.toInt32 fun h18 => pX12_judge_48 E dd o x1 (x2 + nI 1) h18 K) ∧ (¬ (lg_cmp v16.toInt64 v7) = 0 → K (x2 - (nI 1)) h14))))))) : pX12_judge_48 E dd o x1 x2 h K := by
  show gk_G E mX12_judge (dd + 1, 0, 0) 48 [(0, .ref o), (1, .int x1), (2, .int x2)] [] h (fun o h1 => ∃ v, o = some (.int v) ∧ K v h1)
  refine gk_iload_n (pc := 48) (DX12_judge_0.at 30 rfl) 2 rfl rfl ?_
  refine gk_aload_n (pc := 49) (DX12_judge_0.at 31 rfl) 0 rfl rfl ?_
  obtain ⟨fs1, v1, q1, r1, hv⟩ := hv
  refine gk_get (pc := 50) (.int v1) (DX12_judge_0.at 32 rfl) fX12_235_11 q1 r1 ?_
  refine gk_icmp_ge (pc := 53) 153 (DX12_judge_0.at 33 rfl) (by decide) (fun c => ?_) (fun c => ?_)
  · replace hv := hv.1 c
    refine gk_aload_n (pc := 153) (DX12_judge_1.at 38 rfl) 0 rfl rfl ?_
    obtain ⟨fs2, v2, q2, r2, hv⟩ := hv
    refine gk_get (pc := 154) (.ref v2) (DX12_judge_1.at 39 rfl) fX12_32_11 q2 r2 ?_
    refine gk_iconst (pc := 157) (nI 0) (DX12_judge_1.at 40 rfl) ci_0 ?_
    refine gk_iconst (pc := 158) (nI 0) (DX12_judge_1.at 41 rfl) ci_0 ?_
    obtain ⟨n3, f3, q3, r3, hv⟩ := hv
    refine gk_iast (pc := 159) (DX12_judge_1.at 42 rfl) q3 r3 ?_
    generalize h.set _ _ = h3 at hv ⊢
    refine gk_aload_n (pc := 160) (DX12_judge_1.at 43 rfl) 0 rfl rfl ?_
    obtain ⟨⟨fs4, q4⟩, hv⟩ := hv
    refine gk_vV (pc := 161) [] [] (DX12_judge_1.at 44 rfl) cvX12_244 q4 rfl rfl (Nat.le_of_ble_eq_true rfl) (Nat.le_of_ble_eq_true rfl) (gk_Run.post (fun o h4 z => ?_) hv)
    obtain ⟨v4, rfl, hv⟩ := z
    refine gk_if_ne (pc := 164) 171 (DX12_judge_1.at 45 rfl) (by decide) (fun c => ?_) (fun c => ?_)
    · replace hv := hv.1 c
      refine gk_aload_n (pc := 171) (DX12_judge_1.at 48 rfl) 0 rfl rfl ?_
      obtain ⟨⟨fs5, q5⟩, hv⟩ := hv
      refine gk_vV (pc := 172) [] [] (DX12_judge_1.at 49 rfl) cvX12_248 q5 rfl rfl (Nat.le_of_ble_eq_true rfl) (Nat.le_of_ble_eq_true rfl) (gk_Run.post (fun o h5 z => ?_) hv)
      obtain ⟨v5, rfl, hv⟩ := z
      refine gk_istore_n (pc := 175) [(2, .int v5), (0, .ref o), (1, .int x1)] (DX12_judge_1.at 50 rfl) rfl (Nat.le_of_ble_eq_true rfl) rfl ?_
      refine gk_iload_n (pc := 176) (DX12_judge_1.at 51 rfl) 0 rfl rfl ?_
      refine gk_bipush (pc := 177) ((-5)) (DX12_judge_1.at 52 rfl) cb_m5 ?_
      refine gk_icmp_ne (pc := 179) 187 (DX12_judge_1.at 53 rfl) (by decide) (fun c => ?_) (fun c => ?_)
      · replace hv := hv.1 c
        refine gk_bipush (pc := 187) (nI 100) (DX12_judge_1.at 56 rfl) cb_100 ?_
        refine gk_iload_n (pc := 189) (DX12_judge_1.at 57 rfl) 0 rfl rfl ?_
        refine gk_iadd (pc := 190) (DX12_judge_1.at 58 rfl) ?_
        exact gk_ireturn (pc := 191) .int (DX12_judge_1.at 59 rfl) rfl rfl ⟨_, rfl, hv⟩
      · replace hv := hv.2 c
        refine gk_bipush (pc := 182) ((-5)) (DX12_judge_1.at 54 rfl) cb_m5 ?_
        refine gk_goto (pc := 184) 191 (DX12_judge_1.at 55 rfl) (by decide) ?_
        exact gk_ireturn (pc := 191) .int (DX12_judge_1.at 59 rfl) rfl rfl ⟨_, rfl, hv⟩
    · replace hv := hv.2 c
      refine gk_sipush (pc := 167) (nI 200) (DX12_judge_1.at 46 rfl) cs_200 ?_
      exact gk_ireturn (pc := 170) .int (DX12_judge_1.at 47 rfl) rfl rfl ⟨_, rfl, hv⟩
  · replace hv := hv.2 c
    refine gk_aload_n (pc := 56) (DX12_judge_0.at 34 rfl) 0 rfl rfl ?_
    obtain ⟨fs6, v6, q6, r6, hv⟩ := hv
    refine gk_get (pc := 57) (.ref v6) (DX12_judge_0.at 35 rfl) fX12_38_11 q6 r6 ?_
    refine gk_bipush (pc := 60) (nI 12) (DX12_judge_0.at 36 rfl) cb_12 ?_
    refine gk_iload_n (pc := 62) (DX12_judge_0.at 37 rfl) 1 rfl rfl ?_
    refine gk_imul (pc := 63) (DX12_judge_0.at 38 rfl) ?_
    refine gk_iload_n (pc := 64) (DX12_judge_0.at 39 rfl) 2 rfl rfl ?_
    refine gk_iadd (pc := 65) (DX12_judge_0.at 40 rfl) ?_
    refine gk_iconst (pc := 66) (nI 1) (DX12_judge_0.at 41 rfl) ci_1 ?_
    refine gk_isub (pc := 67) (DX12_judge_0.at 42 rfl) ?_
    obtain ⟨n7, f7, q7, r7, hv⟩ := hv
    refine gk_lald (pc := 68) (DX12_judge_0.at 43 rfl) q7 r7 ?_
    generalize f7 _ = v7 at hv ⊢
    refine gk_lstore_n (pc := 69) [(3, .long v7), (0, .ref o), (1, .int x1), (2, .int x2)] (DX12_judge_0.at 44 rfl) rfl (Nat.le_of_ble_eq_true rfl) rfl ?_
    refine gk_aload_n (pc := 70) (DX12_judge_0.at 45 rfl) 1 rfl rfl ?_
    obtain ⟨fs8, v8, q8, r8, hv⟩ := hv
    refine gk_get (pc := 71) (.ref v8) (DX12_judge_0.at 46 rfl) fX12_38_11 q8 r8 ?_
    refine gk_bipush (pc := 74) (nI 12) (DX12_judge_0.at 47 rfl) cb_12 ?_
    refine gk_iload_n (pc := 76) (DX12_judge_0.at 48 rfl) 2 rfl rfl ?_
    refine gk_imul (pc := 77) (DX12_judge_0.at 49 rfl) ?_
    refine gk_aload_n (pc := 78) (DX12_judge_0.at 50 rfl) 1 rfl rfl ?_
    obtain ⟨fs9, v9, q9, r9, hv⟩ := hv
    refine gk_get (pc := 79) (.int v9) (DX12_judge_0.at 51 rfl) fX12_235_11 q9 r9 ?_
    refine gk_iadd (pc := 82) (DX12_judge_0.at 52 rfl) ?_
    refine gk_iload_n (pc := 83) (DX12_judge_0.at 53 rfl) 3 rfl rfl ?_
    refine gk_isub (pc := 84) (DX12_judge_0.at 54 rfl) ?_
    refine gk_iconst (pc := 85) (nI 1) (DX12_judge_0.at 55 rfl) ci_1 ?_
    refine gk_isub (pc := 86) (DX12_judge_0.at 56 rfl) ?_
    obtain ⟨n10, f10, q10, r10, hv⟩ := hv
    refine gk_lald (pc := 87) (DX12_judge_0.at 57 rfl) q10 r10 ?_
    generalize f10 _ = v10 at hv ⊢
    refine gk_lstore (pc := 88) [(5, .long v10), (3, .long v7), (0, .ref o), (1, .int x1), (2, .int x2)] (DX12_judge_0.at 58 rfl) (Nat.le_of_ble_eq_true rfl) rfl ?_
    refine gk_lload_n (pc := 90) (DX12_judge_0.at 59 rfl) 1 rfl rfl ?_
    refine gk_lconst (pc := 91) (lN 1) (DX12_judge_1.at 0 rfl) rfl ?_
    refine gk_aload_n (pc := 92) (DX12_judge_1.at 1 rfl) 2 rfl rfl ?_
    obtain ⟨fs11, v11, q11, r11, hv⟩ := hv
    refine gk_get (pc := 93) (.int v11) (DX12_judge_1.at 2 rfl) fX12_9_11 q11 r11 ?_
    refine gk_iconst (pc := 96) (nI 1) (DX12_judge_1.at 3 rfl) ci_1 ?_
    refine gk_isub (pc := 97) (DX12_judge_1.at 4 rfl) ?_
    refine gk_i2l (pc := 98) (DX12_judge_1.at 5 rfl) ?_
    refine gk_vS (pc := 99) [.long v7, .long (lN 1), .long ((v11 - (nI 1)).toInt64)] [] (DX12_judge_1.at 6 rfl) csX12_70 rfl rfl (Nat.le_of_ble_eq_true rfl) (Nat.le_of_ble_eq_true rfl) (gk_Run.post (fun o h12 z => ?_) hv)
    obtain ⟨v12, rfl, hv⟩ := z
    refine gk_if_eq (pc := 102) 135 (DX12_judge_1.at 7 rfl) (by decide) (fun c => ?_) (fun c => ?_)
    · replace hv := hv.1 c
      refine gk_iload_n (pc := 135) (DX12_judge_1.at 26 rfl) 4 rfl rfl ?_
      refine gk_iconst (pc := 136) (nI 1) (DX12_judge_1.at 27 rfl) ci_1 ?_
      refine gk_isub (pc := 137) (DX12_judge_1.at 28 rfl) ?_
      exact gk_ireturn (pc := 138) .int (DX12_judge_1.at 29 rfl) rfl rfl ⟨_, rfl, hv⟩
    · replace hv := hv.2 c
      refine gk_lload (pc := 105) (DX12_judge_1.at 8 rfl) 0 rfl ?_
      refine gk_lconst (pc := 107) (lN 1) (DX12_judge_1.at 9 rfl) rfl ?_
      refine gk_aload_n (pc := 108) (DX12_judge_1.at 10 rfl) 2 rfl rfl ?_
      obtain ⟨fs13, v13, q13, r13, hv⟩ := hv
      refine gk_get (pc := 109) (.int v13) (DX12_judge_1.at 11 rfl) fX12_9_11 q13 r13 ?_
      refine gk_iconst (pc := 112) (nI 1) (DX12_judge_1.at 12 rfl) ci_1 ?_
      refine gk_isub (pc := 113) (DX12_judge_1.at 13 rfl) ?_
      refine gk_i2l (pc := 114) (DX12_judge_1.at 14 rfl) ?_
      refine gk_vS (pc := 115) [.long v10, .long (lN 1), .long ((v13 - (nI 1)).toInt64)] [] (DX12_judge_1.at 15 rfl) csX12_70 rfl rfl (Nat.le_of_ble_eq_true rfl) (Nat.le_of_ble_eq_true rfl) (gk_Run.post (fun o h14 z => ?_) hv)
      obtain ⟨v14, rfl, hv⟩ := z
      refine gk_if_eq (pc := 118) 135 (DX12_judge_1.at 16 rfl) (by decide) (fun c => ?_) (fun c => ?_)
      · replace hv := hv.1 c
        refine gk_iload_n (pc := 135) (DX12_judge_1.at 26 rfl) 4 rfl rfl ?_
        refine gk_iconst (pc := 136) (nI 1) (DX12_judge_1.at 27 rfl) ci_1 ?_
        refine gk_isub (pc := 137) (DX12_judge_1.at 28 rfl) ?_
        exact gk_ireturn (pc := 138) .int (DX12_judge_1.at 29 rfl) rfl rfl ⟨_, rfl, hv⟩
      · replace hv := hv.2 c
        refine gk_aload_n (pc := 121) (DX12_judge_1.at 17 rfl) 2 rfl rfl ?_
        obtain ⟨fs15, v15, q15, r15, hv⟩ := hv
        refine gk_get (pc := 122) (.ref v15) (DX12_judge_1.at 18 rfl) fX12_15_11 q15 r15 ?_
        refine gk_lload (pc := 125) (DX12_judge_1.at 19 rfl) 0 rfl ?_
        refine gk_l2i (pc := 127) (DX12_judge_1.at 20 rfl) ?_
        obtain ⟨n16, f16, q16, r16, hv⟩ := hv
        refine gk_iald (pc := 128) (DX12_judge_1.at 21 rfl) q16 r16 ?_
        generalize f16 _ = v16 at hv ⊢
        refine gk_i2l (pc := 129) (DX12_judge_1.at 22 rfl) ?_
        refine gk_lload_n (pc := 130) (DX12_judge_1.at 23 rfl) 1 rfl rfl ?_
        refine gk_lcmp (pc := 131) (DX12_judge_1.at 24 rfl) ?_
        refine gk_if_eq (pc := 132) 139 (DX12_judge_1.at 25 rfl) (by decide) (fun c => ?_) (fun c => ?_)
        · replace hv := hv.1 c
          refine gk_aload_n (pc := 139) (DX12_judge_1.at 30 rfl) 2 rfl rfl ?_
          obtain ⟨fs17, v17, q17, r17, hv⟩ := hv
          refine gk_get (pc := 140) (.ref v17) (DX12_judge_1.at 31 rfl) fX12_32_11 q17 r17 ?_
          refine gk_iload_n (pc := 143) (DX12_judge_1.at 32 rfl) 4 rfl rfl ?_
          refine gk_lload_n (pc := 144) (DX12_judge_1.at 33 rfl) 1 rfl rfl ?_
          refine gk_l2i (pc := 145) (DX12_judge_1.at 34 rfl) ?_
          obtain ⟨n18, f18, q18, r18, hv⟩ := hv
          refine gk_iast (pc := 146) (DX12_judge_1.at 35 rfl) q18 r18 ?_
          generalize h14.set _ _ = h18 at hv ⊢
          refine gk_iinc (pc := 147) (x2 + nI 1) [(2, .int (x2 + nI 1)), (5, .long v10), (3, .long v7), (0, .ref o), (1, .int x1)] 4 (DX12_judge_1.at 36 rfl) rfl (by rw [ci_1]) (Nat.le_of_ble_eq_true rfl) rfl ?_
          refine gk_goto (pc := 150) 48 (DX12_judge_1.at 37 rfl) (by decide) ?_
          exact gk_pick (pc := 48) [(0, .ref o), (1, .int x1), (2, .int (x2 + nI 1))] [3, 4, 0] rfl hv
        · replace hv := hv.2 c
          refine gk_iload_n (pc := 135) (DX12_judge_1.at 26 rfl) 4 rfl rfl ?_
          refine gk_iconst (pc := 136) (nI 1) (DX12_judge_1.at 27 rfl) ci_1 ?_
          refine gk_isub (pc := 137) (DX12_judge_1.at 28 rfl) ?_
          exact gk_ireturn (pc := 138) .int (DX12_judge_1.at 29 rfl) rfl rfl ⟨_, rfl, hv⟩
set_option maxHeartbeats 4000000 in
theorem vX12_killer_0 {E : gk_E} {dd : Nat} {o : Nat} {x1 : Int32} {x2 : Int32}  {h : gk_H} {K : Int32 → gk_H → Prop} (hv : (∃ fs, h[o]? = some (.inr (11, fs))) ∧ RnI E mX12_whyNot (dd, 0, 0) [.ref o, .int x1, .int x2] h (fun v1 h1 => (v1 = 0 → (∃ fs, h1[o]? = some (.inr (11, fs))) ∧ RnV E mX12_likens (dd, 0, 0) [.ref o, .int x1, .int (nI 5)] h1 (fun h2 => (∃ fs, h2[o]? = some (.inr (11, fs))) ∧ RnI E mX12_killerOf (dd, 0, 0) [.ref o, .int x2] h2 (fun v3 h3 => K v3 h3))) ∧ (¬ v1 = 0 → K v1 h1))) : RnI E mX12_killer (dd + 1, 0, 0) [.ref o, .int x1, .int x2] h K := by
  show gk_G E mX12_killer (dd + 1, 0, 0) 0 [(0, .ref o), (1, .int x1), (2, .int x2)] [] h (fun o h1 => ∃ v, o = some (.int v) ∧ K v h1)
  refine gk_aload_n (pc := 0) (DX12_killer_0.at 0 rfl) 0 rfl rfl ?_
  refine gk_iload_n (pc := 1) (DX12_killer_0.at 1 rfl) 1 rfl rfl ?_
  refine gk_iload_n (pc := 2) (DX12_killer_0.at 2 rfl) 2 rfl rfl ?_
  obtain ⟨⟨fs1, q1⟩, hv⟩ := hv
  refine gk_vV (pc := 3) [.int x1, .int x2] [] (DX12_killer_0.at 3 rfl) cvX12_223 q1 rfl rfl (Nat.le_of_ble_eq_true rfl) (Nat.le_of_ble_eq_true rfl) (gk_Run.post (fun o h1 z => ?_) hv)
  obtain ⟨v1, rfl, hv⟩ := z
  refine gk_istore_n (pc := 6) [(3, .int v1), (0, .ref o), (1, .int x1), (2, .int x2)] (DX12_killer_0.at 4 rfl) rfl (Nat.le_of_ble_eq_true rfl) rfl ?_
  refine gk_iload_n (pc := 7) (DX12_killer_0.at 5 rfl) 0 rfl rfl ?_
  refine gk_if_eq (pc := 8) 13 (DX12_killer_0.at 6 rfl) (by decide) (fun c => ?_) (fun c => ?_)
  · replace hv := hv.1 c
    refine gk_aload_n (pc := 13) (DX12_killer_0.at 9 rfl) 1 rfl rfl ?_
    refine gk_iload_n (pc := 14) (DX12_killer_0.at 10 rfl) 2 rfl rfl ?_
    refine gk_iconst (pc := 15) (nI 5) (DX12_killer_0.at 11 rfl) ci_5 ?_
    obtain ⟨⟨fs2, q2⟩, hv⟩ := hv
    refine gk_vV (pc := 16) [.int x1, .int (nI 5)] [] (DX12_killer_0.at 12 rfl) cvX12_161 q2 rfl rfl (Nat.le_of_ble_eq_true rfl) (Nat.le_of_ble_eq_true rfl) (gk_Run.post (fun o h2 z => ?_) hv)
    obtain ⟨rfl, hv⟩ := z
    refine gk_aload_n (pc := 19) (DX12_killer_0.at 13 rfl) 1 rfl rfl ?_
    refine gk_iload_n (pc := 20) (DX12_killer_0.at 14 rfl) 3 rfl rfl ?_
    obtain ⟨⟨fs3, q3⟩, hv⟩ := hv
    refine gk_vV (pc := 21) [.int x2] [] (DX12_killer_0.at 15 rfl) cvX12_217 q3 rfl rfl (Nat.le_of_ble_eq_true rfl) (Nat.le_of_ble_eq_true rfl) (gk_Run.post (fun o h3 z => ?_) hv)
    obtain ⟨v3, rfl, hv⟩ := z
    exact gk_ireturn (pc := 24) .int (DX12_killer_0.at 16 rfl) rfl rfl ⟨_, rfl, hv⟩
  · replace hv := hv.2 c
    refine gk_iload_n (pc := 11) (DX12_killer_0.at 7 rfl) 0 rfl rfl ?_
    exact gk_ireturn (pc := 12) .int (DX12_killer_0.at 8 rfl) rfl rfl ⟨_, rfl, hv⟩
abbrev pX12_killerOf_14 (E : gk_E) (dd : Nat) (o : Nat) (x1 : Int32) (x2 : Int32) (h : gk_H) (K : Int32 → gk_H → Prop) : Prop := gk_G E mX12_killerOf (dd + 1, 0, 0) 14 [(0, .ref o), (1, .int x1), (2, .int x2)] [] h (fun o h1 => ∃ v, o = some (.int v) ∧ K v h1)
set_option maxHeartbeats 4000000 in
theorem vX12_killerOf_0 {E : gk_E} {dd : Nat} {o : Nat} {x1 : Int32}  {h : gk_H} {K : Int32 → gk_H → Prop} (hv : (¬ x1 = 0 → (∃ fs, h[o]? = some (.inr (11, fs))) ∧ RnI E mX12_gapBehind (dd, 0, 0) [.ref o, .int (nI 5), .int ((-1))] h (fun v1 h1 => pX12_killerOf_14 E dd o x1 v1 h1 K)) ∧ (x1 = 0 → K ((-5)) h)) : RnI E mX12_killerOf (dd + 1, 0, 0) [.ref o, .int x1] h K := by
  show gk_G E mX12_killerOf (dd + 1, 0, 0) 0 [(0, .ref o), (1, .int x1)] [] h (fun o h1 => ∃ v, o = some (.int v) ∧ K v h1)
  refine gk_iload_n (pc := 0) (DX12_killerOf_0.at 0 rfl) 1 rfl rfl ?_
  refine gk_if_ne (pc := 1) 7 (DX12_killerOf_0.at 1 rfl) (by decide) (fun c => ?_) (fun c => ?_)
  · replace hv := hv.1 c
    refine gk_aload_n (pc := 7) (DX12_killerOf_0.at 4 rfl) 0 rfl rfl ?_
    refine gk_iconst (pc := 8) (nI 5) (DX12_killerOf_0.at 5 rfl) ci_5 ?_
    refine gk_iconst (pc := 9) ((-1)) (DX12_killerOf_0.at 6 rfl) ci_m1 ?_
    obtain ⟨⟨fs1, q1⟩, hv⟩ := hv
    refine gk_vV (pc := 10) [.int (nI 5), .int ((-1))] [] (DX12_killerOf_0.at 7 rfl) cvX12_171 q1 rfl rfl (Nat.le_of_ble_eq_true rfl) (Nat.le_of_ble_eq_true rfl) (gk_Run.post (fun o h1 z => ?_) hv)
    obtain ⟨v1, rfl, hv⟩ := z
    refine gk_istore_n (pc := 13) [(2, .int v1), (0, .ref o), (1, .int x1)] (DX12_killerOf_0.at 8 rfl) rfl (Nat.le_of_ble_eq_true rfl) rfl ?_
    exact gk_pick (pc := 14) [(0, .ref o), (1, .int x1), (2, .int v1)] [1, 2, 0] rfl hv
  · replace hv := hv.2 c
    refine gk_bipush (pc := 4) ((-5)) (DX12_killerOf_0.at 2 rfl) cb_m5 ?_
    exact gk_ireturn (pc := 6) .int (DX12_killerOf_0.at 3 rfl) rfl rfl ⟨_, rfl, hv⟩
set_option maxHeartbeats 4000000 in
theorem vX12_killerOf_14 {E : gk_E} {dd : Nat} {o : Nat} {x1 : Int32} {x2 : Int32}  {h : gk_H} {K : Int32 → gk_H → Prop} (hv : (x2 = ((-1)) → K ((-5)) h) ∧ (¬ x2 = ((-1)) → (∃ fs, h[o]? = some (.inr (11, fs))) ∧ RnI E mX12_isFillable (dd, 0, 0) [.ref o, .int x2, .int (x1 - (nI 1))] h (fun v1 h1 => (¬ v1 = 0 → (∃ fs, h1[o]? = some (.inr (11, fs))) ∧ RnI E mX12_gapBehind (dd, 0, 0) [.ref o, .int (nI 5), .int x2] h1 (fun v2 h2 => pX12_killerOf_14 E dd o x1 v2 h2 K)) ∧ (v1 = 0 → K x2 h1)))) : pX12_killerOf_14 E dd o x1 x2 h K := by
  show gk_G E mX12_killerOf (dd + 1, 0, 0) 14 [(0, .ref o), (1, .int x1), (2, .int x2)] [] h (fun o h1 => ∃ v, o = some (.int v) ∧ K v h1)
  refine gk_iload_n (pc := 14) (DX12_killerOf_0.at 9 rfl) 2 rfl rfl ?_
  refine gk_iconst (pc := 15) ((-1)) (DX12_killerOf_0.at 10 rfl) ci_m1 ?_
  refine gk_icmp_eq (pc := 16) 42 (DX12_killerOf_0.at 11 rfl) (by decide) (fun c => ?_) (fun c => ?_)
  · replace hv := hv.1 c
    refine gk_bipush (pc := 42) ((-5)) (DX12_killerOf_0.at 27 rfl) cb_m5 ?_
    exact gk_ireturn (pc := 44) .int (DX12_killerOf_0.at 28 rfl) rfl rfl ⟨_, rfl, hv⟩
  · replace hv := hv.2 c
    refine gk_aload_n (pc := 19) (DX12_killerOf_0.at 12 rfl) 0 rfl rfl ?_
    refine gk_iload_n (pc := 20) (DX12_killerOf_0.at 13 rfl) 2 rfl rfl ?_
    refine gk_iload_n (pc := 21) (DX12_killerOf_0.at 14 rfl) 1 rfl rfl ?_
    refine gk_iconst (pc := 22) (nI 1) (DX12_killerOf_0.at 15 rfl) ci_1 ?_
    refine gk_isub (pc := 23) (DX12_killerOf_0.at 16 rfl) ?_
    obtain ⟨⟨fs1, q1⟩, hv⟩ := hv
    refine gk_vV (pc := 24) [.int x2, .int (x1 - (nI 1))] [] (DX12_killerOf_0.at 17 rfl) cvX12_208 q1 rfl rfl (Nat.le_of_ble_eq_true rfl) (Nat.le_of_ble_eq_true rfl) (gk_Run.post (fun o h1 z => ?_) hv)
    obtain ⟨v1, rfl, hv⟩ := z
    refine gk_if_ne (pc := 27) 32 (DX12_killerOf_0.at 18 rfl) (by decide) (fun c => ?_) (fun c => ?_)
    · replace hv := hv.1 c
      refine gk_aload_n (pc := 32) (DX12_killerOf_0.at 21 rfl) 0 rfl rfl ?_
      refine gk_iconst (pc := 33) (nI 5) (DX12_killerOf_0.at 22 rfl) ci_5 ?_
      refine gk_iload_n (pc := 34) (DX12_killerOf_0.at 23 rfl) 2 rfl rfl ?_
      obtain ⟨⟨fs2, q2⟩, hv⟩ := hv
      refine gk_vV (pc := 35) [.int (nI 5), .int x2] [] (DX12_killerOf_0.at 24 rfl) cvX12_171 q2 rfl rfl (Nat.le_of_ble_eq_true rfl) (Nat.le_of_ble_eq_true rfl) (gk_Run.post (fun o h2 z => ?_) hv)
      obtain ⟨v2, rfl, hv⟩ := z
      refine gk_istore_n (pc := 38) [(2, .int v2), (0, .ref o), (1, .int x1)] (DX12_killerOf_0.at 25 rfl) rfl (Nat.le_of_ble_eq_true rfl) rfl ?_
      refine gk_goto (pc := 39) 14 (DX12_killerOf_0.at 26 rfl) (by decide) ?_
      exact gk_pick (pc := 14) [(0, .ref o), (1, .int x1), (2, .int v2)] [1, 2, 0] rfl hv
    · replace hv := hv.2 c
      refine gk_iload_n (pc := 30) (DX12_killerOf_0.at 19 rfl) 2 rfl rfl ?_
      exact gk_ireturn (pc := 31) .int (DX12_killerOf_0.at 20 rfl) rfl rfl ⟨_, rfl, hv⟩
set_option maxHeartbeats 4000000 in
theorem vX12_label_0 {E : gk_E} {dd : Nat} {o : Nat} {x1 : Int32} {x2 : Int32} {x3 : Int32}  {h : gk_H} {K : Int32 → gk_H → Prop} (hv : RnI E mX12_isNet (dd, 0, 0) [.int x1] h (fun v1 h1 => (v1 = 0 → K ((-1)) h1) ∧ (¬ v1 = 0 → (∃ fs, h1[o]? = some (.inr (11, fs))) ∧ RnI E mX12_isNode (dd, 0, 0) [.ref o, .int x1, .int x2] h1 (fun v2 h2 => (v2 = 0 → K ((-1)) h2) ∧ (¬ v2 = 0 → (∃ fs, h2[o]? = some (.inr (11, fs))) ∧ RnI E mX12_isNode (dd, 0, 0) [.ref o, .int x1, .int x3] h2 (fun v3 h3 => (v3 = 0 → K ((-1)) h3) ∧ (¬ v3 = 0 → (∃ fs, h3[o]? = some (.inr (11, fs))) ∧ RnI E mX12_labelOf (dd, 0, 0) [.ref o, .int x1, .int x2, .int x3] h3 (fun v4 h4 => K v4 h4)))))))) : RnI E mX12_label (dd + 1, 0, 0) [.ref o, .int x1, .int x2, .int x3] h K := by
  show gk_G E mX12_label (dd + 1, 0, 0) 0 [(0, .ref o), (1, .int x1), (2, .int x2), (3, .int x3)] [] h (fun o h1 => ∃ v, o = some (.int v) ∧ K v h1)
  refine gk_iload_n (pc := 0) (DX12_label_0.at 0 rfl) 1 rfl rfl ?_
  refine gk_vS (pc := 1) [.int x1] [] (DX12_label_0.at 1 rfl) csX12_145 rfl rfl (Nat.le_of_ble_eq_true rfl) (Nat.le_of_ble_eq_true rfl) (gk_Run.post (fun o h1 z => ?_) hv)
  obtain ⟨v1, rfl, hv⟩ := z
  refine gk_if_eq (pc := 4) 35 (DX12_label_0.at 2 rfl) (by decide) (fun c => ?_) (fun c => ?_)
  · replace hv := hv.1 c
    refine gk_iconst (pc := 35) ((-1)) (DX12_label_0.at 19 rfl) ci_m1 ?_
    exact gk_ireturn (pc := 36) .int (DX12_label_0.at 20 rfl) rfl rfl ⟨_, rfl, hv⟩
  · replace hv := hv.2 c
    refine gk_aload_n (pc := 7) (DX12_label_0.at 3 rfl) 0 rfl rfl ?_
    refine gk_iload_n (pc := 8) (DX12_label_0.at 4 rfl) 1 rfl rfl ?_
    refine gk_iload_n (pc := 9) (DX12_label_0.at 5 rfl) 2 rfl rfl ?_
    obtain ⟨⟨fs2, q2⟩, hv⟩ := hv
    refine gk_vV (pc := 10) [.int x1, .int x2] [] (DX12_label_0.at 6 rfl) cvX12_155 q2 rfl rfl (Nat.le_of_ble_eq_true rfl) (Nat.le_of_ble_eq_true rfl) (gk_Run.post (fun o h2 z => ?_) hv)
    obtain ⟨v2, rfl, hv⟩ := z
    refine gk_if_eq (pc := 13) 35 (DX12_label_0.at 7 rfl) (by decide) (fun c => ?_) (fun c => ?_)
    · replace hv := hv.1 c
      refine gk_iconst (pc := 35) ((-1)) (DX12_label_0.at 19 rfl) ci_m1 ?_
      exact gk_ireturn (pc := 36) .int (DX12_label_0.at 20 rfl) rfl rfl ⟨_, rfl, hv⟩
    · replace hv := hv.2 c
      refine gk_aload_n (pc := 16) (DX12_label_0.at 8 rfl) 0 rfl rfl ?_
      refine gk_iload_n (pc := 17) (DX12_label_0.at 9 rfl) 1 rfl rfl ?_
      refine gk_iload_n (pc := 18) (DX12_label_0.at 10 rfl) 3 rfl rfl ?_
      obtain ⟨⟨fs3, q3⟩, hv⟩ := hv
      refine gk_vV (pc := 19) [.int x1, .int x3] [] (DX12_label_0.at 11 rfl) cvX12_155 q3 rfl rfl (Nat.le_of_ble_eq_true rfl) (Nat.le_of_ble_eq_true rfl) (gk_Run.post (fun o h3 z => ?_) hv)
      obtain ⟨v3, rfl, hv⟩ := z
      refine gk_if_eq (pc := 22) 35 (DX12_label_0.at 12 rfl) (by decide) (fun c => ?_) (fun c => ?_)
      · replace hv := hv.1 c
        refine gk_iconst (pc := 35) ((-1)) (DX12_label_0.at 19 rfl) ci_m1 ?_
        exact gk_ireturn (pc := 36) .int (DX12_label_0.at 20 rfl) rfl rfl ⟨_, rfl, hv⟩
      · replace hv := hv.2 c
        refine gk_aload_n (pc := 25) (DX12_label_0.at 13 rfl) 0 rfl rfl ?_
        refine gk_iload_n (pc := 26) (DX12_label_0.at 14 rfl) 1 rfl rfl ?_
        refine gk_iload_n (pc := 27) (DX12_label_0.at 15 rfl) 2 rfl rfl ?_
        refine gk_iload_n (pc := 28) (DX12_label_0.at 16 rfl) 3 rfl rfl ?_
        obtain ⟨⟨fs4, q4⟩, hv⟩ := hv
        refine gk_vV (pc := 29) [.int x1, .int x2, .int x3] [] (DX12_label_0.at 17 rfl) cvX12_158 q4 rfl rfl (Nat.le_of_ble_eq_true rfl) (Nat.le_of_ble_eq_true rfl) (gk_Run.post (fun o h4 z => ?_) hv)
        obtain ⟨v4, rfl, hv⟩ := z
        refine gk_goto (pc := 32) 36 (DX12_label_0.at 18 rfl) (by decide) ?_
        exact gk_ireturn (pc := 36) .int (DX12_label_0.at 20 rfl) rfl rfl ⟨_, rfl, hv⟩
set_option maxHeartbeats 4000000 in
theorem vX12_labelOf_0 {E : gk_E} {dd : Nat} {o : Nat} {x1 : Int32} {x2 : Int32} {x3 : Int32}  {h : gk_H} {K : Int32 → gk_H → Prop} (hv : (¬ x2 = x3 → LdR h o 11 4 fun v1 => AlI h v1 ((((nI 36) * x1) + ((nI 6) * x2)) + x3) fun v2 => K v2 h) ∧ (x2 = x3 → K (nI 0) h)) : RnI E mX12_labelOf (dd, 0, 0) [.ref o, .int x1, .int x2, .int x3] h K := by
  show gk_G E mX12_labelOf (dd, 0, 0) 0 [(0, .ref o), (1, .int x1), (2, .int x2), (3, .int x3)] [] h (fun o h1 => ∃ v, o = some (.int v) ∧ K v h1)
  refine gk_iload_n (pc := 0) (DX12_labelOf_0.at 0 rfl) 2 rfl rfl ?_
  refine gk_iload_n (pc := 1) (DX12_labelOf_0.at 1 rfl) 3 rfl rfl ?_
  refine gk_icmp_ne (pc := 2) 9 (DX12_labelOf_0.at 2 rfl) (by decide) (fun c => ?_) (fun c => ?_)
  · replace hv := hv.1 c
    refine gk_aload_n (pc := 9) (DX12_labelOf_0.at 5 rfl) 0 rfl rfl ?_
    obtain ⟨fs1, v1, q1, r1, hv⟩ := hv
    refine gk_get (pc := 10) (.ref v1) (DX12_labelOf_0.at 6 rfl) fX12_26_11 q1 r1 ?_
    refine gk_bipush (pc := 13) (nI 36) (DX12_labelOf_0.at 7 rfl) cb_36 ?_
    refine gk_iload_n (pc := 15) (DX12_labelOf_0.at 8 rfl) 1 rfl rfl ?_
    refine gk_imul (pc := 16) (DX12_labelOf_0.at 9 rfl) ?_
    refine gk_bipush (pc := 17) (nI 6) (DX12_labelOf_0.at 10 rfl) cb_6 ?_
    refine gk_iload_n (pc := 19) (DX12_labelOf_0.at 11 rfl) 2 rfl rfl ?_
    refine gk_imul (pc := 20) (DX12_labelOf_0.at 12 rfl) ?_
    refine gk_iadd (pc := 21) (DX12_labelOf_0.at 13 rfl) ?_
    refine gk_iload_n (pc := 22) (DX12_labelOf_0.at 14 rfl) 3 rfl rfl ?_
    refine gk_iadd (pc := 23) (DX12_labelOf_0.at 15 rfl) ?_
    obtain ⟨n2, f2, q2, r2, hv⟩ := hv
    refine gk_iald (pc := 24) (DX12_labelOf_0.at 16 rfl) q2 r2 ?_
    generalize f2 _ = v2 at hv ⊢
    exact gk_ireturn (pc := 25) .int (DX12_labelOf_0.at 17 rfl) rfl rfl ⟨_, rfl, hv⟩
  · replace hv := hv.2 c
    refine gk_iconst (pc := 5) (nI 0) (DX12_labelOf_0.at 3 rfl) ci_0 ?_
    refine gk_goto (pc := 6) 25 (DX12_labelOf_0.at 4 rfl) (by decide) ?_
    exact gk_ireturn (pc := 25) .int (DX12_labelOf_0.at 17 rfl) rfl rfl ⟨_, rfl, hv⟩
set_option maxHeartbeats 4000000 in
theorem vX12_lasts_0 {E : gk_E} {dd : Nat} {o : Nat} {x1 : Int32}  {h : gk_H} {K : Int32 → gk_H → Prop} (hv : (∃ fs, h[o]? = some (.inr (11, fs))) ∧ RnI E mX12_whyNot (dd, 0, 0) [.ref o, .int x1, .int (nI 0)] h (fun v1 h1 => (v1 = 0 → (∃ fs, h1[o]? = some (.inr (11, fs))) ∧ RnV E mX12_likens (dd, 0, 0) [.ref o, .int x1, .int (nI 5)] h1 (fun h2 => (∃ fs, h2[o]? = some (.inr (11, fs))) ∧ RnI E mX12_isWon (dd, 0, 0) [.ref o, .int (nI 1)] h2 (fun v3 h3 => (¬ v3 = 0 → (∃ fs, h3[o]? = some (.inr (11, fs))) ∧ RnI E mX12_isWon (dd, 0, 0) [.ref o, .int (nI 2)] h3 (fun v4 h4 => (v4 = 0 → K (nI 1) h4) ∧ (¬ v4 = 0 → K (nI 2) h4))) ∧ (v3 = 0 → K (nI 0) h3)))) ∧ (¬ v1 = 0 → K v1 h1))) : RnI E mX12_lasts (dd + 1, 0, 0) [.ref o, .int x1] h K := by
  show gk_G E mX12_lasts (dd + 1, 0, 0) 0 [(0, .ref o), (1, .int x1)] [] h (fun o h1 => ∃ v, o = some (.int v) ∧ K v h1)
  refine gk_aload_n (pc := 0) (DX12_lasts_0.at 0 rfl) 0 rfl rfl ?_
  refine gk_iload_n (pc := 1) (DX12_lasts_0.at 1 rfl) 1 rfl rfl ?_
  refine gk_iconst (pc := 2) (nI 0) (DX12_lasts_0.at 2 rfl) ci_0 ?_
  obtain ⟨⟨fs1, q1⟩, hv⟩ := hv
  refine gk_vV (pc := 3) [.int x1, .int (nI 0)] [] (DX12_lasts_0.at 3 rfl) cvX12_223 q1 rfl rfl (Nat.le_of_ble_eq_true rfl) (Nat.le_of_ble_eq_true rfl) (gk_Run.post (fun o h1 z => ?_) hv)
  obtain ⟨v1, rfl, hv⟩ := z
  refine gk_istore_n (pc := 6) [(2, .int v1), (0, .ref o), (1, .int x1)] (DX12_lasts_0.at 4 rfl) rfl (Nat.le_of_ble_eq_true rfl) rfl ?_
  refine gk_iload_n (pc := 7) (DX12_lasts_0.at 5 rfl) 0 rfl rfl ?_
  refine gk_if_eq (pc := 8) 13 (DX12_lasts_0.at 6 rfl) (by decide) (fun c => ?_) (fun c => ?_)
  · replace hv := hv.1 c
    refine gk_aload_n (pc := 13) (DX12_lasts_0.at 9 rfl) 1 rfl rfl ?_
    refine gk_iload_n (pc := 14) (DX12_lasts_0.at 10 rfl) 2 rfl rfl ?_
    refine gk_iconst (pc := 15) (nI 5) (DX12_lasts_0.at 11 rfl) ci_5 ?_
    obtain ⟨⟨fs2, q2⟩, hv⟩ := hv
    refine gk_vV (pc := 16) [.int x1, .int (nI 5)] [] (DX12_lasts_0.at 12 rfl) cvX12_161 q2 rfl rfl (Nat.le_of_ble_eq_true rfl) (Nat.le_of_ble_eq_true rfl) (gk_Run.post (fun o h2 z => ?_) hv)
    obtain ⟨rfl, hv⟩ := z
    refine gk_aload_n (pc := 19) (DX12_lasts_0.at 13 rfl) 1 rfl rfl ?_
    refine gk_iconst (pc := 20) (nI 1) (DX12_lasts_0.at 14 rfl) ci_1 ?_
    obtain ⟨⟨fs3, q3⟩, hv⟩ := hv
    refine gk_vV (pc := 21) [.int (nI 1)] [] (DX12_lasts_0.at 15 rfl) cvX12_205 q3 rfl rfl (Nat.le_of_ble_eq_true rfl) (Nat.le_of_ble_eq_true rfl) (gk_Run.post (fun o h3 z => ?_) hv)
    obtain ⟨v3, rfl, hv⟩ := z
    refine gk_if_ne (pc := 24) 31 (DX12_lasts_0.at 16 rfl) (by decide) (fun c => ?_) (fun c => ?_)
    · replace hv := hv.1 c
      refine gk_aload_n (pc := 31) (DX12_lasts_0.at 19 rfl) 1 rfl rfl ?_
      refine gk_iconst (pc := 32) (nI 2) (DX12_lasts_0.at 20 rfl) ci_2 ?_
      obtain ⟨⟨fs4, q4⟩, hv⟩ := hv
      refine gk_vV (pc := 33) [.int (nI 2)] [] (DX12_lasts_0.at 21 rfl) cvX12_205 q4 rfl rfl (Nat.le_of_ble_eq_true rfl) (Nat.le_of_ble_eq_true rfl) (gk_Run.post (fun o h4 z => ?_) hv)
      obtain ⟨v4, rfl, hv⟩ := z
      refine gk_if_eq (pc := 36) 43 (DX12_lasts_0.at 22 rfl) (by decide) (fun c => ?_) (fun c => ?_)
      · replace hv := hv.1 c
        refine gk_iconst (pc := 43) (nI 1) (DX12_lasts_0.at 25 rfl) ci_1 ?_
        exact gk_ireturn (pc := 44) .int (DX12_lasts_0.at 26 rfl) rfl rfl ⟨_, rfl, hv⟩
      · replace hv := hv.2 c
        refine gk_iconst (pc := 39) (nI 2) (DX12_lasts_0.at 23 rfl) ci_2 ?_
        refine gk_goto (pc := 40) 44 (DX12_lasts_0.at 24 rfl) (by decide) ?_
        exact gk_ireturn (pc := 44) .int (DX12_lasts_0.at 26 rfl) rfl rfl ⟨_, rfl, hv⟩
    · replace hv := hv.2 c
      refine gk_iconst (pc := 27) (nI 0) (DX12_lasts_0.at 17 rfl) ci_0 ?_
      refine gk_goto (pc := 28) 44 (DX12_lasts_0.at 18 rfl) (by decide) ?_
      exact gk_ireturn (pc := 44) .int (DX12_lasts_0.at 26 rfl) rfl rfl ⟨_, rfl, hv⟩
  · replace hv := hv.2 c
    refine gk_iload_n (pc := 11) (DX12_lasts_0.at 7 rfl) 0 rfl rfl ?_
    exact gk_ireturn (pc := 12) .int (DX12_lasts_0.at 8 rfl) rfl rfl ⟨_, rfl, hv⟩
abbrev pX12_later_26 (E : gk_E) (dd : Nat) (o : Nat) (x1 : Int32) (x2 : Int32) (h : gk_H) (K : Int32 → gk_H → Prop) : Prop := gk_G E mX12_later (dd, 0, 0) 26 [(0, .ref o), (1, .int x1), (2, .int x2)] [] h (fun o h1 => ∃ v, o = some (.int v) ∧ K v h1)
set_option maxHeartbeats 4000000 in
theorem vX12_later_0 {E : gk_E} {dd : Nat} {o : Nat}  {h : gk_H} {K : Int32 → gk_H → Prop} (hv : LdI h o 11 6 fun v1 => (v1 = 0 → K ((-3)) h) ∧ (¬ v1 = 0 → LdI h o 11 8 fun v2 => (¬ v2 = 0 → LdR h o 11 7 fun v3 => AlI h v3 (nI 0) fun v4 => pX12_later_26 E dd o v4 (nI 1) h K) ∧ (v2 = 0 → K ((-3)) h))) : RnI E mX12_later (dd, 0, 0) [.ref o] h K := by
  show gk_G E mX12_later (dd, 0, 0) 0 [(0, .ref o)] [] h (fun o h1 => ∃ v, o = some (.int v) ∧ K v h1)
  refine gk_aload_n (pc := 0) (DX12_later_0.at 0 rfl) 0 rfl rfl ?_
  obtain ⟨fs1, v1, q1, r1, hv⟩ := hv
  refine gk_get (pc := 1) (.int v1) (DX12_later_0.at 1 rfl) fX12_78_11 q1 r1 ?_
  refine gk_if_eq (pc := 4) 14 (DX12_later_0.at 2 rfl) (by decide) (fun c => ?_) (fun c => ?_)
  · replace hv := hv.1 c
    refine gk_bipush (pc := 14) ((-3)) (DX12_later_0.at 6 rfl) cb_m3 ?_
    exact gk_ireturn (pc := 16) .int (DX12_later_0.at 7 rfl) rfl rfl ⟨_, rfl, hv⟩
  · replace hv := hv.2 c
    refine gk_aload_n (pc := 7) (DX12_later_0.at 3 rfl) 0 rfl rfl ?_
    obtain ⟨fs2, v2, q2, r2, hv⟩ := hv
    refine gk_get (pc := 8) (.int v2) (DX12_later_0.at 4 rfl) fX12_226_11 q2 r2 ?_
    refine gk_if_ne (pc := 11) 17 (DX12_later_0.at 5 rfl) (by decide) (fun c => ?_) (fun c => ?_)
    · replace hv := hv.1 c
      refine gk_aload_n (pc := 17) (DX12_later_0.at 8 rfl) 0 rfl rfl ?_
      obtain ⟨fs3, v3, q3, r3, hv⟩ := hv
      refine gk_get (pc := 18) (.ref v3) (DX12_later_0.at 9 rfl) fX12_29_11 q3 r3 ?_
      refine gk_iconst (pc := 21) (nI 0) (DX12_later_0.at 10 rfl) ci_0 ?_
      obtain ⟨n4, f4, q4, r4, hv⟩ := hv
      refine gk_iald (pc := 22) (DX12_later_0.at 11 rfl) q4 r4 ?_
      generalize f4 _ = v4 at hv ⊢
      refine gk_istore_n (pc := 23) [(1, .int v4), (0, .ref o)] (DX12_later_0.at 12 rfl) rfl (Nat.le_of_ble_eq_true rfl) rfl ?_
      refine gk_iconst (pc := 24) (nI 1) (DX12_later_0.at 13 rfl) ci_1 ?_
      refine gk_istore_n (pc := 25) [(2, .int (nI 1)), (1, .int v4), (0, .ref o)] (DX12_later_0.at 14 rfl) rfl (Nat.le_of_ble_eq_true rfl) rfl ?_
      exact gk_pick (pc := 26) [(0, .ref o), (1, .int v4), (2, .int (nI 1))] [2, 1, 0] rfl hv
    · replace hv := hv.2 c
      refine gk_bipush (pc := 14) ((-3)) (DX12_later_0.at 6 rfl) cb_m3 ?_
      exact gk_ireturn (pc := 16) .int (DX12_later_0.at 7 rfl) rfl rfl ⟨_, rfl, hv⟩
set_option maxHeartbeats 4000000 in
theorem vX12_later_26 {E : gk_E} {dd : Nat} {o : Nat} {x1 : Int32} {x2 : Int32}  {h : gk_H} {K : Int32 → gk_H → Prop} (hv : LdI h o 11 8 fun v1 => (v1 ≤ x2 → LdR h o 11 7 fun v2 => LdI h o 11 8 fun v3 => AsI h v2 (v3 - (nI 1)) x1 fun h4 => LdI h4 o 11 8 fun v5 => K v5 h4) ∧ (¬ v1 ≤ x2 → LdR h o 11 7 fun v6 => LdR h o 11 7 fun v7 => AlI h v7 x2 fun v8 => AsI h v6 (x2 - (nI 1)) v8 fun h9 => pX12_later_26 E dd o x1 (x2 + nI 1) h9 K)) : pX12_later_26 E dd o x1 x2 h K := by
  show gk_G E mX12_later (dd, 0, 0) 26 [(0, .ref o), (1, .int x1), (2, .int x2)] [] h (fun o h1 => ∃ v, o = some (.int v) ∧ K v h1)
  refine gk_iload_n (pc := 26) (DX12_later_0.at 15 rfl) 2 rfl rfl ?_
  refine gk_aload_n (pc := 27) (DX12_later_0.at 16 rfl) 0 rfl rfl ?_
  obtain ⟨fs1, v1, q1, r1, hv⟩ := hv
  refine gk_get (pc := 28) (.int v1) (DX12_later_0.at 17 rfl) fX12_226_11 q1 r1 ?_
  refine gk_icmp_ge (pc := 31) 54 (DX12_later_0.at 18 rfl) (by decide) (fun c => ?_) (fun c => ?_)
  · replace hv := hv.1 c
    refine gk_aload_n (pc := 54) (DX12_later_0.at 31 rfl) 0 rfl rfl ?_
    obtain ⟨fs2, v2, q2, r2, hv⟩ := hv
    refine gk_get (pc := 55) (.ref v2) (DX12_later_0.at 32 rfl) fX12_29_11 q2 r2 ?_
    refine gk_aload_n (pc := 58) (DX12_later_0.at 33 rfl) 0 rfl rfl ?_
    obtain ⟨fs3, v3, q3, r3, hv⟩ := hv
    refine gk_get (pc := 59) (.int v3) (DX12_later_0.at 34 rfl) fX12_226_11 q3 r3 ?_
    refine gk_iconst (pc := 62) (nI 1) (DX12_later_0.at 35 rfl) ci_1 ?_
    refine gk_isub (pc := 63) (DX12_later_0.at 36 rfl) ?_
    refine gk_iload_n (pc := 64) (DX12_later_0.at 37 rfl) 1 rfl rfl ?_
    obtain ⟨n4, f4, q4, r4, hv⟩ := hv
    refine gk_iast (pc := 65) (DX12_later_0.at 38 rfl) q4 r4 ?_
    generalize h.set _ _ = h4 at hv ⊢
    refine gk_aload_n (pc := 66) (DX12_later_0.at 39 rfl) 0 rfl rfl ?_
    obtain ⟨fs5, v5, q5, r5, hv⟩ := hv
    refine gk_get (pc := 67) (.int v5) (DX12_later_0.at 40 rfl) fX12_226_11 q5 r5 ?_
    exact gk_ireturn (pc := 70) .int (DX12_later_0.at 41 rfl) rfl rfl ⟨_, rfl, hv⟩
  · replace hv := hv.2 c
    refine gk_aload_n (pc := 34) (DX12_later_0.at 19 rfl) 0 rfl rfl ?_
    obtain ⟨fs6, v6, q6, r6, hv⟩ := hv
    refine gk_get (pc := 35) (.ref v6) (DX12_later_0.at 20 rfl) fX12_29_11 q6 r6 ?_
    refine gk_iload_n (pc := 38) (DX12_later_0.at 21 rfl) 2 rfl rfl ?_
    refine gk_iconst (pc := 39) (nI 1) (DX12_later_0.at 22 rfl) ci_1 ?_
    refine gk_isub (pc := 40) (DX12_later_0.at 23 rfl) ?_
    refine gk_aload_n (pc := 41) (DX12_later_0.at 24 rfl) 0 rfl rfl ?_
    obtain ⟨fs7, v7, q7, r7, hv⟩ := hv
    refine gk_get (pc := 42) (.ref v7) (DX12_later_0.at 25 rfl) fX12_29_11 q7 r7 ?_
    refine gk_iload_n (pc := 45) (DX12_later_0.at 26 rfl) 2 rfl rfl ?_
    obtain ⟨n8, f8, q8, r8, hv⟩ := hv
    refine gk_iald (pc := 46) (DX12_later_0.at 27 rfl) q8 r8 ?_
    generalize f8 _ = v8 at hv ⊢
    obtain ⟨n9, f9, q9, r9, hv⟩ := hv
    refine gk_iast (pc := 47) (DX12_later_0.at 28 rfl) q9 r9 ?_
    generalize h.set _ _ = h9 at hv ⊢
    refine gk_iinc (pc := 48) (x2 + nI 1) [(2, .int (x2 + nI 1)), (0, .ref o), (1, .int x1)] 2 (DX12_later_0.at 29 rfl) rfl (by rw [ci_1]) (Nat.le_of_ble_eq_true rfl) rfl ?_
    refine gk_goto (pc := 51) 26 (DX12_later_0.at 30 rfl) (by decide) ?_
    exact gk_pick (pc := 26) [(0, .ref o), (1, .int x1), (2, .int (x2 + nI 1))] [1, 2, 0] rfl hv
set_option maxHeartbeats 4000000 in
theorem vX12_lays_0 {E : gk_E} {dd : Nat} {o : Nat} {x1 : Int32} {x2 : Int32} {x3 : Int32} {x4 : Int32}  {h : gk_H} {K : gk_H → Prop} (hv : LdR h o 11 4 fun v1 => AsI h v1 ((((nI 36) * x1) + ((nI 6) * x2)) + x3) x4 fun h2 => LdR h2 o 11 4 fun v3 => LdR h2 o 11 1 fun v4 => AlI h2 v4 x4 fun v5 => AsI h2 v3 ((((nI 36) * x1) + ((nI 6) * x3)) + x2) v5 fun h6 => K h6) : RnV E mX12_lays (dd, 0, 0) [.ref o, .int x1, .int x2, .int x3, .int x4] h K := by
  show gk_G E mX12_lays (dd, 0, 0) 0 [(0, .ref o), (1, .int x1), (2, .int x2), (3, .int x3), (4, .int x4)] [] h (fun o h1 => o = none ∧ K h1)
  refine gk_aload_n (pc := 0) (DX12_lays_0.at 0 rfl) 0 rfl rfl ?_
  obtain ⟨fs1, v1, q1, r1, hv⟩ := hv
  refine gk_get (pc := 1) (.ref v1) (DX12_lays_0.at 1 rfl) fX12_26_11 q1 r1 ?_
  refine gk_bipush (pc := 4) (nI 36) (DX12_lays_0.at 2 rfl) cb_36 ?_
  refine gk_iload_n (pc := 6) (DX12_lays_0.at 3 rfl) 1 rfl rfl ?_
  refine gk_imul (pc := 7) (DX12_lays_0.at 4 rfl) ?_
  refine gk_bipush (pc := 8) (nI 6) (DX12_lays_0.at 5 rfl) cb_6 ?_
  refine gk_iload_n (pc := 10) (DX12_lays_0.at 6 rfl) 2 rfl rfl ?_
  refine gk_imul (pc := 11) (DX12_lays_0.at 7 rfl) ?_
  refine gk_iadd (pc := 12) (DX12_lays_0.at 8 rfl) ?_
  refine gk_iload_n (pc := 13) (DX12_lays_0.at 9 rfl) 3 rfl rfl ?_
  refine gk_iadd (pc := 14) (DX12_lays_0.at 10 rfl) ?_
  refine gk_iload (pc := 15) (DX12_lays_0.at 11 rfl) 4 rfl ?_
  obtain ⟨n2, f2, q2, r2, hv⟩ := hv
  refine gk_iast (pc := 17) (DX12_lays_0.at 12 rfl) q2 r2 ?_
  generalize h.set _ _ = h2 at hv ⊢
  refine gk_aload_n (pc := 18) (DX12_lays_0.at 13 rfl) 0 rfl rfl ?_
  obtain ⟨fs3, v3, q3, r3, hv⟩ := hv
  refine gk_get (pc := 19) (.ref v3) (DX12_lays_0.at 14 rfl) fX12_26_11 q3 r3 ?_
  refine gk_bipush (pc := 22) (nI 36) (DX12_lays_0.at 15 rfl) cb_36 ?_
  refine gk_iload_n (pc := 24) (DX12_lays_0.at 16 rfl) 1 rfl rfl ?_
  refine gk_imul (pc := 25) (DX12_lays_0.at 17 rfl) ?_
  refine gk_bipush (pc := 26) (nI 6) (DX12_lays_0.at 18 rfl) cb_6 ?_
  refine gk_iload_n (pc := 28) (DX12_lays_0.at 19 rfl) 3 rfl rfl ?_
  refine gk_imul (pc := 29) (DX12_lays_0.at 20 rfl) ?_
  refine gk_iadd (pc := 30) (DX12_lays_0.at 21 rfl) ?_
  refine gk_iload_n (pc := 31) (DX12_lays_0.at 22 rfl) 2 rfl rfl ?_
  refine gk_iadd (pc := 32) (DX12_lays_0.at 23 rfl) ?_
  refine gk_aload_n (pc := 33) (DX12_lays_0.at 24 rfl) 0 rfl rfl ?_
  obtain ⟨fs4, v4, q4, r4, hv⟩ := hv
  refine gk_get (pc := 34) (.ref v4) (DX12_lays_0.at 25 rfl) fX12_15_11 q4 r4 ?_
  refine gk_iload (pc := 37) (DX12_lays_0.at 26 rfl) 4 rfl ?_
  obtain ⟨n5, f5, q5, r5, hv⟩ := hv
  refine gk_iald (pc := 39) (DX12_lays_0.at 27 rfl) q5 r5 ?_
  generalize f5 _ = v5 at hv ⊢
  obtain ⟨n6, f6, q6, r6, hv⟩ := hv
  refine gk_iast (pc := 40) (DX12_lays_0.at 28 rfl) q6 r6 ?_
  generalize h2.set _ _ = h6 at hv ⊢
  exact gk_return (pc := 41) (DX12_lays_0.at 29 rfl) rfl ⟨rfl, hv⟩
abbrev pX12_likens_14 (E : gk_E) (dd : Nat) (o : Nat) (x1 : Int32) (x2 : Int32) (x3 : Int32) (h : gk_H) (K : gk_H → Prop) : Prop := gk_G E mX12_likens (dd, 0, 0) 14 [(0, .ref o), (1, .int x1), (2, .int x2), (3, .int x3)] [] h (fun o h1 => o = none ∧ K h1)
set_option maxHeartbeats 4000000 in
theorem vX12_likens_0 {E : gk_E} {dd : Nat} {o : Nat} {x1 : Int32} {x2 : Int32}  {h : gk_H} {K : gk_H → Prop} (hv : LdR h o 11 3 fun v1 => LdR h o 11 3 fun v2 => AlI h v2 x1 fun v3 => AsI h v1 x2 v3 fun h4 => pX12_likens_14 E dd o x1 x2 (nI 0) h4 K) : RnV E mX12_likens (dd, 0, 0) [.ref o, .int x1, .int x2] h K := by
  show gk_G E mX12_likens (dd, 0, 0) 0 [(0, .ref o), (1, .int x1), (2, .int x2)] [] h (fun o h1 => o = none ∧ K h1)
  refine gk_aload_n (pc := 0) (DX12_likens_0.at 0 rfl) 0 rfl rfl ?_
  obtain ⟨fs1, v1, q1, r1, hv⟩ := hv
  refine gk_get (pc := 1) (.ref v1) (DX12_likens_0.at 1 rfl) fX12_23_11 q1 r1 ?_
  refine gk_iload_n (pc := 4) (DX12_likens_0.at 2 rfl) 2 rfl rfl ?_
  refine gk_aload_n (pc := 5) (DX12_likens_0.at 3 rfl) 0 rfl rfl ?_
  obtain ⟨fs2, v2, q2, r2, hv⟩ := hv
  refine gk_get (pc := 6) (.ref v2) (DX12_likens_0.at 4 rfl) fX12_23_11 q2 r2 ?_
  refine gk_iload_n (pc := 9) (DX12_likens_0.at 5 rfl) 1 rfl rfl ?_
  obtain ⟨n3, f3, q3, r3, hv⟩ := hv
  refine gk_iald (pc := 10) (DX12_likens_0.at 6 rfl) q3 r3 ?_
  generalize f3 _ = v3 at hv ⊢
  obtain ⟨n4, f4, q4, r4, hv⟩ := hv
  refine gk_iast (pc := 11) (DX12_likens_0.at 7 rfl) q4 r4 ?_
  generalize h.set _ _ = h4 at hv ⊢
  refine gk_iconst (pc := 12) (nI 0) (DX12_likens_0.at 8 rfl) ci_0 ?_
  refine gk_istore_n (pc := 13) [(3, .int (nI 0)), (0, .ref o), (1, .int x1), (2, .int x2)] (DX12_likens_0.at 9 rfl) rfl (Nat.le_of_ble_eq_true rfl) rfl ?_
  exact gk_pick (pc := 14) [(0, .ref o), (1, .int x1), (2, .int x2), (3, .int (nI 0))] [1, 2, 3, 0] rfl hv
set_option maxHeartbeats 4000000 in
theorem vX12_likens_14 {E : gk_E} {dd : Nat} {o : Nat} {x1 : Int32} {x2 : Int32} {x3 : Int32}  {h : gk_H} {K : gk_H → Prop} (hv : ((nI 36) ≤ x3 → K h) ∧ (¬ (nI 36) ≤ x3 → LdR h o 11 4 fun v1 => LdR h o 11 4 fun v2 => AlI h v2 (((nI 36) * x1) + x3) fun v3 => AsI h v1 (((nI 36) * x2) + x3) v3 fun h4 => pX12_likens_14 E dd o x1 x2 (x3 + nI 1) h4 K)) : pX12_likens_14 E dd o x1 x2 x3 h K := by
  show gk_G E mX12_likens (dd, 0, 0) 14 [(0, .ref o), (1, .int x1), (2, .int x2), (3, .int x3)] [] h (fun o h1 => o = none ∧ K h1)
  refine gk_iload_n (pc := 14) (DX12_likens_0.at 10 rfl) 3 rfl rfl ?_
  refine gk_bipush (pc := 15) (nI 36) (DX12_likens_0.at 11 rfl) cb_36 ?_
  refine gk_icmp_ge (pc := 17) 48 (DX12_likens_0.at 12 rfl) (by decide) (fun c => ?_) (fun c => ?_)
  · replace hv := hv.1 c
    exact gk_return (pc := 48) (DX12_likens_0.at 31 rfl) rfl ⟨rfl, hv⟩
  · replace hv := hv.2 c
    refine gk_aload_n (pc := 20) (DX12_likens_0.at 13 rfl) 0 rfl rfl ?_
    obtain ⟨fs1, v1, q1, r1, hv⟩ := hv
    refine gk_get (pc := 21) (.ref v1) (DX12_likens_0.at 14 rfl) fX12_26_11 q1 r1 ?_
    refine gk_bipush (pc := 24) (nI 36) (DX12_likens_0.at 15 rfl) cb_36 ?_
    refine gk_iload_n (pc := 26) (DX12_likens_0.at 16 rfl) 2 rfl rfl ?_
    refine gk_imul (pc := 27) (DX12_likens_0.at 17 rfl) ?_
    refine gk_iload_n (pc := 28) (DX12_likens_0.at 18 rfl) 3 rfl rfl ?_
    refine gk_iadd (pc := 29) (DX12_likens_0.at 19 rfl) ?_
    refine gk_aload_n (pc := 30) (DX12_likens_0.at 20 rfl) 0 rfl rfl ?_
    obtain ⟨fs2, v2, q2, r2, hv⟩ := hv
    refine gk_get (pc := 31) (.ref v2) (DX12_likens_0.at 21 rfl) fX12_26_11 q2 r2 ?_
    refine gk_bipush (pc := 34) (nI 36) (DX12_likens_0.at 22 rfl) cb_36 ?_
    refine gk_iload_n (pc := 36) (DX12_likens_0.at 23 rfl) 1 rfl rfl ?_
    refine gk_imul (pc := 37) (DX12_likens_0.at 24 rfl) ?_
    refine gk_iload_n (pc := 38) (DX12_likens_0.at 25 rfl) 3 rfl rfl ?_
    refine gk_iadd (pc := 39) (DX12_likens_0.at 26 rfl) ?_
    obtain ⟨n3, f3, q3, r3, hv⟩ := hv
    refine gk_iald (pc := 40) (DX12_likens_0.at 27 rfl) q3 r3 ?_
    generalize f3 _ = v3 at hv ⊢
    obtain ⟨n4, f4, q4, r4, hv⟩ := hv
    refine gk_iast (pc := 41) (DX12_likens_0.at 28 rfl) q4 r4 ?_
    generalize h.set _ _ = h4 at hv ⊢
    refine gk_iinc (pc := 42) (x3 + nI 1) [(3, .int (x3 + nI 1)), (0, .ref o), (1, .int x1), (2, .int x2)] 3 (DX12_likens_0.at 29 rfl) rfl (by rw [ci_1]) (Nat.le_of_ble_eq_true rfl) rfl ?_
    refine gk_goto (pc := 45) 14 (DX12_likens_0.at 30 rfl) (by decide) ?_
    exact gk_pick (pc := 14) [(0, .ref o), (1, .int x1), (2, .int x2), (3, .int (x3 + nI 1))] [1, 2, 3, 0] rfl hv
abbrev pX12_list_35 (E : gk_E) (dd : Nat) (o : Nat) (x1 : Int32) (x2 : Int32) (x3 : Int32) (h : gk_H) (K : Int32 → gk_H → Prop) : Prop := gk_G E mX12_list (dd + 1, 0, 0) 35 [(0, .ref o), (1, .int x1), (2, .int x2), (3, .int x3)] [] h (fun o h1 => ∃ v, o = some (.int v) ∧ K v h1)
set_option maxHeartbeats 4000000 in
theorem vX12_list_0 {E : gk_E} {dd : Nat} {o : Nat} {x1 : Int32} {x2 : Int32}  {h : gk_H} {K : Int32 → gk_H → Prop} (hv : RnI E mX12_isList (dd, 0, 0) [.int x1] h (fun v1 h1 => (¬ v1 = 0 → (x2 ≤ (nI 12) → (((-1)) ≤ x2 → LdR h1 o 11 15 fun v2 => AsI h1 v2 x1 x2 fun h3 => pX12_list_35 E dd o x1 x2 (nI 0) h3 K) ∧ (¬ ((-1)) ≤ x2 → K ((-14)) h1)) ∧ (¬ x2 ≤ (nI 12) → K ((-2)) h1)) ∧ (v1 = 0 → K ((-1)) h1))) : RnI E mX12_list (dd + 1, 0, 0) [.ref o, .int x1, .int x2] h K := by
  show gk_G E mX12_list (dd + 1, 0, 0) 0 [(0, .ref o), (1, .int x1), (2, .int x2)] [] h (fun o h1 => ∃ v, o = some (.int v) ∧ K v h1)
  refine gk_iload_n (pc := 0) (DX12_list_0.at 0 rfl) 1 rfl rfl ?_
  refine gk_vS (pc := 1) [.int x1] [] (DX12_list_0.at 1 rfl) csX12_241 rfl rfl (Nat.le_of_ble_eq_true rfl) (Nat.le_of_ble_eq_true rfl) (gk_Run.post (fun o h1 z => ?_) hv)
  obtain ⟨v1, rfl, hv⟩ := z
  refine gk_if_ne (pc := 4) 9 (DX12_list_0.at 2 rfl) (by decide) (fun c => ?_) (fun c => ?_)
  · replace hv := hv.1 c
    refine gk_iload_n (pc := 9) (DX12_list_0.at 5 rfl) 2 rfl rfl ?_
    refine gk_bipush (pc := 10) (nI 12) (DX12_list_0.at 6 rfl) cb_12 ?_
    refine gk_icmp_le (pc := 12) 18 (DX12_list_0.at 7 rfl) (by decide) (fun c => ?_) (fun c => ?_)
    · replace hv := hv.1 c
      refine gk_iload_n (pc := 18) (DX12_list_0.at 10 rfl) 2 rfl rfl ?_
      refine gk_iconst (pc := 19) ((-1)) (DX12_list_0.at 11 rfl) ci_m1 ?_
      refine gk_icmp_ge (pc := 20) 26 (DX12_list_0.at 12 rfl) (by decide) (fun c => ?_) (fun c => ?_)
      · replace hv := hv.1 c
        refine gk_aload_n (pc := 26) (DX12_list_0.at 15 rfl) 0 rfl rfl ?_
        obtain ⟨fs2, v2, q2, r2, hv⟩ := hv
        refine gk_get (pc := 27) (.ref v2) (DX12_list_0.at 16 rfl) fX12_35_11 q2 r2 ?_
        refine gk_iload_n (pc := 30) (DX12_list_0.at 17 rfl) 1 rfl rfl ?_
        refine gk_iload_n (pc := 31) (DX12_list_0.at 18 rfl) 2 rfl rfl ?_
        obtain ⟨n3, f3, q3, r3, hv⟩ := hv
        refine gk_iast (pc := 32) (DX12_list_0.at 19 rfl) q3 r3 ?_
        generalize h1.set _ _ = h3 at hv ⊢
        refine gk_iconst (pc := 33) (nI 0) (DX12_list_0.at 20 rfl) ci_0 ?_
        refine gk_istore_n (pc := 34) [(3, .int (nI 0)), (0, .ref o), (1, .int x1), (2, .int x2)] (DX12_list_0.at 21 rfl) rfl (Nat.le_of_ble_eq_true rfl) rfl ?_
        exact gk_pick (pc := 35) [(0, .ref o), (1, .int x1), (2, .int x2), (3, .int (nI 0))] [1, 2, 3, 0] rfl hv
      · replace hv := hv.2 c
        refine gk_bipush (pc := 23) ((-14)) (DX12_list_0.at 13 rfl) cb_m14 ?_
        exact gk_ireturn (pc := 25) .int (DX12_list_0.at 14 rfl) rfl rfl ⟨_, rfl, hv⟩
    · replace hv := hv.2 c
      refine gk_bipush (pc := 15) ((-2)) (DX12_list_0.at 8 rfl) cb_m2 ?_
      exact gk_ireturn (pc := 17) .int (DX12_list_0.at 9 rfl) rfl rfl ⟨_, rfl, hv⟩
  · replace hv := hv.2 c
    refine gk_iconst (pc := 7) ((-1)) (DX12_list_0.at 3 rfl) ci_m1 ?_
    exact gk_ireturn (pc := 8) .int (DX12_list_0.at 4 rfl) rfl rfl ⟨_, rfl, hv⟩
set_option maxHeartbeats 4000000 in
theorem vX12_list_35 {E : gk_E} {dd : Nat} {o : Nat} {x1 : Int32} {x2 : Int32} {x3 : Int32}  {h : gk_H} {K : Int32 → gk_H → Prop} (hv : ((nI 12) ≤ x3 → K (nI 1) h) ∧ (¬ (nI 12) ≤ x3 → LdR h o 11 16 fun v1 => AsL h v1 (((nI 12) * x1) + x3) (lN 0) fun h2 => pX12_list_35 E dd o x1 x2 (x3 + nI 1) h2 K)) : pX12_list_35 E dd o x1 x2 x3 h K := by
  show gk_G E mX12_list (dd + 1, 0, 0) 35 [(0, .ref o), (1, .int x1), (2, .int x2), (3, .int x3)] [] h (fun o h1 => ∃ v, o = some (.int v) ∧ K v h1)
  refine gk_iload_n (pc := 35) (DX12_list_0.at 22 rfl) 3 rfl rfl ?_
  refine gk_bipush (pc := 36) (nI 12) (DX12_list_0.at 23 rfl) cb_12 ?_
  refine gk_icmp_ge (pc := 38) 59 (DX12_list_0.at 24 rfl) (by decide) (fun c => ?_) (fun c => ?_)
  · replace hv := hv.1 c
    refine gk_iconst (pc := 59) (nI 1) (DX12_list_0.at 36 rfl) ci_1 ?_
    exact gk_ireturn (pc := 60) .int (DX12_list_0.at 37 rfl) rfl rfl ⟨_, rfl, hv⟩
  · replace hv := hv.2 c
    refine gk_aload_n (pc := 41) (DX12_list_0.at 25 rfl) 0 rfl rfl ?_
    obtain ⟨fs1, v1, q1, r1, hv⟩ := hv
    refine gk_get (pc := 42) (.ref v1) (DX12_list_0.at 26 rfl) fX12_38_11 q1 r1 ?_
    refine gk_bipush (pc := 45) (nI 12) (DX12_list_0.at 27 rfl) cb_12 ?_
    refine gk_iload_n (pc := 47) (DX12_list_0.at 28 rfl) 1 rfl rfl ?_
    refine gk_imul (pc := 48) (DX12_list_0.at 29 rfl) ?_
    refine gk_iload_n (pc := 49) (DX12_list_0.at 30 rfl) 3 rfl rfl ?_
    refine gk_iadd (pc := 50) (DX12_list_0.at 31 rfl) ?_
    refine gk_lconst (pc := 51) (lN 0) (DX12_list_0.at 32 rfl) rfl ?_
    obtain ⟨n2, f2, q2, r2, hv⟩ := hv
    refine gk_last (pc := 52) (DX12_list_0.at 33 rfl) q2 r2 ?_
    generalize h.set _ _ = h2 at hv ⊢
    refine gk_iinc (pc := 53) (x3 + nI 1) [(3, .int (x3 + nI 1)), (0, .ref o), (1, .int x1), (2, .int x2)] 3 (DX12_list_0.at 34 rfl) rfl (by rw [ci_1]) (Nat.le_of_ble_eq_true rfl) rfl ?_
    refine gk_goto (pc := 56) 35 (DX12_list_0.at 35 rfl) (by decide) ?_
    exact gk_pick (pc := 35) [(0, .ref o), (1, .int x1), (2, .int x2), (3, .int (x3 + nI 1))] [1, 2, 3, 0] rfl hv
abbrev pX12_looks_22 (E : gk_E) (dd : Nat) (o : Nat) (x1 : Int32) (x2 : Int32) (x3 : Int32) (x4 : Int32) (x5 : Int32) (h : gk_H) (K : gk_H → Prop) : Prop := gk_G E mX12_looks (dd + 1, 0, 0) 22 [(0, .ref o), (1, .int x1), (2, .int x2), (3, .int x3), (4, .int x4), (5, .int x5)] [] h (fun o h1 => o = none ∧ K h1)
set_option maxHeartbeats 4000000 in
theorem vX12_looks_0 {E : gk_E} {dd : Nat} {o : Nat} {x1 : Int32} {x2 : Int32} {x3 : Int32}  {h : gk_H} {K : gk_H → Prop} (hv : StI h o 11 10 (nI 0) fun h1 => StI h1 o 11 11 x3 fun h2 => StI h2 o 11 12 ((-5)) fun h3 => pX12_looks_22 E dd o x1 x2 x3 (nI 1) (nI 1) h3 K) : RnV E mX12_looks (dd + 1, 0, 0) [.ref o, .int x1, .int x2, .int x3] h K := by
  show gk_G E mX12_looks (dd + 1, 0, 0) 0 [(0, .ref o), (1, .int x1), (2, .int x2), (3, .int x3)] [] h (fun o h1 => o = none ∧ K h1)
  refine gk_aload_n (pc := 0) (DX12_looks_0.at 0 rfl) 0 rfl rfl ?_
  refine gk_iconst (pc := 1) (nI 0) (DX12_looks_0.at 1 rfl) ci_0 ?_
  obtain ⟨fs1, q1, r1, hv⟩ := hv
  refine gk_put (pc := 2) (DX12_looks_0.at 2 rfl) fX12_174_11w q1 r1 rfl rfl ?_
  generalize h.set _ _ = h1 at hv ⊢
  refine gk_aload_n (pc := 5) (DX12_looks_0.at 3 rfl) 0 rfl rfl ?_
  refine gk_iload_n (pc := 6) (DX12_looks_0.at 4 rfl) 3 rfl rfl ?_
  obtain ⟨fs2, q2, r2, hv⟩ := hv
  refine gk_put (pc := 7) (DX12_looks_0.at 5 rfl) fX12_177_11w q2 r2 rfl rfl ?_
  generalize h1.set _ _ = h2 at hv ⊢
  refine gk_aload_n (pc := 10) (DX12_looks_0.at 6 rfl) 0 rfl rfl ?_
  refine gk_bipush (pc := 11) ((-5)) (DX12_looks_0.at 7 rfl) cb_m5 ?_
  obtain ⟨fs3, q3, r3, hv⟩ := hv
  refine gk_put (pc := 13) (DX12_looks_0.at 8 rfl) fX12_180_11w q3 r3 rfl rfl ?_
  generalize h2.set _ _ = h3 at hv ⊢
  refine gk_iconst (pc := 16) (nI 1) (DX12_looks_0.at 9 rfl) ci_1 ?_
  refine gk_istore (pc := 17) [(4, .int (nI 1)), (0, .ref o), (1, .int x1), (2, .int x2), (3, .int x3)] (DX12_looks_0.at 10 rfl) (Nat.le_of_ble_eq_true rfl) rfl ?_
  refine gk_iconst (pc := 19) (nI 1) (DX12_looks_0.at 11 rfl) ci_1 ?_
  refine gk_istore (pc := 20) [(5, .int (nI 1)), (4, .int (nI 1)), (0, .ref o), (1, .int x1), (2, .int x2), (3, .int x3)] (DX12_looks_0.at 12 rfl) (Nat.le_of_ble_eq_true rfl) rfl ?_
  exact gk_pick (pc := 22) [(0, .ref o), (1, .int x1), (2, .int x2), (3, .int x3), (4, .int (nI 1)), (5, .int (nI 1))] [2, 3, 4, 5, 1, 0] rfl hv
set_option maxHeartbeats 4000000 in
theorem vX12_looks_22 {E : gk_E} {dd : Nat} {o : Nat} {x1 : Int32} {x2 : Int32} {x3 : Int32} {x4 : Int32} {x5 : Int32}  {h : gk_H} {K : gk_H → Prop} (hv : LdR h o 11 3 fun v1 => AlI h v1 x1 fun v2 => (v2 ≤ x5 → LdR h o 11 3 fun v3 => AlI h v3 x1 fun v4 => (∃ fs, h[o]? = some (.inr (11, fs))) ∧ RnI E mX12_seeks (dd, 0, 0) [.ref o, .int x1, .int x2, .int (v4 - (nI 1)), .int x4, .int (nI 0)] h (fun v5 h5 => K h5)) ∧ (¬ v2 ≤ x5 → pX12_looks_22 E dd o x1 x2 x3 (x4 * (nI 10)) (x5 + nI 1) h K)) : pX12_looks_22 E dd o x1 x2 x3 x4 x5 h K := by
  show gk_G E mX12_looks (dd + 1, 0, 0) 22 [(0, .ref o), (1, .int x1), (2, .int x2), (3, .int x3), (4, .int x4), (5, .int x5)] [] h (fun o h1 => o = none ∧ K h1)
  refine gk_iload (pc := 22) (DX12_looks_0.at 13 rfl) 5 rfl ?_
  refine gk_aload_n (pc := 24) (DX12_looks_0.at 14 rfl) 0 rfl rfl ?_
  obtain ⟨fs1, v1, q1, r1, hv⟩ := hv
  refine gk_get (pc := 25) (.ref v1) (DX12_looks_0.at 15 rfl) fX12_23_11 q1 r1 ?_
  refine gk_iload_n (pc := 28) (DX12_looks_0.at 16 rfl) 1 rfl rfl ?_
  obtain ⟨n2, f2, q2, r2, hv⟩ := hv
  refine gk_iald (pc := 29) (DX12_looks_0.at 17 rfl) q2 r2 ?_
  generalize f2 _ = v2 at hv ⊢
  refine gk_icmp_ge (pc := 30) 46 (DX12_looks_0.at 18 rfl) (by decide) (fun c => ?_) (fun c => ?_)
  · replace hv := hv.1 c
    refine gk_aload_n (pc := 46) (DX12_looks_0.at 25 rfl) 0 rfl rfl ?_
    refine gk_iload_n (pc := 47) (DX12_looks_0.at 26 rfl) 1 rfl rfl ?_
    refine gk_iload_n (pc := 48) (DX12_looks_0.at 27 rfl) 2 rfl rfl ?_
    refine gk_aload_n (pc := 49) (DX12_looks_0.at 28 rfl) 0 rfl rfl ?_
    obtain ⟨fs3, v3, q3, r3, hv⟩ := hv
    refine gk_get (pc := 50) (.ref v3) (DX12_looks_0.at 29 rfl) fX12_23_11 q3 r3 ?_
    refine gk_iload_n (pc := 53) (DX12_looks_0.at 30 rfl) 1 rfl rfl ?_
    obtain ⟨n4, f4, q4, r4, hv⟩ := hv
    refine gk_iald (pc := 54) (DX12_looks_0.at 31 rfl) q4 r4 ?_
    generalize f4 _ = v4 at hv ⊢
    refine gk_iconst (pc := 55) (nI 1) (DX12_looks_0.at 32 rfl) ci_1 ?_
    refine gk_isub (pc := 56) (DX12_looks_0.at 33 rfl) ?_
    refine gk_iload (pc := 57) (DX12_looks_0.at 34 rfl) 4 rfl ?_
    refine gk_iconst (pc := 59) (nI 0) (DX12_looks_0.at 35 rfl) ci_0 ?_
    obtain ⟨⟨fs5, q5⟩, hv⟩ := hv
    refine gk_vV (pc := 60) [.int x1, .int x2, .int (v4 - (nI 1)), .int x4, .int (nI 0)] [] (DX12_looks_0.at 36 rfl) cvX12_186 q5 rfl rfl (Nat.le_of_ble_eq_true rfl) (Nat.le_of_ble_eq_true rfl) (gk_Run.post (fun o h5 z => ?_) hv)
    obtain ⟨v5, rfl, hv⟩ := z
    refine gk_pop (pc := 63) (DX12_looks_0.at 37 rfl) rfl ?_
    exact gk_return (pc := 64) (DX12_looks_0.at 38 rfl) rfl ⟨rfl, hv⟩
  · replace hv := hv.2 c
    refine gk_iload (pc := 33) (DX12_looks_0.at 19 rfl) 4 rfl ?_
    refine gk_bipush (pc := 35) (nI 10) (DX12_looks_0.at 20 rfl) cb_10 ?_
    refine gk_imul (pc := 37) (DX12_looks_0.at 21 rfl) ?_
    refine gk_istore (pc := 38) [(4, .int (x4 * (nI 10))), (0, .ref o), (1, .int x1), (2, .int x2), (3, .int x3), (5, .int x5)] (DX12_looks_0.at 22 rfl) (Nat.le_of_ble_eq_true rfl) rfl ?_
    refine gk_iinc (pc := 40) (x5 + nI 1) [(5, .int (x5 + nI 1)), (4, .int (x4 * (nI 10))), (0, .ref o), (1, .int x1), (2, .int x2), (3, .int x3)] 5 (DX12_looks_0.at 23 rfl) rfl (by rw [ci_1]) (Nat.le_of_ble_eq_true rfl) rfl ?_
    refine gk_goto (pc := 43) 22 (DX12_looks_0.at 24 rfl) (by decide) ?_
    exact gk_pick (pc := 22) [(0, .ref o), (1, .int x1), (2, .int x2), (3, .int x3), (4, .int (x4 * (nI 10))), (5, .int (x5 + nI 1))] [2, 3, 4, 5, 1, 0] rfl hv
set_option maxHeartbeats 4000000 in
theorem vX12_looksToFill_0 {E : gk_E} {dd : Nat} {o : Nat} {x1 : Int32} {x2 : Int32} {x3 : Int32}  {h : gk_H} {K : gk_H → Prop} (hv : (∃ fs, h[o]? = some (.inr (11, fs))) ∧ RnV E mX12_likens (dd, 0, 0) [.ref o, .int x1, .int (nI 5)] h (fun h1 => StI h1 o 11 10 (nI 0) fun h2 => StI h2 o 11 11 x3 fun h3 => StI h3 o 11 12 ((-5)) fun h4 => (∃ fs, h4[o]? = some (.inr (11, fs))) ∧ RnI E mX12_isFillable (dd, 0, 0) [.ref o, .int x2, .int ((-1))] h4 (fun v5 h5 => K h5))) : RnV E mX12_looksToFill (dd + 1, 0, 0) [.ref o, .int x1, .int x2, .int x3] h K := by
  show gk_G E mX12_looksToFill (dd + 1, 0, 0) 0 [(0, .ref o), (1, .int x1), (2, .int x2), (3, .int x3)] [] h (fun o h1 => o = none ∧ K h1)
  refine gk_aload_n (pc := 0) (DX12_looksToFill_0.at 0 rfl) 0 rfl rfl ?_
  refine gk_iload_n (pc := 1) (DX12_looksToFill_0.at 1 rfl) 1 rfl rfl ?_
  refine gk_iconst (pc := 2) (nI 5) (DX12_looksToFill_0.at 2 rfl) ci_5 ?_
  obtain ⟨⟨fs1, q1⟩, hv⟩ := hv
  refine gk_vV (pc := 3) [.int x1, .int (nI 5)] [] (DX12_looksToFill_0.at 3 rfl) cvX12_161 q1 rfl rfl (Nat.le_of_ble_eq_true rfl) (Nat.le_of_ble_eq_true rfl) (gk_Run.post (fun o h1 z => ?_) hv)
  obtain ⟨rfl, hv⟩ := z
  refine gk_aload_n (pc := 6) (DX12_looksToFill_0.at 4 rfl) 0 rfl rfl ?_
  refine gk_iconst (pc := 7) (nI 0) (DX12_looksToFill_0.at 5 rfl) ci_0 ?_
  obtain ⟨fs2, q2, r2, hv⟩ := hv
  refine gk_put (pc := 8) (DX12_looksToFill_0.at 6 rfl) fX12_174_11w q2 r2 rfl rfl ?_
  generalize h1.set _ _ = h2 at hv ⊢
  refine gk_aload_n (pc := 11) (DX12_looksToFill_0.at 7 rfl) 0 rfl rfl ?_
  refine gk_iload_n (pc := 12) (DX12_looksToFill_0.at 8 rfl) 3 rfl rfl ?_
  obtain ⟨fs3, q3, r3, hv⟩ := hv
  refine gk_put (pc := 13) (DX12_looksToFill_0.at 9 rfl) fX12_177_11w q3 r3 rfl rfl ?_
  generalize h2.set _ _ = h3 at hv ⊢
  refine gk_aload_n (pc := 16) (DX12_looksToFill_0.at 10 rfl) 0 rfl rfl ?_
  refine gk_bipush (pc := 17) ((-5)) (DX12_looksToFill_0.at 11 rfl) cb_m5 ?_
  obtain ⟨fs4, q4, r4, hv⟩ := hv
  refine gk_put (pc := 19) (DX12_looksToFill_0.at 12 rfl) fX12_180_11w q4 r4 rfl rfl ?_
  generalize h3.set _ _ = h4 at hv ⊢
  refine gk_aload_n (pc := 22) (DX12_looksToFill_0.at 13 rfl) 0 rfl rfl ?_
  refine gk_iload_n (pc := 23) (DX12_looksToFill_0.at 14 rfl) 2 rfl rfl ?_
  refine gk_iconst (pc := 24) ((-1)) (DX12_looksToFill_0.at 15 rfl) ci_m1 ?_
  obtain ⟨⟨fs5, q5⟩, hv⟩ := hv
  refine gk_vV (pc := 25) [.int x2, .int ((-1))] [] (DX12_looksToFill_0.at 16 rfl) cvX12_208 q5 rfl rfl (Nat.le_of_ble_eq_true rfl) (Nat.le_of_ble_eq_true rfl) (gk_Run.post (fun o h5 z => ?_) hv)
  obtain ⟨v5, rfl, hv⟩ := z
  refine gk_pop (pc := 28) (DX12_looksToFill_0.at 17 rfl) rfl ?_
  exact gk_return (pc := 29) (DX12_looksToFill_0.at 18 rfl) rfl ⟨rfl, hv⟩
abbrev pX12_mayStand_12 (E : gk_E) (dd : Nat) (o : Nat) (x1 : Int32) (x2 : Int32) (x3 : Int32) (x4 : Int32) (h : gk_H) (K : Int32 → gk_H → Prop) : Prop := gk_G E mX12_mayStand (dd + 1, 0, 0) 12 [(0, .ref o), (1, .int x1), (2, .int x2), (3, .int x3), (4, .int x4)] [] h (fun o h1 => ∃ v, o = some (.int v) ∧ K v h1)
set_option maxHeartbeats 4000000 in
theorem vX12_mayStand_0 {E : gk_E} {dd : Nat} {o : Nat} {x1 : Int32} {x2 : Int32}  {h : gk_H} {K : Int32 → gk_H → Prop} (hv : LdR h o 11 3 fun v1 => AlI h v1 (nI 5) fun v2 => pX12_mayStand_12 E dd o x1 x2 v2 (x1 + (nI 1)) h K) : RnI E mX12_mayStand (dd + 1, 0, 0) [.ref o, .int x1, .int x2] h K := by
  show gk_G E mX12_mayStand (dd + 1, 0, 0) 0 [(0, .ref o), (1, .int x1), (2, .int x2)] [] h (fun o h1 => ∃ v, o = some (.int v) ∧ K v h1)
  refine gk_aload_n (pc := 0) (DX12_mayStand_0.at 0 rfl) 0 rfl rfl ?_
  obtain ⟨fs1, v1, q1, r1, hv⟩ := hv
  refine gk_get (pc := 1) (.ref v1) (DX12_mayStand_0.at 1 rfl) fX12_23_11 q1 r1 ?_
  refine gk_iconst (pc := 4) (nI 5) (DX12_mayStand_0.at 2 rfl) ci_5 ?_
  obtain ⟨n2, f2, q2, r2, hv⟩ := hv
  refine gk_iald (pc := 5) (DX12_mayStand_0.at 3 rfl) q2 r2 ?_
  generalize f2 _ = v2 at hv ⊢
  refine gk_istore_n (pc := 6) [(3, .int v2), (0, .ref o), (1, .int x1), (2, .int x2)] (DX12_mayStand_0.at 4 rfl) rfl (Nat.le_of_ble_eq_true rfl) rfl ?_
  refine gk_iload_n (pc := 7) (DX12_mayStand_0.at 5 rfl) 2 rfl rfl ?_
  refine gk_iconst (pc := 8) (nI 1) (DX12_mayStand_0.at 6 rfl) ci_1 ?_
  refine gk_iadd (pc := 9) (DX12_mayStand_0.at 7 rfl) ?_
  refine gk_istore (pc := 10) [(4, .int (x1 + (nI 1))), (3, .int v2), (0, .ref o), (1, .int x1), (2, .int x2)] (DX12_mayStand_0.at 8 rfl) (Nat.le_of_ble_eq_true rfl) rfl ?_
  exact gk_pick (pc := 12) [(0, .ref o), (1, .int x1), (2, .int x2), (3, .int v2), (4, .int (x1 + (nI 1)))] [2, 3, 4, 1, 0] rfl hv
set_option maxHeartbeats 4000000 in
theorem vX12_mayStand_12 {E : gk_E} {dd : Nat} {o : Nat} {x1 : Int32} {x2 : Int32} {x3 : Int32} {x4 : Int32}  {h : gk_H} {K : Int32 → gk_H → Prop} (hv : (x3 ≤ x4 → K (nI 1) h) ∧ (¬ x3 ≤ x4 → (∃ fs, h[o]? = some (.inr (11, fs))) ∧ RnI E mX12_labelOf (dd, 0, 0) [.ref o, .int (nI 5), .int x1, .int x4] h (fun v1 h1 => (∃ fs, h1[o]? = some (.inr (11, fs))) ∧ RnI E mX12_labelOf (dd, 0, 0) [.ref o, .int (nI 5), .int x4, .int x3] h1 (fun v2 h2 => (∃ fs, h2[o]? = some (.inr (11, fs))) ∧ RnI E mX12_is (dd, 0, 0) [.ref o, .int v1, .int v2, .int x2] h2 (fun v3 h3 => (¬ v3 = 0 → pX12_mayStand_12 E dd o x1 x2 x3 (x4 + nI 1) h3 K) ∧ (v3 = 0 → K (nI 0) h3)))))) : pX12_mayStand_12 E dd o x1 x2 x3 x4 h K := by
  show gk_G E mX12_mayStand (dd + 1, 0, 0) 12 [(0, .ref o), (1, .int x1), (2, .int x2), (3, .int x3), (4, .int x4)] [] h (fun o h1 => ∃ v, o = some (.int v) ∧ K v h1)
  refine gk_iload (pc := 12) (DX12_mayStand_0.at 9 rfl) 4 rfl ?_
  refine gk_iload_n (pc := 14) (DX12_mayStand_0.at 10 rfl) 3 rfl rfl ?_
  refine gk_icmp_ge (pc := 15) 50 (DX12_mayStand_0.at 11 rfl) (by decide) (fun c => ?_) (fun c => ?_)
  · replace hv := hv.1 c
    refine gk_iconst (pc := 50) (nI 1) (DX12_mayStand_0.at 30 rfl) ci_1 ?_
    exact gk_ireturn (pc := 51) .boolean (DX12_mayStand_0.at 31 rfl) rfl rfl ⟨_, rfl, hv⟩
  · replace hv := hv.2 c
    refine gk_aload_n (pc := 18) (DX12_mayStand_0.at 12 rfl) 0 rfl rfl ?_
    refine gk_aload_n (pc := 19) (DX12_mayStand_0.at 13 rfl) 0 rfl rfl ?_
    refine gk_iconst (pc := 20) (nI 5) (DX12_mayStand_0.at 14 rfl) ci_5 ?_
    refine gk_iload_n (pc := 21) (DX12_mayStand_0.at 15 rfl) 1 rfl rfl ?_
    refine gk_iload (pc := 22) (DX12_mayStand_0.at 16 rfl) 4 rfl ?_
    obtain ⟨⟨fs1, q1⟩, hv⟩ := hv
    refine gk_vV (pc := 24) [.int (nI 5), .int x1, .int x4] [.ref o] (DX12_mayStand_0.at 17 rfl) cvX12_158 q1 rfl rfl (Nat.le_of_ble_eq_true rfl) (Nat.le_of_ble_eq_true rfl) (gk_Run.post (fun o h1 z => ?_) hv)
    obtain ⟨v1, rfl, hv⟩ := z
    refine gk_aload_n (pc := 27) (DX12_mayStand_0.at 18 rfl) 0 rfl rfl ?_
    refine gk_iconst (pc := 28) (nI 5) (DX12_mayStand_0.at 19 rfl) ci_5 ?_
    refine gk_iload (pc := 29) (DX12_mayStand_0.at 20 rfl) 4 rfl ?_
    refine gk_iload_n (pc := 31) (DX12_mayStand_0.at 21 rfl) 3 rfl rfl ?_
    obtain ⟨⟨fs2, q2⟩, hv⟩ := hv
    refine gk_vV (pc := 32) [.int (nI 5), .int x4, .int x3] [.int v1, .ref o] (DX12_mayStand_0.at 22 rfl) cvX12_158 q2 rfl rfl (Nat.le_of_ble_eq_true rfl) (Nat.le_of_ble_eq_true rfl) (gk_Run.post (fun o h2 z => ?_) hv)
    obtain ⟨v2, rfl, hv⟩ := z
    refine gk_iload_n (pc := 35) (DX12_mayStand_0.at 23 rfl) 2 rfl rfl ?_
    obtain ⟨⟨fs3, q3⟩, hv⟩ := hv
    refine gk_vV (pc := 36) [.int v1, .int v2, .int x2] [] (DX12_mayStand_0.at 24 rfl) cvX12_105 q3 rfl rfl (Nat.le_of_ble_eq_true rfl) (Nat.le_of_ble_eq_true rfl) (gk_Run.post (fun o h3 z => ?_) hv)
    obtain ⟨v3, rfl, hv⟩ := z
    refine gk_if_ne (pc := 39) 44 (DX12_mayStand_0.at 25 rfl) (by decide) (fun c => ?_) (fun c => ?_)
    · replace hv := hv.1 c
      refine gk_iinc (pc := 44) (x4 + nI 1) [(4, .int (x4 + nI 1)), (0, .ref o), (1, .int x1), (2, .int x2), (3, .int x3)] 4 (DX12_mayStand_0.at 28 rfl) rfl (by rw [ci_1]) (Nat.le_of_ble_eq_true rfl) rfl ?_
      refine gk_goto (pc := 47) 12 (DX12_mayStand_0.at 29 rfl) (by decide) ?_
      exact gk_pick (pc := 12) [(0, .ref o), (1, .int x1), (2, .int x2), (3, .int x3), (4, .int (x4 + nI 1))] [1, 2, 3, 4, 0] rfl hv
    · replace hv := hv.2 c
      refine gk_iconst (pc := 42) (nI 0) (DX12_mayStand_0.at 26 rfl) ci_0 ?_
      exact gk_ireturn (pc := 43) .boolean (DX12_mayStand_0.at 27 rfl) rfl rfl ⟨_, rfl, hv⟩
set_option maxHeartbeats 4000000 in
theorem vX12_node_0 {E : gk_E} {dd : Nat} {o : Nat} {x1 : Int32} {x2 : Int32}  {h : gk_H} {K : Int32 → gk_H → Prop} (hv : RnI E mX12_isNet (dd, 0, 0) [.int x1] h (fun v1 h1 => (¬ v1 = 0 → LdR h1 o 11 3 fun v2 => AlI h1 v2 x1 fun v3 => (¬ v3 = (nI 6) → (∃ fs, h1[o]? = some (.inr (11, fs))) ∧ RnI E mX12_areAtoms (dd, 0, 0) [.ref o, .int x1, .int x2] h1 (fun v4 h4 => (¬ v4 = 0 → (∃ fs, h4[o]? = some (.inr (11, fs))) ∧ RnV E mX12_comes (dd, 0, 0) [.ref o, .int x1, .int x2] h4 (fun h5 => LdR h5 o 11 3 fun v6 => AlI h5 v6 x1 fun v7 => K (v7 - (nI 1)) h5)) ∧ (v4 = 0 → K ((-2)) h4))) ∧ (v3 = (nI 6) → K ((-4)) h1)) ∧ (v1 = 0 → K ((-1)) h1))) : RnI E mX12_node (dd + 1, 0, 0) [.ref o, .int x1, .int x2] h K := by
  show gk_G E mX12_node (dd + 1, 0, 0) 0 [(0, .ref o), (1, .int x1), (2, .int x2)] [] h (fun o h1 => ∃ v, o = some (.int v) ∧ K v h1)
  refine gk_iload_n (pc := 0) (DX12_node_0.at 0 rfl) 1 rfl rfl ?_
  refine gk_vS (pc := 1) [.int x1] [] (DX12_node_0.at 1 rfl) csX12_145 rfl rfl (Nat.le_of_ble_eq_true rfl) (Nat.le_of_ble_eq_true rfl) (gk_Run.post (fun o h1 z => ?_) hv)
  obtain ⟨v1, rfl, hv⟩ := z
  refine gk_if_ne (pc := 4) 9 (DX12_node_0.at 2 rfl) (by decide) (fun c => ?_) (fun c => ?_)
  · replace hv := hv.1 c
    refine gk_aload_n (pc := 9) (DX12_node_0.at 5 rfl) 0 rfl rfl ?_
    obtain ⟨fs2, v2, q2, r2, hv⟩ := hv
    refine gk_get (pc := 10) (.ref v2) (DX12_node_0.at 6 rfl) fX12_23_11 q2 r2 ?_
    refine gk_iload_n (pc := 13) (DX12_node_0.at 7 rfl) 1 rfl rfl ?_
    obtain ⟨n3, f3, q3, r3, hv⟩ := hv
    refine gk_iald (pc := 14) (DX12_node_0.at 8 rfl) q3 r3 ?_
    generalize f3 _ = v3 at hv ⊢
    refine gk_bipush (pc := 15) (nI 6) (DX12_node_0.at 9 rfl) cb_6 ?_
    refine gk_icmp_ne (pc := 17) 23 (DX12_node_0.at 10 rfl) (by decide) (fun c => ?_) (fun c => ?_)
    · replace hv := hv.1 c
      refine gk_aload_n (pc := 23) (DX12_node_0.at 13 rfl) 0 rfl rfl ?_
      refine gk_iload_n (pc := 24) (DX12_node_0.at 14 rfl) 1 rfl rfl ?_
      refine gk_iload_n (pc := 25) (DX12_node_0.at 15 rfl) 2 rfl rfl ?_
      obtain ⟨⟨fs4, q4⟩, hv⟩ := hv
      refine gk_vV (pc := 26) [.int x1, .int x2] [] (DX12_node_0.at 16 rfl) cvX12_148 q4 rfl rfl (Nat.le_of_ble_eq_true rfl) (Nat.le_of_ble_eq_true rfl) (gk_Run.post (fun o h4 z => ?_) hv)
      obtain ⟨v4, rfl, hv⟩ := z
      refine gk_if_ne (pc := 29) 35 (DX12_node_0.at 17 rfl) (by decide) (fun c => ?_) (fun c => ?_)
      · replace hv := hv.1 c
        refine gk_aload_n (pc := 35) (DX12_node_0.at 20 rfl) 0 rfl rfl ?_
        refine gk_iload_n (pc := 36) (DX12_node_0.at 21 rfl) 1 rfl rfl ?_
        refine gk_iload_n (pc := 37) (DX12_node_0.at 22 rfl) 2 rfl rfl ?_
        obtain ⟨⟨fs5, q5⟩, hv⟩ := hv
        refine gk_vV (pc := 38) [.int x1, .int x2] [] (DX12_node_0.at 23 rfl) cvX12_151 q5 rfl rfl (Nat.le_of_ble_eq_true rfl) (Nat.le_of_ble_eq_true rfl) (gk_Run.post (fun o h5 z => ?_) hv)
        obtain ⟨rfl, hv⟩ := z
        refine gk_aload_n (pc := 41) (DX12_node_0.at 24 rfl) 0 rfl rfl ?_
        obtain ⟨fs6, v6, q6, r6, hv⟩ := hv
        refine gk_get (pc := 42) (.ref v6) (DX12_node_0.at 25 rfl) fX12_23_11 q6 r6 ?_
        refine gk_iload_n (pc := 45) (DX12_node_0.at 26 rfl) 1 rfl rfl ?_
        obtain ⟨n7, f7, q7, r7, hv⟩ := hv
        refine gk_iald (pc := 46) (DX12_node_0.at 27 rfl) q7 r7 ?_
        generalize f7 _ = v7 at hv ⊢
        refine gk_iconst (pc := 47) (nI 1) (DX12_node_0.at 28 rfl) ci_1 ?_
        refine gk_isub (pc := 48) (DX12_node_0.at 29 rfl) ?_
        exact gk_ireturn (pc := 49) .int (DX12_node_0.at 30 rfl) rfl rfl ⟨_, rfl, hv⟩
      · replace hv := hv.2 c
        refine gk_bipush (pc := 32) ((-2)) (DX12_node_0.at 18 rfl) cb_m2 ?_
        exact gk_ireturn (pc := 34) .int (DX12_node_0.at 19 rfl) rfl rfl ⟨_, rfl, hv⟩
    · replace hv := hv.2 c
      refine gk_bipush (pc := 20) ((-4)) (DX12_node_0.at 11 rfl) cb_m4 ?_
      exact gk_ireturn (pc := 22) .int (DX12_node_0.at 12 rfl) rfl rfl ⟨_, rfl, hv⟩
  · replace hv := hv.2 c
    refine gk_iconst (pc := 7) ((-1)) (DX12_node_0.at 3 rfl) ci_m1 ?_
    exact gk_ireturn (pc := 8) .int (DX12_node_0.at 4 rfl) rfl rfl ⟨_, rfl, hv⟩
set_option maxHeartbeats 4000000 in
theorem vX12_occurs_0 {E : gk_E} {dd : Nat} {o : Nat} {x1 : Int32} {x2 : Int32} {x3 : Int32}  {h : gk_H} {K : Int32 → gk_H → Prop} (hv : RnI E mX12_isNet (dd, 0, 0) [.int x1] h (fun v1 h1 => (v1 = 0 → K ((-1)) h1) ∧ (¬ v1 = 0 → RnI E mX12_isNet (dd, 0, 0) [.int x2] h1 (fun v2 h2 => (v2 = 0 → K ((-1)) h2) ∧ (¬ v2 = 0 → (((-1)) ≤ x3 → (∃ fs, h2[o]? = some (.inr (11, fs))) ∧ RnV E mX12_looks (dd, 0, 0) [.ref o, .int x1, .int x2, .int x3] h2 (fun h3 => (¬ x3 = ((-1)) → LdI h3 o 11 12 fun v4 => (¬ v4 = ((-5)) → LdI h3 o 11 12 fun v5 => K v5 h3) ∧ (v4 = ((-5)) → K ((-1)) h3)) ∧ (x3 = ((-1)) → LdI h3 o 11 10 fun v6 => K v6 h3))) ∧ (¬ ((-1)) ≤ x3 → K ((-1)) h2)))))) : RnI E mX12_occurs (dd + 1, 0, 0) [.ref o, .int x1, .int x2, .int x3] h K := by
  show gk_G E mX12_occurs (dd + 1, 0, 0) 0 [(0, .ref o), (1, .int x1), (2, .int x2), (3, .int x3)] [] h (fun o h1 => ∃ v, o = some (.int v) ∧ K v h1)
  refine gk_iload_n (pc := 0) (DX12_occurs_0.at 0 rfl) 1 rfl rfl ?_
  refine gk_vS (pc := 1) [.int x1] [] (DX12_occurs_0.at 1 rfl) csX12_145 rfl rfl (Nat.le_of_ble_eq_true rfl) (Nat.le_of_ble_eq_true rfl) (gk_Run.post (fun o h1 z => ?_) hv)
  obtain ⟨v1, rfl, hv⟩ := z
  refine gk_if_eq (pc := 4) 19 (DX12_occurs_0.at 2 rfl) (by decide) (fun c => ?_) (fun c => ?_)
  · replace hv := hv.1 c
    refine gk_iconst (pc := 19) ((-1)) (DX12_occurs_0.at 9 rfl) ci_m1 ?_
    exact gk_ireturn (pc := 20) .int (DX12_occurs_0.at 10 rfl) rfl rfl ⟨_, rfl, hv⟩
  · replace hv := hv.2 c
    refine gk_iload_n (pc := 7) (DX12_occurs_0.at 3 rfl) 2 rfl rfl ?_
    refine gk_vS (pc := 8) [.int x2] [] (DX12_occurs_0.at 4 rfl) csX12_145 rfl rfl (Nat.le_of_ble_eq_true rfl) (Nat.le_of_ble_eq_true rfl) (gk_Run.post (fun o h2 z => ?_) hv)
    obtain ⟨v2, rfl, hv⟩ := z
    refine gk_if_eq (pc := 11) 19 (DX12_occurs_0.at 5 rfl) (by decide) (fun c => ?_) (fun c => ?_)
    · replace hv := hv.1 c
      refine gk_iconst (pc := 19) ((-1)) (DX12_occurs_0.at 9 rfl) ci_m1 ?_
      exact gk_ireturn (pc := 20) .int (DX12_occurs_0.at 10 rfl) rfl rfl ⟨_, rfl, hv⟩
    · replace hv := hv.2 c
      refine gk_iload_n (pc := 14) (DX12_occurs_0.at 6 rfl) 3 rfl rfl ?_
      refine gk_iconst (pc := 15) ((-1)) (DX12_occurs_0.at 7 rfl) ci_m1 ?_
      refine gk_icmp_ge (pc := 16) 21 (DX12_occurs_0.at 8 rfl) (by decide) (fun c => ?_) (fun c => ?_)
      · replace hv := hv.1 c
        refine gk_aload_n (pc := 21) (DX12_occurs_0.at 11 rfl) 0 rfl rfl ?_
        refine gk_iload_n (pc := 22) (DX12_occurs_0.at 12 rfl) 1 rfl rfl ?_
        refine gk_iload_n (pc := 23) (DX12_occurs_0.at 13 rfl) 2 rfl rfl ?_
        refine gk_iload_n (pc := 24) (DX12_occurs_0.at 14 rfl) 3 rfl rfl ?_
        obtain ⟨⟨fs3, q3⟩, hv⟩ := hv
        refine gk_vV (pc := 25) [.int x1, .int x2, .int x3] [] (DX12_occurs_0.at 15 rfl) cvX12_189 q3 rfl rfl (Nat.le_of_ble_eq_true rfl) (Nat.le_of_ble_eq_true rfl) (gk_Run.post (fun o h3 z => ?_) hv)
        obtain ⟨rfl, hv⟩ := z
        refine gk_iload_n (pc := 28) (DX12_occurs_0.at 16 rfl) 3 rfl rfl ?_
        refine gk_iconst (pc := 29) ((-1)) (DX12_occurs_0.at 17 rfl) ci_m1 ?_
        refine gk_icmp_ne (pc := 30) 40 (DX12_occurs_0.at 18 rfl) (by decide) (fun c => ?_) (fun c => ?_)
        · replace hv := hv.1 c
          refine gk_aload_n (pc := 40) (DX12_occurs_0.at 22 rfl) 0 rfl rfl ?_
          obtain ⟨fs4, v4, q4, r4, hv⟩ := hv
          refine gk_get (pc := 41) (.int v4) (DX12_occurs_0.at 23 rfl) fX12_180_11 q4 r4 ?_
          refine gk_bipush (pc := 44) ((-5)) (DX12_occurs_0.at 24 rfl) cb_m5 ?_
          refine gk_icmp_ne (pc := 46) 53 (DX12_occurs_0.at 25 rfl) (by decide) (fun c => ?_) (fun c => ?_)
          · replace hv := hv.1 c
            refine gk_aload_n (pc := 53) (DX12_occurs_0.at 28 rfl) 0 rfl rfl ?_
            obtain ⟨fs5, v5, q5, r5, hv⟩ := hv
            refine gk_get (pc := 54) (.int v5) (DX12_occurs_0.at 29 rfl) fX12_180_11 q5 r5 ?_
            exact gk_ireturn (pc := 57) .int (DX12_occurs_0.at 30 rfl) rfl rfl ⟨_, rfl, hv⟩
          · replace hv := hv.2 c
            refine gk_iconst (pc := 49) ((-1)) (DX12_occurs_0.at 26 rfl) ci_m1 ?_
            refine gk_goto (pc := 50) 57 (DX12_occurs_0.at 27 rfl) (by decide) ?_
            exact gk_ireturn (pc := 57) .int (DX12_occurs_0.at 30 rfl) rfl rfl ⟨_, rfl, hv⟩
        · replace hv := hv.2 c
          refine gk_aload_n (pc := 33) (DX12_occurs_0.at 19 rfl) 0 rfl rfl ?_
          obtain ⟨fs6, v6, q6, r6, hv⟩ := hv
          refine gk_get (pc := 34) (.int v6) (DX12_occurs_0.at 20 rfl) fX12_174_11 q6 r6 ?_
          refine gk_goto (pc := 37) 57 (DX12_occurs_0.at 21 rfl) (by decide) ?_
          exact gk_ireturn (pc := 57) .int (DX12_occurs_0.at 30 rfl) rfl rfl ⟨_, rfl, hv⟩
      · replace hv := hv.2 c
        refine gk_iconst (pc := 19) ((-1)) (DX12_occurs_0.at 9 rfl) ci_m1 ?_
        exact gk_ireturn (pc := 20) .int (DX12_occurs_0.at 10 rfl) rfl rfl ⟨_, rfl, hv⟩
abbrev pX12_over_35 (E : gk_E) (dd : Nat) (o : Nat) (x1 : Int32) (x2 : Int32) (x3 : Int32) (x4 : Int32) (x5 : Int32) (h : gk_H) (K : Int32 → gk_H → Prop) : Prop := gk_G E mX12_over (dd + 1, 0, 0) 35 [(0, .ref o), (1, .int x1), (2, .int x2), (3, .int x3), (4, .int x4), (5, .int x5)] [] h (fun o h1 => ∃ v, o = some (.int v) ∧ K v h1)
set_option maxHeartbeats 4000000 in
theorem vX12_over_0 {E : gk_E} {dd : Nat} {o : Nat} {x1 : Int32} {x2 : Int32} {x3 : Int32}  {h : gk_H} {K : Int32 → gk_H → Prop} (hv : (∃ fs, h[o]? = some (.inr (11, fs))) ∧ RnI E mX12_isRelation (dd, 0, 0) [.ref o, .int x1] h (fun v1 h1 => (v1 = 0 → K ((-2)) h1) ∧ (¬ v1 = 0 → (∃ fs, h1[o]? = some (.inr (11, fs))) ∧ RnI E mX12_isRelation (dd, 0, 0) [.ref o, .int x2] h1 (fun v2 h2 => (v2 = 0 → K ((-2)) h2) ∧ (¬ v2 = 0 → RnI E mX12_isFrom (dd, 0, 0) [.long x3.toInt64, .long (lN 0), .long (lN 1)] h2 (fun v3 h3 => (¬ v3 = 0 → pX12_over_35 E dd o x1 x2 x3 (nI 0) (nI 0) h3 K) ∧ (v3 = 0 → K ((-2)) h3))))))) : RnI E mX12_over (dd + 1, 0, 0) [.ref o, .int x1, .int x2, .int x3] h K := by
  show gk_G E mX12_over (dd + 1, 0, 0) 0 [(0, .ref o), (1, .int x1), (2, .int x2), (3, .int x3)] [] h (fun o h1 => ∃ v, o = some (.int v) ∧ K v h1)
  refine gk_aload_n (pc := 0) (DX12_over_0.at 0 rfl) 0 rfl rfl ?_
  refine gk_iload_n (pc := 1) (DX12_over_0.at 1 rfl) 1 rfl rfl ?_
  obtain ⟨⟨fs1, q1⟩, hv⟩ := hv
  refine gk_vV (pc := 2) [.int x1] [] (DX12_over_0.at 2 rfl) cvX12_91 q1 rfl rfl (Nat.le_of_ble_eq_true rfl) (Nat.le_of_ble_eq_true rfl) (gk_Run.post (fun o h1 z => ?_) hv)
  obtain ⟨v1, rfl, hv⟩ := z
  refine gk_if_eq (pc := 5) 26 (DX12_over_0.at 3 rfl) (by decide) (fun c => ?_) (fun c => ?_)
  · replace hv := hv.1 c
    refine gk_bipush (pc := 26) ((-2)) (DX12_over_0.at 14 rfl) cb_m2 ?_
    exact gk_ireturn (pc := 28) .int (DX12_over_0.at 15 rfl) rfl rfl ⟨_, rfl, hv⟩
  · replace hv := hv.2 c
    refine gk_aload_n (pc := 8) (DX12_over_0.at 4 rfl) 0 rfl rfl ?_
    refine gk_iload_n (pc := 9) (DX12_over_0.at 5 rfl) 2 rfl rfl ?_
    obtain ⟨⟨fs2, q2⟩, hv⟩ := hv
    refine gk_vV (pc := 10) [.int x2] [] (DX12_over_0.at 6 rfl) cvX12_91 q2 rfl rfl (Nat.le_of_ble_eq_true rfl) (Nat.le_of_ble_eq_true rfl) (gk_Run.post (fun o h2 z => ?_) hv)
    obtain ⟨v2, rfl, hv⟩ := z
    refine gk_if_eq (pc := 13) 26 (DX12_over_0.at 7 rfl) (by decide) (fun c => ?_) (fun c => ?_)
    · replace hv := hv.1 c
      refine gk_bipush (pc := 26) ((-2)) (DX12_over_0.at 14 rfl) cb_m2 ?_
      exact gk_ireturn (pc := 28) .int (DX12_over_0.at 15 rfl) rfl rfl ⟨_, rfl, hv⟩
    · replace hv := hv.2 c
      refine gk_iload_n (pc := 16) (DX12_over_0.at 8 rfl) 3 rfl rfl ?_
      refine gk_i2l (pc := 17) (DX12_over_0.at 9 rfl) ?_
      refine gk_lconst (pc := 18) (lN 0) (DX12_over_0.at 10 rfl) rfl ?_
      refine gk_lconst (pc := 19) (lN 1) (DX12_over_0.at 11 rfl) rfl ?_
      refine gk_vS (pc := 20) [.long x3.toInt64, .long (lN 0), .long (lN 1)] [] (DX12_over_0.at 12 rfl) csX12_70 rfl rfl (Nat.le_of_ble_eq_true rfl) (Nat.le_of_ble_eq_true rfl) (gk_Run.post (fun o h3 z => ?_) hv)
      obtain ⟨v3, rfl, hv⟩ := z
      refine gk_if_ne (pc := 23) 29 (DX12_over_0.at 13 rfl) (by decide) (fun c => ?_) (fun c => ?_)
      · replace hv := hv.1 c
        refine gk_iconst (pc := 29) (nI 0) (DX12_over_0.at 16 rfl) ci_0 ?_
        refine gk_istore (pc := 30) [(4, .int (nI 0)), (0, .ref o), (1, .int x1), (2, .int x2), (3, .int x3)] (DX12_over_0.at 17 rfl) (Nat.le_of_ble_eq_true rfl) rfl ?_
        refine gk_iconst (pc := 32) (nI 0) (DX12_over_0.at 18 rfl) ci_0 ?_
        refine gk_istore (pc := 33) [(5, .int (nI 0)), (4, .int (nI 0)), (0, .ref o), (1, .int x1), (2, .int x2), (3, .int x3)] (DX12_over_0.at 19 rfl) (Nat.le_of_ble_eq_true rfl) rfl ?_
        exact gk_pick (pc := 35) [(0, .ref o), (1, .int x1), (2, .int x2), (3, .int x3), (4, .int (nI 0)), (5, .int (nI 0))] [2, 3, 4, 5, 1, 0] rfl hv
      · replace hv := hv.2 c
        refine gk_bipush (pc := 26) ((-2)) (DX12_over_0.at 14 rfl) cb_m2 ?_
        exact gk_ireturn (pc := 28) .int (DX12_over_0.at 15 rfl) rfl rfl ⟨_, rfl, hv⟩
set_option maxHeartbeats 4000000 in
theorem vX12_over_35 {E : gk_E} {dd : Nat} {o : Nat} {x1 : Int32} {x2 : Int32} {x3 : Int32} {x4 : Int32} {x5 : Int32}  {h : gk_H} {K : Int32 → gk_H → Prop} (hv : LdI h o 11 0 fun v1 => (v1 ≤ x5 → K x4 h) ∧ (¬ v1 ≤ x5 → (∃ fs, h[o]? = some (.inr (11, fs))) ∧ RnI E mX12_composedBy (dd, 0, 0) [.ref o, .int ((nI 1) <<< (x5 &&& 31)), .int x2, .int x3] h (fun v2 h2 => (¬ (v2 &&& (x1 ^^^ ((-1)))) = 0 → pX12_over_35 E dd o x1 x2 x3 (x4 ||| (nI 0)) (x5 + nI 1) h2 K) ∧ ((v2 &&& (x1 ^^^ ((-1)))) = 0 → pX12_over_35 E dd o x1 x2 x3 (x4 ||| ((nI 1) <<< (x5 &&& 31))) (x5 + nI 1) h2 K)))) : pX12_over_35 E dd o x1 x2 x3 x4 x5 h K := by
  show gk_G E mX12_over (dd + 1, 0, 0) 35 [(0, .ref o), (1, .int x1), (2, .int x2), (3, .int x3), (4, .int x4), (5, .int x5)] [] h (fun o h1 => ∃ v, o = some (.int v) ∧ K v h1)
  refine gk_iload (pc := 35) (DX12_over_0.at 20 rfl) 5 rfl ?_
  refine gk_aload_n (pc := 37) (DX12_over_0.at 21 rfl) 0 rfl rfl ?_
  obtain ⟨fs1, v1, q1, r1, hv⟩ := hv
  refine gk_get (pc := 38) (.int v1) (DX12_over_0.at 22 rfl) fX12_9_11 q1 r1 ?_
  refine gk_icmp_ge (pc := 41) 80 (DX12_over_0.at 23 rfl) (by decide) (fun c => ?_) (fun c => ?_)
  · replace hv := hv.1 c
    refine gk_iload (pc := 80) (DX12_over_0.at 46 rfl) 4 rfl ?_
    exact gk_ireturn (pc := 82) .int (DX12_over_0.at 47 rfl) rfl rfl ⟨_, rfl, hv⟩
  · replace hv := hv.2 c
    refine gk_iload (pc := 44) (DX12_over_0.at 24 rfl) 4 rfl ?_
    refine gk_aload_n (pc := 46) (DX12_over_0.at 25 rfl) 0 rfl rfl ?_
    refine gk_iconst (pc := 47) (nI 1) (DX12_over_0.at 26 rfl) ci_1 ?_
    refine gk_iload (pc := 48) (DX12_over_0.at 27 rfl) 5 rfl ?_
    refine gk_ishl (pc := 50) (DX12_over_0.at 28 rfl) ?_
    refine gk_iload_n (pc := 51) (DX12_over_0.at 29 rfl) 2 rfl rfl ?_
    refine gk_iload_n (pc := 52) (DX12_over_0.at 30 rfl) 3 rfl rfl ?_
    obtain ⟨⟨fs2, q2⟩, hv⟩ := hv
    refine gk_vV (pc := 53) [.int ((nI 1) <<< (x5 &&& 31)), .int x2, .int x3] [.int x4] (DX12_over_0.at 31 rfl) cvX12_113 q2 rfl rfl (Nat.le_of_ble_eq_true rfl) (Nat.le_of_ble_eq_true rfl) (gk_Run.post (fun o h2 z => ?_) hv)
    obtain ⟨v2, rfl, hv⟩ := z
    refine gk_iload_n (pc := 56) (DX12_over_0.at 32 rfl) 1 rfl rfl ?_
    refine gk_iconst (pc := 57) ((-1)) (DX12_over_0.at 33 rfl) ci_m1 ?_
    refine gk_ixor (pc := 58) (DX12_over_0.at 34 rfl) ?_
    refine gk_iand (pc := 59) (DX12_over_0.at 35 rfl) ?_
    refine gk_if_ne (pc := 60) 70 (DX12_over_0.at 36 rfl) (by decide) (fun c => ?_) (fun c => ?_)
    · replace hv := hv.1 c
      refine gk_iconst (pc := 70) (nI 0) (DX12_over_0.at 41 rfl) ci_0 ?_
      refine gk_ior (pc := 71) (DX12_over_0.at 42 rfl) ?_
      refine gk_istore (pc := 72) [(4, .int (x4 ||| (nI 0))), (0, .ref o), (1, .int x1), (2, .int x2), (3, .int x3), (5, .int x5)] (DX12_over_0.at 43 rfl) (Nat.le_of_ble_eq_true rfl) rfl ?_
      refine gk_iinc (pc := 74) (x5 + nI 1) [(5, .int (x5 + nI 1)), (4, .int (x4 ||| (nI 0))), (0, .ref o), (1, .int x1), (2, .int x2), (3, .int x3)] 5 (DX12_over_0.at 44 rfl) rfl (by rw [ci_1]) (Nat.le_of_ble_eq_true rfl) rfl ?_
      refine gk_goto (pc := 77) 35 (DX12_over_0.at 45 rfl) (by decide) ?_
      exact gk_pick (pc := 35) [(0, .ref o), (1, .int x1), (2, .int x2), (3, .int x3), (4, .int (x4 ||| (nI 0))), (5, .int (x5 + nI 1))] [2, 3, 4, 5, 1, 0] rfl hv
    · replace hv := hv.2 c
      refine gk_iconst (pc := 63) (nI 1) (DX12_over_0.at 37 rfl) ci_1 ?_
      refine gk_iload (pc := 64) (DX12_over_0.at 38 rfl) 5 rfl ?_
      refine gk_ishl (pc := 66) (DX12_over_0.at 39 rfl) ?_
      refine gk_goto (pc := 67) 71 (DX12_over_0.at 40 rfl) (by decide) ?_
      refine gk_ior (pc := 71) (DX12_over_0.at 42 rfl) ?_
      refine gk_istore (pc := 72) [(4, .int (x4 ||| ((nI 1) <<< (x5 &&& 31)))), (0, .ref o), (1, .int x1), (2, .int x2), (3, .int x3), (5, .int x5)] (DX12_over_0.at 43 rfl) (Nat.le_of_ble_eq_true rfl) rfl ?_
      refine gk_iinc (pc := 74) (x5 + nI 1) [(5, .int (x5 + nI 1)), (4, .int (x4 ||| ((nI 1) <<< (x5 &&& 31)))), (0, .ref o), (1, .int x1), (2, .int x2), (3, .int x3)] 5 (DX12_over_0.at 44 rfl) rfl (by rw [ci_1]) (Nat.le_of_ble_eq_true rfl) rfl ?_
      refine gk_goto (pc := 77) 35 (DX12_over_0.at 45 rfl) (by decide) ?_
      exact gk_pick (pc := 35) [(0, .ref o), (1, .int x1), (2, .int x2), (3, .int x3), (4, .int (x4 ||| ((nI 1) <<< (x5 &&& 31)))), (5, .int (x5 + nI 1))] [2, 3, 4, 5, 1, 0] rfl hv
