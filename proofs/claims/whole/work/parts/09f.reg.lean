abbrev pX12_answer_58 (E : gk_E) (dd : Nat) (o : Nat) (x1 : Int32) (x2 : Int32) (x3 : Int32) (h : gk_H) (K : Int32 → gk_H → Prop) : Prop := gk_G E mX12_answer (dd + 1, 0, 0) 58 [(0, .ref o), (1, .int x1), (2, .int x2), (3, .int x3)] [] h (fun o h1 => ∃ v, o = some (.int v) ∧ K v h1)
abbrev pX12_answer_123 (E : gk_E) (dd : Nat) (o : Nat) (x1 : Int32) (x2 : Int32) (x3 : Int32) (x4 : Int32) (h : gk_H) (K : Int32 → gk_H → Prop) : Prop := gk_G E mX12_answer (dd + 1, 0, 0) 123 [(0, .ref o), (1, .int x1), (2, .int x2), (3, .int x3), (4, .int x4)] [] h (fun o h1 => ∃ v, o = some (.int v) ∧ K v h1)
set_option maxHeartbeats 4000000 in
theorem vX12_answer_0 {E : gk_E} {dd : Nat} {o : Nat} {x1 : Int32}  {h : gk_H} {K : Int32 → gk_H → Prop} (hv : LdI h o 11 6 fun v1 => (v1 = 0 → K ((-3)) h) ∧ (¬ v1 = 0 → LdI h o 11 8 fun v2 => (¬ v2 = 0 → LdR h o 11 3 fun v3 => AlI h v3 (nI 4) fun v4 => (¬ v4 = (nI 6) → LdR h o 11 7 fun v5 => AlI h v5 (nI 0) fun v6 => (∃ fs, h[o]? = some (.inr (11, fs))) ∧ RnI E mX12_isFillOf (dd, 0, 0) [.ref o, .int v6, .int x1] h (fun v7 h7 => (¬ v7 = 0 → (∃ fs, h7[o]? = some (.inr (11, fs))) ∧ RnV E mX12_comes (dd, 0, 0) [.ref o, .int (nI 4), .int x1] h7 (fun h8 => pX12_answer_58 E dd o x1 (nI 0) (nI 0) h8 K)) ∧ (v7 = 0 → K ((-5)) h7))) ∧ (v4 = (nI 6) → K ((-4)) h)) ∧ (v2 = 0 → K ((-3)) h))) : RnI E mX12_answer (dd + 1, 0, 0) [.ref o, .int x1] h K := by
  show gk_G E mX12_answer (dd + 1, 0, 0) 0 [(0, .ref o), (1, .int x1)] [] h (fun o h1 => ∃ v, o = some (.int v) ∧ K v h1)
  refine gk_aload_n (pc := 0) (DX12_answer_0.at 0 rfl) 0 rfl rfl ?_
  obtain ⟨fs1, v1, q1, r1, hv⟩ := hv
  refine gk_get (pc := 1) (.int v1) (DX12_answer_0.at 1 rfl) fX12_78_11 q1 r1 ?_
  refine gk_if_eq (pc := 4) 14 (DX12_answer_0.at 2 rfl) (by decide) (fun c => ?_) (fun c => ?_)
  · replace hv := hv.1 c
    refine gk_bipush (pc := 14) ((-3)) (DX12_answer_0.at 6 rfl) cb_m3 ?_
    exact gk_ireturn (pc := 16) .int (DX12_answer_0.at 7 rfl) rfl rfl ⟨_, rfl, hv⟩
  · replace hv := hv.2 c
    refine gk_aload_n (pc := 7) (DX12_answer_0.at 3 rfl) 0 rfl rfl ?_
    obtain ⟨fs2, v2, q2, r2, hv⟩ := hv
    refine gk_get (pc := 8) (.int v2) (DX12_answer_0.at 4 rfl) fX12_226_11 q2 r2 ?_
    refine gk_if_ne (pc := 11) 17 (DX12_answer_0.at 5 rfl) (by decide) (fun c => ?_) (fun c => ?_)
    · replace hv := hv.1 c
      refine gk_aload_n (pc := 17) (DX12_answer_0.at 8 rfl) 0 rfl rfl ?_
      obtain ⟨fs3, v3, q3, r3, hv⟩ := hv
      refine gk_get (pc := 18) (.ref v3) (DX12_answer_0.at 9 rfl) fX12_23_11 q3 r3 ?_
      refine gk_iconst (pc := 21) (nI 4) (DX12_answer_0.at 10 rfl) ci_4 ?_
      obtain ⟨n4, f4, q4, r4, hv⟩ := hv
      refine gk_iald (pc := 22) (DX12_answer_0.at 11 rfl) q4 r4 ?_
      generalize f4 _ = v4 at hv ⊢
      refine gk_bipush (pc := 23) (nI 6) (DX12_answer_0.at 12 rfl) cb_6 ?_
      refine gk_icmp_ne (pc := 25) 31 (DX12_answer_0.at 13 rfl) (by decide) (fun c => ?_) (fun c => ?_)
      · replace hv := hv.1 c
        refine gk_aload_n (pc := 31) (DX12_answer_0.at 16 rfl) 0 rfl rfl ?_
        refine gk_aload_n (pc := 32) (DX12_answer_0.at 17 rfl) 0 rfl rfl ?_
        obtain ⟨fs5, v5, q5, r5, hv⟩ := hv
        refine gk_get (pc := 33) (.ref v5) (DX12_answer_0.at 18 rfl) fX12_29_11 q5 r5 ?_
        refine gk_iconst (pc := 36) (nI 0) (DX12_answer_0.at 19 rfl) ci_0 ?_
        obtain ⟨n6, f6, q6, r6, hv⟩ := hv
        refine gk_iald (pc := 37) (DX12_answer_0.at 20 rfl) q6 r6 ?_
        generalize f6 _ = v6 at hv ⊢
        refine gk_iload_n (pc := 38) (DX12_answer_0.at 21 rfl) 1 rfl rfl ?_
        obtain ⟨⟨fs7, q7⟩, hv⟩ := hv
        refine gk_vV (pc := 39) [.int v6, .int x1] [] (DX12_answer_0.at 22 rfl) cvX12_232 q7 rfl rfl (Nat.le_of_ble_eq_true rfl) (Nat.le_of_ble_eq_true rfl) (gk_Run.post (fun o h7 z => ?_) hv)
        obtain ⟨v7, rfl, hv⟩ := z
        refine gk_if_ne (pc := 42) 48 (DX12_answer_0.at 23 rfl) (by decide) (fun c => ?_) (fun c => ?_)
        · replace hv := hv.1 c
          refine gk_aload_n (pc := 48) (DX12_answer_0.at 26 rfl) 0 rfl rfl ?_
          refine gk_iconst (pc := 49) (nI 4) (DX12_answer_0.at 27 rfl) ci_4 ?_
          refine gk_iload_n (pc := 50) (DX12_answer_0.at 28 rfl) 1 rfl rfl ?_
          obtain ⟨⟨fs8, q8⟩, hv⟩ := hv
          refine gk_vV (pc := 51) [.int (nI 4), .int x1] [] (DX12_answer_0.at 29 rfl) cvX12_151 q8 rfl rfl (Nat.le_of_ble_eq_true rfl) (Nat.le_of_ble_eq_true rfl) (gk_Run.post (fun o h8 z => ?_) hv)
          obtain ⟨rfl, hv⟩ := z
          refine gk_iconst (pc := 54) (nI 0) (DX12_answer_0.at 30 rfl) ci_0 ?_
          refine gk_istore_n (pc := 55) [(2, .int (nI 0)), (0, .ref o), (1, .int x1)] (DX12_answer_0.at 31 rfl) rfl (Nat.le_of_ble_eq_true rfl) rfl ?_
          refine gk_iconst (pc := 56) (nI 0) (DX12_answer_0.at 32 rfl) ci_0 ?_
          refine gk_istore_n (pc := 57) [(3, .int (nI 0)), (2, .int (nI 0)), (0, .ref o), (1, .int x1)] (DX12_answer_0.at 33 rfl) rfl (Nat.le_of_ble_eq_true rfl) rfl ?_
          exact gk_pick (pc := 58) [(0, .ref o), (1, .int x1), (2, .int (nI 0)), (3, .int (nI 0))] [2, 3, 1, 0] rfl hv
        · replace hv := hv.2 c
          refine gk_bipush (pc := 45) ((-5)) (DX12_answer_0.at 24 rfl) cb_m5 ?_
          exact gk_ireturn (pc := 47) .int (DX12_answer_0.at 25 rfl) rfl rfl ⟨_, rfl, hv⟩
      · replace hv := hv.2 c
        refine gk_bipush (pc := 28) ((-4)) (DX12_answer_0.at 14 rfl) cb_m4 ?_
        exact gk_ireturn (pc := 30) .int (DX12_answer_0.at 15 rfl) rfl rfl ⟨_, rfl, hv⟩
    · replace hv := hv.2 c
      refine gk_bipush (pc := 14) ((-3)) (DX12_answer_0.at 6 rfl) cb_m3 ?_
      exact gk_ireturn (pc := 16) .int (DX12_answer_0.at 7 rfl) rfl rfl ⟨_, rfl, hv⟩
set_option maxHeartbeats 4000000 in
theorem vX12_answer_58 {E : gk_E} {dd : Nat} {o : Nat} {x1 : Int32} {x2 : Int32} {x3 : Int32}  {h : gk_H} {K : Int32 → gk_H → Prop} (hv : LdI h o 11 8 fun v1 => (v1 ≤ x3 → StI h o 11 8 x2 fun h2 => LdR h2 o 11 3 fun v3 => AlI h2 v3 (nI 4) fun v4 => (∃ fs, h2[o]? = some (.inr (11, fs))) ∧ RnI E mX12_gapBehind (dd, 0, 0) [.ref o, .int (nI 4), .int ((-1))] h2 (fun v5 h5 => pX12_answer_123 E dd o x1 x2 (v4 - (nI 1)) v5 h5 K)) ∧ (¬ v1 ≤ x3 → LdR h o 11 7 fun v6 => AlI h v6 x3 fun v7 => (∃ fs, h[o]? = some (.inr (11, fs))) ∧ RnI E mX12_isGapOf (dd, 0, 0) [.ref o, .int (nI 4), .int v7] h (fun v8 h8 => (v8 = 0 → pX12_answer_58 E dd o x1 x2 (x3 + nI 1) h8 K) ∧ (¬ v8 = 0 → LdR h8 o 11 7 fun v9 => LdR h8 o 11 7 fun v10 => AlI h8 v10 x3 fun v11 => AsI h8 v9 x2 v11 fun h12 => pX12_answer_58 E dd o x1 (x2 + nI 1) (x3 + nI 1) h12 K)))) : pX12_answer_58 E dd o x1 x2 x3 h K := by
  show gk_G E mX12_answer (dd + 1, 0, 0) 58 [(0, .ref o), (1, .int x1), (2, .int x2), (3, .int x3)] [] h (fun o h1 => ∃ v, o = some (.int v) ∧ K v h1)
  refine gk_iload_n (pc := 58) (DX12_answer_0.at 34 rfl) 3 rfl rfl ?_
  refine gk_aload_n (pc := 59) (DX12_answer_0.at 35 rfl) 0 rfl rfl ?_
  obtain ⟨fs1, v1, q1, r1, hv⟩ := hv
  refine gk_get (pc := 60) (.int v1) (DX12_answer_0.at 36 rfl) fX12_226_11 q1 r1 ?_
  refine gk_icmp_ge (pc := 63) 101 (DX12_answer_0.at 37 rfl) (by decide) (fun c => ?_) (fun c => ?_)
  · replace hv := hv.1 c
    refine gk_aload_n (pc := 101) (DX12_answer_0.at 57 rfl) 0 rfl rfl ?_
    refine gk_iload_n (pc := 102) (DX12_answer_0.at 58 rfl) 2 rfl rfl ?_
    obtain ⟨fs2, q2, r2, hv⟩ := hv
    refine gk_put (pc := 103) (DX12_answer_0.at 59 rfl) fX12_226_11w q2 r2 rfl rfl ?_
    generalize h.set _ _ = h2 at hv ⊢
    refine gk_aload_n (pc := 106) (DX12_answer_1.at 0 rfl) 0 rfl rfl ?_
    obtain ⟨fs3, v3, q3, r3, hv⟩ := hv
    refine gk_get (pc := 107) (.ref v3) (DX12_answer_1.at 1 rfl) fX12_23_11 q3 r3 ?_
    refine gk_iconst (pc := 110) (nI 4) (DX12_answer_1.at 2 rfl) ci_4 ?_
    obtain ⟨n4, f4, q4, r4, hv⟩ := hv
    refine gk_iald (pc := 111) (DX12_answer_1.at 3 rfl) q4 r4 ?_
    generalize f4 _ = v4 at hv ⊢
    refine gk_iconst (pc := 112) (nI 1) (DX12_answer_1.at 4 rfl) ci_1 ?_
    refine gk_isub (pc := 113) (DX12_answer_1.at 5 rfl) ?_
    refine gk_istore_n (pc := 114) [(3, .int (v4 - (nI 1))), (0, .ref o), (1, .int x1), (2, .int x2)] (DX12_answer_1.at 6 rfl) rfl (Nat.le_of_ble_eq_true rfl) rfl ?_
    refine gk_aload_n (pc := 115) (DX12_answer_1.at 7 rfl) 1 rfl rfl ?_
    refine gk_iconst (pc := 116) (nI 4) (DX12_answer_1.at 8 rfl) ci_4 ?_
    refine gk_iconst (pc := 117) ((-1)) (DX12_answer_1.at 9 rfl) ci_m1 ?_
    obtain ⟨⟨fs5, q5⟩, hv⟩ := hv
    refine gk_vV (pc := 118) [.int (nI 4), .int ((-1))] [] (DX12_answer_1.at 10 rfl) cvX12_171 q5 rfl rfl (Nat.le_of_ble_eq_true rfl) (Nat.le_of_ble_eq_true rfl) (gk_Run.post (fun o h5 z => ?_) hv)
    obtain ⟨v5, rfl, hv⟩ := z
    refine gk_istore (pc := 121) [(4, .int v5), (3, .int (v4 - (nI 1))), (0, .ref o), (1, .int x1), (2, .int x2)] (DX12_answer_1.at 11 rfl) (Nat.le_of_ble_eq_true rfl) rfl ?_
    exact gk_pick (pc := 123) [(0, .ref o), (1, .int x1), (2, .int x2), (3, .int (v4 - (nI 1))), (4, .int v5)] [2, 3, 4, 1, 0] rfl hv
  · replace hv := hv.2 c
    refine gk_aload_n (pc := 66) (DX12_answer_0.at 38 rfl) 0 rfl rfl ?_
    refine gk_iconst (pc := 67) (nI 4) (DX12_answer_0.at 39 rfl) ci_4 ?_
    refine gk_aload_n (pc := 68) (DX12_answer_0.at 40 rfl) 0 rfl rfl ?_
    obtain ⟨fs6, v6, q6, r6, hv⟩ := hv
    refine gk_get (pc := 69) (.ref v6) (DX12_answer_0.at 41 rfl) fX12_29_11 q6 r6 ?_
    refine gk_iload_n (pc := 72) (DX12_answer_0.at 42 rfl) 3 rfl rfl ?_
    obtain ⟨n7, f7, q7, r7, hv⟩ := hv
    refine gk_iald (pc := 73) (DX12_answer_0.at 43 rfl) q7 r7 ?_
    generalize f7 _ = v7 at hv ⊢
    obtain ⟨⟨fs8, q8⟩, hv⟩ := hv
    refine gk_vV (pc := 74) [.int (nI 4), .int v7] [] (DX12_answer_0.at 44 rfl) cvX12_211 q8 rfl rfl (Nat.le_of_ble_eq_true rfl) (Nat.le_of_ble_eq_true rfl) (gk_Run.post (fun o h8 z => ?_) hv)
    obtain ⟨v8, rfl, hv⟩ := z
    refine gk_if_eq (pc := 77) 95 (DX12_answer_0.at 45 rfl) (by decide) (fun c => ?_) (fun c => ?_)
    · replace hv := hv.1 c
      refine gk_iinc (pc := 95) (x3 + nI 1) [(3, .int (x3 + nI 1)), (0, .ref o), (1, .int x1), (2, .int x2)] 3 (DX12_answer_0.at 55 rfl) rfl (by rw [ci_1]) (Nat.le_of_ble_eq_true rfl) rfl ?_
      refine gk_goto (pc := 98) 58 (DX12_answer_0.at 56 rfl) (by decide) ?_
      exact gk_pick (pc := 58) [(0, .ref o), (1, .int x1), (2, .int x2), (3, .int (x3 + nI 1))] [1, 2, 3, 0] rfl hv
    · replace hv := hv.2 c
      refine gk_aload_n (pc := 80) (DX12_answer_0.at 46 rfl) 0 rfl rfl ?_
      obtain ⟨fs9, v9, q9, r9, hv⟩ := hv
      refine gk_get (pc := 81) (.ref v9) (DX12_answer_0.at 47 rfl) fX12_29_11 q9 r9 ?_
      refine gk_iload_n (pc := 84) (DX12_answer_0.at 48 rfl) 2 rfl rfl ?_
      refine gk_aload_n (pc := 85) (DX12_answer_0.at 49 rfl) 0 rfl rfl ?_
      obtain ⟨fs10, v10, q10, r10, hv⟩ := hv
      refine gk_get (pc := 86) (.ref v10) (DX12_answer_0.at 50 rfl) fX12_29_11 q10 r10 ?_
      refine gk_iload_n (pc := 89) (DX12_answer_0.at 51 rfl) 3 rfl rfl ?_
      obtain ⟨n11, f11, q11, r11, hv⟩ := hv
      refine gk_iald (pc := 90) (DX12_answer_0.at 52 rfl) q11 r11 ?_
      generalize f11 _ = v11 at hv ⊢
      obtain ⟨n12, f12, q12, r12, hv⟩ := hv
      refine gk_iast (pc := 91) (DX12_answer_0.at 53 rfl) q12 r12 ?_
      generalize h8.set _ _ = h12 at hv ⊢
      refine gk_iinc (pc := 92) (x2 + nI 1) [(2, .int (x2 + nI 1)), (0, .ref o), (1, .int x1), (3, .int x3)] 2 (DX12_answer_0.at 54 rfl) rfl (by rw [ci_1]) (Nat.le_of_ble_eq_true rfl) rfl ?_
      refine gk_iinc (pc := 95) (x3 + nI 1) [(3, .int (x3 + nI 1)), (2, .int (x2 + nI 1)), (0, .ref o), (1, .int x1)] 3 (DX12_answer_0.at 55 rfl) rfl (by rw [ci_1]) (Nat.le_of_ble_eq_true rfl) rfl ?_
      refine gk_goto (pc := 98) 58 (DX12_answer_0.at 56 rfl) (by decide) ?_
      exact gk_pick (pc := 58) [(0, .ref o), (1, .int x1), (2, .int (x2 + nI 1)), (3, .int (x3 + nI 1))] [2, 3, 1, 0] rfl hv
set_option maxHeartbeats 4000000 in
theorem vX12_answer_123 {E : gk_E} {dd : Nat} {o : Nat} {x1 : Int32} {x2 : Int32} {x3 : Int32} {x4 : Int32}  {h : gk_H} {K : Int32 → gk_H → Prop} (hv : (x4 = ((-1)) → LdI h o 11 9 fun v1 => StI h o 11 9 (v1 + (nI 1)) fun h2 => LdI h2 o 11 8 fun v3 => K v3 h2) ∧ (¬ x4 = ((-1)) → (¬ ((x4 / (nI 100)) - (x4 / (nI 100)) / (nI 10) * (nI 10)) = x3 → (∃ fs, h[o]? = some (.inr (11, fs))) ∧ RnI E mX12_gapBehind (dd, 0, 0) [.ref o, .int (nI 4), .int x4] h (fun v4 h4 => pX12_answer_123 E dd o x1 x2 x3 v4 h4 K)) ∧ (((x4 / (nI 100)) - (x4 / (nI 100)) / (nI 10) * (nI 10)) = x3 → LdR h o 11 7 fun v5 => LdI h o 11 8 fun v6 => AsI h v5 v6 x4 fun h7 => LdI h7 o 11 8 fun v8 => StI h7 o 11 8 (v8 + (nI 1)) fun h9 => (∃ fs, h9[o]? = some (.inr (11, fs))) ∧ RnI E mX12_gapBehind (dd, 0, 0) [.ref o, .int (nI 4), .int x4] h9 (fun v10 h10 => pX12_answer_123 E dd o x1 x2 x3 v10 h10 K)))) : pX12_answer_123 E dd o x1 x2 x3 x4 h K := by
  show gk_G E mX12_answer (dd + 1, 0, 0) 123 [(0, .ref o), (1, .int x1), (2, .int x2), (3, .int x3), (4, .int x4)] [] h (fun o h1 => ∃ v, o = some (.int v) ∧ K v h1)
  refine gk_iload (pc := 123) (DX12_answer_1.at 12 rfl) 4 rfl ?_
  refine gk_iconst (pc := 125) ((-1)) (DX12_answer_1.at 13 rfl) ci_m1 ?_
  refine gk_icmp_eq (pc := 126) 174 (DX12_answer_1.at 14 rfl) (by decide) (fun c => ?_) (fun c => ?_)
  · replace hv := hv.1 c
    refine gk_aload_n (pc := 174) (DX12_answer_1.at 40 rfl) 0 rfl rfl ?_
    refine gk_dup (pc := 175) (DX12_answer_1.at 41 rfl) rfl ?_
    obtain ⟨fs1, v1, q1, r1, hv⟩ := hv
    refine gk_get (pc := 176) (.int v1) (DX12_answer_1.at 42 rfl) fX12_229_11 q1 r1 ?_
    refine gk_iconst (pc := 179) (nI 1) (DX12_answer_1.at 43 rfl) ci_1 ?_
    refine gk_iadd (pc := 180) (DX12_answer_1.at 44 rfl) ?_
    obtain ⟨fs2, q2, r2, hv⟩ := hv
    refine gk_put (pc := 181) (DX12_answer_1.at 45 rfl) fX12_229_11w q2 r2 rfl rfl ?_
    generalize h.set _ _ = h2 at hv ⊢
    refine gk_aload_n (pc := 184) (DX12_answer_1.at 46 rfl) 0 rfl rfl ?_
    obtain ⟨fs3, v3, q3, r3, hv⟩ := hv
    refine gk_get (pc := 185) (.int v3) (DX12_answer_1.at 47 rfl) fX12_226_11 q3 r3 ?_
    exact gk_ireturn (pc := 188) .int (DX12_answer_1.at 48 rfl) rfl rfl ⟨_, rfl, hv⟩
  · replace hv := hv.2 c
    refine gk_iload (pc := 129) (DX12_answer_1.at 15 rfl) 4 rfl ?_
    refine gk_bipush (pc := 131) (nI 100) (DX12_answer_1.at 16 rfl) cb_100 ?_
    refine gk_idiv (pc := 133) (DX12_answer_1.at 17 rfl) (by decide) ?_
    refine gk_bipush (pc := 134) (nI 10) (DX12_answer_1.at 18 rfl) cb_10 ?_
    refine gk_irem (pc := 136) (DX12_answer_1.at 19 rfl) (by decide) ?_
    refine gk_iload_n (pc := 137) (DX12_answer_1.at 20 rfl) 3 rfl rfl ?_
    refine gk_icmp_ne (pc := 138) 162 (DX12_answer_1.at 21 rfl) (by decide) (fun c => ?_) (fun c => ?_)
    · replace hv := hv.1 c
      refine gk_aload_n (pc := 162) (DX12_answer_1.at 34 rfl) 0 rfl rfl ?_
      refine gk_iconst (pc := 163) (nI 4) (DX12_answer_1.at 35 rfl) ci_4 ?_
      refine gk_iload (pc := 164) (DX12_answer_1.at 36 rfl) 4 rfl ?_
      obtain ⟨⟨fs4, q4⟩, hv⟩ := hv
      refine gk_vV (pc := 166) [.int (nI 4), .int x4] [] (DX12_answer_1.at 37 rfl) cvX12_171 q4 rfl rfl (Nat.le_of_ble_eq_true rfl) (Nat.le_of_ble_eq_true rfl) (gk_Run.post (fun o h4 z => ?_) hv)
      obtain ⟨v4, rfl, hv⟩ := z
      refine gk_istore (pc := 169) [(4, .int v4), (0, .ref o), (1, .int x1), (2, .int x2), (3, .int x3)] (DX12_answer_1.at 38 rfl) (Nat.le_of_ble_eq_true rfl) rfl ?_
      refine gk_goto (pc := 171) 123 (DX12_answer_1.at 39 rfl) (by decide) ?_
      exact gk_pick (pc := 123) [(0, .ref o), (1, .int x1), (2, .int x2), (3, .int x3), (4, .int v4)] [1, 2, 3, 4, 0] rfl hv
    · replace hv := hv.2 c
      refine gk_aload_n (pc := 141) (DX12_answer_1.at 22 rfl) 0 rfl rfl ?_
      obtain ⟨fs5, v5, q5, r5, hv⟩ := hv
      refine gk_get (pc := 142) (.ref v5) (DX12_answer_1.at 23 rfl) fX12_29_11 q5 r5 ?_
      refine gk_aload_n (pc := 145) (DX12_answer_1.at 24 rfl) 0 rfl rfl ?_
      obtain ⟨fs6, v6, q6, r6, hv⟩ := hv
      refine gk_get (pc := 146) (.int v6) (DX12_answer_1.at 25 rfl) fX12_226_11 q6 r6 ?_
      refine gk_iload (pc := 149) (DX12_answer_1.at 26 rfl) 4 rfl ?_
      obtain ⟨n7, f7, q7, r7, hv⟩ := hv
      refine gk_iast (pc := 151) (DX12_answer_1.at 27 rfl) q7 r7 ?_
      generalize h.set _ _ = h7 at hv ⊢
      refine gk_aload_n (pc := 152) (DX12_answer_1.at 28 rfl) 0 rfl rfl ?_
      refine gk_dup (pc := 153) (DX12_answer_1.at 29 rfl) rfl ?_
      obtain ⟨fs8, v8, q8, r8, hv⟩ := hv
      refine gk_get (pc := 154) (.int v8) (DX12_answer_1.at 30 rfl) fX12_226_11 q8 r8 ?_
      refine gk_iconst (pc := 157) (nI 1) (DX12_answer_1.at 31 rfl) ci_1 ?_
      refine gk_iadd (pc := 158) (DX12_answer_1.at 32 rfl) ?_
      obtain ⟨fs9, q9, r9, hv⟩ := hv
      refine gk_put (pc := 159) (DX12_answer_1.at 33 rfl) fX12_226_11w q9 r9 rfl rfl ?_
      generalize h7.set _ _ = h9 at hv ⊢
      refine gk_aload_n (pc := 162) (DX12_answer_1.at 34 rfl) 0 rfl rfl ?_
      refine gk_iconst (pc := 163) (nI 4) (DX12_answer_1.at 35 rfl) ci_4 ?_
      refine gk_iload (pc := 164) (DX12_answer_1.at 36 rfl) 4 rfl ?_
      obtain ⟨⟨fs10, q10⟩, hv⟩ := hv
      refine gk_vV (pc := 166) [.int (nI 4), .int x4] [] (DX12_answer_1.at 37 rfl) cvX12_171 q10 rfl rfl (Nat.le_of_ble_eq_true rfl) (Nat.le_of_ble_eq_true rfl) (gk_Run.post (fun o h10 z => ?_) hv)
      obtain ⟨v10, rfl, hv⟩ := z
      refine gk_istore (pc := 169) [(4, .int v10), (0, .ref o), (1, .int x1), (2, .int x2), (3, .int x3)] (DX12_answer_1.at 38 rfl) (Nat.le_of_ble_eq_true rfl) rfl ?_
      refine gk_goto (pc := 171) 123 (DX12_answer_1.at 39 rfl) (by decide) ?_
      exact gk_pick (pc := 123) [(0, .ref o), (1, .int x1), (2, .int x2), (3, .int x3), (4, .int v10)] [1, 2, 3, 4, 0] rfl hv
abbrev pX12_areAtoms_5 (E : gk_E) (dd : Nat) (o : Nat) (x1 : Int32) (x2 : Int32) (x3 : Int32) (x4 : Int32) (h : gk_H) (K : Int32 → gk_H → Prop) : Prop := gk_G E mX12_areAtoms (dd + 1, 0, 0) 5 [(0, .ref o), (1, .int x1), (2, .int x2), (3, .int x3), (4, .int x4)] [] h (fun o h1 => ∃ v, o = some (.int v) ∧ K v h1)
set_option maxHeartbeats 4000000 in
theorem vX12_areAtoms_0 {E : gk_E} {dd : Nat} {o : Nat} {x1 : Int32} {x2 : Int32}  {h : gk_H} {K : Int32 → gk_H → Prop} (hv : pX12_areAtoms_5 E dd o x1 x2 x2 (nI 0) h K) : RnI E mX12_areAtoms (dd + 1, 0, 0) [.ref o, .int x1, .int x2] h K := by
  show gk_G E mX12_areAtoms (dd + 1, 0, 0) 0 [(0, .ref o), (1, .int x1), (2, .int x2)] [] h (fun o h1 => ∃ v, o = some (.int v) ∧ K v h1)
  refine gk_iload_n (pc := 0) (DX12_areAtoms_0.at 0 rfl) 2 rfl rfl ?_
  refine gk_istore_n (pc := 1) [(3, .int x2), (0, .ref o), (1, .int x1), (2, .int x2)] (DX12_areAtoms_0.at 1 rfl) rfl (Nat.le_of_ble_eq_true rfl) rfl ?_
  refine gk_iconst (pc := 2) (nI 0) (DX12_areAtoms_0.at 2 rfl) ci_0 ?_
  refine gk_istore (pc := 3) [(4, .int (nI 0)), (3, .int x2), (0, .ref o), (1, .int x1), (2, .int x2)] (DX12_areAtoms_0.at 3 rfl) (Nat.le_of_ble_eq_true rfl) rfl ?_
  exact gk_pick (pc := 5) [(0, .ref o), (1, .int x1), (2, .int x2), (3, .int x2), (4, .int (nI 0))] [2, 3, 4, 1, 0] rfl hv
set_option maxHeartbeats 4000000 in
theorem vX12_areAtoms_5 {E : gk_E} {dd : Nat} {o : Nat} {x1 : Int32} {x2 : Int32} {x3 : Int32} {x4 : Int32}  {h : gk_H} {K : Int32 → gk_H → Prop} (hv : LdR h o 11 3 fun v1 => AlI h v1 x1 fun v2 => (v2 ≤ x4 → (¬ x3 = 0 → K (nI 0) h) ∧ (x3 = 0 → K (nI 1) h)) ∧ (¬ v2 ≤ x4 → (∃ fs, h[o]? = some (.inr (11, fs))) ∧ RnI E mX12_isOther (dd, 0, 0) [.ref o, .int (x3 - x3 / (nI 10) * (nI 10))] h (fun v3 h3 => (¬ v3 = 0 → pX12_areAtoms_5 E dd o x1 x2 (x3 / (nI 10)) (x4 + nI 1) h3 K) ∧ (v3 = 0 → K (nI 0) h3)))) : pX12_areAtoms_5 E dd o x1 x2 x3 x4 h K := by
  show gk_G E mX12_areAtoms (dd + 1, 0, 0) 5 [(0, .ref o), (1, .int x1), (2, .int x2), (3, .int x3), (4, .int x4)] [] h (fun o h1 => ∃ v, o = some (.int v) ∧ K v h1)
  refine gk_iload (pc := 5) (DX12_areAtoms_0.at 4 rfl) 4 rfl ?_
  refine gk_aload_n (pc := 7) (DX12_areAtoms_0.at 5 rfl) 0 rfl rfl ?_
  obtain ⟨fs1, v1, q1, r1, hv⟩ := hv
  refine gk_get (pc := 8) (.ref v1) (DX12_areAtoms_0.at 6 rfl) fX12_23_11 q1 r1 ?_
  refine gk_iload_n (pc := 11) (DX12_areAtoms_0.at 7 rfl) 1 rfl rfl ?_
  obtain ⟨n2, f2, q2, r2, hv⟩ := hv
  refine gk_iald (pc := 12) (DX12_areAtoms_0.at 8 rfl) q2 r2 ?_
  generalize f2 _ = v2 at hv ⊢
  refine gk_icmp_ge (pc := 13) 40 (DX12_areAtoms_0.at 9 rfl) (by decide) (fun c => ?_) (fun c => ?_)
  · replace hv := hv.1 c
    refine gk_iload_n (pc := 40) (DX12_areAtoms_0.at 24 rfl) 3 rfl rfl ?_
    refine gk_if_ne (pc := 41) 48 (DX12_areAtoms_0.at 25 rfl) (by decide) (fun c => ?_) (fun c => ?_)
    · replace hv := hv.1 c
      refine gk_iconst (pc := 48) (nI 0) (DX12_areAtoms_0.at 28 rfl) ci_0 ?_
      exact gk_ireturn (pc := 49) .boolean (DX12_areAtoms_0.at 29 rfl) rfl rfl ⟨_, rfl, hv⟩
    · replace hv := hv.2 c
      refine gk_iconst (pc := 44) (nI 1) (DX12_areAtoms_0.at 26 rfl) ci_1 ?_
      refine gk_goto (pc := 45) 49 (DX12_areAtoms_0.at 27 rfl) (by decide) ?_
      exact gk_ireturn (pc := 49) .boolean (DX12_areAtoms_0.at 29 rfl) rfl rfl ⟨_, rfl, hv⟩
  · replace hv := hv.2 c
    refine gk_aload_n (pc := 16) (DX12_areAtoms_0.at 10 rfl) 0 rfl rfl ?_
    refine gk_iload_n (pc := 17) (DX12_areAtoms_0.at 11 rfl) 3 rfl rfl ?_
    refine gk_bipush (pc := 18) (nI 10) (DX12_areAtoms_0.at 12 rfl) cb_10 ?_
    refine gk_irem (pc := 20) (DX12_areAtoms_0.at 13 rfl) (by decide) ?_
    obtain ⟨⟨fs3, q3⟩, hv⟩ := hv
    refine gk_vV (pc := 21) [.int (x3 - x3 / (nI 10) * (nI 10))] [] (DX12_areAtoms_0.at 14 rfl) cvX12_83 q3 rfl rfl (Nat.le_of_ble_eq_true rfl) (Nat.le_of_ble_eq_true rfl) (gk_Run.post (fun o h3 z => ?_) hv)
    obtain ⟨v3, rfl, hv⟩ := z
    refine gk_if_ne (pc := 24) 29 (DX12_areAtoms_0.at 15 rfl) (by decide) (fun c => ?_) (fun c => ?_)
    · replace hv := hv.1 c
      refine gk_iload_n (pc := 29) (DX12_areAtoms_0.at 18 rfl) 3 rfl rfl ?_
      refine gk_bipush (pc := 30) (nI 10) (DX12_areAtoms_0.at 19 rfl) cb_10 ?_
      refine gk_idiv (pc := 32) (DX12_areAtoms_0.at 20 rfl) (by decide) ?_
      refine gk_istore_n (pc := 33) [(3, .int (x3 / (nI 10))), (0, .ref o), (1, .int x1), (2, .int x2), (4, .int x4)] (DX12_areAtoms_0.at 21 rfl) rfl (Nat.le_of_ble_eq_true rfl) rfl ?_
      refine gk_iinc (pc := 34) (x4 + nI 1) [(4, .int (x4 + nI 1)), (3, .int (x3 / (nI 10))), (0, .ref o), (1, .int x1), (2, .int x2)] 4 (DX12_areAtoms_0.at 22 rfl) rfl (by rw [ci_1]) (Nat.le_of_ble_eq_true rfl) rfl ?_
      refine gk_goto (pc := 37) 5 (DX12_areAtoms_0.at 23 rfl) (by decide) ?_
      exact gk_pick (pc := 5) [(0, .ref o), (1, .int x1), (2, .int x2), (3, .int (x3 / (nI 10))), (4, .int (x4 + nI 1))] [2, 3, 4, 1, 0] rfl hv
    · replace hv := hv.2 c
      refine gk_iconst (pc := 27) (nI 0) (DX12_areAtoms_0.at 16 rfl) ci_0 ?_
      exact gk_ireturn (pc := 28) .boolean (DX12_areAtoms_0.at 17 rfl) rfl rfl ⟨_, rfl, hv⟩
set_option maxHeartbeats 4000000 in
theorem vX12_ask_0 {E : gk_E} {dd : Nat} {o : Nat} {x1 : Int32}  {h : gk_H} {K : Int32 → gk_H → Prop} (hv : LdI h o 11 6 fun v1 => (¬ v1 = 0 → LdI h o 11 8 fun v2 => RnI E mX12_isFrom (dd, 0, 0) [.long x1.toInt64, .long (lN 0), .long ((v2 - (nI 1)).toInt64)] h (fun v3 h3 => (v3 = 0 → K ((-1)) h3) ∧ (¬ v3 = 0 → LdR h3 o 11 7 fun v4 => AlI h3 v4 x1 fun v5 => K v5 h3))) ∧ (v1 = 0 → K ((-3)) h)) : RnI E mX12_ask (dd + 1, 0, 0) [.ref o, .int x1] h K := by
  show gk_G E mX12_ask (dd + 1, 0, 0) 0 [(0, .ref o), (1, .int x1)] [] h (fun o h1 => ∃ v, o = some (.int v) ∧ K v h1)
  refine gk_aload_n (pc := 0) (DX12_ask_0.at 0 rfl) 0 rfl rfl ?_
  obtain ⟨fs1, v1, q1, r1, hv⟩ := hv
  refine gk_get (pc := 1) (.int v1) (DX12_ask_0.at 1 rfl) fX12_78_11 q1 r1 ?_
  refine gk_if_ne (pc := 4) 10 (DX12_ask_0.at 2 rfl) (by decide) (fun c => ?_) (fun c => ?_)
  · replace hv := hv.1 c
    refine gk_iload_n (pc := 10) (DX12_ask_0.at 5 rfl) 1 rfl rfl ?_
    refine gk_i2l (pc := 11) (DX12_ask_0.at 6 rfl) ?_
    refine gk_lconst (pc := 12) (lN 0) (DX12_ask_0.at 7 rfl) rfl ?_
    refine gk_aload_n (pc := 13) (DX12_ask_0.at 8 rfl) 0 rfl rfl ?_
    obtain ⟨fs2, v2, q2, r2, hv⟩ := hv
    refine gk_get (pc := 14) (.int v2) (DX12_ask_0.at 9 rfl) fX12_226_11 q2 r2 ?_
    refine gk_iconst (pc := 17) (nI 1) (DX12_ask_0.at 10 rfl) ci_1 ?_
    refine gk_isub (pc := 18) (DX12_ask_0.at 11 rfl) ?_
    refine gk_i2l (pc := 19) (DX12_ask_0.at 12 rfl) ?_
    refine gk_vS (pc := 20) [.long x1.toInt64, .long (lN 0), .long ((v2 - (nI 1)).toInt64)] [] (DX12_ask_0.at 13 rfl) csX12_70 rfl rfl (Nat.le_of_ble_eq_true rfl) (Nat.le_of_ble_eq_true rfl) (gk_Run.post (fun o h3 z => ?_) hv)
    obtain ⟨v3, rfl, hv⟩ := z
    refine gk_if_eq (pc := 23) 35 (DX12_ask_0.at 14 rfl) (by decide) (fun c => ?_) (fun c => ?_)
    · replace hv := hv.1 c
      refine gk_iconst (pc := 35) ((-1)) (DX12_ask_0.at 20 rfl) ci_m1 ?_
      exact gk_ireturn (pc := 36) .int (DX12_ask_0.at 21 rfl) rfl rfl ⟨_, rfl, hv⟩
    · replace hv := hv.2 c
      refine gk_aload_n (pc := 26) (DX12_ask_0.at 15 rfl) 0 rfl rfl ?_
      obtain ⟨fs4, v4, q4, r4, hv⟩ := hv
      refine gk_get (pc := 27) (.ref v4) (DX12_ask_0.at 16 rfl) fX12_29_11 q4 r4 ?_
      refine gk_iload_n (pc := 30) (DX12_ask_0.at 17 rfl) 1 rfl rfl ?_
      obtain ⟨n5, f5, q5, r5, hv⟩ := hv
      refine gk_iald (pc := 31) (DX12_ask_0.at 18 rfl) q5 r5 ?_
      generalize f5 _ = v5 at hv ⊢
      refine gk_goto (pc := 32) 36 (DX12_ask_0.at 19 rfl) (by decide) ?_
      exact gk_ireturn (pc := 36) .int (DX12_ask_0.at 21 rfl) rfl rfl ⟨_, rfl, hv⟩
  · replace hv := hv.2 c
    refine gk_bipush (pc := 7) ((-3)) (DX12_ask_0.at 3 rfl) cb_m3 ?_
    exact gk_ireturn (pc := 9) .int (DX12_ask_0.at 4 rfl) rfl rfl ⟨_, rfl, hv⟩
abbrev pX12_atoms_27 (E : gk_E) (dd : Nat) (o : Nat) (x1 : Int32) (x2 : Int32) (x3 : Int32) (h : gk_H) (K : Int32 → gk_H → Prop) : Prop := gk_G E mX12_atoms (dd + 1, 0, 0) 27 [(0, .ref o), (1, .int x1), (2, .int x2), (3, .int x3)] [] h (fun o h1 => ∃ v, o = some (.int v) ∧ K v h1)
set_option maxHeartbeats 4000000 in
theorem vX12_atoms_0 {E : gk_E} {dd : Nat} {o : Nat} {x1 : Int32}  {h : gk_H} {K : Int32 → gk_H → Prop} (hv : RnI E mX12_isFrom (dd, 0, 0) [.long x1.toInt64, .long (lN 1), .long (lN 4)] h (fun v1 h1 => (¬ v1 = 0 → LdI h1 o 11 0 fun v2 => StI h1 o 11 0 x1 fun h3 => pX12_atoms_27 E dd o x1 v2 (nI 0) h3 K) ∧ (v1 = 0 → K ((-2)) h1))) : RnI E mX12_atoms (dd + 1, 0, 0) [.ref o, .int x1] h K := by
  show gk_G E mX12_atoms (dd + 1, 0, 0) 0 [(0, .ref o), (1, .int x1)] [] h (fun o h1 => ∃ v, o = some (.int v) ∧ K v h1)
  refine gk_iload_n (pc := 0) (DX12_atoms_0.at 0 rfl) 1 rfl rfl ?_
  refine gk_i2l (pc := 1) (DX12_atoms_0.at 1 rfl) ?_
  refine gk_lconst (pc := 2) (lN 1) (DX12_atoms_0.at 2 rfl) rfl ?_
  refine gk_ldc2 (pc := 3) (lN 4) (DX12_atoms_0.at 3 rfl) klX12_81 ?_
  refine gk_vS (pc := 6) [.long x1.toInt64, .long (lN 1), .long (lN 4)] [] (DX12_atoms_0.at 4 rfl) csX12_70 rfl rfl (Nat.le_of_ble_eq_true rfl) (Nat.le_of_ble_eq_true rfl) (gk_Run.post (fun o h1 z => ?_) hv)
  obtain ⟨v1, rfl, hv⟩ := z
  refine gk_if_ne (pc := 9) 15 (DX12_atoms_0.at 5 rfl) (by decide) (fun c => ?_) (fun c => ?_)
  · replace hv := hv.1 c
    refine gk_aload_n (pc := 15) (DX12_atoms_0.at 8 rfl) 0 rfl rfl ?_
    obtain ⟨fs2, v2, q2, r2, hv⟩ := hv
    refine gk_get (pc := 16) (.int v2) (DX12_atoms_0.at 9 rfl) fX12_9_11 q2 r2 ?_
    refine gk_istore_n (pc := 19) [(2, .int v2), (0, .ref o), (1, .int x1)] (DX12_atoms_0.at 10 rfl) rfl (Nat.le_of_ble_eq_true rfl) rfl ?_
    refine gk_aload_n (pc := 20) (DX12_atoms_0.at 11 rfl) 1 rfl rfl ?_
    refine gk_iload_n (pc := 21) (DX12_atoms_0.at 12 rfl) 2 rfl rfl ?_
    obtain ⟨fs3, q3, r3, hv⟩ := hv
    refine gk_put (pc := 22) (DX12_atoms_0.at 13 rfl) fX12_9_11w q3 r3 rfl rfl ?_
    generalize h1.set _ _ = h3 at hv ⊢
    refine gk_iconst (pc := 25) (nI 0) (DX12_atoms_0.at 14 rfl) ci_0 ?_
    refine gk_istore_n (pc := 26) [(3, .int (nI 0)), (2, .int v2), (0, .ref o), (1, .int x1)] (DX12_atoms_0.at 15 rfl) rfl (Nat.le_of_ble_eq_true rfl) rfl ?_
    exact gk_pick (pc := 27) [(0, .ref o), (1, .int x1), (2, .int v2), (3, .int (nI 0))] [2, 3, 1, 0] rfl hv
  · replace hv := hv.2 c
    refine gk_bipush (pc := 12) ((-2)) (DX12_atoms_0.at 6 rfl) cb_m2 ?_
    exact gk_ireturn (pc := 14) .int (DX12_atoms_0.at 7 rfl) rfl rfl ⟨_, rfl, hv⟩
set_option maxHeartbeats 4000000 in
theorem vX12_atoms_27 {E : gk_E} {dd : Nat} {o : Nat} {x1 : Int32} {x2 : Int32} {x3 : Int32}  {h : gk_H} {K : Int32 → gk_H → Prop} (hv : ((nI 4) ≤ x3 → (∃ fs, h[o]? = some (.inr (11, fs))) ∧ RnV E mX12_fixes (dd, 0, 0) [.ref o] h (fun h1 => K x2 h1)) ∧ (¬ (nI 4) ≤ x3 → LdR h o 11 1 fun v2 => AsI h v2 x3 x3 fun h3 => pX12_atoms_27 E dd o x1 x2 (x3 + nI 1) h3 K)) : pX12_atoms_27 E dd o x1 x2 x3 h K := by
  show gk_G E mX12_atoms (dd + 1, 0, 0) 27 [(0, .ref o), (1, .int x1), (2, .int x2), (3, .int x3)] [] h (fun o h1 => ∃ v, o = some (.int v) ∧ K v h1)
  refine gk_iload_n (pc := 27) (DX12_atoms_0.at 16 rfl) 3 rfl rfl ?_
  refine gk_iconst (pc := 28) (nI 4) (DX12_atoms_0.at 17 rfl) ci_4 ?_
  refine gk_icmp_ge (pc := 29) 45 (DX12_atoms_0.at 18 rfl) (by decide) (fun c => ?_) (fun c => ?_)
  · replace hv := hv.1 c
    refine gk_aload_n (pc := 45) (DX12_atoms_0.at 26 rfl) 0 rfl rfl ?_
    obtain ⟨⟨fs1, q1⟩, hv⟩ := hv
    refine gk_vV (pc := 46) [] [] (DX12_atoms_0.at 27 rfl) cvX12_67 q1 rfl rfl (Nat.le_of_ble_eq_true rfl) (Nat.le_of_ble_eq_true rfl) (gk_Run.post (fun o h1 z => ?_) hv)
    obtain ⟨rfl, hv⟩ := z
    refine gk_iload_n (pc := 49) (DX12_atoms_0.at 28 rfl) 2 rfl rfl ?_
    exact gk_ireturn (pc := 50) .int (DX12_atoms_0.at 29 rfl) rfl rfl ⟨_, rfl, hv⟩
  · replace hv := hv.2 c
    refine gk_aload_n (pc := 32) (DX12_atoms_0.at 19 rfl) 0 rfl rfl ?_
    obtain ⟨fs2, v2, q2, r2, hv⟩ := hv
    refine gk_get (pc := 33) (.ref v2) (DX12_atoms_0.at 20 rfl) fX12_15_11 q2 r2 ?_
    refine gk_iload_n (pc := 36) (DX12_atoms_0.at 21 rfl) 3 rfl rfl ?_
    refine gk_iload_n (pc := 37) (DX12_atoms_0.at 22 rfl) 3 rfl rfl ?_
    obtain ⟨n3, f3, q3, r3, hv⟩ := hv
    refine gk_iast (pc := 38) (DX12_atoms_0.at 23 rfl) q3 r3 ?_
    generalize h.set _ _ = h3 at hv ⊢
    refine gk_iinc (pc := 39) (x3 + nI 1) [(3, .int (x3 + nI 1)), (0, .ref o), (1, .int x1), (2, .int x2)] 3 (DX12_atoms_0.at 24 rfl) rfl (by rw [ci_1]) (Nat.le_of_ble_eq_true rfl) rfl ?_
    refine gk_goto (pc := 42) 27 (DX12_atoms_0.at 25 rfl) (by decide) ?_
    exact gk_pick (pc := 27) [(0, .ref o), (1, .int x1), (2, .int x2), (3, .int (x3 + nI 1))] [1, 2, 3, 0] rfl hv
abbrev pX12_begin_48 (E : gk_E) (dd : Nat) (o : Nat) (x1 : Int32) (x2 : Int32) (h : gk_H) (K : Int32 → gk_H → Prop) : Prop := gk_G E mX12_begin (dd + 1, 0, 0) 48 [(0, .ref o), (1, .int x1), (2, .int x2)] [] h (fun o h1 => ∃ v, o = some (.int v) ∧ K v h1)
set_option maxHeartbeats 4000000 in
theorem vX12_begin_0 {E : gk_E} {dd : Nat} {o : Nat} {x1 : Int32}  {h : gk_H} {K : Int32 → gk_H → Prop} (hv : RnI E mX12_isNet (dd, 0, 0) [.int x1] h (fun v1 h1 => (¬ v1 = 0 → (∃ fs, h1[o]? = some (.inr (11, fs))) ∧ RnI E mX12_isPlayed (dd, 0, 0) [.ref o, .int x1] h1 (fun v2 h2 => (¬ v2 = 0 → (∃ fs, h2[o]? = some (.inr (11, fs))) ∧ RnV E mX12_likens (dd, 0, 0) [.ref o, .int x1, .int (nI 4)] h2 (fun h3 => StI h3 o 11 6 (nI 1) fun h4 => StI h4 o 11 8 (nI 0) fun h5 => StI h5 o 11 9 (nI 0) fun h6 => (∃ fs, h6[o]? = some (.inr (11, fs))) ∧ RnI E mX12_gapBehind (dd, 0, 0) [.ref o, .int (nI 4), .int ((-1))] h6 (fun v7 h7 => pX12_begin_48 E dd o x1 v7 h7 K))) ∧ (v2 = 0 → K ((-3)) h2))) ∧ (v1 = 0 → K ((-1)) h1))) : RnI E mX12_begin (dd + 1, 0, 0) [.ref o, .int x1] h K := by
  show gk_G E mX12_begin (dd + 1, 0, 0) 0 [(0, .ref o), (1, .int x1)] [] h (fun o h1 => ∃ v, o = some (.int v) ∧ K v h1)
  refine gk_iload_n (pc := 0) (DX12_begin_0.at 0 rfl) 1 rfl rfl ?_
  refine gk_vS (pc := 1) [.int x1] [] (DX12_begin_0.at 1 rfl) csX12_145 rfl rfl (Nat.le_of_ble_eq_true rfl) (Nat.le_of_ble_eq_true rfl) (gk_Run.post (fun o h1 z => ?_) hv)
  obtain ⟨v1, rfl, hv⟩ := z
  refine gk_if_ne (pc := 4) 9 (DX12_begin_0.at 2 rfl) (by decide) (fun c => ?_) (fun c => ?_)
  · replace hv := hv.1 c
    refine gk_aload_n (pc := 9) (DX12_begin_0.at 5 rfl) 0 rfl rfl ?_
    refine gk_iload_n (pc := 10) (DX12_begin_0.at 6 rfl) 1 rfl rfl ?_
    obtain ⟨⟨fs2, q2⟩, hv⟩ := hv
    refine gk_vV (pc := 11) [.int x1] [] (DX12_begin_0.at 7 rfl) cvX12_220 q2 rfl rfl (Nat.le_of_ble_eq_true rfl) (Nat.le_of_ble_eq_true rfl) (gk_Run.post (fun o h2 z => ?_) hv)
    obtain ⟨v2, rfl, hv⟩ := z
    refine gk_if_ne (pc := 14) 20 (DX12_begin_0.at 8 rfl) (by decide) (fun c => ?_) (fun c => ?_)
    · replace hv := hv.1 c
      refine gk_aload_n (pc := 20) (DX12_begin_0.at 11 rfl) 0 rfl rfl ?_
      refine gk_iload_n (pc := 21) (DX12_begin_0.at 12 rfl) 1 rfl rfl ?_
      refine gk_iconst (pc := 22) (nI 4) (DX12_begin_0.at 13 rfl) ci_4 ?_
      obtain ⟨⟨fs3, q3⟩, hv⟩ := hv
      refine gk_vV (pc := 23) [.int x1, .int (nI 4)] [] (DX12_begin_0.at 14 rfl) cvX12_161 q3 rfl rfl (Nat.le_of_ble_eq_true rfl) (Nat.le_of_ble_eq_true rfl) (gk_Run.post (fun o h3 z => ?_) hv)
      obtain ⟨rfl, hv⟩ := z
      refine gk_aload_n (pc := 26) (DX12_begin_0.at 15 rfl) 0 rfl rfl ?_
      refine gk_iconst (pc := 27) (nI 1) (DX12_begin_0.at 16 rfl) ci_1 ?_
      obtain ⟨fs4, q4, r4, hv⟩ := hv
      refine gk_put (pc := 28) (DX12_begin_0.at 17 rfl) fX12_78_11w q4 r4 rfl rfl ?_
      generalize h3.set _ _ = h4 at hv ⊢
      refine gk_aload_n (pc := 31) (DX12_begin_0.at 18 rfl) 0 rfl rfl ?_
      refine gk_iconst (pc := 32) (nI 0) (DX12_begin_0.at 19 rfl) ci_0 ?_
      obtain ⟨fs5, q5, r5, hv⟩ := hv
      refine gk_put (pc := 33) (DX12_begin_0.at 20 rfl) fX12_226_11w q5 r5 rfl rfl ?_
      generalize h4.set _ _ = h5 at hv ⊢
      refine gk_aload_n (pc := 36) (DX12_begin_0.at 21 rfl) 0 rfl rfl ?_
      refine gk_iconst (pc := 37) (nI 0) (DX12_begin_0.at 22 rfl) ci_0 ?_
      obtain ⟨fs6, q6, r6, hv⟩ := hv
      refine gk_put (pc := 38) (DX12_begin_0.at 23 rfl) fX12_229_11w q6 r6 rfl rfl ?_
      generalize h5.set _ _ = h6 at hv ⊢
      refine gk_aload_n (pc := 41) (DX12_begin_0.at 24 rfl) 0 rfl rfl ?_
      refine gk_iconst (pc := 42) (nI 4) (DX12_begin_0.at 25 rfl) ci_4 ?_
      refine gk_iconst (pc := 43) ((-1)) (DX12_begin_0.at 26 rfl) ci_m1 ?_
      obtain ⟨⟨fs7, q7⟩, hv⟩ := hv
      refine gk_vV (pc := 44) [.int (nI 4), .int ((-1))] [] (DX12_begin_0.at 27 rfl) cvX12_171 q7 rfl rfl (Nat.le_of_ble_eq_true rfl) (Nat.le_of_ble_eq_true rfl) (gk_Run.post (fun o h7 z => ?_) hv)
      obtain ⟨v7, rfl, hv⟩ := z
      refine gk_istore_n (pc := 47) [(2, .int v7), (0, .ref o), (1, .int x1)] (DX12_begin_0.at 28 rfl) rfl (Nat.le_of_ble_eq_true rfl) rfl ?_
      exact gk_pick (pc := 48) [(0, .ref o), (1, .int x1), (2, .int v7)] [1, 2, 0] rfl hv
    · replace hv := hv.2 c
      refine gk_bipush (pc := 17) ((-3)) (DX12_begin_0.at 9 rfl) cb_m3 ?_
      exact gk_ireturn (pc := 19) .int (DX12_begin_0.at 10 rfl) rfl rfl ⟨_, rfl, hv⟩
  · replace hv := hv.2 c
    refine gk_iconst (pc := 7) ((-1)) (DX12_begin_0.at 3 rfl) ci_m1 ?_
    exact gk_ireturn (pc := 8) .int (DX12_begin_0.at 4 rfl) rfl rfl ⟨_, rfl, hv⟩
set_option maxHeartbeats 4000000 in
theorem vX12_begin_48 {E : gk_E} {dd : Nat} {o : Nat} {x1 : Int32} {x2 : Int32}  {h : gk_H} {K : Int32 → gk_H → Prop} (hv : (x2 = ((-1)) → LdI h o 11 8 fun v1 => K v1 h) ∧ (¬ x2 = ((-1)) → LdR h o 11 7 fun v2 => LdI h o 11 8 fun v3 => AsI h v2 v3 x2 fun h4 => LdI h4 o 11 8 fun v5 => StI h4 o 11 8 (v5 + (nI 1)) fun h6 => (∃ fs, h6[o]? = some (.inr (11, fs))) ∧ RnI E mX12_gapBehind (dd, 0, 0) [.ref o, .int (nI 4), .int x2] h6 (fun v7 h7 => pX12_begin_48 E dd o x1 v7 h7 K))) : pX12_begin_48 E dd o x1 x2 h K := by
  show gk_G E mX12_begin (dd + 1, 0, 0) 48 [(0, .ref o), (1, .int x1), (2, .int x2)] [] h (fun o h1 => ∃ v, o = some (.int v) ∧ K v h1)
  refine gk_iload_n (pc := 48) (DX12_begin_0.at 29 rfl) 2 rfl rfl ?_
  refine gk_iconst (pc := 49) ((-1)) (DX12_begin_0.at 30 rfl) ci_m1 ?_
  refine gk_icmp_eq (pc := 50) 83 (DX12_begin_0.at 31 rfl) (by decide) (fun c => ?_) (fun c => ?_)
  · replace hv := hv.1 c
    refine gk_aload_n (pc := 83) (DX12_begin_0.at 50 rfl) 0 rfl rfl ?_
    obtain ⟨fs1, v1, q1, r1, hv⟩ := hv
    refine gk_get (pc := 84) (.int v1) (DX12_begin_0.at 51 rfl) fX12_226_11 q1 r1 ?_
    exact gk_ireturn (pc := 87) .int (DX12_begin_0.at 52 rfl) rfl rfl ⟨_, rfl, hv⟩
  · replace hv := hv.2 c
    refine gk_aload_n (pc := 53) (DX12_begin_0.at 32 rfl) 0 rfl rfl ?_
    obtain ⟨fs2, v2, q2, r2, hv⟩ := hv
    refine gk_get (pc := 54) (.ref v2) (DX12_begin_0.at 33 rfl) fX12_29_11 q2 r2 ?_
    refine gk_aload_n (pc := 57) (DX12_begin_0.at 34 rfl) 0 rfl rfl ?_
    obtain ⟨fs3, v3, q3, r3, hv⟩ := hv
    refine gk_get (pc := 58) (.int v3) (DX12_begin_0.at 35 rfl) fX12_226_11 q3 r3 ?_
    refine gk_iload_n (pc := 61) (DX12_begin_0.at 36 rfl) 2 rfl rfl ?_
    obtain ⟨n4, f4, q4, r4, hv⟩ := hv
    refine gk_iast (pc := 62) (DX12_begin_0.at 37 rfl) q4 r4 ?_
    generalize h.set _ _ = h4 at hv ⊢
    refine gk_aload_n (pc := 63) (DX12_begin_0.at 38 rfl) 0 rfl rfl ?_
    refine gk_dup (pc := 64) (DX12_begin_0.at 39 rfl) rfl ?_
    obtain ⟨fs5, v5, q5, r5, hv⟩ := hv
    refine gk_get (pc := 65) (.int v5) (DX12_begin_0.at 40 rfl) fX12_226_11 q5 r5 ?_
    refine gk_iconst (pc := 68) (nI 1) (DX12_begin_0.at 41 rfl) ci_1 ?_
    refine gk_iadd (pc := 69) (DX12_begin_0.at 42 rfl) ?_
    obtain ⟨fs6, q6, r6, hv⟩ := hv
    refine gk_put (pc := 70) (DX12_begin_0.at 43 rfl) fX12_226_11w q6 r6 rfl rfl ?_
    generalize h4.set _ _ = h6 at hv ⊢
    refine gk_aload_n (pc := 73) (DX12_begin_0.at 44 rfl) 0 rfl rfl ?_
    refine gk_iconst (pc := 74) (nI 4) (DX12_begin_0.at 45 rfl) ci_4 ?_
    refine gk_iload_n (pc := 75) (DX12_begin_0.at 46 rfl) 2 rfl rfl ?_
    obtain ⟨⟨fs7, q7⟩, hv⟩ := hv
    refine gk_vV (pc := 76) [.int (nI 4), .int x2] [] (DX12_begin_0.at 47 rfl) cvX12_171 q7 rfl rfl (Nat.le_of_ble_eq_true rfl) (Nat.le_of_ble_eq_true rfl) (gk_Run.post (fun o h7 z => ?_) hv)
    obtain ⟨v7, rfl, hv⟩ := z
    refine gk_istore_n (pc := 79) [(2, .int v7), (0, .ref o), (1, .int x1)] (DX12_begin_0.at 48 rfl) rfl (Nat.le_of_ble_eq_true rfl) rfl ?_
    refine gk_goto (pc := 80) 48 (DX12_begin_0.at 49 rfl) (by decide) ?_
    exact gk_pick (pc := 48) [(0, .ref o), (1, .int x1), (2, .int v7)] [1, 2, 0] rfl hv
set_option maxHeartbeats 4000000 in
theorem vX12_board_0 {E : gk_E} {dd : Nat} {o : Nat} {x1 : Int32}  {h : gk_H} {K : Int32 → gk_H → Prop} (hv : LdI h o 11 6 fun v1 => (¬ v1 = 0 → (¬ x1 = 0 → (¬ x1 = (nI 1) → (¬ x1 = (nI 2) → K ((-1)) h) ∧ (x1 = (nI 2) → LdI h o 11 9 fun v2 => K v2 h)) ∧ (x1 = (nI 1) → LdI h o 11 8 fun v3 => K v3 h)) ∧ (x1 = 0 → LdR h o 11 3 fun v4 => AlI h v4 (nI 4) fun v5 => K v5 h)) ∧ (v1 = 0 → K ((-3)) h)) : RnI E mX12_board (dd, 0, 0) [.ref o, .int x1] h K := by
  show gk_G E mX12_board (dd, 0, 0) 0 [(0, .ref o), (1, .int x1)] [] h (fun o h1 => ∃ v, o = some (.int v) ∧ K v h1)
  refine gk_aload_n (pc := 0) (DX12_board_0.at 0 rfl) 0 rfl rfl ?_
  obtain ⟨fs1, v1, q1, r1, hv⟩ := hv
  refine gk_get (pc := 1) (.int v1) (DX12_board_0.at 1 rfl) fX12_78_11 q1 r1 ?_
  refine gk_if_ne (pc := 4) 10 (DX12_board_0.at 2 rfl) (by decide) (fun c => ?_) (fun c => ?_)
  · replace hv := hv.1 c
    refine gk_iload_n (pc := 10) (DX12_board_0.at 5 rfl) 1 rfl rfl ?_
    refine gk_if_ne (pc := 11) 23 (DX12_board_0.at 6 rfl) (by decide) (fun c => ?_) (fun c => ?_)
    · replace hv := hv.1 c
      refine gk_iload_n (pc := 23) (DX12_board_0.at 12 rfl) 1 rfl rfl ?_
      refine gk_iconst (pc := 24) (nI 1) (DX12_board_0.at 13 rfl) ci_1 ?_
      refine gk_icmp_ne (pc := 25) 35 (DX12_board_0.at 14 rfl) (by decide) (fun c => ?_) (fun c => ?_)
      · replace hv := hv.1 c
        refine gk_iload_n (pc := 35) (DX12_board_0.at 18 rfl) 1 rfl rfl ?_
        refine gk_iconst (pc := 36) (nI 2) (DX12_board_0.at 19 rfl) ci_2 ?_
        refine gk_icmp_ne (pc := 37) 47 (DX12_board_0.at 20 rfl) (by decide) (fun c => ?_) (fun c => ?_)
        · replace hv := hv.1 c
          refine gk_iconst (pc := 47) ((-1)) (DX12_board_0.at 24 rfl) ci_m1 ?_
          exact gk_ireturn (pc := 48) .int (DX12_board_0.at 25 rfl) rfl rfl ⟨_, rfl, hv⟩
        · replace hv := hv.2 c
          refine gk_aload_n (pc := 40) (DX12_board_0.at 21 rfl) 0 rfl rfl ?_
          obtain ⟨fs2, v2, q2, r2, hv⟩ := hv
          refine gk_get (pc := 41) (.int v2) (DX12_board_0.at 22 rfl) fX12_229_11 q2 r2 ?_
          refine gk_goto (pc := 44) 48 (DX12_board_0.at 23 rfl) (by decide) ?_
          exact gk_ireturn (pc := 48) .int (DX12_board_0.at 25 rfl) rfl rfl ⟨_, rfl, hv⟩
      · replace hv := hv.2 c
        refine gk_aload_n (pc := 28) (DX12_board_0.at 15 rfl) 0 rfl rfl ?_
        obtain ⟨fs3, v3, q3, r3, hv⟩ := hv
        refine gk_get (pc := 29) (.int v3) (DX12_board_0.at 16 rfl) fX12_226_11 q3 r3 ?_
        refine gk_goto (pc := 32) 48 (DX12_board_0.at 17 rfl) (by decide) ?_
        exact gk_ireturn (pc := 48) .int (DX12_board_0.at 25 rfl) rfl rfl ⟨_, rfl, hv⟩
    · replace hv := hv.2 c
      refine gk_aload_n (pc := 14) (DX12_board_0.at 7 rfl) 0 rfl rfl ?_
      obtain ⟨fs4, v4, q4, r4, hv⟩ := hv
      refine gk_get (pc := 15) (.ref v4) (DX12_board_0.at 8 rfl) fX12_23_11 q4 r4 ?_
      refine gk_iconst (pc := 18) (nI 4) (DX12_board_0.at 9 rfl) ci_4 ?_
      obtain ⟨n5, f5, q5, r5, hv⟩ := hv
      refine gk_iald (pc := 19) (DX12_board_0.at 10 rfl) q5 r5 ?_
      generalize f5 _ = v5 at hv ⊢
      refine gk_goto (pc := 20) 48 (DX12_board_0.at 11 rfl) (by decide) ?_
      exact gk_ireturn (pc := 48) .int (DX12_board_0.at 25 rfl) rfl rfl ⟨_, rfl, hv⟩
  · replace hv := hv.2 c
    refine gk_bipush (pc := 7) ((-3)) (DX12_board_0.at 3 rfl) cb_m3 ?_
    exact gk_ireturn (pc := 9) .int (DX12_board_0.at 4 rfl) rfl rfl ⟨_, rfl, hv⟩
abbrev pX12_broken_29 (E : gk_E) (dd : Nat) (o : Nat) (x1 : Int32) (x2 : Int32) (x3 : Int32) (x4 : Int32) (x5 : Int32) (x6 : Int32) (h : gk_H) (K : Int32 → gk_H → Prop) : Prop := gk_G E mX12_broken (dd + 1, 0, 0) 29 [(0, .ref o), (1, .int x1), (2, .int x2), (3, .int x3), (4, .int x4), (5, .int x5), (6, .int x6)] [] h (fun o h1 => ∃ v, o = some (.int v) ∧ K v h1)
abbrev pX12_broken_41 (E : gk_E) (dd : Nat) (o : Nat) (x1 : Int32) (x2 : Int32) (x3 : Int32) (x4 : Int32) (x5 : Int32) (x6 : Int32) (x7 : Int32) (h : gk_H) (K : Int32 → gk_H → Prop) : Prop := gk_G E mX12_broken (dd + 1, 0, 0) 41 [(0, .ref o), (1, .int x1), (2, .int x2), (3, .int x3), (4, .int x4), (5, .int x5), (6, .int x6), (7, .int x7)] [] h (fun o h1 => ∃ v, o = some (.int v) ∧ K v h1)
abbrev pX12_broken_95 (E : gk_E) (dd : Nat) (o : Nat) (x1 : Int32) (x2 : Int32) (x3 : Int32) (x4 : Int32) (x5 : Int32) (x6 : Int32) (x7 : Int32) (x8 : Int32) (x9 : Int32) (h : gk_H) (K : Int32 → gk_H → Prop) : Prop := gk_G E mX12_broken (dd + 1, 0, 0) 95 [(0, .ref o), (1, .int x1), (2, .int x2), (3, .int x3), (4, .int x4), (5, .int x5), (6, .int x6), (7, .int x7), (8, .int x8), (9, .int x9)] [] h (fun o h1 => ∃ v, o = some (.int v) ∧ K v h1)
set_option maxHeartbeats 4000000 in
theorem vX12_broken_0 {E : gk_E} {dd : Nat} {o : Nat} {x1 : Int32}  {h : gk_H} {K : Int32 → gk_H → Prop} (hv : RnI E mX12_isFrom (dd, 0, 0) [.long x1.toInt64, .long (lN 0), .long (lN 3)] h (fun v1 h1 => (¬ v1 = 0 → pX12_broken_29 E dd o x1 (nI 0) ((-5)) (nI 0) ((-5)) (nI 0) h1 K) ∧ (v1 = 0 → K ((-1)) h1))) : RnI E mX12_broken (dd + 1, 0, 0) [.ref o, .int x1] h K := by
  show gk_G E mX12_broken (dd + 1, 0, 0) 0 [(0, .ref o), (1, .int x1)] [] h (fun o h1 => ∃ v, o = some (.int v) ∧ K v h1)
  refine gk_iload_n (pc := 0) (DX12_broken_0.at 0 rfl) 1 rfl rfl ?_
  refine gk_i2l (pc := 1) (DX12_broken_0.at 1 rfl) ?_
  refine gk_lconst (pc := 2) (lN 0) (DX12_broken_0.at 2 rfl) rfl ?_
  refine gk_ldc2 (pc := 3) (lN 3) (DX12_broken_0.at 3 rfl) klX12_125 ?_
  refine gk_vS (pc := 6) [.long x1.toInt64, .long (lN 0), .long (lN 3)] [] (DX12_broken_0.at 4 rfl) csX12_70 rfl rfl (Nat.le_of_ble_eq_true rfl) (Nat.le_of_ble_eq_true rfl) (gk_Run.post (fun o h1 z => ?_) hv)
  obtain ⟨v1, rfl, hv⟩ := z
  refine gk_if_ne (pc := 9) 14 (DX12_broken_0.at 5 rfl) (by decide) (fun c => ?_) (fun c => ?_)
  · replace hv := hv.1 c
    refine gk_iconst (pc := 14) (nI 0) (DX12_broken_0.at 8 rfl) ci_0 ?_
    refine gk_istore_n (pc := 15) [(2, .int (nI 0)), (0, .ref o), (1, .int x1)] (DX12_broken_0.at 9 rfl) rfl (Nat.le_of_ble_eq_true rfl) rfl ?_
    refine gk_bipush (pc := 16) ((-5)) (DX12_broken_0.at 10 rfl) cb_m5 ?_
    refine gk_istore_n (pc := 18) [(3, .int ((-5))), (2, .int (nI 0)), (0, .ref o), (1, .int x1)] (DX12_broken_0.at 11 rfl) rfl (Nat.le_of_ble_eq_true rfl) rfl ?_
    refine gk_iconst (pc := 19) (nI 0) (DX12_broken_0.at 12 rfl) ci_0 ?_
    refine gk_istore (pc := 20) [(4, .int (nI 0)), (3, .int ((-5))), (2, .int (nI 0)), (0, .ref o), (1, .int x1)] (DX12_broken_0.at 13 rfl) (Nat.le_of_ble_eq_true rfl) rfl ?_
    refine gk_bipush (pc := 22) ((-5)) (DX12_broken_0.at 14 rfl) cb_m5 ?_
    refine gk_istore (pc := 24) [(5, .int ((-5))), (4, .int (nI 0)), (3, .int ((-5))), (2, .int (nI 0)), (0, .ref o), (1, .int x1)] (DX12_broken_0.at 15 rfl) (Nat.le_of_ble_eq_true rfl) rfl ?_
    refine gk_iconst (pc := 26) (nI 0) (DX12_broken_0.at 16 rfl) ci_0 ?_
    refine gk_istore (pc := 27) [(6, .int (nI 0)), (5, .int ((-5))), (4, .int (nI 0)), (3, .int ((-5))), (2, .int (nI 0)), (0, .ref o), (1, .int x1)] (DX12_broken_0.at 17 rfl) (Nat.le_of_ble_eq_true rfl) rfl ?_
    exact gk_pick (pc := 29) [(0, .ref o), (1, .int x1), (2, .int (nI 0)), (3, .int ((-5))), (4, .int (nI 0)), (5, .int ((-5))), (6, .int (nI 0))] [5, 6, 4, 3, 2, 1, 0] rfl hv
  · replace hv := hv.2 c
    refine gk_iconst (pc := 12) ((-1)) (DX12_broken_0.at 6 rfl) ci_m1 ?_
    exact gk_ireturn (pc := 13) .int (DX12_broken_0.at 7 rfl) rfl rfl ⟨_, rfl, hv⟩
set_option maxHeartbeats 4000000 in
theorem vX12_broken_29 {E : gk_E} {dd : Nat} {o : Nat} {x1 : Int32} {x2 : Int32} {x3 : Int32} {x4 : Int32} {x5 : Int32} {x6 : Int32}  {h : gk_H} {K : Int32 → gk_H → Prop} (hv : LdI h o 11 0 fun v1 => (v1 ≤ x6 → (¬ x1 = 0 → (¬ x1 = (nI 1) → (¬ x1 = (nI 2) → K x5 h) ∧ (x1 = (nI 2) → K x4 h)) ∧ (x1 = (nI 1) → K x3 h)) ∧ (x1 = 0 → K x2 h)) ∧ (¬ v1 ≤ x6 → pX12_broken_41 E dd o x1 x2 x3 x4 x5 x6 (nI 0) h K)) : pX12_broken_29 E dd o x1 x2 x3 x4 x5 x6 h K := by
  show gk_G E mX12_broken (dd + 1, 0, 0) 29 [(0, .ref o), (1, .int x1), (2, .int x2), (3, .int x3), (4, .int x4), (5, .int x5), (6, .int x6)] [] h (fun o h1 => ∃ v, o = some (.int v) ∧ K v h1)
  refine gk_iload (pc := 29) (DX12_broken_0.at 18 rfl) 6 rfl ?_
  refine gk_aload_n (pc := 31) (DX12_broken_0.at 19 rfl) 0 rfl rfl ?_
  obtain ⟨fs1, v1, q1, r1, hv⟩ := hv
  refine gk_get (pc := 32) (.int v1) (DX12_broken_0.at 20 rfl) fX12_9_11 q1 r1 ?_
  refine gk_icmp_ge (pc := 35) 181 (DX12_broken_0.at 21 rfl) (by decide) (fun c => ?_) (fun c => ?_)
  · replace hv := hv.1 c
    refine gk_iload_n (pc := 181) (DX12_broken_1.at 37 rfl) 1 rfl rfl ?_
    refine gk_if_ne (pc := 182) 189 (DX12_broken_1.at 38 rfl) (by decide) (fun c => ?_) (fun c => ?_)
    · replace hv := hv.1 c
      refine gk_iload_n (pc := 189) (DX12_broken_1.at 41 rfl) 1 rfl rfl ?_
      refine gk_iconst (pc := 190) (nI 1) (DX12_broken_1.at 42 rfl) ci_1 ?_
      refine gk_icmp_ne (pc := 191) 198 (DX12_broken_1.at 43 rfl) (by decide) (fun c => ?_) (fun c => ?_)
      · replace hv := hv.1 c
        refine gk_iload_n (pc := 198) (DX12_broken_1.at 46 rfl) 1 rfl rfl ?_
        refine gk_iconst (pc := 199) (nI 2) (DX12_broken_1.at 47 rfl) ci_2 ?_
        refine gk_icmp_ne (pc := 200) 208 (DX12_broken_1.at 48 rfl) (by decide) (fun c => ?_) (fun c => ?_)
        · replace hv := hv.1 c
          refine gk_iload (pc := 208) (DX12_broken_1.at 51 rfl) 5 rfl ?_
          exact gk_ireturn (pc := 210) .int (DX12_broken_1.at 52 rfl) rfl rfl ⟨_, rfl, hv⟩
        · replace hv := hv.2 c
          refine gk_iload (pc := 203) (DX12_broken_1.at 49 rfl) 4 rfl ?_
          refine gk_goto (pc := 205) 210 (DX12_broken_1.at 50 rfl) (by decide) ?_
          exact gk_ireturn (pc := 210) .int (DX12_broken_1.at 52 rfl) rfl rfl ⟨_, rfl, hv⟩
      · replace hv := hv.2 c
        refine gk_iload_n (pc := 194) (DX12_broken_1.at 44 rfl) 3 rfl rfl ?_
        refine gk_goto (pc := 195) 210 (DX12_broken_1.at 45 rfl) (by decide) ?_
        exact gk_ireturn (pc := 210) .int (DX12_broken_1.at 52 rfl) rfl rfl ⟨_, rfl, hv⟩
    · replace hv := hv.2 c
      refine gk_iload_n (pc := 185) (DX12_broken_1.at 39 rfl) 2 rfl rfl ?_
      refine gk_goto (pc := 186) 210 (DX12_broken_1.at 40 rfl) (by decide) ?_
      exact gk_ireturn (pc := 210) .int (DX12_broken_1.at 52 rfl) rfl rfl ⟨_, rfl, hv⟩
  · replace hv := hv.2 c
    refine gk_iconst (pc := 38) (nI 0) (DX12_broken_0.at 22 rfl) ci_0 ?_
    refine gk_istore (pc := 39) [(7, .int (nI 0)), (0, .ref o), (1, .int x1), (2, .int x2), (3, .int x3), (4, .int x4), (5, .int x5), (6, .int x6)] (DX12_broken_0.at 23 rfl) (Nat.le_of_ble_eq_true rfl) rfl ?_
    exact gk_pick (pc := 41) [(0, .ref o), (1, .int x1), (2, .int x2), (3, .int x3), (4, .int x4), (5, .int x5), (6, .int x6), (7, .int (nI 0))] [1, 2, 3, 4, 5, 6, 7, 0] rfl hv
set_option maxHeartbeats 4000000 in
theorem vX12_broken_41 {E : gk_E} {dd : Nat} {o : Nat} {x1 : Int32} {x2 : Int32} {x3 : Int32} {x4 : Int32} {x5 : Int32} {x6 : Int32} {x7 : Int32}  {h : gk_H} {K : Int32 → gk_H → Prop} (hv : LdI h o 11 0 fun v1 => (v1 ≤ x7 → pX12_broken_29 E dd o x1 x2 x3 x4 x5 (x6 + nI 1) h K) ∧ (¬ v1 ≤ x7 → (∃ fs, h[o]? = some (.inr (11, fs))) ∧ RnI E mX12_composed (dd, 0, 0) [.ref o, .int ((nI 1) <<< (x6 &&& 31)), .int ((nI 1) <<< (x7 &&& 31))] h (fun v2 h2 => (¬ v2 = 0 → pX12_broken_95 E dd o x1 x2 x3 x4 x5 x6 x7 v2 (nI 0) h2 K) ∧ (v2 = 0 → (¬ x4 = 0 → pX12_broken_95 E dd o x1 x2 x3 (x4 + nI 1) x5 x6 x7 v2 (nI 0) h2 K) ∧ (x4 = 0 → pX12_broken_95 E dd o x1 x2 x3 (x4 + nI 1) (((nI 10) * x6) + x7) x6 x7 v2 (nI 0) h2 K))))) : pX12_broken_41 E dd o x1 x2 x3 x4 x5 x6 x7 h K := by
  show gk_G E mX12_broken (dd + 1, 0, 0) 41 [(0, .ref o), (1, .int x1), (2, .int x2), (3, .int x3), (4, .int x4), (5, .int x5), (6, .int x6), (7, .int x7)] [] h (fun o h1 => ∃ v, o = some (.int v) ∧ K v h1)
  refine gk_iload (pc := 41) (DX12_broken_0.at 24 rfl) 7 rfl ?_
  refine gk_aload_n (pc := 43) (DX12_broken_0.at 25 rfl) 0 rfl rfl ?_
  obtain ⟨fs1, v1, q1, r1, hv⟩ := hv
  refine gk_get (pc := 44) (.int v1) (DX12_broken_0.at 26 rfl) fX12_9_11 q1 r1 ?_
  refine gk_icmp_ge (pc := 47) 175 (DX12_broken_0.at 27 rfl) (by decide) (fun c => ?_) (fun c => ?_)
  · replace hv := hv.1 c
    refine gk_iinc (pc := 175) (x6 + nI 1) [(6, .int (x6 + nI 1)), (0, .ref o), (1, .int x1), (2, .int x2), (3, .int x3), (4, .int x4), (5, .int x5), (7, .int x7)] 6 (DX12_broken_1.at 35 rfl) rfl (by rw [ci_1]) (Nat.le_of_ble_eq_true rfl) rfl ?_
    refine gk_goto (pc := 178) 29 (DX12_broken_1.at 36 rfl) (by decide) ?_
    exact gk_pick (pc := 29) [(0, .ref o), (1, .int x1), (2, .int x2), (3, .int x3), (4, .int x4), (5, .int x5), (6, .int (x6 + nI 1))] [1, 2, 3, 4, 5, 6, 0] rfl hv
  · replace hv := hv.2 c
    refine gk_aload_n (pc := 50) (DX12_broken_0.at 28 rfl) 0 rfl rfl ?_
    refine gk_iconst (pc := 51) (nI 1) (DX12_broken_0.at 29 rfl) ci_1 ?_
    refine gk_iload (pc := 52) (DX12_broken_0.at 30 rfl) 6 rfl ?_
    refine gk_ishl (pc := 54) (DX12_broken_0.at 31 rfl) ?_
    refine gk_iconst (pc := 55) (nI 1) (DX12_broken_0.at 32 rfl) ci_1 ?_
    refine gk_iload (pc := 56) (DX12_broken_0.at 33 rfl) 7 rfl ?_
    refine gk_ishl (pc := 58) (DX12_broken_0.at 34 rfl) ?_
    obtain ⟨⟨fs2, q2⟩, hv⟩ := hv
    refine gk_vV (pc := 59) [.int ((nI 1) <<< (x6 &&& 31)), .int ((nI 1) <<< (x7 &&& 31))] [] (DX12_broken_0.at 35 rfl) cvX12_109 q2 rfl rfl (Nat.le_of_ble_eq_true rfl) (Nat.le_of_ble_eq_true rfl) (gk_Run.post (fun o h2 z => ?_) hv)
    obtain ⟨v2, rfl, hv⟩ := z
    refine gk_istore (pc := 62) [(8, .int v2), (0, .ref o), (1, .int x1), (2, .int x2), (3, .int x3), (4, .int x4), (5, .int x5), (6, .int x6), (7, .int x7)] (DX12_broken_0.at 36 rfl) (Nat.le_of_ble_eq_true rfl) rfl ?_
    refine gk_iload (pc := 64) (DX12_broken_0.at 37 rfl) 0 rfl ?_
    refine gk_if_ne (pc := 66) 92 (DX12_broken_0.at 38 rfl) (by decide) (fun c => ?_) (fun c => ?_)
    · replace hv := hv.1 c
      refine gk_iconst (pc := 92) (nI 0) (DX12_broken_0.at 50 rfl) ci_0 ?_
      refine gk_istore (pc := 93) [(9, .int (nI 0)), (8, .int v2), (0, .ref o), (1, .int x1), (2, .int x2), (3, .int x3), (4, .int x4), (5, .int x5), (6, .int x6), (7, .int x7)] (DX12_broken_0.at 51 rfl) (Nat.le_of_ble_eq_true rfl) rfl ?_
      exact gk_pick (pc := 95) [(0, .ref o), (1, .int x1), (2, .int x2), (3, .int x3), (4, .int x4), (5, .int x5), (6, .int x6), (7, .int x7), (8, .int v2), (9, .int (nI 0))] [2, 3, 4, 5, 6, 7, 8, 9, 1, 0] rfl hv
    · replace hv := hv.2 c
      refine gk_iload (pc := 69) (DX12_broken_0.at 39 rfl) 5 rfl ?_
      refine gk_if_ne (pc := 71) 85 (DX12_broken_0.at 40 rfl) (by decide) (fun c => ?_) (fun c => ?_)
      · replace hv := hv.1 c
        refine gk_iload (pc := 85) (DX12_broken_0.at 47 rfl) 6 rfl ?_
        refine gk_istore (pc := 87) [(5, .int x5), (8, .int v2), (0, .ref o), (1, .int x1), (2, .int x2), (3, .int x3), (4, .int x4), (6, .int x6), (7, .int x7)] (DX12_broken_0.at 48 rfl) (Nat.le_of_ble_eq_true rfl) rfl ?_
        refine gk_iinc (pc := 89) (x4 + nI 1) [(4, .int (x4 + nI 1)), (5, .int x5), (8, .int v2), (0, .ref o), (1, .int x1), (2, .int x2), (3, .int x3), (6, .int x6), (7, .int x7)] 6 (DX12_broken_0.at 49 rfl) rfl (by rw [ci_1]) (Nat.le_of_ble_eq_true rfl) rfl ?_
        refine gk_iconst (pc := 92) (nI 0) (DX12_broken_0.at 50 rfl) ci_0 ?_
        refine gk_istore (pc := 93) [(9, .int (nI 0)), (4, .int (x4 + nI 1)), (5, .int x5), (8, .int v2), (0, .ref o), (1, .int x1), (2, .int x2), (3, .int x3), (6, .int x6), (7, .int x7)] (DX12_broken_0.at 51 rfl) (Nat.le_of_ble_eq_true rfl) rfl ?_
        exact gk_pick (pc := 95) [(0, .ref o), (1, .int x1), (2, .int x2), (3, .int x3), (4, .int (x4 + nI 1)), (5, .int x5), (6, .int x6), (7, .int x7), (8, .int v2), (9, .int (nI 0))] [4, 5, 6, 7, 1, 2, 8, 9, 3, 0] rfl hv
      · replace hv := hv.2 c
        refine gk_bipush (pc := 74) (nI 10) (DX12_broken_0.at 41 rfl) cb_10 ?_
        refine gk_iload (pc := 76) (DX12_broken_0.at 42 rfl) 7 rfl ?_
        refine gk_imul (pc := 78) (DX12_broken_0.at 43 rfl) ?_
        refine gk_iload (pc := 79) (DX12_broken_0.at 44 rfl) 8 rfl ?_
        refine gk_iadd (pc := 81) (DX12_broken_0.at 45 rfl) ?_
        refine gk_goto (pc := 82) 87 (DX12_broken_0.at 46 rfl) (by decide) ?_
        refine gk_istore (pc := 87) [(5, .int (((nI 10) * x6) + x7)), (8, .int v2), (0, .ref o), (1, .int x1), (2, .int x2), (3, .int x3), (4, .int x4), (6, .int x6), (7, .int x7)] (DX12_broken_0.at 48 rfl) (Nat.le_of_ble_eq_true rfl) rfl ?_
        refine gk_iinc (pc := 89) (x4 + nI 1) [(4, .int (x4 + nI 1)), (5, .int (((nI 10) * x6) + x7)), (8, .int v2), (0, .ref o), (1, .int x1), (2, .int x2), (3, .int x3), (6, .int x6), (7, .int x7)] 6 (DX12_broken_0.at 49 rfl) rfl (by rw [ci_1]) (Nat.le_of_ble_eq_true rfl) rfl ?_
        refine gk_iconst (pc := 92) (nI 0) (DX12_broken_0.at 50 rfl) ci_0 ?_
        refine gk_istore (pc := 93) [(9, .int (nI 0)), (4, .int (x4 + nI 1)), (5, .int (((nI 10) * x6) + x7)), (8, .int v2), (0, .ref o), (1, .int x1), (2, .int x2), (3, .int x3), (6, .int x6), (7, .int x7)] (DX12_broken_0.at 51 rfl) (Nat.le_of_ble_eq_true rfl) rfl ?_
        exact gk_pick (pc := 95) [(0, .ref o), (1, .int x1), (2, .int x2), (3, .int x3), (4, .int (x4 + nI 1)), (5, .int (((nI 10) * x6) + x7)), (6, .int x6), (7, .int x7), (8, .int v2), (9, .int (nI 0))] [4, 5, 6, 7, 1, 2, 8, 9, 3, 0] rfl hv
set_option maxHeartbeats 4000000 in
theorem vX12_broken_95 {E : gk_E} {dd : Nat} {o : Nat} {x1 : Int32} {x2 : Int32} {x3 : Int32} {x4 : Int32} {x5 : Int32} {x6 : Int32} {x7 : Int32} {x8 : Int32} {x9 : Int32}  {h : gk_H} {K : Int32 → gk_H → Prop} (hv : LdI h o 11 0 fun v1 => (v1 ≤ x9 → pX12_broken_41 E dd o x1 x2 x3 x4 x5 x6 (x7 + nI 1) h K) ∧ (¬ v1 ≤ x9 → (∃ fs, h[o]? = some (.inr (11, fs))) ∧ RnI E mX12_composed (dd, 0, 0) [.ref o, .int x8, .int ((nI 1) <<< (x9 &&& 31))] h (fun v2 h2 => (∃ fs, h2[o]? = some (.inr (11, fs))) ∧ RnI E mX12_composed (dd, 0, 0) [.ref o, .int ((nI 1) <<< (x7 &&& 31)), .int ((nI 1) <<< (x9 &&& 31))] h2 (fun v3 h3 => (∃ fs, h3[o]? = some (.inr (11, fs))) ∧ RnI E mX12_composed (dd, 0, 0) [.ref o, .int ((nI 1) <<< (x6 &&& 31)), .int v3] h3 (fun v4 h4 => (v2 = v4 → pX12_broken_95 E dd o x1 x2 x3 x4 x5 x6 x7 x8 (x9 + nI 1) h4 K) ∧ (¬ v2 = v4 → (¬ x2 = 0 → pX12_broken_95 E dd o x1 (x2 + nI 1) x3 x4 x5 x6 x7 x8 (x9 + nI 1) h4 K) ∧ (x2 = 0 → pX12_broken_95 E dd o x1 (x2 + nI 1) ((((nI 100) * x6) + ((nI 10) * x7)) + x9) x4 x5 x6 x7 x8 (x9 + nI 1) h4 K))))))) : pX12_broken_95 E dd o x1 x2 x3 x4 x5 x6 x7 x8 x9 h K := by
  show gk_G E mX12_broken (dd + 1, 0, 0) 95 [(0, .ref o), (1, .int x1), (2, .int x2), (3, .int x3), (4, .int x4), (5, .int x5), (6, .int x6), (7, .int x7), (8, .int x8), (9, .int x9)] [] h (fun o h1 => ∃ v, o = some (.int v) ∧ K v h1)
  refine gk_iload (pc := 95) (DX12_broken_0.at 52 rfl) 9 rfl ?_
  refine gk_aload_n (pc := 97) (DX12_broken_0.at 53 rfl) 0 rfl rfl ?_
  obtain ⟨fs1, v1, q1, r1, hv⟩ := hv
  refine gk_get (pc := 98) (.int v1) (DX12_broken_0.at 54 rfl) fX12_9_11 q1 r1 ?_
  refine gk_icmp_ge (pc := 101) 169 (DX12_broken_0.at 55 rfl) (by decide) (fun c => ?_) (fun c => ?_)
  · replace hv := hv.1 c
    refine gk_iinc (pc := 169) (x7 + nI 1) [(7, .int (x7 + nI 1)), (0, .ref o), (1, .int x1), (2, .int x2), (3, .int x3), (4, .int x4), (5, .int x5), (6, .int x6), (8, .int x8), (9, .int x9)] 7 (DX12_broken_1.at 33 rfl) rfl (by rw [ci_1]) (Nat.le_of_ble_eq_true rfl) rfl ?_
    refine gk_goto (pc := 172) 41 (DX12_broken_1.at 34 rfl) (by decide) ?_
    exact gk_pick (pc := 41) [(0, .ref o), (1, .int x1), (2, .int x2), (3, .int x3), (4, .int x4), (5, .int x5), (6, .int x6), (7, .int (x7 + nI 1))] [1, 2, 3, 4, 5, 6, 7, 0] rfl hv
  · replace hv := hv.2 c
    refine gk_aload_n (pc := 104) (DX12_broken_0.at 56 rfl) 0 rfl rfl ?_
    refine gk_iload (pc := 105) (DX12_broken_0.at 57 rfl) 8 rfl ?_
    refine gk_iconst (pc := 107) (nI 1) (DX12_broken_0.at 58 rfl) ci_1 ?_
    refine gk_iload (pc := 108) (DX12_broken_0.at 59 rfl) 9 rfl ?_
    refine gk_ishl (pc := 110) (DX12_broken_1.at 0 rfl) ?_
    obtain ⟨⟨fs2, q2⟩, hv⟩ := hv
    refine gk_vV (pc := 111) [.int x8, .int ((nI 1) <<< (x9 &&& 31))] [] (DX12_broken_1.at 1 rfl) cvX12_109 q2 rfl rfl (Nat.le_of_ble_eq_true rfl) (Nat.le_of_ble_eq_true rfl) (gk_Run.post (fun o h2 z => ?_) hv)
    obtain ⟨v2, rfl, hv⟩ := z
    refine gk_aload_n (pc := 114) (DX12_broken_1.at 2 rfl) 0 rfl rfl ?_
    refine gk_iconst (pc := 115) (nI 1) (DX12_broken_1.at 3 rfl) ci_1 ?_
    refine gk_iload (pc := 116) (DX12_broken_1.at 4 rfl) 6 rfl ?_
    refine gk_ishl (pc := 118) (DX12_broken_1.at 5 rfl) ?_
    refine gk_aload_n (pc := 119) (DX12_broken_1.at 6 rfl) 0 rfl rfl ?_
    refine gk_iconst (pc := 120) (nI 1) (DX12_broken_1.at 7 rfl) ci_1 ?_
    refine gk_iload (pc := 121) (DX12_broken_1.at 8 rfl) 7 rfl ?_
    refine gk_ishl (pc := 123) (DX12_broken_1.at 9 rfl) ?_
    refine gk_iconst (pc := 124) (nI 1) (DX12_broken_1.at 10 rfl) ci_1 ?_
    refine gk_iload (pc := 125) (DX12_broken_1.at 11 rfl) 9 rfl ?_
    refine gk_ishl (pc := 127) (DX12_broken_1.at 12 rfl) ?_
    obtain ⟨⟨fs3, q3⟩, hv⟩ := hv
    refine gk_vV (pc := 128) [.int ((nI 1) <<< (x7 &&& 31)), .int ((nI 1) <<< (x9 &&& 31))] [.int ((nI 1) <<< (x6 &&& 31)), .ref o, .int v2] (DX12_broken_1.at 13 rfl) cvX12_109 q3 rfl rfl (Nat.le_of_ble_eq_true rfl) (Nat.le_of_ble_eq_true rfl) (gk_Run.post (fun o h3 z => ?_) hv)
    obtain ⟨v3, rfl, hv⟩ := z
    obtain ⟨⟨fs4, q4⟩, hv⟩ := hv
    refine gk_vV (pc := 131) [.int ((nI 1) <<< (x6 &&& 31)), .int v3] [.int v2] (DX12_broken_1.at 14 rfl) cvX12_109 q4 rfl rfl (Nat.le_of_ble_eq_true rfl) (Nat.le_of_ble_eq_true rfl) (gk_Run.post (fun o h4 z => ?_) hv)
    obtain ⟨v4, rfl, hv⟩ := z
    refine gk_icmp_eq (pc := 134) 163 (DX12_broken_1.at 15 rfl) (by decide) (fun c => ?_) (fun c => ?_)
    · replace hv := hv.1 c
      refine gk_iinc (pc := 163) (x9 + nI 1) [(9, .int (x9 + nI 1)), (0, .ref o), (1, .int x1), (2, .int x2), (3, .int x3), (4, .int x4), (5, .int x5), (6, .int x6), (7, .int x7), (8, .int x8)] 9 (DX12_broken_1.at 31 rfl) rfl (by rw [ci_1]) (Nat.le_of_ble_eq_true rfl) rfl ?_
      refine gk_goto (pc := 166) 95 (DX12_broken_1.at 32 rfl) (by decide) ?_
      exact gk_pick (pc := 95) [(0, .ref o), (1, .int x1), (2, .int x2), (3, .int x3), (4, .int x4), (5, .int x5), (6, .int x6), (7, .int x7), (8, .int x8), (9, .int (x9 + nI 1))] [1, 2, 3, 4, 5, 6, 7, 8, 9, 0] rfl hv
    · replace hv := hv.2 c
      refine gk_iload_n (pc := 137) (DX12_broken_1.at 16 rfl) 2 rfl rfl ?_
      refine gk_if_ne (pc := 138) 158 (DX12_broken_1.at 17 rfl) (by decide) (fun c => ?_) (fun c => ?_)
      · replace hv := hv.1 c
        refine gk_iload_n (pc := 158) (DX12_broken_1.at 28 rfl) 3 rfl rfl ?_
        refine gk_istore_n (pc := 159) [(3, .int x3), (0, .ref o), (1, .int x1), (2, .int x2), (4, .int x4), (5, .int x5), (6, .int x6), (7, .int x7), (8, .int x8), (9, .int x9)] (DX12_broken_1.at 29 rfl) rfl (Nat.le_of_ble_eq_true rfl) rfl ?_
        refine gk_iinc (pc := 160) (x2 + nI 1) [(2, .int (x2 + nI 1)), (3, .int x3), (0, .ref o), (1, .int x1), (4, .int x4), (5, .int x5), (6, .int x6), (7, .int x7), (8, .int x8), (9, .int x9)] 3 (DX12_broken_1.at 30 rfl) rfl (by rw [ci_1]) (Nat.le_of_ble_eq_true rfl) rfl ?_
        refine gk_iinc (pc := 163) (x9 + nI 1) [(9, .int (x9 + nI 1)), (2, .int (x2 + nI 1)), (3, .int x3), (0, .ref o), (1, .int x1), (4, .int x4), (5, .int x5), (6, .int x6), (7, .int x7), (8, .int x8)] 9 (DX12_broken_1.at 31 rfl) rfl (by rw [ci_1]) (Nat.le_of_ble_eq_true rfl) rfl ?_
        refine gk_goto (pc := 166) 95 (DX12_broken_1.at 32 rfl) (by decide) ?_
        exact gk_pick (pc := 95) [(0, .ref o), (1, .int x1), (2, .int (x2 + nI 1)), (3, .int x3), (4, .int x4), (5, .int x5), (6, .int x6), (7, .int x7), (8, .int x8), (9, .int (x9 + nI 1))] [3, 4, 1, 2, 5, 6, 7, 8, 9, 0] rfl hv
      · replace hv := hv.2 c
        refine gk_bipush (pc := 141) (nI 100) (DX12_broken_1.at 18 rfl) cb_100 ?_
        refine gk_iload (pc := 143) (DX12_broken_1.at 19 rfl) 6 rfl ?_
        refine gk_imul (pc := 145) (DX12_broken_1.at 20 rfl) ?_
        refine gk_bipush (pc := 146) (nI 10) (DX12_broken_1.at 21 rfl) cb_10 ?_
        refine gk_iload (pc := 148) (DX12_broken_1.at 22 rfl) 7 rfl ?_
        refine gk_imul (pc := 150) (DX12_broken_1.at 23 rfl) ?_
        refine gk_iadd (pc := 151) (DX12_broken_1.at 24 rfl) ?_
        refine gk_iload (pc := 152) (DX12_broken_1.at 25 rfl) 9 rfl ?_
        refine gk_iadd (pc := 154) (DX12_broken_1.at 26 rfl) ?_
        refine gk_goto (pc := 155) 159 (DX12_broken_1.at 27 rfl) (by decide) ?_
        refine gk_istore_n (pc := 159) [(3, .int ((((nI 100) * x6) + ((nI 10) * x7)) + x9)), (0, .ref o), (1, .int x1), (2, .int x2), (4, .int x4), (5, .int x5), (6, .int x6), (7, .int x7), (8, .int x8), (9, .int x9)] (DX12_broken_1.at 29 rfl) rfl (Nat.le_of_ble_eq_true rfl) rfl ?_
        refine gk_iinc (pc := 160) (x2 + nI 1) [(2, .int (x2 + nI 1)), (3, .int ((((nI 100) * x6) + ((nI 10) * x7)) + x9)), (0, .ref o), (1, .int x1), (4, .int x4), (5, .int x5), (6, .int x6), (7, .int x7), (8, .int x8), (9, .int x9)] 3 (DX12_broken_1.at 30 rfl) rfl (by rw [ci_1]) (Nat.le_of_ble_eq_true rfl) rfl ?_
        refine gk_iinc (pc := 163) (x9 + nI 1) [(9, .int (x9 + nI 1)), (2, .int (x2 + nI 1)), (3, .int ((((nI 100) * x6) + ((nI 10) * x7)) + x9)), (0, .ref o), (1, .int x1), (4, .int x4), (5, .int x5), (6, .int x6), (7, .int x7), (8, .int x8)] 9 (DX12_broken_1.at 31 rfl) rfl (by rw [ci_1]) (Nat.le_of_ble_eq_true rfl) rfl ?_
        refine gk_goto (pc := 166) 95 (DX12_broken_1.at 32 rfl) (by decide) ?_
        exact gk_pick (pc := 95) [(0, .ref o), (1, .int x1), (2, .int (x2 + nI 1)), (3, .int ((((nI 100) * x6) + ((nI 10) * x7)) + x9)), (4, .int x4), (5, .int x5), (6, .int x6), (7, .int x7), (8, .int x8), (9, .int (x9 + nI 1))] [3, 4, 1, 2, 5, 6, 7, 8, 9, 0] rfl hv
abbrev pX12_comes_10 (E : gk_E) (dd : Nat) (o : Nat) (x1 : Int32) (x2 : Int32) (x3 : Int32) (x4 : Int32) (h : gk_H) (K : gk_H → Prop) : Prop := gk_G E mX12_comes (dd + 1, 0, 0) 10 [(0, .ref o), (1, .int x1), (2, .int x2), (3, .int x3), (4, .int x4)] [] h (fun o h1 => o = none ∧ K h1)
set_option maxHeartbeats 4000000 in
theorem vX12_comes_0 {E : gk_E} {dd : Nat} {o : Nat} {x1 : Int32} {x2 : Int32}  {h : gk_H} {K : gk_H → Prop} (hv : LdR h o 11 3 fun v1 => AlI h v1 x1 fun v2 => pX12_comes_10 E dd o x1 x2 v2 (nI 0) h K) : RnV E mX12_comes (dd + 1, 0, 0) [.ref o, .int x1, .int x2] h K := by
  show gk_G E mX12_comes (dd + 1, 0, 0) 0 [(0, .ref o), (1, .int x1), (2, .int x2)] [] h (fun o h1 => o = none ∧ K h1)
  refine gk_aload_n (pc := 0) (DX12_comes_0.at 0 rfl) 0 rfl rfl ?_
  obtain ⟨fs1, v1, q1, r1, hv⟩ := hv
  refine gk_get (pc := 1) (.ref v1) (DX12_comes_0.at 1 rfl) fX12_23_11 q1 r1 ?_
  refine gk_iload_n (pc := 4) (DX12_comes_0.at 2 rfl) 1 rfl rfl ?_
  obtain ⟨n2, f2, q2, r2, hv⟩ := hv
  refine gk_iald (pc := 5) (DX12_comes_0.at 3 rfl) q2 r2 ?_
  generalize f2 _ = v2 at hv ⊢
  refine gk_istore_n (pc := 6) [(3, .int v2), (0, .ref o), (1, .int x1), (2, .int x2)] (DX12_comes_0.at 4 rfl) rfl (Nat.le_of_ble_eq_true rfl) rfl ?_
  refine gk_iconst (pc := 7) (nI 0) (DX12_comes_0.at 5 rfl) ci_0 ?_
  refine gk_istore (pc := 8) [(4, .int (nI 0)), (3, .int v2), (0, .ref o), (1, .int x1), (2, .int x2)] (DX12_comes_0.at 6 rfl) (Nat.le_of_ble_eq_true rfl) rfl ?_
  exact gk_pick (pc := 10) [(0, .ref o), (1, .int x1), (2, .int x2), (3, .int v2), (4, .int (nI 0))] [2, 3, 4, 1, 0] rfl hv
set_option maxHeartbeats 4000000 in
theorem vX12_comes_10 {E : gk_E} {dd : Nat} {o : Nat} {x1 : Int32} {x2 : Int32} {x3 : Int32} {x4 : Int32}  {h : gk_H} {K : gk_H → Prop} (hv : (x3 ≤ x4 → LdR h o 11 3 fun v1 => AlI h v1 x1 fun v2 => AsI h v1 x1 (v2 + (nI 1)) fun h3 => K h3) ∧ (¬ x3 ≤ x4 → RnI E mX12_digit (dd, 0, 0) [.int x2, .int x4] h (fun v4 h4 => (∃ fs, h4[o]? = some (.inr (11, fs))) ∧ RnV E mX12_lays (dd, 0, 0) [.ref o, .int x1, .int x4, .int x3, .int v4] h4 (fun h5 => pX12_comes_10 E dd o x1 x2 x3 (x4 + nI 1) h5 K)))) : pX12_comes_10 E dd o x1 x2 x3 x4 h K := by
  show gk_G E mX12_comes (dd + 1, 0, 0) 10 [(0, .ref o), (1, .int x1), (2, .int x2), (3, .int x3), (4, .int x4)] [] h (fun o h1 => o = none ∧ K h1)
  refine gk_iload (pc := 10) (DX12_comes_0.at 7 rfl) 4 rfl ?_
  refine gk_iload_n (pc := 12) (DX12_comes_0.at 8 rfl) 3 rfl rfl ?_
  refine gk_icmp_ge (pc := 13) 36 (DX12_comes_0.at 9 rfl) (by decide) (fun c => ?_) (fun c => ?_)
  · replace hv := hv.1 c
    refine gk_aload_n (pc := 36) (DX12_comes_0.at 20 rfl) 0 rfl rfl ?_
    obtain ⟨fs1, v1, q1, r1, hv⟩ := hv
    refine gk_get (pc := 37) (.ref v1) (DX12_comes_0.at 21 rfl) fX12_23_11 q1 r1 ?_
    refine gk_iload_n (pc := 40) (DX12_comes_0.at 22 rfl) 1 rfl rfl ?_
    refine gk_dup2 (pc := 41) (DX12_comes_0.at 23 rfl) rfl rfl ?_
    obtain ⟨n2, f2, q2, r2, hv⟩ := hv
    refine gk_iald (pc := 42) (DX12_comes_0.at 24 rfl) q2 r2 ?_
    generalize f2 _ = v2 at hv ⊢
    refine gk_iconst (pc := 43) (nI 1) (DX12_comes_0.at 25 rfl) ci_1 ?_
    refine gk_iadd (pc := 44) (DX12_comes_0.at 26 rfl) ?_
    obtain ⟨n3, f3, q3, r3, hv⟩ := hv
    refine gk_iast (pc := 45) (DX12_comes_0.at 27 rfl) q3 r3 ?_
    generalize h.set _ _ = h3 at hv ⊢
    exact gk_return (pc := 46) (DX12_comes_0.at 28 rfl) rfl ⟨rfl, hv⟩
  · replace hv := hv.2 c
    refine gk_aload_n (pc := 16) (DX12_comes_0.at 10 rfl) 0 rfl rfl ?_
    refine gk_iload_n (pc := 17) (DX12_comes_0.at 11 rfl) 1 rfl rfl ?_
    refine gk_iload (pc := 18) (DX12_comes_0.at 12 rfl) 4 rfl ?_
    refine gk_iload_n (pc := 20) (DX12_comes_0.at 13 rfl) 3 rfl rfl ?_
    refine gk_iload_n (pc := 21) (DX12_comes_0.at 14 rfl) 2 rfl rfl ?_
    refine gk_iload (pc := 22) (DX12_comes_0.at 15 rfl) 4 rfl ?_
    refine gk_vS (pc := 24) [.int x2, .int x4] [.int x3, .int x4, .int x1, .ref o] (DX12_comes_0.at 16 rfl) csX12_138 rfl rfl (Nat.le_of_ble_eq_true rfl) (Nat.le_of_ble_eq_true rfl) (gk_Run.post (fun o h4 z => ?_) hv)
    obtain ⟨v4, rfl, hv⟩ := z
    obtain ⟨⟨fs5, q5⟩, hv⟩ := hv
    refine gk_vV (pc := 27) [.int x1, .int x4, .int x3, .int v4] [] (DX12_comes_0.at 17 rfl) cvX12_141 q5 rfl rfl (Nat.le_of_ble_eq_true rfl) (Nat.le_of_ble_eq_true rfl) (gk_Run.post (fun o h5 z => ?_) hv)
    obtain ⟨rfl, hv⟩ := z
    refine gk_iinc (pc := 30) (x4 + nI 1) [(4, .int (x4 + nI 1)), (0, .ref o), (1, .int x1), (2, .int x2), (3, .int x3)] 4 (DX12_comes_0.at 18 rfl) rfl (by rw [ci_1]) (Nat.le_of_ble_eq_true rfl) rfl ?_
    refine gk_goto (pc := 33) 10 (DX12_comes_0.at 19 rfl) (by decide) ?_
    exact gk_pick (pc := 10) [(0, .ref o), (1, .int x1), (2, .int x2), (3, .int x3), (4, .int (x4 + nI 1))] [1, 2, 3, 4, 0] rfl hv
set_option maxHeartbeats 4000000 in
theorem vX12_compose_0 {E : gk_E} {dd : Nat} {o : Nat} {x1 : Int32} {x2 : Int32}  {h : gk_H} {K : Int32 → gk_H → Prop} (hv : (∃ fs, h[o]? = some (.inr (11, fs))) ∧ RnI E mX12_isRelation (dd, 0, 0) [.ref o, .int x1] h (fun v1 h1 => (v1 = 0 → K ((-2)) h1) ∧ (¬ v1 = 0 → (∃ fs, h1[o]? = some (.inr (11, fs))) ∧ RnI E mX12_isRelation (dd, 0, 0) [.ref o, .int x2] h1 (fun v2 h2 => (v2 = 0 → K ((-2)) h2) ∧ (¬ v2 = 0 → (∃ fs, h2[o]? = some (.inr (11, fs))) ∧ RnI E mX12_composed (dd, 0, 0) [.ref o, .int x1, .int x2] h2 (fun v3 h3 => K v3 h3)))))) : RnI E mX12_compose (dd + 1, 0, 0) [.ref o, .int x1, .int x2] h K := by
  show gk_G E mX12_compose (dd + 1, 0, 0) 0 [(0, .ref o), (1, .int x1), (2, .int x2)] [] h (fun o h1 => ∃ v, o = some (.int v) ∧ K v h1)
  refine gk_aload_n (pc := 0) (DX12_compose_0.at 0 rfl) 0 rfl rfl ?_
  refine gk_iload_n (pc := 1) (DX12_compose_0.at 1 rfl) 1 rfl rfl ?_
  obtain ⟨⟨fs1, q1⟩, hv⟩ := hv
  refine gk_vV (pc := 2) [.int x1] [] (DX12_compose_0.at 2 rfl) cvX12_91 q1 rfl rfl (Nat.le_of_ble_eq_true rfl) (Nat.le_of_ble_eq_true rfl) (gk_Run.post (fun o h1 z => ?_) hv)
  obtain ⟨v1, rfl, hv⟩ := z
  refine gk_if_eq (pc := 5) 25 (DX12_compose_0.at 3 rfl) (by decide) (fun c => ?_) (fun c => ?_)
  · replace hv := hv.1 c
    refine gk_bipush (pc := 25) ((-2)) (DX12_compose_0.at 13 rfl) cb_m2 ?_
    exact gk_ireturn (pc := 27) .int (DX12_compose_0.at 14 rfl) rfl rfl ⟨_, rfl, hv⟩
  · replace hv := hv.2 c
    refine gk_aload_n (pc := 8) (DX12_compose_0.at 4 rfl) 0 rfl rfl ?_
    refine gk_iload_n (pc := 9) (DX12_compose_0.at 5 rfl) 2 rfl rfl ?_
    obtain ⟨⟨fs2, q2⟩, hv⟩ := hv
    refine gk_vV (pc := 10) [.int x2] [] (DX12_compose_0.at 6 rfl) cvX12_91 q2 rfl rfl (Nat.le_of_ble_eq_true rfl) (Nat.le_of_ble_eq_true rfl) (gk_Run.post (fun o h2 z => ?_) hv)
    obtain ⟨v2, rfl, hv⟩ := z
    refine gk_if_eq (pc := 13) 25 (DX12_compose_0.at 7 rfl) (by decide) (fun c => ?_) (fun c => ?_)
    · replace hv := hv.1 c
      refine gk_bipush (pc := 25) ((-2)) (DX12_compose_0.at 13 rfl) cb_m2 ?_
      exact gk_ireturn (pc := 27) .int (DX12_compose_0.at 14 rfl) rfl rfl ⟨_, rfl, hv⟩
    · replace hv := hv.2 c
      refine gk_aload_n (pc := 16) (DX12_compose_0.at 8 rfl) 0 rfl rfl ?_
      refine gk_iload_n (pc := 17) (DX12_compose_0.at 9 rfl) 1 rfl rfl ?_
      refine gk_iload_n (pc := 18) (DX12_compose_0.at 10 rfl) 2 rfl rfl ?_
      obtain ⟨⟨fs3, q3⟩, hv⟩ := hv
      refine gk_vV (pc := 19) [.int x1, .int x2] [] (DX12_compose_0.at 11 rfl) cvX12_109 q3 rfl rfl (Nat.le_of_ble_eq_true rfl) (Nat.le_of_ble_eq_true rfl) (gk_Run.post (fun o h3 z => ?_) hv)
      obtain ⟨v3, rfl, hv⟩ := z
      refine gk_goto (pc := 22) 27 (DX12_compose_0.at 12 rfl) (by decide) ?_
      exact gk_ireturn (pc := 27) .int (DX12_compose_0.at 14 rfl) rfl rfl ⟨_, rfl, hv⟩
abbrev pX12_composed_5 (E : gk_E) (dd : Nat) (o : Nat) (x1 : Int32) (x2 : Int32) (x3 : Int32) (x4 : Int32) (h : gk_H) (K : Int32 → gk_H → Prop) : Prop := gk_G E mX12_composed (dd + 1, 0, 0) 5 [(0, .ref o), (1, .int x1), (2, .int x2), (3, .int x3), (4, .int x4)] [] h (fun o h1 => ∃ v, o = some (.int v) ∧ K v h1)
abbrev pX12_composed_17 (E : gk_E) (dd : Nat) (o : Nat) (x1 : Int32) (x2 : Int32) (x3 : Int32) (x4 : Int32) (x5 : Int32) (h : gk_H) (K : Int32 → gk_H → Prop) : Prop := gk_G E mX12_composed (dd + 1, 0, 0) 17 [(0, .ref o), (1, .int x1), (2, .int x2), (3, .int x3), (4, .int x4), (5, .int x5)] [] h (fun o h1 => ∃ v, o = some (.int v) ∧ K v h1)
abbrev pX12_composed_29 (E : gk_E) (dd : Nat) (o : Nat) (x1 : Int32) (x2 : Int32) (x3 : Int32) (x4 : Int32) (x5 : Int32) (x6 : Int32) (h : gk_H) (K : Int32 → gk_H → Prop) : Prop := gk_G E mX12_composed (dd + 1, 0, 0) 29 [(0, .ref o), (1, .int x1), (2, .int x2), (3, .int x3), (4, .int x4), (5, .int x5), (6, .int x6)] [] h (fun o h1 => ∃ v, o = some (.int v) ∧ K v h1)
set_option maxHeartbeats 4000000 in
theorem vX12_composed_0 {E : gk_E} {dd : Nat} {o : Nat} {x1 : Int32} {x2 : Int32}  {h : gk_H} {K : Int32 → gk_H → Prop} (hv : pX12_composed_5 E dd o x1 x2 (nI 0) (nI 0) h K) : RnI E mX12_composed (dd + 1, 0, 0) [.ref o, .int x1, .int x2] h K := by
  show gk_G E mX12_composed (dd + 1, 0, 0) 0 [(0, .ref o), (1, .int x1), (2, .int x2)] [] h (fun o h1 => ∃ v, o = some (.int v) ∧ K v h1)
  refine gk_iconst (pc := 0) (nI 0) (DX12_composed_0.at 0 rfl) ci_0 ?_
  refine gk_istore_n (pc := 1) [(3, .int (nI 0)), (0, .ref o), (1, .int x1), (2, .int x2)] (DX12_composed_0.at 1 rfl) rfl (Nat.le_of_ble_eq_true rfl) rfl ?_
  refine gk_iconst (pc := 2) (nI 0) (DX12_composed_0.at 2 rfl) ci_0 ?_
  refine gk_istore (pc := 3) [(4, .int (nI 0)), (3, .int (nI 0)), (0, .ref o), (1, .int x1), (2, .int x2)] (DX12_composed_0.at 3 rfl) (Nat.le_of_ble_eq_true rfl) rfl ?_
  exact gk_pick (pc := 5) [(0, .ref o), (1, .int x1), (2, .int x2), (3, .int (nI 0)), (4, .int (nI 0))] [2, 3, 4, 1, 0] rfl hv
set_option maxHeartbeats 4000000 in
theorem vX12_composed_5 {E : gk_E} {dd : Nat} {o : Nat} {x1 : Int32} {x2 : Int32} {x3 : Int32} {x4 : Int32}  {h : gk_H} {K : Int32 → gk_H → Prop} (hv : LdI h o 11 0 fun v1 => (v1 ≤ x4 → K x3 h) ∧ (¬ v1 ≤ x4 → pX12_composed_17 E dd o x1 x2 x3 x4 (nI 0) h K)) : pX12_composed_5 E dd o x1 x2 x3 x4 h K := by
  show gk_G E mX12_composed (dd + 1, 0, 0) 5 [(0, .ref o), (1, .int x1), (2, .int x2), (3, .int x3), (4, .int x4)] [] h (fun o h1 => ∃ v, o = some (.int v) ∧ K v h1)
  refine gk_iload (pc := 5) (DX12_composed_0.at 4 rfl) 4 rfl ?_
  refine gk_aload_n (pc := 7) (DX12_composed_0.at 5 rfl) 0 rfl rfl ?_
  obtain ⟨fs1, v1, q1, r1, hv⟩ := hv
  refine gk_get (pc := 8) (.int v1) (DX12_composed_0.at 6 rfl) fX12_9_11 q1 r1 ?_
  refine gk_icmp_ge (pc := 11) 98 (DX12_composed_0.at 7 rfl) (by decide) (fun c => ?_) (fun c => ?_)
  · replace hv := hv.1 c
    refine gk_iload_n (pc := 98) (DX12_composed_0.at 48 rfl) 3 rfl rfl ?_
    exact gk_ireturn (pc := 99) .int (DX12_composed_0.at 49 rfl) rfl rfl ⟨_, rfl, hv⟩
  · replace hv := hv.2 c
    refine gk_iconst (pc := 14) (nI 0) (DX12_composed_0.at 8 rfl) ci_0 ?_
    refine gk_istore (pc := 15) [(5, .int (nI 0)), (0, .ref o), (1, .int x1), (2, .int x2), (3, .int x3), (4, .int x4)] (DX12_composed_0.at 9 rfl) (Nat.le_of_ble_eq_true rfl) rfl ?_
    exact gk_pick (pc := 17) [(0, .ref o), (1, .int x1), (2, .int x2), (3, .int x3), (4, .int x4), (5, .int (nI 0))] [1, 2, 3, 4, 5, 0] rfl hv
set_option maxHeartbeats 4000000 in
theorem vX12_composed_17 {E : gk_E} {dd : Nat} {o : Nat} {x1 : Int32} {x2 : Int32} {x3 : Int32} {x4 : Int32} {x5 : Int32}  {h : gk_H} {K : Int32 → gk_H → Prop} (hv : LdI h o 11 0 fun v1 => (v1 ≤ x5 → pX12_composed_5 E dd o x1 x2 x3 (x4 + nI 1) h K) ∧ (¬ v1 ≤ x5 → pX12_composed_29 E dd o x1 x2 x3 x4 x5 (nI 0) h K)) : pX12_composed_17 E dd o x1 x2 x3 x4 x5 h K := by
  show gk_G E mX12_composed (dd + 1, 0, 0) 17 [(0, .ref o), (1, .int x1), (2, .int x2), (3, .int x3), (4, .int x4), (5, .int x5)] [] h (fun o h1 => ∃ v, o = some (.int v) ∧ K v h1)
  refine gk_iload (pc := 17) (DX12_composed_0.at 10 rfl) 5 rfl ?_
  refine gk_aload_n (pc := 19) (DX12_composed_0.at 11 rfl) 0 rfl rfl ?_
  obtain ⟨fs1, v1, q1, r1, hv⟩ := hv
  refine gk_get (pc := 20) (.int v1) (DX12_composed_0.at 12 rfl) fX12_9_11 q1 r1 ?_
  refine gk_icmp_ge (pc := 23) 92 (DX12_composed_0.at 13 rfl) (by decide) (fun c => ?_) (fun c => ?_)
  · replace hv := hv.1 c
    refine gk_iinc (pc := 92) (x4 + nI 1) [(4, .int (x4 + nI 1)), (0, .ref o), (1, .int x1), (2, .int x2), (3, .int x3), (5, .int x5)] 4 (DX12_composed_0.at 46 rfl) rfl (by rw [ci_1]) (Nat.le_of_ble_eq_true rfl) rfl ?_
    refine gk_goto (pc := 95) 5 (DX12_composed_0.at 47 rfl) (by decide) ?_
    exact gk_pick (pc := 5) [(0, .ref o), (1, .int x1), (2, .int x2), (3, .int x3), (4, .int (x4 + nI 1))] [1, 2, 3, 4, 0] rfl hv
  · replace hv := hv.2 c
    refine gk_iconst (pc := 26) (nI 0) (DX12_composed_0.at 14 rfl) ci_0 ?_
    refine gk_istore (pc := 27) [(6, .int (nI 0)), (0, .ref o), (1, .int x1), (2, .int x2), (3, .int x3), (4, .int x4), (5, .int x5)] (DX12_composed_0.at 15 rfl) (Nat.le_of_ble_eq_true rfl) rfl ?_
    exact gk_pick (pc := 29) [(0, .ref o), (1, .int x1), (2, .int x2), (3, .int x3), (4, .int x4), (5, .int x5), (6, .int (nI 0))] [1, 2, 3, 4, 5, 6, 0] rfl hv
set_option maxHeartbeats 4000000 in
theorem vX12_composed_29 {E : gk_E} {dd : Nat} {o : Nat} {x1 : Int32} {x2 : Int32} {x3 : Int32} {x4 : Int32} {x5 : Int32} {x6 : Int32}  {h : gk_H} {K : Int32 → gk_H → Prop} (hv : LdI h o 11 0 fun v1 => (v1 ≤ x6 → pX12_composed_17 E dd o x1 x2 x3 x4 (x5 + nI 1) h K) ∧ (¬ v1 ≤ x6 → RnI E mX12_has (dd, 0, 0) [.int x1, .int x4] h (fun v2 h2 => (v2 = 0 → pX12_composed_29 E dd o x1 x2 (x3 ||| (nI 0)) x4 x5 (x6 + nI 1) h2 K) ∧ (¬ v2 = 0 → RnI E mX12_has (dd, 0, 0) [.int x2, .int x5] h2 (fun v3 h3 => (v3 = 0 → pX12_composed_29 E dd o x1 x2 (x3 ||| (nI 0)) x4 x5 (x6 + nI 1) h3 K) ∧ (¬ v3 = 0 → (∃ fs, h3[o]? = some (.inr (11, fs))) ∧ RnI E mX12_is (dd, 0, 0) [.ref o, .int x4, .int x5, .int x6] h3 (fun v4 h4 => (v4 = 0 → pX12_composed_29 E dd o x1 x2 (x3 ||| (nI 0)) x4 x5 (x6 + nI 1) h4 K) ∧ (¬ v4 = 0 → pX12_composed_29 E dd o x1 x2 (x3 ||| ((nI 1) <<< (x6 &&& 31))) x4 x5 (x6 + nI 1) h4 K)))))))) : pX12_composed_29 E dd o x1 x2 x3 x4 x5 x6 h K := by
  show gk_G E mX12_composed (dd + 1, 0, 0) 29 [(0, .ref o), (1, .int x1), (2, .int x2), (3, .int x3), (4, .int x4), (5, .int x5), (6, .int x6)] [] h (fun o h1 => ∃ v, o = some (.int v) ∧ K v h1)
  refine gk_iload (pc := 29) (DX12_composed_0.at 16 rfl) 6 rfl ?_
  refine gk_aload_n (pc := 31) (DX12_composed_0.at 17 rfl) 0 rfl rfl ?_
  obtain ⟨fs1, v1, q1, r1, hv⟩ := hv
  refine gk_get (pc := 32) (.int v1) (DX12_composed_0.at 18 rfl) fX12_9_11 q1 r1 ?_
  refine gk_icmp_ge (pc := 35) 86 (DX12_composed_0.at 19 rfl) (by decide) (fun c => ?_) (fun c => ?_)
  · replace hv := hv.1 c
    refine gk_iinc (pc := 86) (x5 + nI 1) [(5, .int (x5 + nI 1)), (0, .ref o), (1, .int x1), (2, .int x2), (3, .int x3), (4, .int x4), (6, .int x6)] 5 (DX12_composed_0.at 44 rfl) rfl (by rw [ci_1]) (Nat.le_of_ble_eq_true rfl) rfl ?_
    refine gk_goto (pc := 89) 17 (DX12_composed_0.at 45 rfl) (by decide) ?_
    exact gk_pick (pc := 17) [(0, .ref o), (1, .int x1), (2, .int x2), (3, .int x3), (4, .int x4), (5, .int (x5 + nI 1))] [1, 2, 3, 4, 5, 0] rfl hv
  · replace hv := hv.2 c
    refine gk_iload_n (pc := 38) (DX12_composed_0.at 20 rfl) 3 rfl rfl ?_
    refine gk_iload_n (pc := 39) (DX12_composed_0.at 21 rfl) 1 rfl rfl ?_
    refine gk_iload (pc := 40) (DX12_composed_0.at 22 rfl) 4 rfl ?_
    refine gk_vS (pc := 42) [.int x1, .int x4] [.int x3] (DX12_composed_0.at 23 rfl) csX12_87 rfl rfl (Nat.le_of_ble_eq_true rfl) (Nat.le_of_ble_eq_true rfl) (gk_Run.post (fun o h2 z => ?_) hv)
    obtain ⟨v2, rfl, hv⟩ := z
    refine gk_if_eq (pc := 45) 77 (DX12_composed_0.at 24 rfl) (by decide) (fun c => ?_) (fun c => ?_)
    · replace hv := hv.1 c
      refine gk_iconst (pc := 77) (nI 0) (DX12_composed_0.at 39 rfl) ci_0 ?_
      refine gk_ior (pc := 78) (DX12_composed_0.at 40 rfl) ?_
      refine gk_istore_n (pc := 79) [(3, .int (x3 ||| (nI 0))), (0, .ref o), (1, .int x1), (2, .int x2), (4, .int x4), (5, .int x5), (6, .int x6)] (DX12_composed_0.at 41 rfl) rfl (Nat.le_of_ble_eq_true rfl) rfl ?_
      refine gk_iinc (pc := 80) (x6 + nI 1) [(6, .int (x6 + nI 1)), (3, .int (x3 ||| (nI 0))), (0, .ref o), (1, .int x1), (2, .int x2), (4, .int x4), (5, .int x5)] 6 (DX12_composed_0.at 42 rfl) rfl (by rw [ci_1]) (Nat.le_of_ble_eq_true rfl) rfl ?_
      refine gk_goto (pc := 83) 29 (DX12_composed_0.at 43 rfl) (by decide) ?_
      exact gk_pick (pc := 29) [(0, .ref o), (1, .int x1), (2, .int x2), (3, .int (x3 ||| (nI 0))), (4, .int x4), (5, .int x5), (6, .int (x6 + nI 1))] [2, 3, 4, 1, 5, 6, 0] rfl hv
    · replace hv := hv.2 c
      refine gk_iload_n (pc := 48) (DX12_composed_0.at 25 rfl) 2 rfl rfl ?_
      refine gk_iload (pc := 49) (DX12_composed_0.at 26 rfl) 5 rfl ?_
      refine gk_vS (pc := 51) [.int x2, .int x5] [.int x3] (DX12_composed_0.at 27 rfl) csX12_87 rfl rfl (Nat.le_of_ble_eq_true rfl) (Nat.le_of_ble_eq_true rfl) (gk_Run.post (fun o h3 z => ?_) hv)
      obtain ⟨v3, rfl, hv⟩ := z
      refine gk_if_eq (pc := 54) 77 (DX12_composed_0.at 28 rfl) (by decide) (fun c => ?_) (fun c => ?_)
      · replace hv := hv.1 c
        refine gk_iconst (pc := 77) (nI 0) (DX12_composed_0.at 39 rfl) ci_0 ?_
        refine gk_ior (pc := 78) (DX12_composed_0.at 40 rfl) ?_
        refine gk_istore_n (pc := 79) [(3, .int (x3 ||| (nI 0))), (0, .ref o), (1, .int x1), (2, .int x2), (4, .int x4), (5, .int x5), (6, .int x6)] (DX12_composed_0.at 41 rfl) rfl (Nat.le_of_ble_eq_true rfl) rfl ?_
        refine gk_iinc (pc := 80) (x6 + nI 1) [(6, .int (x6 + nI 1)), (3, .int (x3 ||| (nI 0))), (0, .ref o), (1, .int x1), (2, .int x2), (4, .int x4), (5, .int x5)] 6 (DX12_composed_0.at 42 rfl) rfl (by rw [ci_1]) (Nat.le_of_ble_eq_true rfl) rfl ?_
        refine gk_goto (pc := 83) 29 (DX12_composed_0.at 43 rfl) (by decide) ?_
        exact gk_pick (pc := 29) [(0, .ref o), (1, .int x1), (2, .int x2), (3, .int (x3 ||| (nI 0))), (4, .int x4), (5, .int x5), (6, .int (x6 + nI 1))] [2, 3, 4, 1, 5, 6, 0] rfl hv
      · replace hv := hv.2 c
        refine gk_aload_n (pc := 57) (DX12_composed_0.at 29 rfl) 0 rfl rfl ?_
        refine gk_iload (pc := 58) (DX12_composed_0.at 30 rfl) 4 rfl ?_
        refine gk_iload (pc := 60) (DX12_composed_0.at 31 rfl) 5 rfl ?_
        refine gk_iload (pc := 62) (DX12_composed_0.at 32 rfl) 6 rfl ?_
        obtain ⟨⟨fs4, q4⟩, hv⟩ := hv
        refine gk_vV (pc := 64) [.int x4, .int x5, .int x6] [.int x3] (DX12_composed_0.at 33 rfl) cvX12_105 q4 rfl rfl (Nat.le_of_ble_eq_true rfl) (Nat.le_of_ble_eq_true rfl) (gk_Run.post (fun o h4 z => ?_) hv)
        obtain ⟨v4, rfl, hv⟩ := z
        refine gk_if_eq (pc := 67) 77 (DX12_composed_0.at 34 rfl) (by decide) (fun c => ?_) (fun c => ?_)
        · replace hv := hv.1 c
          refine gk_iconst (pc := 77) (nI 0) (DX12_composed_0.at 39 rfl) ci_0 ?_
          refine gk_ior (pc := 78) (DX12_composed_0.at 40 rfl) ?_
          refine gk_istore_n (pc := 79) [(3, .int (x3 ||| (nI 0))), (0, .ref o), (1, .int x1), (2, .int x2), (4, .int x4), (5, .int x5), (6, .int x6)] (DX12_composed_0.at 41 rfl) rfl (Nat.le_of_ble_eq_true rfl) rfl ?_
          refine gk_iinc (pc := 80) (x6 + nI 1) [(6, .int (x6 + nI 1)), (3, .int (x3 ||| (nI 0))), (0, .ref o), (1, .int x1), (2, .int x2), (4, .int x4), (5, .int x5)] 6 (DX12_composed_0.at 42 rfl) rfl (by rw [ci_1]) (Nat.le_of_ble_eq_true rfl) rfl ?_
          refine gk_goto (pc := 83) 29 (DX12_composed_0.at 43 rfl) (by decide) ?_
          exact gk_pick (pc := 29) [(0, .ref o), (1, .int x1), (2, .int x2), (3, .int (x3 ||| (nI 0))), (4, .int x4), (5, .int x5), (6, .int (x6 + nI 1))] [2, 3, 4, 1, 5, 6, 0] rfl hv
        · replace hv := hv.2 c
          refine gk_iconst (pc := 70) (nI 1) (DX12_composed_0.at 35 rfl) ci_1 ?_
          refine gk_iload (pc := 71) (DX12_composed_0.at 36 rfl) 6 rfl ?_
          refine gk_ishl (pc := 73) (DX12_composed_0.at 37 rfl) ?_
          refine gk_goto (pc := 74) 78 (DX12_composed_0.at 38 rfl) (by decide) ?_
          refine gk_ior (pc := 78) (DX12_composed_0.at 40 rfl) ?_
          refine gk_istore_n (pc := 79) [(3, .int (x3 ||| ((nI 1) <<< (x6 &&& 31)))), (0, .ref o), (1, .int x1), (2, .int x2), (4, .int x4), (5, .int x5), (6, .int x6)] (DX12_composed_0.at 41 rfl) rfl (Nat.le_of_ble_eq_true rfl) rfl ?_
          refine gk_iinc (pc := 80) (x6 + nI 1) [(6, .int (x6 + nI 1)), (3, .int (x3 ||| ((nI 1) <<< (x6 &&& 31)))), (0, .ref o), (1, .int x1), (2, .int x2), (4, .int x4), (5, .int x5)] 6 (DX12_composed_0.at 42 rfl) rfl (by rw [ci_1]) (Nat.le_of_ble_eq_true rfl) rfl ?_
          refine gk_goto (pc := 83) 29 (DX12_composed_0.at 43 rfl) (by decide) ?_
          exact gk_pick (pc := 29) [(0, .ref o), (1, .int x1), (2, .int x2), (3, .int (x3 ||| ((nI 1) <<< (x6 &&& 31)))), (4, .int x4), (5, .int x5), (6, .int (x6 + nI 1))] [2, 3, 4, 1, 5, 6, 0] rfl hv
set_option maxHeartbeats 4000000 in
theorem vX12_composedBy_0 {E : gk_E} {dd : Nat} {o : Nat} {x1 : Int32} {x2 : Int32} {x3 : Int32}  {h : gk_H} {K : Int32 → gk_H → Prop} (hv : (¬ x3 = 0 → (∃ fs, h[o]? = some (.inr (11, fs))) ∧ RnI E mX12_composed (dd, 0, 0) [.ref o, .int x2, .int x1] h (fun v1 h1 => K v1 h1)) ∧ (x3 = 0 → (∃ fs, h[o]? = some (.inr (11, fs))) ∧ RnI E mX12_composed (dd, 0, 0) [.ref o, .int x1, .int x2] h (fun v2 h2 => K v2 h2))) : RnI E mX12_composedBy (dd + 1, 0, 0) [.ref o, .int x1, .int x2, .int x3] h K := by
  show gk_G E mX12_composedBy (dd + 1, 0, 0) 0 [(0, .ref o), (1, .int x1), (2, .int x2), (3, .int x3)] [] h (fun o h1 => ∃ v, o = some (.int v) ∧ K v h1)
  refine gk_iload_n (pc := 0) (DX12_composedBy_0.at 0 rfl) 3 rfl rfl ?_
  refine gk_if_ne (pc := 1) 13 (DX12_composedBy_0.at 1 rfl) (by decide) (fun c => ?_) (fun c => ?_)
  · replace hv := hv.1 c
    refine gk_aload_n (pc := 13) (DX12_composedBy_0.at 7 rfl) 0 rfl rfl ?_
    refine gk_iload_n (pc := 14) (DX12_composedBy_0.at 8 rfl) 2 rfl rfl ?_
    refine gk_iload_n (pc := 15) (DX12_composedBy_0.at 9 rfl) 1 rfl rfl ?_
    obtain ⟨⟨fs1, q1⟩, hv⟩ := hv
    refine gk_vV (pc := 16) [.int x2, .int x1] [] (DX12_composedBy_0.at 10 rfl) cvX12_109 q1 rfl rfl (Nat.le_of_ble_eq_true rfl) (Nat.le_of_ble_eq_true rfl) (gk_Run.post (fun o h1 z => ?_) hv)
    obtain ⟨v1, rfl, hv⟩ := z
    exact gk_ireturn (pc := 19) .int (DX12_composedBy_0.at 11 rfl) rfl rfl ⟨_, rfl, hv⟩
  · replace hv := hv.2 c
    refine gk_aload_n (pc := 4) (DX12_composedBy_0.at 2 rfl) 0 rfl rfl ?_
    refine gk_iload_n (pc := 5) (DX12_composedBy_0.at 3 rfl) 1 rfl rfl ?_
    refine gk_iload_n (pc := 6) (DX12_composedBy_0.at 4 rfl) 2 rfl rfl ?_
    obtain ⟨⟨fs2, q2⟩, hv⟩ := hv
    refine gk_vV (pc := 7) [.int x1, .int x2] [] (DX12_composedBy_0.at 5 rfl) cvX12_109 q2 rfl rfl (Nat.le_of_ble_eq_true rfl) (Nat.le_of_ble_eq_true rfl) (gk_Run.post (fun o h2 z => ?_) hv)
    obtain ⟨v2, rfl, hv⟩ := z
    refine gk_goto (pc := 10) 19 (DX12_composedBy_0.at 6 rfl) (by decide) ?_
    exact gk_ireturn (pc := 19) .int (DX12_composedBy_0.at 11 rfl) rfl rfl ⟨_, rfl, hv⟩
set_option maxHeartbeats 4000000 in
theorem vX12_converse_0 {E : gk_E} {dd : Nat} {o : Nat} {x1 : Int32}  {h : gk_H} {K : Int32 → gk_H → Prop} (hv : (∃ fs, h[o]? = some (.inr (11, fs))) ∧ RnI E mX12_isRelation (dd, 0, 0) [.ref o, .int x1] h (fun v1 h1 => (v1 = 0 → K ((-2)) h1) ∧ (¬ v1 = 0 → (∃ fs, h1[o]? = some (.inr (11, fs))) ∧ RnI E mX12_turned (dd, 0, 0) [.ref o, .int x1] h1 (fun v2 h2 => K v2 h2)))) : RnI E mX12_converse (dd + 1, 0, 0) [.ref o, .int x1] h K := by
  show gk_G E mX12_converse (dd + 1, 0, 0) 0 [(0, .ref o), (1, .int x1)] [] h (fun o h1 => ∃ v, o = some (.int v) ∧ K v h1)
  refine gk_aload_n (pc := 0) (DX12_converse_0.at 0 rfl) 0 rfl rfl ?_
  refine gk_iload_n (pc := 1) (DX12_converse_0.at 1 rfl) 1 rfl rfl ?_
  obtain ⟨⟨fs1, q1⟩, hv⟩ := hv
  refine gk_vV (pc := 2) [.int x1] [] (DX12_converse_0.at 2 rfl) cvX12_91 q1 rfl rfl (Nat.le_of_ble_eq_true rfl) (Nat.le_of_ble_eq_true rfl) (gk_Run.post (fun o h1 z => ?_) hv)
  obtain ⟨v1, rfl, hv⟩ := z
  refine gk_if_eq (pc := 5) 16 (DX12_converse_0.at 3 rfl) (by decide) (fun c => ?_) (fun c => ?_)
  · replace hv := hv.1 c
    refine gk_bipush (pc := 16) ((-2)) (DX12_converse_0.at 8 rfl) cb_m2 ?_
    exact gk_ireturn (pc := 18) .int (DX12_converse_0.at 9 rfl) rfl rfl ⟨_, rfl, hv⟩
  · replace hv := hv.2 c
    refine gk_aload_n (pc := 8) (DX12_converse_0.at 4 rfl) 0 rfl rfl ?_
    refine gk_iload_n (pc := 9) (DX12_converse_0.at 5 rfl) 1 rfl rfl ?_
    obtain ⟨⟨fs2, q2⟩, hv⟩ := hv
    refine gk_vV (pc := 10) [.int x1] [] (DX12_converse_0.at 6 rfl) cvX12_94 q2 rfl rfl (Nat.le_of_ble_eq_true rfl) (Nat.le_of_ble_eq_true rfl) (gk_Run.post (fun o h2 z => ?_) hv)
    obtain ⟨v2, rfl, hv⟩ := z
    refine gk_goto (pc := 13) 18 (DX12_converse_0.at 7 rfl) (by decide) ?_
    exact gk_ireturn (pc := 18) .int (DX12_converse_0.at 9 rfl) rfl rfl ⟨_, rfl, hv⟩
set_option maxHeartbeats 4000000 in
theorem vX12_copy_0 {E : gk_E} {dd : Nat} {o : Nat} {x1 : Int32} {x2 : Int32}  {h : gk_H} {K : Int32 → gk_H → Prop} (hv : RnI E mX12_isNet (dd, 0, 0) [.int x1] h (fun v1 h1 => (v1 = 0 → K ((-1)) h1) ∧ (¬ v1 = 0 → RnI E mX12_isNet (dd, 0, 0) [.int x2] h1 (fun v2 h2 => (¬ v2 = 0 → (∃ fs, h2[o]? = some (.inr (11, fs))) ∧ RnV E mX12_likens (dd, 0, 0) [.ref o, .int x1, .int x2] h2 (fun h3 => LdR h3 o 11 3 fun v4 => AlI h3 v4 x2 fun v5 => K v5 h3)) ∧ (v2 = 0 → K ((-1)) h2))))) : RnI E mX12_copy (dd + 1, 0, 0) [.ref o, .int x1, .int x2] h K := by
  show gk_G E mX12_copy (dd + 1, 0, 0) 0 [(0, .ref o), (1, .int x1), (2, .int x2)] [] h (fun o h1 => ∃ v, o = some (.int v) ∧ K v h1)
  refine gk_iload_n (pc := 0) (DX12_copy_0.at 0 rfl) 1 rfl rfl ?_
  refine gk_vS (pc := 1) [.int x1] [] (DX12_copy_0.at 1 rfl) csX12_145 rfl rfl (Nat.le_of_ble_eq_true rfl) (Nat.le_of_ble_eq_true rfl) (gk_Run.post (fun o h1 z => ?_) hv)
  obtain ⟨v1, rfl, hv⟩ := z
  refine gk_if_eq (pc := 4) 14 (DX12_copy_0.at 2 rfl) (by decide) (fun c => ?_) (fun c => ?_)
  · replace hv := hv.1 c
    refine gk_iconst (pc := 14) ((-1)) (DX12_copy_0.at 6 rfl) ci_m1 ?_
    exact gk_ireturn (pc := 15) .int (DX12_copy_0.at 7 rfl) rfl rfl ⟨_, rfl, hv⟩
  · replace hv := hv.2 c
    refine gk_iload_n (pc := 7) (DX12_copy_0.at 3 rfl) 2 rfl rfl ?_
    refine gk_vS (pc := 8) [.int x2] [] (DX12_copy_0.at 4 rfl) csX12_145 rfl rfl (Nat.le_of_ble_eq_true rfl) (Nat.le_of_ble_eq_true rfl) (gk_Run.post (fun o h2 z => ?_) hv)
    obtain ⟨v2, rfl, hv⟩ := z
    refine gk_if_ne (pc := 11) 16 (DX12_copy_0.at 5 rfl) (by decide) (fun c => ?_) (fun c => ?_)
    · replace hv := hv.1 c
      refine gk_aload_n (pc := 16) (DX12_copy_0.at 8 rfl) 0 rfl rfl ?_
      refine gk_iload_n (pc := 17) (DX12_copy_0.at 9 rfl) 1 rfl rfl ?_
      refine gk_iload_n (pc := 18) (DX12_copy_0.at 10 rfl) 2 rfl rfl ?_
      obtain ⟨⟨fs3, q3⟩, hv⟩ := hv
      refine gk_vV (pc := 19) [.int x1, .int x2] [] (DX12_copy_0.at 11 rfl) cvX12_161 q3 rfl rfl (Nat.le_of_ble_eq_true rfl) (Nat.le_of_ble_eq_true rfl) (gk_Run.post (fun o h3 z => ?_) hv)
      obtain ⟨rfl, hv⟩ := z
      refine gk_aload_n (pc := 22) (DX12_copy_0.at 12 rfl) 0 rfl rfl ?_
      obtain ⟨fs4, v4, q4, r4, hv⟩ := hv
      refine gk_get (pc := 23) (.ref v4) (DX12_copy_0.at 13 rfl) fX12_23_11 q4 r4 ?_
      refine gk_iload_n (pc := 26) (DX12_copy_0.at 14 rfl) 2 rfl rfl ?_
      obtain ⟨n5, f5, q5, r5, hv⟩ := hv
      refine gk_iald (pc := 27) (DX12_copy_0.at 15 rfl) q5 r5 ?_
      generalize f5 _ = v5 at hv ⊢
      exact gk_ireturn (pc := 28) .int (DX12_copy_0.at 16 rfl) rfl rfl ⟨_, rfl, hv⟩
    · replace hv := hv.2 c
      refine gk_iconst (pc := 14) ((-1)) (DX12_copy_0.at 6 rfl) ci_m1 ?_
      exact gk_ireturn (pc := 15) .int (DX12_copy_0.at 7 rfl) rfl rfl ⟨_, rfl, hv⟩
abbrev pX12_count_71 (E : gk_E) (dd : Nat) (o : Nat) (x1 : Int32) (x2 : Int32) (x3 : Int32) (h : gk_H) (K : Int32 → gk_H → Prop) : Prop := gk_G E mX12_count (dd, 0, 0) 71 [(0, .ref o), (1, .int x1), (2, .int x2), (3, .int x3)] [] h (fun o h1 => ∃ v, o = some (.int v) ∧ K v h1)
set_option maxHeartbeats 4000000 in
theorem vX12_count_0 {E : gk_E} {dd : Nat} {o : Nat} {x1 : Int32}  {h : gk_H} {K : Int32 → gk_H → Prop} (hv : (((x1 = nI 0 → LdI h o 11 0 fun v1 => K v1 h) ∧ (x1 = nI 1 → LdR h o 11 3 fun v2 => AlI h v2 (nI 0) fun v3 => LdR h o 11 3 fun v4 => AlI h v4 (nI 1) fun v5 => LdR h o 11 3 fun v6 => AlI h v6 (nI 2) fun v7 => K ((v3 + v5) + v7) h) ∧ (x1 = nI 2 → LdI h o 11 20 fun v8 => K v8 h) ∧ (x1 = nI 3 → pX12_count_71 E dd o x1 (nI 0) (nI 0) h K) ∧ (x1 = nI 4 → LdI h o 11 5 fun v9 => (v9 = 0 → K (nI 0) h) ∧ (¬ v9 = 0 → LdR h o 11 3 fun v10 => AlI h v10 (nI 3) fun v11 => K v11 h))) ∧ ((∀ k : Nat, k < 5 → ¬ x1 = nI k) → K ((-1)) h))) : RnI E mX12_count (dd, 0, 0) [.ref o, .int x1] h K := by
  show gk_G E mX12_count (dd, 0, 0) 0 [(0, .ref o), (1, .int x1)] [] h (fun o h1 => ∃ v, o = some (.int v) ∧ K v h1)
  refine gk_iload_n (pc := 0) (DX12_count_0.at 0 rfl) 1 rfl rfl ?_
  refine gk_tsw (pc := 1) (n := 5) (fun k => [36, 41, 62, 67, 102].getD k 0) 120 (DX12_count_0.at 1 rfl) (by decide +kernel) (by decide) (by decide) (by decide) (by decide) (fun k hk c => ?_) (fun c => ?_)
  · replace hv := hv.1
    match k, hk, c with
    | 0, _, c =>
      replace hv := hv.1 c
      refine gk_aload_n (pc := 36) (DX12_count_0.at 2 rfl) 0 rfl rfl ?_
      obtain ⟨fs1, v1, q1, r1, hv⟩ := hv
      refine gk_get (pc := 37) (.int v1) (DX12_count_0.at 3 rfl) fX12_9_11 q1 r1 ?_
      exact gk_ireturn (pc := 40) .int (DX12_count_0.at 4 rfl) rfl rfl ⟨_, rfl, hv⟩
    | 1, _, c =>
      replace hv := hv.2.1 c
      refine gk_aload_n (pc := 41) (DX12_count_0.at 5 rfl) 0 rfl rfl ?_
      obtain ⟨fs2, v2, q2, r2, hv⟩ := hv
      refine gk_get (pc := 42) (.ref v2) (DX12_count_0.at 6 rfl) fX12_23_11 q2 r2 ?_
      refine gk_iconst (pc := 45) (nI 0) (DX12_count_0.at 7 rfl) ci_0 ?_
      obtain ⟨n3, f3, q3, r3, hv⟩ := hv
      refine gk_iald (pc := 46) (DX12_count_0.at 8 rfl) q3 r3 ?_
      generalize f3 _ = v3 at hv ⊢
      refine gk_aload_n (pc := 47) (DX12_count_0.at 9 rfl) 0 rfl rfl ?_
      obtain ⟨fs4, v4, q4, r4, hv⟩ := hv
      refine gk_get (pc := 48) (.ref v4) (DX12_count_0.at 10 rfl) fX12_23_11 q4 r4 ?_
      refine gk_iconst (pc := 51) (nI 1) (DX12_count_0.at 11 rfl) ci_1 ?_
      obtain ⟨n5, f5, q5, r5, hv⟩ := hv
      refine gk_iald (pc := 52) (DX12_count_0.at 12 rfl) q5 r5 ?_
      generalize f5 _ = v5 at hv ⊢
      refine gk_iadd (pc := 53) (DX12_count_0.at 13 rfl) ?_
      refine gk_aload_n (pc := 54) (DX12_count_0.at 14 rfl) 0 rfl rfl ?_
      obtain ⟨fs6, v6, q6, r6, hv⟩ := hv
      refine gk_get (pc := 55) (.ref v6) (DX12_count_0.at 15 rfl) fX12_23_11 q6 r6 ?_
      refine gk_iconst (pc := 58) (nI 2) (DX12_count_0.at 16 rfl) ci_2 ?_
      obtain ⟨n7, f7, q7, r7, hv⟩ := hv
      refine gk_iald (pc := 59) (DX12_count_0.at 17 rfl) q7 r7 ?_
      generalize f7 _ = v7 at hv ⊢
      refine gk_iadd (pc := 60) (DX12_count_0.at 18 rfl) ?_
      exact gk_ireturn (pc := 61) .int (DX12_count_0.at 19 rfl) rfl rfl ⟨_, rfl, hv⟩
    | 2, _, c =>
      replace hv := hv.2.2.1 c
      refine gk_aload_n (pc := 62) (DX12_count_0.at 20 rfl) 0 rfl rfl ?_
      obtain ⟨fs8, v8, q8, r8, hv⟩ := hv
      refine gk_get (pc := 63) (.int v8) (DX12_count_0.at 21 rfl) fX12_261_11 q8 r8 ?_
      exact gk_ireturn (pc := 66) .int (DX12_count_0.at 22 rfl) rfl rfl ⟨_, rfl, hv⟩
    | 3, _, c =>
      replace hv := hv.2.2.2.1 c
      refine gk_iconst (pc := 67) (nI 0) (DX12_count_0.at 23 rfl) ci_0 ?_
      refine gk_istore_n (pc := 68) [(2, .int (nI 0)), (0, .ref o), (1, .int x1)] (DX12_count_0.at 24 rfl) rfl (Nat.le_of_ble_eq_true rfl) rfl ?_
      refine gk_iconst (pc := 69) (nI 0) (DX12_count_0.at 25 rfl) ci_0 ?_
      refine gk_istore_n (pc := 70) [(3, .int (nI 0)), (2, .int (nI 0)), (0, .ref o), (1, .int x1)] (DX12_count_0.at 26 rfl) rfl (Nat.le_of_ble_eq_true rfl) rfl ?_
      exact gk_pick (pc := 71) [(0, .ref o), (1, .int x1), (2, .int (nI 0)), (3, .int (nI 0))] [2, 3, 1, 0] rfl hv
    | 4, _, c =>
      replace hv := hv.2.2.2.2 c
      refine gk_aload_n (pc := 102) (DX12_count_0.at 46 rfl) 0 rfl rfl ?_
      obtain ⟨fs9, v9, q9, r9, hv⟩ := hv
      refine gk_get (pc := 103) (.int v9) (DX12_count_0.at 47 rfl) fX12_74_11 q9 r9 ?_
      refine gk_if_eq (pc := 106) 118 (DX12_count_0.at 48 rfl) (by decide) (fun c => ?_) (fun c => ?_)
      · replace hv := hv.1 c
        refine gk_iconst (pc := 118) (nI 0) (DX12_count_0.at 54 rfl) ci_0 ?_
        exact gk_ireturn (pc := 119) .int (DX12_count_0.at 55 rfl) rfl rfl ⟨_, rfl, hv⟩
      · replace hv := hv.2 c
        refine gk_aload_n (pc := 109) (DX12_count_0.at 49 rfl) 0 rfl rfl ?_
        obtain ⟨fs10, v10, q10, r10, hv⟩ := hv
        refine gk_get (pc := 110) (.ref v10) (DX12_count_0.at 50 rfl) fX12_23_11 q10 r10 ?_
        refine gk_iconst (pc := 113) (nI 3) (DX12_count_0.at 51 rfl) ci_3 ?_
        obtain ⟨n11, f11, q11, r11, hv⟩ := hv
        refine gk_iald (pc := 114) (DX12_count_0.at 52 rfl) q11 r11 ?_
        generalize f11 _ = v11 at hv ⊢
        refine gk_goto (pc := 115) 119 (DX12_count_0.at 53 rfl) (by decide) ?_
        exact gk_ireturn (pc := 119) .int (DX12_count_0.at 55 rfl) rfl rfl ⟨_, rfl, hv⟩
    | k + 5, hk, _ => exact absurd hk (by omega)
  · replace hv := hv.2 c
    refine gk_iconst (pc := 120) ((-1)) (DX12_count_0.at 56 rfl) ci_m1 ?_
    exact gk_ireturn (pc := 121) .int (DX12_count_0.at 57 rfl) rfl rfl ⟨_, rfl, hv⟩
set_option maxHeartbeats 4000000 in
theorem vX12_count_71 {E : gk_E} {dd : Nat} {o : Nat} {x1 : Int32} {x2 : Int32} {x3 : Int32}  {h : gk_H} {K : Int32 → gk_H → Prop} (hv : ((nI 3) ≤ x3 → K x2 h) ∧ (¬ (nI 3) ≤ x3 → LdR h o 11 15 fun v1 => AlI h v1 x3 fun v2 => (¬ v2 = ((-1)) → pX12_count_71 E dd o x1 (x2 + (nI 1)) (x3 + nI 1) h K) ∧ (v2 = ((-1)) → pX12_count_71 E dd o x1 (x2 + (nI 0)) (x3 + nI 1) h K))) : pX12_count_71 E dd o x1 x2 x3 h K := by
  show gk_G E mX12_count (dd, 0, 0) 71 [(0, .ref o), (1, .int x1), (2, .int x2), (3, .int x3)] [] h (fun o h1 => ∃ v, o = some (.int v) ∧ K v h1)
  refine gk_iload_n (pc := 71) (DX12_count_0.at 27 rfl) 3 rfl rfl ?_
  refine gk_iconst (pc := 72) (nI 3) (DX12_count_0.at 28 rfl) ci_3 ?_
  refine gk_icmp_ge (pc := 73) 100 (DX12_count_0.at 29 rfl) (by decide) (fun c => ?_) (fun c => ?_)
  · replace hv := hv.1 c
    refine gk_iload_n (pc := 100) (DX12_count_0.at 44 rfl) 2 rfl rfl ?_
    exact gk_ireturn (pc := 101) .int (DX12_count_0.at 45 rfl) rfl rfl ⟨_, rfl, hv⟩
  · replace hv := hv.2 c
    refine gk_iload_n (pc := 76) (DX12_count_0.at 30 rfl) 2 rfl rfl ?_
    refine gk_aload_n (pc := 77) (DX12_count_0.at 31 rfl) 0 rfl rfl ?_
    obtain ⟨fs1, v1, q1, r1, hv⟩ := hv
    refine gk_get (pc := 78) (.ref v1) (DX12_count_0.at 32 rfl) fX12_35_11 q1 r1 ?_
    refine gk_iload_n (pc := 81) (DX12_count_0.at 33 rfl) 3 rfl rfl ?_
    obtain ⟨n2, f2, q2, r2, hv⟩ := hv
    refine gk_iald (pc := 82) (DX12_count_0.at 34 rfl) q2 r2 ?_
    generalize f2 _ = v2 at hv ⊢
    refine gk_iconst (pc := 83) ((-1)) (DX12_count_0.at 35 rfl) ci_m1 ?_
    refine gk_icmp_ne (pc := 84) 91 (DX12_count_0.at 36 rfl) (by decide) (fun c => ?_) (fun c => ?_)
    · replace hv := hv.1 c
      refine gk_iconst (pc := 91) (nI 1) (DX12_count_0.at 39 rfl) ci_1 ?_
      refine gk_iadd (pc := 92) (DX12_count_0.at 40 rfl) ?_
      refine gk_istore_n (pc := 93) [(2, .int (x2 + (nI 1))), (0, .ref o), (1, .int x1), (3, .int x3)] (DX12_count_0.at 41 rfl) rfl (Nat.le_of_ble_eq_true rfl) rfl ?_
      refine gk_iinc (pc := 94) (x3 + nI 1) [(3, .int (x3 + nI 1)), (2, .int (x2 + (nI 1))), (0, .ref o), (1, .int x1)] 3 (DX12_count_0.at 42 rfl) rfl (by rw [ci_1]) (Nat.le_of_ble_eq_true rfl) rfl ?_
      refine gk_goto (pc := 97) 71 (DX12_count_0.at 43 rfl) (by decide) ?_
      exact gk_pick (pc := 71) [(0, .ref o), (1, .int x1), (2, .int (x2 + (nI 1))), (3, .int (x3 + nI 1))] [2, 3, 1, 0] rfl hv
    · replace hv := hv.2 c
      refine gk_iconst (pc := 87) (nI 0) (DX12_count_0.at 37 rfl) ci_0 ?_
      refine gk_goto (pc := 88) 92 (DX12_count_0.at 38 rfl) (by decide) ?_
      refine gk_iadd (pc := 92) (DX12_count_0.at 40 rfl) ?_
      refine gk_istore_n (pc := 93) [(2, .int (x2 + (nI 0))), (0, .ref o), (1, .int x1), (3, .int x3)] (DX12_count_0.at 41 rfl) rfl (Nat.le_of_ble_eq_true rfl) rfl ?_
      refine gk_iinc (pc := 94) (x3 + nI 1) [(3, .int (x3 + nI 1)), (2, .int (x2 + (nI 0))), (0, .ref o), (1, .int x1)] 3 (DX12_count_0.at 42 rfl) rfl (by rw [ci_1]) (Nat.le_of_ble_eq_true rfl) rfl ?_
      refine gk_goto (pc := 97) 71 (DX12_count_0.at 43 rfl) (by decide) ?_
      exact gk_pick (pc := 71) [(0, .ref o), (1, .int x1), (2, .int (x2 + (nI 0))), (3, .int (x3 + nI 1))] [2, 3, 1, 0] rfl hv
abbrev pX12_cycleOf_6 (E : gk_E) (dd : Nat) (o : Nat) (x1 : Int32) (x2 : Int32) (x3 : Int32) (x4 : Int32) (x5 : Int32) (h : gk_H) (K : Int32 → gk_H → Prop) : Prop := gk_G E mX12_cycleOf (dd + 1, 0, 0) 6 [(0, .ref o), (1, .int x1), (2, .int x2), (3, .int x3), (4, .int x4), (5, .int x5)] [] h (fun o h1 => ∃ v, o = some (.int v) ∧ K v h1)
abbrev pX12_cycleOf_19 (E : gk_E) (dd : Nat) (o : Nat) (x1 : Int32) (x2 : Int32) (x3 : Int32) (x4 : Int32) (x5 : Int32) (x6 : Int32) (x7 : Int32) (h : gk_H) (K : Int32 → gk_H → Prop) : Prop := gk_G E mX12_cycleOf (dd + 1, 0, 0) 19 [(0, .ref o), (1, .int x1), (2, .int x2), (3, .int x3), (4, .int x4), (5, .int x5), (6, .int x6), (7, .int x7)] [] h (fun o h1 => ∃ v, o = some (.int v) ∧ K v h1)
set_option maxHeartbeats 4000000 in
theorem vX12_cycleOf_0 {E : gk_E} {dd : Nat} {o : Nat} {x1 : Int32} {x2 : Int32} {x3 : Int32}  {h : gk_H} {K : Int32 → gk_H → Prop} (hv : pX12_cycleOf_6 E dd o x1 x2 x3 (nI 0) (nI 0) h K) : RnI E mX12_cycleOf (dd + 1, 0, 0) [.ref o, .int x1, .int x2, .int x3] h K := by
  show gk_G E mX12_cycleOf (dd + 1, 0, 0) 0 [(0, .ref o), (1, .int x1), (2, .int x2), (3, .int x3)] [] h (fun o h1 => ∃ v, o = some (.int v) ∧ K v h1)
  refine gk_iconst (pc := 0) (nI 0) (DX12_cycleOf_0.at 0 rfl) ci_0 ?_
  refine gk_istore (pc := 1) [(4, .int (nI 0)), (0, .ref o), (1, .int x1), (2, .int x2), (3, .int x3)] (DX12_cycleOf_0.at 1 rfl) (Nat.le_of_ble_eq_true rfl) rfl ?_
  refine gk_iconst (pc := 3) (nI 0) (DX12_cycleOf_0.at 2 rfl) ci_0 ?_
  refine gk_istore (pc := 4) [(5, .int (nI 0)), (4, .int (nI 0)), (0, .ref o), (1, .int x1), (2, .int x2), (3, .int x3)] (DX12_cycleOf_0.at 3 rfl) (Nat.le_of_ble_eq_true rfl) rfl ?_
  exact gk_pick (pc := 6) [(0, .ref o), (1, .int x1), (2, .int x2), (3, .int x3), (4, .int (nI 0)), (5, .int (nI 0))] [2, 3, 4, 5, 1, 0] rfl hv
set_option maxHeartbeats 4000000 in
theorem vX12_cycleOf_6 {E : gk_E} {dd : Nat} {o : Nat} {x1 : Int32} {x2 : Int32} {x3 : Int32} {x4 : Int32} {x5 : Int32}  {h : gk_H} {K : Int32 → gk_H → Prop} (hv : ((nI 6) ≤ x5 → K x4 h) ∧ (¬ (nI 6) ≤ x5 → pX12_cycleOf_19 E dd o x1 x2 x3 x4 x5 (nI 1) (nI 0) h K)) : pX12_cycleOf_6 E dd o x1 x2 x3 x4 x5 h K := by
  show gk_G E mX12_cycleOf (dd + 1, 0, 0) 6 [(0, .ref o), (1, .int x1), (2, .int x2), (3, .int x3), (4, .int x4), (5, .int x5)] [] h (fun o h1 => ∃ v, o = some (.int v) ∧ K v h1)
  refine gk_iload (pc := 6) (DX12_cycleOf_0.at 4 rfl) 5 rfl ?_
  refine gk_bipush (pc := 8) (nI 6) (DX12_cycleOf_0.at 5 rfl) cb_6 ?_
  refine gk_icmp_ge (pc := 10) 86 (DX12_cycleOf_0.at 6 rfl) (by decide) (fun c => ?_) (fun c => ?_)
  · replace hv := hv.1 c
    refine gk_iload (pc := 86) (DX12_cycleOf_0.at 45 rfl) 4 rfl ?_
    exact gk_ireturn (pc := 88) .int (DX12_cycleOf_0.at 46 rfl) rfl rfl ⟨_, rfl, hv⟩
  · replace hv := hv.2 c
    refine gk_iconst (pc := 13) (nI 1) (DX12_cycleOf_0.at 7 rfl) ci_1 ?_
    refine gk_istore (pc := 14) [(6, .int (nI 1)), (0, .ref o), (1, .int x1), (2, .int x2), (3, .int x3), (4, .int x4), (5, .int x5)] (DX12_cycleOf_0.at 8 rfl) (Nat.le_of_ble_eq_true rfl) rfl ?_
    refine gk_iconst (pc := 16) (nI 0) (DX12_cycleOf_0.at 9 rfl) ci_0 ?_
    refine gk_istore (pc := 17) [(7, .int (nI 0)), (6, .int (nI 1)), (0, .ref o), (1, .int x1), (2, .int x2), (3, .int x3), (4, .int x4), (5, .int x5)] (DX12_cycleOf_0.at 10 rfl) (Nat.le_of_ble_eq_true rfl) rfl ?_
    exact gk_pick (pc := 19) [(0, .ref o), (1, .int x1), (2, .int x2), (3, .int x3), (4, .int x4), (5, .int x5), (6, .int (nI 1)), (7, .int (nI 0))] [2, 3, 4, 5, 6, 7, 1, 0] rfl hv
set_option maxHeartbeats 4000000 in
theorem vX12_cycleOf_19 {E : gk_E} {dd : Nat} {o : Nat} {x1 : Int32} {x2 : Int32} {x3 : Int32} {x4 : Int32} {x5 : Int32} {x6 : Int32} {x7 : Int32}  {h : gk_H} {K : Int32 → gk_H → Prop} (hv : (x5 ≤ x7 → (x6 = 0 → pX12_cycleOf_6 E dd o x1 x2 x3 (x4 + (nI 0)) (x5 + nI 1) h K) ∧ (¬ x6 = 0 → pX12_cycleOf_6 E dd o x1 x2 x3 (x4 + (nI 1)) (x5 + nI 1) h K)) ∧ (¬ x5 ≤ x7 → (x6 = 0 → pX12_cycleOf_19 E dd o x1 x2 x3 x4 x5 (nI 0) (x7 + nI 1) h K) ∧ (¬ x6 = 0 → (∃ fs, h[o]? = some (.inr (11, fs))) ∧ RnI E mX12_turn (dd, 0, 0) [.ref o, .int x1, .int x2, .int x3, .int x7] h (fun v1 h1 => (∃ fs, h1[o]? = some (.inr (11, fs))) ∧ RnI E mX12_turn (dd, 0, 0) [.ref o, .int x1, .int x2, .int x3, .int x5] h1 (fun v2 h2 => (v1 = v2 → pX12_cycleOf_19 E dd o x1 x2 x3 x4 x5 (nI 0) (x7 + nI 1) h2 K) ∧ (¬ v1 = v2 → pX12_cycleOf_19 E dd o x1 x2 x3 x4 x5 (nI 1) (x7 + nI 1) h2 K)))))) : pX12_cycleOf_19 E dd o x1 x2 x3 x4 x5 x6 x7 h K := by
  show gk_G E mX12_cycleOf (dd + 1, 0, 0) 19 [(0, .ref o), (1, .int x1), (2, .int x2), (3, .int x3), (4, .int x4), (5, .int x5), (6, .int x6), (7, .int x7)] [] h (fun o h1 => ∃ v, o = some (.int v) ∧ K v h1)
  refine gk_iload (pc := 19) (DX12_cycleOf_0.at 11 rfl) 7 rfl ?_
  refine gk_iload (pc := 21) (DX12_cycleOf_0.at 12 rfl) 5 rfl ?_
  refine gk_icmp_ge (pc := 23) 65 (DX12_cycleOf_0.at 13 rfl) (by decide) (fun c => ?_) (fun c => ?_)
  · replace hv := hv.1 c
    refine gk_iload (pc := 65) (DX12_cycleOf_0.at 35 rfl) 4 rfl ?_
    refine gk_iload (pc := 67) (DX12_cycleOf_0.at 36 rfl) 6 rfl ?_
    refine gk_if_eq (pc := 69) 76 (DX12_cycleOf_0.at 37 rfl) (by decide) (fun c => ?_) (fun c => ?_)
    · replace hv := hv.1 c
      refine gk_iconst (pc := 76) (nI 0) (DX12_cycleOf_0.at 40 rfl) ci_0 ?_
      refine gk_iadd (pc := 77) (DX12_cycleOf_0.at 41 rfl) ?_
      refine gk_istore (pc := 78) [(4, .int (x4 + (nI 0))), (0, .ref o), (1, .int x1), (2, .int x2), (3, .int x3), (5, .int x5), (6, .int x6), (7, .int x7)] (DX12_cycleOf_0.at 42 rfl) (Nat.le_of_ble_eq_true rfl) rfl ?_
      refine gk_iinc (pc := 80) (x5 + nI 1) [(5, .int (x5 + nI 1)), (4, .int (x4 + (nI 0))), (0, .ref o), (1, .int x1), (2, .int x2), (3, .int x3), (6, .int x6), (7, .int x7)] 5 (DX12_cycleOf_0.at 43 rfl) rfl (by rw [ci_1]) (Nat.le_of_ble_eq_true rfl) rfl ?_
      refine gk_goto (pc := 83) 6 (DX12_cycleOf_0.at 44 rfl) (by decide) ?_
      exact gk_pick (pc := 6) [(0, .ref o), (1, .int x1), (2, .int x2), (3, .int x3), (4, .int (x4 + (nI 0))), (5, .int (x5 + nI 1))] [2, 3, 4, 5, 1, 0] rfl hv
    · replace hv := hv.2 c
      refine gk_iconst (pc := 72) (nI 1) (DX12_cycleOf_0.at 38 rfl) ci_1 ?_
      refine gk_goto (pc := 73) 77 (DX12_cycleOf_0.at 39 rfl) (by decide) ?_
      refine gk_iadd (pc := 77) (DX12_cycleOf_0.at 41 rfl) ?_
      refine gk_istore (pc := 78) [(4, .int (x4 + (nI 1))), (0, .ref o), (1, .int x1), (2, .int x2), (3, .int x3), (5, .int x5), (6, .int x6), (7, .int x7)] (DX12_cycleOf_0.at 42 rfl) (Nat.le_of_ble_eq_true rfl) rfl ?_
      refine gk_iinc (pc := 80) (x5 + nI 1) [(5, .int (x5 + nI 1)), (4, .int (x4 + (nI 1))), (0, .ref o), (1, .int x1), (2, .int x2), (3, .int x3), (6, .int x6), (7, .int x7)] 5 (DX12_cycleOf_0.at 43 rfl) rfl (by rw [ci_1]) (Nat.le_of_ble_eq_true rfl) rfl ?_
      refine gk_goto (pc := 83) 6 (DX12_cycleOf_0.at 44 rfl) (by decide) ?_
      exact gk_pick (pc := 6) [(0, .ref o), (1, .int x1), (2, .int x2), (3, .int x3), (4, .int (x4 + (nI 1))), (5, .int (x5 + nI 1))] [2, 3, 4, 5, 1, 0] rfl hv
  · replace hv := hv.2 c
    refine gk_iload (pc := 26) (DX12_cycleOf_0.at 14 rfl) 6 rfl ?_
    refine gk_if_eq (pc := 28) 56 (DX12_cycleOf_0.at 15 rfl) (by decide) (fun c => ?_) (fun c => ?_)
    · replace hv := hv.1 c
      refine gk_iconst (pc := 56) (nI 0) (DX12_cycleOf_0.at 31 rfl) ci_0 ?_
      refine gk_istore (pc := 57) [(6, .int (nI 0)), (0, .ref o), (1, .int x1), (2, .int x2), (3, .int x3), (4, .int x4), (5, .int x5), (7, .int x7)] (DX12_cycleOf_0.at 32 rfl) (Nat.le_of_ble_eq_true rfl) rfl ?_
      refine gk_iinc (pc := 59) (x7 + nI 1) [(7, .int (x7 + nI 1)), (6, .int (nI 0)), (0, .ref o), (1, .int x1), (2, .int x2), (3, .int x3), (4, .int x4), (5, .int x5)] 7 (DX12_cycleOf_0.at 33 rfl) rfl (by rw [ci_1]) (Nat.le_of_ble_eq_true rfl) rfl ?_
      refine gk_goto (pc := 62) 19 (DX12_cycleOf_0.at 34 rfl) (by decide) ?_
      exact gk_pick (pc := 19) [(0, .ref o), (1, .int x1), (2, .int x2), (3, .int x3), (4, .int x4), (5, .int x5), (6, .int (nI 0)), (7, .int (x7 + nI 1))] [2, 3, 4, 5, 6, 7, 1, 0] rfl hv
    · replace hv := hv.2 c
      refine gk_aload_n (pc := 31) (DX12_cycleOf_0.at 16 rfl) 0 rfl rfl ?_
      refine gk_iload_n (pc := 32) (DX12_cycleOf_0.at 17 rfl) 1 rfl rfl ?_
      refine gk_iload_n (pc := 33) (DX12_cycleOf_0.at 18 rfl) 2 rfl rfl ?_
      refine gk_iload_n (pc := 34) (DX12_cycleOf_0.at 19 rfl) 3 rfl rfl ?_
      refine gk_iload (pc := 35) (DX12_cycleOf_0.at 20 rfl) 7 rfl ?_
      obtain ⟨⟨fs1, q1⟩, hv⟩ := hv
      refine gk_vV (pc := 37) [.int x1, .int x2, .int x3, .int x7] [] (DX12_cycleOf_0.at 21 rfl) cvX12_101 q1 rfl rfl (Nat.le_of_ble_eq_true rfl) (Nat.le_of_ble_eq_true rfl) (gk_Run.post (fun o h1 z => ?_) hv)
      obtain ⟨v1, rfl, hv⟩ := z
      refine gk_aload_n (pc := 40) (DX12_cycleOf_0.at 22 rfl) 0 rfl rfl ?_
      refine gk_iload_n (pc := 41) (DX12_cycleOf_0.at 23 rfl) 1 rfl rfl ?_
      refine gk_iload_n (pc := 42) (DX12_cycleOf_0.at 24 rfl) 2 rfl rfl ?_
      refine gk_iload_n (pc := 43) (DX12_cycleOf_0.at 25 rfl) 3 rfl rfl ?_
      refine gk_iload (pc := 44) (DX12_cycleOf_0.at 26 rfl) 5 rfl ?_
      obtain ⟨⟨fs2, q2⟩, hv⟩ := hv
      refine gk_vV (pc := 46) [.int x1, .int x2, .int x3, .int x5] [.int v1] (DX12_cycleOf_0.at 27 rfl) cvX12_101 q2 rfl rfl (Nat.le_of_ble_eq_true rfl) (Nat.le_of_ble_eq_true rfl) (gk_Run.post (fun o h2 z => ?_) hv)
      obtain ⟨v2, rfl, hv⟩ := z
      refine gk_icmp_eq (pc := 49) 56 (DX12_cycleOf_0.at 28 rfl) (by decide) (fun c => ?_) (fun c => ?_)
      · replace hv := hv.1 c
        refine gk_iconst (pc := 56) (nI 0) (DX12_cycleOf_0.at 31 rfl) ci_0 ?_
        refine gk_istore (pc := 57) [(6, .int (nI 0)), (0, .ref o), (1, .int x1), (2, .int x2), (3, .int x3), (4, .int x4), (5, .int x5), (7, .int x7)] (DX12_cycleOf_0.at 32 rfl) (Nat.le_of_ble_eq_true rfl) rfl ?_
        refine gk_iinc (pc := 59) (x7 + nI 1) [(7, .int (x7 + nI 1)), (6, .int (nI 0)), (0, .ref o), (1, .int x1), (2, .int x2), (3, .int x3), (4, .int x4), (5, .int x5)] 7 (DX12_cycleOf_0.at 33 rfl) rfl (by rw [ci_1]) (Nat.le_of_ble_eq_true rfl) rfl ?_
        refine gk_goto (pc := 62) 19 (DX12_cycleOf_0.at 34 rfl) (by decide) ?_
        exact gk_pick (pc := 19) [(0, .ref o), (1, .int x1), (2, .int x2), (3, .int x3), (4, .int x4), (5, .int x5), (6, .int (nI 0)), (7, .int (x7 + nI 1))] [2, 3, 4, 5, 6, 7, 1, 0] rfl hv
      · replace hv := hv.2 c
        refine gk_iconst (pc := 52) (nI 1) (DX12_cycleOf_0.at 29 rfl) ci_1 ?_
        refine gk_goto (pc := 53) 57 (DX12_cycleOf_0.at 30 rfl) (by decide) ?_
        refine gk_istore (pc := 57) [(6, .int (nI 1)), (0, .ref o), (1, .int x1), (2, .int x2), (3, .int x3), (4, .int x4), (5, .int x5), (7, .int x7)] (DX12_cycleOf_0.at 32 rfl) (Nat.le_of_ble_eq_true rfl) rfl ?_
        refine gk_iinc (pc := 59) (x7 + nI 1) [(7, .int (x7 + nI 1)), (6, .int (nI 1)), (0, .ref o), (1, .int x1), (2, .int x2), (3, .int x3), (4, .int x4), (5, .int x5)] 7 (DX12_cycleOf_0.at 33 rfl) rfl (by rw [ci_1]) (Nat.le_of_ble_eq_true rfl) rfl ?_
        refine gk_goto (pc := 62) 19 (DX12_cycleOf_0.at 34 rfl) (by decide) ?_
        exact gk_pick (pc := 19) [(0, .ref o), (1, .int x1), (2, .int x2), (3, .int x3), (4, .int x4), (5, .int x5), (6, .int (nI 1)), (7, .int (x7 + nI 1))] [2, 3, 4, 5, 6, 7, 1, 0] rfl hv
abbrev pX12_cycles_27 (E : gk_E) (dd : Nat) (o : Nat) (x1 : Int32) (x2 : Int32) (x3 : Int32) (x4 : Int32) (x5 : Int32) (x6 : Int32) (h : gk_H) (K : Int32 → gk_H → Prop) : Prop := gk_G E mX12_cycles (dd + 1, 0, 0) 27 [(0, .ref o), (1, .int x1), (2, .int x2), (3, .int x3), (4, .int x4), (5, .int x5), (6, .int x6)] [] h (fun o h1 => ∃ v, o = some (.int v) ∧ K v h1)
abbrev pX12_cycles_39 (E : gk_E) (dd : Nat) (o : Nat) (x1 : Int32) (x2 : Int32) (x3 : Int32) (x4 : Int32) (x5 : Int32) (x6 : Int32) (x7 : Int32) (h : gk_H) (K : Int32 → gk_H → Prop) : Prop := gk_G E mX12_cycles (dd + 1, 0, 0) 39 [(0, .ref o), (1, .int x1), (2, .int x2), (3, .int x3), (4, .int x4), (5, .int x5), (6, .int x6), (7, .int x7)] [] h (fun o h1 => ∃ v, o = some (.int v) ∧ K v h1)
abbrev pX12_cycles_51 (E : gk_E) (dd : Nat) (o : Nat) (x1 : Int32) (x2 : Int32) (x3 : Int32) (x4 : Int32) (x5 : Int32) (x6 : Int32) (x7 : Int32) (x8 : Int32) (h : gk_H) (K : Int32 → gk_H → Prop) : Prop := gk_G E mX12_cycles (dd + 1, 0, 0) 51 [(0, .ref o), (1, .int x1), (2, .int x2), (3, .int x3), (4, .int x4), (5, .int x5), (6, .int x6), (7, .int x7), (8, .int x8)] [] h (fun o h1 => ∃ v, o = some (.int v) ∧ K v h1)
set_option maxHeartbeats 4000000 in
theorem vX12_cycles_0 {E : gk_E} {dd : Nat} {o : Nat} {x1 : Int32}  {h : gk_H} {K : Int32 → gk_H → Prop} (hv : RnI E mX12_isFrom (dd, 0, 0) [.long x1.toInt64, .long (lN 0), .long (lN 3)] h (fun v1 h1 => (¬ v1 = 0 → pX12_cycles_27 E dd o x1 (nI 0) (nI 0) (nI 0) (nI 0) (nI 0) h1 K) ∧ (v1 = 0 → K ((-1)) h1))) : RnI E mX12_cycles (dd + 1, 0, 0) [.ref o, .int x1] h K := by
  show gk_G E mX12_cycles (dd + 1, 0, 0) 0 [(0, .ref o), (1, .int x1)] [] h (fun o h1 => ∃ v, o = some (.int v) ∧ K v h1)
  refine gk_iload_n (pc := 0) (DX12_cycles_0.at 0 rfl) 1 rfl rfl ?_
  refine gk_i2l (pc := 1) (DX12_cycles_0.at 1 rfl) ?_
  refine gk_lconst (pc := 2) (lN 0) (DX12_cycles_0.at 2 rfl) rfl ?_
  refine gk_ldc2 (pc := 3) (lN 3) (DX12_cycles_0.at 3 rfl) klX12_125 ?_
  refine gk_vS (pc := 6) [.long x1.toInt64, .long (lN 0), .long (lN 3)] [] (DX12_cycles_0.at 4 rfl) csX12_70 rfl rfl (Nat.le_of_ble_eq_true rfl) (Nat.le_of_ble_eq_true rfl) (gk_Run.post (fun o h1 z => ?_) hv)
  obtain ⟨v1, rfl, hv⟩ := z
  refine gk_if_ne (pc := 9) 14 (DX12_cycles_0.at 5 rfl) (by decide) (fun c => ?_) (fun c => ?_)
  · replace hv := hv.1 c
    refine gk_iconst (pc := 14) (nI 0) (DX12_cycles_0.at 8 rfl) ci_0 ?_
    refine gk_istore_n (pc := 15) [(2, .int (nI 0)), (0, .ref o), (1, .int x1)] (DX12_cycles_0.at 9 rfl) rfl (Nat.le_of_ble_eq_true rfl) rfl ?_
    refine gk_iconst (pc := 16) (nI 0) (DX12_cycles_0.at 10 rfl) ci_0 ?_
    refine gk_istore_n (pc := 17) [(3, .int (nI 0)), (2, .int (nI 0)), (0, .ref o), (1, .int x1)] (DX12_cycles_0.at 11 rfl) rfl (Nat.le_of_ble_eq_true rfl) rfl ?_
    refine gk_iconst (pc := 18) (nI 0) (DX12_cycles_0.at 12 rfl) ci_0 ?_
    refine gk_istore (pc := 19) [(4, .int (nI 0)), (3, .int (nI 0)), (2, .int (nI 0)), (0, .ref o), (1, .int x1)] (DX12_cycles_0.at 13 rfl) (Nat.le_of_ble_eq_true rfl) rfl ?_
    refine gk_iconst (pc := 21) (nI 0) (DX12_cycles_0.at 14 rfl) ci_0 ?_
    refine gk_istore (pc := 22) [(5, .int (nI 0)), (4, .int (nI 0)), (3, .int (nI 0)), (2, .int (nI 0)), (0, .ref o), (1, .int x1)] (DX12_cycles_0.at 15 rfl) (Nat.le_of_ble_eq_true rfl) rfl ?_
    refine gk_iconst (pc := 24) (nI 0) (DX12_cycles_0.at 16 rfl) ci_0 ?_
    refine gk_istore (pc := 25) [(6, .int (nI 0)), (5, .int (nI 0)), (4, .int (nI 0)), (3, .int (nI 0)), (2, .int (nI 0)), (0, .ref o), (1, .int x1)] (DX12_cycles_0.at 17 rfl) (Nat.le_of_ble_eq_true rfl) rfl ?_
    exact gk_pick (pc := 27) [(0, .ref o), (1, .int x1), (2, .int (nI 0)), (3, .int (nI 0)), (4, .int (nI 0)), (5, .int (nI 0)), (6, .int (nI 0))] [5, 6, 4, 3, 2, 1, 0] rfl hv
  · replace hv := hv.2 c
    refine gk_iconst (pc := 12) ((-1)) (DX12_cycles_0.at 6 rfl) ci_m1 ?_
    exact gk_ireturn (pc := 13) .int (DX12_cycles_0.at 7 rfl) rfl rfl ⟨_, rfl, hv⟩
set_option maxHeartbeats 4000000 in
theorem vX12_cycles_27 {E : gk_E} {dd : Nat} {o : Nat} {x1 : Int32} {x2 : Int32} {x3 : Int32} {x4 : Int32} {x5 : Int32} {x6 : Int32}  {h : gk_H} {K : Int32 → gk_H → Prop} (hv : LdI h o 11 0 fun v1 => (v1 ≤ x6 → (¬ x1 = 0 → (¬ x1 = (nI 1) → (¬ x1 = (nI 2) → K x4 h) ∧ (x1 = (nI 2) → K x5 h)) ∧ (x1 = (nI 1) → K x3 h)) ∧ (x1 = 0 → K x2 h)) ∧ (¬ v1 ≤ x6 → pX12_cycles_39 E dd o x1 x2 x3 x4 x5 x6 (nI 0) h K)) : pX12_cycles_27 E dd o x1 x2 x3 x4 x5 x6 h K := by
  show gk_G E mX12_cycles (dd + 1, 0, 0) 27 [(0, .ref o), (1, .int x1), (2, .int x2), (3, .int x3), (4, .int x4), (5, .int x5), (6, .int x6)] [] h (fun o h1 => ∃ v, o = some (.int v) ∧ K v h1)
  refine gk_iload (pc := 27) (DX12_cycles_0.at 18 rfl) 6 rfl ?_
  refine gk_aload_n (pc := 29) (DX12_cycles_0.at 19 rfl) 0 rfl rfl ?_
  obtain ⟨fs1, v1, q1, r1, hv⟩ := hv
  refine gk_get (pc := 30) (.int v1) (DX12_cycles_0.at 20 rfl) fX12_9_11 q1 r1 ?_
  refine gk_icmp_ge (pc := 33) 188 (DX12_cycles_0.at 21 rfl) (by decide) (fun c => ?_) (fun c => ?_)
  · replace hv := hv.1 c
    refine gk_iload_n (pc := 188) (DX12_cycles_1.at 33 rfl) 1 rfl rfl ?_
    refine gk_if_ne (pc := 189) 196 (DX12_cycles_1.at 34 rfl) (by decide) (fun c => ?_) (fun c => ?_)
    · replace hv := hv.1 c
      refine gk_iload_n (pc := 196) (DX12_cycles_1.at 37 rfl) 1 rfl rfl ?_
      refine gk_iconst (pc := 197) (nI 1) (DX12_cycles_1.at 38 rfl) ci_1 ?_
      refine gk_icmp_ne (pc := 198) 205 (DX12_cycles_1.at 39 rfl) (by decide) (fun c => ?_) (fun c => ?_)
      · replace hv := hv.1 c
        refine gk_iload_n (pc := 205) (DX12_cycles_1.at 42 rfl) 1 rfl rfl ?_
        refine gk_iconst (pc := 206) (nI 2) (DX12_cycles_1.at 43 rfl) ci_2 ?_
        refine gk_icmp_ne (pc := 207) 215 (DX12_cycles_1.at 44 rfl) (by decide) (fun c => ?_) (fun c => ?_)
        · replace hv := hv.1 c
          refine gk_iload (pc := 215) (DX12_cycles_1.at 47 rfl) 4 rfl ?_
          exact gk_ireturn (pc := 217) .int (DX12_cycles_1.at 48 rfl) rfl rfl ⟨_, rfl, hv⟩
        · replace hv := hv.2 c
          refine gk_iload (pc := 210) (DX12_cycles_1.at 45 rfl) 5 rfl ?_
          refine gk_goto (pc := 212) 217 (DX12_cycles_1.at 46 rfl) (by decide) ?_
          exact gk_ireturn (pc := 217) .int (DX12_cycles_1.at 48 rfl) rfl rfl ⟨_, rfl, hv⟩
      · replace hv := hv.2 c
        refine gk_iload_n (pc := 201) (DX12_cycles_1.at 40 rfl) 3 rfl rfl ?_
        refine gk_goto (pc := 202) 217 (DX12_cycles_1.at 41 rfl) (by decide) ?_
        exact gk_ireturn (pc := 217) .int (DX12_cycles_1.at 48 rfl) rfl rfl ⟨_, rfl, hv⟩
    · replace hv := hv.2 c
      refine gk_iload_n (pc := 192) (DX12_cycles_1.at 35 rfl) 2 rfl rfl ?_
      refine gk_goto (pc := 193) 217 (DX12_cycles_1.at 36 rfl) (by decide) ?_
      exact gk_ireturn (pc := 217) .int (DX12_cycles_1.at 48 rfl) rfl rfl ⟨_, rfl, hv⟩
  · replace hv := hv.2 c
    refine gk_iconst (pc := 36) (nI 0) (DX12_cycles_0.at 22 rfl) ci_0 ?_
    refine gk_istore (pc := 37) [(7, .int (nI 0)), (0, .ref o), (1, .int x1), (2, .int x2), (3, .int x3), (4, .int x4), (5, .int x5), (6, .int x6)] (DX12_cycles_0.at 23 rfl) (Nat.le_of_ble_eq_true rfl) rfl ?_
    exact gk_pick (pc := 39) [(0, .ref o), (1, .int x1), (2, .int x2), (3, .int x3), (4, .int x4), (5, .int x5), (6, .int x6), (7, .int (nI 0))] [1, 2, 3, 4, 5, 6, 7, 0] rfl hv
set_option maxHeartbeats 4000000 in
theorem vX12_cycles_39 {E : gk_E} {dd : Nat} {o : Nat} {x1 : Int32} {x2 : Int32} {x3 : Int32} {x4 : Int32} {x5 : Int32} {x6 : Int32} {x7 : Int32}  {h : gk_H} {K : Int32 → gk_H → Prop} (hv : LdI h o 11 0 fun v1 => (v1 ≤ x7 → pX12_cycles_27 E dd o x1 x2 x3 x4 x5 (x6 + nI 1) h K) ∧ (¬ v1 ≤ x7 → pX12_cycles_51 E dd o x1 x2 x3 x4 x5 x6 x7 (nI 0) h K)) : pX12_cycles_39 E dd o x1 x2 x3 x4 x5 x6 x7 h K := by
  show gk_G E mX12_cycles (dd + 1, 0, 0) 39 [(0, .ref o), (1, .int x1), (2, .int x2), (3, .int x3), (4, .int x4), (5, .int x5), (6, .int x6), (7, .int x7)] [] h (fun o h1 => ∃ v, o = some (.int v) ∧ K v h1)
  refine gk_iload (pc := 39) (DX12_cycles_0.at 24 rfl) 7 rfl ?_
  refine gk_aload_n (pc := 41) (DX12_cycles_0.at 25 rfl) 0 rfl rfl ?_
  obtain ⟨fs1, v1, q1, r1, hv⟩ := hv
  refine gk_get (pc := 42) (.int v1) (DX12_cycles_0.at 26 rfl) fX12_9_11 q1 r1 ?_
  refine gk_icmp_ge (pc := 45) 182 (DX12_cycles_0.at 27 rfl) (by decide) (fun c => ?_) (fun c => ?_)
  · replace hv := hv.1 c
    refine gk_iinc (pc := 182) (x6 + nI 1) [(6, .int (x6 + nI 1)), (0, .ref o), (1, .int x1), (2, .int x2), (3, .int x3), (4, .int x4), (5, .int x5), (7, .int x7)] 6 (DX12_cycles_1.at 31 rfl) rfl (by rw [ci_1]) (Nat.le_of_ble_eq_true rfl) rfl ?_
    refine gk_goto (pc := 185) 27 (DX12_cycles_1.at 32 rfl) (by decide) ?_
    exact gk_pick (pc := 27) [(0, .ref o), (1, .int x1), (2, .int x2), (3, .int x3), (4, .int x4), (5, .int x5), (6, .int (x6 + nI 1))] [1, 2, 3, 4, 5, 6, 0] rfl hv
  · replace hv := hv.2 c
    refine gk_iconst (pc := 48) (nI 0) (DX12_cycles_0.at 28 rfl) ci_0 ?_
    refine gk_istore (pc := 49) [(8, .int (nI 0)), (0, .ref o), (1, .int x1), (2, .int x2), (3, .int x3), (4, .int x4), (5, .int x5), (6, .int x6), (7, .int x7)] (DX12_cycles_0.at 29 rfl) (Nat.le_of_ble_eq_true rfl) rfl ?_
    exact gk_pick (pc := 51) [(0, .ref o), (1, .int x1), (2, .int x2), (3, .int x3), (4, .int x4), (5, .int x5), (6, .int x6), (7, .int x7), (8, .int (nI 0))] [1, 2, 3, 4, 5, 6, 7, 8, 0] rfl hv
set_option maxHeartbeats 4000000 in
theorem vX12_cycles_51 {E : gk_E} {dd : Nat} {o : Nat} {x1 : Int32} {x2 : Int32} {x3 : Int32} {x4 : Int32} {x5 : Int32} {x6 : Int32} {x7 : Int32} {x8 : Int32}  {h : gk_H} {K : Int32 → gk_H → Prop} (hv : LdI h o 11 0 fun v1 => (v1 ≤ x8 → pX12_cycles_39 E dd o x1 x2 x3 x4 x5 x6 (x7 + nI 1) h K) ∧ (¬ v1 ≤ x8 → (∃ fs, h[o]? = some (.inr (11, fs))) ∧ RnI E mX12_is (dd, 0, 0) [.ref o, .int x6, .int x7, .int x8] h (fun v2 h2 => (v2 = 0 → (x6 ≤ 0 → pX12_cycles_51 E dd o x1 x2 x3 x4 (x5 + (nI 0)) x6 x7 (x8 + nI 1) h2 K) ∧ (¬ x6 ≤ 0 → (x7 ≤ 0 → pX12_cycles_51 E dd o x1 x2 x3 x4 (x5 + (nI 0)) x6 x7 (x8 + nI 1) h2 K) ∧ (¬ x7 ≤ 0 → (x8 ≤ 0 → pX12_cycles_51 E dd o x1 x2 x3 x4 (x5 + (nI 0)) x6 x7 (x8 + nI 1) h2 K) ∧ (¬ x8 ≤ 0 → (∃ fs, h2[o]? = some (.inr (11, fs))) ∧ RnI E mX12_isLeast (dd, 0, 0) [.ref o, .int x6, .int x7, .int x8] h2 (fun v3 h3 => (v3 = 0 → pX12_cycles_51 E dd o x1 x2 x3 x4 (x5 + (nI 0)) x6 x7 (x8 + nI 1) h3 K) ∧ (¬ v3 = 0 → (∃ fs, h3[o]? = some (.inr (11, fs))) ∧ RnI E mX12_is (dd, 0, 0) [.ref o, .int x6, .int x7, .int x8] h3 (fun v4 h4 => (v4 = 0 → (∃ fs, h4[o]? = some (.inr (11, fs))) ∧ RnI E mX12_is (dd, 0, 0) [.ref o, .int x6, .int x7, .int x8] h4 (fun v5 h5 => (v5 = 0 → pX12_cycles_51 E dd o x1 (x2 + (nI 0)) (x3 + nI 1) x4 (x5 + (nI 0)) x6 x7 (x8 + nI 1) h5 K) ∧ (¬ v5 = 0 → (∃ fs, h5[o]? = some (.inr (11, fs))) ∧ RnI E mX12_cycleOf (dd, 0, 0) [.ref o, .int x6, .int x7, .int x8] h5 (fun v6 h6 => pX12_cycles_51 E dd o x1 (x2 + (nI 0)) (x3 + nI 1) (if x4 < v6 then v6 else x4) (x5 + (nI 0)) x6 x7 (x8 + nI 1) h6 K)))) ∧ (¬ v4 = 0 → (∃ fs, h4[o]? = some (.inr (11, fs))) ∧ RnI E mX12_is (dd, 0, 0) [.ref o, .int x6, .int x7, .int x8] h4 (fun v7 h7 => (v7 = 0 → pX12_cycles_51 E dd o x1 (x2 + (nI 1)) (x3 + nI 1) x4 (x5 + (nI 0)) x6 x7 (x8 + nI 1) h7 K) ∧ (¬ v7 = 0 → (∃ fs, h7[o]? = some (.inr (11, fs))) ∧ RnI E mX12_cycleOf (dd, 0, 0) [.ref o, .int x6, .int x7, .int x8] h7 (fun v8 h8 => pX12_cycles_51 E dd o x1 (x2 + (nI 1)) (x3 + nI 1) (if x4 < v8 then v8 else x4) (x5 + (nI 0)) x6 x7 (x8 + nI 1) h8 K))))))))))) ∧ (¬ v2 = 0 → (x6 ≤ 0 → pX12_cycles_51 E dd o x1 x2 x3 x4 (x5 + (nI 1)) x6 x7 (x8 + nI 1) h2 K) ∧ (¬ x6 ≤ 0 → (x7 ≤ 0 → pX12_cycles_51 E dd o x1 x2 x3 x4 (x5 + (nI 1)) x6 x7 (x8 + nI 1) h2 K) ∧ (¬ x7 ≤ 0 → (x8 ≤ 0 → pX12_cycles_51 E dd o x1 x2 x3 x4 (x5 + (nI 1)) x6 x7 (x8 + nI 1) h2 K) ∧ (¬ x8 ≤ 0 → (∃ fs, h2[o]? = some (.inr (11, fs))) ∧ RnI E mX12_isLeast (dd, 0, 0) [.ref o, .int x6, .int x7, .int x8] h2 (fun v9 h9 => (v9 = 0 → pX12_cycles_51 E dd o x1 x2 x3 x4 (x5 + (nI 1)) x6 x7 (x8 + nI 1) h9 K) ∧ (¬ v9 = 0 → (∃ fs, h9[o]? = some (.inr (11, fs))) ∧ RnI E mX12_is (dd, 0, 0) [.ref o, .int x6, .int x7, .int x8] h9 (fun v10 h10 => (v10 = 0 → (∃ fs, h10[o]? = some (.inr (11, fs))) ∧ RnI E mX12_is (dd, 0, 0) [.ref o, .int x6, .int x7, .int x8] h10 (fun v11 h11 => (v11 = 0 → pX12_cycles_51 E dd o x1 (x2 + (nI 0)) (x3 + nI 1) x4 (x5 + (nI 1)) x6 x7 (x8 + nI 1) h11 K) ∧ (¬ v11 = 0 → (∃ fs, h11[o]? = some (.inr (11, fs))) ∧ RnI E mX12_cycleOf (dd, 0, 0) [.ref o, .int x6, .int x7, .int x8] h11 (fun v12 h12 => pX12_cycles_51 E dd o x1 (x2 + (nI 0)) (x3 + nI 1) (if x4 < v12 then v12 else x4) (x5 + (nI 1)) x6 x7 (x8 + nI 1) h12 K)))) ∧ (¬ v10 = 0 → (∃ fs, h10[o]? = some (.inr (11, fs))) ∧ RnI E mX12_is (dd, 0, 0) [.ref o, .int x6, .int x7, .int x8] h10 (fun v13 h13 => (v13 = 0 → pX12_cycles_51 E dd o x1 (x2 + (nI 1)) (x3 + nI 1) x4 (x5 + (nI 1)) x6 x7 (x8 + nI 1) h13 K) ∧ (¬ v13 = 0 → (∃ fs, h13[o]? = some (.inr (11, fs))) ∧ RnI E mX12_cycleOf (dd, 0, 0) [.ref o, .int x6, .int x7, .int x8] h13 (fun v14 h14 => pX12_cycles_51 E dd o x1 (x2 + (nI 1)) (x3 + nI 1) (if x4 < v14 then v14 else x4) (x5 + (nI 1)) x6 x7 (x8 + nI 1) h14 K)))))))))))))) : pX12_cycles_51 E dd o x1 x2 x3 x4 x5 x6 x7 x8 h K := by
  show gk_G E mX12_cycles (dd + 1, 0, 0) 51 [(0, .ref o), (1, .int x1), (2, .int x2), (3, .int x3), (4, .int x4), (5, .int x5), (6, .int x6), (7, .int x7), (8, .int x8)] [] h (fun o h1 => ∃ v, o = some (.int v) ∧ K v h1)
  refine gk_iload (pc := 51) (DX12_cycles_0.at 30 rfl) 8 rfl ?_
  refine gk_aload_n (pc := 53) (DX12_cycles_0.at 31 rfl) 0 rfl rfl ?_
  obtain ⟨fs1, v1, q1, r1, hv⟩ := hv
  refine gk_get (pc := 54) (.int v1) (DX12_cycles_0.at 32 rfl) fX12_9_11 q1 r1 ?_
  refine gk_icmp_ge (pc := 57) 176 (DX12_cycles_0.at 33 rfl) (by decide) (fun c => ?_) (fun c => ?_)
  · replace hv := hv.1 c
    refine gk_iinc (pc := 176) (x7 + nI 1) [(7, .int (x7 + nI 1)), (0, .ref o), (1, .int x1), (2, .int x2), (3, .int x3), (4, .int x4), (5, .int x5), (6, .int x6), (8, .int x8)] 7 (DX12_cycles_1.at 29 rfl) rfl (by rw [ci_1]) (Nat.le_of_ble_eq_true rfl) rfl ?_
    refine gk_goto (pc := 179) 39 (DX12_cycles_1.at 30 rfl) (by decide) ?_
    exact gk_pick (pc := 39) [(0, .ref o), (1, .int x1), (2, .int x2), (3, .int x3), (4, .int x4), (5, .int x5), (6, .int x6), (7, .int (x7 + nI 1))] [1, 2, 3, 4, 5, 6, 7, 0] rfl hv
  · replace hv := hv.2 c
    refine gk_iload (pc := 60) (DX12_cycles_0.at 34 rfl) 5 rfl ?_
    refine gk_aload_n (pc := 62) (DX12_cycles_0.at 35 rfl) 0 rfl rfl ?_
    refine gk_iload (pc := 63) (DX12_cycles_0.at 36 rfl) 6 rfl ?_
    refine gk_iload (pc := 65) (DX12_cycles_0.at 37 rfl) 7 rfl ?_
    refine gk_iload (pc := 67) (DX12_cycles_0.at 38 rfl) 8 rfl ?_
    obtain ⟨⟨fs2, q2⟩, hv⟩ := hv
    refine gk_vV (pc := 69) [.int x6, .int x7, .int x8] [.int x5] (DX12_cycles_0.at 39 rfl) cvX12_105 q2 rfl rfl (Nat.le_of_ble_eq_true rfl) (Nat.le_of_ble_eq_true rfl) (gk_Run.post (fun o h2 z => ?_) hv)
    obtain ⟨v2, rfl, hv⟩ := z
    refine gk_if_eq (pc := 72) 79 (DX12_cycles_0.at 40 rfl) (by decide) (fun c => ?_) (fun c => ?_)
    · replace hv := hv.1 c
      refine gk_iconst (pc := 79) (nI 0) (DX12_cycles_0.at 43 rfl) ci_0 ?_
      refine gk_iadd (pc := 80) (DX12_cycles_0.at 44 rfl) ?_
      refine gk_istore (pc := 81) [(5, .int (x5 + (nI 0))), (0, .ref o), (1, .int x1), (2, .int x2), (3, .int x3), (4, .int x4), (6, .int x6), (7, .int x7), (8, .int x8)] (DX12_cycles_0.at 45 rfl) (Nat.le_of_ble_eq_true rfl) rfl ?_
      refine gk_iload (pc := 83) (DX12_cycles_0.at 46 rfl) 6 rfl ?_
      refine gk_if_le (pc := 85) 170 (DX12_cycles_0.at 47 rfl) (by decide) (fun c => ?_) (fun c => ?_)
      · replace hv := hv.1 c
        refine gk_iinc (pc := 170) (x8 + nI 1) [(8, .int (x8 + nI 1)), (5, .int (x5 + (nI 0))), (0, .ref o), (1, .int x1), (2, .int x2), (3, .int x3), (4, .int x4), (6, .int x6), (7, .int x7)] 8 (DX12_cycles_1.at 27 rfl) rfl (by rw [ci_1]) (Nat.le_of_ble_eq_true rfl) rfl ?_
        refine gk_goto (pc := 173) 51 (DX12_cycles_1.at 28 rfl) (by decide) ?_
        exact gk_pick (pc := 51) [(0, .ref o), (1, .int x1), (2, .int x2), (3, .int x3), (4, .int x4), (5, .int (x5 + (nI 0))), (6, .int x6), (7, .int x7), (8, .int (x8 + nI 1))] [2, 3, 4, 5, 6, 1, 7, 8, 0] rfl hv
      · replace hv := hv.2 c
        refine gk_iload (pc := 88) (DX12_cycles_0.at 48 rfl) 7 rfl ?_
        refine gk_if_le (pc := 90) 170 (DX12_cycles_0.at 49 rfl) (by decide) (fun c => ?_) (fun c => ?_)
        · replace hv := hv.1 c
          refine gk_iinc (pc := 170) (x8 + nI 1) [(8, .int (x8 + nI 1)), (5, .int (x5 + (nI 0))), (0, .ref o), (1, .int x1), (2, .int x2), (3, .int x3), (4, .int x4), (6, .int x6), (7, .int x7)] 8 (DX12_cycles_1.at 27 rfl) rfl (by rw [ci_1]) (Nat.le_of_ble_eq_true rfl) rfl ?_
          refine gk_goto (pc := 173) 51 (DX12_cycles_1.at 28 rfl) (by decide) ?_
          exact gk_pick (pc := 51) [(0, .ref o), (1, .int x1), (2, .int x2), (3, .int x3), (4, .int x4), (5, .int (x5 + (nI 0))), (6, .int x6), (7, .int x7), (8, .int (x8 + nI 1))] [2, 3, 4, 5, 6, 1, 7, 8, 0] rfl hv
        · replace hv := hv.2 c
          refine gk_iload (pc := 93) (DX12_cycles_0.at 50 rfl) 8 rfl ?_
          refine gk_if_le (pc := 95) 170 (DX12_cycles_0.at 51 rfl) (by decide) (fun c => ?_) (fun c => ?_)
          · replace hv := hv.1 c
            refine gk_iinc (pc := 170) (x8 + nI 1) [(8, .int (x8 + nI 1)), (5, .int (x5 + (nI 0))), (0, .ref o), (1, .int x1), (2, .int x2), (3, .int x3), (4, .int x4), (6, .int x6), (7, .int x7)] 8 (DX12_cycles_1.at 27 rfl) rfl (by rw [ci_1]) (Nat.le_of_ble_eq_true rfl) rfl ?_
            refine gk_goto (pc := 173) 51 (DX12_cycles_1.at 28 rfl) (by decide) ?_
            exact gk_pick (pc := 51) [(0, .ref o), (1, .int x1), (2, .int x2), (3, .int x3), (4, .int x4), (5, .int (x5 + (nI 0))), (6, .int x6), (7, .int x7), (8, .int (x8 + nI 1))] [2, 3, 4, 5, 6, 1, 7, 8, 0] rfl hv
          · replace hv := hv.2 c
            refine gk_aload_n (pc := 98) (DX12_cycles_0.at 52 rfl) 1 rfl rfl ?_
            refine gk_iload (pc := 99) (DX12_cycles_0.at 53 rfl) 6 rfl ?_
            refine gk_iload (pc := 101) (DX12_cycles_0.at 54 rfl) 7 rfl ?_
            refine gk_iload (pc := 103) (DX12_cycles_0.at 55 rfl) 8 rfl ?_
            obtain ⟨⟨fs3, q3⟩, hv⟩ := hv
            refine gk_vV (pc := 105) [.int x6, .int x7, .int x8] [] (DX12_cycles_0.at 56 rfl) cvX12_127 q3 rfl rfl (Nat.le_of_ble_eq_true rfl) (Nat.le_of_ble_eq_true rfl) (gk_Run.post (fun o h3 z => ?_) hv)
            obtain ⟨v3, rfl, hv⟩ := z
            refine gk_if_eq (pc := 108) 170 (DX12_cycles_0.at 57 rfl) (by decide) (fun c => ?_) (fun c => ?_)
            · replace hv := hv.1 c
              refine gk_iinc (pc := 170) (x8 + nI 1) [(8, .int (x8 + nI 1)), (5, .int (x5 + (nI 0))), (0, .ref o), (1, .int x1), (2, .int x2), (3, .int x3), (4, .int x4), (6, .int x6), (7, .int x7)] 8 (DX12_cycles_1.at 27 rfl) rfl (by rw [ci_1]) (Nat.le_of_ble_eq_true rfl) rfl ?_
              refine gk_goto (pc := 173) 51 (DX12_cycles_1.at 28 rfl) (by decide) ?_
              exact gk_pick (pc := 51) [(0, .ref o), (1, .int x1), (2, .int x2), (3, .int x3), (4, .int x4), (5, .int (x5 + (nI 0))), (6, .int x6), (7, .int x7), (8, .int (x8 + nI 1))] [2, 3, 4, 5, 6, 1, 7, 8, 0] rfl hv
            · replace hv := hv.2 c
              refine gk_iinc (pc := 111) (x3 + nI 1) [(3, .int (x3 + nI 1)), (5, .int (x5 + (nI 0))), (0, .ref o), (1, .int x1), (2, .int x2), (4, .int x4), (6, .int x6), (7, .int x7), (8, .int x8)] 4 (DX12_cycles_0.at 58 rfl) rfl (by rw [ci_1]) (Nat.le_of_ble_eq_true rfl) rfl ?_
              refine gk_iload_n (pc := 114) (DX12_cycles_0.at 59 rfl) 4 rfl rfl ?_
              refine gk_aload_n (pc := 115) (DX12_cycles_1.at 0 rfl) 2 rfl rfl ?_
              refine gk_iload (pc := 116) (DX12_cycles_1.at 1 rfl) 6 rfl ?_
              refine gk_iload (pc := 118) (DX12_cycles_1.at 2 rfl) 7 rfl ?_
              refine gk_iload (pc := 120) (DX12_cycles_1.at 3 rfl) 8 rfl ?_
              obtain ⟨⟨fs4, q4⟩, hv⟩ := hv
              refine gk_vV (pc := 122) [.int x6, .int x7, .int x8] [.int x2] (DX12_cycles_1.at 4 rfl) cvX12_105 q4 rfl rfl (Nat.le_of_ble_eq_true rfl) (Nat.le_of_ble_eq_true rfl) (gk_Run.post (fun o h4 z => ?_) hv)
              obtain ⟨v4, rfl, hv⟩ := z
              refine gk_if_eq (pc := 125) 132 (DX12_cycles_1.at 5 rfl) (by decide) (fun c => ?_) (fun c => ?_)
              · replace hv := hv.1 c
                refine gk_iconst (pc := 132) (nI 0) (DX12_cycles_1.at 8 rfl) ci_0 ?_
                refine gk_iadd (pc := 133) (DX12_cycles_1.at 9 rfl) ?_
                refine gk_istore_n (pc := 134) [(2, .int (x2 + (nI 0))), (3, .int (x3 + nI 1)), (5, .int (x5 + (nI 0))), (0, .ref o), (1, .int x1), (4, .int x4), (6, .int x6), (7, .int x7), (8, .int x8)] (DX12_cycles_1.at 10 rfl) rfl (Nat.le_of_ble_eq_true rfl) rfl ?_
                refine gk_aload_n (pc := 135) (DX12_cycles_1.at 11 rfl) 3 rfl rfl ?_
                refine gk_iload (pc := 136) (DX12_cycles_1.at 12 rfl) 6 rfl ?_
                refine gk_iload (pc := 138) (DX12_cycles_1.at 13 rfl) 7 rfl ?_
                refine gk_iload (pc := 140) (DX12_cycles_1.at 14 rfl) 8 rfl ?_
                obtain ⟨⟨fs5, q5⟩, hv⟩ := hv
                refine gk_vV (pc := 142) [.int x6, .int x7, .int x8] [] (DX12_cycles_1.at 15 rfl) cvX12_105 q5 rfl rfl (Nat.le_of_ble_eq_true rfl) (Nat.le_of_ble_eq_true rfl) (gk_Run.post (fun o h5 z => ?_) hv)
                obtain ⟨v5, rfl, hv⟩ := z
                refine gk_if_eq (pc := 145) 166 (DX12_cycles_1.at 16 rfl) (by decide) (fun c => ?_) (fun c => ?_)
                · replace hv := hv.1 c
                  refine gk_iload (pc := 166) (DX12_cycles_1.at 25 rfl) 5 rfl ?_
                  refine gk_istore (pc := 168) [(4, .int x4), (2, .int (x2 + (nI 0))), (3, .int (x3 + nI 1)), (5, .int (x5 + (nI 0))), (0, .ref o), (1, .int x1), (6, .int x6), (7, .int x7), (8, .int x8)] (DX12_cycles_1.at 26 rfl) (Nat.le_of_ble_eq_true rfl) rfl ?_
                  refine gk_iinc (pc := 170) (x8 + nI 1) [(8, .int (x8 + nI 1)), (4, .int x4), (2, .int (x2 + (nI 0))), (3, .int (x3 + nI 1)), (5, .int (x5 + (nI 0))), (0, .ref o), (1, .int x1), (6, .int x6), (7, .int x7)] 8 (DX12_cycles_1.at 27 rfl) rfl (by rw [ci_1]) (Nat.le_of_ble_eq_true rfl) rfl ?_
                  refine gk_goto (pc := 173) 51 (DX12_cycles_1.at 28 rfl) (by decide) ?_
                  exact gk_pick (pc := 51) [(0, .ref o), (1, .int x1), (2, .int (x2 + (nI 0))), (3, .int (x3 + nI 1)), (4, .int x4), (5, .int (x5 + (nI 0))), (6, .int x6), (7, .int x7), (8, .int (x8 + nI 1))] [5, 6, 2, 3, 1, 4, 7, 8, 0] rfl hv
                · replace hv := hv.2 c
                  refine gk_iload (pc := 148) (DX12_cycles_1.at 17 rfl) 5 rfl ?_
                  refine gk_aload_n (pc := 150) (DX12_cycles_1.at 18 rfl) 3 rfl rfl ?_
                  refine gk_iload (pc := 151) (DX12_cycles_1.at 19 rfl) 6 rfl ?_
                  refine gk_iload (pc := 153) (DX12_cycles_1.at 20 rfl) 7 rfl ?_
                  refine gk_iload (pc := 155) (DX12_cycles_1.at 21 rfl) 8 rfl ?_
                  obtain ⟨⟨fs6, q6⟩, hv⟩ := hv
                  refine gk_vV (pc := 157) [.int x6, .int x7, .int x8] [.int x4] (DX12_cycles_1.at 22 rfl) cvX12_130 q6 rfl rfl (Nat.le_of_ble_eq_true rfl) (Nat.le_of_ble_eq_true rfl) (gk_Run.post (fun o h6 z => ?_) hv)
                  obtain ⟨v6, rfl, hv⟩ := z
                  refine gk_max (pc := 160) (DX12_cycles_1.at 23 rfl) kw_1349 kw_588 kw_98 kw_589 (Nat.le_of_ble_eq_true rfl) ?_
                  refine gk_goto (pc := 163) 168 (DX12_cycles_1.at 24 rfl) (by decide) ?_
                  refine gk_istore (pc := 168) [(4, .int (if x4 < v6 then v6 else x4)), (2, .int (x2 + (nI 0))), (3, .int (x3 + nI 1)), (5, .int (x5 + (nI 0))), (0, .ref o), (1, .int x1), (6, .int x6), (7, .int x7), (8, .int x8)] (DX12_cycles_1.at 26 rfl) (Nat.le_of_ble_eq_true rfl) rfl ?_
                  refine gk_iinc (pc := 170) (x8 + nI 1) [(8, .int (x8 + nI 1)), (4, .int (if x4 < v6 then v6 else x4)), (2, .int (x2 + (nI 0))), (3, .int (x3 + nI 1)), (5, .int (x5 + (nI 0))), (0, .ref o), (1, .int x1), (6, .int x6), (7, .int x7)] 8 (DX12_cycles_1.at 27 rfl) rfl (by rw [ci_1]) (Nat.le_of_ble_eq_true rfl) rfl ?_
                  refine gk_goto (pc := 173) 51 (DX12_cycles_1.at 28 rfl) (by decide) ?_
                  exact gk_pick (pc := 51) [(0, .ref o), (1, .int x1), (2, .int (x2 + (nI 0))), (3, .int (x3 + nI 1)), (4, .int (if x4 < v6 then v6 else x4)), (5, .int (x5 + (nI 0))), (6, .int x6), (7, .int x7), (8, .int (x8 + nI 1))] [5, 6, 2, 3, 1, 4, 7, 8, 0] rfl hv
              · replace hv := hv.2 c
                refine gk_iconst (pc := 128) (nI 1) (DX12_cycles_1.at 6 rfl) ci_1 ?_
                refine gk_goto (pc := 129) 133 (DX12_cycles_1.at 7 rfl) (by decide) ?_
                refine gk_iadd (pc := 133) (DX12_cycles_1.at 9 rfl) ?_
                refine gk_istore_n (pc := 134) [(2, .int (x2 + (nI 1))), (3, .int (x3 + nI 1)), (5, .int (x5 + (nI 0))), (0, .ref o), (1, .int x1), (4, .int x4), (6, .int x6), (7, .int x7), (8, .int x8)] (DX12_cycles_1.at 10 rfl) rfl (Nat.le_of_ble_eq_true rfl) rfl ?_
                refine gk_aload_n (pc := 135) (DX12_cycles_1.at 11 rfl) 3 rfl rfl ?_
                refine gk_iload (pc := 136) (DX12_cycles_1.at 12 rfl) 6 rfl ?_
                refine gk_iload (pc := 138) (DX12_cycles_1.at 13 rfl) 7 rfl ?_
                refine gk_iload (pc := 140) (DX12_cycles_1.at 14 rfl) 8 rfl ?_
                obtain ⟨⟨fs7, q7⟩, hv⟩ := hv
                refine gk_vV (pc := 142) [.int x6, .int x7, .int x8] [] (DX12_cycles_1.at 15 rfl) cvX12_105 q7 rfl rfl (Nat.le_of_ble_eq_true rfl) (Nat.le_of_ble_eq_true rfl) (gk_Run.post (fun o h7 z => ?_) hv)
                obtain ⟨v7, rfl, hv⟩ := z
                refine gk_if_eq (pc := 145) 166 (DX12_cycles_1.at 16 rfl) (by decide) (fun c => ?_) (fun c => ?_)
                · replace hv := hv.1 c
                  refine gk_iload (pc := 166) (DX12_cycles_1.at 25 rfl) 5 rfl ?_
                  refine gk_istore (pc := 168) [(4, .int x4), (2, .int (x2 + (nI 1))), (3, .int (x3 + nI 1)), (5, .int (x5 + (nI 0))), (0, .ref o), (1, .int x1), (6, .int x6), (7, .int x7), (8, .int x8)] (DX12_cycles_1.at 26 rfl) (Nat.le_of_ble_eq_true rfl) rfl ?_
                  refine gk_iinc (pc := 170) (x8 + nI 1) [(8, .int (x8 + nI 1)), (4, .int x4), (2, .int (x2 + (nI 1))), (3, .int (x3 + nI 1)), (5, .int (x5 + (nI 0))), (0, .ref o), (1, .int x1), (6, .int x6), (7, .int x7)] 8 (DX12_cycles_1.at 27 rfl) rfl (by rw [ci_1]) (Nat.le_of_ble_eq_true rfl) rfl ?_
                  refine gk_goto (pc := 173) 51 (DX12_cycles_1.at 28 rfl) (by decide) ?_
                  exact gk_pick (pc := 51) [(0, .ref o), (1, .int x1), (2, .int (x2 + (nI 1))), (3, .int (x3 + nI 1)), (4, .int x4), (5, .int (x5 + (nI 0))), (6, .int x6), (7, .int x7), (8, .int (x8 + nI 1))] [5, 6, 2, 3, 1, 4, 7, 8, 0] rfl hv
                · replace hv := hv.2 c
                  refine gk_iload (pc := 148) (DX12_cycles_1.at 17 rfl) 5 rfl ?_
                  refine gk_aload_n (pc := 150) (DX12_cycles_1.at 18 rfl) 3 rfl rfl ?_
                  refine gk_iload (pc := 151) (DX12_cycles_1.at 19 rfl) 6 rfl ?_
                  refine gk_iload (pc := 153) (DX12_cycles_1.at 20 rfl) 7 rfl ?_
                  refine gk_iload (pc := 155) (DX12_cycles_1.at 21 rfl) 8 rfl ?_
                  obtain ⟨⟨fs8, q8⟩, hv⟩ := hv
                  refine gk_vV (pc := 157) [.int x6, .int x7, .int x8] [.int x4] (DX12_cycles_1.at 22 rfl) cvX12_130 q8 rfl rfl (Nat.le_of_ble_eq_true rfl) (Nat.le_of_ble_eq_true rfl) (gk_Run.post (fun o h8 z => ?_) hv)
                  obtain ⟨v8, rfl, hv⟩ := z
                  refine gk_max (pc := 160) (DX12_cycles_1.at 23 rfl) kw_1349 kw_588 kw_98 kw_589 (Nat.le_of_ble_eq_true rfl) ?_
                  refine gk_goto (pc := 163) 168 (DX12_cycles_1.at 24 rfl) (by decide) ?_
                  refine gk_istore (pc := 168) [(4, .int (if x4 < v8 then v8 else x4)), (2, .int (x2 + (nI 1))), (3, .int (x3 + nI 1)), (5, .int (x5 + (nI 0))), (0, .ref o), (1, .int x1), (6, .int x6), (7, .int x7), (8, .int x8)] (DX12_cycles_1.at 26 rfl) (Nat.le_of_ble_eq_true rfl) rfl ?_
                  refine gk_iinc (pc := 170) (x8 + nI 1) [(8, .int (x8 + nI 1)), (4, .int (if x4 < v8 then v8 else x4)), (2, .int (x2 + (nI 1))), (3, .int (x3 + nI 1)), (5, .int (x5 + (nI 0))), (0, .ref o), (1, .int x1), (6, .int x6), (7, .int x7)] 8 (DX12_cycles_1.at 27 rfl) rfl (by rw [ci_1]) (Nat.le_of_ble_eq_true rfl) rfl ?_
                  refine gk_goto (pc := 173) 51 (DX12_cycles_1.at 28 rfl) (by decide) ?_
                  exact gk_pick (pc := 51) [(0, .ref o), (1, .int x1), (2, .int (x2 + (nI 1))), (3, .int (x3 + nI 1)), (4, .int (if x4 < v8 then v8 else x4)), (5, .int (x5 + (nI 0))), (6, .int x6), (7, .int x7), (8, .int (x8 + nI 1))] [5, 6, 2, 3, 1, 4, 7, 8, 0] rfl hv
    · replace hv := hv.2 c
      refine gk_iconst (pc := 75) (nI 1) (DX12_cycles_0.at 41 rfl) ci_1 ?_
      refine gk_goto (pc := 76) 80 (DX12_cycles_0.at 42 rfl) (by decide) ?_
      refine gk_iadd (pc := 80) (DX12_cycles_0.at 44 rfl) ?_
      refine gk_istore (pc := 81) [(5, .int (x5 + (nI 1))), (0, .ref o), (1, .int x1), (2, .int x2), (3, .int x3), (4, .int x4), (6, .int x6), (7, .int x7), (8, .int x8)] (DX12_cycles_0.at 45 rfl) (Nat.le_of_ble_eq_true rfl) rfl ?_
      refine gk_iload (pc := 83) (DX12_cycles_0.at 46 rfl) 6 rfl ?_
      refine gk_if_le (pc := 85) 170 (DX12_cycles_0.at 47 rfl) (by decide) (fun c => ?_) (fun c => ?_)
      · replace hv := hv.1 c
        refine gk_iinc (pc := 170) (x8 + nI 1) [(8, .int (x8 + nI 1)), (5, .int (x5 + (nI 1))), (0, .ref o), (1, .int x1), (2, .int x2), (3, .int x3), (4, .int x4), (6, .int x6), (7, .int x7)] 8 (DX12_cycles_1.at 27 rfl) rfl (by rw [ci_1]) (Nat.le_of_ble_eq_true rfl) rfl ?_
        refine gk_goto (pc := 173) 51 (DX12_cycles_1.at 28 rfl) (by decide) ?_
        exact gk_pick (pc := 51) [(0, .ref o), (1, .int x1), (2, .int x2), (3, .int x3), (4, .int x4), (5, .int (x5 + (nI 1))), (6, .int x6), (7, .int x7), (8, .int (x8 + nI 1))] [2, 3, 4, 5, 6, 1, 7, 8, 0] rfl hv
      · replace hv := hv.2 c
        refine gk_iload (pc := 88) (DX12_cycles_0.at 48 rfl) 7 rfl ?_
        refine gk_if_le (pc := 90) 170 (DX12_cycles_0.at 49 rfl) (by decide) (fun c => ?_) (fun c => ?_)
        · replace hv := hv.1 c
          refine gk_iinc (pc := 170) (x8 + nI 1) [(8, .int (x8 + nI 1)), (5, .int (x5 + (nI 1))), (0, .ref o), (1, .int x1), (2, .int x2), (3, .int x3), (4, .int x4), (6, .int x6), (7, .int x7)] 8 (DX12_cycles_1.at 27 rfl) rfl (by rw [ci_1]) (Nat.le_of_ble_eq_true rfl) rfl ?_
          refine gk_goto (pc := 173) 51 (DX12_cycles_1.at 28 rfl) (by decide) ?_
          exact gk_pick (pc := 51) [(0, .ref o), (1, .int x1), (2, .int x2), (3, .int x3), (4, .int x4), (5, .int (x5 + (nI 1))), (6, .int x6), (7, .int x7), (8, .int (x8 + nI 1))] [2, 3, 4, 5, 6, 1, 7, 8, 0] rfl hv
        · replace hv := hv.2 c
          refine gk_iload (pc := 93) (DX12_cycles_0.at 50 rfl) 8 rfl ?_
          refine gk_if_le (pc := 95) 170 (DX12_cycles_0.at 51 rfl) (by decide) (fun c => ?_) (fun c => ?_)
          · replace hv := hv.1 c
            refine gk_iinc (pc := 170) (x8 + nI 1) [(8, .int (x8 + nI 1)), (5, .int (x5 + (nI 1))), (0, .ref o), (1, .int x1), (2, .int x2), (3, .int x3), (4, .int x4), (6, .int x6), (7, .int x7)] 8 (DX12_cycles_1.at 27 rfl) rfl (by rw [ci_1]) (Nat.le_of_ble_eq_true rfl) rfl ?_
            refine gk_goto (pc := 173) 51 (DX12_cycles_1.at 28 rfl) (by decide) ?_
            exact gk_pick (pc := 51) [(0, .ref o), (1, .int x1), (2, .int x2), (3, .int x3), (4, .int x4), (5, .int (x5 + (nI 1))), (6, .int x6), (7, .int x7), (8, .int (x8 + nI 1))] [2, 3, 4, 5, 6, 1, 7, 8, 0] rfl hv
          · replace hv := hv.2 c
            refine gk_aload_n (pc := 98) (DX12_cycles_0.at 52 rfl) 1 rfl rfl ?_
            refine gk_iload (pc := 99) (DX12_cycles_0.at 53 rfl) 6 rfl ?_
            refine gk_iload (pc := 101) (DX12_cycles_0.at 54 rfl) 7 rfl ?_
            refine gk_iload (pc := 103) (DX12_cycles_0.at 55 rfl) 8 rfl ?_
            obtain ⟨⟨fs9, q9⟩, hv⟩ := hv
            refine gk_vV (pc := 105) [.int x6, .int x7, .int x8] [] (DX12_cycles_0.at 56 rfl) cvX12_127 q9 rfl rfl (Nat.le_of_ble_eq_true rfl) (Nat.le_of_ble_eq_true rfl) (gk_Run.post (fun o h9 z => ?_) hv)
            obtain ⟨v9, rfl, hv⟩ := z
            refine gk_if_eq (pc := 108) 170 (DX12_cycles_0.at 57 rfl) (by decide) (fun c => ?_) (fun c => ?_)
            · replace hv := hv.1 c
              refine gk_iinc (pc := 170) (x8 + nI 1) [(8, .int (x8 + nI 1)), (5, .int (x5 + (nI 1))), (0, .ref o), (1, .int x1), (2, .int x2), (3, .int x3), (4, .int x4), (6, .int x6), (7, .int x7)] 8 (DX12_cycles_1.at 27 rfl) rfl (by rw [ci_1]) (Nat.le_of_ble_eq_true rfl) rfl ?_
              refine gk_goto (pc := 173) 51 (DX12_cycles_1.at 28 rfl) (by decide) ?_
              exact gk_pick (pc := 51) [(0, .ref o), (1, .int x1), (2, .int x2), (3, .int x3), (4, .int x4), (5, .int (x5 + (nI 1))), (6, .int x6), (7, .int x7), (8, .int (x8 + nI 1))] [2, 3, 4, 5, 6, 1, 7, 8, 0] rfl hv
            · replace hv := hv.2 c
              refine gk_iinc (pc := 111) (x3 + nI 1) [(3, .int (x3 + nI 1)), (5, .int (x5 + (nI 1))), (0, .ref o), (1, .int x1), (2, .int x2), (4, .int x4), (6, .int x6), (7, .int x7), (8, .int x8)] 4 (DX12_cycles_0.at 58 rfl) rfl (by rw [ci_1]) (Nat.le_of_ble_eq_true rfl) rfl ?_
              refine gk_iload_n (pc := 114) (DX12_cycles_0.at 59 rfl) 4 rfl rfl ?_
              refine gk_aload_n (pc := 115) (DX12_cycles_1.at 0 rfl) 2 rfl rfl ?_
              refine gk_iload (pc := 116) (DX12_cycles_1.at 1 rfl) 6 rfl ?_
              refine gk_iload (pc := 118) (DX12_cycles_1.at 2 rfl) 7 rfl ?_
              refine gk_iload (pc := 120) (DX12_cycles_1.at 3 rfl) 8 rfl ?_
              obtain ⟨⟨fs10, q10⟩, hv⟩ := hv
              refine gk_vV (pc := 122) [.int x6, .int x7, .int x8] [.int x2] (DX12_cycles_1.at 4 rfl) cvX12_105 q10 rfl rfl (Nat.le_of_ble_eq_true rfl) (Nat.le_of_ble_eq_true rfl) (gk_Run.post (fun o h10 z => ?_) hv)
              obtain ⟨v10, rfl, hv⟩ := z
              refine gk_if_eq (pc := 125) 132 (DX12_cycles_1.at 5 rfl) (by decide) (fun c => ?_) (fun c => ?_)
              · replace hv := hv.1 c
                refine gk_iconst (pc := 132) (nI 0) (DX12_cycles_1.at 8 rfl) ci_0 ?_
                refine gk_iadd (pc := 133) (DX12_cycles_1.at 9 rfl) ?_
                refine gk_istore_n (pc := 134) [(2, .int (x2 + (nI 0))), (3, .int (x3 + nI 1)), (5, .int (x5 + (nI 1))), (0, .ref o), (1, .int x1), (4, .int x4), (6, .int x6), (7, .int x7), (8, .int x8)] (DX12_cycles_1.at 10 rfl) rfl (Nat.le_of_ble_eq_true rfl) rfl ?_
                refine gk_aload_n (pc := 135) (DX12_cycles_1.at 11 rfl) 3 rfl rfl ?_
                refine gk_iload (pc := 136) (DX12_cycles_1.at 12 rfl) 6 rfl ?_
                refine gk_iload (pc := 138) (DX12_cycles_1.at 13 rfl) 7 rfl ?_
                refine gk_iload (pc := 140) (DX12_cycles_1.at 14 rfl) 8 rfl ?_
                obtain ⟨⟨fs11, q11⟩, hv⟩ := hv
                refine gk_vV (pc := 142) [.int x6, .int x7, .int x8] [] (DX12_cycles_1.at 15 rfl) cvX12_105 q11 rfl rfl (Nat.le_of_ble_eq_true rfl) (Nat.le_of_ble_eq_true rfl) (gk_Run.post (fun o h11 z => ?_) hv)
                obtain ⟨v11, rfl, hv⟩ := z
                refine gk_if_eq (pc := 145) 166 (DX12_cycles_1.at 16 rfl) (by decide) (fun c => ?_) (fun c => ?_)
                · replace hv := hv.1 c
                  refine gk_iload (pc := 166) (DX12_cycles_1.at 25 rfl) 5 rfl ?_
                  refine gk_istore (pc := 168) [(4, .int x4), (2, .int (x2 + (nI 0))), (3, .int (x3 + nI 1)), (5, .int (x5 + (nI 1))), (0, .ref o), (1, .int x1), (6, .int x6), (7, .int x7), (8, .int x8)] (DX12_cycles_1.at 26 rfl) (Nat.le_of_ble_eq_true rfl) rfl ?_
                  refine gk_iinc (pc := 170) (x8 + nI 1) [(8, .int (x8 + nI 1)), (4, .int x4), (2, .int (x2 + (nI 0))), (3, .int (x3 + nI 1)), (5, .int (x5 + (nI 1))), (0, .ref o), (1, .int x1), (6, .int x6), (7, .int x7)] 8 (DX12_cycles_1.at 27 rfl) rfl (by rw [ci_1]) (Nat.le_of_ble_eq_true rfl) rfl ?_
                  refine gk_goto (pc := 173) 51 (DX12_cycles_1.at 28 rfl) (by decide) ?_
                  exact gk_pick (pc := 51) [(0, .ref o), (1, .int x1), (2, .int (x2 + (nI 0))), (3, .int (x3 + nI 1)), (4, .int x4), (5, .int (x5 + (nI 1))), (6, .int x6), (7, .int x7), (8, .int (x8 + nI 1))] [5, 6, 2, 3, 1, 4, 7, 8, 0] rfl hv
                · replace hv := hv.2 c
                  refine gk_iload (pc := 148) (DX12_cycles_1.at 17 rfl) 5 rfl ?_
                  refine gk_aload_n (pc := 150) (DX12_cycles_1.at 18 rfl) 3 rfl rfl ?_
                  refine gk_iload (pc := 151) (DX12_cycles_1.at 19 rfl) 6 rfl ?_
                  refine gk_iload (pc := 153) (DX12_cycles_1.at 20 rfl) 7 rfl ?_
                  refine gk_iload (pc := 155) (DX12_cycles_1.at 21 rfl) 8 rfl ?_
                  obtain ⟨⟨fs12, q12⟩, hv⟩ := hv
                  refine gk_vV (pc := 157) [.int x6, .int x7, .int x8] [.int x4] (DX12_cycles_1.at 22 rfl) cvX12_130 q12 rfl rfl (Nat.le_of_ble_eq_true rfl) (Nat.le_of_ble_eq_true rfl) (gk_Run.post (fun o h12 z => ?_) hv)
                  obtain ⟨v12, rfl, hv⟩ := z
                  refine gk_max (pc := 160) (DX12_cycles_1.at 23 rfl) kw_1349 kw_588 kw_98 kw_589 (Nat.le_of_ble_eq_true rfl) ?_
                  refine gk_goto (pc := 163) 168 (DX12_cycles_1.at 24 rfl) (by decide) ?_
                  refine gk_istore (pc := 168) [(4, .int (if x4 < v12 then v12 else x4)), (2, .int (x2 + (nI 0))), (3, .int (x3 + nI 1)), (5, .int (x5 + (nI 1))), (0, .ref o), (1, .int x1), (6, .int x6), (7, .int x7), (8, .int x8)] (DX12_cycles_1.at 26 rfl) (Nat.le_of_ble_eq_true rfl) rfl ?_
                  refine gk_iinc (pc := 170) (x8 + nI 1) [(8, .int (x8 + nI 1)), (4, .int (if x4 < v12 then v12 else x4)), (2, .int (x2 + (nI 0))), (3, .int (x3 + nI 1)), (5, .int (x5 + (nI 1))), (0, .ref o), (1, .int x1), (6, .int x6), (7, .int x7)] 8 (DX12_cycles_1.at 27 rfl) rfl (by rw [ci_1]) (Nat.le_of_ble_eq_true rfl) rfl ?_
                  refine gk_goto (pc := 173) 51 (DX12_cycles_1.at 28 rfl) (by decide) ?_
                  exact gk_pick (pc := 51) [(0, .ref o), (1, .int x1), (2, .int (x2 + (nI 0))), (3, .int (x3 + nI 1)), (4, .int (if x4 < v12 then v12 else x4)), (5, .int (x5 + (nI 1))), (6, .int x6), (7, .int x7), (8, .int (x8 + nI 1))] [5, 6, 2, 3, 1, 4, 7, 8, 0] rfl hv
              · replace hv := hv.2 c
                refine gk_iconst (pc := 128) (nI 1) (DX12_cycles_1.at 6 rfl) ci_1 ?_
                refine gk_goto (pc := 129) 133 (DX12_cycles_1.at 7 rfl) (by decide) ?_
                refine gk_iadd (pc := 133) (DX12_cycles_1.at 9 rfl) ?_
                refine gk_istore_n (pc := 134) [(2, .int (x2 + (nI 1))), (3, .int (x3 + nI 1)), (5, .int (x5 + (nI 1))), (0, .ref o), (1, .int x1), (4, .int x4), (6, .int x6), (7, .int x7), (8, .int x8)] (DX12_cycles_1.at 10 rfl) rfl (Nat.le_of_ble_eq_true rfl) rfl ?_
                refine gk_aload_n (pc := 135) (DX12_cycles_1.at 11 rfl) 3 rfl rfl ?_
                refine gk_iload (pc := 136) (DX12_cycles_1.at 12 rfl) 6 rfl ?_
                refine gk_iload (pc := 138) (DX12_cycles_1.at 13 rfl) 7 rfl ?_
                refine gk_iload (pc := 140) (DX12_cycles_1.at 14 rfl) 8 rfl ?_
                obtain ⟨⟨fs13, q13⟩, hv⟩ := hv
                refine gk_vV (pc := 142) [.int x6, .int x7, .int x8] [] (DX12_cycles_1.at 15 rfl) cvX12_105 q13 rfl rfl (Nat.le_of_ble_eq_true rfl) (Nat.le_of_ble_eq_true rfl) (gk_Run.post (fun o h13 z => ?_) hv)
                obtain ⟨v13, rfl, hv⟩ := z
                refine gk_if_eq (pc := 145) 166 (DX12_cycles_1.at 16 rfl) (by decide) (fun c => ?_) (fun c => ?_)
                · replace hv := hv.1 c
                  refine gk_iload (pc := 166) (DX12_cycles_1.at 25 rfl) 5 rfl ?_
                  refine gk_istore (pc := 168) [(4, .int x4), (2, .int (x2 + (nI 1))), (3, .int (x3 + nI 1)), (5, .int (x5 + (nI 1))), (0, .ref o), (1, .int x1), (6, .int x6), (7, .int x7), (8, .int x8)] (DX12_cycles_1.at 26 rfl) (Nat.le_of_ble_eq_true rfl) rfl ?_
                  refine gk_iinc (pc := 170) (x8 + nI 1) [(8, .int (x8 + nI 1)), (4, .int x4), (2, .int (x2 + (nI 1))), (3, .int (x3 + nI 1)), (5, .int (x5 + (nI 1))), (0, .ref o), (1, .int x1), (6, .int x6), (7, .int x7)] 8 (DX12_cycles_1.at 27 rfl) rfl (by rw [ci_1]) (Nat.le_of_ble_eq_true rfl) rfl ?_
                  refine gk_goto (pc := 173) 51 (DX12_cycles_1.at 28 rfl) (by decide) ?_
                  exact gk_pick (pc := 51) [(0, .ref o), (1, .int x1), (2, .int (x2 + (nI 1))), (3, .int (x3 + nI 1)), (4, .int x4), (5, .int (x5 + (nI 1))), (6, .int x6), (7, .int x7), (8, .int (x8 + nI 1))] [5, 6, 2, 3, 1, 4, 7, 8, 0] rfl hv
                · replace hv := hv.2 c
                  refine gk_iload (pc := 148) (DX12_cycles_1.at 17 rfl) 5 rfl ?_
                  refine gk_aload_n (pc := 150) (DX12_cycles_1.at 18 rfl) 3 rfl rfl ?_
                  refine gk_iload (pc := 151) (DX12_cycles_1.at 19 rfl) 6 rfl ?_
                  refine gk_iload (pc := 153) (DX12_cycles_1.at 20 rfl) 7 rfl ?_
                  refine gk_iload (pc := 155) (DX12_cycles_1.at 21 rfl) 8 rfl ?_
                  obtain ⟨⟨fs14, q14⟩, hv⟩ := hv
                  refine gk_vV (pc := 157) [.int x6, .int x7, .int x8] [.int x4] (DX12_cycles_1.at 22 rfl) cvX12_130 q14 rfl rfl (Nat.le_of_ble_eq_true rfl) (Nat.le_of_ble_eq_true rfl) (gk_Run.post (fun o h14 z => ?_) hv)
                  obtain ⟨v14, rfl, hv⟩ := z
                  refine gk_max (pc := 160) (DX12_cycles_1.at 23 rfl) kw_1349 kw_588 kw_98 kw_589 (Nat.le_of_ble_eq_true rfl) ?_
                  refine gk_goto (pc := 163) 168 (DX12_cycles_1.at 24 rfl) (by decide) ?_
                  refine gk_istore (pc := 168) [(4, .int (if x4 < v14 then v14 else x4)), (2, .int (x2 + (nI 1))), (3, .int (x3 + nI 1)), (5, .int (x5 + (nI 1))), (0, .ref o), (1, .int x1), (6, .int x6), (7, .int x7), (8, .int x8)] (DX12_cycles_1.at 26 rfl) (Nat.le_of_ble_eq_true rfl) rfl ?_
                  refine gk_iinc (pc := 170) (x8 + nI 1) [(8, .int (x8 + nI 1)), (4, .int (if x4 < v14 then v14 else x4)), (2, .int (x2 + (nI 1))), (3, .int (x3 + nI 1)), (5, .int (x5 + (nI 1))), (0, .ref o), (1, .int x1), (6, .int x6), (7, .int x7)] 8 (DX12_cycles_1.at 27 rfl) rfl (by rw [ci_1]) (Nat.le_of_ble_eq_true rfl) rfl ?_
                  refine gk_goto (pc := 173) 51 (DX12_cycles_1.at 28 rfl) (by decide) ?_
                  exact gk_pick (pc := 51) [(0, .ref o), (1, .int x1), (2, .int (x2 + (nI 1))), (3, .int (x3 + nI 1)), (4, .int (if x4 < v14 then v14 else x4)), (5, .int (x5 + (nI 1))), (6, .int x6), (7, .int x7), (8, .int (x8 + nI 1))] [5, 6, 2, 3, 1, 4, 7, 8, 0] rfl hv
abbrev pX12_digit_4 (E : gk_E) (dd : Nat) (x0 : Int32) (x1 : Int32) (x2 : Int32) (x3 : Int32) (h : gk_H) (K : Int32 → gk_H → Prop) : Prop := gk_G E mX12_digit (dd, 0, 0) 4 [(0, .int x0), (1, .int x1), (2, .int x2), (3, .int x3)] [] h (fun o h1 => ∃ v, o = some (.int v) ∧ K v h1)
set_option maxHeartbeats 4000000 in
theorem vX12_digit_0 {E : gk_E} {dd : Nat} {x0 : Int32} {x1 : Int32}  {h : gk_H} {K : Int32 → gk_H → Prop} (hv : pX12_digit_4 E dd x0 x1 x0 (nI 0) h K) : RnI E mX12_digit (dd, 0, 0) [.int x0, .int x1] h K := by
  show gk_G E mX12_digit (dd, 0, 0) 0 [(0, .int x0), (1, .int x1)] [] h (fun o h1 => ∃ v, o = some (.int v) ∧ K v h1)
  refine gk_iload_n (pc := 0) (DX12_digit_0.at 0 rfl) 0 rfl rfl ?_
  refine gk_istore_n (pc := 1) [(2, .int x0), (0, .int x0), (1, .int x1)] (DX12_digit_0.at 1 rfl) rfl (Nat.le_of_ble_eq_true rfl) rfl ?_
  refine gk_iconst (pc := 2) (nI 0) (DX12_digit_0.at 2 rfl) ci_0 ?_
  refine gk_istore_n (pc := 3) [(3, .int (nI 0)), (2, .int x0), (0, .int x0), (1, .int x1)] (DX12_digit_0.at 3 rfl) rfl (Nat.le_of_ble_eq_true rfl) rfl ?_
  exact gk_pick (pc := 4) [(0, .int x0), (1, .int x1), (2, .int x0), (3, .int (nI 0))] [2, 3, 1, 0] rfl hv
set_option maxHeartbeats 4000000 in
theorem vX12_digit_4 {E : gk_E} {dd : Nat} {x0 : Int32} {x1 : Int32} {x2 : Int32} {x3 : Int32}  {h : gk_H} {K : Int32 → gk_H → Prop} (hv : (x1 ≤ x3 → K (x2 - x2 / (nI 10) * (nI 10)) h) ∧ (¬ x1 ≤ x3 → pX12_digit_4 E dd x0 x1 (x2 / (nI 10)) (x3 + nI 1) h K)) : pX12_digit_4 E dd x0 x1 x2 x3 h K := by
  show gk_G E mX12_digit (dd, 0, 0) 4 [(0, .int x0), (1, .int x1), (2, .int x2), (3, .int x3)] [] h (fun o h1 => ∃ v, o = some (.int v) ∧ K v h1)
  refine gk_iload_n (pc := 4) (DX12_digit_0.at 4 rfl) 3 rfl rfl ?_
  refine gk_iload_n (pc := 5) (DX12_digit_0.at 5 rfl) 1 rfl rfl ?_
  refine gk_icmp_ge (pc := 6) 20 (DX12_digit_0.at 6 rfl) (by decide) (fun c => ?_) (fun c => ?_)
  · replace hv := hv.1 c
    refine gk_iload_n (pc := 20) (DX12_digit_0.at 13 rfl) 2 rfl rfl ?_
    refine gk_bipush (pc := 21) (nI 10) (DX12_digit_0.at 14 rfl) cb_10 ?_
    refine gk_irem (pc := 23) (DX12_digit_0.at 15 rfl) (by decide) ?_
    exact gk_ireturn (pc := 24) .int (DX12_digit_0.at 16 rfl) rfl rfl ⟨_, rfl, hv⟩
  · replace hv := hv.2 c
    refine gk_iload_n (pc := 9) (DX12_digit_0.at 7 rfl) 2 rfl rfl ?_
    refine gk_bipush (pc := 10) (nI 10) (DX12_digit_0.at 8 rfl) cb_10 ?_
    refine gk_idiv (pc := 12) (DX12_digit_0.at 9 rfl) (by decide) ?_
    refine gk_istore_n (pc := 13) [(2, .int (x2 / (nI 10))), (0, .int x0), (1, .int x1), (3, .int x3)] (DX12_digit_0.at 10 rfl) rfl (Nat.le_of_ble_eq_true rfl) rfl ?_
    refine gk_iinc (pc := 14) (x3 + nI 1) [(3, .int (x3 + nI 1)), (2, .int (x2 / (nI 10))), (0, .int x0), (1, .int x1)] 3 (DX12_digit_0.at 11 rfl) rfl (by rw [ci_1]) (Nat.le_of_ble_eq_true rfl) rfl ?_
    refine gk_goto (pc := 17) 4 (DX12_digit_0.at 12 rfl) (by decide) ?_
    exact gk_pick (pc := 4) [(0, .int x0), (1, .int x1), (2, .int (x2 / (nI 10))), (3, .int (x3 + nI 1))] [2, 3, 1, 0] rfl hv
set_option maxHeartbeats 4000000 in
theorem vX12_drop_0 {E : gk_E} {dd : Nat} {o : Nat} {x1 : Int32}  {h : gk_H} {K : Int32 → gk_H → Prop} (hv : RnI E mX12_isNet (dd, 0, 0) [.int x1] h (fun v1 h1 => (¬ v1 = 0 → LdR h1 o 11 3 fun v2 => AlI h1 v2 x1 fun v3 => (¬ v3 = 0 → LdR h1 o 11 3 fun v4 => AlI h1 v4 x1 fun v5 => AsI h1 v4 x1 (v5 - (nI 1)) fun h6 => LdR h6 o 11 3 fun v7 => AlI h6 v7 x1 fun v8 => K v8 h6) ∧ (v3 = 0 → K ((-3)) h1)) ∧ (v1 = 0 → K ((-1)) h1))) : RnI E mX12_drop (dd + 1, 0, 0) [.ref o, .int x1] h K := by
  show gk_G E mX12_drop (dd + 1, 0, 0) 0 [(0, .ref o), (1, .int x1)] [] h (fun o h1 => ∃ v, o = some (.int v) ∧ K v h1)
  refine gk_iload_n (pc := 0) (DX12_drop_0.at 0 rfl) 1 rfl rfl ?_
  refine gk_vS (pc := 1) [.int x1] [] (DX12_drop_0.at 1 rfl) csX12_145 rfl rfl (Nat.le_of_ble_eq_true rfl) (Nat.le_of_ble_eq_true rfl) (gk_Run.post (fun o h1 z => ?_) hv)
  obtain ⟨v1, rfl, hv⟩ := z
  refine gk_if_ne (pc := 4) 9 (DX12_drop_0.at 2 rfl) (by decide) (fun c => ?_) (fun c => ?_)
  · replace hv := hv.1 c
    refine gk_aload_n (pc := 9) (DX12_drop_0.at 5 rfl) 0 rfl rfl ?_
    obtain ⟨fs2, v2, q2, r2, hv⟩ := hv
    refine gk_get (pc := 10) (.ref v2) (DX12_drop_0.at 6 rfl) fX12_23_11 q2 r2 ?_
    refine gk_iload_n (pc := 13) (DX12_drop_0.at 7 rfl) 1 rfl rfl ?_
    obtain ⟨n3, f3, q3, r3, hv⟩ := hv
    refine gk_iald (pc := 14) (DX12_drop_0.at 8 rfl) q3 r3 ?_
    generalize f3 _ = v3 at hv ⊢
    refine gk_if_ne (pc := 15) 21 (DX12_drop_0.at 9 rfl) (by decide) (fun c => ?_) (fun c => ?_)
    · replace hv := hv.1 c
      refine gk_aload_n (pc := 21) (DX12_drop_0.at 12 rfl) 0 rfl rfl ?_
      obtain ⟨fs4, v4, q4, r4, hv⟩ := hv
      refine gk_get (pc := 22) (.ref v4) (DX12_drop_0.at 13 rfl) fX12_23_11 q4 r4 ?_
      refine gk_iload_n (pc := 25) (DX12_drop_0.at 14 rfl) 1 rfl rfl ?_
      refine gk_dup2 (pc := 26) (DX12_drop_0.at 15 rfl) rfl rfl ?_
      obtain ⟨n5, f5, q5, r5, hv⟩ := hv
      refine gk_iald (pc := 27) (DX12_drop_0.at 16 rfl) q5 r5 ?_
      generalize f5 _ = v5 at hv ⊢
      refine gk_iconst (pc := 28) (nI 1) (DX12_drop_0.at 17 rfl) ci_1 ?_
      refine gk_isub (pc := 29) (DX12_drop_0.at 18 rfl) ?_
      obtain ⟨n6, f6, q6, r6, hv⟩ := hv
      refine gk_iast (pc := 30) (DX12_drop_0.at 19 rfl) q6 r6 ?_
      generalize h1.set _ _ = h6 at hv ⊢
      refine gk_aload_n (pc := 31) (DX12_drop_0.at 20 rfl) 0 rfl rfl ?_
      obtain ⟨fs7, v7, q7, r7, hv⟩ := hv
      refine gk_get (pc := 32) (.ref v7) (DX12_drop_0.at 21 rfl) fX12_23_11 q7 r7 ?_
      refine gk_iload_n (pc := 35) (DX12_drop_0.at 22 rfl) 1 rfl rfl ?_
      obtain ⟨n8, f8, q8, r8, hv⟩ := hv
      refine gk_iald (pc := 36) (DX12_drop_0.at 23 rfl) q8 r8 ?_
      generalize f8 _ = v8 at hv ⊢
      exact gk_ireturn (pc := 37) .int (DX12_drop_0.at 24 rfl) rfl rfl ⟨_, rfl, hv⟩
    · replace hv := hv.2 c
      refine gk_bipush (pc := 18) ((-3)) (DX12_drop_0.at 10 rfl) cb_m3 ?_
      exact gk_ireturn (pc := 20) .int (DX12_drop_0.at 11 rfl) rfl rfl ⟨_, rfl, hv⟩
  · replace hv := hv.2 c
    refine gk_iconst (pc := 7) ((-1)) (DX12_drop_0.at 3 rfl) ci_m1 ?_
    exact gk_ireturn (pc := 8) .int (DX12_drop_0.at 4 rfl) rfl rfl ⟨_, rfl, hv⟩
abbrev pX12_equivalence_11 (E : gk_E) (dd : Nat) (o : Nat) (x1 : Int32) (x2 : Int32) (x3 : Int32) (h : gk_H) (K : Int32 → gk_H → Prop) : Prop := gk_G E mX12_equivalence (dd + 1, 0, 0) 11 [(0, .ref o), (1, .int x1), (2, .int x2), (3, .int x3)] [] h (fun o h1 => ∃ v, o = some (.int v) ∧ K v h1)
set_option maxHeartbeats 4000000 in
theorem vX12_equivalence_0 {E : gk_E} {dd : Nat} {o : Nat} {x1 : Int32}  {h : gk_H} {K : Int32 → gk_H → Prop} (hv : (((-1)) ≤ x1 → pX12_equivalence_11 E dd o x1 (nI 0) (nI 0) h K) ∧ (¬ ((-1)) ≤ x1 → K ((-1)) h)) : RnI E mX12_equivalence (dd + 1, 0, 0) [.ref o, .int x1] h K := by
  show gk_G E mX12_equivalence (dd + 1, 0, 0) 0 [(0, .ref o), (1, .int x1)] [] h (fun o h1 => ∃ v, o = some (.int v) ∧ K v h1)
  refine gk_iload_n (pc := 0) (DX12_equivalence_0.at 0 rfl) 1 rfl rfl ?_
  refine gk_iconst (pc := 1) ((-1)) (DX12_equivalence_0.at 1 rfl) ci_m1 ?_
  refine gk_icmp_ge (pc := 2) 7 (DX12_equivalence_0.at 2 rfl) (by decide) (fun c => ?_) (fun c => ?_)
  · replace hv := hv.1 c
    refine gk_iconst (pc := 7) (nI 0) (DX12_equivalence_0.at 5 rfl) ci_0 ?_
    refine gk_istore_n (pc := 8) [(2, .int (nI 0)), (0, .ref o), (1, .int x1)] (DX12_equivalence_0.at 6 rfl) rfl (Nat.le_of_ble_eq_true rfl) rfl ?_
    refine gk_iconst (pc := 9) (nI 0) (DX12_equivalence_0.at 7 rfl) ci_0 ?_
    refine gk_istore_n (pc := 10) [(3, .int (nI 0)), (2, .int (nI 0)), (0, .ref o), (1, .int x1)] (DX12_equivalence_0.at 8 rfl) rfl (Nat.le_of_ble_eq_true rfl) rfl ?_
    exact gk_pick (pc := 11) [(0, .ref o), (1, .int x1), (2, .int (nI 0)), (3, .int (nI 0))] [2, 3, 1, 0] rfl hv
  · replace hv := hv.2 c
    refine gk_iconst (pc := 5) ((-1)) (DX12_equivalence_0.at 3 rfl) ci_m1 ?_
    exact gk_ireturn (pc := 6) .int (DX12_equivalence_0.at 4 rfl) rfl rfl ⟨_, rfl, hv⟩
set_option maxHeartbeats 4000000 in
theorem vX12_equivalence_11 {E : gk_E} {dd : Nat} {o : Nat} {x1 : Int32} {x2 : Int32} {x3 : Int32}  {h : gk_H} {K : Int32 → gk_H → Prop} (hv : LdI h o 11 0 fun v1 => (((nI 1) <<< (v1 &&& 31)) ≤ x3 → (¬ x1 = ((-1)) → K ((-1)) h) ∧ (x1 = ((-1)) → K x2 h)) ∧ (¬ ((nI 1) <<< (v1 &&& 31)) ≤ x3 → (∃ fs, h[o]? = some (.inr (11, fs))) ∧ RnI E mX12_isEquivalence (dd, 0, 0) [.ref o, .int x3] h (fun v2 h2 => (v2 = 0 → pX12_equivalence_11 E dd o x1 x2 (x3 + nI 1) h2 K) ∧ (¬ v2 = 0 → (¬ x2 = x1 → pX12_equivalence_11 E dd o x1 (x2 + nI 1) (x3 + nI 1) h2 K) ∧ (x2 = x1 → K x3 h2))))) : pX12_equivalence_11 E dd o x1 x2 x3 h K := by
  show gk_G E mX12_equivalence (dd + 1, 0, 0) 11 [(0, .ref o), (1, .int x1), (2, .int x2), (3, .int x3)] [] h (fun o h1 => ∃ v, o = some (.int v) ∧ K v h1)
  refine gk_iload_n (pc := 11) (DX12_equivalence_0.at 9 rfl) 3 rfl rfl ?_
  refine gk_iconst (pc := 12) (nI 1) (DX12_equivalence_0.at 10 rfl) ci_1 ?_
  refine gk_aload_n (pc := 13) (DX12_equivalence_0.at 11 rfl) 0 rfl rfl ?_
  obtain ⟨fs1, v1, q1, r1, hv⟩ := hv
  refine gk_get (pc := 14) (.int v1) (DX12_equivalence_0.at 12 rfl) fX12_9_11 q1 r1 ?_
  refine gk_ishl (pc := 17) (DX12_equivalence_0.at 13 rfl) ?_
  refine gk_icmp_ge (pc := 18) 45 (DX12_equivalence_0.at 14 rfl) (by decide) (fun c => ?_) (fun c => ?_)
  · replace hv := hv.1 c
    refine gk_iload_n (pc := 45) (DX12_equivalence_0.at 27 rfl) 1 rfl rfl ?_
    refine gk_iconst (pc := 46) ((-1)) (DX12_equivalence_0.at 28 rfl) ci_m1 ?_
    refine gk_icmp_ne (pc := 47) 54 (DX12_equivalence_0.at 29 rfl) (by decide) (fun c => ?_) (fun c => ?_)
    · replace hv := hv.1 c
      refine gk_iconst (pc := 54) ((-1)) (DX12_equivalence_0.at 32 rfl) ci_m1 ?_
      exact gk_ireturn (pc := 55) .int (DX12_equivalence_0.at 33 rfl) rfl rfl ⟨_, rfl, hv⟩
    · replace hv := hv.2 c
      refine gk_iload_n (pc := 50) (DX12_equivalence_0.at 30 rfl) 2 rfl rfl ?_
      refine gk_goto (pc := 51) 55 (DX12_equivalence_0.at 31 rfl) (by decide) ?_
      exact gk_ireturn (pc := 55) .int (DX12_equivalence_0.at 33 rfl) rfl rfl ⟨_, rfl, hv⟩
  · replace hv := hv.2 c
    refine gk_aload_n (pc := 21) (DX12_equivalence_0.at 15 rfl) 0 rfl rfl ?_
    refine gk_iload_n (pc := 22) (DX12_equivalence_0.at 16 rfl) 3 rfl rfl ?_
    obtain ⟨⟨fs2, q2⟩, hv⟩ := hv
    refine gk_vV (pc := 23) [.int x3] [] (DX12_equivalence_0.at 17 rfl) cvX12_120 q2 rfl rfl (Nat.le_of_ble_eq_true rfl) (Nat.le_of_ble_eq_true rfl) (gk_Run.post (fun o h2 z => ?_) hv)
    obtain ⟨v2, rfl, hv⟩ := z
    refine gk_if_eq (pc := 26) 39 (DX12_equivalence_0.at 18 rfl) (by decide) (fun c => ?_) (fun c => ?_)
    · replace hv := hv.1 c
      refine gk_iinc (pc := 39) (x3 + nI 1) [(3, .int (x3 + nI 1)), (0, .ref o), (1, .int x1), (2, .int x2)] 3 (DX12_equivalence_0.at 25 rfl) rfl (by rw [ci_1]) (Nat.le_of_ble_eq_true rfl) rfl ?_
      refine gk_goto (pc := 42) 11 (DX12_equivalence_0.at 26 rfl) (by decide) ?_
      exact gk_pick (pc := 11) [(0, .ref o), (1, .int x1), (2, .int x2), (3, .int (x3 + nI 1))] [1, 2, 3, 0] rfl hv
    · replace hv := hv.2 c
      refine gk_iload_n (pc := 29) (DX12_equivalence_0.at 19 rfl) 2 rfl rfl ?_
      refine gk_iload_n (pc := 30) (DX12_equivalence_0.at 20 rfl) 1 rfl rfl ?_
      refine gk_icmp_ne (pc := 31) 36 (DX12_equivalence_0.at 21 rfl) (by decide) (fun c => ?_) (fun c => ?_)
      · replace hv := hv.1 c
        refine gk_iinc (pc := 36) (x2 + nI 1) [(2, .int (x2 + nI 1)), (0, .ref o), (1, .int x1), (3, .int x3)] 2 (DX12_equivalence_0.at 24 rfl) rfl (by rw [ci_1]) (Nat.le_of_ble_eq_true rfl) rfl ?_
        refine gk_iinc (pc := 39) (x3 + nI 1) [(3, .int (x3 + nI 1)), (2, .int (x2 + nI 1)), (0, .ref o), (1, .int x1)] 3 (DX12_equivalence_0.at 25 rfl) rfl (by rw [ci_1]) (Nat.le_of_ble_eq_true rfl) rfl ?_
        refine gk_goto (pc := 42) 11 (DX12_equivalence_0.at 26 rfl) (by decide) ?_
        exact gk_pick (pc := 11) [(0, .ref o), (1, .int x1), (2, .int (x2 + nI 1)), (3, .int (x3 + nI 1))] [2, 3, 1, 0] rfl hv
      · replace hv := hv.2 c
        refine gk_iload_n (pc := 34) (DX12_equivalence_0.at 22 rfl) 3 rfl rfl ?_
        exact gk_ireturn (pc := 35) .int (DX12_equivalence_0.at 23 rfl) rfl rfl ⟨_, rfl, hv⟩
abbrev pX12_falseStep_2 (E : gk_E) (dd : Nat) (o : Nat) (x1 : Int32) (h : gk_H) (K : Int32 → gk_H → Prop) : Prop := gk_G E mX12_falseStep (dd + 1, 0, 0) 2 [(0, .ref o), (1, .int x1)] [] h (fun o h1 => ∃ v, o = some (.int v) ∧ K v h1)
abbrev pX12_falseStep_12 (E : gk_E) (dd : Nat) (o : Nat) (x1 : Int32) (x2 : Int32) (h : gk_H) (K : Int32 → gk_H → Prop) : Prop := gk_G E mX12_falseStep (dd + 1, 0, 0) 12 [(0, .ref o), (1, .int x1), (2, .int x2)] [] h (fun o h1 => ∃ v, o = some (.int v) ∧ K v h1)
abbrev pX12_falseStep_22 (E : gk_E) (dd : Nat) (o : Nat) (x1 : Int32) (x2 : Int32) (x3 : Int32) (h : gk_H) (K : Int32 → gk_H → Prop) : Prop := gk_G E mX12_falseStep (dd + 1, 0, 0) 22 [(0, .ref o), (1, .int x1), (2, .int x2), (3, .int x3)] [] h (fun o h1 => ∃ v, o = some (.int v) ∧ K v h1)
set_option maxHeartbeats 4000000 in
theorem vX12_falseStep_0 {E : gk_E} {dd : Nat} {o : Nat}  {h : gk_H} {K : Int32 → gk_H → Prop} (hv : pX12_falseStep_2 E dd o (nI 0) h K) : RnI E mX12_falseStep (dd + 1, 0, 0) [.ref o] h K := by
  show gk_G E mX12_falseStep (dd + 1, 0, 0) 0 [(0, .ref o)] [] h (fun o h1 => ∃ v, o = some (.int v) ∧ K v h1)
  refine gk_iconst (pc := 0) (nI 0) (DX12_falseStep_0.at 0 rfl) ci_0 ?_
  refine gk_istore_n (pc := 1) [(1, .int (nI 0)), (0, .ref o)] (DX12_falseStep_0.at 1 rfl) rfl (Nat.le_of_ble_eq_true rfl) rfl ?_
  exact gk_pick (pc := 2) [(0, .ref o), (1, .int (nI 0))] [1, 0] rfl hv
set_option maxHeartbeats 4000000 in
theorem vX12_falseStep_2 {E : gk_E} {dd : Nat} {o : Nat} {x1 : Int32}  {h : gk_H} {K : Int32 → gk_H → Prop} (hv : LdI h o 11 13 fun v1 => (v1 ≤ x1 → K ((-5)) h) ∧ (¬ v1 ≤ x1 → pX12_falseStep_12 E dd o x1 (nI 0) h K)) : pX12_falseStep_2 E dd o x1 h K := by
  show gk_G E mX12_falseStep (dd + 1, 0, 0) 2 [(0, .ref o), (1, .int x1)] [] h (fun o h1 => ∃ v, o = some (.int v) ∧ K v h1)
  refine gk_iload_n (pc := 2) (DX12_falseStep_0.at 2 rfl) 1 rfl rfl ?_
  refine gk_aload_n (pc := 3) (DX12_falseStep_0.at 3 rfl) 0 rfl rfl ?_
  obtain ⟨fs1, v1, q1, r1, hv⟩ := hv
  refine gk_get (pc := 4) (.int v1) (DX12_falseStep_0.at 4 rfl) fX12_235_11 q1 r1 ?_
  refine gk_icmp_ge (pc := 7) 72 (DX12_falseStep_0.at 5 rfl) (by decide) (fun c => ?_) (fun c => ?_)
  · replace hv := hv.1 c
    refine gk_bipush (pc := 72) ((-5)) (DX12_falseStep_0.at 40 rfl) cb_m5 ?_
    exact gk_ireturn (pc := 74) .int (DX12_falseStep_0.at 41 rfl) rfl rfl ⟨_, rfl, hv⟩
  · replace hv := hv.2 c
    refine gk_iconst (pc := 10) (nI 0) (DX12_falseStep_0.at 6 rfl) ci_0 ?_
    refine gk_istore_n (pc := 11) [(2, .int (nI 0)), (0, .ref o), (1, .int x1)] (DX12_falseStep_0.at 7 rfl) rfl (Nat.le_of_ble_eq_true rfl) rfl ?_
    exact gk_pick (pc := 12) [(0, .ref o), (1, .int x1), (2, .int (nI 0))] [1, 2, 0] rfl hv
set_option maxHeartbeats 4000000 in
theorem vX12_falseStep_12 {E : gk_E} {dd : Nat} {o : Nat} {x1 : Int32} {x2 : Int32}  {h : gk_H} {K : Int32 → gk_H → Prop} (hv : LdI h o 11 0 fun v1 => (v1 ≤ x2 → pX12_falseStep_2 E dd o (x1 + nI 1) h K) ∧ (¬ v1 ≤ x2 → pX12_falseStep_22 E dd o x1 x2 (nI 0) h K)) : pX12_falseStep_12 E dd o x1 x2 h K := by
  show gk_G E mX12_falseStep (dd + 1, 0, 0) 12 [(0, .ref o), (1, .int x1), (2, .int x2)] [] h (fun o h1 => ∃ v, o = some (.int v) ∧ K v h1)
  refine gk_iload_n (pc := 12) (DX12_falseStep_0.at 8 rfl) 2 rfl rfl ?_
  refine gk_aload_n (pc := 13) (DX12_falseStep_0.at 9 rfl) 0 rfl rfl ?_
  obtain ⟨fs1, v1, q1, r1, hv⟩ := hv
  refine gk_get (pc := 14) (.int v1) (DX12_falseStep_0.at 10 rfl) fX12_9_11 q1 r1 ?_
  refine gk_icmp_ge (pc := 17) 66 (DX12_falseStep_0.at 11 rfl) (by decide) (fun c => ?_) (fun c => ?_)
  · replace hv := hv.1 c
    refine gk_iinc (pc := 66) (x1 + nI 1) [(1, .int (x1 + nI 1)), (0, .ref o), (2, .int x2)] 1 (DX12_falseStep_0.at 38 rfl) rfl (by rw [ci_1]) (Nat.le_of_ble_eq_true rfl) rfl ?_
    refine gk_goto (pc := 69) 2 (DX12_falseStep_0.at 39 rfl) (by decide) ?_
    exact gk_pick (pc := 2) [(0, .ref o), (1, .int (x1 + nI 1))] [1, 0] rfl hv
  · replace hv := hv.2 c
    refine gk_iconst (pc := 20) (nI 0) (DX12_falseStep_0.at 12 rfl) ci_0 ?_
    refine gk_istore_n (pc := 21) [(3, .int (nI 0)), (0, .ref o), (1, .int x1), (2, .int x2)] (DX12_falseStep_0.at 13 rfl) rfl (Nat.le_of_ble_eq_true rfl) rfl ?_
    exact gk_pick (pc := 22) [(0, .ref o), (1, .int x1), (2, .int x2), (3, .int (nI 0))] [1, 2, 3, 0] rfl hv
set_option maxHeartbeats 4000000 in
theorem vX12_falseStep_22 {E : gk_E} {dd : Nat} {o : Nat} {x1 : Int32} {x2 : Int32} {x3 : Int32}  {h : gk_H} {K : Int32 → gk_H → Prop} (hv : LdI h o 11 0 fun v1 => (v1 ≤ x3 → pX12_falseStep_12 E dd o x1 (x2 + nI 1) h K) ∧ (¬ v1 ≤ x3 → (∃ fs, h[o]? = some (.inr (11, fs))) ∧ RnI E mX12_isMet (dd, 0, 0) [.ref o, .int x1, .int x2, .int x3] h (fun v2 h2 => LdR h2 o 11 14 fun v3 => AlI h2 v3 x1 fun v4 => (∃ fs, h2[o]? = some (.inr (11, fs))) ∧ RnI E mX12_is (dd, 0, 0) [.ref o, .int x2, .int x3, .int v4] h2 (fun v5 h5 => (v2 = v5 → pX12_falseStep_22 E dd o x1 x2 (x3 + nI 1) h5 K) ∧ (¬ v2 = v5 → K x1 h5))))) : pX12_falseStep_22 E dd o x1 x2 x3 h K := by
  show gk_G E mX12_falseStep (dd + 1, 0, 0) 22 [(0, .ref o), (1, .int x1), (2, .int x2), (3, .int x3)] [] h (fun o h1 => ∃ v, o = some (.int v) ∧ K v h1)
  refine gk_iload_n (pc := 22) (DX12_falseStep_0.at 14 rfl) 3 rfl rfl ?_
  refine gk_aload_n (pc := 23) (DX12_falseStep_0.at 15 rfl) 0 rfl rfl ?_
  obtain ⟨fs1, v1, q1, r1, hv⟩ := hv
  refine gk_get (pc := 24) (.int v1) (DX12_falseStep_0.at 16 rfl) fX12_9_11 q1 r1 ?_
  refine gk_icmp_ge (pc := 27) 60 (DX12_falseStep_0.at 17 rfl) (by decide) (fun c => ?_) (fun c => ?_)
  · replace hv := hv.1 c
    refine gk_iinc (pc := 60) (x2 + nI 1) [(2, .int (x2 + nI 1)), (0, .ref o), (1, .int x1), (3, .int x3)] 2 (DX12_falseStep_0.at 36 rfl) rfl (by rw [ci_1]) (Nat.le_of_ble_eq_true rfl) rfl ?_
    refine gk_goto (pc := 63) 12 (DX12_falseStep_0.at 37 rfl) (by decide) ?_
    exact gk_pick (pc := 12) [(0, .ref o), (1, .int x1), (2, .int (x2 + nI 1))] [1, 2, 0] rfl hv
  · replace hv := hv.2 c
    refine gk_aload_n (pc := 30) (DX12_falseStep_0.at 18 rfl) 0 rfl rfl ?_
    refine gk_iload_n (pc := 31) (DX12_falseStep_0.at 19 rfl) 1 rfl rfl ?_
    refine gk_iload_n (pc := 32) (DX12_falseStep_0.at 20 rfl) 2 rfl rfl ?_
    refine gk_iload_n (pc := 33) (DX12_falseStep_0.at 21 rfl) 3 rfl rfl ?_
    obtain ⟨⟨fs2, q2⟩, hv⟩ := hv
    refine gk_vV (pc := 34) [.int x1, .int x2, .int x3] [] (DX12_falseStep_0.at 22 rfl) cvX12_238 q2 rfl rfl (Nat.le_of_ble_eq_true rfl) (Nat.le_of_ble_eq_true rfl) (gk_Run.post (fun o h2 z => ?_) hv)
    obtain ⟨v2, rfl, hv⟩ := z
    refine gk_aload_n (pc := 37) (DX12_falseStep_0.at 23 rfl) 0 rfl rfl ?_
    refine gk_iload_n (pc := 38) (DX12_falseStep_0.at 24 rfl) 2 rfl rfl ?_
    refine gk_iload_n (pc := 39) (DX12_falseStep_0.at 25 rfl) 3 rfl rfl ?_
    refine gk_aload_n (pc := 40) (DX12_falseStep_0.at 26 rfl) 0 rfl rfl ?_
    obtain ⟨fs3, v3, q3, r3, hv⟩ := hv
    refine gk_get (pc := 41) (.ref v3) (DX12_falseStep_0.at 27 rfl) fX12_32_11 q3 r3 ?_
    refine gk_iload_n (pc := 44) (DX12_falseStep_0.at 28 rfl) 1 rfl rfl ?_
    obtain ⟨n4, f4, q4, r4, hv⟩ := hv
    refine gk_iald (pc := 45) (DX12_falseStep_0.at 29 rfl) q4 r4 ?_
    generalize f4 _ = v4 at hv ⊢
    obtain ⟨⟨fs5, q5⟩, hv⟩ := hv
    refine gk_vV (pc := 46) [.int x2, .int x3, .int v4] [.int v2] (DX12_falseStep_0.at 30 rfl) cvX12_105 q5 rfl rfl (Nat.le_of_ble_eq_true rfl) (Nat.le_of_ble_eq_true rfl) (gk_Run.post (fun o h5 z => ?_) hv)
    obtain ⟨v5, rfl, hv⟩ := z
    refine gk_icmp_eq (pc := 49) 54 (DX12_falseStep_0.at 31 rfl) (by decide) (fun c => ?_) (fun c => ?_)
    · replace hv := hv.1 c
      refine gk_iinc (pc := 54) (x3 + nI 1) [(3, .int (x3 + nI 1)), (0, .ref o), (1, .int x1), (2, .int x2)] 3 (DX12_falseStep_0.at 34 rfl) rfl (by rw [ci_1]) (Nat.le_of_ble_eq_true rfl) rfl ?_
      refine gk_goto (pc := 57) 22 (DX12_falseStep_0.at 35 rfl) (by decide) ?_
      exact gk_pick (pc := 22) [(0, .ref o), (1, .int x1), (2, .int x2), (3, .int (x3 + nI 1))] [1, 2, 3, 0] rfl hv
    · replace hv := hv.2 c
      refine gk_iload_n (pc := 52) (DX12_falseStep_0.at 32 rfl) 1 rfl rfl ?_
      exact gk_ireturn (pc := 53) .int (DX12_falseStep_0.at 33 rfl) rfl rfl ⟨_, rfl, hv⟩
set_option maxHeartbeats 4000000 in
theorem vX12_feed_0 {E : gk_E} {dd : Nat} {o : Nat} {x1 : Int32}  {h : gk_H} {K : Int32 → gk_H → Prop} (hv : RnI E mX12_isFrom (dd, 0, 0) [.long x1.toInt64, .long (lN 32), .long (lN 126)] h (fun v1 h1 => (¬ v1 = 0 → LdI h1 o 11 20 fun v2 => (¬ v2 = (nI 100) → LdR h1 o 11 19 fun v3 => LdI h1 o 11 20 fun v4 => AsI h1 v3 v4 x1 fun h5 => LdI h5 o 11 20 fun v6 => StI h5 o 11 20 (v6 + (nI 1)) fun h7 => LdI h7 o 11 20 fun v8 => K v8 h7) ∧ (v2 = (nI 100) → K ((-4)) h1)) ∧ (v1 = 0 → K ((-2)) h1))) : RnI E mX12_feed (dd + 1, 0, 0) [.ref o, .int x1] h K := by
  show gk_G E mX12_feed (dd + 1, 0, 0) 0 [(0, .ref o), (1, .int x1)] [] h (fun o h1 => ∃ v, o = some (.int v) ∧ K v h1)
  refine gk_iload_n (pc := 0) (DX12_feed_0.at 0 rfl) 1 rfl rfl ?_
  refine gk_i2l (pc := 1) (DX12_feed_0.at 1 rfl) ?_
  refine gk_ldc2 (pc := 2) (lN 32) (DX12_feed_0.at 2 rfl) klX12_257 ?_
  refine gk_ldc2 (pc := 5) (lN 126) (DX12_feed_0.at 3 rfl) klX12_259 ?_
  refine gk_vS (pc := 8) [.long x1.toInt64, .long (lN 32), .long (lN 126)] [] (DX12_feed_0.at 4 rfl) csX12_70 rfl rfl (Nat.le_of_ble_eq_true rfl) (Nat.le_of_ble_eq_true rfl) (gk_Run.post (fun o h1 z => ?_) hv)
  obtain ⟨v1, rfl, hv⟩ := z
  refine gk_if_ne (pc := 11) 17 (DX12_feed_0.at 5 rfl) (by decide) (fun c => ?_) (fun c => ?_)
  · replace hv := hv.1 c
    refine gk_aload_n (pc := 17) (DX12_feed_0.at 8 rfl) 0 rfl rfl ?_
    obtain ⟨fs2, v2, q2, r2, hv⟩ := hv
    refine gk_get (pc := 18) (.int v2) (DX12_feed_0.at 9 rfl) fX12_261_11 q2 r2 ?_
    refine gk_bipush (pc := 21) (nI 100) (DX12_feed_0.at 10 rfl) cb_100 ?_
    refine gk_icmp_ne (pc := 23) 29 (DX12_feed_0.at 11 rfl) (by decide) (fun c => ?_) (fun c => ?_)
    · replace hv := hv.1 c
      refine gk_aload_n (pc := 29) (DX12_feed_0.at 14 rfl) 0 rfl rfl ?_
      obtain ⟨fs3, v3, q3, r3, hv⟩ := hv
      refine gk_get (pc := 30) (.ref v3) (DX12_feed_0.at 15 rfl) fX12_49_11 q3 r3 ?_
      refine gk_aload_n (pc := 33) (DX12_feed_0.at 16 rfl) 0 rfl rfl ?_
      obtain ⟨fs4, v4, q4, r4, hv⟩ := hv
      refine gk_get (pc := 34) (.int v4) (DX12_feed_0.at 17 rfl) fX12_261_11 q4 r4 ?_
      refine gk_iload_n (pc := 37) (DX12_feed_0.at 18 rfl) 1 rfl rfl ?_
      obtain ⟨n5, f5, q5, r5, hv⟩ := hv
      refine gk_iast (pc := 38) (DX12_feed_0.at 19 rfl) q5 r5 ?_
      generalize h1.set _ _ = h5 at hv ⊢
      refine gk_aload_n (pc := 39) (DX12_feed_0.at 20 rfl) 0 rfl rfl ?_
      refine gk_dup (pc := 40) (DX12_feed_0.at 21 rfl) rfl ?_
      obtain ⟨fs6, v6, q6, r6, hv⟩ := hv
      refine gk_get (pc := 41) (.int v6) (DX12_feed_0.at 22 rfl) fX12_261_11 q6 r6 ?_
      refine gk_iconst (pc := 44) (nI 1) (DX12_feed_0.at 23 rfl) ci_1 ?_
      refine gk_iadd (pc := 45) (DX12_feed_0.at 24 rfl) ?_
      obtain ⟨fs7, q7, r7, hv⟩ := hv
      refine gk_put (pc := 46) (DX12_feed_0.at 25 rfl) fX12_261_11w q7 r7 rfl rfl ?_
      generalize h5.set _ _ = h7 at hv ⊢
      refine gk_aload_n (pc := 49) (DX12_feed_0.at 26 rfl) 0 rfl rfl ?_
      obtain ⟨fs8, v8, q8, r8, hv⟩ := hv
      refine gk_get (pc := 50) (.int v8) (DX12_feed_0.at 27 rfl) fX12_261_11 q8 r8 ?_
      exact gk_ireturn (pc := 53) .int (DX12_feed_0.at 28 rfl) rfl rfl ⟨_, rfl, hv⟩
    · replace hv := hv.2 c
      refine gk_bipush (pc := 26) ((-4)) (DX12_feed_0.at 12 rfl) cb_m4 ?_
      exact gk_ireturn (pc := 28) .int (DX12_feed_0.at 13 rfl) rfl rfl ⟨_, rfl, hv⟩
  · replace hv := hv.2 c
    refine gk_bipush (pc := 14) ((-2)) (DX12_feed_0.at 6 rfl) cb_m2 ?_
    exact gk_ireturn (pc := 16) .int (DX12_feed_0.at 7 rfl) rfl rfl ⟨_, rfl, hv⟩
set_option maxHeartbeats 4000000 in
theorem vX12_fills_0 {E : gk_E} {dd : Nat} {o : Nat} {x1 : Int32} {x2 : Int32} {x3 : Int32}  {h : gk_H} {K : Int32 → gk_H → Prop} (hv : RnI E mX12_isNet (dd, 0, 0) [.int x1] h (fun v1 h1 => (v1 = 0 → K ((-1)) h1) ∧ (¬ v1 = 0 → (((-1)) ≤ x3 → (∃ fs, h1[o]? = some (.inr (11, fs))) ∧ RnI E mX12_isGapOf (dd, 0, 0) [.ref o, .int x1, .int x2] h1 (fun v2 h2 => (¬ v2 = 0 → (∃ fs, h2[o]? = some (.inr (11, fs))) ∧ RnI E mX12_unsound (dd, 0, 0) [.ref o, .int x1] h2 (fun v3 h3 => (v3 = ((-5)) → LdR h3 o 11 3 fun v4 => AlI h3 v4 x1 fun v5 => (¬ v5 = (nI 6) → (∃ fs, h3[o]? = some (.inr (11, fs))) ∧ RnV E mX12_looksToFill (dd, 0, 0) [.ref o, .int x1, .int x2, .int x3] h3 (fun h6 => (¬ x3 = ((-1)) → LdI h6 o 11 12 fun v7 => (¬ v7 = ((-5)) → LdI h6 o 11 12 fun v8 => K v8 h6) ∧ (v7 = ((-5)) → K ((-1)) h6)) ∧ (x3 = ((-1)) → LdI h6 o 11 10 fun v9 => K v9 h6))) ∧ (v5 = (nI 6) → K ((-4)) h3)) ∧ (¬ v3 = ((-5)) → K ((-3)) h3))) ∧ (v2 = 0 → K ((-2)) h2))) ∧ (¬ ((-1)) ≤ x3 → K ((-1)) h1)))) : RnI E mX12_fills (dd + 1, 0, 0) [.ref o, .int x1, .int x2, .int x3] h K := by
  show gk_G E mX12_fills (dd + 1, 0, 0) 0 [(0, .ref o), (1, .int x1), (2, .int x2), (3, .int x3)] [] h (fun o h1 => ∃ v, o = some (.int v) ∧ K v h1)
  refine gk_iload_n (pc := 0) (DX12_fills_0.at 0 rfl) 1 rfl rfl ?_
  refine gk_vS (pc := 1) [.int x1] [] (DX12_fills_0.at 1 rfl) csX12_145 rfl rfl (Nat.le_of_ble_eq_true rfl) (Nat.le_of_ble_eq_true rfl) (gk_Run.post (fun o h1 z => ?_) hv)
  obtain ⟨v1, rfl, hv⟩ := z
  refine gk_if_eq (pc := 4) 12 (DX12_fills_0.at 2 rfl) (by decide) (fun c => ?_) (fun c => ?_)
  · replace hv := hv.1 c
    refine gk_iconst (pc := 12) ((-1)) (DX12_fills_0.at 6 rfl) ci_m1 ?_
    exact gk_ireturn (pc := 13) .int (DX12_fills_0.at 7 rfl) rfl rfl ⟨_, rfl, hv⟩
  · replace hv := hv.2 c
    refine gk_iload_n (pc := 7) (DX12_fills_0.at 3 rfl) 3 rfl rfl ?_
    refine gk_iconst (pc := 8) ((-1)) (DX12_fills_0.at 4 rfl) ci_m1 ?_
    refine gk_icmp_ge (pc := 9) 14 (DX12_fills_0.at 5 rfl) (by decide) (fun c => ?_) (fun c => ?_)
    · replace hv := hv.1 c
      refine gk_aload_n (pc := 14) (DX12_fills_0.at 8 rfl) 0 rfl rfl ?_
      refine gk_iload_n (pc := 15) (DX12_fills_0.at 9 rfl) 1 rfl rfl ?_
      refine gk_iload_n (pc := 16) (DX12_fills_0.at 10 rfl) 2 rfl rfl ?_
      obtain ⟨⟨fs2, q2⟩, hv⟩ := hv
      refine gk_vV (pc := 17) [.int x1, .int x2] [] (DX12_fills_0.at 11 rfl) cvX12_211 q2 rfl rfl (Nat.le_of_ble_eq_true rfl) (Nat.le_of_ble_eq_true rfl) (gk_Run.post (fun o h2 z => ?_) hv)
      obtain ⟨v2, rfl, hv⟩ := z
      refine gk_if_ne (pc := 20) 26 (DX12_fills_0.at 12 rfl) (by decide) (fun c => ?_) (fun c => ?_)
      · replace hv := hv.1 c
        refine gk_aload_n (pc := 26) (DX12_fills_0.at 15 rfl) 0 rfl rfl ?_
        refine gk_iload_n (pc := 27) (DX12_fills_0.at 16 rfl) 1 rfl rfl ?_
        obtain ⟨⟨fs3, q3⟩, hv⟩ := hv
        refine gk_vV (pc := 28) [.int x1] [] (DX12_fills_0.at 17 rfl) cvX12_164 q3 rfl rfl (Nat.le_of_ble_eq_true rfl) (Nat.le_of_ble_eq_true rfl) (gk_Run.post (fun o h3 z => ?_) hv)
        obtain ⟨v3, rfl, hv⟩ := z
        refine gk_bipush (pc := 31) ((-5)) (DX12_fills_0.at 18 rfl) cb_m5 ?_
        refine gk_icmp_eq (pc := 33) 39 (DX12_fills_0.at 19 rfl) (by decide) (fun c => ?_) (fun c => ?_)
        · replace hv := hv.1 c
          refine gk_aload_n (pc := 39) (DX12_fills_0.at 22 rfl) 0 rfl rfl ?_
          obtain ⟨fs4, v4, q4, r4, hv⟩ := hv
          refine gk_get (pc := 40) (.ref v4) (DX12_fills_0.at 23 rfl) fX12_23_11 q4 r4 ?_
          refine gk_iload_n (pc := 43) (DX12_fills_0.at 24 rfl) 1 rfl rfl ?_
          obtain ⟨n5, f5, q5, r5, hv⟩ := hv
          refine gk_iald (pc := 44) (DX12_fills_0.at 25 rfl) q5 r5 ?_
          generalize f5 _ = v5 at hv ⊢
          refine gk_bipush (pc := 45) (nI 6) (DX12_fills_0.at 26 rfl) cb_6 ?_
          refine gk_icmp_ne (pc := 47) 53 (DX12_fills_0.at 27 rfl) (by decide) (fun c => ?_) (fun c => ?_)
          · replace hv := hv.1 c
            refine gk_aload_n (pc := 53) (DX12_fills_0.at 30 rfl) 0 rfl rfl ?_
            refine gk_iload_n (pc := 54) (DX12_fills_0.at 31 rfl) 1 rfl rfl ?_
            refine gk_iload_n (pc := 55) (DX12_fills_0.at 32 rfl) 2 rfl rfl ?_
            refine gk_iload_n (pc := 56) (DX12_fills_0.at 33 rfl) 3 rfl rfl ?_
            obtain ⟨⟨fs6, q6⟩, hv⟩ := hv
            refine gk_vV (pc := 57) [.int x1, .int x2, .int x3] [] (DX12_fills_0.at 34 rfl) cvX12_214 q6 rfl rfl (Nat.le_of_ble_eq_true rfl) (Nat.le_of_ble_eq_true rfl) (gk_Run.post (fun o h6 z => ?_) hv)
            obtain ⟨rfl, hv⟩ := z
            refine gk_iload_n (pc := 60) (DX12_fills_0.at 35 rfl) 3 rfl rfl ?_
            refine gk_iconst (pc := 61) ((-1)) (DX12_fills_0.at 36 rfl) ci_m1 ?_
            refine gk_icmp_ne (pc := 62) 72 (DX12_fills_0.at 37 rfl) (by decide) (fun c => ?_) (fun c => ?_)
            · replace hv := hv.1 c
              refine gk_aload_n (pc := 72) (DX12_fills_0.at 41 rfl) 0 rfl rfl ?_
              obtain ⟨fs7, v7, q7, r7, hv⟩ := hv
              refine gk_get (pc := 73) (.int v7) (DX12_fills_0.at 42 rfl) fX12_180_11 q7 r7 ?_
              refine gk_bipush (pc := 76) ((-5)) (DX12_fills_0.at 43 rfl) cb_m5 ?_
              refine gk_icmp_ne (pc := 78) 85 (DX12_fills_0.at 44 rfl) (by decide) (fun c => ?_) (fun c => ?_)
              · replace hv := hv.1 c
                refine gk_aload_n (pc := 85) (DX12_fills_0.at 47 rfl) 0 rfl rfl ?_
                obtain ⟨fs8, v8, q8, r8, hv⟩ := hv
                refine gk_get (pc := 86) (.int v8) (DX12_fills_0.at 48 rfl) fX12_180_11 q8 r8 ?_
                exact gk_ireturn (pc := 89) .int (DX12_fills_0.at 49 rfl) rfl rfl ⟨_, rfl, hv⟩
              · replace hv := hv.2 c
                refine gk_iconst (pc := 81) ((-1)) (DX12_fills_0.at 45 rfl) ci_m1 ?_
                refine gk_goto (pc := 82) 89 (DX12_fills_0.at 46 rfl) (by decide) ?_
                exact gk_ireturn (pc := 89) .int (DX12_fills_0.at 49 rfl) rfl rfl ⟨_, rfl, hv⟩
            · replace hv := hv.2 c
              refine gk_aload_n (pc := 65) (DX12_fills_0.at 38 rfl) 0 rfl rfl ?_
              obtain ⟨fs9, v9, q9, r9, hv⟩ := hv
              refine gk_get (pc := 66) (.int v9) (DX12_fills_0.at 39 rfl) fX12_174_11 q9 r9 ?_
              refine gk_goto (pc := 69) 89 (DX12_fills_0.at 40 rfl) (by decide) ?_
              exact gk_ireturn (pc := 89) .int (DX12_fills_0.at 49 rfl) rfl rfl ⟨_, rfl, hv⟩
          · replace hv := hv.2 c
            refine gk_bipush (pc := 50) ((-4)) (DX12_fills_0.at 28 rfl) cb_m4 ?_
            exact gk_ireturn (pc := 52) .int (DX12_fills_0.at 29 rfl) rfl rfl ⟨_, rfl, hv⟩
        · replace hv := hv.2 c
          refine gk_bipush (pc := 36) ((-3)) (DX12_fills_0.at 20 rfl) cb_m3 ?_
          exact gk_ireturn (pc := 38) .int (DX12_fills_0.at 21 rfl) rfl rfl ⟨_, rfl, hv⟩
      · replace hv := hv.2 c
        refine gk_bipush (pc := 23) ((-2)) (DX12_fills_0.at 13 rfl) cb_m2 ?_
        exact gk_ireturn (pc := 25) .int (DX12_fills_0.at 14 rfl) rfl rfl ⟨_, rfl, hv⟩
    · replace hv := hv.2 c
      refine gk_iconst (pc := 12) ((-1)) (DX12_fills_0.at 6 rfl) ci_m1 ?_
      exact gk_ireturn (pc := 13) .int (DX12_fills_0.at 7 rfl) rfl rfl ⟨_, rfl, hv⟩
abbrev pX12_fillsFrom_60 (E : gk_E) (dd : Nat) (o : Nat) (x1 : Int32) (x2 : Int32) (x3 : Int32) (x4 : Int32) (x5 : Int32) (x6 : Int32) (x7 : Int32) (x8 : Int32) (x9 : Int32) (x10 : Int32) (x11 : Int32) (h : gk_H) (K : Int32 → gk_H → Prop) : Prop := gk_G E mX12_fillsFrom (dd + 1, 0, 0) 60 [(0, .ref o), (1, .int x1), (2, .int x2), (3, .int x3), (4, .int x4), (5, .int x5), (6, .int x6), (7, .int x7), (8, .int x8), (9, .int x9), (10, .int x10), (11, .int x11)] [] h (fun o h1 => ∃ v, o = some (.int v) ∧ K v h1)
set_option maxHeartbeats 4000000 in
theorem vX12_fillsFrom_0 {E : gk_E} {dd : Nat} {o : Nat} {x1 : Int32} {x2 : Int32} {x3 : Int32} {x4 : Int32} {x5 : Int32}  {h : gk_H} {K : Int32 → gk_H → Prop} (hv : LdR h o 11 3 fun v1 => AlI h v1 (nI 5) fun v2 => (0 ≤ x1 → LdR h o 11 1 fun v3 => AlI h v3 (x2 - x2 / (nI 10) * (nI 10)) fun v4 => pX12_fillsFrom_60 E dd o x1 x2 x3 x4 x5 v2 (x2 / (nI 1000)) ((x2 / (nI 100)) - (x2 / (nI 100)) / (nI 10) * (nI 10)) ((x2 / (nI 10)) - (x2 / (nI 10)) / (nI 10) * (nI 10)) v4 (nI 1) h K) ∧ (¬ 0 ≤ x1 → (∃ fs, h[o]? = some (.inr (11, fs))) ∧ RnI E mX12_isFilled (dd, 0, 0) [.ref o, .int x4, .int x5] h (fun v5 h5 => (bz v5 ∧ K v5 h5)))) : RnI E mX12_fillsFrom (dd + 1, 0, 0) [.ref o, .int x1, .int x2, .int x3, .int x4, .int x5] h K := by
  show gk_G E mX12_fillsFrom (dd + 1, 0, 0) 0 [(0, .ref o), (1, .int x1), (2, .int x2), (3, .int x3), (4, .int x4), (5, .int x5)] [] h (fun o h1 => ∃ v, o = some (.int v) ∧ K v h1)
  refine gk_aload_n (pc := 0) (DX12_fillsFrom_0.at 0 rfl) 0 rfl rfl ?_
  obtain ⟨fs1, v1, q1, r1, hv⟩ := hv
  refine gk_get (pc := 1) (.ref v1) (DX12_fillsFrom_0.at 1 rfl) fX12_23_11 q1 r1 ?_
  refine gk_iconst (pc := 4) (nI 5) (DX12_fillsFrom_0.at 2 rfl) ci_5 ?_
  obtain ⟨n2, f2, q2, r2, hv⟩ := hv
  refine gk_iald (pc := 5) (DX12_fillsFrom_0.at 3 rfl) q2 r2 ?_
  generalize f2 _ = v2 at hv ⊢
  refine gk_istore (pc := 6) [(6, .int v2), (0, .ref o), (1, .int x1), (2, .int x2), (3, .int x3), (4, .int x4), (5, .int x5)] (DX12_fillsFrom_0.at 4 rfl) (Nat.le_of_ble_eq_true rfl) rfl ?_
  refine gk_iload_n (pc := 8) (DX12_fillsFrom_0.at 5 rfl) 2 rfl rfl ?_
  refine gk_if_ge (pc := 9) 21 (DX12_fillsFrom_0.at 6 rfl) (by decide) (fun c => ?_) (fun c => ?_)
  · replace hv := hv.1 c
    refine gk_iload_n (pc := 21) (DX12_fillsFrom_0.at 12 rfl) 3 rfl rfl ?_
    refine gk_sipush (pc := 22) (nI 1000) (DX12_fillsFrom_0.at 13 rfl) cs_1000 ?_
    refine gk_idiv (pc := 25) (DX12_fillsFrom_0.at 14 rfl) (by decide) ?_
    refine gk_istore (pc := 26) [(7, .int (x2 / (nI 1000))), (6, .int v2), (0, .ref o), (1, .int x1), (2, .int x2), (3, .int x3), (4, .int x4), (5, .int x5)] (DX12_fillsFrom_0.at 15 rfl) (Nat.le_of_ble_eq_true rfl) rfl ?_
    refine gk_iload_n (pc := 28) (DX12_fillsFrom_0.at 16 rfl) 4 rfl rfl ?_
    refine gk_bipush (pc := 29) (nI 100) (DX12_fillsFrom_0.at 17 rfl) cb_100 ?_
    refine gk_idiv (pc := 31) (DX12_fillsFrom_0.at 18 rfl) (by decide) ?_
    refine gk_bipush (pc := 32) (nI 10) (DX12_fillsFrom_0.at 19 rfl) cb_10 ?_
    refine gk_irem (pc := 34) (DX12_fillsFrom_0.at 20 rfl) (by decide) ?_
    refine gk_istore (pc := 35) [(8, .int ((x2 / (nI 100)) - (x2 / (nI 100)) / (nI 10) * (nI 10))), (7, .int (x2 / (nI 1000))), (6, .int v2), (0, .ref o), (1, .int x1), (2, .int x2), (3, .int x3), (4, .int x4), (5, .int x5)] (DX12_fillsFrom_0.at 21 rfl) (Nat.le_of_ble_eq_true rfl) rfl ?_
    refine gk_iload_n (pc := 37) (DX12_fillsFrom_0.at 22 rfl) 5 rfl rfl ?_
    refine gk_bipush (pc := 38) (nI 10) (DX12_fillsFrom_0.at 23 rfl) cb_10 ?_
    refine gk_idiv (pc := 40) (DX12_fillsFrom_0.at 24 rfl) (by decide) ?_
    refine gk_bipush (pc := 41) (nI 10) (DX12_fillsFrom_0.at 25 rfl) cb_10 ?_
    refine gk_irem (pc := 43) (DX12_fillsFrom_0.at 26 rfl) (by decide) ?_
    refine gk_istore (pc := 44) [(9, .int ((x2 / (nI 10)) - (x2 / (nI 10)) / (nI 10) * (nI 10))), (8, .int ((x2 / (nI 100)) - (x2 / (nI 100)) / (nI 10) * (nI 10))), (7, .int (x2 / (nI 1000))), (6, .int v2), (0, .ref o), (1, .int x1), (2, .int x2), (3, .int x3), (4, .int x4), (5, .int x5)] (DX12_fillsFrom_0.at 27 rfl) (Nat.le_of_ble_eq_true rfl) rfl ?_
    refine gk_aload_n (pc := 46) (DX12_fillsFrom_0.at 28 rfl) 4 rfl rfl ?_
    obtain ⟨fs3, v3, q3, r3, hv⟩ := hv
    refine gk_get (pc := 47) (.ref v3) (DX12_fillsFrom_0.at 29 rfl) fX12_15_11 q3 r3 ?_
    refine gk_iload_n (pc := 50) (DX12_fillsFrom_0.at 30 rfl) 6 rfl rfl ?_
    refine gk_bipush (pc := 51) (nI 10) (DX12_fillsFrom_0.at 31 rfl) cb_10 ?_
    refine gk_irem (pc := 53) (DX12_fillsFrom_0.at 32 rfl) (by decide) ?_
    obtain ⟨n4, f4, q4, r4, hv⟩ := hv
    refine gk_iald (pc := 54) (DX12_fillsFrom_0.at 33 rfl) q4 r4 ?_
    generalize f4 _ = v4 at hv ⊢
    refine gk_istore (pc := 55) [(10, .int v4), (9, .int ((x2 / (nI 10)) - (x2 / (nI 10)) / (nI 10) * (nI 10))), (8, .int ((x2 / (nI 100)) - (x2 / (nI 100)) / (nI 10) * (nI 10))), (7, .int (x2 / (nI 1000))), (6, .int v2), (0, .ref o), (1, .int x1), (2, .int x2), (3, .int x3), (4, .int x4), (5, .int x5)] (DX12_fillsFrom_0.at 34 rfl) (Nat.le_of_ble_eq_true rfl) rfl ?_
    refine gk_iconst (pc := 57) (nI 1) (DX12_fillsFrom_0.at 35 rfl) ci_1 ?_
    refine gk_istore (pc := 58) [(11, .int (nI 1)), (10, .int v4), (9, .int ((x2 / (nI 10)) - (x2 / (nI 10)) / (nI 10) * (nI 10))), (8, .int ((x2 / (nI 100)) - (x2 / (nI 100)) / (nI 10) * (nI 10))), (7, .int (x2 / (nI 1000))), (6, .int v2), (0, .ref o), (1, .int x1), (2, .int x2), (3, .int x3), (4, .int x4), (5, .int x5)] (DX12_fillsFrom_0.at 36 rfl) (Nat.le_of_ble_eq_true rfl) rfl ?_
    exact gk_pick (pc := 60) [(0, .ref o), (1, .int x1), (2, .int x2), (3, .int x3), (4, .int x4), (5, .int x5), (6, .int v2), (7, .int (x2 / (nI 1000))), (8, .int ((x2 / (nI 100)) - (x2 / (nI 100)) / (nI 10) * (nI 10))), (9, .int ((x2 / (nI 10)) - (x2 / (nI 10)) / (nI 10) * (nI 10))), (10, .int v4), (11, .int (nI 1))] [6, 7, 8, 9, 10, 11, 5, 4, 3, 2, 1, 0] rfl hv
  · replace hv := hv.2 c
    refine gk_aload_n (pc := 12) (DX12_fillsFrom_0.at 7 rfl) 1 rfl rfl ?_
    refine gk_iload (pc := 13) (DX12_fillsFrom_0.at 8 rfl) 5 rfl ?_
    refine gk_iload (pc := 15) (DX12_fillsFrom_0.at 9 rfl) 6 rfl ?_
    obtain ⟨⟨fs5, q5⟩, hv⟩ := hv
    refine gk_vV (pc := 17) [.int x4, .int x5] [] (DX12_fillsFrom_0.at 10 rfl) cvX12_193 q5 rfl rfl (Nat.le_of_ble_eq_true rfl) (Nat.le_of_ble_eq_true rfl) (gk_Run.post (fun o h5 z => ?_) hv)
    obtain ⟨v5, rfl, hv⟩ := z
    exact gk_ireturn (pc := 20) .boolean (DX12_fillsFrom_0.at 11 rfl) rfl (bz_n hv.1) ⟨_, rfl, hv.2⟩
set_option maxHeartbeats 4000000 in
theorem vX12_fillsFrom_60 {E : gk_E} {dd : Nat} {o : Nat} {x1 : Int32} {x2 : Int32} {x3 : Int32} {x4 : Int32} {x5 : Int32} {x6 : Int32} {x7 : Int32} {x8 : Int32} {x9 : Int32} {x10 : Int32} {x11 : Int32}  {h : gk_H} {K : Int32 → gk_H → Prop} (hv : LdI h o 11 0 fun v1 => (v1 ≤ x11 → K (nI 0) h) ∧ (¬ v1 ≤ x11 → (¬ x1 = x7 → (¬ x1 = x8 → ((nI 1) = 0 → pX12_fillsFrom_60 E dd o x1 x2 x3 x4 x5 x6 x7 x8 x9 x10 (x11 + nI 1) h K) ∧ (¬ (nI 1) = 0 → (∃ fs, h[o]? = some (.inr (11, fs))) ∧ RnI E mX12_mayStand (dd, 0, 0) [.ref o, .int x1, .int x11] h (fun v2 h2 => (v2 = 0 → pX12_fillsFrom_60 E dd o x1 x2 x3 x4 x5 x6 x7 x8 x9 x10 (x11 + nI 1) h2 K) ∧ (¬ v2 = 0 → (∃ fs, h2[o]? = some (.inr (11, fs))) ∧ RnV E mX12_lays (dd, 0, 0) [.ref o, .int (nI 5), .int x1, .int x6, .int x11] h2 (fun h3 => (∃ fs, h3[o]? = some (.inr (11, fs))) ∧ RnI E mX12_fillsFrom (dd, 0, 0) [.ref o, .int (x1 - (nI 1)), .int x2, .int (x3 / (nI 10)), .int (x4 + (x3 * x11)), .int x5] h3 (fun v4 h4 => (v4 = 0 → pX12_fillsFrom_60 E dd o x1 x2 x3 x4 x5 x6 x7 x8 x9 x10 (x11 + nI 1) h4 K) ∧ (¬ v4 = 0 → K (nI 1) h4))))))) ∧ (x1 = x8 → (¬ x11 = x10 → ((nI 0) = 0 → pX12_fillsFrom_60 E dd o x1 x2 x3 x4 x5 x6 x7 x8 x9 x10 (x11 + nI 1) h K) ∧ (¬ (nI 0) = 0 → (∃ fs, h[o]? = some (.inr (11, fs))) ∧ RnI E mX12_mayStand (dd, 0, 0) [.ref o, .int x1, .int x11] h (fun v5 h5 => (v5 = 0 → pX12_fillsFrom_60 E dd o x1 x2 x3 x4 x5 x6 x7 x8 x9 x10 (x11 + nI 1) h5 K) ∧ (¬ v5 = 0 → (∃ fs, h5[o]? = some (.inr (11, fs))) ∧ RnV E mX12_lays (dd, 0, 0) [.ref o, .int (nI 5), .int x1, .int x6, .int x11] h5 (fun h6 => (∃ fs, h6[o]? = some (.inr (11, fs))) ∧ RnI E mX12_fillsFrom (dd, 0, 0) [.ref o, .int (x1 - (nI 1)), .int x2, .int (x3 / (nI 10)), .int (x4 + (x3 * x11)), .int x5] h6 (fun v7 h7 => (v7 = 0 → pX12_fillsFrom_60 E dd o x1 x2 x3 x4 x5 x6 x7 x8 x9 x10 (x11 + nI 1) h7 K) ∧ (¬ v7 = 0 → K (nI 1) h7))))))) ∧ (x11 = x10 → ((nI 1) = 0 → pX12_fillsFrom_60 E dd o x1 x2 x3 x4 x5 x6 x7 x8 x9 x10 (x11 + nI 1) h K) ∧ (¬ (nI 1) = 0 → (∃ fs, h[o]? = some (.inr (11, fs))) ∧ RnI E mX12_mayStand (dd, 0, 0) [.ref o, .int x1, .int x11] h (fun v8 h8 => (v8 = 0 → pX12_fillsFrom_60 E dd o x1 x2 x3 x4 x5 x6 x7 x8 x9 x10 (x11 + nI 1) h8 K) ∧ (¬ v8 = 0 → (∃ fs, h8[o]? = some (.inr (11, fs))) ∧ RnV E mX12_lays (dd, 0, 0) [.ref o, .int (nI 5), .int x1, .int x6, .int x11] h8 (fun h9 => (∃ fs, h9[o]? = some (.inr (11, fs))) ∧ RnI E mX12_fillsFrom (dd, 0, 0) [.ref o, .int (x1 - (nI 1)), .int x2, .int (x3 / (nI 10)), .int (x4 + (x3 * x11)), .int x5] h9 (fun v10 h10 => (v10 = 0 → pX12_fillsFrom_60 E dd o x1 x2 x3 x4 x5 x6 x7 x8 x9 x10 (x11 + nI 1) h10 K) ∧ (¬ v10 = 0 → K (nI 1) h10))))))))) ∧ (x1 = x7 → (¬ x11 = x9 → ((nI 0) = 0 → pX12_fillsFrom_60 E dd o x1 x2 x3 x4 x5 x6 x7 x8 x9 x10 (x11 + nI 1) h K) ∧ (¬ (nI 0) = 0 → (∃ fs, h[o]? = some (.inr (11, fs))) ∧ RnI E mX12_mayStand (dd, 0, 0) [.ref o, .int x1, .int x11] h (fun v11 h11 => (v11 = 0 → pX12_fillsFrom_60 E dd o x1 x2 x3 x4 x5 x6 x7 x8 x9 x10 (x11 + nI 1) h11 K) ∧ (¬ v11 = 0 → (∃ fs, h11[o]? = some (.inr (11, fs))) ∧ RnV E mX12_lays (dd, 0, 0) [.ref o, .int (nI 5), .int x1, .int x6, .int x11] h11 (fun h12 => (∃ fs, h12[o]? = some (.inr (11, fs))) ∧ RnI E mX12_fillsFrom (dd, 0, 0) [.ref o, .int (x1 - (nI 1)), .int x2, .int (x3 / (nI 10)), .int (x4 + (x3 * x11)), .int x5] h12 (fun v13 h13 => (v13 = 0 → pX12_fillsFrom_60 E dd o x1 x2 x3 x4 x5 x6 x7 x8 x9 x10 (x11 + nI 1) h13 K) ∧ (¬ v13 = 0 → K (nI 1) h13))))))) ∧ (x11 = x9 → (¬ x1 = x8 → ((nI 1) = 0 → pX12_fillsFrom_60 E dd o x1 x2 x3 x4 x5 x6 x7 x8 x9 x10 (x11 + nI 1) h K) ∧ (¬ (nI 1) = 0 → (∃ fs, h[o]? = some (.inr (11, fs))) ∧ RnI E mX12_mayStand (dd, 0, 0) [.ref o, .int x1, .int x11] h (fun v14 h14 => (v14 = 0 → pX12_fillsFrom_60 E dd o x1 x2 x3 x4 x5 x6 x7 x8 x9 x10 (x11 + nI 1) h14 K) ∧ (¬ v14 = 0 → (∃ fs, h14[o]? = some (.inr (11, fs))) ∧ RnV E mX12_lays (dd, 0, 0) [.ref o, .int (nI 5), .int x1, .int x6, .int x11] h14 (fun h15 => (∃ fs, h15[o]? = some (.inr (11, fs))) ∧ RnI E mX12_fillsFrom (dd, 0, 0) [.ref o, .int (x1 - (nI 1)), .int x2, .int (x3 / (nI 10)), .int (x4 + (x3 * x11)), .int x5] h15 (fun v16 h16 => (v16 = 0 → pX12_fillsFrom_60 E dd o x1 x2 x3 x4 x5 x6 x7 x8 x9 x10 (x11 + nI 1) h16 K) ∧ (¬ v16 = 0 → K (nI 1) h16))))))) ∧ (x1 = x8 → (¬ x11 = x10 → ((nI 0) = 0 → pX12_fillsFrom_60 E dd o x1 x2 x3 x4 x5 x6 x7 x8 x9 x10 (x11 + nI 1) h K) ∧ (¬ (nI 0) = 0 → (∃ fs, h[o]? = some (.inr (11, fs))) ∧ RnI E mX12_mayStand (dd, 0, 0) [.ref o, .int x1, .int x11] h (fun v17 h17 => (v17 = 0 → pX12_fillsFrom_60 E dd o x1 x2 x3 x4 x5 x6 x7 x8 x9 x10 (x11 + nI 1) h17 K) ∧ (¬ v17 = 0 → (∃ fs, h17[o]? = some (.inr (11, fs))) ∧ RnV E mX12_lays (dd, 0, 0) [.ref o, .int (nI 5), .int x1, .int x6, .int x11] h17 (fun h18 => (∃ fs, h18[o]? = some (.inr (11, fs))) ∧ RnI E mX12_fillsFrom (dd, 0, 0) [.ref o, .int (x1 - (nI 1)), .int x2, .int (x3 / (nI 10)), .int (x4 + (x3 * x11)), .int x5] h18 (fun v19 h19 => (v19 = 0 → pX12_fillsFrom_60 E dd o x1 x2 x3 x4 x5 x6 x7 x8 x9 x10 (x11 + nI 1) h19 K) ∧ (¬ v19 = 0 → K (nI 1) h19))))))) ∧ (x11 = x10 → ((nI 1) = 0 → pX12_fillsFrom_60 E dd o x1 x2 x3 x4 x5 x6 x7 x8 x9 x10 (x11 + nI 1) h K) ∧ (¬ (nI 1) = 0 → (∃ fs, h[o]? = some (.inr (11, fs))) ∧ RnI E mX12_mayStand (dd, 0, 0) [.ref o, .int x1, .int x11] h (fun v20 h20 => (v20 = 0 → pX12_fillsFrom_60 E dd o x1 x2 x3 x4 x5 x6 x7 x8 x9 x10 (x11 + nI 1) h20 K) ∧ (¬ v20 = 0 → (∃ fs, h20[o]? = some (.inr (11, fs))) ∧ RnV E mX12_lays (dd, 0, 0) [.ref o, .int (nI 5), .int x1, .int x6, .int x11] h20 (fun h21 => (∃ fs, h21[o]? = some (.inr (11, fs))) ∧ RnI E mX12_fillsFrom (dd, 0, 0) [.ref o, .int (x1 - (nI 1)), .int x2, .int (x3 / (nI 10)), .int (x4 + (x3 * x11)), .int x5] h21 (fun v22 h22 => (v22 = 0 → pX12_fillsFrom_60 E dd o x1 x2 x3 x4 x5 x6 x7 x8 x9 x10 (x11 + nI 1) h22 K) ∧ (¬ v22 = 0 → K (nI 1) h22)))))))))))) : pX12_fillsFrom_60 E dd o x1 x2 x3 x4 x5 x6 x7 x8 x9 x10 x11 h K := by
  show gk_G E mX12_fillsFrom (dd + 1, 0, 0) 60 [(0, .ref o), (1, .int x1), (2, .int x2), (3, .int x3), (4, .int x4), (5, .int x5), (6, .int x6), (7, .int x7), (8, .int x8), (9, .int x9), (10, .int x10), (11, .int x11)] [] h (fun o h1 => ∃ v, o = some (.int v) ∧ K v h1)
  refine gk_iload (pc := 60) (DX12_fillsFrom_0.at 37 rfl) 11 rfl ?_
  refine gk_aload_n (pc := 62) (DX12_fillsFrom_0.at 38 rfl) 0 rfl rfl ?_
  obtain ⟨fs1, v1, q1, r1, hv⟩ := hv
  refine gk_get (pc := 63) (.int v1) (DX12_fillsFrom_0.at 39 rfl) fX12_9_11 q1 r1 ?_
  refine gk_icmp_ge (pc := 66) 159 (DX12_fillsFrom_0.at 40 rfl) (by decide) (fun c => ?_) (fun c => ?_)
  · replace hv := hv.1 c
    refine gk_iconst (pc := 159) (nI 0) (DX12_fillsFrom_1.at 30 rfl) ci_0 ?_
    exact gk_ireturn (pc := 160) .boolean (DX12_fillsFrom_1.at 31 rfl) rfl rfl ⟨_, rfl, hv⟩
  · replace hv := hv.2 c
    refine gk_iload_n (pc := 69) (DX12_fillsFrom_0.at 41 rfl) 1 rfl rfl ?_
    refine gk_iload (pc := 70) (DX12_fillsFrom_0.at 42 rfl) 7 rfl ?_
    refine gk_icmp_ne (pc := 72) 82 (DX12_fillsFrom_0.at 43 rfl) (by decide) (fun c => ?_) (fun c => ?_)
    · replace hv := hv.1 c
      refine gk_iload_n (pc := 82) (DX12_fillsFrom_0.at 47 rfl) 1 rfl rfl ?_
      refine gk_iload (pc := 83) (DX12_fillsFrom_0.at 48 rfl) 8 rfl ?_
      refine gk_icmp_ne (pc := 85) 95 (DX12_fillsFrom_0.at 49 rfl) (by decide) (fun c => ?_) (fun c => ?_)
      · replace hv := hv.1 c
        refine gk_iconst (pc := 95) (nI 1) (DX12_fillsFrom_0.at 53 rfl) ci_1 ?_
        refine gk_goto (pc := 96) 100 (DX12_fillsFrom_0.at 54 rfl) (by decide) ?_
        refine gk_istore (pc := 100) [(12, .int (nI 1)), (0, .ref o), (1, .int x1), (2, .int x2), (3, .int x3), (4, .int x4), (5, .int x5), (6, .int x6), (7, .int x7), (8, .int x8), (9, .int x9), (10, .int x10), (11, .int x11)] (DX12_fillsFrom_0.at 56 rfl) (Nat.le_of_ble_eq_true rfl) rfl ?_
        refine gk_iload (pc := 102) (DX12_fillsFrom_0.at 57 rfl) 0 rfl ?_
        refine gk_if_eq (pc := 104) 153 (DX12_fillsFrom_0.at 58 rfl) (by decide) (fun c => ?_) (fun c => ?_)
        · replace hv := hv.1 c
          refine gk_iinc (pc := 153) (x11 + nI 1) [(11, .int (x11 + nI 1)), (12, .int (nI 1)), (0, .ref o), (1, .int x1), (2, .int x2), (3, .int x3), (4, .int x4), (5, .int x5), (6, .int x6), (7, .int x7), (8, .int x8), (9, .int x9), (10, .int x10)] 12 (DX12_fillsFrom_1.at 28 rfl) rfl (by rw [ci_1]) (Nat.le_of_ble_eq_true rfl) rfl ?_
          refine gk_goto (pc := 156) 60 (DX12_fillsFrom_1.at 29 rfl) (by decide) ?_
          exact gk_pick (pc := 60) [(0, .ref o), (1, .int x1), (2, .int x2), (3, .int x3), (4, .int x4), (5, .int x5), (6, .int x6), (7, .int x7), (8, .int x8), (9, .int x9), (10, .int x10), (11, .int (x11 + nI 1))] [2, 3, 4, 5, 6, 7, 8, 9, 10, 11, 12, 0] rfl hv
        · replace hv := hv.2 c
          refine gk_aload_n (pc := 107) (DX12_fillsFrom_0.at 59 rfl) 1 rfl rfl ?_
          refine gk_iload_n (pc := 108) (DX12_fillsFrom_1.at 0 rfl) 2 rfl rfl ?_
          refine gk_iload (pc := 109) (DX12_fillsFrom_1.at 1 rfl) 12 rfl ?_
          obtain ⟨⟨fs2, q2⟩, hv⟩ := hv
          refine gk_vV (pc := 111) [.int x1, .int x11] [] (DX12_fillsFrom_1.at 2 rfl) cvX12_196 q2 rfl rfl (Nat.le_of_ble_eq_true rfl) (Nat.le_of_ble_eq_true rfl) (gk_Run.post (fun o h2 z => ?_) hv)
          obtain ⟨v2, rfl, hv⟩ := z
          refine gk_if_eq (pc := 114) 153 (DX12_fillsFrom_1.at 3 rfl) (by decide) (fun c => ?_) (fun c => ?_)
          · replace hv := hv.1 c
            refine gk_iinc (pc := 153) (x11 + nI 1) [(11, .int (x11 + nI 1)), (12, .int (nI 1)), (0, .ref o), (1, .int x1), (2, .int x2), (3, .int x3), (4, .int x4), (5, .int x5), (6, .int x6), (7, .int x7), (8, .int x8), (9, .int x9), (10, .int x10)] 12 (DX12_fillsFrom_1.at 28 rfl) rfl (by rw [ci_1]) (Nat.le_of_ble_eq_true rfl) rfl ?_
            refine gk_goto (pc := 156) 60 (DX12_fillsFrom_1.at 29 rfl) (by decide) ?_
            exact gk_pick (pc := 60) [(0, .ref o), (1, .int x1), (2, .int x2), (3, .int x3), (4, .int x4), (5, .int x5), (6, .int x6), (7, .int x7), (8, .int x8), (9, .int x9), (10, .int x10), (11, .int (x11 + nI 1))] [2, 3, 4, 5, 6, 7, 8, 9, 10, 11, 12, 0] rfl hv
          · replace hv := hv.2 c
            refine gk_aload_n (pc := 117) (DX12_fillsFrom_1.at 4 rfl) 1 rfl rfl ?_
            refine gk_iconst (pc := 118) (nI 5) (DX12_fillsFrom_1.at 5 rfl) ci_5 ?_
            refine gk_iload_n (pc := 119) (DX12_fillsFrom_1.at 6 rfl) 2 rfl rfl ?_
            refine gk_iload (pc := 120) (DX12_fillsFrom_1.at 7 rfl) 7 rfl ?_
            refine gk_iload (pc := 122) (DX12_fillsFrom_1.at 8 rfl) 12 rfl ?_
            obtain ⟨⟨fs3, q3⟩, hv⟩ := hv
            refine gk_vV (pc := 124) [.int (nI 5), .int x1, .int x6, .int x11] [] (DX12_fillsFrom_1.at 9 rfl) cvX12_141 q3 rfl rfl (Nat.le_of_ble_eq_true rfl) (Nat.le_of_ble_eq_true rfl) (gk_Run.post (fun o h3 z => ?_) hv)
            obtain ⟨rfl, hv⟩ := z
            refine gk_aload_n (pc := 127) (DX12_fillsFrom_1.at 10 rfl) 1 rfl rfl ?_
            refine gk_iload_n (pc := 128) (DX12_fillsFrom_1.at 11 rfl) 2 rfl rfl ?_
            refine gk_iconst (pc := 129) (nI 1) (DX12_fillsFrom_1.at 12 rfl) ci_1 ?_
            refine gk_isub (pc := 130) (DX12_fillsFrom_1.at 13 rfl) ?_
            refine gk_iload_n (pc := 131) (DX12_fillsFrom_1.at 14 rfl) 3 rfl rfl ?_
            refine gk_iload_n (pc := 132) (DX12_fillsFrom_1.at 15 rfl) 4 rfl rfl ?_
            refine gk_bipush (pc := 133) (nI 10) (DX12_fillsFrom_1.at 16 rfl) cb_10 ?_
            refine gk_idiv (pc := 135) (DX12_fillsFrom_1.at 17 rfl) (by decide) ?_
            refine gk_iload (pc := 136) (DX12_fillsFrom_1.at 18 rfl) 5 rfl ?_
            refine gk_iload_n (pc := 138) (DX12_fillsFrom_1.at 19 rfl) 4 rfl rfl ?_
            refine gk_iload (pc := 139) (DX12_fillsFrom_1.at 20 rfl) 12 rfl ?_
            refine gk_imul (pc := 141) (DX12_fillsFrom_1.at 21 rfl) ?_
            refine gk_iadd (pc := 142) (DX12_fillsFrom_1.at 22 rfl) ?_
            refine gk_iload (pc := 143) (DX12_fillsFrom_1.at 23 rfl) 6 rfl ?_
            obtain ⟨⟨fs4, q4⟩, hv⟩ := hv
            refine gk_vV (pc := 145) [.int (x1 - (nI 1)), .int x2, .int (x3 / (nI 10)), .int (x4 + (x3 * x11)), .int x5] [] (DX12_fillsFrom_1.at 24 rfl) cvX12_199 q4 rfl rfl (Nat.le_of_ble_eq_true rfl) (Nat.le_of_ble_eq_true rfl) (gk_Run.post (fun o h4 z => ?_) hv)
            obtain ⟨v4, rfl, hv⟩ := z
            refine gk_if_eq (pc := 148) 153 (DX12_fillsFrom_1.at 25 rfl) (by decide) (fun c => ?_) (fun c => ?_)
            · replace hv := hv.1 c
              refine gk_iinc (pc := 153) (x11 + nI 1) [(11, .int (x11 + nI 1)), (12, .int (nI 1)), (0, .ref o), (1, .int x1), (2, .int x2), (3, .int x3), (4, .int x4), (5, .int x5), (6, .int x6), (7, .int x7), (8, .int x8), (9, .int x9), (10, .int x10)] 12 (DX12_fillsFrom_1.at 28 rfl) rfl (by rw [ci_1]) (Nat.le_of_ble_eq_true rfl) rfl ?_
              refine gk_goto (pc := 156) 60 (DX12_fillsFrom_1.at 29 rfl) (by decide) ?_
              exact gk_pick (pc := 60) [(0, .ref o), (1, .int x1), (2, .int x2), (3, .int x3), (4, .int x4), (5, .int x5), (6, .int x6), (7, .int x7), (8, .int x8), (9, .int x9), (10, .int x10), (11, .int (x11 + nI 1))] [2, 3, 4, 5, 6, 7, 8, 9, 10, 11, 12, 0] rfl hv
            · replace hv := hv.2 c
              refine gk_iconst (pc := 151) (nI 1) (DX12_fillsFrom_1.at 26 rfl) ci_1 ?_
              exact gk_ireturn (pc := 152) .boolean (DX12_fillsFrom_1.at 27 rfl) rfl rfl ⟨_, rfl, hv⟩
      · replace hv := hv.2 c
        refine gk_iload (pc := 88) (DX12_fillsFrom_0.at 50 rfl) 11 rfl ?_
        refine gk_iload (pc := 90) (DX12_fillsFrom_0.at 51 rfl) 10 rfl ?_
        refine gk_icmp_ne (pc := 92) 99 (DX12_fillsFrom_0.at 52 rfl) (by decide) (fun c => ?_) (fun c => ?_)
        · replace hv := hv.1 c
          refine gk_iconst (pc := 99) (nI 0) (DX12_fillsFrom_0.at 55 rfl) ci_0 ?_
          refine gk_istore (pc := 100) [(12, .int (nI 0)), (0, .ref o), (1, .int x1), (2, .int x2), (3, .int x3), (4, .int x4), (5, .int x5), (6, .int x6), (7, .int x7), (8, .int x8), (9, .int x9), (10, .int x10), (11, .int x11)] (DX12_fillsFrom_0.at 56 rfl) (Nat.le_of_ble_eq_true rfl) rfl ?_
          refine gk_iload (pc := 102) (DX12_fillsFrom_0.at 57 rfl) 0 rfl ?_
          refine gk_if_eq (pc := 104) 153 (DX12_fillsFrom_0.at 58 rfl) (by decide) (fun c => ?_) (fun c => ?_)
          · replace hv := hv.1 c
            refine gk_iinc (pc := 153) (x11 + nI 1) [(11, .int (x11 + nI 1)), (12, .int (nI 0)), (0, .ref o), (1, .int x1), (2, .int x2), (3, .int x3), (4, .int x4), (5, .int x5), (6, .int x6), (7, .int x7), (8, .int x8), (9, .int x9), (10, .int x10)] 12 (DX12_fillsFrom_1.at 28 rfl) rfl (by rw [ci_1]) (Nat.le_of_ble_eq_true rfl) rfl ?_
            refine gk_goto (pc := 156) 60 (DX12_fillsFrom_1.at 29 rfl) (by decide) ?_
            exact gk_pick (pc := 60) [(0, .ref o), (1, .int x1), (2, .int x2), (3, .int x3), (4, .int x4), (5, .int x5), (6, .int x6), (7, .int x7), (8, .int x8), (9, .int x9), (10, .int x10), (11, .int (x11 + nI 1))] [2, 3, 4, 5, 6, 7, 8, 9, 10, 11, 12, 0] rfl hv
          · replace hv := hv.2 c
            refine gk_aload_n (pc := 107) (DX12_fillsFrom_0.at 59 rfl) 1 rfl rfl ?_
            refine gk_iload_n (pc := 108) (DX12_fillsFrom_1.at 0 rfl) 2 rfl rfl ?_
            refine gk_iload (pc := 109) (DX12_fillsFrom_1.at 1 rfl) 12 rfl ?_
            obtain ⟨⟨fs5, q5⟩, hv⟩ := hv
            refine gk_vV (pc := 111) [.int x1, .int x11] [] (DX12_fillsFrom_1.at 2 rfl) cvX12_196 q5 rfl rfl (Nat.le_of_ble_eq_true rfl) (Nat.le_of_ble_eq_true rfl) (gk_Run.post (fun o h5 z => ?_) hv)
            obtain ⟨v5, rfl, hv⟩ := z
            refine gk_if_eq (pc := 114) 153 (DX12_fillsFrom_1.at 3 rfl) (by decide) (fun c => ?_) (fun c => ?_)
            · replace hv := hv.1 c
              refine gk_iinc (pc := 153) (x11 + nI 1) [(11, .int (x11 + nI 1)), (12, .int (nI 0)), (0, .ref o), (1, .int x1), (2, .int x2), (3, .int x3), (4, .int x4), (5, .int x5), (6, .int x6), (7, .int x7), (8, .int x8), (9, .int x9), (10, .int x10)] 12 (DX12_fillsFrom_1.at 28 rfl) rfl (by rw [ci_1]) (Nat.le_of_ble_eq_true rfl) rfl ?_
              refine gk_goto (pc := 156) 60 (DX12_fillsFrom_1.at 29 rfl) (by decide) ?_
              exact gk_pick (pc := 60) [(0, .ref o), (1, .int x1), (2, .int x2), (3, .int x3), (4, .int x4), (5, .int x5), (6, .int x6), (7, .int x7), (8, .int x8), (9, .int x9), (10, .int x10), (11, .int (x11 + nI 1))] [2, 3, 4, 5, 6, 7, 8, 9, 10, 11, 12, 0] rfl hv
            · replace hv := hv.2 c
              refine gk_aload_n (pc := 117) (DX12_fillsFrom_1.at 4 rfl) 1 rfl rfl ?_
              refine gk_iconst (pc := 118) (nI 5) (DX12_fillsFrom_1.at 5 rfl) ci_5 ?_
              refine gk_iload_n (pc := 119) (DX12_fillsFrom_1.at 6 rfl) 2 rfl rfl ?_
              refine gk_iload (pc := 120) (DX12_fillsFrom_1.at 7 rfl) 7 rfl ?_
              refine gk_iload (pc := 122) (DX12_fillsFrom_1.at 8 rfl) 12 rfl ?_
              obtain ⟨⟨fs6, q6⟩, hv⟩ := hv
              refine gk_vV (pc := 124) [.int (nI 5), .int x1, .int x6, .int x11] [] (DX12_fillsFrom_1.at 9 rfl) cvX12_141 q6 rfl rfl (Nat.le_of_ble_eq_true rfl) (Nat.le_of_ble_eq_true rfl) (gk_Run.post (fun o h6 z => ?_) hv)
              obtain ⟨rfl, hv⟩ := z
              refine gk_aload_n (pc := 127) (DX12_fillsFrom_1.at 10 rfl) 1 rfl rfl ?_
              refine gk_iload_n (pc := 128) (DX12_fillsFrom_1.at 11 rfl) 2 rfl rfl ?_
              refine gk_iconst (pc := 129) (nI 1) (DX12_fillsFrom_1.at 12 rfl) ci_1 ?_
              refine gk_isub (pc := 130) (DX12_fillsFrom_1.at 13 rfl) ?_
              refine gk_iload_n (pc := 131) (DX12_fillsFrom_1.at 14 rfl) 3 rfl rfl ?_
              refine gk_iload_n (pc := 132) (DX12_fillsFrom_1.at 15 rfl) 4 rfl rfl ?_
              refine gk_bipush (pc := 133) (nI 10) (DX12_fillsFrom_1.at 16 rfl) cb_10 ?_
              refine gk_idiv (pc := 135) (DX12_fillsFrom_1.at 17 rfl) (by decide) ?_
              refine gk_iload (pc := 136) (DX12_fillsFrom_1.at 18 rfl) 5 rfl ?_
              refine gk_iload_n (pc := 138) (DX12_fillsFrom_1.at 19 rfl) 4 rfl rfl ?_
              refine gk_iload (pc := 139) (DX12_fillsFrom_1.at 20 rfl) 12 rfl ?_
              refine gk_imul (pc := 141) (DX12_fillsFrom_1.at 21 rfl) ?_
              refine gk_iadd (pc := 142) (DX12_fillsFrom_1.at 22 rfl) ?_
              refine gk_iload (pc := 143) (DX12_fillsFrom_1.at 23 rfl) 6 rfl ?_
              obtain ⟨⟨fs7, q7⟩, hv⟩ := hv
              refine gk_vV (pc := 145) [.int (x1 - (nI 1)), .int x2, .int (x3 / (nI 10)), .int (x4 + (x3 * x11)), .int x5] [] (DX12_fillsFrom_1.at 24 rfl) cvX12_199 q7 rfl rfl (Nat.le_of_ble_eq_true rfl) (Nat.le_of_ble_eq_true rfl) (gk_Run.post (fun o h7 z => ?_) hv)
              obtain ⟨v7, rfl, hv⟩ := z
              refine gk_if_eq (pc := 148) 153 (DX12_fillsFrom_1.at 25 rfl) (by decide) (fun c => ?_) (fun c => ?_)
              · replace hv := hv.1 c
                refine gk_iinc (pc := 153) (x11 + nI 1) [(11, .int (x11 + nI 1)), (12, .int (nI 0)), (0, .ref o), (1, .int x1), (2, .int x2), (3, .int x3), (4, .int x4), (5, .int x5), (6, .int x6), (7, .int x7), (8, .int x8), (9, .int x9), (10, .int x10)] 12 (DX12_fillsFrom_1.at 28 rfl) rfl (by rw [ci_1]) (Nat.le_of_ble_eq_true rfl) rfl ?_
                refine gk_goto (pc := 156) 60 (DX12_fillsFrom_1.at 29 rfl) (by decide) ?_
                exact gk_pick (pc := 60) [(0, .ref o), (1, .int x1), (2, .int x2), (3, .int x3), (4, .int x4), (5, .int x5), (6, .int x6), (7, .int x7), (8, .int x8), (9, .int x9), (10, .int x10), (11, .int (x11 + nI 1))] [2, 3, 4, 5, 6, 7, 8, 9, 10, 11, 12, 0] rfl hv
              · replace hv := hv.2 c
                refine gk_iconst (pc := 151) (nI 1) (DX12_fillsFrom_1.at 26 rfl) ci_1 ?_
                exact gk_ireturn (pc := 152) .boolean (DX12_fillsFrom_1.at 27 rfl) rfl rfl ⟨_, rfl, hv⟩
        · replace hv := hv.2 c
          refine gk_iconst (pc := 95) (nI 1) (DX12_fillsFrom_0.at 53 rfl) ci_1 ?_
          refine gk_goto (pc := 96) 100 (DX12_fillsFrom_0.at 54 rfl) (by decide) ?_
          refine gk_istore (pc := 100) [(12, .int (nI 1)), (0, .ref o), (1, .int x1), (2, .int x2), (3, .int x3), (4, .int x4), (5, .int x5), (6, .int x6), (7, .int x7), (8, .int x8), (9, .int x9), (10, .int x10), (11, .int x11)] (DX12_fillsFrom_0.at 56 rfl) (Nat.le_of_ble_eq_true rfl) rfl ?_
          refine gk_iload (pc := 102) (DX12_fillsFrom_0.at 57 rfl) 0 rfl ?_
          refine gk_if_eq (pc := 104) 153 (DX12_fillsFrom_0.at 58 rfl) (by decide) (fun c => ?_) (fun c => ?_)
          · replace hv := hv.1 c
            refine gk_iinc (pc := 153) (x11 + nI 1) [(11, .int (x11 + nI 1)), (12, .int (nI 1)), (0, .ref o), (1, .int x1), (2, .int x2), (3, .int x3), (4, .int x4), (5, .int x5), (6, .int x6), (7, .int x7), (8, .int x8), (9, .int x9), (10, .int x10)] 12 (DX12_fillsFrom_1.at 28 rfl) rfl (by rw [ci_1]) (Nat.le_of_ble_eq_true rfl) rfl ?_
            refine gk_goto (pc := 156) 60 (DX12_fillsFrom_1.at 29 rfl) (by decide) ?_
            exact gk_pick (pc := 60) [(0, .ref o), (1, .int x1), (2, .int x2), (3, .int x3), (4, .int x4), (5, .int x5), (6, .int x6), (7, .int x7), (8, .int x8), (9, .int x9), (10, .int x10), (11, .int (x11 + nI 1))] [2, 3, 4, 5, 6, 7, 8, 9, 10, 11, 12, 0] rfl hv
          · replace hv := hv.2 c
            refine gk_aload_n (pc := 107) (DX12_fillsFrom_0.at 59 rfl) 1 rfl rfl ?_
            refine gk_iload_n (pc := 108) (DX12_fillsFrom_1.at 0 rfl) 2 rfl rfl ?_
            refine gk_iload (pc := 109) (DX12_fillsFrom_1.at 1 rfl) 12 rfl ?_
            obtain ⟨⟨fs8, q8⟩, hv⟩ := hv
            refine gk_vV (pc := 111) [.int x1, .int x11] [] (DX12_fillsFrom_1.at 2 rfl) cvX12_196 q8 rfl rfl (Nat.le_of_ble_eq_true rfl) (Nat.le_of_ble_eq_true rfl) (gk_Run.post (fun o h8 z => ?_) hv)
            obtain ⟨v8, rfl, hv⟩ := z
            refine gk_if_eq (pc := 114) 153 (DX12_fillsFrom_1.at 3 rfl) (by decide) (fun c => ?_) (fun c => ?_)
            · replace hv := hv.1 c
              refine gk_iinc (pc := 153) (x11 + nI 1) [(11, .int (x11 + nI 1)), (12, .int (nI 1)), (0, .ref o), (1, .int x1), (2, .int x2), (3, .int x3), (4, .int x4), (5, .int x5), (6, .int x6), (7, .int x7), (8, .int x8), (9, .int x9), (10, .int x10)] 12 (DX12_fillsFrom_1.at 28 rfl) rfl (by rw [ci_1]) (Nat.le_of_ble_eq_true rfl) rfl ?_
              refine gk_goto (pc := 156) 60 (DX12_fillsFrom_1.at 29 rfl) (by decide) ?_
              exact gk_pick (pc := 60) [(0, .ref o), (1, .int x1), (2, .int x2), (3, .int x3), (4, .int x4), (5, .int x5), (6, .int x6), (7, .int x7), (8, .int x8), (9, .int x9), (10, .int x10), (11, .int (x11 + nI 1))] [2, 3, 4, 5, 6, 7, 8, 9, 10, 11, 12, 0] rfl hv
            · replace hv := hv.2 c
              refine gk_aload_n (pc := 117) (DX12_fillsFrom_1.at 4 rfl) 1 rfl rfl ?_
              refine gk_iconst (pc := 118) (nI 5) (DX12_fillsFrom_1.at 5 rfl) ci_5 ?_
              refine gk_iload_n (pc := 119) (DX12_fillsFrom_1.at 6 rfl) 2 rfl rfl ?_
              refine gk_iload (pc := 120) (DX12_fillsFrom_1.at 7 rfl) 7 rfl ?_
              refine gk_iload (pc := 122) (DX12_fillsFrom_1.at 8 rfl) 12 rfl ?_
              obtain ⟨⟨fs9, q9⟩, hv⟩ := hv
              refine gk_vV (pc := 124) [.int (nI 5), .int x1, .int x6, .int x11] [] (DX12_fillsFrom_1.at 9 rfl) cvX12_141 q9 rfl rfl (Nat.le_of_ble_eq_true rfl) (Nat.le_of_ble_eq_true rfl) (gk_Run.post (fun o h9 z => ?_) hv)
              obtain ⟨rfl, hv⟩ := z
              refine gk_aload_n (pc := 127) (DX12_fillsFrom_1.at 10 rfl) 1 rfl rfl ?_
              refine gk_iload_n (pc := 128) (DX12_fillsFrom_1.at 11 rfl) 2 rfl rfl ?_
              refine gk_iconst (pc := 129) (nI 1) (DX12_fillsFrom_1.at 12 rfl) ci_1 ?_
              refine gk_isub (pc := 130) (DX12_fillsFrom_1.at 13 rfl) ?_
              refine gk_iload_n (pc := 131) (DX12_fillsFrom_1.at 14 rfl) 3 rfl rfl ?_
              refine gk_iload_n (pc := 132) (DX12_fillsFrom_1.at 15 rfl) 4 rfl rfl ?_
              refine gk_bipush (pc := 133) (nI 10) (DX12_fillsFrom_1.at 16 rfl) cb_10 ?_
              refine gk_idiv (pc := 135) (DX12_fillsFrom_1.at 17 rfl) (by decide) ?_
              refine gk_iload (pc := 136) (DX12_fillsFrom_1.at 18 rfl) 5 rfl ?_
              refine gk_iload_n (pc := 138) (DX12_fillsFrom_1.at 19 rfl) 4 rfl rfl ?_
              refine gk_iload (pc := 139) (DX12_fillsFrom_1.at 20 rfl) 12 rfl ?_
              refine gk_imul (pc := 141) (DX12_fillsFrom_1.at 21 rfl) ?_
              refine gk_iadd (pc := 142) (DX12_fillsFrom_1.at 22 rfl) ?_
              refine gk_iload (pc := 143) (DX12_fillsFrom_1.at 23 rfl) 6 rfl ?_
              obtain ⟨⟨fs10, q10⟩, hv⟩ := hv
              refine gk_vV (pc := 145) [.int (x1 - (nI 1)), .int x2, .int (x3 / (nI 10)), .int (x4 + (x3 * x11)), .int x5] [] (DX12_fillsFrom_1.at 24 rfl) cvX12_199 q10 rfl rfl (Nat.le_of_ble_eq_true rfl) (Nat.le_of_ble_eq_true rfl) (gk_Run.post (fun o h10 z => ?_) hv)
              obtain ⟨v10, rfl, hv⟩ := z
              refine gk_if_eq (pc := 148) 153 (DX12_fillsFrom_1.at 25 rfl) (by decide) (fun c => ?_) (fun c => ?_)
              · replace hv := hv.1 c
                refine gk_iinc (pc := 153) (x11 + nI 1) [(11, .int (x11 + nI 1)), (12, .int (nI 1)), (0, .ref o), (1, .int x1), (2, .int x2), (3, .int x3), (4, .int x4), (5, .int x5), (6, .int x6), (7, .int x7), (8, .int x8), (9, .int x9), (10, .int x10)] 12 (DX12_fillsFrom_1.at 28 rfl) rfl (by rw [ci_1]) (Nat.le_of_ble_eq_true rfl) rfl ?_
                refine gk_goto (pc := 156) 60 (DX12_fillsFrom_1.at 29 rfl) (by decide) ?_
                exact gk_pick (pc := 60) [(0, .ref o), (1, .int x1), (2, .int x2), (3, .int x3), (4, .int x4), (5, .int x5), (6, .int x6), (7, .int x7), (8, .int x8), (9, .int x9), (10, .int x10), (11, .int (x11 + nI 1))] [2, 3, 4, 5, 6, 7, 8, 9, 10, 11, 12, 0] rfl hv
              · replace hv := hv.2 c
                refine gk_iconst (pc := 151) (nI 1) (DX12_fillsFrom_1.at 26 rfl) ci_1 ?_
                exact gk_ireturn (pc := 152) .boolean (DX12_fillsFrom_1.at 27 rfl) rfl rfl ⟨_, rfl, hv⟩
    · replace hv := hv.2 c
      refine gk_iload (pc := 75) (DX12_fillsFrom_0.at 44 rfl) 11 rfl ?_
      refine gk_iload (pc := 77) (DX12_fillsFrom_0.at 45 rfl) 9 rfl ?_
      refine gk_icmp_ne (pc := 79) 99 (DX12_fillsFrom_0.at 46 rfl) (by decide) (fun c => ?_) (fun c => ?_)
      · replace hv := hv.1 c
        refine gk_iconst (pc := 99) (nI 0) (DX12_fillsFrom_0.at 55 rfl) ci_0 ?_
        refine gk_istore (pc := 100) [(12, .int (nI 0)), (0, .ref o), (1, .int x1), (2, .int x2), (3, .int x3), (4, .int x4), (5, .int x5), (6, .int x6), (7, .int x7), (8, .int x8), (9, .int x9), (10, .int x10), (11, .int x11)] (DX12_fillsFrom_0.at 56 rfl) (Nat.le_of_ble_eq_true rfl) rfl ?_
        refine gk_iload (pc := 102) (DX12_fillsFrom_0.at 57 rfl) 0 rfl ?_
        refine gk_if_eq (pc := 104) 153 (DX12_fillsFrom_0.at 58 rfl) (by decide) (fun c => ?_) (fun c => ?_)
        · replace hv := hv.1 c
          refine gk_iinc (pc := 153) (x11 + nI 1) [(11, .int (x11 + nI 1)), (12, .int (nI 0)), (0, .ref o), (1, .int x1), (2, .int x2), (3, .int x3), (4, .int x4), (5, .int x5), (6, .int x6), (7, .int x7), (8, .int x8), (9, .int x9), (10, .int x10)] 12 (DX12_fillsFrom_1.at 28 rfl) rfl (by rw [ci_1]) (Nat.le_of_ble_eq_true rfl) rfl ?_
          refine gk_goto (pc := 156) 60 (DX12_fillsFrom_1.at 29 rfl) (by decide) ?_
          exact gk_pick (pc := 60) [(0, .ref o), (1, .int x1), (2, .int x2), (3, .int x3), (4, .int x4), (5, .int x5), (6, .int x6), (7, .int x7), (8, .int x8), (9, .int x9), (10, .int x10), (11, .int (x11 + nI 1))] [2, 3, 4, 5, 6, 7, 8, 9, 10, 11, 12, 0] rfl hv
        · replace hv := hv.2 c
          refine gk_aload_n (pc := 107) (DX12_fillsFrom_0.at 59 rfl) 1 rfl rfl ?_
          refine gk_iload_n (pc := 108) (DX12_fillsFrom_1.at 0 rfl) 2 rfl rfl ?_
          refine gk_iload (pc := 109) (DX12_fillsFrom_1.at 1 rfl) 12 rfl ?_
          obtain ⟨⟨fs11, q11⟩, hv⟩ := hv
          refine gk_vV (pc := 111) [.int x1, .int x11] [] (DX12_fillsFrom_1.at 2 rfl) cvX12_196 q11 rfl rfl (Nat.le_of_ble_eq_true rfl) (Nat.le_of_ble_eq_true rfl) (gk_Run.post (fun o h11 z => ?_) hv)
          obtain ⟨v11, rfl, hv⟩ := z
          refine gk_if_eq (pc := 114) 153 (DX12_fillsFrom_1.at 3 rfl) (by decide) (fun c => ?_) (fun c => ?_)
          · replace hv := hv.1 c
            refine gk_iinc (pc := 153) (x11 + nI 1) [(11, .int (x11 + nI 1)), (12, .int (nI 0)), (0, .ref o), (1, .int x1), (2, .int x2), (3, .int x3), (4, .int x4), (5, .int x5), (6, .int x6), (7, .int x7), (8, .int x8), (9, .int x9), (10, .int x10)] 12 (DX12_fillsFrom_1.at 28 rfl) rfl (by rw [ci_1]) (Nat.le_of_ble_eq_true rfl) rfl ?_
            refine gk_goto (pc := 156) 60 (DX12_fillsFrom_1.at 29 rfl) (by decide) ?_
            exact gk_pick (pc := 60) [(0, .ref o), (1, .int x1), (2, .int x2), (3, .int x3), (4, .int x4), (5, .int x5), (6, .int x6), (7, .int x7), (8, .int x8), (9, .int x9), (10, .int x10), (11, .int (x11 + nI 1))] [2, 3, 4, 5, 6, 7, 8, 9, 10, 11, 12, 0] rfl hv
          · replace hv := hv.2 c
            refine gk_aload_n (pc := 117) (DX12_fillsFrom_1.at 4 rfl) 1 rfl rfl ?_
            refine gk_iconst (pc := 118) (nI 5) (DX12_fillsFrom_1.at 5 rfl) ci_5 ?_
            refine gk_iload_n (pc := 119) (DX12_fillsFrom_1.at 6 rfl) 2 rfl rfl ?_
            refine gk_iload (pc := 120) (DX12_fillsFrom_1.at 7 rfl) 7 rfl ?_
            refine gk_iload (pc := 122) (DX12_fillsFrom_1.at 8 rfl) 12 rfl ?_
            obtain ⟨⟨fs12, q12⟩, hv⟩ := hv
            refine gk_vV (pc := 124) [.int (nI 5), .int x1, .int x6, .int x11] [] (DX12_fillsFrom_1.at 9 rfl) cvX12_141 q12 rfl rfl (Nat.le_of_ble_eq_true rfl) (Nat.le_of_ble_eq_true rfl) (gk_Run.post (fun o h12 z => ?_) hv)
            obtain ⟨rfl, hv⟩ := z
            refine gk_aload_n (pc := 127) (DX12_fillsFrom_1.at 10 rfl) 1 rfl rfl ?_
            refine gk_iload_n (pc := 128) (DX12_fillsFrom_1.at 11 rfl) 2 rfl rfl ?_
            refine gk_iconst (pc := 129) (nI 1) (DX12_fillsFrom_1.at 12 rfl) ci_1 ?_
            refine gk_isub (pc := 130) (DX12_fillsFrom_1.at 13 rfl) ?_
            refine gk_iload_n (pc := 131) (DX12_fillsFrom_1.at 14 rfl) 3 rfl rfl ?_
            refine gk_iload_n (pc := 132) (DX12_fillsFrom_1.at 15 rfl) 4 rfl rfl ?_
            refine gk_bipush (pc := 133) (nI 10) (DX12_fillsFrom_1.at 16 rfl) cb_10 ?_
            refine gk_idiv (pc := 135) (DX12_fillsFrom_1.at 17 rfl) (by decide) ?_
            refine gk_iload (pc := 136) (DX12_fillsFrom_1.at 18 rfl) 5 rfl ?_
            refine gk_iload_n (pc := 138) (DX12_fillsFrom_1.at 19 rfl) 4 rfl rfl ?_
            refine gk_iload (pc := 139) (DX12_fillsFrom_1.at 20 rfl) 12 rfl ?_
            refine gk_imul (pc := 141) (DX12_fillsFrom_1.at 21 rfl) ?_
            refine gk_iadd (pc := 142) (DX12_fillsFrom_1.at 22 rfl) ?_
            refine gk_iload (pc := 143) (DX12_fillsFrom_1.at 23 rfl) 6 rfl ?_
            obtain ⟨⟨fs13, q13⟩, hv⟩ := hv
            refine gk_vV (pc := 145) [.int (x1 - (nI 1)), .int x2, .int (x3 / (nI 10)), .int (x4 + (x3 * x11)), .int x5] [] (DX12_fillsFrom_1.at 24 rfl) cvX12_199 q13 rfl rfl (Nat.le_of_ble_eq_true rfl) (Nat.le_of_ble_eq_true rfl) (gk_Run.post (fun o h13 z => ?_) hv)
            obtain ⟨v13, rfl, hv⟩ := z
            refine gk_if_eq (pc := 148) 153 (DX12_fillsFrom_1.at 25 rfl) (by decide) (fun c => ?_) (fun c => ?_)
            · replace hv := hv.1 c
              refine gk_iinc (pc := 153) (x11 + nI 1) [(11, .int (x11 + nI 1)), (12, .int (nI 0)), (0, .ref o), (1, .int x1), (2, .int x2), (3, .int x3), (4, .int x4), (5, .int x5), (6, .int x6), (7, .int x7), (8, .int x8), (9, .int x9), (10, .int x10)] 12 (DX12_fillsFrom_1.at 28 rfl) rfl (by rw [ci_1]) (Nat.le_of_ble_eq_true rfl) rfl ?_
              refine gk_goto (pc := 156) 60 (DX12_fillsFrom_1.at 29 rfl) (by decide) ?_
              exact gk_pick (pc := 60) [(0, .ref o), (1, .int x1), (2, .int x2), (3, .int x3), (4, .int x4), (5, .int x5), (6, .int x6), (7, .int x7), (8, .int x8), (9, .int x9), (10, .int x10), (11, .int (x11 + nI 1))] [2, 3, 4, 5, 6, 7, 8, 9, 10, 11, 12, 0] rfl hv
            · replace hv := hv.2 c
              refine gk_iconst (pc := 151) (nI 1) (DX12_fillsFrom_1.at 26 rfl) ci_1 ?_
              exact gk_ireturn (pc := 152) .boolean (DX12_fillsFrom_1.at 27 rfl) rfl rfl ⟨_, rfl, hv⟩
      · replace hv := hv.2 c
        refine gk_iload_n (pc := 82) (DX12_fillsFrom_0.at 47 rfl) 1 rfl rfl ?_
        refine gk_iload (pc := 83) (DX12_fillsFrom_0.at 48 rfl) 8 rfl ?_
        refine gk_icmp_ne (pc := 85) 95 (DX12_fillsFrom_0.at 49 rfl) (by decide) (fun c => ?_) (fun c => ?_)
        · replace hv := hv.1 c
          refine gk_iconst (pc := 95) (nI 1) (DX12_fillsFrom_0.at 53 rfl) ci_1 ?_
          refine gk_goto (pc := 96) 100 (DX12_fillsFrom_0.at 54 rfl) (by decide) ?_
          refine gk_istore (pc := 100) [(12, .int (nI 1)), (0, .ref o), (1, .int x1), (2, .int x2), (3, .int x3), (4, .int x4), (5, .int x5), (6, .int x6), (7, .int x7), (8, .int x8), (9, .int x9), (10, .int x10), (11, .int x11)] (DX12_fillsFrom_0.at 56 rfl) (Nat.le_of_ble_eq_true rfl) rfl ?_
          refine gk_iload (pc := 102) (DX12_fillsFrom_0.at 57 rfl) 0 rfl ?_
          refine gk_if_eq (pc := 104) 153 (DX12_fillsFrom_0.at 58 rfl) (by decide) (fun c => ?_) (fun c => ?_)
          · replace hv := hv.1 c
            refine gk_iinc (pc := 153) (x11 + nI 1) [(11, .int (x11 + nI 1)), (12, .int (nI 1)), (0, .ref o), (1, .int x1), (2, .int x2), (3, .int x3), (4, .int x4), (5, .int x5), (6, .int x6), (7, .int x7), (8, .int x8), (9, .int x9), (10, .int x10)] 12 (DX12_fillsFrom_1.at 28 rfl) rfl (by rw [ci_1]) (Nat.le_of_ble_eq_true rfl) rfl ?_
            refine gk_goto (pc := 156) 60 (DX12_fillsFrom_1.at 29 rfl) (by decide) ?_
            exact gk_pick (pc := 60) [(0, .ref o), (1, .int x1), (2, .int x2), (3, .int x3), (4, .int x4), (5, .int x5), (6, .int x6), (7, .int x7), (8, .int x8), (9, .int x9), (10, .int x10), (11, .int (x11 + nI 1))] [2, 3, 4, 5, 6, 7, 8, 9, 10, 11, 12, 0] rfl hv
          · replace hv := hv.2 c
            refine gk_aload_n (pc := 107) (DX12_fillsFrom_0.at 59 rfl) 1 rfl rfl ?_
            refine gk_iload_n (pc := 108) (DX12_fillsFrom_1.at 0 rfl) 2 rfl rfl ?_
            refine gk_iload (pc := 109) (DX12_fillsFrom_1.at 1 rfl) 12 rfl ?_
            obtain ⟨⟨fs14, q14⟩, hv⟩ := hv
            refine gk_vV (pc := 111) [.int x1, .int x11] [] (DX12_fillsFrom_1.at 2 rfl) cvX12_196 q14 rfl rfl (Nat.le_of_ble_eq_true rfl) (Nat.le_of_ble_eq_true rfl) (gk_Run.post (fun o h14 z => ?_) hv)
            obtain ⟨v14, rfl, hv⟩ := z
            refine gk_if_eq (pc := 114) 153 (DX12_fillsFrom_1.at 3 rfl) (by decide) (fun c => ?_) (fun c => ?_)
            · replace hv := hv.1 c
              refine gk_iinc (pc := 153) (x11 + nI 1) [(11, .int (x11 + nI 1)), (12, .int (nI 1)), (0, .ref o), (1, .int x1), (2, .int x2), (3, .int x3), (4, .int x4), (5, .int x5), (6, .int x6), (7, .int x7), (8, .int x8), (9, .int x9), (10, .int x10)] 12 (DX12_fillsFrom_1.at 28 rfl) rfl (by rw [ci_1]) (Nat.le_of_ble_eq_true rfl) rfl ?_
              refine gk_goto (pc := 156) 60 (DX12_fillsFrom_1.at 29 rfl) (by decide) ?_
              exact gk_pick (pc := 60) [(0, .ref o), (1, .int x1), (2, .int x2), (3, .int x3), (4, .int x4), (5, .int x5), (6, .int x6), (7, .int x7), (8, .int x8), (9, .int x9), (10, .int x10), (11, .int (x11 + nI 1))] [2, 3, 4, 5, 6, 7, 8, 9, 10, 11, 12, 0] rfl hv
            · replace hv := hv.2 c
              refine gk_aload_n (pc := 117) (DX12_fillsFrom_1.at 4 rfl) 1 rfl rfl ?_
              refine gk_iconst (pc := 118) (nI 5) (DX12_fillsFrom_1.at 5 rfl) ci_5 ?_
              refine gk_iload_n (pc := 119) (DX12_fillsFrom_1.at 6 rfl) 2 rfl rfl ?_
              refine gk_iload (pc := 120) (DX12_fillsFrom_1.at 7 rfl) 7 rfl ?_
              refine gk_iload (pc := 122) (DX12_fillsFrom_1.at 8 rfl) 12 rfl ?_
              obtain ⟨⟨fs15, q15⟩, hv⟩ := hv
              refine gk_vV (pc := 124) [.int (nI 5), .int x1, .int x6, .int x11] [] (DX12_fillsFrom_1.at 9 rfl) cvX12_141 q15 rfl rfl (Nat.le_of_ble_eq_true rfl) (Nat.le_of_ble_eq_true rfl) (gk_Run.post (fun o h15 z => ?_) hv)
              obtain ⟨rfl, hv⟩ := z
              refine gk_aload_n (pc := 127) (DX12_fillsFrom_1.at 10 rfl) 1 rfl rfl ?_
              refine gk_iload_n (pc := 128) (DX12_fillsFrom_1.at 11 rfl) 2 rfl rfl ?_
              refine gk_iconst (pc := 129) (nI 1) (DX12_fillsFrom_1.at 12 rfl) ci_1 ?_
              refine gk_isub (pc := 130) (DX12_fillsFrom_1.at 13 rfl) ?_
              refine gk_iload_n (pc := 131) (DX12_fillsFrom_1.at 14 rfl) 3 rfl rfl ?_
              refine gk_iload_n (pc := 132) (DX12_fillsFrom_1.at 15 rfl) 4 rfl rfl ?_
              refine gk_bipush (pc := 133) (nI 10) (DX12_fillsFrom_1.at 16 rfl) cb_10 ?_
              refine gk_idiv (pc := 135) (DX12_fillsFrom_1.at 17 rfl) (by decide) ?_
              refine gk_iload (pc := 136) (DX12_fillsFrom_1.at 18 rfl) 5 rfl ?_
              refine gk_iload_n (pc := 138) (DX12_fillsFrom_1.at 19 rfl) 4 rfl rfl ?_
              refine gk_iload (pc := 139) (DX12_fillsFrom_1.at 20 rfl) 12 rfl ?_
              refine gk_imul (pc := 141) (DX12_fillsFrom_1.at 21 rfl) ?_
              refine gk_iadd (pc := 142) (DX12_fillsFrom_1.at 22 rfl) ?_
              refine gk_iload (pc := 143) (DX12_fillsFrom_1.at 23 rfl) 6 rfl ?_
              obtain ⟨⟨fs16, q16⟩, hv⟩ := hv
              refine gk_vV (pc := 145) [.int (x1 - (nI 1)), .int x2, .int (x3 / (nI 10)), .int (x4 + (x3 * x11)), .int x5] [] (DX12_fillsFrom_1.at 24 rfl) cvX12_199 q16 rfl rfl (Nat.le_of_ble_eq_true rfl) (Nat.le_of_ble_eq_true rfl) (gk_Run.post (fun o h16 z => ?_) hv)
              obtain ⟨v16, rfl, hv⟩ := z
              refine gk_if_eq (pc := 148) 153 (DX12_fillsFrom_1.at 25 rfl) (by decide) (fun c => ?_) (fun c => ?_)
              · replace hv := hv.1 c
                refine gk_iinc (pc := 153) (x11 + nI 1) [(11, .int (x11 + nI 1)), (12, .int (nI 1)), (0, .ref o), (1, .int x1), (2, .int x2), (3, .int x3), (4, .int x4), (5, .int x5), (6, .int x6), (7, .int x7), (8, .int x8), (9, .int x9), (10, .int x10)] 12 (DX12_fillsFrom_1.at 28 rfl) rfl (by rw [ci_1]) (Nat.le_of_ble_eq_true rfl) rfl ?_
                refine gk_goto (pc := 156) 60 (DX12_fillsFrom_1.at 29 rfl) (by decide) ?_
                exact gk_pick (pc := 60) [(0, .ref o), (1, .int x1), (2, .int x2), (3, .int x3), (4, .int x4), (5, .int x5), (6, .int x6), (7, .int x7), (8, .int x8), (9, .int x9), (10, .int x10), (11, .int (x11 + nI 1))] [2, 3, 4, 5, 6, 7, 8, 9, 10, 11, 12, 0] rfl hv
              · replace hv := hv.2 c
                refine gk_iconst (pc := 151) (nI 1) (DX12_fillsFrom_1.at 26 rfl) ci_1 ?_
                exact gk_ireturn (pc := 152) .boolean (DX12_fillsFrom_1.at 27 rfl) rfl rfl ⟨_, rfl, hv⟩
        · replace hv := hv.2 c
          refine gk_iload (pc := 88) (DX12_fillsFrom_0.at 50 rfl) 11 rfl ?_
          refine gk_iload (pc := 90) (DX12_fillsFrom_0.at 51 rfl) 10 rfl ?_
          refine gk_icmp_ne (pc := 92) 99 (DX12_fillsFrom_0.at 52 rfl) (by decide) (fun c => ?_) (fun c => ?_)
          · replace hv := hv.1 c
            refine gk_iconst (pc := 99) (nI 0) (DX12_fillsFrom_0.at 55 rfl) ci_0 ?_
            refine gk_istore (pc := 100) [(12, .int (nI 0)), (0, .ref o), (1, .int x1), (2, .int x2), (3, .int x3), (4, .int x4), (5, .int x5), (6, .int x6), (7, .int x7), (8, .int x8), (9, .int x9), (10, .int x10), (11, .int x11)] (DX12_fillsFrom_0.at 56 rfl) (Nat.le_of_ble_eq_true rfl) rfl ?_
            refine gk_iload (pc := 102) (DX12_fillsFrom_0.at 57 rfl) 0 rfl ?_
            refine gk_if_eq (pc := 104) 153 (DX12_fillsFrom_0.at 58 rfl) (by decide) (fun c => ?_) (fun c => ?_)
            · replace hv := hv.1 c
              refine gk_iinc (pc := 153) (x11 + nI 1) [(11, .int (x11 + nI 1)), (12, .int (nI 0)), (0, .ref o), (1, .int x1), (2, .int x2), (3, .int x3), (4, .int x4), (5, .int x5), (6, .int x6), (7, .int x7), (8, .int x8), (9, .int x9), (10, .int x10)] 12 (DX12_fillsFrom_1.at 28 rfl) rfl (by rw [ci_1]) (Nat.le_of_ble_eq_true rfl) rfl ?_
              refine gk_goto (pc := 156) 60 (DX12_fillsFrom_1.at 29 rfl) (by decide) ?_
              exact gk_pick (pc := 60) [(0, .ref o), (1, .int x1), (2, .int x2), (3, .int x3), (4, .int x4), (5, .int x5), (6, .int x6), (7, .int x7), (8, .int x8), (9, .int x9), (10, .int x10), (11, .int (x11 + nI 1))] [2, 3, 4, 5, 6, 7, 8, 9, 10, 11, 12, 0] rfl hv
            · replace hv := hv.2 c
              refine gk_aload_n (pc := 107) (DX12_fillsFrom_0.at 59 rfl) 1 rfl rfl ?_
              refine gk_iload_n (pc := 108) (DX12_fillsFrom_1.at 0 rfl) 2 rfl rfl ?_
              refine gk_iload (pc := 109) (DX12_fillsFrom_1.at 1 rfl) 12 rfl ?_
              obtain ⟨⟨fs17, q17⟩, hv⟩ := hv
              refine gk_vV (pc := 111) [.int x1, .int x11] [] (DX12_fillsFrom_1.at 2 rfl) cvX12_196 q17 rfl rfl (Nat.le_of_ble_eq_true rfl) (Nat.le_of_ble_eq_true rfl) (gk_Run.post (fun o h17 z => ?_) hv)
              obtain ⟨v17, rfl, hv⟩ := z
              refine gk_if_eq (pc := 114) 153 (DX12_fillsFrom_1.at 3 rfl) (by decide) (fun c => ?_) (fun c => ?_)
              · replace hv := hv.1 c
                refine gk_iinc (pc := 153) (x11 + nI 1) [(11, .int (x11 + nI 1)), (12, .int (nI 0)), (0, .ref o), (1, .int x1), (2, .int x2), (3, .int x3), (4, .int x4), (5, .int x5), (6, .int x6), (7, .int x7), (8, .int x8), (9, .int x9), (10, .int x10)] 12 (DX12_fillsFrom_1.at 28 rfl) rfl (by rw [ci_1]) (Nat.le_of_ble_eq_true rfl) rfl ?_
                refine gk_goto (pc := 156) 60 (DX12_fillsFrom_1.at 29 rfl) (by decide) ?_
                exact gk_pick (pc := 60) [(0, .ref o), (1, .int x1), (2, .int x2), (3, .int x3), (4, .int x4), (5, .int x5), (6, .int x6), (7, .int x7), (8, .int x8), (9, .int x9), (10, .int x10), (11, .int (x11 + nI 1))] [2, 3, 4, 5, 6, 7, 8, 9, 10, 11, 12, 0] rfl hv
              · replace hv := hv.2 c
                refine gk_aload_n (pc := 117) (DX12_fillsFrom_1.at 4 rfl) 1 rfl rfl ?_
                refine gk_iconst (pc := 118) (nI 5) (DX12_fillsFrom_1.at 5 rfl) ci_5 ?_
                refine gk_iload_n (pc := 119) (DX12_fillsFrom_1.at 6 rfl) 2 rfl rfl ?_
                refine gk_iload (pc := 120) (DX12_fillsFrom_1.at 7 rfl) 7 rfl ?_
                refine gk_iload (pc := 122) (DX12_fillsFrom_1.at 8 rfl) 12 rfl ?_
                obtain ⟨⟨fs18, q18⟩, hv⟩ := hv
                refine gk_vV (pc := 124) [.int (nI 5), .int x1, .int x6, .int x11] [] (DX12_fillsFrom_1.at 9 rfl) cvX12_141 q18 rfl rfl (Nat.le_of_ble_eq_true rfl) (Nat.le_of_ble_eq_true rfl) (gk_Run.post (fun o h18 z => ?_) hv)
                obtain ⟨rfl, hv⟩ := z
                refine gk_aload_n (pc := 127) (DX12_fillsFrom_1.at 10 rfl) 1 rfl rfl ?_
                refine gk_iload_n (pc := 128) (DX12_fillsFrom_1.at 11 rfl) 2 rfl rfl ?_
                refine gk_iconst (pc := 129) (nI 1) (DX12_fillsFrom_1.at 12 rfl) ci_1 ?_
                refine gk_isub (pc := 130) (DX12_fillsFrom_1.at 13 rfl) ?_
                refine gk_iload_n (pc := 131) (DX12_fillsFrom_1.at 14 rfl) 3 rfl rfl ?_
                refine gk_iload_n (pc := 132) (DX12_fillsFrom_1.at 15 rfl) 4 rfl rfl ?_
                refine gk_bipush (pc := 133) (nI 10) (DX12_fillsFrom_1.at 16 rfl) cb_10 ?_
                refine gk_idiv (pc := 135) (DX12_fillsFrom_1.at 17 rfl) (by decide) ?_
                refine gk_iload (pc := 136) (DX12_fillsFrom_1.at 18 rfl) 5 rfl ?_
                refine gk_iload_n (pc := 138) (DX12_fillsFrom_1.at 19 rfl) 4 rfl rfl ?_
                refine gk_iload (pc := 139) (DX12_fillsFrom_1.at 20 rfl) 12 rfl ?_
                refine gk_imul (pc := 141) (DX12_fillsFrom_1.at 21 rfl) ?_
                refine gk_iadd (pc := 142) (DX12_fillsFrom_1.at 22 rfl) ?_
                refine gk_iload (pc := 143) (DX12_fillsFrom_1.at 23 rfl) 6 rfl ?_
                obtain ⟨⟨fs19, q19⟩, hv⟩ := hv
                refine gk_vV (pc := 145) [.int (x1 - (nI 1)), .int x2, .int (x3 / (nI 10)), .int (x4 + (x3 * x11)), .int x5] [] (DX12_fillsFrom_1.at 24 rfl) cvX12_199 q19 rfl rfl (Nat.le_of_ble_eq_true rfl) (Nat.le_of_ble_eq_true rfl) (gk_Run.post (fun o h19 z => ?_) hv)
                obtain ⟨v19, rfl, hv⟩ := z
                refine gk_if_eq (pc := 148) 153 (DX12_fillsFrom_1.at 25 rfl) (by decide) (fun c => ?_) (fun c => ?_)
                · replace hv := hv.1 c
                  refine gk_iinc (pc := 153) (x11 + nI 1) [(11, .int (x11 + nI 1)), (12, .int (nI 0)), (0, .ref o), (1, .int x1), (2, .int x2), (3, .int x3), (4, .int x4), (5, .int x5), (6, .int x6), (7, .int x7), (8, .int x8), (9, .int x9), (10, .int x10)] 12 (DX12_fillsFrom_1.at 28 rfl) rfl (by rw [ci_1]) (Nat.le_of_ble_eq_true rfl) rfl ?_
                  refine gk_goto (pc := 156) 60 (DX12_fillsFrom_1.at 29 rfl) (by decide) ?_
                  exact gk_pick (pc := 60) [(0, .ref o), (1, .int x1), (2, .int x2), (3, .int x3), (4, .int x4), (5, .int x5), (6, .int x6), (7, .int x7), (8, .int x8), (9, .int x9), (10, .int x10), (11, .int (x11 + nI 1))] [2, 3, 4, 5, 6, 7, 8, 9, 10, 11, 12, 0] rfl hv
                · replace hv := hv.2 c
                  refine gk_iconst (pc := 151) (nI 1) (DX12_fillsFrom_1.at 26 rfl) ci_1 ?_
                  exact gk_ireturn (pc := 152) .boolean (DX12_fillsFrom_1.at 27 rfl) rfl rfl ⟨_, rfl, hv⟩
          · replace hv := hv.2 c
            refine gk_iconst (pc := 95) (nI 1) (DX12_fillsFrom_0.at 53 rfl) ci_1 ?_
            refine gk_goto (pc := 96) 100 (DX12_fillsFrom_0.at 54 rfl) (by decide) ?_
            refine gk_istore (pc := 100) [(12, .int (nI 1)), (0, .ref o), (1, .int x1), (2, .int x2), (3, .int x3), (4, .int x4), (5, .int x5), (6, .int x6), (7, .int x7), (8, .int x8), (9, .int x9), (10, .int x10), (11, .int x11)] (DX12_fillsFrom_0.at 56 rfl) (Nat.le_of_ble_eq_true rfl) rfl ?_
            refine gk_iload (pc := 102) (DX12_fillsFrom_0.at 57 rfl) 0 rfl ?_
            refine gk_if_eq (pc := 104) 153 (DX12_fillsFrom_0.at 58 rfl) (by decide) (fun c => ?_) (fun c => ?_)
            · replace hv := hv.1 c
              refine gk_iinc (pc := 153) (x11 + nI 1) [(11, .int (x11 + nI 1)), (12, .int (nI 1)), (0, .ref o), (1, .int x1), (2, .int x2), (3, .int x3), (4, .int x4), (5, .int x5), (6, .int x6), (7, .int x7), (8, .int x8), (9, .int x9), (10, .int x10)] 12 (DX12_fillsFrom_1.at 28 rfl) rfl (by rw [ci_1]) (Nat.le_of_ble_eq_true rfl) rfl ?_
              refine gk_goto (pc := 156) 60 (DX12_fillsFrom_1.at 29 rfl) (by decide) ?_
              exact gk_pick (pc := 60) [(0, .ref o), (1, .int x1), (2, .int x2), (3, .int x3), (4, .int x4), (5, .int x5), (6, .int x6), (7, .int x7), (8, .int x8), (9, .int x9), (10, .int x10), (11, .int (x11 + nI 1))] [2, 3, 4, 5, 6, 7, 8, 9, 10, 11, 12, 0] rfl hv
            · replace hv := hv.2 c
              refine gk_aload_n (pc := 107) (DX12_fillsFrom_0.at 59 rfl) 1 rfl rfl ?_
              refine gk_iload_n (pc := 108) (DX12_fillsFrom_1.at 0 rfl) 2 rfl rfl ?_
              refine gk_iload (pc := 109) (DX12_fillsFrom_1.at 1 rfl) 12 rfl ?_
              obtain ⟨⟨fs20, q20⟩, hv⟩ := hv
              refine gk_vV (pc := 111) [.int x1, .int x11] [] (DX12_fillsFrom_1.at 2 rfl) cvX12_196 q20 rfl rfl (Nat.le_of_ble_eq_true rfl) (Nat.le_of_ble_eq_true rfl) (gk_Run.post (fun o h20 z => ?_) hv)
              obtain ⟨v20, rfl, hv⟩ := z
              refine gk_if_eq (pc := 114) 153 (DX12_fillsFrom_1.at 3 rfl) (by decide) (fun c => ?_) (fun c => ?_)
              · replace hv := hv.1 c
                refine gk_iinc (pc := 153) (x11 + nI 1) [(11, .int (x11 + nI 1)), (12, .int (nI 1)), (0, .ref o), (1, .int x1), (2, .int x2), (3, .int x3), (4, .int x4), (5, .int x5), (6, .int x6), (7, .int x7), (8, .int x8), (9, .int x9), (10, .int x10)] 12 (DX12_fillsFrom_1.at 28 rfl) rfl (by rw [ci_1]) (Nat.le_of_ble_eq_true rfl) rfl ?_
                refine gk_goto (pc := 156) 60 (DX12_fillsFrom_1.at 29 rfl) (by decide) ?_
                exact gk_pick (pc := 60) [(0, .ref o), (1, .int x1), (2, .int x2), (3, .int x3), (4, .int x4), (5, .int x5), (6, .int x6), (7, .int x7), (8, .int x8), (9, .int x9), (10, .int x10), (11, .int (x11 + nI 1))] [2, 3, 4, 5, 6, 7, 8, 9, 10, 11, 12, 0] rfl hv
              · replace hv := hv.2 c
                refine gk_aload_n (pc := 117) (DX12_fillsFrom_1.at 4 rfl) 1 rfl rfl ?_
                refine gk_iconst (pc := 118) (nI 5) (DX12_fillsFrom_1.at 5 rfl) ci_5 ?_
                refine gk_iload_n (pc := 119) (DX12_fillsFrom_1.at 6 rfl) 2 rfl rfl ?_
                refine gk_iload (pc := 120) (DX12_fillsFrom_1.at 7 rfl) 7 rfl ?_
                refine gk_iload (pc := 122) (DX12_fillsFrom_1.at 8 rfl) 12 rfl ?_
                obtain ⟨⟨fs21, q21⟩, hv⟩ := hv
                refine gk_vV (pc := 124) [.int (nI 5), .int x1, .int x6, .int x11] [] (DX12_fillsFrom_1.at 9 rfl) cvX12_141 q21 rfl rfl (Nat.le_of_ble_eq_true rfl) (Nat.le_of_ble_eq_true rfl) (gk_Run.post (fun o h21 z => ?_) hv)
                obtain ⟨rfl, hv⟩ := z
                refine gk_aload_n (pc := 127) (DX12_fillsFrom_1.at 10 rfl) 1 rfl rfl ?_
                refine gk_iload_n (pc := 128) (DX12_fillsFrom_1.at 11 rfl) 2 rfl rfl ?_
                refine gk_iconst (pc := 129) (nI 1) (DX12_fillsFrom_1.at 12 rfl) ci_1 ?_
                refine gk_isub (pc := 130) (DX12_fillsFrom_1.at 13 rfl) ?_
                refine gk_iload_n (pc := 131) (DX12_fillsFrom_1.at 14 rfl) 3 rfl rfl ?_
                refine gk_iload_n (pc := 132) (DX12_fillsFrom_1.at 15 rfl) 4 rfl rfl ?_
                refine gk_bipush (pc := 133) (nI 10) (DX12_fillsFrom_1.at 16 rfl) cb_10 ?_
                refine gk_idiv (pc := 135) (DX12_fillsFrom_1.at 17 rfl) (by decide) ?_
                refine gk_iload (pc := 136) (DX12_fillsFrom_1.at 18 rfl) 5 rfl ?_
                refine gk_iload_n (pc := 138) (DX12_fillsFrom_1.at 19 rfl) 4 rfl rfl ?_
                refine gk_iload (pc := 139) (DX12_fillsFrom_1.at 20 rfl) 12 rfl ?_
                refine gk_imul (pc := 141) (DX12_fillsFrom_1.at 21 rfl) ?_
                refine gk_iadd (pc := 142) (DX12_fillsFrom_1.at 22 rfl) ?_
                refine gk_iload (pc := 143) (DX12_fillsFrom_1.at 23 rfl) 6 rfl ?_
                obtain ⟨⟨fs22, q22⟩, hv⟩ := hv
                refine gk_vV (pc := 145) [.int (x1 - (nI 1)), .int x2, .int (x3 / (nI 10)), .int (x4 + (x3 * x11)), .int x5] [] (DX12_fillsFrom_1.at 24 rfl) cvX12_199 q22 rfl rfl (Nat.le_of_ble_eq_true rfl) (Nat.le_of_ble_eq_true rfl) (gk_Run.post (fun o h22 z => ?_) hv)
                obtain ⟨v22, rfl, hv⟩ := z
                refine gk_if_eq (pc := 148) 153 (DX12_fillsFrom_1.at 25 rfl) (by decide) (fun c => ?_) (fun c => ?_)
                · replace hv := hv.1 c
                  refine gk_iinc (pc := 153) (x11 + nI 1) [(11, .int (x11 + nI 1)), (12, .int (nI 1)), (0, .ref o), (1, .int x1), (2, .int x2), (3, .int x3), (4, .int x4), (5, .int x5), (6, .int x6), (7, .int x7), (8, .int x8), (9, .int x9), (10, .int x10)] 12 (DX12_fillsFrom_1.at 28 rfl) rfl (by rw [ci_1]) (Nat.le_of_ble_eq_true rfl) rfl ?_
                  refine gk_goto (pc := 156) 60 (DX12_fillsFrom_1.at 29 rfl) (by decide) ?_
                  exact gk_pick (pc := 60) [(0, .ref o), (1, .int x1), (2, .int x2), (3, .int x3), (4, .int x4), (5, .int x5), (6, .int x6), (7, .int x7), (8, .int x8), (9, .int x9), (10, .int x10), (11, .int (x11 + nI 1))] [2, 3, 4, 5, 6, 7, 8, 9, 10, 11, 12, 0] rfl hv
                · replace hv := hv.2 c
                  refine gk_iconst (pc := 151) (nI 1) (DX12_fillsFrom_1.at 26 rfl) ci_1 ?_
                  exact gk_ireturn (pc := 152) .boolean (DX12_fillsFrom_1.at 27 rfl) rfl rfl ⟨_, rfl, hv⟩
abbrev pX12_fixes_2 (E : gk_E) (dd : Nat) (o : Nat) (x1 : Int32) (h : gk_H) (K : gk_H → Prop) : Prop := gk_G E mX12_fixes (dd, 0, 0) 2 [(0, .ref o), (1, .int x1)] [] h (fun o h1 => o = none ∧ K h1)
abbrev pX12_fixes_9 (E : gk_E) (dd : Nat) (o : Nat) (x1 : Int32) (x2 : Int32) (h : gk_H) (K : gk_H → Prop) : Prop := gk_G E mX12_fixes (dd, 0, 0) 9 [(0, .ref o), (1, .int x1), (2, .int x2)] [] h (fun o h1 => o = none ∧ K h1)
abbrev pX12_fixes_16 (E : gk_E) (dd : Nat) (o : Nat) (x1 : Int32) (x2 : Int32) (x3 : Int32) (h : gk_H) (K : gk_H → Prop) : Prop := gk_G E mX12_fixes (dd, 0, 0) 16 [(0, .ref o), (1, .int x1), (2, .int x2), (3, .int x3)] [] h (fun o h1 => o = none ∧ K h1)
abbrev pX12_fixes_113 (E : gk_E) (dd : Nat) (o : Nat) (x1 : Int32) (h : gk_H) (K : gk_H → Prop) : Prop := gk_G E mX12_fixes (dd, 0, 0) 113 [(0, .ref o), (1, .int x1)] [] h (fun o h1 => o = none ∧ K h1)
set_option maxHeartbeats 4000000 in
theorem vX12_fixes_0 {E : gk_E} {dd : Nat} {o : Nat}  {h : gk_H} {K : gk_H → Prop} (hv : pX12_fixes_2 E dd o (nI 0) h K) : RnV E mX12_fixes (dd, 0, 0) [.ref o] h K := by
  show gk_G E mX12_fixes (dd, 0, 0) 0 [(0, .ref o)] [] h (fun o h1 => o = none ∧ K h1)
  refine gk_iconst (pc := 0) (nI 0) (DX12_fixes_0.at 0 rfl) ci_0 ?_
  refine gk_istore_n (pc := 1) [(1, .int (nI 0)), (0, .ref o)] (DX12_fixes_0.at 1 rfl) rfl (Nat.le_of_ble_eq_true rfl) rfl ?_
  exact gk_pick (pc := 2) [(0, .ref o), (1, .int (nI 0))] [1, 0] rfl hv
set_option maxHeartbeats 4000000 in
theorem vX12_fixes_2 {E : gk_E} {dd : Nat} {o : Nat} {x1 : Int32}  {h : gk_H} {K : gk_H → Prop} (hv : ((nI 4) ≤ x1 → pX12_fixes_113 E dd o (nI 0) h K) ∧ (¬ (nI 4) ≤ x1 → pX12_fixes_9 E dd o x1 (nI 0) h K)) : pX12_fixes_2 E dd o x1 h K := by
  show gk_G E mX12_fixes (dd, 0, 0) 2 [(0, .ref o), (1, .int x1)] [] h (fun o h1 => o = none ∧ K h1)
  refine gk_iload_n (pc := 2) (DX12_fixes_0.at 2 rfl) 1 rfl rfl ?_
  refine gk_iconst (pc := 3) (nI 4) (DX12_fixes_0.at 3 rfl) ci_4 ?_
  refine gk_icmp_ge (pc := 4) 111 (DX12_fixes_0.at 4 rfl) (by decide) (fun c => ?_) (fun c => ?_)
  · replace hv := hv.1 c
    refine gk_iconst (pc := 111) (nI 0) (DX12_fixes_1.at 4 rfl) ci_0 ?_
    refine gk_istore_n (pc := 112) [(1, .int (nI 0)), (0, .ref o)] (DX12_fixes_1.at 5 rfl) rfl (Nat.le_of_ble_eq_true rfl) rfl ?_
    exact gk_pick (pc := 113) [(0, .ref o), (1, .int (nI 0))] [1, 0] rfl hv
  · replace hv := hv.2 c
    refine gk_iconst (pc := 7) (nI 0) (DX12_fixes_0.at 5 rfl) ci_0 ?_
    refine gk_istore_n (pc := 8) [(2, .int (nI 0)), (0, .ref o), (1, .int x1)] (DX12_fixes_0.at 6 rfl) rfl (Nat.le_of_ble_eq_true rfl) rfl ?_
    exact gk_pick (pc := 9) [(0, .ref o), (1, .int x1), (2, .int (nI 0))] [1, 2, 0] rfl hv
set_option maxHeartbeats 4000000 in
theorem vX12_fixes_9 {E : gk_E} {dd : Nat} {o : Nat} {x1 : Int32} {x2 : Int32}  {h : gk_H} {K : gk_H → Prop} (hv : ((nI 4) ≤ x2 → pX12_fixes_2 E dd o (x1 + nI 1) h K) ∧ (¬ (nI 4) ≤ x2 → pX12_fixes_16 E dd o x1 x2 (nI 0) h K)) : pX12_fixes_9 E dd o x1 x2 h K := by
  show gk_G E mX12_fixes (dd, 0, 0) 9 [(0, .ref o), (1, .int x1), (2, .int x2)] [] h (fun o h1 => o = none ∧ K h1)
  refine gk_iload_n (pc := 9) (DX12_fixes_0.at 7 rfl) 2 rfl rfl ?_
  refine gk_iconst (pc := 10) (nI 4) (DX12_fixes_0.at 8 rfl) ci_4 ?_
  refine gk_icmp_ge (pc := 11) 105 (DX12_fixes_0.at 9 rfl) (by decide) (fun c => ?_) (fun c => ?_)
  · replace hv := hv.1 c
    refine gk_iinc (pc := 105) (x1 + nI 1) [(1, .int (x1 + nI 1)), (0, .ref o), (2, .int x2)] 1 (DX12_fixes_1.at 2 rfl) rfl (by rw [ci_1]) (Nat.le_of_ble_eq_true rfl) rfl ?_
    refine gk_goto (pc := 108) 2 (DX12_fixes_1.at 3 rfl) (by decide) ?_
    exact gk_pick (pc := 2) [(0, .ref o), (1, .int (x1 + nI 1))] [1, 0] rfl hv
  · replace hv := hv.2 c
    refine gk_iconst (pc := 14) (nI 0) (DX12_fixes_0.at 10 rfl) ci_0 ?_
    refine gk_istore_n (pc := 15) [(3, .int (nI 0)), (0, .ref o), (1, .int x1), (2, .int x2)] (DX12_fixes_0.at 11 rfl) rfl (Nat.le_of_ble_eq_true rfl) rfl ?_
    exact gk_pick (pc := 16) [(0, .ref o), (1, .int x1), (2, .int x2), (3, .int (nI 0))] [1, 2, 3, 0] rfl hv
set_option maxHeartbeats 4000000 in
theorem vX12_fixes_16 {E : gk_E} {dd : Nat} {o : Nat} {x1 : Int32} {x2 : Int32} {x3 : Int32}  {h : gk_H} {K : gk_H → Prop} (hv : ((nI 4) ≤ x3 → pX12_fixes_9 E dd o x1 (x2 + nI 1) h K) ∧ (¬ (nI 4) ≤ x3 → (¬ x1 = 0 → (¬ x2 = 0 → (¬ x3 = 0 → LdR h o 11 2 fun v1 => AsZ h v1 ((((nI 16) * x1) + ((nI 4) * x2)) + x3) (nI 0) fun h2 => pX12_fixes_16 E dd o x1 x2 (x3 + nI 1) h2 K) ∧ (x3 = 0 → LdR h o 11 1 fun v3 => AlI h v3 x1 fun v4 => (¬ x2 = v4 → LdR h o 11 2 fun v5 => AsZ h v5 ((((nI 16) * x1) + ((nI 4) * x2)) + x3) (nI 0) fun h6 => pX12_fixes_16 E dd o x1 x2 (x3 + nI 1) h6 K) ∧ (x2 = v4 → LdR h o 11 2 fun v7 => AsZ h v7 ((((nI 16) * x1) + ((nI 4) * x2)) + x3) (nI 1) fun h8 => pX12_fixes_16 E dd o x1 x2 (x3 + nI 1) h8 K))) ∧ (x2 = 0 → (¬ x1 = x3 → LdR h o 11 2 fun v9 => AsZ h v9 ((((nI 16) * x1) + ((nI 4) * x2)) + x3) (nI 0) fun h10 => pX12_fixes_16 E dd o x1 x2 (x3 + nI 1) h10 K) ∧ (x1 = x3 → LdR h o 11 2 fun v11 => AsZ h v11 ((((nI 16) * x1) + ((nI 4) * x2)) + x3) (nI 1) fun h12 => pX12_fixes_16 E dd o x1 x2 (x3 + nI 1) h12 K))) ∧ (x1 = 0 → (¬ x2 = x3 → LdR h o 11 2 fun v13 => AsZ h v13 ((((nI 16) * x1) + ((nI 4) * x2)) + x3) (nI 0) fun h14 => pX12_fixes_16 E dd o x1 x2 (x3 + nI 1) h14 K) ∧ (x2 = x3 → LdR h o 11 2 fun v15 => AsZ h v15 ((((nI 16) * x1) + ((nI 4) * x2)) + x3) (nI 1) fun h16 => pX12_fixes_16 E dd o x1 x2 (x3 + nI 1) h16 K)))) : pX12_fixes_16 E dd o x1 x2 x3 h K := by
  show gk_G E mX12_fixes (dd, 0, 0) 16 [(0, .ref o), (1, .int x1), (2, .int x2), (3, .int x3)] [] h (fun o h1 => o = none ∧ K h1)
  refine gk_iload_n (pc := 16) (DX12_fixes_0.at 12 rfl) 3 rfl rfl ?_
  refine gk_iconst (pc := 17) (nI 4) (DX12_fixes_0.at 13 rfl) ci_4 ?_
  refine gk_icmp_ge (pc := 18) 99 (DX12_fixes_0.at 14 rfl) (by decide) (fun c => ?_) (fun c => ?_)
  · replace hv := hv.1 c
    refine gk_iinc (pc := 99) (x2 + nI 1) [(2, .int (x2 + nI 1)), (0, .ref o), (1, .int x1), (3, .int x3)] 2 (DX12_fixes_1.at 0 rfl) rfl (by rw [ci_1]) (Nat.le_of_ble_eq_true rfl) rfl ?_
    refine gk_goto (pc := 102) 9 (DX12_fixes_1.at 1 rfl) (by decide) ?_
    exact gk_pick (pc := 9) [(0, .ref o), (1, .int x1), (2, .int (x2 + nI 1))] [1, 2, 0] rfl hv
  · replace hv := hv.2 c
    refine gk_iload_n (pc := 21) (DX12_fixes_0.at 15 rfl) 1 rfl rfl ?_
    refine gk_if_ne (pc := 22) 38 (DX12_fixes_0.at 16 rfl) (by decide) (fun c => ?_) (fun c => ?_)
    · replace hv := hv.1 c
      refine gk_iload_n (pc := 38) (DX12_fixes_0.at 24 rfl) 2 rfl rfl ?_
      refine gk_if_ne (pc := 39) 55 (DX12_fixes_0.at 25 rfl) (by decide) (fun c => ?_) (fun c => ?_)
      · replace hv := hv.1 c
        refine gk_iload_n (pc := 55) (DX12_fixes_0.at 33 rfl) 3 rfl rfl ?_
        refine gk_if_ne (pc := 56) 73 (DX12_fixes_0.at 34 rfl) (by decide) (fun c => ?_) (fun c => ?_)
        · replace hv := hv.1 c
          refine gk_iconst (pc := 73) (nI 0) (DX12_fixes_0.at 43 rfl) ci_0 ?_
          refine gk_istore (pc := 74) [(4, .int (nI 0)), (0, .ref o), (1, .int x1), (2, .int x2), (3, .int x3)] (DX12_fixes_0.at 44 rfl) (Nat.le_of_ble_eq_true rfl) rfl ?_
          refine gk_aload_n (pc := 76) (DX12_fixes_0.at 45 rfl) 1 rfl rfl ?_
          obtain ⟨fs1, v1, q1, r1, hv⟩ := hv
          refine gk_get (pc := 77) (.ref v1) (DX12_fixes_0.at 46 rfl) fX12_19_11 q1 r1 ?_
          refine gk_bipush (pc := 80) (nI 16) (DX12_fixes_0.at 47 rfl) cb_16 ?_
          refine gk_iload_n (pc := 82) (DX12_fixes_0.at 48 rfl) 2 rfl rfl ?_
          refine gk_imul (pc := 83) (DX12_fixes_0.at 49 rfl) ?_
          refine gk_iconst (pc := 84) (nI 4) (DX12_fixes_0.at 50 rfl) ci_4 ?_
          refine gk_iload_n (pc := 85) (DX12_fixes_0.at 51 rfl) 3 rfl rfl ?_
          refine gk_imul (pc := 86) (DX12_fixes_0.at 52 rfl) ?_
          refine gk_iadd (pc := 87) (DX12_fixes_0.at 53 rfl) ?_
          refine gk_iload_n (pc := 88) (DX12_fixes_0.at 54 rfl) 4 rfl rfl ?_
          refine gk_iadd (pc := 89) (DX12_fixes_0.at 55 rfl) ?_
          refine gk_iload (pc := 90) (DX12_fixes_0.at 56 rfl) 0 rfl ?_
          obtain ⟨n2, f2, q2, r2, hv⟩ := hv
          refine gk_zast (pc := 92) (DX12_fixes_0.at 57 rfl) q2 r2 ?_
          generalize h.set _ _ = h2 at hv ⊢
          refine gk_iinc (pc := 93) (x3 + nI 1) [(3, .int (x3 + nI 1)), (4, .int (nI 0)), (0, .ref o), (1, .int x1), (2, .int x2)] 4 (DX12_fixes_0.at 58 rfl) rfl (by rw [ci_1]) (Nat.le_of_ble_eq_true rfl) rfl ?_
          refine gk_goto (pc := 96) 16 (DX12_fixes_0.at 59 rfl) (by decide) ?_
          exact gk_pick (pc := 16) [(0, .ref o), (1, .int x1), (2, .int x2), (3, .int (x3 + nI 1))] [2, 3, 4, 0] rfl hv
        · replace hv := hv.2 c
          refine gk_iload_n (pc := 59) (DX12_fixes_0.at 35 rfl) 2 rfl rfl ?_
          refine gk_aload_n (pc := 60) (DX12_fixes_0.at 36 rfl) 0 rfl rfl ?_
          obtain ⟨fs3, v3, q3, r3, hv⟩ := hv
          refine gk_get (pc := 61) (.ref v3) (DX12_fixes_0.at 37 rfl) fX12_15_11 q3 r3 ?_
          refine gk_iload_n (pc := 64) (DX12_fixes_0.at 38 rfl) 1 rfl rfl ?_
          obtain ⟨n4, f4, q4, r4, hv⟩ := hv
          refine gk_iald (pc := 65) (DX12_fixes_0.at 39 rfl) q4 r4 ?_
          generalize f4 _ = v4 at hv ⊢
          refine gk_icmp_ne (pc := 66) 73 (DX12_fixes_0.at 40 rfl) (by decide) (fun c => ?_) (fun c => ?_)
          · replace hv := hv.1 c
            refine gk_iconst (pc := 73) (nI 0) (DX12_fixes_0.at 43 rfl) ci_0 ?_
            refine gk_istore (pc := 74) [(4, .int (nI 0)), (0, .ref o), (1, .int x1), (2, .int x2), (3, .int x3)] (DX12_fixes_0.at 44 rfl) (Nat.le_of_ble_eq_true rfl) rfl ?_
            refine gk_aload_n (pc := 76) (DX12_fixes_0.at 45 rfl) 1 rfl rfl ?_
            obtain ⟨fs5, v5, q5, r5, hv⟩ := hv
            refine gk_get (pc := 77) (.ref v5) (DX12_fixes_0.at 46 rfl) fX12_19_11 q5 r5 ?_
            refine gk_bipush (pc := 80) (nI 16) (DX12_fixes_0.at 47 rfl) cb_16 ?_
            refine gk_iload_n (pc := 82) (DX12_fixes_0.at 48 rfl) 2 rfl rfl ?_
            refine gk_imul (pc := 83) (DX12_fixes_0.at 49 rfl) ?_
            refine gk_iconst (pc := 84) (nI 4) (DX12_fixes_0.at 50 rfl) ci_4 ?_
            refine gk_iload_n (pc := 85) (DX12_fixes_0.at 51 rfl) 3 rfl rfl ?_
            refine gk_imul (pc := 86) (DX12_fixes_0.at 52 rfl) ?_
            refine gk_iadd (pc := 87) (DX12_fixes_0.at 53 rfl) ?_
            refine gk_iload_n (pc := 88) (DX12_fixes_0.at 54 rfl) 4 rfl rfl ?_
            refine gk_iadd (pc := 89) (DX12_fixes_0.at 55 rfl) ?_
            refine gk_iload (pc := 90) (DX12_fixes_0.at 56 rfl) 0 rfl ?_
            obtain ⟨n6, f6, q6, r6, hv⟩ := hv
            refine gk_zast (pc := 92) (DX12_fixes_0.at 57 rfl) q6 r6 ?_
            generalize h.set _ _ = h6 at hv ⊢
            refine gk_iinc (pc := 93) (x3 + nI 1) [(3, .int (x3 + nI 1)), (4, .int (nI 0)), (0, .ref o), (1, .int x1), (2, .int x2)] 4 (DX12_fixes_0.at 58 rfl) rfl (by rw [ci_1]) (Nat.le_of_ble_eq_true rfl) rfl ?_
            refine gk_goto (pc := 96) 16 (DX12_fixes_0.at 59 rfl) (by decide) ?_
            exact gk_pick (pc := 16) [(0, .ref o), (1, .int x1), (2, .int x2), (3, .int (x3 + nI 1))] [2, 3, 4, 0] rfl hv
          · replace hv := hv.2 c
            refine gk_iconst (pc := 69) (nI 1) (DX12_fixes_0.at 41 rfl) ci_1 ?_
            refine gk_goto (pc := 70) 74 (DX12_fixes_0.at 42 rfl) (by decide) ?_
            refine gk_istore (pc := 74) [(4, .int (nI 1)), (0, .ref o), (1, .int x1), (2, .int x2), (3, .int x3)] (DX12_fixes_0.at 44 rfl) (Nat.le_of_ble_eq_true rfl) rfl ?_
            refine gk_aload_n (pc := 76) (DX12_fixes_0.at 45 rfl) 1 rfl rfl ?_
            obtain ⟨fs7, v7, q7, r7, hv⟩ := hv
            refine gk_get (pc := 77) (.ref v7) (DX12_fixes_0.at 46 rfl) fX12_19_11 q7 r7 ?_
            refine gk_bipush (pc := 80) (nI 16) (DX12_fixes_0.at 47 rfl) cb_16 ?_
            refine gk_iload_n (pc := 82) (DX12_fixes_0.at 48 rfl) 2 rfl rfl ?_
            refine gk_imul (pc := 83) (DX12_fixes_0.at 49 rfl) ?_
            refine gk_iconst (pc := 84) (nI 4) (DX12_fixes_0.at 50 rfl) ci_4 ?_
            refine gk_iload_n (pc := 85) (DX12_fixes_0.at 51 rfl) 3 rfl rfl ?_
            refine gk_imul (pc := 86) (DX12_fixes_0.at 52 rfl) ?_
            refine gk_iadd (pc := 87) (DX12_fixes_0.at 53 rfl) ?_
            refine gk_iload_n (pc := 88) (DX12_fixes_0.at 54 rfl) 4 rfl rfl ?_
            refine gk_iadd (pc := 89) (DX12_fixes_0.at 55 rfl) ?_
            refine gk_iload (pc := 90) (DX12_fixes_0.at 56 rfl) 0 rfl ?_
            obtain ⟨n8, f8, q8, r8, hv⟩ := hv
            refine gk_zast (pc := 92) (DX12_fixes_0.at 57 rfl) q8 r8 ?_
            generalize h.set _ _ = h8 at hv ⊢
            refine gk_iinc (pc := 93) (x3 + nI 1) [(3, .int (x3 + nI 1)), (4, .int (nI 1)), (0, .ref o), (1, .int x1), (2, .int x2)] 4 (DX12_fixes_0.at 58 rfl) rfl (by rw [ci_1]) (Nat.le_of_ble_eq_true rfl) rfl ?_
            refine gk_goto (pc := 96) 16 (DX12_fixes_0.at 59 rfl) (by decide) ?_
            exact gk_pick (pc := 16) [(0, .ref o), (1, .int x1), (2, .int x2), (3, .int (x3 + nI 1))] [2, 3, 4, 0] rfl hv
      · replace hv := hv.2 c
        refine gk_iload_n (pc := 42) (DX12_fixes_0.at 26 rfl) 1 rfl rfl ?_
        refine gk_iload_n (pc := 43) (DX12_fixes_0.at 27 rfl) 3 rfl rfl ?_
        refine gk_icmp_ne (pc := 44) 51 (DX12_fixes_0.at 28 rfl) (by decide) (fun c => ?_) (fun c => ?_)
        · replace hv := hv.1 c
          refine gk_iconst (pc := 51) (nI 0) (DX12_fixes_0.at 31 rfl) ci_0 ?_
          refine gk_goto (pc := 52) 74 (DX12_fixes_0.at 32 rfl) (by decide) ?_
          refine gk_istore (pc := 74) [(4, .int (nI 0)), (0, .ref o), (1, .int x1), (2, .int x2), (3, .int x3)] (DX12_fixes_0.at 44 rfl) (Nat.le_of_ble_eq_true rfl) rfl ?_
          refine gk_aload_n (pc := 76) (DX12_fixes_0.at 45 rfl) 1 rfl rfl ?_
          obtain ⟨fs9, v9, q9, r9, hv⟩ := hv
          refine gk_get (pc := 77) (.ref v9) (DX12_fixes_0.at 46 rfl) fX12_19_11 q9 r9 ?_
          refine gk_bipush (pc := 80) (nI 16) (DX12_fixes_0.at 47 rfl) cb_16 ?_
          refine gk_iload_n (pc := 82) (DX12_fixes_0.at 48 rfl) 2 rfl rfl ?_
          refine gk_imul (pc := 83) (DX12_fixes_0.at 49 rfl) ?_
          refine gk_iconst (pc := 84) (nI 4) (DX12_fixes_0.at 50 rfl) ci_4 ?_
          refine gk_iload_n (pc := 85) (DX12_fixes_0.at 51 rfl) 3 rfl rfl ?_
          refine gk_imul (pc := 86) (DX12_fixes_0.at 52 rfl) ?_
          refine gk_iadd (pc := 87) (DX12_fixes_0.at 53 rfl) ?_
          refine gk_iload_n (pc := 88) (DX12_fixes_0.at 54 rfl) 4 rfl rfl ?_
          refine gk_iadd (pc := 89) (DX12_fixes_0.at 55 rfl) ?_
          refine gk_iload (pc := 90) (DX12_fixes_0.at 56 rfl) 0 rfl ?_
          obtain ⟨n10, f10, q10, r10, hv⟩ := hv
          refine gk_zast (pc := 92) (DX12_fixes_0.at 57 rfl) q10 r10 ?_
          generalize h.set _ _ = h10 at hv ⊢
          refine gk_iinc (pc := 93) (x3 + nI 1) [(3, .int (x3 + nI 1)), (4, .int (nI 0)), (0, .ref o), (1, .int x1), (2, .int x2)] 4 (DX12_fixes_0.at 58 rfl) rfl (by rw [ci_1]) (Nat.le_of_ble_eq_true rfl) rfl ?_
          refine gk_goto (pc := 96) 16 (DX12_fixes_0.at 59 rfl) (by decide) ?_
          exact gk_pick (pc := 16) [(0, .ref o), (1, .int x1), (2, .int x2), (3, .int (x3 + nI 1))] [2, 3, 4, 0] rfl hv
        · replace hv := hv.2 c
          refine gk_iconst (pc := 47) (nI 1) (DX12_fixes_0.at 29 rfl) ci_1 ?_
          refine gk_goto (pc := 48) 74 (DX12_fixes_0.at 30 rfl) (by decide) ?_
          refine gk_istore (pc := 74) [(4, .int (nI 1)), (0, .ref o), (1, .int x1), (2, .int x2), (3, .int x3)] (DX12_fixes_0.at 44 rfl) (Nat.le_of_ble_eq_true rfl) rfl ?_
          refine gk_aload_n (pc := 76) (DX12_fixes_0.at 45 rfl) 1 rfl rfl ?_
          obtain ⟨fs11, v11, q11, r11, hv⟩ := hv
          refine gk_get (pc := 77) (.ref v11) (DX12_fixes_0.at 46 rfl) fX12_19_11 q11 r11 ?_
          refine gk_bipush (pc := 80) (nI 16) (DX12_fixes_0.at 47 rfl) cb_16 ?_
          refine gk_iload_n (pc := 82) (DX12_fixes_0.at 48 rfl) 2 rfl rfl ?_
          refine gk_imul (pc := 83) (DX12_fixes_0.at 49 rfl) ?_
          refine gk_iconst (pc := 84) (nI 4) (DX12_fixes_0.at 50 rfl) ci_4 ?_
          refine gk_iload_n (pc := 85) (DX12_fixes_0.at 51 rfl) 3 rfl rfl ?_
          refine gk_imul (pc := 86) (DX12_fixes_0.at 52 rfl) ?_
          refine gk_iadd (pc := 87) (DX12_fixes_0.at 53 rfl) ?_
          refine gk_iload_n (pc := 88) (DX12_fixes_0.at 54 rfl) 4 rfl rfl ?_
          refine gk_iadd (pc := 89) (DX12_fixes_0.at 55 rfl) ?_
          refine gk_iload (pc := 90) (DX12_fixes_0.at 56 rfl) 0 rfl ?_
          obtain ⟨n12, f12, q12, r12, hv⟩ := hv
          refine gk_zast (pc := 92) (DX12_fixes_0.at 57 rfl) q12 r12 ?_
          generalize h.set _ _ = h12 at hv ⊢
          refine gk_iinc (pc := 93) (x3 + nI 1) [(3, .int (x3 + nI 1)), (4, .int (nI 1)), (0, .ref o), (1, .int x1), (2, .int x2)] 4 (DX12_fixes_0.at 58 rfl) rfl (by rw [ci_1]) (Nat.le_of_ble_eq_true rfl) rfl ?_
          refine gk_goto (pc := 96) 16 (DX12_fixes_0.at 59 rfl) (by decide) ?_
          exact gk_pick (pc := 16) [(0, .ref o), (1, .int x1), (2, .int x2), (3, .int (x3 + nI 1))] [2, 3, 4, 0] rfl hv
    · replace hv := hv.2 c
      refine gk_iload_n (pc := 25) (DX12_fixes_0.at 17 rfl) 2 rfl rfl ?_
      refine gk_iload_n (pc := 26) (DX12_fixes_0.at 18 rfl) 3 rfl rfl ?_
      refine gk_icmp_ne (pc := 27) 34 (DX12_fixes_0.at 19 rfl) (by decide) (fun c => ?_) (fun c => ?_)
      · replace hv := hv.1 c
        refine gk_iconst (pc := 34) (nI 0) (DX12_fixes_0.at 22 rfl) ci_0 ?_
        refine gk_goto (pc := 35) 74 (DX12_fixes_0.at 23 rfl) (by decide) ?_
        refine gk_istore (pc := 74) [(4, .int (nI 0)), (0, .ref o), (1, .int x1), (2, .int x2), (3, .int x3)] (DX12_fixes_0.at 44 rfl) (Nat.le_of_ble_eq_true rfl) rfl ?_
        refine gk_aload_n (pc := 76) (DX12_fixes_0.at 45 rfl) 1 rfl rfl ?_
        obtain ⟨fs13, v13, q13, r13, hv⟩ := hv
        refine gk_get (pc := 77) (.ref v13) (DX12_fixes_0.at 46 rfl) fX12_19_11 q13 r13 ?_
        refine gk_bipush (pc := 80) (nI 16) (DX12_fixes_0.at 47 rfl) cb_16 ?_
        refine gk_iload_n (pc := 82) (DX12_fixes_0.at 48 rfl) 2 rfl rfl ?_
        refine gk_imul (pc := 83) (DX12_fixes_0.at 49 rfl) ?_
        refine gk_iconst (pc := 84) (nI 4) (DX12_fixes_0.at 50 rfl) ci_4 ?_
        refine gk_iload_n (pc := 85) (DX12_fixes_0.at 51 rfl) 3 rfl rfl ?_
        refine gk_imul (pc := 86) (DX12_fixes_0.at 52 rfl) ?_
        refine gk_iadd (pc := 87) (DX12_fixes_0.at 53 rfl) ?_
        refine gk_iload_n (pc := 88) (DX12_fixes_0.at 54 rfl) 4 rfl rfl ?_
        refine gk_iadd (pc := 89) (DX12_fixes_0.at 55 rfl) ?_
        refine gk_iload (pc := 90) (DX12_fixes_0.at 56 rfl) 0 rfl ?_
        obtain ⟨n14, f14, q14, r14, hv⟩ := hv
        refine gk_zast (pc := 92) (DX12_fixes_0.at 57 rfl) q14 r14 ?_
        generalize h.set _ _ = h14 at hv ⊢
        refine gk_iinc (pc := 93) (x3 + nI 1) [(3, .int (x3 + nI 1)), (4, .int (nI 0)), (0, .ref o), (1, .int x1), (2, .int x2)] 4 (DX12_fixes_0.at 58 rfl) rfl (by rw [ci_1]) (Nat.le_of_ble_eq_true rfl) rfl ?_
        refine gk_goto (pc := 96) 16 (DX12_fixes_0.at 59 rfl) (by decide) ?_
        exact gk_pick (pc := 16) [(0, .ref o), (1, .int x1), (2, .int x2), (3, .int (x3 + nI 1))] [2, 3, 4, 0] rfl hv
      · replace hv := hv.2 c
        refine gk_iconst (pc := 30) (nI 1) (DX12_fixes_0.at 20 rfl) ci_1 ?_
        refine gk_goto (pc := 31) 74 (DX12_fixes_0.at 21 rfl) (by decide) ?_
        refine gk_istore (pc := 74) [(4, .int (nI 1)), (0, .ref o), (1, .int x1), (2, .int x2), (3, .int x3)] (DX12_fixes_0.at 44 rfl) (Nat.le_of_ble_eq_true rfl) rfl ?_
        refine gk_aload_n (pc := 76) (DX12_fixes_0.at 45 rfl) 1 rfl rfl ?_
        obtain ⟨fs15, v15, q15, r15, hv⟩ := hv
        refine gk_get (pc := 77) (.ref v15) (DX12_fixes_0.at 46 rfl) fX12_19_11 q15 r15 ?_
        refine gk_bipush (pc := 80) (nI 16) (DX12_fixes_0.at 47 rfl) cb_16 ?_
        refine gk_iload_n (pc := 82) (DX12_fixes_0.at 48 rfl) 2 rfl rfl ?_
        refine gk_imul (pc := 83) (DX12_fixes_0.at 49 rfl) ?_
        refine gk_iconst (pc := 84) (nI 4) (DX12_fixes_0.at 50 rfl) ci_4 ?_
        refine gk_iload_n (pc := 85) (DX12_fixes_0.at 51 rfl) 3 rfl rfl ?_
        refine gk_imul (pc := 86) (DX12_fixes_0.at 52 rfl) ?_
        refine gk_iadd (pc := 87) (DX12_fixes_0.at 53 rfl) ?_
        refine gk_iload_n (pc := 88) (DX12_fixes_0.at 54 rfl) 4 rfl rfl ?_
        refine gk_iadd (pc := 89) (DX12_fixes_0.at 55 rfl) ?_
        refine gk_iload (pc := 90) (DX12_fixes_0.at 56 rfl) 0 rfl ?_
        obtain ⟨n16, f16, q16, r16, hv⟩ := hv
        refine gk_zast (pc := 92) (DX12_fixes_0.at 57 rfl) q16 r16 ?_
        generalize h.set _ _ = h16 at hv ⊢
        refine gk_iinc (pc := 93) (x3 + nI 1) [(3, .int (x3 + nI 1)), (4, .int (nI 1)), (0, .ref o), (1, .int x1), (2, .int x2)] 4 (DX12_fixes_0.at 58 rfl) rfl (by rw [ci_1]) (Nat.le_of_ble_eq_true rfl) rfl ?_
        refine gk_goto (pc := 96) 16 (DX12_fixes_0.at 59 rfl) (by decide) ?_
        exact gk_pick (pc := 16) [(0, .ref o), (1, .int x1), (2, .int x2), (3, .int (x3 + nI 1))] [2, 3, 4, 0] rfl hv
set_option maxHeartbeats 4000000 in
theorem vX12_fixes_113 {E : gk_E} {dd : Nat} {o : Nat} {x1 : Int32}  {h : gk_H} {K : gk_H → Prop} (hv : ((nI 6) ≤ x1 → StI h o 11 5 (nI 0) fun h1 => StI h1 o 11 6 (nI 0) fun h2 => K h2) ∧ (¬ (nI 6) ≤ x1 → LdR h o 11 3 fun v3 => AsI h v3 x1 (nI 0) fun h4 => pX12_fixes_113 E dd o (x1 + nI 1) h4 K)) : pX12_fixes_113 E dd o x1 h K := by
  show gk_G E mX12_fixes (dd, 0, 0) 113 [(0, .ref o), (1, .int x1)] [] h (fun o h1 => o = none ∧ K h1)
  refine gk_iload_n (pc := 113) (DX12_fixes_1.at 6 rfl) 1 rfl rfl ?_
  refine gk_bipush (pc := 114) (nI 6) (DX12_fixes_1.at 7 rfl) cb_6 ?_
  refine gk_icmp_ge (pc := 116) 132 (DX12_fixes_1.at 8 rfl) (by decide) (fun c => ?_) (fun c => ?_)
  · replace hv := hv.1 c
    refine gk_aload_n (pc := 132) (DX12_fixes_1.at 16 rfl) 0 rfl rfl ?_
    refine gk_iconst (pc := 133) (nI 0) (DX12_fixes_1.at 17 rfl) ci_0 ?_
    obtain ⟨fs1, q1, r1, hv⟩ := hv
    refine gk_put (pc := 134) (DX12_fixes_1.at 18 rfl) fX12_74_11w q1 r1 rfl rfl ?_
    generalize h.set _ _ = h1 at hv ⊢
    refine gk_aload_n (pc := 137) (DX12_fixes_1.at 19 rfl) 0 rfl rfl ?_
    refine gk_iconst (pc := 138) (nI 0) (DX12_fixes_1.at 20 rfl) ci_0 ?_
    obtain ⟨fs2, q2, r2, hv⟩ := hv
    refine gk_put (pc := 139) (DX12_fixes_1.at 21 rfl) fX12_78_11w q2 r2 rfl rfl ?_
    generalize h1.set _ _ = h2 at hv ⊢
    exact gk_return (pc := 142) (DX12_fixes_1.at 22 rfl) rfl ⟨rfl, hv⟩
  · replace hv := hv.2 c
    refine gk_aload_n (pc := 119) (DX12_fixes_1.at 9 rfl) 0 rfl rfl ?_
    obtain ⟨fs3, v3, q3, r3, hv⟩ := hv
    refine gk_get (pc := 120) (.ref v3) (DX12_fixes_1.at 10 rfl) fX12_23_11 q3 r3 ?_
    refine gk_iload_n (pc := 123) (DX12_fixes_1.at 11 rfl) 1 rfl rfl ?_
    refine gk_iconst (pc := 124) (nI 0) (DX12_fixes_1.at 12 rfl) ci_0 ?_
    obtain ⟨n4, f4, q4, r4, hv⟩ := hv
    refine gk_iast (pc := 125) (DX12_fixes_1.at 13 rfl) q4 r4 ?_
    generalize h.set _ _ = h4 at hv ⊢
    refine gk_iinc (pc := 126) (x1 + nI 1) [(1, .int (x1 + nI 1)), (0, .ref o)] 1 (DX12_fixes_1.at 14 rfl) rfl (by rw [ci_1]) (Nat.le_of_ble_eq_true rfl) rfl ?_
    refine gk_goto (pc := 129) 113 (DX12_fixes_1.at 15 rfl) (by decide) ?_
    exact gk_pick (pc := 113) [(0, .ref o), (1, .int (x1 + nI 1))] [1, 0] rfl hv
