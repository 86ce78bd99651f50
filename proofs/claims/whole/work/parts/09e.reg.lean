set_option maxHeartbeats 4000000 in
theorem vX11_answer_0 {E : gk_E} {dd : Nat} {o : Nat} {x1 : Int32}  {h : gk_H} {K : Int32 → gk_H → Prop} (hv : LdR h o 10 6 fun v1 => LdI h v1 0 1 fun v2 => (v2 = 0 → K ((-3)) h) ∧ (¬ v2 = 0 → LdR h o 10 6 fun v3 => LdI h v3 0 4 fun v4 => (¬ v4 = 0 → LdR h o 10 6 fun v5 => LdR h v5 0 2 fun v6 => LdI h v6 3 0 fun v7 => (v7 < (nI 6) → LdR h o 10 4 fun v8 => LdR h o 10 6 fun v9 => LdR h v9 0 2 fun v10 => LdR h o 10 6 fun v11 => LdR h v11 0 3 fun v12 => AlI h v12 (nI 0) fun v13 => (∃ fs, h[v8]? = some (.inr (1, fs))) ∧ RnI E mX1_isFilledBy (dd, 0, 0) [.ref v8, .ref v10, .int v13, .int x1] h (fun v14 h14 => (¬ v14 = 0 → LdR h14 o 10 6 fun v15 => LdR h14 o 10 4 fun v16 => LdR h14 v16 1 4 fun v17 => (∃ fs, h14[v15]? = some (.inr (0, fs))) ∧ RnV E mX0_extend (dd, 0, 0) [.ref v15, .ref v17] h14 (fun h18 => LdR h18 o 10 6 fun v19 => LdI h18 v19 0 4 fun v20 => K v20 h18)) ∧ (v14 = 0 → K ((-5)) h14))) ∧ (¬ v7 < (nI 6) → K ((-4)) h)) ∧ (v4 = 0 → K ((-3)) h))) : RnI E mX11_answer (dd + 1, 0, 0) [.ref o, .int x1] h K := by
  show gk_G E mX11_answer (dd + 1, 0, 0) 0 [(0, .ref o), (1, .int x1)] [] h (fun o h1 => ∃ v, o = some (.int v) ∧ K v h1)
  refine gk_aload_n (pc := 0) (DX11_answer_0.at 0 rfl) 0 rfl rfl ?_
  obtain ⟨fs1, v1, q1, r1, hv⟩ := hv
  refine gk_get (pc := 1) (.ref v1) (DX11_answer_0.at 1 rfl) fX11_59_10 q1 r1 ?_
  obtain ⟨fs2, v2, q2, r2, hv⟩ := hv
  refine gk_get (pc := 4) (.int v2) (DX11_answer_0.at 2 rfl) fX11_255_0 q2 r2 ?_
  refine gk_if_eq (pc := 7) 20 (DX11_answer_0.at 3 rfl) (by decide) (fun c => ?_) (fun c => ?_)
  · replace hv := hv.1 c
    refine gk_bipush (pc := 20) ((-3)) (DX11_answer_0.at 8 rfl) cb_m3 ?_
    exact gk_ireturn (pc := 22) .int (DX11_answer_0.at 9 rfl) rfl rfl ⟨_, rfl, hv⟩
  · replace hv := hv.2 c
    refine gk_aload_n (pc := 10) (DX11_answer_0.at 4 rfl) 0 rfl rfl ?_
    obtain ⟨fs3, v3, q3, r3, hv⟩ := hv
    refine gk_get (pc := 11) (.ref v3) (DX11_answer_0.at 5 rfl) fX11_59_10 q3 r3 ?_
    obtain ⟨fs4, v4, q4, r4, hv⟩ := hv
    refine gk_get (pc := 14) (.int v4) (DX11_answer_0.at 6 rfl) fX11_252_0 q4 r4 ?_
    refine gk_if_ne (pc := 17) 23 (DX11_answer_0.at 7 rfl) (by decide) (fun c => ?_) (fun c => ?_)
    · replace hv := hv.1 c
      refine gk_aload_n (pc := 23) (DX11_answer_0.at 10 rfl) 0 rfl rfl ?_
      obtain ⟨fs5, v5, q5, r5, hv⟩ := hv
      refine gk_get (pc := 24) (.ref v5) (DX11_answer_0.at 11 rfl) fX11_59_10 q5 r5 ?_
      obtain ⟨fs6, v6, q6, r6, hv⟩ := hv
      refine gk_get (pc := 27) (.ref v6) (DX11_answer_0.at 12 rfl) fX11_261_0 q6 r6 ?_
      obtain ⟨fs7, v7, q7, r7, hv⟩ := hv
      refine gk_get (pc := 30) (.int v7) (DX11_answer_0.at 13 rfl) fX11_181_3 q7 r7 ?_
      refine gk_bipush (pc := 33) (nI 6) (DX11_answer_0.at 14 rfl) cb_6 ?_
      refine gk_icmp_lt (pc := 35) 41 (DX11_answer_0.at 15 rfl) (by decide) (fun c => ?_) (fun c => ?_)
      · replace hv := hv.1 c
        refine gk_aload_n (pc := 41) (DX11_answer_0.at 18 rfl) 0 rfl rfl ?_
        obtain ⟨fs8, v8, q8, r8, hv⟩ := hv
        refine gk_get (pc := 42) (.ref v8) (DX11_answer_0.at 19 rfl) fX11_39_10 q8 r8 ?_
        refine gk_aload_n (pc := 45) (DX11_answer_0.at 20 rfl) 0 rfl rfl ?_
        obtain ⟨fs9, v9, q9, r9, hv⟩ := hv
        refine gk_get (pc := 46) (.ref v9) (DX11_answer_0.at 21 rfl) fX11_59_10 q9 r9 ?_
        obtain ⟨fs10, v10, q10, r10, hv⟩ := hv
        refine gk_get (pc := 49) (.ref v10) (DX11_answer_0.at 22 rfl) fX11_261_0 q10 r10 ?_
        refine gk_aload_n (pc := 52) (DX11_answer_0.at 23 rfl) 0 rfl rfl ?_
        obtain ⟨fs11, v11, q11, r11, hv⟩ := hv
        refine gk_get (pc := 53) (.ref v11) (DX11_answer_0.at 24 rfl) fX11_59_10 q11 r11 ?_
        obtain ⟨fs12, v12, q12, r12, hv⟩ := hv
        refine gk_get (pc := 56) (.ref v12) (DX11_answer_0.at 25 rfl) fX11_258_0 q12 r12 ?_
        refine gk_iconst (pc := 59) (nI 0) (DX11_answer_0.at 26 rfl) ci_0 ?_
        obtain ⟨n13, f13, q13, r13, hv⟩ := hv
        refine gk_iald (pc := 60) (DX11_answer_0.at 27 rfl) q13 r13 ?_
        generalize f13 _ = v13 at hv ⊢
        refine gk_iload_n (pc := 61) (DX11_answer_0.at 28 rfl) 1 rfl rfl ?_
        obtain ⟨⟨fs14, q14⟩, hv⟩ := hv
        refine gk_vV (pc := 62) [.ref v10, .int v13, .int x1] [] (DX11_answer_0.at 29 rfl) cvX11_264 q14 rfl rfl (Nat.le_of_ble_eq_true rfl) (Nat.le_of_ble_eq_true rfl) (gk_Run.post (fun o h14 z => ?_) hv)
        obtain ⟨v14, rfl, hv⟩ := z
        refine gk_if_ne (pc := 65) 71 (DX11_answer_0.at 30 rfl) (by decide) (fun c => ?_) (fun c => ?_)
        · replace hv := hv.1 c
          refine gk_aload_n (pc := 71) (DX11_answer_0.at 33 rfl) 0 rfl rfl ?_
          obtain ⟨fs15, v15, q15, r15, hv⟩ := hv
          refine gk_get (pc := 72) (.ref v15) (DX11_answer_0.at 34 rfl) fX11_59_10 q15 r15 ?_
          refine gk_aload_n (pc := 75) (DX11_answer_0.at 35 rfl) 0 rfl rfl ?_
          obtain ⟨fs16, v16, q16, r16, hv⟩ := hv
          refine gk_get (pc := 76) (.ref v16) (DX11_answer_0.at 36 rfl) fX11_39_10 q16 r16 ?_
          obtain ⟨fs17, v17, q17, r17, hv⟩ := hv
          refine gk_get (pc := 79) (.ref v17) (DX11_answer_0.at 37 rfl) fX11_188_1 q17 r17 ?_
          obtain ⟨⟨fs18, q18⟩, hv⟩ := hv
          refine gk_vV (pc := 82) [.ref v17] [] (DX11_answer_0.at 38 rfl) cvX11_268 q18 rfl rfl (Nat.le_of_ble_eq_true rfl) (Nat.le_of_ble_eq_true rfl) (gk_Run.post (fun o h18 z => ?_) hv)
          obtain ⟨rfl, hv⟩ := z
          refine gk_aload_n (pc := 85) (DX11_answer_0.at 39 rfl) 0 rfl rfl ?_
          obtain ⟨fs19, v19, q19, r19, hv⟩ := hv
          refine gk_get (pc := 86) (.ref v19) (DX11_answer_0.at 40 rfl) fX11_59_10 q19 r19 ?_
          obtain ⟨fs20, v20, q20, r20, hv⟩ := hv
          refine gk_get (pc := 89) (.int v20) (DX11_answer_0.at 41 rfl) fX11_252_0 q20 r20 ?_
          exact gk_ireturn (pc := 92) .int (DX11_answer_0.at 42 rfl) rfl rfl ⟨_, rfl, hv⟩
        · replace hv := hv.2 c
          refine gk_bipush (pc := 68) ((-5)) (DX11_answer_0.at 31 rfl) cb_m5 ?_
          exact gk_ireturn (pc := 70) .int (DX11_answer_0.at 32 rfl) rfl rfl ⟨_, rfl, hv⟩
      · replace hv := hv.2 c
        refine gk_bipush (pc := 38) ((-4)) (DX11_answer_0.at 16 rfl) cb_m4 ?_
        exact gk_ireturn (pc := 40) .int (DX11_answer_0.at 17 rfl) rfl rfl ⟨_, rfl, hv⟩
    · replace hv := hv.2 c
      refine gk_bipush (pc := 20) ((-3)) (DX11_answer_0.at 8 rfl) cb_m3 ?_
      exact gk_ireturn (pc := 22) .int (DX11_answer_0.at 9 rfl) rfl rfl ⟨_, rfl, hv⟩
set_option maxHeartbeats 4000000 in
theorem vX11_ask_0 {E : gk_E} {dd : Nat} {o : Nat} {x1 : Int32}  {h : gk_H} {K : Int32 → gk_H → Prop} (hv : LdR h o 10 6 fun v1 => LdI h v1 0 1 fun v2 => (¬ v2 = 0 → (x1 < 0 → K ((-1)) h) ∧ (¬ x1 < 0 → LdR h o 10 6 fun v3 => LdI h v3 0 4 fun v4 => (x1 < v4 → LdR h o 10 6 fun v5 => LdR h v5 0 3 fun v6 => AlI h v6 x1 fun v7 => K v7 h) ∧ (¬ x1 < v4 → K ((-1)) h))) ∧ (v2 = 0 → K ((-3)) h)) : RnI E mX11_ask (dd, 0, 0) [.ref o, .int x1] h K := by
  show gk_G E mX11_ask (dd, 0, 0) 0 [(0, .ref o), (1, .int x1)] [] h (fun o h1 => ∃ v, o = some (.int v) ∧ K v h1)
  refine gk_aload_n (pc := 0) (DX11_ask_0.at 0 rfl) 0 rfl rfl ?_
  obtain ⟨fs1, v1, q1, r1, hv⟩ := hv
  refine gk_get (pc := 1) (.ref v1) (DX11_ask_0.at 1 rfl) fX11_59_10 q1 r1 ?_
  obtain ⟨fs2, v2, q2, r2, hv⟩ := hv
  refine gk_get (pc := 4) (.int v2) (DX11_ask_0.at 2 rfl) fX11_255_0 q2 r2 ?_
  refine gk_if_ne (pc := 7) 13 (DX11_ask_0.at 3 rfl) (by decide) (fun c => ?_) (fun c => ?_)
  · replace hv := hv.1 c
    refine gk_iload_n (pc := 13) (DX11_ask_0.at 6 rfl) 1 rfl rfl ?_
    refine gk_if_lt (pc := 14) 28 (DX11_ask_0.at 7 rfl) (by decide) (fun c => ?_) (fun c => ?_)
    · replace hv := hv.1 c
      refine gk_iconst (pc := 28) ((-1)) (DX11_ask_0.at 13 rfl) ci_m1 ?_
      refine gk_goto (pc := 29) 41 (DX11_ask_0.at 14 rfl) (by decide) ?_
      exact gk_ireturn (pc := 41) .int (DX11_ask_0.at 20 rfl) rfl rfl ⟨_, rfl, hv⟩
    · replace hv := hv.2 c
      refine gk_iload_n (pc := 17) (DX11_ask_0.at 8 rfl) 1 rfl rfl ?_
      refine gk_aload_n (pc := 18) (DX11_ask_0.at 9 rfl) 0 rfl rfl ?_
      obtain ⟨fs3, v3, q3, r3, hv⟩ := hv
      refine gk_get (pc := 19) (.ref v3) (DX11_ask_0.at 10 rfl) fX11_59_10 q3 r3 ?_
      obtain ⟨fs4, v4, q4, r4, hv⟩ := hv
      refine gk_get (pc := 22) (.int v4) (DX11_ask_0.at 11 rfl) fX11_252_0 q4 r4 ?_
      refine gk_icmp_lt (pc := 25) 32 (DX11_ask_0.at 12 rfl) (by decide) (fun c => ?_) (fun c => ?_)
      · replace hv := hv.1 c
        refine gk_aload_n (pc := 32) (DX11_ask_0.at 15 rfl) 0 rfl rfl ?_
        obtain ⟨fs5, v5, q5, r5, hv⟩ := hv
        refine gk_get (pc := 33) (.ref v5) (DX11_ask_0.at 16 rfl) fX11_59_10 q5 r5 ?_
        obtain ⟨fs6, v6, q6, r6, hv⟩ := hv
        refine gk_get (pc := 36) (.ref v6) (DX11_ask_0.at 17 rfl) fX11_258_0 q6 r6 ?_
        refine gk_iload_n (pc := 39) (DX11_ask_0.at 18 rfl) 1 rfl rfl ?_
        obtain ⟨n7, f7, q7, r7, hv⟩ := hv
        refine gk_iald (pc := 40) (DX11_ask_0.at 19 rfl) q7 r7 ?_
        generalize f7 _ = v7 at hv ⊢
        exact gk_ireturn (pc := 41) .int (DX11_ask_0.at 20 rfl) rfl rfl ⟨_, rfl, hv⟩
      · replace hv := hv.2 c
        refine gk_iconst (pc := 28) ((-1)) (DX11_ask_0.at 13 rfl) ci_m1 ?_
        refine gk_goto (pc := 29) 41 (DX11_ask_0.at 14 rfl) (by decide) ?_
        exact gk_ireturn (pc := 41) .int (DX11_ask_0.at 20 rfl) rfl rfl ⟨_, rfl, hv⟩
  · replace hv := hv.2 c
    refine gk_bipush (pc := 10) ((-3)) (DX11_ask_0.at 4 rfl) cb_m3 ?_
    exact gk_ireturn (pc := 12) .int (DX11_ask_0.at 5 rfl) rfl rfl ⟨_, rfl, hv⟩
set_option maxHeartbeats 4000000 in
theorem vX11_atoms_0 {E : gk_E} {dd : Nat} {o : Nat} {x1 : Int32}  {h : gk_H} {K : Int32 → gk_H → Prop} (hv : (x1 < (nI 1) → K ((-2)) h) ∧ (¬ x1 < (nI 1) → (x1 ≤ (nI 4) → LdR h o 10 0 fun v1 => LdR h v1 7 0 fun v2 => LdI h v2 8 0 fun v3 => LdR h o 10 0 fun v4 => LdR h v4 7 0 fun v5 => (∃ fs, h[v5]? = some (.inr (8, fs))) ∧ RnV E mX8_restart (dd, 0, 0) [.ref v5, .int x1] h (fun h6 => (∃ fs, h6[o]? = some (.inr (10, fs))) ∧ RnV E mX11_forgetNetworks (dd, 0, 0) [.ref o] h6 (fun h7 => K v3 h7))) ∧ (¬ x1 ≤ (nI 4) → K ((-2)) h))) : RnI E mX11_atoms (dd + 1, 0, 0) [.ref o, .int x1] h K := by
  show gk_G E mX11_atoms (dd + 1, 0, 0) 0 [(0, .ref o), (1, .int x1)] [] h (fun o h1 => ∃ v, o = some (.int v) ∧ K v h1)
  refine gk_iload_n (pc := 0) (DX11_atoms_0.at 0 rfl) 1 rfl rfl ?_
  refine gk_iconst (pc := 1) (nI 1) (DX11_atoms_0.at 1 rfl) ci_1 ?_
  refine gk_icmp_lt (pc := 2) 10 (DX11_atoms_0.at 2 rfl) (by decide) (fun c => ?_) (fun c => ?_)
  · replace hv := hv.1 c
    refine gk_bipush (pc := 10) ((-2)) (DX11_atoms_0.at 6 rfl) cb_m2 ?_
    exact gk_ireturn (pc := 12) .int (DX11_atoms_0.at 7 rfl) rfl rfl ⟨_, rfl, hv⟩
  · replace hv := hv.2 c
    refine gk_iload_n (pc := 5) (DX11_atoms_0.at 3 rfl) 1 rfl rfl ?_
    refine gk_iconst (pc := 6) (nI 4) (DX11_atoms_0.at 4 rfl) ci_4 ?_
    refine gk_icmp_le (pc := 7) 13 (DX11_atoms_0.at 5 rfl) (by decide) (fun c => ?_) (fun c => ?_)
    · replace hv := hv.1 c
      refine gk_aload_n (pc := 13) (DX11_atoms_0.at 8 rfl) 0 rfl rfl ?_
      obtain ⟨fs1, v1, q1, r1, hv⟩ := hv
      refine gk_get (pc := 14) (.ref v1) (DX11_atoms_0.at 9 rfl) fX11_12_10 q1 r1 ?_
      obtain ⟨fs2, v2, q2, r2, hv⟩ := hv
      refine gk_get (pc := 17) (.ref v2) (DX11_atoms_0.at 10 rfl) fX11_52_7 q2 r2 ?_
      obtain ⟨fs3, v3, q3, r3, hv⟩ := hv
      refine gk_get (pc := 20) (.int v3) (DX11_atoms_0.at 11 rfl) fX11_88_8 q3 r3 ?_
      refine gk_istore_n (pc := 23) [(2, .int v3), (0, .ref o), (1, .int x1)] (DX11_atoms_0.at 12 rfl) rfl (Nat.le_of_ble_eq_true rfl) rfl ?_
      refine gk_aload_n (pc := 24) (DX11_atoms_0.at 13 rfl) 1 rfl rfl ?_
      obtain ⟨fs4, v4, q4, r4, hv⟩ := hv
      refine gk_get (pc := 25) (.ref v4) (DX11_atoms_0.at 14 rfl) fX11_12_10 q4 r4 ?_
      obtain ⟨fs5, v5, q5, r5, hv⟩ := hv
      refine gk_get (pc := 28) (.ref v5) (DX11_atoms_0.at 15 rfl) fX11_52_7 q5 r5 ?_
      refine gk_iload_n (pc := 31) (DX11_atoms_0.at 16 rfl) 2 rfl rfl ?_
      obtain ⟨⟨fs6, q6⟩, hv⟩ := hv
      refine gk_vV (pc := 32) [.int x1] [] (DX11_atoms_0.at 17 rfl) cvX11_94 q6 rfl rfl (Nat.le_of_ble_eq_true rfl) (Nat.le_of_ble_eq_true rfl) (gk_Run.post (fun o h6 z => ?_) hv)
      obtain ⟨rfl, hv⟩ := z
      refine gk_aload_n (pc := 35) (DX11_atoms_0.at 18 rfl) 1 rfl rfl ?_
      obtain ⟨⟨fs7, q7⟩, hv⟩ := hv
      refine gk_vV (pc := 36) [] [] (DX11_atoms_0.at 19 rfl) cvX11_98 q7 rfl rfl (Nat.le_of_ble_eq_true rfl) (Nat.le_of_ble_eq_true rfl) (gk_Run.post (fun o h7 z => ?_) hv)
      obtain ⟨rfl, hv⟩ := z
      refine gk_iload_n (pc := 39) (DX11_atoms_0.at 20 rfl) 0 rfl rfl ?_
      exact gk_ireturn (pc := 40) .int (DX11_atoms_0.at 21 rfl) rfl rfl ⟨_, rfl, hv⟩
    · replace hv := hv.2 c
      refine gk_bipush (pc := 10) ((-2)) (DX11_atoms_0.at 6 rfl) cb_m2 ?_
      exact gk_ireturn (pc := 12) .int (DX11_atoms_0.at 7 rfl) rfl rfl ⟨_, rfl, hv⟩
set_option maxHeartbeats 4000000 in
theorem vX11_begin_0 {E : gk_E} {dd : Nat} {o : Nat} {x1 : Int32}  {h : gk_H} {K : Int32 → gk_H → Prop} (hv : RnI E mX11_isNet (dd, 0, 0) [.int x1] h (fun v1 h1 => (¬ v1 = 0 → LdR h1 o 10 0 fun v2 => LdR h1 v2 7 1 fun v3 => AlR 5 h1 v3 x1 fun v4 => (∃ fs, h1[o]? = some (.inr (10, fs))) ∧ RnI E mX11_isPlayable (dd, 0, 0) [.ref o, .ref v4] h1 (fun v5 h5 => (¬ v5 = 0 → LdR h5 o 10 6 fun v6 => LdR h5 o 10 0 fun v7 => LdR h5 v7 7 1 fun v8 => AlR 5 h5 v8 x1 fun v9 => (∃ fs, h5[v6]? = some (.inr (0, fs))) ∧ RnV E mX0_lay (dd, 0, 0) [.ref v6, .ref v9] h5 (fun h10 => LdR h10 o 10 6 fun v11 => LdI h10 v11 0 4 fun v12 => K v12 h10)) ∧ (v5 = 0 → K ((-3)) h5))) ∧ (v1 = 0 → K ((-1)) h1))) : RnI E mX11_begin (dd + 1, 0, 0) [.ref o, .int x1] h K := by
  show gk_G E mX11_begin (dd + 1, 0, 0) 0 [(0, .ref o), (1, .int x1)] [] h (fun o h1 => ∃ v, o = some (.int v) ∧ K v h1)
  refine gk_iload_n (pc := 0) (DX11_begin_0.at 0 rfl) 1 rfl rfl ?_
  refine gk_vS (pc := 1) [.int x1] [] (DX11_begin_0.at 1 rfl) csX11_174 rfl rfl (Nat.le_of_ble_eq_true rfl) (Nat.le_of_ble_eq_true rfl) (gk_Run.post (fun o h1 z => ?_) hv)
  obtain ⟨v1, rfl, hv⟩ := z
  refine gk_if_ne (pc := 4) 9 (DX11_begin_0.at 2 rfl) (by decide) (fun c => ?_) (fun c => ?_)
  · replace hv := hv.1 c
    refine gk_aload_n (pc := 9) (DX11_begin_0.at 5 rfl) 0 rfl rfl ?_
    refine gk_aload_n (pc := 10) (DX11_begin_0.at 6 rfl) 0 rfl rfl ?_
    obtain ⟨fs2, v2, q2, r2, hv⟩ := hv
    refine gk_get (pc := 11) (.ref v2) (DX11_begin_0.at 7 rfl) fX11_12_10 q2 r2 ?_
    obtain ⟨fs3, v3, q3, r3, hv⟩ := hv
    refine gk_get (pc := 14) (.ref v3) (DX11_begin_0.at 8 rfl) fX11_177_7 q3 r3 ?_
    refine gk_iload_n (pc := 17) (DX11_begin_0.at 9 rfl) 1 rfl rfl ?_
    obtain ⟨n4, f4, v4, q4, r4, e4, hv⟩ := hv
    refine gk_aald5 (pc := 18) v4 (DX11_begin_0.at 10 rfl) q4 r4 e4 ?_
    obtain ⟨⟨fs5, q5⟩, hv⟩ := hv
    refine gk_vV (pc := 19) [.ref v4] [] (DX11_begin_0.at 11 rfl) cvX11_245 q5 rfl rfl (Nat.le_of_ble_eq_true rfl) (Nat.le_of_ble_eq_true rfl) (gk_Run.post (fun o h5 z => ?_) hv)
    obtain ⟨v5, rfl, hv⟩ := z
    refine gk_if_ne (pc := 22) 28 (DX11_begin_0.at 12 rfl) (by decide) (fun c => ?_) (fun c => ?_)
    · replace hv := hv.1 c
      refine gk_aload_n (pc := 28) (DX11_begin_0.at 15 rfl) 0 rfl rfl ?_
      obtain ⟨fs6, v6, q6, r6, hv⟩ := hv
      refine gk_get (pc := 29) (.ref v6) (DX11_begin_0.at 16 rfl) fX11_59_10 q6 r6 ?_
      refine gk_aload_n (pc := 32) (DX11_begin_0.at 17 rfl) 0 rfl rfl ?_
      obtain ⟨fs7, v7, q7, r7, hv⟩ := hv
      refine gk_get (pc := 33) (.ref v7) (DX11_begin_0.at 18 rfl) fX11_12_10 q7 r7 ?_
      obtain ⟨fs8, v8, q8, r8, hv⟩ := hv
      refine gk_get (pc := 36) (.ref v8) (DX11_begin_0.at 19 rfl) fX11_177_7 q8 r8 ?_
      refine gk_iload_n (pc := 39) (DX11_begin_0.at 20 rfl) 1 rfl rfl ?_
      obtain ⟨n9, f9, v9, q9, r9, e9, hv⟩ := hv
      refine gk_aald5 (pc := 40) v9 (DX11_begin_0.at 21 rfl) q9 r9 e9 ?_
      obtain ⟨⟨fs10, q10⟩, hv⟩ := hv
      refine gk_vV (pc := 41) [.ref v9] [] (DX11_begin_0.at 22 rfl) cvX11_249 q10 rfl rfl (Nat.le_of_ble_eq_true rfl) (Nat.le_of_ble_eq_true rfl) (gk_Run.post (fun o h10 z => ?_) hv)
      obtain ⟨rfl, hv⟩ := z
      refine gk_aload_n (pc := 44) (DX11_begin_0.at 23 rfl) 0 rfl rfl ?_
      obtain ⟨fs11, v11, q11, r11, hv⟩ := hv
      refine gk_get (pc := 45) (.ref v11) (DX11_begin_0.at 24 rfl) fX11_59_10 q11 r11 ?_
      obtain ⟨fs12, v12, q12, r12, hv⟩ := hv
      refine gk_get (pc := 48) (.int v12) (DX11_begin_0.at 25 rfl) fX11_252_0 q12 r12 ?_
      exact gk_ireturn (pc := 51) .int (DX11_begin_0.at 26 rfl) rfl rfl ⟨_, rfl, hv⟩
    · replace hv := hv.2 c
      refine gk_bipush (pc := 25) ((-3)) (DX11_begin_0.at 13 rfl) cb_m3 ?_
      exact gk_ireturn (pc := 27) .int (DX11_begin_0.at 14 rfl) rfl rfl ⟨_, rfl, hv⟩
  · replace hv := hv.2 c
    refine gk_iconst (pc := 7) ((-1)) (DX11_begin_0.at 3 rfl) ci_m1 ?_
    exact gk_ireturn (pc := 8) .int (DX11_begin_0.at 4 rfl) rfl rfl ⟨_, rfl, hv⟩
set_option maxHeartbeats 4000000 in
theorem vX11_board_0 {E : gk_E} {dd : Nat} {o : Nat} {x1 : Int32}  {h : gk_H} {K : Int32 → gk_H → Prop} (hv : LdR h o 10 6 fun v1 => LdI h v1 0 1 fun v2 => (¬ v2 = 0 → (((x1 = nI 0 → LdR h o 10 6 fun v3 => LdR h v3 0 2 fun v4 => LdI h v4 3 0 fun v5 => K v5 h) ∧ (x1 = nI 1 → LdR h o 10 6 fun v6 => LdI h v6 0 4 fun v7 => K v7 h) ∧ (x1 = nI 2 → LdR h o 10 6 fun v8 => LdI h v8 0 5 fun v9 => K v9 h)) ∧ ((∀ k : Nat, k < 3 → ¬ x1 = nI k) → K ((-1)) h))) ∧ (v2 = 0 → K ((-3)) h)) : RnI E mX11_board (dd, 0, 0) [.ref o, .int x1] h K := by
  show gk_G E mX11_board (dd, 0, 0) 0 [(0, .ref o), (1, .int x1)] [] h (fun o h1 => ∃ v, o = some (.int v) ∧ K v h1)
  refine gk_aload_n (pc := 0) (DX11_board_0.at 0 rfl) 0 rfl rfl ?_
  obtain ⟨fs1, v1, q1, r1, hv⟩ := hv
  refine gk_get (pc := 1) (.ref v1) (DX11_board_0.at 1 rfl) fX11_59_10 q1 r1 ?_
  obtain ⟨fs2, v2, q2, r2, hv⟩ := hv
  refine gk_get (pc := 4) (.int v2) (DX11_board_0.at 2 rfl) fX11_255_0 q2 r2 ?_
  refine gk_if_ne (pc := 7) 13 (DX11_board_0.at 3 rfl) (by decide) (fun c => ?_) (fun c => ?_)
  · replace hv := hv.1 c
    refine gk_iload_n (pc := 13) (DX11_board_0.at 6 rfl) 1 rfl rfl ?_
    refine gk_tsw (pc := 14) (n := 3) (fun k => [40, 51, 59].getD k 0) 67 (DX11_board_0.at 7 rfl) (by decide +kernel) (by decide) (by decide) (by decide) (by decide) (fun k hk c => ?_) (fun c => ?_)
    · replace hv := hv.1
      match k, hk, c with
      | 0, _, c =>
        replace hv := hv.1 c
        refine gk_aload_n (pc := 40) (DX11_board_0.at 8 rfl) 0 rfl rfl ?_
        obtain ⟨fs3, v3, q3, r3, hv⟩ := hv
        refine gk_get (pc := 41) (.ref v3) (DX11_board_0.at 9 rfl) fX11_59_10 q3 r3 ?_
        obtain ⟨fs4, v4, q4, r4, hv⟩ := hv
        refine gk_get (pc := 44) (.ref v4) (DX11_board_0.at 10 rfl) fX11_261_0 q4 r4 ?_
        obtain ⟨fs5, v5, q5, r5, hv⟩ := hv
        refine gk_get (pc := 47) (.int v5) (DX11_board_0.at 11 rfl) fX11_181_3 q5 r5 ?_
        exact gk_ireturn (pc := 50) .int (DX11_board_0.at 12 rfl) rfl rfl ⟨_, rfl, hv⟩
      | 1, _, c =>
        replace hv := hv.2.1 c
        refine gk_aload_n (pc := 51) (DX11_board_0.at 13 rfl) 0 rfl rfl ?_
        obtain ⟨fs6, v6, q6, r6, hv⟩ := hv
        refine gk_get (pc := 52) (.ref v6) (DX11_board_0.at 14 rfl) fX11_59_10 q6 r6 ?_
        obtain ⟨fs7, v7, q7, r7, hv⟩ := hv
        refine gk_get (pc := 55) (.int v7) (DX11_board_0.at 15 rfl) fX11_252_0 q7 r7 ?_
        exact gk_ireturn (pc := 58) .int (DX11_board_0.at 16 rfl) rfl rfl ⟨_, rfl, hv⟩
      | 2, _, c =>
        replace hv := hv.2.2 c
        refine gk_aload_n (pc := 59) (DX11_board_0.at 17 rfl) 0 rfl rfl ?_
        obtain ⟨fs8, v8, q8, r8, hv⟩ := hv
        refine gk_get (pc := 60) (.ref v8) (DX11_board_0.at 18 rfl) fX11_59_10 q8 r8 ?_
        obtain ⟨fs9, v9, q9, r9, hv⟩ := hv
        refine gk_get (pc := 63) (.int v9) (DX11_board_0.at 19 rfl) fX11_275_0 q9 r9 ?_
        exact gk_ireturn (pc := 66) .int (DX11_board_0.at 20 rfl) rfl rfl ⟨_, rfl, hv⟩
      | k + 3, hk, _ => exact absurd hk (by omega)
    · replace hv := hv.2 c
      refine gk_iconst (pc := 67) ((-1)) (DX11_board_0.at 21 rfl) ci_m1 ?_
      exact gk_ireturn (pc := 68) .int (DX11_board_0.at 22 rfl) rfl rfl ⟨_, rfl, hv⟩
  · replace hv := hv.2 c
    refine gk_bipush (pc := 10) ((-3)) (DX11_board_0.at 4 rfl) cb_m3 ?_
    exact gk_ireturn (pc := 12) .int (DX11_board_0.at 5 rfl) rfl rfl ⟨_, rfl, hv⟩
set_option maxHeartbeats 4000000 in
theorem vX11_broken_0 {E : gk_E} {dd : Nat} {o : Nat} {x1 : Int32}  {h : gk_H} {K : Int32 → gk_H → Prop} (hv : (x1 < 0 → K ((-1)) h) ∧ (¬ x1 < 0 → (x1 ≤ (nI 3) → ((nI 2) ≤ x1 → LdR h o 10 0 fun v1 => LdR h v1 7 0 fun v2 => (¬ x1 = (nI 2) → (∃ fs, h[v2]? = some (.inr (8, fs))) ∧ RnI E mX8_thin (dd, 0, 0) [.ref v2, .int (nI 0)] h (fun v3 h3 => K v3 h3)) ∧ (x1 = (nI 2) → (∃ fs, h[v2]? = some (.inr (8, fs))) ∧ RnI E mX8_thin (dd, 0, 0) [.ref v2, .int (nI 1)] h (fun v4 h4 => K v4 h4))) ∧ (¬ (nI 2) ≤ x1 → LdR h o 10 0 fun v5 => LdR h v5 7 0 fun v6 => (¬ x1 = 0 → (∃ fs, h[v6]? = some (.inr (8, fs))) ∧ RnI E mX8_unbalanced (dd, 0, 0) [.ref v6, .int (nI 0)] h (fun v7 h7 => K v7 h7)) ∧ (x1 = 0 → (∃ fs, h[v6]? = some (.inr (8, fs))) ∧ RnI E mX8_unbalanced (dd, 0, 0) [.ref v6, .int (nI 1)] h (fun v8 h8 => K v8 h8)))) ∧ (¬ x1 ≤ (nI 3) → K ((-1)) h))) : RnI E mX11_broken (dd + 1, 0, 0) [.ref o, .int x1] h K := by
  show gk_G E mX11_broken (dd + 1, 0, 0) 0 [(0, .ref o), (1, .int x1)] [] h (fun o h1 => ∃ v, o = some (.int v) ∧ K v h1)
  refine gk_iload_n (pc := 0) (DX11_broken_0.at 0 rfl) 1 rfl rfl ?_
  refine gk_if_lt (pc := 1) 9 (DX11_broken_0.at 1 rfl) (by decide) (fun c => ?_) (fun c => ?_)
  · replace hv := hv.1 c
    refine gk_iconst (pc := 9) ((-1)) (DX11_broken_0.at 5 rfl) ci_m1 ?_
    exact gk_ireturn (pc := 10) .int (DX11_broken_0.at 6 rfl) rfl rfl ⟨_, rfl, hv⟩
  · replace hv := hv.2 c
    refine gk_iload_n (pc := 4) (DX11_broken_0.at 2 rfl) 1 rfl rfl ?_
    refine gk_iconst (pc := 5) (nI 3) (DX11_broken_0.at 3 rfl) ci_3 ?_
    refine gk_icmp_le (pc := 6) 11 (DX11_broken_0.at 4 rfl) (by decide) (fun c => ?_) (fun c => ?_)
    · replace hv := hv.1 c
      refine gk_iload_n (pc := 11) (DX11_broken_0.at 7 rfl) 1 rfl rfl ?_
      refine gk_iconst (pc := 12) (nI 2) (DX11_broken_0.at 8 rfl) ci_2 ?_
      refine gk_icmp_ge (pc := 13) 38 (DX11_broken_0.at 9 rfl) (by decide) (fun c => ?_) (fun c => ?_)
      · replace hv := hv.1 c
        refine gk_aload_n (pc := 38) (DX11_broken_0.at 20 rfl) 0 rfl rfl ?_
        obtain ⟨fs1, v1, q1, r1, hv⟩ := hv
        refine gk_get (pc := 39) (.ref v1) (DX11_broken_0.at 21 rfl) fX11_12_10 q1 r1 ?_
        obtain ⟨fs2, v2, q2, r2, hv⟩ := hv
        refine gk_get (pc := 42) (.ref v2) (DX11_broken_0.at 22 rfl) fX11_52_7 q2 r2 ?_
        refine gk_iload_n (pc := 45) (DX11_broken_0.at 23 rfl) 1 rfl rfl ?_
        refine gk_iconst (pc := 46) (nI 2) (DX11_broken_0.at 24 rfl) ci_2 ?_
        refine gk_icmp_ne (pc := 47) 54 (DX11_broken_0.at 25 rfl) (by decide) (fun c => ?_) (fun c => ?_)
        · replace hv := hv.1 c
          refine gk_iconst (pc := 54) (nI 0) (DX11_broken_0.at 28 rfl) ci_0 ?_
          obtain ⟨⟨fs3, q3⟩, hv⟩ := hv
          refine gk_vV (pc := 55) [.int (nI 0)] [] (DX11_broken_0.at 29 rfl) cvX11_160 q3 rfl rfl (Nat.le_of_ble_eq_true rfl) (Nat.le_of_ble_eq_true rfl) (gk_Run.post (fun o h3 z => ?_) hv)
          obtain ⟨v3, rfl, hv⟩ := z
          exact gk_ireturn (pc := 58) .int (DX11_broken_0.at 30 rfl) rfl rfl ⟨_, rfl, hv⟩
        · replace hv := hv.2 c
          refine gk_iconst (pc := 50) (nI 1) (DX11_broken_0.at 26 rfl) ci_1 ?_
          refine gk_goto (pc := 51) 55 (DX11_broken_0.at 27 rfl) (by decide) ?_
          obtain ⟨⟨fs4, q4⟩, hv⟩ := hv
          refine gk_vV (pc := 55) [.int (nI 1)] [] (DX11_broken_0.at 29 rfl) cvX11_160 q4 rfl rfl (Nat.le_of_ble_eq_true rfl) (Nat.le_of_ble_eq_true rfl) (gk_Run.post (fun o h4 z => ?_) hv)
          obtain ⟨v4, rfl, hv⟩ := z
          exact gk_ireturn (pc := 58) .int (DX11_broken_0.at 30 rfl) rfl rfl ⟨_, rfl, hv⟩
      · replace hv := hv.2 c
        refine gk_aload_n (pc := 16) (DX11_broken_0.at 10 rfl) 0 rfl rfl ?_
        obtain ⟨fs5, v5, q5, r5, hv⟩ := hv
        refine gk_get (pc := 17) (.ref v5) (DX11_broken_0.at 11 rfl) fX11_12_10 q5 r5 ?_
        obtain ⟨fs6, v6, q6, r6, hv⟩ := hv
        refine gk_get (pc := 20) (.ref v6) (DX11_broken_0.at 12 rfl) fX11_52_7 q6 r6 ?_
        refine gk_iload_n (pc := 23) (DX11_broken_0.at 13 rfl) 1 rfl rfl ?_
        refine gk_if_ne (pc := 24) 31 (DX11_broken_0.at 14 rfl) (by decide) (fun c => ?_) (fun c => ?_)
        · replace hv := hv.1 c
          refine gk_iconst (pc := 31) (nI 0) (DX11_broken_0.at 17 rfl) ci_0 ?_
          obtain ⟨⟨fs7, q7⟩, hv⟩ := hv
          refine gk_vV (pc := 32) [.int (nI 0)] [] (DX11_broken_0.at 18 rfl) cvX11_156 q7 rfl rfl (Nat.le_of_ble_eq_true rfl) (Nat.le_of_ble_eq_true rfl) (gk_Run.post (fun o h7 z => ?_) hv)
          obtain ⟨v7, rfl, hv⟩ := z
          refine gk_goto (pc := 35) 58 (DX11_broken_0.at 19 rfl) (by decide) ?_
          exact gk_ireturn (pc := 58) .int (DX11_broken_0.at 30 rfl) rfl rfl ⟨_, rfl, hv⟩
        · replace hv := hv.2 c
          refine gk_iconst (pc := 27) (nI 1) (DX11_broken_0.at 15 rfl) ci_1 ?_
          refine gk_goto (pc := 28) 32 (DX11_broken_0.at 16 rfl) (by decide) ?_
          obtain ⟨⟨fs8, q8⟩, hv⟩ := hv
          refine gk_vV (pc := 32) [.int (nI 1)] [] (DX11_broken_0.at 18 rfl) cvX11_156 q8 rfl rfl (Nat.le_of_ble_eq_true rfl) (Nat.le_of_ble_eq_true rfl) (gk_Run.post (fun o h8 z => ?_) hv)
          obtain ⟨v8, rfl, hv⟩ := z
          refine gk_goto (pc := 35) 58 (DX11_broken_0.at 19 rfl) (by decide) ?_
          exact gk_ireturn (pc := 58) .int (DX11_broken_0.at 30 rfl) rfl rfl ⟨_, rfl, hv⟩
    · replace hv := hv.2 c
      refine gk_iconst (pc := 9) ((-1)) (DX11_broken_0.at 5 rfl) ci_m1 ?_
      exact gk_ireturn (pc := 10) .int (DX11_broken_0.at 6 rfl) rfl rfl ⟨_, rfl, hv⟩
set_option maxHeartbeats 4000000 in
theorem vX11_compose_0 {E : gk_E} {dd : Nat} {o : Nat} {x1 : Int32} {x2 : Int32}  {h : gk_H} {K : Int32 → gk_H → Prop} (hv : (∃ fs, h[o]? = some (.inr (10, fs))) ∧ RnI E mX11_isRelation (dd, 0, 0) [.ref o, .int x1] h (fun v1 h1 => (v1 = 0 → K ((-2)) h1) ∧ (¬ v1 = 0 → (∃ fs, h1[o]? = some (.inr (10, fs))) ∧ RnI E mX11_isRelation (dd, 0, 0) [.ref o, .int x2] h1 (fun v2 h2 => (¬ v2 = 0 → LdR h2 o 10 0 fun v3 => LdR h2 v3 7 0 fun v4 => (∃ fs, h2[v4]? = some (.inr (8, fs))) ∧ RnI E mX8_product (dd, 0, 0) [.ref v4, .int x1, .int x2] h2 (fun v5 h5 => K v5 h5)) ∧ (v2 = 0 → K ((-2)) h2))))) : RnI E mX11_compose (dd + 1, 0, 0) [.ref o, .int x1, .int x2] h K := by
  show gk_G E mX11_compose (dd + 1, 0, 0) 0 [(0, .ref o), (1, .int x1), (2, .int x2)] [] h (fun o h1 => ∃ v, o = some (.int v) ∧ K v h1)
  refine gk_aload_n (pc := 0) (DX11_compose_0.at 0 rfl) 0 rfl rfl ?_
  refine gk_iload_n (pc := 1) (DX11_compose_0.at 1 rfl) 1 rfl rfl ?_
  obtain ⟨⟨fs1, q1⟩, hv⟩ := hv
  refine gk_vV (pc := 2) [.int x1] [] (DX11_compose_0.at 2 rfl) cvX11_113 q1 rfl rfl (Nat.le_of_ble_eq_true rfl) (Nat.le_of_ble_eq_true rfl) (gk_Run.post (fun o h1 z => ?_) hv)
  obtain ⟨v1, rfl, hv⟩ := z
  refine gk_if_eq (pc := 5) 16 (DX11_compose_0.at 3 rfl) (by decide) (fun c => ?_) (fun c => ?_)
  · replace hv := hv.1 c
    refine gk_bipush (pc := 16) ((-2)) (DX11_compose_0.at 8 rfl) cb_m2 ?_
    exact gk_ireturn (pc := 18) .int (DX11_compose_0.at 9 rfl) rfl rfl ⟨_, rfl, hv⟩
  · replace hv := hv.2 c
    refine gk_aload_n (pc := 8) (DX11_compose_0.at 4 rfl) 0 rfl rfl ?_
    refine gk_iload_n (pc := 9) (DX11_compose_0.at 5 rfl) 2 rfl rfl ?_
    obtain ⟨⟨fs2, q2⟩, hv⟩ := hv
    refine gk_vV (pc := 10) [.int x2] [] (DX11_compose_0.at 6 rfl) cvX11_113 q2 rfl rfl (Nat.le_of_ble_eq_true rfl) (Nat.le_of_ble_eq_true rfl) (gk_Run.post (fun o h2 z => ?_) hv)
    obtain ⟨v2, rfl, hv⟩ := z
    refine gk_if_ne (pc := 13) 19 (DX11_compose_0.at 7 rfl) (by decide) (fun c => ?_) (fun c => ?_)
    · replace hv := hv.1 c
      refine gk_aload_n (pc := 19) (DX11_compose_0.at 10 rfl) 0 rfl rfl ?_
      obtain ⟨fs3, v3, q3, r3, hv⟩ := hv
      refine gk_get (pc := 20) (.ref v3) (DX11_compose_0.at 11 rfl) fX11_12_10 q3 r3 ?_
      obtain ⟨fs4, v4, q4, r4, hv⟩ := hv
      refine gk_get (pc := 23) (.ref v4) (DX11_compose_0.at 12 rfl) fX11_52_7 q4 r4 ?_
      refine gk_iload_n (pc := 26) (DX11_compose_0.at 13 rfl) 1 rfl rfl ?_
      refine gk_iload_n (pc := 27) (DX11_compose_0.at 14 rfl) 2 rfl rfl ?_
      obtain ⟨⟨fs5, q5⟩, hv⟩ := hv
      refine gk_vV (pc := 28) [.int x1, .int x2] [] (DX11_compose_0.at 15 rfl) cvX11_131 q5 rfl rfl (Nat.le_of_ble_eq_true rfl) (Nat.le_of_ble_eq_true rfl) (gk_Run.post (fun o h5 z => ?_) hv)
      obtain ⟨v5, rfl, hv⟩ := z
      exact gk_ireturn (pc := 31) .int (DX11_compose_0.at 16 rfl) rfl rfl ⟨_, rfl, hv⟩
    · replace hv := hv.2 c
      refine gk_bipush (pc := 16) ((-2)) (DX11_compose_0.at 8 rfl) cb_m2 ?_
      exact gk_ireturn (pc := 18) .int (DX11_compose_0.at 9 rfl) rfl rfl ⟨_, rfl, hv⟩
set_option maxHeartbeats 4000000 in
theorem vX11_converse_0 {E : gk_E} {dd : Nat} {o : Nat} {x1 : Int32}  {h : gk_H} {K : Int32 → gk_H → Prop} (hv : (∃ fs, h[o]? = some (.inr (10, fs))) ∧ RnI E mX11_isRelation (dd, 0, 0) [.ref o, .int x1] h (fun v1 h1 => (v1 = 0 → K ((-2)) h1) ∧ (¬ v1 = 0 → LdR h1 o 10 0 fun v2 => LdR h1 v2 7 0 fun v3 => (∃ fs, h1[v3]? = some (.inr (8, fs))) ∧ RnI E mX8_mirrored (dd, 0, 0) [.ref v3, .int x1] h1 (fun v4 h4 => K v4 h4)))) : RnI E mX11_converse (dd + 1, 0, 0) [.ref o, .int x1] h K := by
  show gk_G E mX11_converse (dd + 1, 0, 0) 0 [(0, .ref o), (1, .int x1)] [] h (fun o h1 => ∃ v, o = some (.int v) ∧ K v h1)
  refine gk_aload_n (pc := 0) (DX11_converse_0.at 0 rfl) 0 rfl rfl ?_
  refine gk_iload_n (pc := 1) (DX11_converse_0.at 1 rfl) 1 rfl rfl ?_
  obtain ⟨⟨fs1, q1⟩, hv⟩ := hv
  refine gk_vV (pc := 2) [.int x1] [] (DX11_converse_0.at 2 rfl) cvX11_113 q1 rfl rfl (Nat.le_of_ble_eq_true rfl) (Nat.le_of_ble_eq_true rfl) (gk_Run.post (fun o h1 z => ?_) hv)
  obtain ⟨v1, rfl, hv⟩ := z
  refine gk_if_eq (pc := 5) 22 (DX11_converse_0.at 3 rfl) (by decide) (fun c => ?_) (fun c => ?_)
  · replace hv := hv.1 c
    refine gk_bipush (pc := 22) ((-2)) (DX11_converse_0.at 10 rfl) cb_m2 ?_
    exact gk_ireturn (pc := 24) .int (DX11_converse_0.at 11 rfl) rfl rfl ⟨_, rfl, hv⟩
  · replace hv := hv.2 c
    refine gk_aload_n (pc := 8) (DX11_converse_0.at 4 rfl) 0 rfl rfl ?_
    obtain ⟨fs2, v2, q2, r2, hv⟩ := hv
    refine gk_get (pc := 9) (.ref v2) (DX11_converse_0.at 5 rfl) fX11_12_10 q2 r2 ?_
    obtain ⟨fs3, v3, q3, r3, hv⟩ := hv
    refine gk_get (pc := 12) (.ref v3) (DX11_converse_0.at 6 rfl) fX11_52_7 q3 r3 ?_
    refine gk_iload_n (pc := 15) (DX11_converse_0.at 7 rfl) 1 rfl rfl ?_
    obtain ⟨⟨fs4, q4⟩, hv⟩ := hv
    refine gk_vV (pc := 16) [.int x1] [] (DX11_converse_0.at 8 rfl) cvX11_116 q4 rfl rfl (Nat.le_of_ble_eq_true rfl) (Nat.le_of_ble_eq_true rfl) (gk_Run.post (fun o h4 z => ?_) hv)
    obtain ⟨v4, rfl, hv⟩ := z
    refine gk_goto (pc := 19) 24 (DX11_converse_0.at 9 rfl) (by decide) ?_
    exact gk_ireturn (pc := 24) .int (DX11_converse_0.at 11 rfl) rfl rfl ⟨_, rfl, hv⟩
set_option maxHeartbeats 4000000 in
theorem vX11_copy_0 {E : gk_E} {dd : Nat} {o : Nat} {x1 : Int32} {x2 : Int32}  {h : gk_H} {K : Int32 → gk_H → Prop} (hv : RnI E mX11_isNet (dd, 0, 0) [.int x1] h (fun v1 h1 => (v1 = 0 → K ((-1)) h1) ∧ (¬ v1 = 0 → RnI E mX11_isNet (dd, 0, 0) [.int x2] h1 (fun v2 h2 => (¬ v2 = 0 → LdR h2 o 10 0 fun v3 => LdR h2 v3 7 1 fun v4 => AlR 5 h2 v4 x2 fun v5 => LdR h2 o 10 0 fun v6 => LdR h2 v6 7 1 fun v7 => AlR 5 h2 v7 x1 fun v8 => (∃ fs, h2[v5]? = some (.inr (3, fs))) ∧ RnV E mX3_become (dd, 0, 0) [.ref v5, .ref v8] h2 (fun h9 => LdR h9 o 10 0 fun v10 => LdR h9 v10 7 1 fun v11 => AlR 5 h9 v11 x2 fun v12 => LdI h9 v12 3 0 fun v13 => K v13 h9)) ∧ (v2 = 0 → K ((-1)) h2))))) : RnI E mX11_copy (dd + 1, 0, 0) [.ref o, .int x1, .int x2] h K := by
  show gk_G E mX11_copy (dd + 1, 0, 0) 0 [(0, .ref o), (1, .int x1), (2, .int x2)] [] h (fun o h1 => ∃ v, o = some (.int v) ∧ K v h1)
  refine gk_iload_n (pc := 0) (DX11_copy_0.at 0 rfl) 1 rfl rfl ?_
  refine gk_vS (pc := 1) [.int x1] [] (DX11_copy_0.at 1 rfl) csX11_174 rfl rfl (Nat.le_of_ble_eq_true rfl) (Nat.le_of_ble_eq_true rfl) (gk_Run.post (fun o h1 z => ?_) hv)
  obtain ⟨v1, rfl, hv⟩ := z
  refine gk_if_eq (pc := 4) 14 (DX11_copy_0.at 2 rfl) (by decide) (fun c => ?_) (fun c => ?_)
  · replace hv := hv.1 c
    refine gk_iconst (pc := 14) ((-1)) (DX11_copy_0.at 6 rfl) ci_m1 ?_
    exact gk_ireturn (pc := 15) .int (DX11_copy_0.at 7 rfl) rfl rfl ⟨_, rfl, hv⟩
  · replace hv := hv.2 c
    refine gk_iload_n (pc := 7) (DX11_copy_0.at 3 rfl) 2 rfl rfl ?_
    refine gk_vS (pc := 8) [.int x2] [] (DX11_copy_0.at 4 rfl) csX11_174 rfl rfl (Nat.le_of_ble_eq_true rfl) (Nat.le_of_ble_eq_true rfl) (gk_Run.post (fun o h2 z => ?_) hv)
    obtain ⟨v2, rfl, hv⟩ := z
    refine gk_if_ne (pc := 11) 16 (DX11_copy_0.at 5 rfl) (by decide) (fun c => ?_) (fun c => ?_)
    · replace hv := hv.1 c
      refine gk_aload_n (pc := 16) (DX11_copy_0.at 8 rfl) 0 rfl rfl ?_
      obtain ⟨fs3, v3, q3, r3, hv⟩ := hv
      refine gk_get (pc := 17) (.ref v3) (DX11_copy_0.at 9 rfl) fX11_12_10 q3 r3 ?_
      obtain ⟨fs4, v4, q4, r4, hv⟩ := hv
      refine gk_get (pc := 20) (.ref v4) (DX11_copy_0.at 10 rfl) fX11_177_7 q4 r4 ?_
      refine gk_iload_n (pc := 23) (DX11_copy_0.at 11 rfl) 2 rfl rfl ?_
      obtain ⟨n5, f5, v5, q5, r5, e5, hv⟩ := hv
      refine gk_aald5 (pc := 24) v5 (DX11_copy_0.at 12 rfl) q5 r5 e5 ?_
      refine gk_aload_n (pc := 25) (DX11_copy_0.at 13 rfl) 0 rfl rfl ?_
      obtain ⟨fs6, v6, q6, r6, hv⟩ := hv
      refine gk_get (pc := 26) (.ref v6) (DX11_copy_0.at 14 rfl) fX11_12_10 q6 r6 ?_
      obtain ⟨fs7, v7, q7, r7, hv⟩ := hv
      refine gk_get (pc := 29) (.ref v7) (DX11_copy_0.at 15 rfl) fX11_177_7 q7 r7 ?_
      refine gk_iload_n (pc := 32) (DX11_copy_0.at 16 rfl) 1 rfl rfl ?_
      obtain ⟨n8, f8, v8, q8, r8, e8, hv⟩ := hv
      refine gk_aald5 (pc := 33) v8 (DX11_copy_0.at 17 rfl) q8 r8 e8 ?_
      obtain ⟨⟨fs9, q9⟩, hv⟩ := hv
      refine gk_vV (pc := 34) [.ref v8] [] (DX11_copy_0.at 18 rfl) cvX11_205 q9 rfl rfl (Nat.le_of_ble_eq_true rfl) (Nat.le_of_ble_eq_true rfl) (gk_Run.post (fun o h9 z => ?_) hv)
      obtain ⟨rfl, hv⟩ := z
      refine gk_aload_n (pc := 37) (DX11_copy_0.at 19 rfl) 0 rfl rfl ?_
      obtain ⟨fs10, v10, q10, r10, hv⟩ := hv
      refine gk_get (pc := 38) (.ref v10) (DX11_copy_0.at 20 rfl) fX11_12_10 q10 r10 ?_
      obtain ⟨fs11, v11, q11, r11, hv⟩ := hv
      refine gk_get (pc := 41) (.ref v11) (DX11_copy_0.at 21 rfl) fX11_177_7 q11 r11 ?_
      refine gk_iload_n (pc := 44) (DX11_copy_0.at 22 rfl) 2 rfl rfl ?_
      obtain ⟨n12, f12, v12, q12, r12, e12, hv⟩ := hv
      refine gk_aald5 (pc := 45) v12 (DX11_copy_0.at 23 rfl) q12 r12 e12 ?_
      obtain ⟨fs13, v13, q13, r13, hv⟩ := hv
      refine gk_get (pc := 46) (.int v13) (DX11_copy_0.at 24 rfl) fX11_181_3 q13 r13 ?_
      exact gk_ireturn (pc := 49) .int (DX11_copy_0.at 25 rfl) rfl rfl ⟨_, rfl, hv⟩
    · replace hv := hv.2 c
      refine gk_iconst (pc := 14) ((-1)) (DX11_copy_0.at 6 rfl) ci_m1 ?_
      exact gk_ireturn (pc := 15) .int (DX11_copy_0.at 7 rfl) rfl rfl ⟨_, rfl, hv⟩
set_option maxHeartbeats 4000000 in
theorem vX11_count_0 {E : gk_E} {dd : Nat} {o : Nat} {x1 : Int32}  {h : gk_H} {K : Int32 → gk_H → Prop} (hv : (((x1 = nI 0 → LdR h o 10 0 fun v1 => LdR h v1 7 0 fun v2 => LdI h v2 8 0 fun v3 => K v3 h) ∧ (x1 = nI 1 → LdR h o 10 0 fun v4 => LdR h v4 7 1 fun v5 => AlR 5 h v5 (nI 0) fun v6 => LdI h v6 3 0 fun v7 => LdR h o 10 0 fun v8 => LdR h v8 7 1 fun v9 => AlR 5 h v9 (nI 1) fun v10 => LdI h v10 3 0 fun v11 => LdR h o 10 0 fun v12 => LdR h v12 7 1 fun v13 => AlR 5 h v13 (nI 2) fun v14 => LdI h v14 3 0 fun v15 => K ((v7 + v11) + v15) h) ∧ (x1 = nI 2 → LdR h o 10 10 fun v16 => LdI h v16 9 0 fun v17 => K v17 h) ∧ (x1 = nI 3 → (∃ fs, h[o]? = some (.inr (10, fs))) ∧ RnI E mX11_listsPresent (dd, 0, 0) [.ref o] h (fun v18 h18 => K v18 h18)) ∧ (x1 = nI 4 → LdR h o 10 0 fun v19 => LdI h v19 7 3 fun v20 => (v20 = 0 → K (nI 0) h) ∧ (¬ v20 = 0 → LdR h o 10 0 fun v21 => LdR h v21 7 2 fun v22 => LdI h v22 3 0 fun v23 => K v23 h))) ∧ ((∀ k : Nat, k < 5 → ¬ x1 = nI k) → K ((-1)) h))) : RnI E mX11_count (dd + 1, 0, 0) [.ref o, .int x1] h K := by
  show gk_G E mX11_count (dd + 1, 0, 0) 0 [(0, .ref o), (1, .int x1)] [] h (fun o h1 => ∃ v, o = some (.int v) ∧ K v h1)
  refine gk_iload_n (pc := 0) (DX11_count_0.at 0 rfl) 1 rfl rfl ?_
  refine gk_tsw (pc := 1) (n := 5) (fun k => [36, 47, 86, 94, 99].getD k 0) 124 (DX11_count_0.at 1 rfl) (by decide +kernel) (by decide) (by decide) (by decide) (by decide) (fun k hk c => ?_) (fun c => ?_)
  · replace hv := hv.1
    match k, hk, c with
    | 0, _, c =>
      replace hv := hv.1 c
      refine gk_aload_n (pc := 36) (DX11_count_0.at 2 rfl) 0 rfl rfl ?_
      obtain ⟨fs1, v1, q1, r1, hv⟩ := hv
      refine gk_get (pc := 37) (.ref v1) (DX11_count_0.at 3 rfl) fX11_12_10 q1 r1 ?_
      obtain ⟨fs2, v2, q2, r2, hv⟩ := hv
      refine gk_get (pc := 40) (.ref v2) (DX11_count_0.at 4 rfl) fX11_52_7 q2 r2 ?_
      obtain ⟨fs3, v3, q3, r3, hv⟩ := hv
      refine gk_get (pc := 43) (.int v3) (DX11_count_0.at 5 rfl) fX11_88_8 q3 r3 ?_
      exact gk_ireturn (pc := 46) .int (DX11_count_0.at 6 rfl) rfl rfl ⟨_, rfl, hv⟩
    | 1, _, c =>
      replace hv := hv.2.1 c
      refine gk_aload_n (pc := 47) (DX11_count_0.at 7 rfl) 0 rfl rfl ?_
      obtain ⟨fs4, v4, q4, r4, hv⟩ := hv
      refine gk_get (pc := 48) (.ref v4) (DX11_count_0.at 8 rfl) fX11_12_10 q4 r4 ?_
      obtain ⟨fs5, v5, q5, r5, hv⟩ := hv
      refine gk_get (pc := 51) (.ref v5) (DX11_count_0.at 9 rfl) fX11_177_7 q5 r5 ?_
      refine gk_iconst (pc := 54) (nI 0) (DX11_count_0.at 10 rfl) ci_0 ?_
      obtain ⟨n6, f6, v6, q6, r6, e6, hv⟩ := hv
      refine gk_aald5 (pc := 55) v6 (DX11_count_0.at 11 rfl) q6 r6 e6 ?_
      obtain ⟨fs7, v7, q7, r7, hv⟩ := hv
      refine gk_get (pc := 56) (.int v7) (DX11_count_0.at 12 rfl) fX11_181_3 q7 r7 ?_
      refine gk_aload_n (pc := 59) (DX11_count_0.at 13 rfl) 0 rfl rfl ?_
      obtain ⟨fs8, v8, q8, r8, hv⟩ := hv
      refine gk_get (pc := 60) (.ref v8) (DX11_count_0.at 14 rfl) fX11_12_10 q8 r8 ?_
      obtain ⟨fs9, v9, q9, r9, hv⟩ := hv
      refine gk_get (pc := 63) (.ref v9) (DX11_count_0.at 15 rfl) fX11_177_7 q9 r9 ?_
      refine gk_iconst (pc := 66) (nI 1) (DX11_count_0.at 16 rfl) ci_1 ?_
      obtain ⟨n10, f10, v10, q10, r10, e10, hv⟩ := hv
      refine gk_aald5 (pc := 67) v10 (DX11_count_0.at 17 rfl) q10 r10 e10 ?_
      obtain ⟨fs11, v11, q11, r11, hv⟩ := hv
      refine gk_get (pc := 68) (.int v11) (DX11_count_0.at 18 rfl) fX11_181_3 q11 r11 ?_
      refine gk_iadd (pc := 71) (DX11_count_0.at 19 rfl) ?_
      refine gk_aload_n (pc := 72) (DX11_count_0.at 20 rfl) 0 rfl rfl ?_
      obtain ⟨fs12, v12, q12, r12, hv⟩ := hv
      refine gk_get (pc := 73) (.ref v12) (DX11_count_0.at 21 rfl) fX11_12_10 q12 r12 ?_
      obtain ⟨fs13, v13, q13, r13, hv⟩ := hv
      refine gk_get (pc := 76) (.ref v13) (DX11_count_0.at 22 rfl) fX11_177_7 q13 r13 ?_
      refine gk_iconst (pc := 79) (nI 2) (DX11_count_0.at 23 rfl) ci_2 ?_
      obtain ⟨n14, f14, v14, q14, r14, e14, hv⟩ := hv
      refine gk_aald5 (pc := 80) v14 (DX11_count_0.at 24 rfl) q14 r14 e14 ?_
      obtain ⟨fs15, v15, q15, r15, hv⟩ := hv
      refine gk_get (pc := 81) (.int v15) (DX11_count_0.at 25 rfl) fX11_181_3 q15 r15 ?_
      refine gk_iadd (pc := 84) (DX11_count_0.at 26 rfl) ?_
      exact gk_ireturn (pc := 85) .int (DX11_count_0.at 27 rfl) rfl rfl ⟨_, rfl, hv⟩
    | 2, _, c =>
      replace hv := hv.2.2.1 c
      refine gk_aload_n (pc := 86) (DX11_count_0.at 28 rfl) 0 rfl rfl ?_
      obtain ⟨fs16, v16, q16, r16, hv⟩ := hv
      refine gk_get (pc := 87) (.ref v16) (DX11_count_0.at 29 rfl) fX11_81_10 q16 r16 ?_
      obtain ⟨fs17, v17, q17, r17, hv⟩ := hv
      refine gk_get (pc := 90) (.int v17) (DX11_count_0.at 30 rfl) fX11_293_9 q17 r17 ?_
      exact gk_ireturn (pc := 93) .int (DX11_count_0.at 31 rfl) rfl rfl ⟨_, rfl, hv⟩
    | 3, _, c =>
      replace hv := hv.2.2.2.1 c
      refine gk_aload_n (pc := 94) (DX11_count_0.at 32 rfl) 0 rfl rfl ?_
      obtain ⟨⟨fs18, q18⟩, hv⟩ := hv
      refine gk_vV (pc := 95) [] [] (DX11_count_0.at 33 rfl) cvX11_312 q18 rfl rfl (Nat.le_of_ble_eq_true rfl) (Nat.le_of_ble_eq_true rfl) (gk_Run.post (fun o h18 z => ?_) hv)
      obtain ⟨v18, rfl, hv⟩ := z
      exact gk_ireturn (pc := 98) .int (DX11_count_0.at 34 rfl) rfl rfl ⟨_, rfl, hv⟩
    | 4, _, c =>
      replace hv := hv.2.2.2.2 c
      refine gk_aload_n (pc := 99) (DX11_count_0.at 35 rfl) 0 rfl rfl ?_
      obtain ⟨fs19, v19, q19, r19, hv⟩ := hv
      refine gk_get (pc := 100) (.ref v19) (DX11_count_0.at 36 rfl) fX11_12_10 q19 r19 ?_
      obtain ⟨fs20, v20, q20, r20, hv⟩ := hv
      refine gk_get (pc := 103) (.int v20) (DX11_count_0.at 37 rfl) fX11_228_7 q20 r20 ?_
      refine gk_if_eq (pc := 106) 122 (DX11_count_0.at 38 rfl) (by decide) (fun c => ?_) (fun c => ?_)
      · replace hv := hv.1 c
        refine gk_iconst (pc := 122) (nI 0) (DX11_count_0.at 44 rfl) ci_0 ?_
        exact gk_ireturn (pc := 123) .int (DX11_count_0.at 45 rfl) rfl rfl ⟨_, rfl, hv⟩
      · replace hv := hv.2 c
        refine gk_aload_n (pc := 109) (DX11_count_0.at 39 rfl) 0 rfl rfl ?_
        obtain ⟨fs21, v21, q21, r21, hv⟩ := hv
        refine gk_get (pc := 110) (.ref v21) (DX11_count_0.at 40 rfl) fX11_12_10 q21 r21 ?_
        obtain ⟨fs22, v22, q22, r22, hv⟩ := hv
        refine gk_get (pc := 113) (.ref v22) (DX11_count_0.at 41 rfl) fX11_231_7 q22 r22 ?_
        obtain ⟨fs23, v23, q23, r23, hv⟩ := hv
        refine gk_get (pc := 116) (.int v23) (DX11_count_0.at 42 rfl) fX11_181_3 q23 r23 ?_
        refine gk_goto (pc := 119) 123 (DX11_count_0.at 43 rfl) (by decide) ?_
        exact gk_ireturn (pc := 123) .int (DX11_count_0.at 45 rfl) rfl rfl ⟨_, rfl, hv⟩
    | k + 5, hk, _ => exact absurd hk (by omega)
  · replace hv := hv.2 c
    refine gk_iconst (pc := 124) ((-1)) (DX11_count_0.at 46 rfl) ci_m1 ?_
    exact gk_ireturn (pc := 125) .int (DX11_count_0.at 47 rfl) rfl rfl ⟨_, rfl, hv⟩
set_option maxHeartbeats 4000000 in
theorem vX11_cycles_0 {E : gk_E} {dd : Nat} {o : Nat} {x1 : Int32}  {h : gk_H} {K : Int32 → gk_H → Prop} (hv : (x1 < 0 → K ((-1)) h) ∧ (¬ x1 < 0 → (x1 ≤ (nI 3) → (¬ x1 = (nI 2) → LdR h o 10 0 fun v1 => LdR h v1 7 0 fun v2 => (∃ fs, h[v2]? = some (.inr (8, fs))) ∧ RnI E mX8_cycleFacts (dd, 0, 0) [.ref v2, .int x1] h (fun v3 h3 => K v3 h3)) ∧ (x1 = (nI 2) → LdR h o 10 0 fun v4 => LdR h v4 7 0 fun v5 => LdL h v5 8 2 fun v6 => RnI E mJ13_bitCount_95d88 (dd, 0, 0) [.long v6] h (fun v7 h7 => K v7 h7))) ∧ (¬ x1 ≤ (nI 3) → K ((-1)) h))) : RnI E mX11_cycles (dd + 1, 0, 0) [.ref o, .int x1] h K := by
  show gk_G E mX11_cycles (dd + 1, 0, 0) 0 [(0, .ref o), (1, .int x1)] [] h (fun o h1 => ∃ v, o = some (.int v) ∧ K v h1)
  refine gk_iload_n (pc := 0) (DX11_cycles_0.at 0 rfl) 1 rfl rfl ?_
  refine gk_if_lt (pc := 1) 9 (DX11_cycles_0.at 1 rfl) (by decide) (fun c => ?_) (fun c => ?_)
  · replace hv := hv.1 c
    refine gk_iconst (pc := 9) ((-1)) (DX11_cycles_0.at 5 rfl) ci_m1 ?_
    exact gk_ireturn (pc := 10) .int (DX11_cycles_0.at 6 rfl) rfl rfl ⟨_, rfl, hv⟩
  · replace hv := hv.2 c
    refine gk_iload_n (pc := 4) (DX11_cycles_0.at 2 rfl) 1 rfl rfl ?_
    refine gk_iconst (pc := 5) (nI 3) (DX11_cycles_0.at 3 rfl) ci_3 ?_
    refine gk_icmp_le (pc := 6) 11 (DX11_cycles_0.at 4 rfl) (by decide) (fun c => ?_) (fun c => ?_)
    · replace hv := hv.1 c
      refine gk_iload_n (pc := 11) (DX11_cycles_0.at 7 rfl) 1 rfl rfl ?_
      refine gk_iconst (pc := 12) (nI 2) (DX11_cycles_0.at 8 rfl) ci_2 ?_
      refine gk_icmp_ne (pc := 13) 32 (DX11_cycles_0.at 9 rfl) (by decide) (fun c => ?_) (fun c => ?_)
      · replace hv := hv.1 c
        refine gk_aload_n (pc := 32) (DX11_cycles_0.at 16 rfl) 0 rfl rfl ?_
        obtain ⟨fs1, v1, q1, r1, hv⟩ := hv
        refine gk_get (pc := 33) (.ref v1) (DX11_cycles_0.at 17 rfl) fX11_12_10 q1 r1 ?_
        obtain ⟨fs2, v2, q2, r2, hv⟩ := hv
        refine gk_get (pc := 36) (.ref v2) (DX11_cycles_0.at 18 rfl) fX11_52_7 q2 r2 ?_
        refine gk_iload_n (pc := 39) (DX11_cycles_0.at 19 rfl) 1 rfl rfl ?_
        obtain ⟨⟨fs3, q3⟩, hv⟩ := hv
        refine gk_vV (pc := 40) [.int x1] [] (DX11_cycles_0.at 20 rfl) cvX11_171 q3 rfl rfl (Nat.le_of_ble_eq_true rfl) (Nat.le_of_ble_eq_true rfl) (gk_Run.post (fun o h3 z => ?_) hv)
        obtain ⟨v3, rfl, hv⟩ := z
        exact gk_ireturn (pc := 43) .int (DX11_cycles_0.at 21 rfl) rfl rfl ⟨_, rfl, hv⟩
      · replace hv := hv.2 c
        refine gk_aload_n (pc := 16) (DX11_cycles_0.at 10 rfl) 0 rfl rfl ?_
        obtain ⟨fs4, v4, q4, r4, hv⟩ := hv
        refine gk_get (pc := 17) (.ref v4) (DX11_cycles_0.at 11 rfl) fX11_12_10 q4 r4 ?_
        obtain ⟨fs5, v5, q5, r5, hv⟩ := hv
        refine gk_get (pc := 20) (.ref v5) (DX11_cycles_0.at 12 rfl) fX11_52_7 q5 r5 ?_
        obtain ⟨fs6, v6, q6, r6, hv⟩ := hv
        refine gk_get (pc := 23) (.long v6) (DX11_cycles_0.at 13 rfl) fX11_163_8 q6 r6 ?_
        refine gk_vS (pc := 26) [.long v6] [] (DX11_cycles_0.at 14 rfl) csX11_167 rfl rfl (Nat.le_of_ble_eq_true rfl) (Nat.le_of_ble_eq_true rfl) (gk_Run.post (fun o h7 z => ?_) hv)
        obtain ⟨v7, rfl, hv⟩ := z
        refine gk_goto (pc := 29) 43 (DX11_cycles_0.at 15 rfl) (by decide) ?_
        exact gk_ireturn (pc := 43) .int (DX11_cycles_0.at 21 rfl) rfl rfl ⟨_, rfl, hv⟩
    · replace hv := hv.2 c
      refine gk_iconst (pc := 9) ((-1)) (DX11_cycles_0.at 5 rfl) ci_m1 ?_
      exact gk_ireturn (pc := 10) .int (DX11_cycles_0.at 6 rfl) rfl rfl ⟨_, rfl, hv⟩
set_option maxHeartbeats 4000000 in
theorem vX11_drop_0 {E : gk_E} {dd : Nat} {o : Nat} {x1 : Int32}  {h : gk_H} {K : Int32 → gk_H → Prop} (hv : RnI E mX11_isNet (dd, 0, 0) [.int x1] h (fun v1 h1 => (¬ v1 = 0 → LdR h1 o 10 0 fun v2 => LdR h1 v2 7 1 fun v3 => AlR 5 h1 v3 x1 fun v4 => LdI h1 v4 3 0 fun v5 => (¬ v5 = 0 → LdI h1 v4 3 0 fun v6 => StI h1 v4 3 0 (v6 - (nI 1)) fun h7 => LdI h7 v4 3 0 fun v8 => K v8 h7) ∧ (v5 = 0 → K ((-3)) h1)) ∧ (v1 = 0 → K ((-1)) h1))) : RnI E mX11_drop (dd + 1, 0, 0) [.ref o, .int x1] h K := by
  show gk_G E mX11_drop (dd + 1, 0, 0) 0 [(0, .ref o), (1, .int x1)] [] h (fun o h1 => ∃ v, o = some (.int v) ∧ K v h1)
  refine gk_iload_n (pc := 0) (DX11_drop_0.at 0 rfl) 1 rfl rfl ?_
  refine gk_vS (pc := 1) [.int x1] [] (DX11_drop_0.at 1 rfl) csX11_174 rfl rfl (Nat.le_of_ble_eq_true rfl) (Nat.le_of_ble_eq_true rfl) (gk_Run.post (fun o h1 z => ?_) hv)
  obtain ⟨v1, rfl, hv⟩ := z
  refine gk_if_ne (pc := 4) 9 (DX11_drop_0.at 2 rfl) (by decide) (fun c => ?_) (fun c => ?_)
  · replace hv := hv.1 c
    refine gk_aload_n (pc := 9) (DX11_drop_0.at 5 rfl) 0 rfl rfl ?_
    obtain ⟨fs2, v2, q2, r2, hv⟩ := hv
    refine gk_get (pc := 10) (.ref v2) (DX11_drop_0.at 6 rfl) fX11_12_10 q2 r2 ?_
    obtain ⟨fs3, v3, q3, r3, hv⟩ := hv
    refine gk_get (pc := 13) (.ref v3) (DX11_drop_0.at 7 rfl) fX11_177_7 q3 r3 ?_
    refine gk_iload_n (pc := 16) (DX11_drop_0.at 8 rfl) 1 rfl rfl ?_
    obtain ⟨n4, f4, v4, q4, r4, e4, hv⟩ := hv
    refine gk_aald5 (pc := 17) v4 (DX11_drop_0.at 9 rfl) q4 r4 e4 ?_
    refine gk_astore_n (pc := 18) [(2, .ref v4), (0, .ref o), (1, .int x1)] (DX11_drop_0.at 10 rfl) rfl (Nat.le_of_ble_eq_true rfl) rfl ?_
    refine gk_aload_n (pc := 19) (DX11_drop_0.at 11 rfl) 0 rfl rfl ?_
    obtain ⟨fs5, v5, q5, r5, hv⟩ := hv
    refine gk_get (pc := 20) (.int v5) (DX11_drop_0.at 12 rfl) fX11_181_3 q5 r5 ?_
    refine gk_if_ne (pc := 23) 29 (DX11_drop_0.at 13 rfl) (by decide) (fun c => ?_) (fun c => ?_)
    · replace hv := hv.1 c
      refine gk_aload_n (pc := 29) (DX11_drop_0.at 16 rfl) 0 rfl rfl ?_
      refine gk_dup (pc := 30) (DX11_drop_0.at 17 rfl) rfl ?_
      obtain ⟨fs6, v6, q6, r6, hv⟩ := hv
      refine gk_get (pc := 31) (.int v6) (DX11_drop_0.at 18 rfl) fX11_181_3 q6 r6 ?_
      refine gk_iconst (pc := 34) (nI 1) (DX11_drop_0.at 19 rfl) ci_1 ?_
      refine gk_isub (pc := 35) (DX11_drop_0.at 20 rfl) ?_
      obtain ⟨fs7, q7, r7, hv⟩ := hv
      refine gk_put (pc := 36) (DX11_drop_0.at 21 rfl) fX11_181_3w q7 r7 rfl rfl ?_
      generalize h1.set _ _ = h7 at hv ⊢
      refine gk_aload_n (pc := 39) (DX11_drop_0.at 22 rfl) 0 rfl rfl ?_
      obtain ⟨fs8, v8, q8, r8, hv⟩ := hv
      refine gk_get (pc := 40) (.int v8) (DX11_drop_0.at 23 rfl) fX11_181_3 q8 r8 ?_
      exact gk_ireturn (pc := 43) .int (DX11_drop_0.at 24 rfl) rfl rfl ⟨_, rfl, hv⟩
    · replace hv := hv.2 c
      refine gk_bipush (pc := 26) ((-3)) (DX11_drop_0.at 14 rfl) cb_m3 ?_
      exact gk_ireturn (pc := 28) .int (DX11_drop_0.at 15 rfl) rfl rfl ⟨_, rfl, hv⟩
  · replace hv := hv.2 c
    refine gk_iconst (pc := 7) ((-1)) (DX11_drop_0.at 3 rfl) ci_m1 ?_
    exact gk_ireturn (pc := 8) .int (DX11_drop_0.at 4 rfl) rfl rfl ⟨_, rfl, hv⟩
abbrev pX11_equivalence_11 (E : gk_E) (dd : Nat) (o : Nat) (x1 : Int32) (x2 : Int32) (x3 : Int32) (h : gk_H) (K : Int32 → gk_H → Prop) : Prop := gk_G E mX11_equivalence (dd + 1, 0, 0) 11 [(0, .ref o), (1, .int x1), (2, .int x2), (3, .int x3)] [] h (fun o h1 => ∃ v, o = some (.int v) ∧ K v h1)
set_option maxHeartbeats 4000000 in
theorem vX11_equivalence_0 {E : gk_E} {dd : Nat} {o : Nat} {x1 : Int32}  {h : gk_H} {K : Int32 → gk_H → Prop} (hv : (((-1)) ≤ x1 → pX11_equivalence_11 E dd o x1 (nI 0) (nI 0) h K) ∧ (¬ ((-1)) ≤ x1 → K ((-1)) h)) : RnI E mX11_equivalence (dd + 1, 0, 0) [.ref o, .int x1] h K := by
  show gk_G E mX11_equivalence (dd + 1, 0, 0) 0 [(0, .ref o), (1, .int x1)] [] h (fun o h1 => ∃ v, o = some (.int v) ∧ K v h1)
  refine gk_iload_n (pc := 0) (DX11_equivalence_0.at 0 rfl) 1 rfl rfl ?_
  refine gk_iconst (pc := 1) ((-1)) (DX11_equivalence_0.at 1 rfl) ci_m1 ?_
  refine gk_icmp_ge (pc := 2) 7 (DX11_equivalence_0.at 2 rfl) (by decide) (fun c => ?_) (fun c => ?_)
  · replace hv := hv.1 c
    refine gk_iconst (pc := 7) (nI 0) (DX11_equivalence_0.at 5 rfl) ci_0 ?_
    refine gk_istore_n (pc := 8) [(2, .int (nI 0)), (0, .ref o), (1, .int x1)] (DX11_equivalence_0.at 6 rfl) rfl (Nat.le_of_ble_eq_true rfl) rfl ?_
    refine gk_iconst (pc := 9) (nI 0) (DX11_equivalence_0.at 7 rfl) ci_0 ?_
    refine gk_istore_n (pc := 10) [(3, .int (nI 0)), (2, .int (nI 0)), (0, .ref o), (1, .int x1)] (DX11_equivalence_0.at 8 rfl) rfl (Nat.le_of_ble_eq_true rfl) rfl ?_
    exact gk_pick (pc := 11) [(0, .ref o), (1, .int x1), (2, .int (nI 0)), (3, .int (nI 0))] [2, 3, 1, 0] rfl hv
  · replace hv := hv.2 c
    refine gk_iconst (pc := 5) ((-1)) (DX11_equivalence_0.at 3 rfl) ci_m1 ?_
    exact gk_ireturn (pc := 6) .int (DX11_equivalence_0.at 4 rfl) rfl rfl ⟨_, rfl, hv⟩
set_option maxHeartbeats 4000000 in
theorem vX11_equivalence_11 {E : gk_E} {dd : Nat} {o : Nat} {x1 : Int32} {x2 : Int32} {x3 : Int32}  {h : gk_H} {K : Int32 → gk_H → Prop} (hv : LdR h o 10 0 fun v1 => LdR h v1 7 0 fun v2 => (∃ fs, h[v2]? = some (.inr (8, fs))) ∧ RnI E mX8_relations (dd, 0, 0) [.ref v2] h (fun v3 h3 => (v3 ≤ x3 → (¬ x1 = ((-1)) → K ((-1)) h3) ∧ (x1 = ((-1)) → K x2 h3)) ∧ (¬ v3 ≤ x3 → LdR h3 o 10 0 fun v4 => LdR h3 v4 7 0 fun v5 => (∃ fs, h3[v5]? = some (.inr (8, fs))) ∧ RnI E mX8_isEquivalence (dd, 0, 0) [.ref v5, .int x3] h3 (fun v6 h6 => (v6 = 0 → pX11_equivalence_11 E dd o x1 x2 (x3 + nI 1) h6 K) ∧ (¬ v6 = 0 → (¬ x2 = x1 → pX11_equivalence_11 E dd o x1 (x2 + nI 1) (x3 + nI 1) h6 K) ∧ (x2 = x1 → K x3 h6)))))) : pX11_equivalence_11 E dd o x1 x2 x3 h K := by
  show gk_G E mX11_equivalence (dd + 1, 0, 0) 11 [(0, .ref o), (1, .int x1), (2, .int x2), (3, .int x3)] [] h (fun o h1 => ∃ v, o = some (.int v) ∧ K v h1)
  refine gk_iload_n (pc := 11) (DX11_equivalence_0.at 9 rfl) 3 rfl rfl ?_
  refine gk_aload_n (pc := 12) (DX11_equivalence_0.at 10 rfl) 0 rfl rfl ?_
  obtain ⟨fs1, v1, q1, r1, hv⟩ := hv
  refine gk_get (pc := 13) (.ref v1) (DX11_equivalence_0.at 11 rfl) fX11_12_10 q1 r1 ?_
  obtain ⟨fs2, v2, q2, r2, hv⟩ := hv
  refine gk_get (pc := 16) (.ref v2) (DX11_equivalence_0.at 12 rfl) fX11_52_7 q2 r2 ?_
  obtain ⟨⟨fs3, q3⟩, hv⟩ := hv
  refine gk_vV (pc := 19) [] [.int x3] (DX11_equivalence_0.at 13 rfl) cvX11_146 q3 rfl rfl (Nat.le_of_ble_eq_true rfl) (Nat.le_of_ble_eq_true rfl) (gk_Run.post (fun o h3 z => ?_) hv)
  obtain ⟨v3, rfl, hv⟩ := z
  refine gk_icmp_ge (pc := 22) 55 (DX11_equivalence_0.at 14 rfl) (by decide) (fun c => ?_) (fun c => ?_)
  · replace hv := hv.1 c
    refine gk_iload_n (pc := 55) (DX11_equivalence_0.at 29 rfl) 1 rfl rfl ?_
    refine gk_iconst (pc := 56) ((-1)) (DX11_equivalence_0.at 30 rfl) ci_m1 ?_
    refine gk_icmp_ne (pc := 57) 64 (DX11_equivalence_0.at 31 rfl) (by decide) (fun c => ?_) (fun c => ?_)
    · replace hv := hv.1 c
      refine gk_iconst (pc := 64) ((-1)) (DX11_equivalence_0.at 34 rfl) ci_m1 ?_
      exact gk_ireturn (pc := 65) .int (DX11_equivalence_0.at 35 rfl) rfl rfl ⟨_, rfl, hv⟩
    · replace hv := hv.2 c
      refine gk_iload_n (pc := 60) (DX11_equivalence_0.at 32 rfl) 2 rfl rfl ?_
      refine gk_goto (pc := 61) 65 (DX11_equivalence_0.at 33 rfl) (by decide) ?_
      exact gk_ireturn (pc := 65) .int (DX11_equivalence_0.at 35 rfl) rfl rfl ⟨_, rfl, hv⟩
  · replace hv := hv.2 c
    refine gk_aload_n (pc := 25) (DX11_equivalence_0.at 15 rfl) 0 rfl rfl ?_
    obtain ⟨fs4, v4, q4, r4, hv⟩ := hv
    refine gk_get (pc := 26) (.ref v4) (DX11_equivalence_0.at 16 rfl) fX11_12_10 q4 r4 ?_
    obtain ⟨fs5, v5, q5, r5, hv⟩ := hv
    refine gk_get (pc := 29) (.ref v5) (DX11_equivalence_0.at 17 rfl) fX11_52_7 q5 r5 ?_
    refine gk_iload_n (pc := 32) (DX11_equivalence_0.at 18 rfl) 3 rfl rfl ?_
    obtain ⟨⟨fs6, q6⟩, hv⟩ := hv
    refine gk_vV (pc := 33) [.int x3] [] (DX11_equivalence_0.at 19 rfl) cvX11_149 q6 rfl rfl (Nat.le_of_ble_eq_true rfl) (Nat.le_of_ble_eq_true rfl) (gk_Run.post (fun o h6 z => ?_) hv)
    obtain ⟨v6, rfl, hv⟩ := z
    refine gk_if_eq (pc := 36) 49 (DX11_equivalence_0.at 20 rfl) (by decide) (fun c => ?_) (fun c => ?_)
    · replace hv := hv.1 c
      refine gk_iinc (pc := 49) (x3 + nI 1) [(3, .int (x3 + nI 1)), (0, .ref o), (1, .int x1), (2, .int x2)] 3 (DX11_equivalence_0.at 27 rfl) rfl (by rw [ci_1]) (Nat.le_of_ble_eq_true rfl) rfl ?_
      refine gk_goto (pc := 52) 11 (DX11_equivalence_0.at 28 rfl) (by decide) ?_
      exact gk_pick (pc := 11) [(0, .ref o), (1, .int x1), (2, .int x2), (3, .int (x3 + nI 1))] [1, 2, 3, 0] rfl hv
    · replace hv := hv.2 c
      refine gk_iload_n (pc := 39) (DX11_equivalence_0.at 21 rfl) 2 rfl rfl ?_
      refine gk_iload_n (pc := 40) (DX11_equivalence_0.at 22 rfl) 1 rfl rfl ?_
      refine gk_icmp_ne (pc := 41) 46 (DX11_equivalence_0.at 23 rfl) (by decide) (fun c => ?_) (fun c => ?_)
      · replace hv := hv.1 c
        refine gk_iinc (pc := 46) (x2 + nI 1) [(2, .int (x2 + nI 1)), (0, .ref o), (1, .int x1), (3, .int x3)] 2 (DX11_equivalence_0.at 26 rfl) rfl (by rw [ci_1]) (Nat.le_of_ble_eq_true rfl) rfl ?_
        refine gk_iinc (pc := 49) (x3 + nI 1) [(3, .int (x3 + nI 1)), (2, .int (x2 + nI 1)), (0, .ref o), (1, .int x1)] 3 (DX11_equivalence_0.at 27 rfl) rfl (by rw [ci_1]) (Nat.le_of_ble_eq_true rfl) rfl ?_
        refine gk_goto (pc := 52) 11 (DX11_equivalence_0.at 28 rfl) (by decide) ?_
        exact gk_pick (pc := 11) [(0, .ref o), (1, .int x1), (2, .int (x2 + nI 1)), (3, .int (x3 + nI 1))] [2, 3, 1, 0] rfl hv
      · replace hv := hv.2 c
        refine gk_iload_n (pc := 44) (DX11_equivalence_0.at 24 rfl) 3 rfl rfl ?_
        exact gk_ireturn (pc := 45) .int (DX11_equivalence_0.at 25 rfl) rfl rfl ⟨_, rfl, hv⟩
set_option maxHeartbeats 4000000 in
theorem vX11_feed_0 {E : gk_E} {dd : Nat} {o : Nat} {x1 : Int32}  {h : gk_H} {K : Int32 → gk_H → Prop} (hv : (x1 < (nI 32) → K ((-2)) h) ∧ (¬ x1 < (nI 32) → (x1 ≤ (nI 126) → LdR h o 10 10 fun v1 => LdI h v1 9 0 fun v2 => (v2 < (nI 100) → LdR h o 10 10 fun v3 => (∃ fs, h[v3]? = some (.inr (9, fs))) ∧ RnV E mX9_append (dd, 0, 0) [.ref v3, .int x1] h (fun h4 => LdR h4 o 10 10 fun v5 => LdI h4 v5 9 0 fun v6 => K v6 h4)) ∧ (¬ v2 < (nI 100) → K ((-4)) h)) ∧ (¬ x1 ≤ (nI 126) → K ((-2)) h))) : RnI E mX11_feed (dd + 1, 0, 0) [.ref o, .int x1] h K := by
  show gk_G E mX11_feed (dd + 1, 0, 0) 0 [(0, .ref o), (1, .int x1)] [] h (fun o h1 => ∃ v, o = some (.int v) ∧ K v h1)
  refine gk_iload_n (pc := 0) (DX11_feed_0.at 0 rfl) 1 rfl rfl ?_
  refine gk_bipush (pc := 1) (nI 32) (DX11_feed_0.at 1 rfl) cb_32 ?_
  refine gk_icmp_lt (pc := 3) 12 (DX11_feed_0.at 2 rfl) (by decide) (fun c => ?_) (fun c => ?_)
  · replace hv := hv.1 c
    refine gk_bipush (pc := 12) ((-2)) (DX11_feed_0.at 6 rfl) cb_m2 ?_
    exact gk_ireturn (pc := 14) .int (DX11_feed_0.at 7 rfl) rfl rfl ⟨_, rfl, hv⟩
  · replace hv := hv.2 c
    refine gk_iload_n (pc := 6) (DX11_feed_0.at 3 rfl) 1 rfl rfl ?_
    refine gk_bipush (pc := 7) (nI 126) (DX11_feed_0.at 4 rfl) cb_126 ?_
    refine gk_icmp_le (pc := 9) 15 (DX11_feed_0.at 5 rfl) (by decide) (fun c => ?_) (fun c => ?_)
    · replace hv := hv.1 c
      refine gk_aload_n (pc := 15) (DX11_feed_0.at 8 rfl) 0 rfl rfl ?_
      obtain ⟨fs1, v1, q1, r1, hv⟩ := hv
      refine gk_get (pc := 16) (.ref v1) (DX11_feed_0.at 9 rfl) fX11_81_10 q1 r1 ?_
      obtain ⟨fs2, v2, q2, r2, hv⟩ := hv
      refine gk_get (pc := 19) (.int v2) (DX11_feed_0.at 10 rfl) fX11_293_9 q2 r2 ?_
      refine gk_bipush (pc := 22) (nI 100) (DX11_feed_0.at 11 rfl) cb_100 ?_
      refine gk_icmp_lt (pc := 24) 30 (DX11_feed_0.at 12 rfl) (by decide) (fun c => ?_) (fun c => ?_)
      · replace hv := hv.1 c
        refine gk_aload_n (pc := 30) (DX11_feed_0.at 15 rfl) 0 rfl rfl ?_
        obtain ⟨fs3, v3, q3, r3, hv⟩ := hv
        refine gk_get (pc := 31) (.ref v3) (DX11_feed_0.at 16 rfl) fX11_81_10 q3 r3 ?_
        refine gk_iload_n (pc := 34) (DX11_feed_0.at 17 rfl) 1 rfl rfl ?_
        obtain ⟨⟨fs4, q4⟩, hv⟩ := hv
        refine gk_vV (pc := 35) [.int x1] [] (DX11_feed_0.at 18 rfl) cvX11_294 q4 rfl rfl (Nat.le_of_ble_eq_true rfl) (Nat.le_of_ble_eq_true rfl) (gk_Run.post (fun o h4 z => ?_) hv)
        obtain ⟨rfl, hv⟩ := z
        refine gk_aload_n (pc := 38) (DX11_feed_0.at 19 rfl) 0 rfl rfl ?_
        obtain ⟨fs5, v5, q5, r5, hv⟩ := hv
        refine gk_get (pc := 39) (.ref v5) (DX11_feed_0.at 20 rfl) fX11_81_10 q5 r5 ?_
        obtain ⟨fs6, v6, q6, r6, hv⟩ := hv
        refine gk_get (pc := 42) (.int v6) (DX11_feed_0.at 21 rfl) fX11_293_9 q6 r6 ?_
        exact gk_ireturn (pc := 45) .int (DX11_feed_0.at 22 rfl) rfl rfl ⟨_, rfl, hv⟩
      · replace hv := hv.2 c
        refine gk_bipush (pc := 27) ((-4)) (DX11_feed_0.at 13 rfl) cb_m4 ?_
        exact gk_ireturn (pc := 29) .int (DX11_feed_0.at 14 rfl) rfl rfl ⟨_, rfl, hv⟩
    · replace hv := hv.2 c
      refine gk_bipush (pc := 12) ((-2)) (DX11_feed_0.at 6 rfl) cb_m2 ?_
      exact gk_ireturn (pc := 14) .int (DX11_feed_0.at 7 rfl) rfl rfl ⟨_, rfl, hv⟩
set_option maxHeartbeats 4000000 in
theorem vX11_fills_0 {E : gk_E} {dd : Nat} {o : Nat} {x1 : Int32} {x2 : Int32} {x3 : Int32}  {h : gk_H} {K : Int32 → gk_H → Prop} (hv : RnI E mX11_isNet (dd, 0, 0) [.int x1] h (fun v1 h1 => (v1 = 0 → K ((-1)) h1) ∧ (¬ v1 = 0 → (((-1)) ≤ x3 → LdR h1 o 10 0 fun v2 => LdR h1 v2 7 1 fun v3 => AlR 5 h1 v3 x1 fun v4 => LdR h1 o 10 0 fun v5 => LdR h1 v5 7 0 fun v6 => (∃ fs, h1[v4]? = some (.inr (3, fs))) ∧ RnI E mX3_lacks (dd, 0, 0) [.ref v4, .ref v6, .int x2] h1 (fun v7 h7 => (¬ v7 = 0 → LdR h7 o 10 0 fun v8 => LdR h7 v8 7 0 fun v9 => (∃ fs, h7[v4]? = some (.inr (3, fs))) ∧ RnI E mX3_unsound (dd, 0, 0) [.ref v4, .ref v9] h7 (fun v10 h10 => (v10 = ((-5)) → LdI h10 v4 3 0 fun v11 => (v11 < (nI 6) → LdR h10 o 10 4 fun v12 => (∃ fs, h10[v12]? = some (.inr (1, fs))) ∧ RnI E mX1_way (dd, 0, 0) [.ref v12, .ref v4, .int x2, .int x3] h10 (fun v13 h13 => K v13 h13)) ∧ (¬ v11 < (nI 6) → K ((-4)) h10)) ∧ (¬ v10 = ((-5)) → K ((-3)) h10))) ∧ (v7 = 0 → K ((-2)) h7))) ∧ (¬ ((-1)) ≤ x3 → K ((-1)) h1)))) : RnI E mX11_fills (dd + 1, 0, 0) [.ref o, .int x1, .int x2, .int x3] h K := by
  show gk_G E mX11_fills (dd + 1, 0, 0) 0 [(0, .ref o), (1, .int x1), (2, .int x2), (3, .int x3)] [] h (fun o h1 => ∃ v, o = some (.int v) ∧ K v h1)
  refine gk_iload_n (pc := 0) (DX11_fills_0.at 0 rfl) 1 rfl rfl ?_
  refine gk_vS (pc := 1) [.int x1] [] (DX11_fills_0.at 1 rfl) csX11_174 rfl rfl (Nat.le_of_ble_eq_true rfl) (Nat.le_of_ble_eq_true rfl) (gk_Run.post (fun o h1 z => ?_) hv)
  obtain ⟨v1, rfl, hv⟩ := z
  refine gk_if_eq (pc := 4) 12 (DX11_fills_0.at 2 rfl) (by decide) (fun c => ?_) (fun c => ?_)
  · replace hv := hv.1 c
    refine gk_iconst (pc := 12) ((-1)) (DX11_fills_0.at 6 rfl) ci_m1 ?_
    exact gk_ireturn (pc := 13) .int (DX11_fills_0.at 7 rfl) rfl rfl ⟨_, rfl, hv⟩
  · replace hv := hv.2 c
    refine gk_iload_n (pc := 7) (DX11_fills_0.at 3 rfl) 3 rfl rfl ?_
    refine gk_iconst (pc := 8) ((-1)) (DX11_fills_0.at 4 rfl) ci_m1 ?_
    refine gk_icmp_ge (pc := 9) 14 (DX11_fills_0.at 5 rfl) (by decide) (fun c => ?_) (fun c => ?_)
    · replace hv := hv.1 c
      refine gk_aload_n (pc := 14) (DX11_fills_0.at 8 rfl) 0 rfl rfl ?_
      obtain ⟨fs2, v2, q2, r2, hv⟩ := hv
      refine gk_get (pc := 15) (.ref v2) (DX11_fills_0.at 9 rfl) fX11_12_10 q2 r2 ?_
      obtain ⟨fs3, v3, q3, r3, hv⟩ := hv
      refine gk_get (pc := 18) (.ref v3) (DX11_fills_0.at 10 rfl) fX11_177_7 q3 r3 ?_
      refine gk_iload_n (pc := 21) (DX11_fills_0.at 11 rfl) 1 rfl rfl ?_
      obtain ⟨n4, f4, v4, q4, r4, e4, hv⟩ := hv
      refine gk_aald5 (pc := 22) v4 (DX11_fills_0.at 12 rfl) q4 r4 e4 ?_
      refine gk_astore (pc := 23) [(4, .ref v4), (0, .ref o), (1, .int x1), (2, .int x2), (3, .int x3)] (DX11_fills_0.at 13 rfl) (Nat.le_of_ble_eq_true rfl) rfl ?_
      refine gk_aload (pc := 25) (DX11_fills_0.at 14 rfl) 0 rfl ?_
      refine gk_aload_n (pc := 27) (DX11_fills_0.at 15 rfl) 1 rfl rfl ?_
      obtain ⟨fs5, v5, q5, r5, hv⟩ := hv
      refine gk_get (pc := 28) (.ref v5) (DX11_fills_0.at 16 rfl) fX11_12_10 q5 r5 ?_
      obtain ⟨fs6, v6, q6, r6, hv⟩ := hv
      refine gk_get (pc := 31) (.ref v6) (DX11_fills_0.at 17 rfl) fX11_52_7 q6 r6 ?_
      refine gk_iload_n (pc := 34) (DX11_fills_0.at 18 rfl) 3 rfl rfl ?_
      obtain ⟨⟨fs7, q7⟩, hv⟩ := hv
      refine gk_vV (pc := 35) [.ref v6, .int x2] [] (DX11_fills_0.at 19 rfl) cvX11_217 q7 rfl rfl (Nat.le_of_ble_eq_true rfl) (Nat.le_of_ble_eq_true rfl) (gk_Run.post (fun o h7 z => ?_) hv)
      obtain ⟨v7, rfl, hv⟩ := z
      refine gk_if_ne (pc := 38) 44 (DX11_fills_0.at 20 rfl) (by decide) (fun c => ?_) (fun c => ?_)
      · replace hv := hv.1 c
        refine gk_aload (pc := 44) (DX11_fills_0.at 23 rfl) 0 rfl ?_
        refine gk_aload_n (pc := 46) (DX11_fills_0.at 24 rfl) 1 rfl rfl ?_
        obtain ⟨fs8, v8, q8, r8, hv⟩ := hv
        refine gk_get (pc := 47) (.ref v8) (DX11_fills_0.at 25 rfl) fX11_12_10 q8 r8 ?_
        obtain ⟨fs9, v9, q9, r9, hv⟩ := hv
        refine gk_get (pc := 50) (.ref v9) (DX11_fills_0.at 26 rfl) fX11_52_7 q9 r9 ?_
        obtain ⟨⟨fs10, q10⟩, hv⟩ := hv
        refine gk_vV (pc := 53) [.ref v9] [] (DX11_fills_0.at 27 rfl) cvX11_209 q10 rfl rfl (Nat.le_of_ble_eq_true rfl) (Nat.le_of_ble_eq_true rfl) (gk_Run.post (fun o h10 z => ?_) hv)
        obtain ⟨v10, rfl, hv⟩ := z
        refine gk_bipush (pc := 56) ((-5)) (DX11_fills_0.at 28 rfl) cb_m5 ?_
        refine gk_icmp_eq (pc := 58) 64 (DX11_fills_0.at 29 rfl) (by decide) (fun c => ?_) (fun c => ?_)
        · replace hv := hv.1 c
          refine gk_aload (pc := 64) (DX11_fills_0.at 32 rfl) 0 rfl ?_
          obtain ⟨fs11, v11, q11, r11, hv⟩ := hv
          refine gk_get (pc := 66) (.int v11) (DX11_fills_0.at 33 rfl) fX11_181_3 q11 r11 ?_
          refine gk_bipush (pc := 69) (nI 6) (DX11_fills_0.at 34 rfl) cb_6 ?_
          refine gk_icmp_lt (pc := 71) 77 (DX11_fills_0.at 35 rfl) (by decide) (fun c => ?_) (fun c => ?_)
          · replace hv := hv.1 c
            refine gk_aload_n (pc := 77) (DX11_fills_0.at 38 rfl) 1 rfl rfl ?_
            obtain ⟨fs12, v12, q12, r12, hv⟩ := hv
            refine gk_get (pc := 78) (.ref v12) (DX11_fills_0.at 39 rfl) fX11_39_10 q12 r12 ?_
            refine gk_aload (pc := 81) (DX11_fills_0.at 40 rfl) 0 rfl ?_
            refine gk_iload_n (pc := 83) (DX11_fills_0.at 41 rfl) 3 rfl rfl ?_
            refine gk_iload_n (pc := 84) (DX11_fills_0.at 42 rfl) 4 rfl rfl ?_
            obtain ⟨⟨fs13, q13⟩, hv⟩ := hv
            refine gk_vV (pc := 85) [.ref v4, .int x2, .int x3] [] (DX11_fills_0.at 43 rfl) cvX11_221 q13 rfl rfl (Nat.le_of_ble_eq_true rfl) (Nat.le_of_ble_eq_true rfl) (gk_Run.post (fun o h13 z => ?_) hv)
            obtain ⟨v13, rfl, hv⟩ := z
            exact gk_ireturn (pc := 88) .int (DX11_fills_0.at 44 rfl) rfl rfl ⟨_, rfl, hv⟩
          · replace hv := hv.2 c
            refine gk_bipush (pc := 74) ((-4)) (DX11_fills_0.at 36 rfl) cb_m4 ?_
            exact gk_ireturn (pc := 76) .int (DX11_fills_0.at 37 rfl) rfl rfl ⟨_, rfl, hv⟩
        · replace hv := hv.2 c
          refine gk_bipush (pc := 61) ((-3)) (DX11_fills_0.at 30 rfl) cb_m3 ?_
          exact gk_ireturn (pc := 63) .int (DX11_fills_0.at 31 rfl) rfl rfl ⟨_, rfl, hv⟩
      · replace hv := hv.2 c
        refine gk_bipush (pc := 41) ((-2)) (DX11_fills_0.at 21 rfl) cb_m2 ?_
        exact gk_ireturn (pc := 43) .int (DX11_fills_0.at 22 rfl) rfl rfl ⟨_, rfl, hv⟩
    · replace hv := hv.2 c
      refine gk_iconst (pc := 12) ((-1)) (DX11_fills_0.at 6 rfl) ci_m1 ?_
      exact gk_ireturn (pc := 13) .int (DX11_fills_0.at 7 rfl) rfl rfl ⟨_, rfl, hv⟩
set_option maxHeartbeats 4000000 in
theorem vX11_forbid_0 {E : gk_E} {dd : Nat} {o : Nat} {x1 : Int32}  {h : gk_H} {K : Int32 → gk_H → Prop} (hv : (x1 = ((-1)) → LdR h o 10 0 fun v1 => LdI h v1 7 3 fun v2 => (v2 = 0 → LdR h o 10 0 fun v3 => (x1 = ((-1)) → StI h v3 7 3 (nI 0) fun h4 => LdR h4 o 10 0 fun v5 => LdI h4 v5 7 3 fun v6 => (v6 = 0 → K ((-5)) h4) ∧ (¬ v6 = 0 → LdR h4 o 10 0 fun v7 => LdR h4 v7 7 2 fun v8 => LdR h4 o 10 0 fun v9 => LdR h4 v9 7 1 fun v10 => AlR 5 h4 v10 x1 fun v11 => (∃ fs, h4[v8]? = some (.inr (3, fs))) ∧ RnV E mX3_become (dd, 0, 0) [.ref v8, .ref v11] h4 (fun h12 => K ((-5)) h12))) ∧ (¬ x1 = ((-1)) → StI h v3 7 3 (nI 1) fun h13 => LdR h13 o 10 0 fun v14 => LdI h13 v14 7 3 fun v15 => (v15 = 0 → K ((-5)) h13) ∧ (¬ v15 = 0 → LdR h13 o 10 0 fun v16 => LdR h13 v16 7 2 fun v17 => LdR h13 o 10 0 fun v18 => LdR h13 v18 7 1 fun v19 => AlR 5 h13 v19 x1 fun v20 => (∃ fs, h13[v17]? = some (.inr (3, fs))) ∧ RnV E mX3_become (dd, 0, 0) [.ref v17, .ref v20] h13 (fun h21 => K ((-5)) h21)))) ∧ (¬ v2 = 0 → LdR h o 10 0 fun v22 => LdR h v22 7 2 fun v23 => LdI h v23 3 0 fun v24 => LdR h o 10 0 fun v25 => (x1 = ((-1)) → StI h v25 7 3 (nI 0) fun h26 => LdR h26 o 10 0 fun v27 => LdI h26 v27 7 3 fun v28 => (v28 = 0 → K v24 h26) ∧ (¬ v28 = 0 → LdR h26 o 10 0 fun v29 => LdR h26 v29 7 2 fun v30 => LdR h26 o 10 0 fun v31 => LdR h26 v31 7 1 fun v32 => AlR 5 h26 v32 x1 fun v33 => (∃ fs, h26[v30]? = some (.inr (3, fs))) ∧ RnV E mX3_become (dd, 0, 0) [.ref v30, .ref v33] h26 (fun h34 => K v24 h34))) ∧ (¬ x1 = ((-1)) → StI h v25 7 3 (nI 1) fun h35 => LdR h35 o 10 0 fun v36 => LdI h35 v36 7 3 fun v37 => (v37 = 0 → K v24 h35) ∧ (¬ v37 = 0 → LdR h35 o 10 0 fun v38 => LdR h35 v38 7 2 fun v39 => LdR h35 o 10 0 fun v40 => LdR h35 v40 7 1 fun v41 => AlR 5 h35 v41 x1 fun v42 => (∃ fs, h35[v39]? = some (.inr (3, fs))) ∧ RnV E mX3_become (dd, 0, 0) [.ref v39, .ref v42] h35 (fun h43 => K v24 h43))))) ∧ (¬ x1 = ((-1)) → RnI E mX11_isNet (dd, 0, 0) [.int x1] h (fun v44 h44 => (¬ v44 = 0 → LdR h44 o 10 0 fun v45 => LdI h44 v45 7 3 fun v46 => (v46 = 0 → LdR h44 o 10 0 fun v47 => (x1 = ((-1)) → StI h44 v47 7 3 (nI 0) fun h48 => LdR h48 o 10 0 fun v49 => LdI h48 v49 7 3 fun v50 => (v50 = 0 → K ((-5)) h48) ∧ (¬ v50 = 0 → LdR h48 o 10 0 fun v51 => LdR h48 v51 7 2 fun v52 => LdR h48 o 10 0 fun v53 => LdR h48 v53 7 1 fun v54 => AlR 5 h48 v54 x1 fun v55 => (∃ fs, h48[v52]? = some (.inr (3, fs))) ∧ RnV E mX3_become (dd, 0, 0) [.ref v52, .ref v55] h48 (fun h56 => K ((-5)) h56))) ∧ (¬ x1 = ((-1)) → StI h44 v47 7 3 (nI 1) fun h57 => LdR h57 o 10 0 fun v58 => LdI h57 v58 7 3 fun v59 => (v59 = 0 → K ((-5)) h57) ∧ (¬ v59 = 0 → LdR h57 o 10 0 fun v60 => LdR h57 v60 7 2 fun v61 => LdR h57 o 10 0 fun v62 => LdR h57 v62 7 1 fun v63 => AlR 5 h57 v63 x1 fun v64 => (∃ fs, h57[v61]? = some (.inr (3, fs))) ∧ RnV E mX3_become (dd, 0, 0) [.ref v61, .ref v64] h57 (fun h65 => K ((-5)) h65)))) ∧ (¬ v46 = 0 → LdR h44 o 10 0 fun v66 => LdR h44 v66 7 2 fun v67 => LdI h44 v67 3 0 fun v68 => LdR h44 o 10 0 fun v69 => (x1 = ((-1)) → StI h44 v69 7 3 (nI 0) fun h70 => LdR h70 o 10 0 fun v71 => LdI h70 v71 7 3 fun v72 => (v72 = 0 → K v68 h70) ∧ (¬ v72 = 0 → LdR h70 o 10 0 fun v73 => LdR h70 v73 7 2 fun v74 => LdR h70 o 10 0 fun v75 => LdR h70 v75 7 1 fun v76 => AlR 5 h70 v76 x1 fun v77 => (∃ fs, h70[v74]? = some (.inr (3, fs))) ∧ RnV E mX3_become (dd, 0, 0) [.ref v74, .ref v77] h70 (fun h78 => K v68 h78))) ∧ (¬ x1 = ((-1)) → StI h44 v69 7 3 (nI 1) fun h79 => LdR h79 o 10 0 fun v80 => LdI h79 v80 7 3 fun v81 => (v81 = 0 → K v68 h79) ∧ (¬ v81 = 0 → LdR h79 o 10 0 fun v82 => LdR h79 v82 7 2 fun v83 => LdR h79 o 10 0 fun v84 => LdR h79 v84 7 1 fun v85 => AlR 5 h79 v85 x1 fun v86 => (∃ fs, h79[v83]? = some (.inr (3, fs))) ∧ RnV E mX3_become (dd, 0, 0) [.ref v83, .ref v86] h79 (fun h87 => K v68 h87))))) ∧ (v44 = 0 → K ((-1)) h44)))) : RnI E mX11_forbid (dd + 1, 0, 0) [.ref o, .int x1] h K := by
  show gk_G E mX11_forbid (dd + 1, 0, 0) 0 [(0, .ref o), (1, .int x1)] [] h (fun o h1 => ∃ v, o = some (.int v) ∧ K v h1)
  refine gk_iload_n (pc := 0) (DX11_forbid_0.at 0 rfl) 1 rfl rfl ?_
  refine gk_iconst (pc := 1) ((-1)) (DX11_forbid_0.at 1 rfl) ci_m1 ?_
  refine gk_icmp_eq (pc := 2) 14 (DX11_forbid_0.at 2 rfl) (by decide) (fun c => ?_) (fun c => ?_)
  · replace hv := hv.1 c
    refine gk_aload_n (pc := 14) (DX11_forbid_0.at 8 rfl) 0 rfl rfl ?_
    obtain ⟨fs1, v1, q1, r1, hv⟩ := hv
    refine gk_get (pc := 15) (.ref v1) (DX11_forbid_0.at 9 rfl) fX11_12_10 q1 r1 ?_
    obtain ⟨fs2, v2, q2, r2, hv⟩ := hv
    refine gk_get (pc := 18) (.int v2) (DX11_forbid_0.at 10 rfl) fX11_228_7 q2 r2 ?_
    refine gk_if_eq (pc := 21) 37 (DX11_forbid_0.at 11 rfl) (by decide) (fun c => ?_) (fun c => ?_)
    · replace hv := hv.1 c
      refine gk_bipush (pc := 37) ((-5)) (DX11_forbid_0.at 17 rfl) cb_m5 ?_
      refine gk_istore_n (pc := 39) [(2, .int ((-5))), (0, .ref o), (1, .int x1)] (DX11_forbid_0.at 18 rfl) rfl (Nat.le_of_ble_eq_true rfl) rfl ?_
      refine gk_aload_n (pc := 40) (DX11_forbid_0.at 19 rfl) 1 rfl rfl ?_
      obtain ⟨fs3, v3, q3, r3, hv⟩ := hv
      refine gk_get (pc := 41) (.ref v3) (DX11_forbid_0.at 20 rfl) fX11_12_10 q3 r3 ?_
      refine gk_iload_n (pc := 44) (DX11_forbid_0.at 21 rfl) 2 rfl rfl ?_
      refine gk_iconst (pc := 45) ((-1)) (DX11_forbid_0.at 22 rfl) ci_m1 ?_
      refine gk_icmp_eq (pc := 46) 53 (DX11_forbid_0.at 23 rfl) (by decide) (fun c => ?_) (fun c => ?_)
      · replace hv := hv.1 c
        refine gk_iconst (pc := 53) (nI 0) (DX11_forbid_0.at 26 rfl) ci_0 ?_
        obtain ⟨fs4, q4, r4, hv⟩ := hv
        refine gk_put (pc := 54) (DX11_forbid_0.at 27 rfl) fX11_228_7w q4 r4 rfl rfl ?_
        generalize h.set _ _ = h4 at hv ⊢
        refine gk_aload_n (pc := 57) (DX11_forbid_0.at 28 rfl) 1 rfl rfl ?_
        obtain ⟨fs5, v5, q5, r5, hv⟩ := hv
        refine gk_get (pc := 58) (.ref v5) (DX11_forbid_0.at 29 rfl) fX11_12_10 q5 r5 ?_
        obtain ⟨fs6, v6, q6, r6, hv⟩ := hv
        refine gk_get (pc := 61) (.int v6) (DX11_forbid_0.at 30 rfl) fX11_228_7 q6 r6 ?_
        refine gk_if_eq (pc := 64) 86 (DX11_forbid_0.at 31 rfl) (by decide) (fun c => ?_) (fun c => ?_)
        · replace hv := hv.1 c
          refine gk_iload_n (pc := 86) (DX11_forbid_0.at 41 rfl) 0 rfl rfl ?_
          exact gk_ireturn (pc := 87) .int (DX11_forbid_0.at 42 rfl) rfl rfl ⟨_, rfl, hv⟩
        · replace hv := hv.2 c
          refine gk_aload_n (pc := 67) (DX11_forbid_0.at 32 rfl) 1 rfl rfl ?_
          obtain ⟨fs7, v7, q7, r7, hv⟩ := hv
          refine gk_get (pc := 68) (.ref v7) (DX11_forbid_0.at 33 rfl) fX11_12_10 q7 r7 ?_
          obtain ⟨fs8, v8, q8, r8, hv⟩ := hv
          refine gk_get (pc := 71) (.ref v8) (DX11_forbid_0.at 34 rfl) fX11_231_7 q8 r8 ?_
          refine gk_aload_n (pc := 74) (DX11_forbid_0.at 35 rfl) 1 rfl rfl ?_
          obtain ⟨fs9, v9, q9, r9, hv⟩ := hv
          refine gk_get (pc := 75) (.ref v9) (DX11_forbid_0.at 36 rfl) fX11_12_10 q9 r9 ?_
          obtain ⟨fs10, v10, q10, r10, hv⟩ := hv
          refine gk_get (pc := 78) (.ref v10) (DX11_forbid_0.at 37 rfl) fX11_177_7 q10 r10 ?_
          refine gk_iload_n (pc := 81) (DX11_forbid_0.at 38 rfl) 2 rfl rfl ?_
          obtain ⟨n11, f11, v11, q11, r11, e11, hv⟩ := hv
          refine gk_aald5 (pc := 82) v11 (DX11_forbid_0.at 39 rfl) q11 r11 e11 ?_
          obtain ⟨⟨fs12, q12⟩, hv⟩ := hv
          refine gk_vV (pc := 83) [.ref v11] [] (DX11_forbid_0.at 40 rfl) cvX11_205 q12 rfl rfl (Nat.le_of_ble_eq_true rfl) (Nat.le_of_ble_eq_true rfl) (gk_Run.post (fun o h12 z => ?_) hv)
          obtain ⟨rfl, hv⟩ := z
          refine gk_iload_n (pc := 86) (DX11_forbid_0.at 41 rfl) 0 rfl rfl ?_
          exact gk_ireturn (pc := 87) .int (DX11_forbid_0.at 42 rfl) rfl rfl ⟨_, rfl, hv⟩
      · replace hv := hv.2 c
        refine gk_iconst (pc := 49) (nI 1) (DX11_forbid_0.at 24 rfl) ci_1 ?_
        refine gk_goto (pc := 50) 54 (DX11_forbid_0.at 25 rfl) (by decide) ?_
        obtain ⟨fs13, q13, r13, hv⟩ := hv
        refine gk_put (pc := 54) (DX11_forbid_0.at 27 rfl) fX11_228_7w q13 r13 rfl rfl ?_
        generalize h.set _ _ = h13 at hv ⊢
        refine gk_aload_n (pc := 57) (DX11_forbid_0.at 28 rfl) 1 rfl rfl ?_
        obtain ⟨fs14, v14, q14, r14, hv⟩ := hv
        refine gk_get (pc := 58) (.ref v14) (DX11_forbid_0.at 29 rfl) fX11_12_10 q14 r14 ?_
        obtain ⟨fs15, v15, q15, r15, hv⟩ := hv
        refine gk_get (pc := 61) (.int v15) (DX11_forbid_0.at 30 rfl) fX11_228_7 q15 r15 ?_
        refine gk_if_eq (pc := 64) 86 (DX11_forbid_0.at 31 rfl) (by decide) (fun c => ?_) (fun c => ?_)
        · replace hv := hv.1 c
          refine gk_iload_n (pc := 86) (DX11_forbid_0.at 41 rfl) 0 rfl rfl ?_
          exact gk_ireturn (pc := 87) .int (DX11_forbid_0.at 42 rfl) rfl rfl ⟨_, rfl, hv⟩
        · replace hv := hv.2 c
          refine gk_aload_n (pc := 67) (DX11_forbid_0.at 32 rfl) 1 rfl rfl ?_
          obtain ⟨fs16, v16, q16, r16, hv⟩ := hv
          refine gk_get (pc := 68) (.ref v16) (DX11_forbid_0.at 33 rfl) fX11_12_10 q16 r16 ?_
          obtain ⟨fs17, v17, q17, r17, hv⟩ := hv
          refine gk_get (pc := 71) (.ref v17) (DX11_forbid_0.at 34 rfl) fX11_231_7 q17 r17 ?_
          refine gk_aload_n (pc := 74) (DX11_forbid_0.at 35 rfl) 1 rfl rfl ?_
          obtain ⟨fs18, v18, q18, r18, hv⟩ := hv
          refine gk_get (pc := 75) (.ref v18) (DX11_forbid_0.at 36 rfl) fX11_12_10 q18 r18 ?_
          obtain ⟨fs19, v19, q19, r19, hv⟩ := hv
          refine gk_get (pc := 78) (.ref v19) (DX11_forbid_0.at 37 rfl) fX11_177_7 q19 r19 ?_
          refine gk_iload_n (pc := 81) (DX11_forbid_0.at 38 rfl) 2 rfl rfl ?_
          obtain ⟨n20, f20, v20, q20, r20, e20, hv⟩ := hv
          refine gk_aald5 (pc := 82) v20 (DX11_forbid_0.at 39 rfl) q20 r20 e20 ?_
          obtain ⟨⟨fs21, q21⟩, hv⟩ := hv
          refine gk_vV (pc := 83) [.ref v20] [] (DX11_forbid_0.at 40 rfl) cvX11_205 q21 rfl rfl (Nat.le_of_ble_eq_true rfl) (Nat.le_of_ble_eq_true rfl) (gk_Run.post (fun o h21 z => ?_) hv)
          obtain ⟨rfl, hv⟩ := z
          refine gk_iload_n (pc := 86) (DX11_forbid_0.at 41 rfl) 0 rfl rfl ?_
          exact gk_ireturn (pc := 87) .int (DX11_forbid_0.at 42 rfl) rfl rfl ⟨_, rfl, hv⟩
    · replace hv := hv.2 c
      refine gk_aload_n (pc := 24) (DX11_forbid_0.at 12 rfl) 0 rfl rfl ?_
      obtain ⟨fs22, v22, q22, r22, hv⟩ := hv
      refine gk_get (pc := 25) (.ref v22) (DX11_forbid_0.at 13 rfl) fX11_12_10 q22 r22 ?_
      obtain ⟨fs23, v23, q23, r23, hv⟩ := hv
      refine gk_get (pc := 28) (.ref v23) (DX11_forbid_0.at 14 rfl) fX11_231_7 q23 r23 ?_
      obtain ⟨fs24, v24, q24, r24, hv⟩ := hv
      refine gk_get (pc := 31) (.int v24) (DX11_forbid_0.at 15 rfl) fX11_181_3 q24 r24 ?_
      refine gk_goto (pc := 34) 39 (DX11_forbid_0.at 16 rfl) (by decide) ?_
      refine gk_istore_n (pc := 39) [(2, .int v24), (0, .ref o), (1, .int x1)] (DX11_forbid_0.at 18 rfl) rfl (Nat.le_of_ble_eq_true rfl) rfl ?_
      refine gk_aload_n (pc := 40) (DX11_forbid_0.at 19 rfl) 1 rfl rfl ?_
      obtain ⟨fs25, v25, q25, r25, hv⟩ := hv
      refine gk_get (pc := 41) (.ref v25) (DX11_forbid_0.at 20 rfl) fX11_12_10 q25 r25 ?_
      refine gk_iload_n (pc := 44) (DX11_forbid_0.at 21 rfl) 2 rfl rfl ?_
      refine gk_iconst (pc := 45) ((-1)) (DX11_forbid_0.at 22 rfl) ci_m1 ?_
      refine gk_icmp_eq (pc := 46) 53 (DX11_forbid_0.at 23 rfl) (by decide) (fun c => ?_) (fun c => ?_)
      · replace hv := hv.1 c
        refine gk_iconst (pc := 53) (nI 0) (DX11_forbid_0.at 26 rfl) ci_0 ?_
        obtain ⟨fs26, q26, r26, hv⟩ := hv
        refine gk_put (pc := 54) (DX11_forbid_0.at 27 rfl) fX11_228_7w q26 r26 rfl rfl ?_
        generalize h.set _ _ = h26 at hv ⊢
        refine gk_aload_n (pc := 57) (DX11_forbid_0.at 28 rfl) 1 rfl rfl ?_
        obtain ⟨fs27, v27, q27, r27, hv⟩ := hv
        refine gk_get (pc := 58) (.ref v27) (DX11_forbid_0.at 29 rfl) fX11_12_10 q27 r27 ?_
        obtain ⟨fs28, v28, q28, r28, hv⟩ := hv
        refine gk_get (pc := 61) (.int v28) (DX11_forbid_0.at 30 rfl) fX11_228_7 q28 r28 ?_
        refine gk_if_eq (pc := 64) 86 (DX11_forbid_0.at 31 rfl) (by decide) (fun c => ?_) (fun c => ?_)
        · replace hv := hv.1 c
          refine gk_iload_n (pc := 86) (DX11_forbid_0.at 41 rfl) 0 rfl rfl ?_
          exact gk_ireturn (pc := 87) .int (DX11_forbid_0.at 42 rfl) rfl rfl ⟨_, rfl, hv⟩
        · replace hv := hv.2 c
          refine gk_aload_n (pc := 67) (DX11_forbid_0.at 32 rfl) 1 rfl rfl ?_
          obtain ⟨fs29, v29, q29, r29, hv⟩ := hv
          refine gk_get (pc := 68) (.ref v29) (DX11_forbid_0.at 33 rfl) fX11_12_10 q29 r29 ?_
          obtain ⟨fs30, v30, q30, r30, hv⟩ := hv
          refine gk_get (pc := 71) (.ref v30) (DX11_forbid_0.at 34 rfl) fX11_231_7 q30 r30 ?_
          refine gk_aload_n (pc := 74) (DX11_forbid_0.at 35 rfl) 1 rfl rfl ?_
          obtain ⟨fs31, v31, q31, r31, hv⟩ := hv
          refine gk_get (pc := 75) (.ref v31) (DX11_forbid_0.at 36 rfl) fX11_12_10 q31 r31 ?_
          obtain ⟨fs32, v32, q32, r32, hv⟩ := hv
          refine gk_get (pc := 78) (.ref v32) (DX11_forbid_0.at 37 rfl) fX11_177_7 q32 r32 ?_
          refine gk_iload_n (pc := 81) (DX11_forbid_0.at 38 rfl) 2 rfl rfl ?_
          obtain ⟨n33, f33, v33, q33, r33, e33, hv⟩ := hv
          refine gk_aald5 (pc := 82) v33 (DX11_forbid_0.at 39 rfl) q33 r33 e33 ?_
          obtain ⟨⟨fs34, q34⟩, hv⟩ := hv
          refine gk_vV (pc := 83) [.ref v33] [] (DX11_forbid_0.at 40 rfl) cvX11_205 q34 rfl rfl (Nat.le_of_ble_eq_true rfl) (Nat.le_of_ble_eq_true rfl) (gk_Run.post (fun o h34 z => ?_) hv)
          obtain ⟨rfl, hv⟩ := z
          refine gk_iload_n (pc := 86) (DX11_forbid_0.at 41 rfl) 0 rfl rfl ?_
          exact gk_ireturn (pc := 87) .int (DX11_forbid_0.at 42 rfl) rfl rfl ⟨_, rfl, hv⟩
      · replace hv := hv.2 c
        refine gk_iconst (pc := 49) (nI 1) (DX11_forbid_0.at 24 rfl) ci_1 ?_
        refine gk_goto (pc := 50) 54 (DX11_forbid_0.at 25 rfl) (by decide) ?_
        obtain ⟨fs35, q35, r35, hv⟩ := hv
        refine gk_put (pc := 54) (DX11_forbid_0.at 27 rfl) fX11_228_7w q35 r35 rfl rfl ?_
        generalize h.set _ _ = h35 at hv ⊢
        refine gk_aload_n (pc := 57) (DX11_forbid_0.at 28 rfl) 1 rfl rfl ?_
        obtain ⟨fs36, v36, q36, r36, hv⟩ := hv
        refine gk_get (pc := 58) (.ref v36) (DX11_forbid_0.at 29 rfl) fX11_12_10 q36 r36 ?_
        obtain ⟨fs37, v37, q37, r37, hv⟩ := hv
        refine gk_get (pc := 61) (.int v37) (DX11_forbid_0.at 30 rfl) fX11_228_7 q37 r37 ?_
        refine gk_if_eq (pc := 64) 86 (DX11_forbid_0.at 31 rfl) (by decide) (fun c => ?_) (fun c => ?_)
        · replace hv := hv.1 c
          refine gk_iload_n (pc := 86) (DX11_forbid_0.at 41 rfl) 0 rfl rfl ?_
          exact gk_ireturn (pc := 87) .int (DX11_forbid_0.at 42 rfl) rfl rfl ⟨_, rfl, hv⟩
        · replace hv := hv.2 c
          refine gk_aload_n (pc := 67) (DX11_forbid_0.at 32 rfl) 1 rfl rfl ?_
          obtain ⟨fs38, v38, q38, r38, hv⟩ := hv
          refine gk_get (pc := 68) (.ref v38) (DX11_forbid_0.at 33 rfl) fX11_12_10 q38 r38 ?_
          obtain ⟨fs39, v39, q39, r39, hv⟩ := hv
          refine gk_get (pc := 71) (.ref v39) (DX11_forbid_0.at 34 rfl) fX11_231_7 q39 r39 ?_
          refine gk_aload_n (pc := 74) (DX11_forbid_0.at 35 rfl) 1 rfl rfl ?_
          obtain ⟨fs40, v40, q40, r40, hv⟩ := hv
          refine gk_get (pc := 75) (.ref v40) (DX11_forbid_0.at 36 rfl) fX11_12_10 q40 r40 ?_
          obtain ⟨fs41, v41, q41, r41, hv⟩ := hv
          refine gk_get (pc := 78) (.ref v41) (DX11_forbid_0.at 37 rfl) fX11_177_7 q41 r41 ?_
          refine gk_iload_n (pc := 81) (DX11_forbid_0.at 38 rfl) 2 rfl rfl ?_
          obtain ⟨n42, f42, v42, q42, r42, e42, hv⟩ := hv
          refine gk_aald5 (pc := 82) v42 (DX11_forbid_0.at 39 rfl) q42 r42 e42 ?_
          obtain ⟨⟨fs43, q43⟩, hv⟩ := hv
          refine gk_vV (pc := 83) [.ref v42] [] (DX11_forbid_0.at 40 rfl) cvX11_205 q43 rfl rfl (Nat.le_of_ble_eq_true rfl) (Nat.le_of_ble_eq_true rfl) (gk_Run.post (fun o h43 z => ?_) hv)
          obtain ⟨rfl, hv⟩ := z
          refine gk_iload_n (pc := 86) (DX11_forbid_0.at 41 rfl) 0 rfl rfl ?_
          exact gk_ireturn (pc := 87) .int (DX11_forbid_0.at 42 rfl) rfl rfl ⟨_, rfl, hv⟩
  · replace hv := hv.2 c
    refine gk_iload_n (pc := 5) (DX11_forbid_0.at 3 rfl) 1 rfl rfl ?_
    refine gk_vS (pc := 6) [.int x1] [] (DX11_forbid_0.at 4 rfl) csX11_174 rfl rfl (Nat.le_of_ble_eq_true rfl) (Nat.le_of_ble_eq_true rfl) (gk_Run.post (fun o h44 z => ?_) hv)
    obtain ⟨v44, rfl, hv⟩ := z
    refine gk_if_ne (pc := 9) 14 (DX11_forbid_0.at 5 rfl) (by decide) (fun c => ?_) (fun c => ?_)
    · replace hv := hv.1 c
      refine gk_aload_n (pc := 14) (DX11_forbid_0.at 8 rfl) 0 rfl rfl ?_
      obtain ⟨fs45, v45, q45, r45, hv⟩ := hv
      refine gk_get (pc := 15) (.ref v45) (DX11_forbid_0.at 9 rfl) fX11_12_10 q45 r45 ?_
      obtain ⟨fs46, v46, q46, r46, hv⟩ := hv
      refine gk_get (pc := 18) (.int v46) (DX11_forbid_0.at 10 rfl) fX11_228_7 q46 r46 ?_
      refine gk_if_eq (pc := 21) 37 (DX11_forbid_0.at 11 rfl) (by decide) (fun c => ?_) (fun c => ?_)
      · replace hv := hv.1 c
        refine gk_bipush (pc := 37) ((-5)) (DX11_forbid_0.at 17 rfl) cb_m5 ?_
        refine gk_istore_n (pc := 39) [(2, .int ((-5))), (0, .ref o), (1, .int x1)] (DX11_forbid_0.at 18 rfl) rfl (Nat.le_of_ble_eq_true rfl) rfl ?_
        refine gk_aload_n (pc := 40) (DX11_forbid_0.at 19 rfl) 1 rfl rfl ?_
        obtain ⟨fs47, v47, q47, r47, hv⟩ := hv
        refine gk_get (pc := 41) (.ref v47) (DX11_forbid_0.at 20 rfl) fX11_12_10 q47 r47 ?_
        refine gk_iload_n (pc := 44) (DX11_forbid_0.at 21 rfl) 2 rfl rfl ?_
        refine gk_iconst (pc := 45) ((-1)) (DX11_forbid_0.at 22 rfl) ci_m1 ?_
        refine gk_icmp_eq (pc := 46) 53 (DX11_forbid_0.at 23 rfl) (by decide) (fun c => ?_) (fun c => ?_)
        · replace hv := hv.1 c
          refine gk_iconst (pc := 53) (nI 0) (DX11_forbid_0.at 26 rfl) ci_0 ?_
          obtain ⟨fs48, q48, r48, hv⟩ := hv
          refine gk_put (pc := 54) (DX11_forbid_0.at 27 rfl) fX11_228_7w q48 r48 rfl rfl ?_
          generalize h44.set _ _ = h48 at hv ⊢
          refine gk_aload_n (pc := 57) (DX11_forbid_0.at 28 rfl) 1 rfl rfl ?_
          obtain ⟨fs49, v49, q49, r49, hv⟩ := hv
          refine gk_get (pc := 58) (.ref v49) (DX11_forbid_0.at 29 rfl) fX11_12_10 q49 r49 ?_
          obtain ⟨fs50, v50, q50, r50, hv⟩ := hv
          refine gk_get (pc := 61) (.int v50) (DX11_forbid_0.at 30 rfl) fX11_228_7 q50 r50 ?_
          refine gk_if_eq (pc := 64) 86 (DX11_forbid_0.at 31 rfl) (by decide) (fun c => ?_) (fun c => ?_)
          · replace hv := hv.1 c
            refine gk_iload_n (pc := 86) (DX11_forbid_0.at 41 rfl) 0 rfl rfl ?_
            exact gk_ireturn (pc := 87) .int (DX11_forbid_0.at 42 rfl) rfl rfl ⟨_, rfl, hv⟩
          · replace hv := hv.2 c
            refine gk_aload_n (pc := 67) (DX11_forbid_0.at 32 rfl) 1 rfl rfl ?_
            obtain ⟨fs51, v51, q51, r51, hv⟩ := hv
            refine gk_get (pc := 68) (.ref v51) (DX11_forbid_0.at 33 rfl) fX11_12_10 q51 r51 ?_
            obtain ⟨fs52, v52, q52, r52, hv⟩ := hv
            refine gk_get (pc := 71) (.ref v52) (DX11_forbid_0.at 34 rfl) fX11_231_7 q52 r52 ?_
            refine gk_aload_n (pc := 74) (DX11_forbid_0.at 35 rfl) 1 rfl rfl ?_
            obtain ⟨fs53, v53, q53, r53, hv⟩ := hv
            refine gk_get (pc := 75) (.ref v53) (DX11_forbid_0.at 36 rfl) fX11_12_10 q53 r53 ?_
            obtain ⟨fs54, v54, q54, r54, hv⟩ := hv
            refine gk_get (pc := 78) (.ref v54) (DX11_forbid_0.at 37 rfl) fX11_177_7 q54 r54 ?_
            refine gk_iload_n (pc := 81) (DX11_forbid_0.at 38 rfl) 2 rfl rfl ?_
            obtain ⟨n55, f55, v55, q55, r55, e55, hv⟩ := hv
            refine gk_aald5 (pc := 82) v55 (DX11_forbid_0.at 39 rfl) q55 r55 e55 ?_
            obtain ⟨⟨fs56, q56⟩, hv⟩ := hv
            refine gk_vV (pc := 83) [.ref v55] [] (DX11_forbid_0.at 40 rfl) cvX11_205 q56 rfl rfl (Nat.le_of_ble_eq_true rfl) (Nat.le_of_ble_eq_true rfl) (gk_Run.post (fun o h56 z => ?_) hv)
            obtain ⟨rfl, hv⟩ := z
            refine gk_iload_n (pc := 86) (DX11_forbid_0.at 41 rfl) 0 rfl rfl ?_
            exact gk_ireturn (pc := 87) .int (DX11_forbid_0.at 42 rfl) rfl rfl ⟨_, rfl, hv⟩
        · replace hv := hv.2 c
          refine gk_iconst (pc := 49) (nI 1) (DX11_forbid_0.at 24 rfl) ci_1 ?_
          refine gk_goto (pc := 50) 54 (DX11_forbid_0.at 25 rfl) (by decide) ?_
          obtain ⟨fs57, q57, r57, hv⟩ := hv
          refine gk_put (pc := 54) (DX11_forbid_0.at 27 rfl) fX11_228_7w q57 r57 rfl rfl ?_
          generalize h44.set _ _ = h57 at hv ⊢
          refine gk_aload_n (pc := 57) (DX11_forbid_0.at 28 rfl) 1 rfl rfl ?_
          obtain ⟨fs58, v58, q58, r58, hv⟩ := hv
          refine gk_get (pc := 58) (.ref v58) (DX11_forbid_0.at 29 rfl) fX11_12_10 q58 r58 ?_
          obtain ⟨fs59, v59, q59, r59, hv⟩ := hv
          refine gk_get (pc := 61) (.int v59) (DX11_forbid_0.at 30 rfl) fX11_228_7 q59 r59 ?_
          refine gk_if_eq (pc := 64) 86 (DX11_forbid_0.at 31 rfl) (by decide) (fun c => ?_) (fun c => ?_)
          · replace hv := hv.1 c
            refine gk_iload_n (pc := 86) (DX11_forbid_0.at 41 rfl) 0 rfl rfl ?_
            exact gk_ireturn (pc := 87) .int (DX11_forbid_0.at 42 rfl) rfl rfl ⟨_, rfl, hv⟩
          · replace hv := hv.2 c
            refine gk_aload_n (pc := 67) (DX11_forbid_0.at 32 rfl) 1 rfl rfl ?_
            obtain ⟨fs60, v60, q60, r60, hv⟩ := hv
            refine gk_get (pc := 68) (.ref v60) (DX11_forbid_0.at 33 rfl) fX11_12_10 q60 r60 ?_
            obtain ⟨fs61, v61, q61, r61, hv⟩ := hv
            refine gk_get (pc := 71) (.ref v61) (DX11_forbid_0.at 34 rfl) fX11_231_7 q61 r61 ?_
            refine gk_aload_n (pc := 74) (DX11_forbid_0.at 35 rfl) 1 rfl rfl ?_
            obtain ⟨fs62, v62, q62, r62, hv⟩ := hv
            refine gk_get (pc := 75) (.ref v62) (DX11_forbid_0.at 36 rfl) fX11_12_10 q62 r62 ?_
            obtain ⟨fs63, v63, q63, r63, hv⟩ := hv
            refine gk_get (pc := 78) (.ref v63) (DX11_forbid_0.at 37 rfl) fX11_177_7 q63 r63 ?_
            refine gk_iload_n (pc := 81) (DX11_forbid_0.at 38 rfl) 2 rfl rfl ?_
            obtain ⟨n64, f64, v64, q64, r64, e64, hv⟩ := hv
            refine gk_aald5 (pc := 82) v64 (DX11_forbid_0.at 39 rfl) q64 r64 e64 ?_
            obtain ⟨⟨fs65, q65⟩, hv⟩ := hv
            refine gk_vV (pc := 83) [.ref v64] [] (DX11_forbid_0.at 40 rfl) cvX11_205 q65 rfl rfl (Nat.le_of_ble_eq_true rfl) (Nat.le_of_ble_eq_true rfl) (gk_Run.post (fun o h65 z => ?_) hv)
            obtain ⟨rfl, hv⟩ := z
            refine gk_iload_n (pc := 86) (DX11_forbid_0.at 41 rfl) 0 rfl rfl ?_
            exact gk_ireturn (pc := 87) .int (DX11_forbid_0.at 42 rfl) rfl rfl ⟨_, rfl, hv⟩
      · replace hv := hv.2 c
        refine gk_aload_n (pc := 24) (DX11_forbid_0.at 12 rfl) 0 rfl rfl ?_
        obtain ⟨fs66, v66, q66, r66, hv⟩ := hv
        refine gk_get (pc := 25) (.ref v66) (DX11_forbid_0.at 13 rfl) fX11_12_10 q66 r66 ?_
        obtain ⟨fs67, v67, q67, r67, hv⟩ := hv
        refine gk_get (pc := 28) (.ref v67) (DX11_forbid_0.at 14 rfl) fX11_231_7 q67 r67 ?_
        obtain ⟨fs68, v68, q68, r68, hv⟩ := hv
        refine gk_get (pc := 31) (.int v68) (DX11_forbid_0.at 15 rfl) fX11_181_3 q68 r68 ?_
        refine gk_goto (pc := 34) 39 (DX11_forbid_0.at 16 rfl) (by decide) ?_
        refine gk_istore_n (pc := 39) [(2, .int v68), (0, .ref o), (1, .int x1)] (DX11_forbid_0.at 18 rfl) rfl (Nat.le_of_ble_eq_true rfl) rfl ?_
        refine gk_aload_n (pc := 40) (DX11_forbid_0.at 19 rfl) 1 rfl rfl ?_
        obtain ⟨fs69, v69, q69, r69, hv⟩ := hv
        refine gk_get (pc := 41) (.ref v69) (DX11_forbid_0.at 20 rfl) fX11_12_10 q69 r69 ?_
        refine gk_iload_n (pc := 44) (DX11_forbid_0.at 21 rfl) 2 rfl rfl ?_
        refine gk_iconst (pc := 45) ((-1)) (DX11_forbid_0.at 22 rfl) ci_m1 ?_
        refine gk_icmp_eq (pc := 46) 53 (DX11_forbid_0.at 23 rfl) (by decide) (fun c => ?_) (fun c => ?_)
        · replace hv := hv.1 c
          refine gk_iconst (pc := 53) (nI 0) (DX11_forbid_0.at 26 rfl) ci_0 ?_
          obtain ⟨fs70, q70, r70, hv⟩ := hv
          refine gk_put (pc := 54) (DX11_forbid_0.at 27 rfl) fX11_228_7w q70 r70 rfl rfl ?_
          generalize h44.set _ _ = h70 at hv ⊢
          refine gk_aload_n (pc := 57) (DX11_forbid_0.at 28 rfl) 1 rfl rfl ?_
          obtain ⟨fs71, v71, q71, r71, hv⟩ := hv
          refine gk_get (pc := 58) (.ref v71) (DX11_forbid_0.at 29 rfl) fX11_12_10 q71 r71 ?_
          obtain ⟨fs72, v72, q72, r72, hv⟩ := hv
          refine gk_get (pc := 61) (.int v72) (DX11_forbid_0.at 30 rfl) fX11_228_7 q72 r72 ?_
          refine gk_if_eq (pc := 64) 86 (DX11_forbid_0.at 31 rfl) (by decide) (fun c => ?_) (fun c => ?_)
          · replace hv := hv.1 c
            refine gk_iload_n (pc := 86) (DX11_forbid_0.at 41 rfl) 0 rfl rfl ?_
            exact gk_ireturn (pc := 87) .int (DX11_forbid_0.at 42 rfl) rfl rfl ⟨_, rfl, hv⟩
          · replace hv := hv.2 c
            refine gk_aload_n (pc := 67) (DX11_forbid_0.at 32 rfl) 1 rfl rfl ?_
            obtain ⟨fs73, v73, q73, r73, hv⟩ := hv
            refine gk_get (pc := 68) (.ref v73) (DX11_forbid_0.at 33 rfl) fX11_12_10 q73 r73 ?_
            obtain ⟨fs74, v74, q74, r74, hv⟩ := hv
            refine gk_get (pc := 71) (.ref v74) (DX11_forbid_0.at 34 rfl) fX11_231_7 q74 r74 ?_
            refine gk_aload_n (pc := 74) (DX11_forbid_0.at 35 rfl) 1 rfl rfl ?_
            obtain ⟨fs75, v75, q75, r75, hv⟩ := hv
            refine gk_get (pc := 75) (.ref v75) (DX11_forbid_0.at 36 rfl) fX11_12_10 q75 r75 ?_
            obtain ⟨fs76, v76, q76, r76, hv⟩ := hv
            refine gk_get (pc := 78) (.ref v76) (DX11_forbid_0.at 37 rfl) fX11_177_7 q76 r76 ?_
            refine gk_iload_n (pc := 81) (DX11_forbid_0.at 38 rfl) 2 rfl rfl ?_
            obtain ⟨n77, f77, v77, q77, r77, e77, hv⟩ := hv
            refine gk_aald5 (pc := 82) v77 (DX11_forbid_0.at 39 rfl) q77 r77 e77 ?_
            obtain ⟨⟨fs78, q78⟩, hv⟩ := hv
            refine gk_vV (pc := 83) [.ref v77] [] (DX11_forbid_0.at 40 rfl) cvX11_205 q78 rfl rfl (Nat.le_of_ble_eq_true rfl) (Nat.le_of_ble_eq_true rfl) (gk_Run.post (fun o h78 z => ?_) hv)
            obtain ⟨rfl, hv⟩ := z
            refine gk_iload_n (pc := 86) (DX11_forbid_0.at 41 rfl) 0 rfl rfl ?_
            exact gk_ireturn (pc := 87) .int (DX11_forbid_0.at 42 rfl) rfl rfl ⟨_, rfl, hv⟩
        · replace hv := hv.2 c
          refine gk_iconst (pc := 49) (nI 1) (DX11_forbid_0.at 24 rfl) ci_1 ?_
          refine gk_goto (pc := 50) 54 (DX11_forbid_0.at 25 rfl) (by decide) ?_
          obtain ⟨fs79, q79, r79, hv⟩ := hv
          refine gk_put (pc := 54) (DX11_forbid_0.at 27 rfl) fX11_228_7w q79 r79 rfl rfl ?_
          generalize h44.set _ _ = h79 at hv ⊢
          refine gk_aload_n (pc := 57) (DX11_forbid_0.at 28 rfl) 1 rfl rfl ?_
          obtain ⟨fs80, v80, q80, r80, hv⟩ := hv
          refine gk_get (pc := 58) (.ref v80) (DX11_forbid_0.at 29 rfl) fX11_12_10 q80 r80 ?_
          obtain ⟨fs81, v81, q81, r81, hv⟩ := hv
          refine gk_get (pc := 61) (.int v81) (DX11_forbid_0.at 30 rfl) fX11_228_7 q81 r81 ?_
          refine gk_if_eq (pc := 64) 86 (DX11_forbid_0.at 31 rfl) (by decide) (fun c => ?_) (fun c => ?_)
          · replace hv := hv.1 c
            refine gk_iload_n (pc := 86) (DX11_forbid_0.at 41 rfl) 0 rfl rfl ?_
            exact gk_ireturn (pc := 87) .int (DX11_forbid_0.at 42 rfl) rfl rfl ⟨_, rfl, hv⟩
          · replace hv := hv.2 c
            refine gk_aload_n (pc := 67) (DX11_forbid_0.at 32 rfl) 1 rfl rfl ?_
            obtain ⟨fs82, v82, q82, r82, hv⟩ := hv
            refine gk_get (pc := 68) (.ref v82) (DX11_forbid_0.at 33 rfl) fX11_12_10 q82 r82 ?_
            obtain ⟨fs83, v83, q83, r83, hv⟩ := hv
            refine gk_get (pc := 71) (.ref v83) (DX11_forbid_0.at 34 rfl) fX11_231_7 q83 r83 ?_
            refine gk_aload_n (pc := 74) (DX11_forbid_0.at 35 rfl) 1 rfl rfl ?_
            obtain ⟨fs84, v84, q84, r84, hv⟩ := hv
            refine gk_get (pc := 75) (.ref v84) (DX11_forbid_0.at 36 rfl) fX11_12_10 q84 r84 ?_
            obtain ⟨fs85, v85, q85, r85, hv⟩ := hv
            refine gk_get (pc := 78) (.ref v85) (DX11_forbid_0.at 37 rfl) fX11_177_7 q85 r85 ?_
            refine gk_iload_n (pc := 81) (DX11_forbid_0.at 38 rfl) 2 rfl rfl ?_
            obtain ⟨n86, f86, v86, q86, r86, e86, hv⟩ := hv
            refine gk_aald5 (pc := 82) v86 (DX11_forbid_0.at 39 rfl) q86 r86 e86 ?_
            obtain ⟨⟨fs87, q87⟩, hv⟩ := hv
            refine gk_vV (pc := 83) [.ref v86] [] (DX11_forbid_0.at 40 rfl) cvX11_205 q87 rfl rfl (Nat.le_of_ble_eq_true rfl) (Nat.le_of_ble_eq_true rfl) (gk_Run.post (fun o h87 z => ?_) hv)
            obtain ⟨rfl, hv⟩ := z
            refine gk_iload_n (pc := 86) (DX11_forbid_0.at 41 rfl) 0 rfl rfl ?_
            exact gk_ireturn (pc := 87) .int (DX11_forbid_0.at 42 rfl) rfl rfl ⟨_, rfl, hv⟩
    · replace hv := hv.2 c
      refine gk_iconst (pc := 12) ((-1)) (DX11_forbid_0.at 6 rfl) ci_m1 ?_
      exact gk_ireturn (pc := 13) .int (DX11_forbid_0.at 7 rfl) rfl rfl ⟨_, rfl, hv⟩
set_option maxHeartbeats 4000000 in
theorem vX11_forgetNetworks_0 {E : gk_E} {dd : Nat} {o : Nat}  {h : gk_H} {K : gk_H → Prop} (hv : LdR h o 10 0 fun v1 => (∃ fs, h[v1]? = some (.inr (7, fs))) ∧ RnV E mX7_clearNets (dd, 0, 0) [.ref v1] h (fun h2 => LdR h2 o 10 6 fun v3 => StI h2 v3 0 1 (nI 0) fun h4 => K h4)) : RnV E mX11_forgetNetworks (dd + 1, 0, 0) [.ref o] h K := by
  show gk_G E mX11_forgetNetworks (dd + 1, 0, 0) 0 [(0, .ref o)] [] h (fun o h1 => o = none ∧ K h1)
  refine gk_aload_n (pc := 0) (DX11_forgetNetworks_0.at 0 rfl) 0 rfl rfl ?_
  obtain ⟨fs1, v1, q1, r1, hv⟩ := hv
  refine gk_get (pc := 1) (.ref v1) (DX11_forgetNetworks_0.at 1 rfl) fX11_12_10 q1 r1 ?_
  obtain ⟨⟨fs2, q2⟩, hv⟩ := hv
  refine gk_vV (pc := 4) [] [] (DX11_forgetNetworks_0.at 2 rfl) cvX11_315 q2 rfl rfl (Nat.le_of_ble_eq_true rfl) (Nat.le_of_ble_eq_true rfl) (gk_Run.post (fun o h2 z => ?_) hv)
  obtain ⟨rfl, hv⟩ := z
  refine gk_aload_n (pc := 7) (DX11_forgetNetworks_0.at 3 rfl) 0 rfl rfl ?_
  obtain ⟨fs3, v3, q3, r3, hv⟩ := hv
  refine gk_get (pc := 8) (.ref v3) (DX11_forgetNetworks_0.at 4 rfl) fX11_59_10 q3 r3 ?_
  refine gk_iconst (pc := 11) (nI 0) (DX11_forgetNetworks_0.at 5 rfl) ci_0 ?_
  obtain ⟨fs4, q4, r4, hv⟩ := hv
  refine gk_put (pc := 12) (DX11_forgetNetworks_0.at 6 rfl) fX11_255_0w q4 r4 rfl rfl ?_
  generalize h2.set _ _ = h4 at hv ⊢
  exact gk_return (pc := 15) (DX11_forgetNetworks_0.at 7 rfl) rfl ⟨rfl, hv⟩
abbrev pX11_found_37 (E : gk_E) (dd : Nat) (o : Nat) (x1 : Int32) (x2 : Int32) (x3 : Int32) (h : gk_H) (K : Int32 → gk_H → Prop) : Prop := gk_G E mX11_found (dd + 1, 0, 0) 37 [(0, .ref o), (1, .int x1), (2, .int x2), (3, .int x3)] [] h (fun o h1 => ∃ v, o = some (.int v) ∧ K v h1)
set_option maxHeartbeats 4000000 in
theorem vX11_found_0 {E : gk_E} {dd : Nat} {o : Nat} {x1 : Int32}  {h : gk_H} {K : Int32 → gk_H → Prop} (hv : RnI E mX11_isList (dd, 0, 0) [.int x1] h (fun v1 h1 => (¬ v1 = 0 → LdR h1 o 10 7 fun v2 => (∃ fs, h1[v2]? = some (.inr (5, fs))) ∧ RnI E mX5_search (dd, 0, 0) [.ref v2] h1 (fun v3 h3 => (¬ v3 = ((-5)) → LdR h3 o 10 8 fun v4 => AsI h3 v4 x1 (v3 - (nI 1)) fun h5 => pX11_found_37 E dd o x1 v3 (nI 1) h5 K) ∧ (v3 = ((-5)) → K ((-5)) h3))) ∧ (v1 = 0 → K ((-1)) h1))) : RnI E mX11_found (dd + 1, 0, 0) [.ref o, .int x1] h K := by
  show gk_G E mX11_found (dd + 1, 0, 0) 0 [(0, .ref o), (1, .int x1)] [] h (fun o h1 => ∃ v, o = some (.int v) ∧ K v h1)
  refine gk_iload_n (pc := 0) (DX11_found_0.at 0 rfl) 1 rfl rfl ?_
  refine gk_vS (pc := 1) [.int x1] [] (DX11_found_0.at 1 rfl) csX11_278 rfl rfl (Nat.le_of_ble_eq_true rfl) (Nat.le_of_ble_eq_true rfl) (gk_Run.post (fun o h1 z => ?_) hv)
  obtain ⟨v1, rfl, hv⟩ := z
  refine gk_if_ne (pc := 4) 9 (DX11_found_0.at 2 rfl) (by decide) (fun c => ?_) (fun c => ?_)
  · replace hv := hv.1 c
    refine gk_aload_n (pc := 9) (DX11_found_0.at 5 rfl) 0 rfl rfl ?_
    obtain ⟨fs2, v2, q2, r2, hv⟩ := hv
    refine gk_get (pc := 10) (.ref v2) (DX11_found_0.at 6 rfl) fX11_66_10 q2 r2 ?_
    obtain ⟨⟨fs3, q3⟩, hv⟩ := hv
    refine gk_vV (pc := 13) [] [] (DX11_found_0.at 7 rfl) cvX11_285 q3 rfl rfl (Nat.le_of_ble_eq_true rfl) (Nat.le_of_ble_eq_true rfl) (gk_Run.post (fun o h3 z => ?_) hv)
    obtain ⟨v3, rfl, hv⟩ := z
    refine gk_istore_n (pc := 16) [(2, .int v3), (0, .ref o), (1, .int x1)] (DX11_found_0.at 8 rfl) rfl (Nat.le_of_ble_eq_true rfl) rfl ?_
    refine gk_iload_n (pc := 17) (DX11_found_0.at 9 rfl) 0 rfl rfl ?_
    refine gk_bipush (pc := 18) ((-5)) (DX11_found_0.at 10 rfl) cb_m5 ?_
    refine gk_icmp_ne (pc := 20) 26 (DX11_found_0.at 11 rfl) (by decide) (fun c => ?_) (fun c => ?_)
    · replace hv := hv.1 c
      refine gk_aload_n (pc := 26) (DX11_found_0.at 14 rfl) 1 rfl rfl ?_
      obtain ⟨fs4, v4, q4, r4, hv⟩ := hv
      refine gk_get (pc := 27) (.ref v4) (DX11_found_0.at 15 rfl) fX11_70_10 q4 r4 ?_
      refine gk_iload_n (pc := 30) (DX11_found_0.at 16 rfl) 2 rfl rfl ?_
      refine gk_iload_n (pc := 31) (DX11_found_0.at 17 rfl) 0 rfl rfl ?_
      refine gk_iconst (pc := 32) (nI 1) (DX11_found_0.at 18 rfl) ci_1 ?_
      refine gk_isub (pc := 33) (DX11_found_0.at 19 rfl) ?_
      obtain ⟨n5, f5, q5, r5, hv⟩ := hv
      refine gk_iast (pc := 34) (DX11_found_0.at 20 rfl) q5 r5 ?_
      generalize h3.set _ _ = h5 at hv ⊢
      refine gk_iconst (pc := 35) (nI 1) (DX11_found_0.at 21 rfl) ci_1 ?_
      refine gk_istore_n (pc := 36) [(3, .int (nI 1)), (2, .int v3), (0, .ref o), (1, .int x1)] (DX11_found_0.at 22 rfl) rfl (Nat.le_of_ble_eq_true rfl) rfl ?_
      exact gk_pick (pc := 37) [(0, .ref o), (1, .int x1), (2, .int v3), (3, .int (nI 1))] [2, 3, 1, 0] rfl hv
    · replace hv := hv.2 c
      refine gk_bipush (pc := 23) ((-5)) (DX11_found_0.at 12 rfl) cb_m5 ?_
      exact gk_ireturn (pc := 25) .int (DX11_found_0.at 13 rfl) rfl rfl ⟨_, rfl, hv⟩
  · replace hv := hv.2 c
    refine gk_iconst (pc := 7) ((-1)) (DX11_found_0.at 3 rfl) ci_m1 ?_
    exact gk_ireturn (pc := 8) .int (DX11_found_0.at 4 rfl) rfl rfl ⟨_, rfl, hv⟩
set_option maxHeartbeats 4000000 in
theorem vX11_found_37 {E : gk_E} {dd : Nat} {o : Nat} {x1 : Int32} {x2 : Int32} {x3 : Int32}  {h : gk_H} {K : Int32 → gk_H → Prop} (hv : (x2 ≤ x3 → K x2 h) ∧ (¬ x2 ≤ x3 → LdR h o 10 9 fun v1 => LdR h o 10 7 fun v2 => LdR h v2 5 6 fun v3 => AlI h v3 x3 fun v4 => AsL h v1 ((((nI 12) * x1) + x3) - (nI 1)) v4.toInt64 fun h5 => pX11_found_37 E dd o x1 x2 (x3 + nI 1) h5 K)) : pX11_found_37 E dd o x1 x2 x3 h K := by
  show gk_G E mX11_found (dd + 1, 0, 0) 37 [(0, .ref o), (1, .int x1), (2, .int x2), (3, .int x3)] [] h (fun o h1 => ∃ v, o = some (.int v) ∧ K v h1)
  refine gk_iload_n (pc := 37) (DX11_found_0.at 23 rfl) 3 rfl rfl ?_
  refine gk_iload_n (pc := 38) (DX11_found_0.at 24 rfl) 2 rfl rfl ?_
  refine gk_icmp_ge (pc := 39) 71 (DX11_found_0.at 25 rfl) (by decide) (fun c => ?_) (fun c => ?_)
  · replace hv := hv.1 c
    refine gk_iload_n (pc := 71) (DX11_found_0.at 44 rfl) 2 rfl rfl ?_
    exact gk_ireturn (pc := 72) .int (DX11_found_0.at 45 rfl) rfl rfl ⟨_, rfl, hv⟩
  · replace hv := hv.2 c
    refine gk_aload_n (pc := 42) (DX11_found_0.at 26 rfl) 0 rfl rfl ?_
    obtain ⟨fs1, v1, q1, r1, hv⟩ := hv
    refine gk_get (pc := 43) (.ref v1) (DX11_found_0.at 27 rfl) fX11_74_10 q1 r1 ?_
    refine gk_bipush (pc := 46) (nI 12) (DX11_found_0.at 28 rfl) cb_12 ?_
    refine gk_iload_n (pc := 48) (DX11_found_0.at 29 rfl) 1 rfl rfl ?_
    refine gk_imul (pc := 49) (DX11_found_0.at 30 rfl) ?_
    refine gk_iload_n (pc := 50) (DX11_found_0.at 31 rfl) 3 rfl rfl ?_
    refine gk_iadd (pc := 51) (DX11_found_0.at 32 rfl) ?_
    refine gk_iconst (pc := 52) (nI 1) (DX11_found_0.at 33 rfl) ci_1 ?_
    refine gk_isub (pc := 53) (DX11_found_0.at 34 rfl) ?_
    refine gk_aload_n (pc := 54) (DX11_found_0.at 35 rfl) 0 rfl rfl ?_
    obtain ⟨fs2, v2, q2, r2, hv⟩ := hv
    refine gk_get (pc := 55) (.ref v2) (DX11_found_0.at 36 rfl) fX11_66_10 q2 r2 ?_
    obtain ⟨fs3, v3, q3, r3, hv⟩ := hv
    refine gk_get (pc := 58) (.ref v3) (DX11_found_0.at 37 rfl) fX11_288_5 q3 r3 ?_
    refine gk_iload_n (pc := 61) (DX11_found_0.at 38 rfl) 3 rfl rfl ?_
    obtain ⟨n4, f4, q4, r4, hv⟩ := hv
    refine gk_iald (pc := 62) (DX11_found_0.at 39 rfl) q4 r4 ?_
    generalize f4 _ = v4 at hv ⊢
    refine gk_i2l (pc := 63) (DX11_found_0.at 40 rfl) ?_
    obtain ⟨n5, f5, q5, r5, hv⟩ := hv
    refine gk_last (pc := 64) (DX11_found_0.at 41 rfl) q5 r5 ?_
    generalize h.set _ _ = h5 at hv ⊢
    refine gk_iinc (pc := 65) (x3 + nI 1) [(3, .int (x3 + nI 1)), (0, .ref o), (1, .int x1), (2, .int x2)] 3 (DX11_found_0.at 42 rfl) rfl (by rw [ci_1]) (Nat.le_of_ble_eq_true rfl) rfl ?_
    refine gk_goto (pc := 68) 37 (DX11_found_0.at 43 rfl) (by decide) ?_
    exact gk_pick (pc := 37) [(0, .ref o), (1, .int x1), (2, .int x2), (3, .int (x3 + nI 1))] [1, 2, 3, 0] rfl hv
set_option maxHeartbeats 4000000 in
theorem vX11_gameRefusal_0 {E : gk_E} {dd : Nat} {o : Nat} {x1 : Int32} {x2 : Int32}  {h : gk_H} {K : Int32 → gk_H → Prop} (hv : RnI E mX11_isNet (dd, 0, 0) [.int x1] h (fun v1 h1 => (¬ v1 = 0 → (x2 < 0 → K ((-2)) h1) ∧ (¬ x2 < 0 → (x2 ≤ (nI 2) → LdR h1 o 10 0 fun v2 => LdR h1 v2 7 1 fun v3 => AlR 5 h1 v3 x1 fun v4 => LdI h1 v4 3 0 fun v5 => ((nI 3) < v5 → K ((-3)) h1) ∧ (¬ (nI 3) < v5 → LdR h1 o 10 0 fun v6 => LdR h1 v6 7 1 fun v7 => AlR 5 h1 v7 x1 fun v8 => (∃ fs, h1[o]? = some (.inr (10, fs))) ∧ RnI E mX11_isPlayable (dd, 0, 0) [.ref o, .ref v8] h1 (fun v9 h9 => (¬ v9 = 0 → K (nI 0) h9) ∧ (v9 = 0 → K ((-3)) h9)))) ∧ (¬ x2 ≤ (nI 2) → K ((-2)) h1))) ∧ (v1 = 0 → K ((-1)) h1))) : RnI E mX11_gameRefusal (dd + 1, 0, 0) [.ref o, .int x1, .int x2] h K := by
  show gk_G E mX11_gameRefusal (dd + 1, 0, 0) 0 [(0, .ref o), (1, .int x1), (2, .int x2)] [] h (fun o h1 => ∃ v, o = some (.int v) ∧ K v h1)
  refine gk_iload_n (pc := 0) (DX11_gameRefusal_0.at 0 rfl) 1 rfl rfl ?_
  refine gk_vS (pc := 1) [.int x1] [] (DX11_gameRefusal_0.at 1 rfl) csX11_174 rfl rfl (Nat.le_of_ble_eq_true rfl) (Nat.le_of_ble_eq_true rfl) (gk_Run.post (fun o h1 z => ?_) hv)
  obtain ⟨v1, rfl, hv⟩ := z
  refine gk_if_ne (pc := 4) 9 (DX11_gameRefusal_0.at 2 rfl) (by decide) (fun c => ?_) (fun c => ?_)
  · replace hv := hv.1 c
    refine gk_iload_n (pc := 9) (DX11_gameRefusal_0.at 5 rfl) 2 rfl rfl ?_
    refine gk_if_lt (pc := 10) 18 (DX11_gameRefusal_0.at 6 rfl) (by decide) (fun c => ?_) (fun c => ?_)
    · replace hv := hv.1 c
      refine gk_bipush (pc := 18) ((-2)) (DX11_gameRefusal_0.at 10 rfl) cb_m2 ?_
      exact gk_ireturn (pc := 20) .int (DX11_gameRefusal_0.at 11 rfl) rfl rfl ⟨_, rfl, hv⟩
    · replace hv := hv.2 c
      refine gk_iload_n (pc := 13) (DX11_gameRefusal_0.at 7 rfl) 2 rfl rfl ?_
      refine gk_iconst (pc := 14) (nI 2) (DX11_gameRefusal_0.at 8 rfl) ci_2 ?_
      refine gk_icmp_le (pc := 15) 21 (DX11_gameRefusal_0.at 9 rfl) (by decide) (fun c => ?_) (fun c => ?_)
      · replace hv := hv.1 c
        refine gk_aload_n (pc := 21) (DX11_gameRefusal_0.at 12 rfl) 0 rfl rfl ?_
        obtain ⟨fs2, v2, q2, r2, hv⟩ := hv
        refine gk_get (pc := 22) (.ref v2) (DX11_gameRefusal_0.at 13 rfl) fX11_12_10 q2 r2 ?_
        obtain ⟨fs3, v3, q3, r3, hv⟩ := hv
        refine gk_get (pc := 25) (.ref v3) (DX11_gameRefusal_0.at 14 rfl) fX11_177_7 q3 r3 ?_
        refine gk_iload_n (pc := 28) (DX11_gameRefusal_0.at 15 rfl) 1 rfl rfl ?_
        obtain ⟨n4, f4, v4, q4, r4, e4, hv⟩ := hv
        refine gk_aald5 (pc := 29) v4 (DX11_gameRefusal_0.at 16 rfl) q4 r4 e4 ?_
        obtain ⟨fs5, v5, q5, r5, hv⟩ := hv
        refine gk_get (pc := 30) (.int v5) (DX11_gameRefusal_0.at 17 rfl) fX11_181_3 q5 r5 ?_
        refine gk_iconst (pc := 33) (nI 3) (DX11_gameRefusal_0.at 18 rfl) ci_3 ?_
        refine gk_icmp_gt (pc := 34) 53 (DX11_gameRefusal_0.at 19 rfl) (by decide) (fun c => ?_) (fun c => ?_)
        · replace hv := hv.1 c
          refine gk_bipush (pc := 53) ((-3)) (DX11_gameRefusal_0.at 28 rfl) cb_m3 ?_
          exact gk_ireturn (pc := 55) .int (DX11_gameRefusal_0.at 29 rfl) rfl rfl ⟨_, rfl, hv⟩
        · replace hv := hv.2 c
          refine gk_aload_n (pc := 37) (DX11_gameRefusal_0.at 20 rfl) 0 rfl rfl ?_
          refine gk_aload_n (pc := 38) (DX11_gameRefusal_0.at 21 rfl) 0 rfl rfl ?_
          obtain ⟨fs6, v6, q6, r6, hv⟩ := hv
          refine gk_get (pc := 39) (.ref v6) (DX11_gameRefusal_0.at 22 rfl) fX11_12_10 q6 r6 ?_
          obtain ⟨fs7, v7, q7, r7, hv⟩ := hv
          refine gk_get (pc := 42) (.ref v7) (DX11_gameRefusal_0.at 23 rfl) fX11_177_7 q7 r7 ?_
          refine gk_iload_n (pc := 45) (DX11_gameRefusal_0.at 24 rfl) 1 rfl rfl ?_
          obtain ⟨n8, f8, v8, q8, r8, e8, hv⟩ := hv
          refine gk_aald5 (pc := 46) v8 (DX11_gameRefusal_0.at 25 rfl) q8 r8 e8 ?_
          obtain ⟨⟨fs9, q9⟩, hv⟩ := hv
          refine gk_vV (pc := 47) [.ref v8] [] (DX11_gameRefusal_0.at 26 rfl) cvX11_245 q9 rfl rfl (Nat.le_of_ble_eq_true rfl) (Nat.le_of_ble_eq_true rfl) (gk_Run.post (fun o h9 z => ?_) hv)
          obtain ⟨v9, rfl, hv⟩ := z
          refine gk_if_ne (pc := 50) 56 (DX11_gameRefusal_0.at 27 rfl) (by decide) (fun c => ?_) (fun c => ?_)
          · replace hv := hv.1 c
            refine gk_iconst (pc := 56) (nI 0) (DX11_gameRefusal_0.at 30 rfl) ci_0 ?_
            exact gk_ireturn (pc := 57) .int (DX11_gameRefusal_0.at 31 rfl) rfl rfl ⟨_, rfl, hv⟩
          · replace hv := hv.2 c
            refine gk_bipush (pc := 53) ((-3)) (DX11_gameRefusal_0.at 28 rfl) cb_m3 ?_
            exact gk_ireturn (pc := 55) .int (DX11_gameRefusal_0.at 29 rfl) rfl rfl ⟨_, rfl, hv⟩
      · replace hv := hv.2 c
        refine gk_bipush (pc := 18) ((-2)) (DX11_gameRefusal_0.at 10 rfl) cb_m2 ?_
        exact gk_ireturn (pc := 20) .int (DX11_gameRefusal_0.at 11 rfl) rfl rfl ⟨_, rfl, hv⟩
  · replace hv := hv.2 c
    refine gk_iconst (pc := 7) ((-1)) (DX11_gameRefusal_0.at 3 rfl) ci_m1 ?_
    exact gk_ireturn (pc := 8) .int (DX11_gameRefusal_0.at 4 rfl) rfl rfl ⟨_, rfl, hv⟩
set_option maxHeartbeats 4000000 in
theorem vX11_gap_0 {E : gk_E} {dd : Nat} {o : Nat} {x1 : Int32} {x2 : Int32}  {h : gk_H} {K : Int32 → gk_H → Prop} (hv : RnI E mX11_isNet (dd, 0, 0) [.int x1] h (fun v1 h1 => (v1 = 0 → K ((-1)) h1) ∧ (¬ v1 = 0 → (((-1)) ≤ x2 → LdR h1 o 10 0 fun v2 => LdR h1 v2 7 1 fun v3 => AlR 5 h1 v3 x1 fun v4 => LdR h1 o 10 0 fun v5 => LdR h1 v5 7 0 fun v6 => (∃ fs, h1[v4]? = some (.inr (3, fs))) ∧ RnI E mX3_gapAt (dd, 0, 0) [.ref v4, .ref v6, .int x2] h1 (fun v7 h7 => K v7 h7)) ∧ (¬ ((-1)) ≤ x2 → K ((-1)) h1)))) : RnI E mX11_gap (dd + 1, 0, 0) [.ref o, .int x1, .int x2] h K := by
  show gk_G E mX11_gap (dd + 1, 0, 0) 0 [(0, .ref o), (1, .int x1), (2, .int x2)] [] h (fun o h1 => ∃ v, o = some (.int v) ∧ K v h1)
  refine gk_iload_n (pc := 0) (DX11_gap_0.at 0 rfl) 1 rfl rfl ?_
  refine gk_vS (pc := 1) [.int x1] [] (DX11_gap_0.at 1 rfl) csX11_174 rfl rfl (Nat.le_of_ble_eq_true rfl) (Nat.le_of_ble_eq_true rfl) (gk_Run.post (fun o h1 z => ?_) hv)
  obtain ⟨v1, rfl, hv⟩ := z
  refine gk_if_eq (pc := 4) 12 (DX11_gap_0.at 2 rfl) (by decide) (fun c => ?_) (fun c => ?_)
  · replace hv := hv.1 c
    refine gk_iconst (pc := 12) ((-1)) (DX11_gap_0.at 6 rfl) ci_m1 ?_
    exact gk_ireturn (pc := 13) .int (DX11_gap_0.at 7 rfl) rfl rfl ⟨_, rfl, hv⟩
  · replace hv := hv.2 c
    refine gk_iload_n (pc := 7) (DX11_gap_0.at 3 rfl) 2 rfl rfl ?_
    refine gk_iconst (pc := 8) ((-1)) (DX11_gap_0.at 4 rfl) ci_m1 ?_
    refine gk_icmp_ge (pc := 9) 14 (DX11_gap_0.at 5 rfl) (by decide) (fun c => ?_) (fun c => ?_)
    · replace hv := hv.1 c
      refine gk_aload_n (pc := 14) (DX11_gap_0.at 8 rfl) 0 rfl rfl ?_
      obtain ⟨fs2, v2, q2, r2, hv⟩ := hv
      refine gk_get (pc := 15) (.ref v2) (DX11_gap_0.at 9 rfl) fX11_12_10 q2 r2 ?_
      obtain ⟨fs3, v3, q3, r3, hv⟩ := hv
      refine gk_get (pc := 18) (.ref v3) (DX11_gap_0.at 10 rfl) fX11_177_7 q3 r3 ?_
      refine gk_iload_n (pc := 21) (DX11_gap_0.at 11 rfl) 1 rfl rfl ?_
      obtain ⟨n4, f4, v4, q4, r4, e4, hv⟩ := hv
      refine gk_aald5 (pc := 22) v4 (DX11_gap_0.at 12 rfl) q4 r4 e4 ?_
      refine gk_aload_n (pc := 23) (DX11_gap_0.at 13 rfl) 0 rfl rfl ?_
      obtain ⟨fs5, v5, q5, r5, hv⟩ := hv
      refine gk_get (pc := 24) (.ref v5) (DX11_gap_0.at 14 rfl) fX11_12_10 q5 r5 ?_
      obtain ⟨fs6, v6, q6, r6, hv⟩ := hv
      refine gk_get (pc := 27) (.ref v6) (DX11_gap_0.at 15 rfl) fX11_52_7 q6 r6 ?_
      refine gk_iload_n (pc := 30) (DX11_gap_0.at 16 rfl) 2 rfl rfl ?_
      obtain ⟨⟨fs7, q7⟩, hv⟩ := hv
      refine gk_vV (pc := 31) [.ref v6, .int x2] [] (DX11_gap_0.at 17 rfl) cvX11_213 q7 rfl rfl (Nat.le_of_ble_eq_true rfl) (Nat.le_of_ble_eq_true rfl) (gk_Run.post (fun o h7 z => ?_) hv)
      obtain ⟨v7, rfl, hv⟩ := z
      exact gk_ireturn (pc := 34) .int (DX11_gap_0.at 18 rfl) rfl rfl ⟨_, rfl, hv⟩
    · replace hv := hv.2 c
      refine gk_iconst (pc := 12) ((-1)) (DX11_gap_0.at 6 rfl) ci_m1 ?_
      exact gk_ireturn (pc := 13) .int (DX11_gap_0.at 7 rfl) rfl rfl ⟨_, rfl, hv⟩
set_option maxHeartbeats 4000000 in
theorem vX11_get_0 {E : gk_E} {dd : Nat} {o : Nat} {x1 : Int32} {x2 : Int32}  {h : gk_H} {K : Int64 → gk_H → Prop} (hv : RnI E mX11_isList (dd, 0, 0) [.int x1] h (fun v1 h1 => (v1 = 0 → K ((-9223372036854775808)) h1) ∧ (¬ v1 = 0 → (x2 < 0 → K ((-9223372036854775808)) h1) ∧ (¬ x2 < 0 → LdR h1 o 10 8 fun v2 => AlI h1 v2 x1 fun v3 => (x2 < v3 → LdR h1 o 10 9 fun v4 => AlL h1 v4 (((nI 12) * x1) + x2) fun v5 => K v5 h1) ∧ (¬ x2 < v3 → K ((-9223372036854775808)) h1))))) : RnL E mX11_get (dd + 1, 0, 0) [.ref o, .int x1, .int x2] h K := by
  show gk_G E mX11_get (dd + 1, 0, 0) 0 [(0, .ref o), (1, .int x1), (2, .int x2)] [] h (fun o h1 => ∃ v, o = some (.long v) ∧ K v h1)
  refine gk_iload_n (pc := 0) (DX11_get_0.at 0 rfl) 1 rfl rfl ?_
  refine gk_vS (pc := 1) [.int x1] [] (DX11_get_0.at 1 rfl) csX11_278 rfl rfl (Nat.le_of_ble_eq_true rfl) (Nat.le_of_ble_eq_true rfl) (gk_Run.post (fun o h1 z => ?_) hv)
  obtain ⟨v1, rfl, hv⟩ := z
  refine gk_if_eq (pc := 4) 21 (DX11_get_0.at 2 rfl) (by decide) (fun c => ?_) (fun c => ?_)
  · replace hv := hv.1 c
    refine gk_ldc2 (pc := 21) ((-9223372036854775808)) (DX11_get_0.at 11 rfl) klX11_291 ?_
    exact gk_lreturn (pc := 24) (DX11_get_0.at 12 rfl) rfl ⟨_, rfl, hv⟩
  · replace hv := hv.2 c
    refine gk_iload_n (pc := 7) (DX11_get_0.at 3 rfl) 2 rfl rfl ?_
    refine gk_if_lt (pc := 8) 21 (DX11_get_0.at 4 rfl) (by decide) (fun c => ?_) (fun c => ?_)
    · replace hv := hv.1 c
      refine gk_ldc2 (pc := 21) ((-9223372036854775808)) (DX11_get_0.at 11 rfl) klX11_291 ?_
      exact gk_lreturn (pc := 24) (DX11_get_0.at 12 rfl) rfl ⟨_, rfl, hv⟩
    · replace hv := hv.2 c
      refine gk_iload_n (pc := 11) (DX11_get_0.at 5 rfl) 2 rfl rfl ?_
      refine gk_aload_n (pc := 12) (DX11_get_0.at 6 rfl) 0 rfl rfl ?_
      obtain ⟨fs2, v2, q2, r2, hv⟩ := hv
      refine gk_get (pc := 13) (.ref v2) (DX11_get_0.at 7 rfl) fX11_70_10 q2 r2 ?_
      refine gk_iload_n (pc := 16) (DX11_get_0.at 8 rfl) 1 rfl rfl ?_
      obtain ⟨n3, f3, q3, r3, hv⟩ := hv
      refine gk_iald (pc := 17) (DX11_get_0.at 9 rfl) q3 r3 ?_
      generalize f3 _ = v3 at hv ⊢
      refine gk_icmp_lt (pc := 18) 25 (DX11_get_0.at 10 rfl) (by decide) (fun c => ?_) (fun c => ?_)
      · replace hv := hv.1 c
        refine gk_aload_n (pc := 25) (DX11_get_0.at 13 rfl) 0 rfl rfl ?_
        obtain ⟨fs4, v4, q4, r4, hv⟩ := hv
        refine gk_get (pc := 26) (.ref v4) (DX11_get_0.at 14 rfl) fX11_74_10 q4 r4 ?_
        refine gk_bipush (pc := 29) (nI 12) (DX11_get_0.at 15 rfl) cb_12 ?_
        refine gk_iload_n (pc := 31) (DX11_get_0.at 16 rfl) 1 rfl rfl ?_
        refine gk_imul (pc := 32) (DX11_get_0.at 17 rfl) ?_
        refine gk_iload_n (pc := 33) (DX11_get_0.at 18 rfl) 2 rfl rfl ?_
        refine gk_iadd (pc := 34) (DX11_get_0.at 19 rfl) ?_
        obtain ⟨n5, f5, q5, r5, hv⟩ := hv
        refine gk_lald (pc := 35) (DX11_get_0.at 20 rfl) q5 r5 ?_
        generalize f5 _ = v5 at hv ⊢
        exact gk_lreturn (pc := 36) (DX11_get_0.at 21 rfl) rfl ⟨_, rfl, hv⟩
      · replace hv := hv.2 c
        refine gk_ldc2 (pc := 21) ((-9223372036854775808)) (DX11_get_0.at 11 rfl) klX11_291 ?_
        exact gk_lreturn (pc := 24) (DX11_get_0.at 12 rfl) rfl ⟨_, rfl, hv⟩
set_option maxHeartbeats 4000000 in
theorem vX11_image_0 {E : gk_E} {dd : Nat} {o : Nat}  {h : gk_H} {K : Int32 → gk_H → Prop} (hv : LdR h o 10 1 fun v1 => LdR h o 10 0 fun v2 => (∃ fs, h[v1]? = some (.inr (7, fs))) ∧ RnV E mX7_become (dd, 0, 0) [.ref v1, .ref v2] h (fun h3 => StI h3 o 10 2 (nI 1) fun h4 => LdR h4 o 10 0 fun v5 => LdR h4 v5 7 0 fun v6 => LdI h4 v6 8 0 fun v7 => K v7 h4)) : RnI E mX11_image (dd + 1, 0, 0) [.ref o] h K := by
  show gk_G E mX11_image (dd + 1, 0, 0) 0 [(0, .ref o)] [] h (fun o h1 => ∃ v, o = some (.int v) ∧ K v h1)
  refine gk_aload_n (pc := 0) (DX11_image_0.at 0 rfl) 0 rfl rfl ?_
  obtain ⟨fs1, v1, q1, r1, hv⟩ := hv
  refine gk_get (pc := 1) (.ref v1) (DX11_image_0.at 1 rfl) fX11_18_10 q1 r1 ?_
  refine gk_aload_n (pc := 4) (DX11_image_0.at 2 rfl) 0 rfl rfl ?_
  obtain ⟨fs2, v2, q2, r2, hv⟩ := hv
  refine gk_get (pc := 5) (.ref v2) (DX11_image_0.at 3 rfl) fX11_12_10 q2 r2 ?_
  obtain ⟨⟨fs3, q3⟩, hv⟩ := hv
  refine gk_vV (pc := 8) [.ref v2] [] (DX11_image_0.at 4 rfl) cvX11_310 q3 rfl rfl (Nat.le_of_ble_eq_true rfl) (Nat.le_of_ble_eq_true rfl) (gk_Run.post (fun o h3 z => ?_) hv)
  obtain ⟨rfl, hv⟩ := z
  refine gk_aload_n (pc := 11) (DX11_image_0.at 5 rfl) 0 rfl rfl ?_
  refine gk_iconst (pc := 12) (nI 1) (DX11_image_0.at 6 rfl) ci_1 ?_
  obtain ⟨fs4, q4, r4, hv⟩ := hv
  refine gk_put (pc := 13) (DX11_image_0.at 7 rfl) fX11_21_10w q4 r4 rfl rfl ?_
  generalize h3.set _ _ = h4 at hv ⊢
  refine gk_aload_n (pc := 16) (DX11_image_0.at 8 rfl) 0 rfl rfl ?_
  obtain ⟨fs5, v5, q5, r5, hv⟩ := hv
  refine gk_get (pc := 17) (.ref v5) (DX11_image_0.at 9 rfl) fX11_12_10 q5 r5 ?_
  obtain ⟨fs6, v6, q6, r6, hv⟩ := hv
  refine gk_get (pc := 20) (.ref v6) (DX11_image_0.at 10 rfl) fX11_52_7 q6 r6 ?_
  obtain ⟨fs7, v7, q7, r7, hv⟩ := hv
  refine gk_get (pc := 23) (.int v7) (DX11_image_0.at 11 rfl) fX11_88_8 q7 r7 ?_
  exact gk_ireturn (pc := 26) .int (DX11_image_0.at 12 rfl) rfl rfl ⟨_, rfl, hv⟩
set_option maxHeartbeats 4000000 in
theorem vX11_isAtom_0 {E : gk_E} {dd : Nat} {o : Nat} {x1 : Int32}  {h : gk_H} {K : Int32 → gk_H → Prop} (hv : (x1 < 0 → K (nI 0) h) ∧ (¬ x1 < 0 → LdR h o 10 0 fun v1 => LdR h v1 7 0 fun v2 => LdI h v2 8 0 fun v3 => (v3 ≤ x1 → K (nI 0) h) ∧ (¬ v3 ≤ x1 → K (nI 1) h))) : RnI E mX11_isAtom (dd, 0, 0) [.ref o, .int x1] h K := by
  show gk_G E mX11_isAtom (dd, 0, 0) 0 [(0, .ref o), (1, .int x1)] [] h (fun o h1 => ∃ v, o = some (.int v) ∧ K v h1)
  refine gk_iload_n (pc := 0) (DX11_isAtom_0.at 0 rfl) 1 rfl rfl ?_
  refine gk_if_lt (pc := 1) 22 (DX11_isAtom_0.at 1 rfl) (by decide) (fun c => ?_) (fun c => ?_)
  · replace hv := hv.1 c
    refine gk_iconst (pc := 22) (nI 0) (DX11_isAtom_0.at 10 rfl) ci_0 ?_
    exact gk_ireturn (pc := 23) .boolean (DX11_isAtom_0.at 11 rfl) rfl rfl ⟨_, rfl, hv⟩
  · replace hv := hv.2 c
    refine gk_iload_n (pc := 4) (DX11_isAtom_0.at 2 rfl) 1 rfl rfl ?_
    refine gk_aload_n (pc := 5) (DX11_isAtom_0.at 3 rfl) 0 rfl rfl ?_
    obtain ⟨fs1, v1, q1, r1, hv⟩ := hv
    refine gk_get (pc := 6) (.ref v1) (DX11_isAtom_0.at 4 rfl) fX11_12_10 q1 r1 ?_
    obtain ⟨fs2, v2, q2, r2, hv⟩ := hv
    refine gk_get (pc := 9) (.ref v2) (DX11_isAtom_0.at 5 rfl) fX11_52_7 q2 r2 ?_
    obtain ⟨fs3, v3, q3, r3, hv⟩ := hv
    refine gk_get (pc := 12) (.int v3) (DX11_isAtom_0.at 6 rfl) fX11_88_8 q3 r3 ?_
    refine gk_icmp_ge (pc := 15) 22 (DX11_isAtom_0.at 7 rfl) (by decide) (fun c => ?_) (fun c => ?_)
    · replace hv := hv.1 c
      refine gk_iconst (pc := 22) (nI 0) (DX11_isAtom_0.at 10 rfl) ci_0 ?_
      exact gk_ireturn (pc := 23) .boolean (DX11_isAtom_0.at 11 rfl) rfl rfl ⟨_, rfl, hv⟩
    · replace hv := hv.2 c
      refine gk_iconst (pc := 18) (nI 1) (DX11_isAtom_0.at 8 rfl) ci_1 ?_
      refine gk_goto (pc := 19) 23 (DX11_isAtom_0.at 9 rfl) (by decide) ?_
      exact gk_ireturn (pc := 23) .boolean (DX11_isAtom_0.at 11 rfl) rfl rfl ⟨_, rfl, hv⟩
set_option maxHeartbeats 4000000 in
theorem vX11_isAtomButZero_0 {E : gk_E} {dd : Nat} {o : Nat} {x1 : Int32}  {h : gk_H} {K : Int32 → gk_H → Prop} (hv : (x1 < (nI 1) → K (nI 0) h) ∧ (¬ x1 < (nI 1) → LdR h o 10 0 fun v1 => LdR h v1 7 0 fun v2 => LdI h v2 8 0 fun v3 => (v3 ≤ x1 → K (nI 0) h) ∧ (¬ v3 ≤ x1 → K (nI 1) h))) : RnI E mX11_isAtomButZero (dd, 0, 0) [.ref o, .int x1] h K := by
  show gk_G E mX11_isAtomButZero (dd, 0, 0) 0 [(0, .ref o), (1, .int x1)] [] h (fun o h1 => ∃ v, o = some (.int v) ∧ K v h1)
  refine gk_iload_n (pc := 0) (DX11_isAtomButZero_0.at 0 rfl) 1 rfl rfl ?_
  refine gk_iconst (pc := 1) (nI 1) (DX11_isAtomButZero_0.at 1 rfl) ci_1 ?_
  refine gk_icmp_lt (pc := 2) 23 (DX11_isAtomButZero_0.at 2 rfl) (by decide) (fun c => ?_) (fun c => ?_)
  · replace hv := hv.1 c
    refine gk_iconst (pc := 23) (nI 0) (DX11_isAtomButZero_0.at 11 rfl) ci_0 ?_
    exact gk_ireturn (pc := 24) .boolean (DX11_isAtomButZero_0.at 12 rfl) rfl rfl ⟨_, rfl, hv⟩
  · replace hv := hv.2 c
    refine gk_iload_n (pc := 5) (DX11_isAtomButZero_0.at 3 rfl) 1 rfl rfl ?_
    refine gk_aload_n (pc := 6) (DX11_isAtomButZero_0.at 4 rfl) 0 rfl rfl ?_
    obtain ⟨fs1, v1, q1, r1, hv⟩ := hv
    refine gk_get (pc := 7) (.ref v1) (DX11_isAtomButZero_0.at 5 rfl) fX11_12_10 q1 r1 ?_
    obtain ⟨fs2, v2, q2, r2, hv⟩ := hv
    refine gk_get (pc := 10) (.ref v2) (DX11_isAtomButZero_0.at 6 rfl) fX11_52_7 q2 r2 ?_
    obtain ⟨fs3, v3, q3, r3, hv⟩ := hv
    refine gk_get (pc := 13) (.int v3) (DX11_isAtomButZero_0.at 7 rfl) fX11_88_8 q3 r3 ?_
    refine gk_icmp_ge (pc := 16) 23 (DX11_isAtomButZero_0.at 8 rfl) (by decide) (fun c => ?_) (fun c => ?_)
    · replace hv := hv.1 c
      refine gk_iconst (pc := 23) (nI 0) (DX11_isAtomButZero_0.at 11 rfl) ci_0 ?_
      exact gk_ireturn (pc := 24) .boolean (DX11_isAtomButZero_0.at 12 rfl) rfl rfl ⟨_, rfl, hv⟩
    · replace hv := hv.2 c
      refine gk_iconst (pc := 19) (nI 1) (DX11_isAtomButZero_0.at 9 rfl) ci_1 ?_
      refine gk_goto (pc := 20) 24 (DX11_isAtomButZero_0.at 10 rfl) (by decide) ?_
      exact gk_ireturn (pc := 24) .boolean (DX11_isAtomButZero_0.at 12 rfl) rfl rfl ⟨_, rfl, hv⟩
set_option maxHeartbeats 4000000 in
theorem vX11_isIn_0 {E : gk_E} {dd : Nat} {o : Nat} {x1 : Int32} {x2 : Int32} {x3 : Int32}  {h : gk_H} {K : Int32 → gk_H → Prop} (hv : (∃ fs, h[o]? = some (.inr (10, fs))) ∧ RnI E mX11_isAtom (dd, 0, 0) [.ref o, .int x1] h (fun v1 h1 => (v1 = 0 → K ((-1)) h1) ∧ (¬ v1 = 0 → (∃ fs, h1[o]? = some (.inr (10, fs))) ∧ RnI E mX11_isAtom (dd, 0, 0) [.ref o, .int x2] h1 (fun v2 h2 => (v2 = 0 → K ((-1)) h2) ∧ (¬ v2 = 0 → (∃ fs, h2[o]? = some (.inr (10, fs))) ∧ RnI E mX11_isAtom (dd, 0, 0) [.ref o, .int x3] h2 (fun v3 h3 => (¬ v3 = 0 → LdR h3 o 10 0 fun v4 => LdR h3 v4 7 0 fun v5 => (∃ fs, h3[v5]? = some (.inr (8, fs))) ∧ RnI E mX8_has (dd, 0, 0) [.ref v5, .int x1, .int x2, .int x3] h3 (fun v6 h6 => (v6 = 0 → K (nI 0) h6) ∧ (¬ v6 = 0 → K (nI 1) h6))) ∧ (v3 = 0 → K ((-1)) h3))))))) : RnI E mX11_isIn (dd + 1, 0, 0) [.ref o, .int x1, .int x2, .int x3] h K := by
  show gk_G E mX11_isIn (dd + 1, 0, 0) 0 [(0, .ref o), (1, .int x1), (2, .int x2), (3, .int x3)] [] h (fun o h1 => ∃ v, o = some (.int v) ∧ K v h1)
  refine gk_aload_n (pc := 0) (DX11_isIn_0.at 0 rfl) 0 rfl rfl ?_
  refine gk_iload_n (pc := 1) (DX11_isIn_0.at 1 rfl) 1 rfl rfl ?_
  obtain ⟨⟨fs1, q1⟩, hv⟩ := hv
  refine gk_vV (pc := 2) [.int x1] [] (DX11_isIn_0.at 2 rfl) cvX11_120 q1 rfl rfl (Nat.le_of_ble_eq_true rfl) (Nat.le_of_ble_eq_true rfl) (gk_Run.post (fun o h1 z => ?_) hv)
  obtain ⟨v1, rfl, hv⟩ := z
  refine gk_if_eq (pc := 5) 24 (DX11_isIn_0.at 3 rfl) (by decide) (fun c => ?_) (fun c => ?_)
  · replace hv := hv.1 c
    refine gk_iconst (pc := 24) ((-1)) (DX11_isIn_0.at 12 rfl) ci_m1 ?_
    exact gk_ireturn (pc := 25) .int (DX11_isIn_0.at 13 rfl) rfl rfl ⟨_, rfl, hv⟩
  · replace hv := hv.2 c
    refine gk_aload_n (pc := 8) (DX11_isIn_0.at 4 rfl) 0 rfl rfl ?_
    refine gk_iload_n (pc := 9) (DX11_isIn_0.at 5 rfl) 2 rfl rfl ?_
    obtain ⟨⟨fs2, q2⟩, hv⟩ := hv
    refine gk_vV (pc := 10) [.int x2] [] (DX11_isIn_0.at 6 rfl) cvX11_120 q2 rfl rfl (Nat.le_of_ble_eq_true rfl) (Nat.le_of_ble_eq_true rfl) (gk_Run.post (fun o h2 z => ?_) hv)
    obtain ⟨v2, rfl, hv⟩ := z
    refine gk_if_eq (pc := 13) 24 (DX11_isIn_0.at 7 rfl) (by decide) (fun c => ?_) (fun c => ?_)
    · replace hv := hv.1 c
      refine gk_iconst (pc := 24) ((-1)) (DX11_isIn_0.at 12 rfl) ci_m1 ?_
      exact gk_ireturn (pc := 25) .int (DX11_isIn_0.at 13 rfl) rfl rfl ⟨_, rfl, hv⟩
    · replace hv := hv.2 c
      refine gk_aload_n (pc := 16) (DX11_isIn_0.at 8 rfl) 0 rfl rfl ?_
      refine gk_iload_n (pc := 17) (DX11_isIn_0.at 9 rfl) 3 rfl rfl ?_
      obtain ⟨⟨fs3, q3⟩, hv⟩ := hv
      refine gk_vV (pc := 18) [.int x3] [] (DX11_isIn_0.at 10 rfl) cvX11_120 q3 rfl rfl (Nat.le_of_ble_eq_true rfl) (Nat.le_of_ble_eq_true rfl) (gk_Run.post (fun o h3 z => ?_) hv)
      obtain ⟨v3, rfl, hv⟩ := z
      refine gk_if_ne (pc := 21) 26 (DX11_isIn_0.at 11 rfl) (by decide) (fun c => ?_) (fun c => ?_)
      · replace hv := hv.1 c
        refine gk_aload_n (pc := 26) (DX11_isIn_0.at 14 rfl) 0 rfl rfl ?_
        obtain ⟨fs4, v4, q4, r4, hv⟩ := hv
        refine gk_get (pc := 27) (.ref v4) (DX11_isIn_0.at 15 rfl) fX11_12_10 q4 r4 ?_
        obtain ⟨fs5, v5, q5, r5, hv⟩ := hv
        refine gk_get (pc := 30) (.ref v5) (DX11_isIn_0.at 16 rfl) fX11_52_7 q5 r5 ?_
        refine gk_iload_n (pc := 33) (DX11_isIn_0.at 17 rfl) 1 rfl rfl ?_
        refine gk_iload_n (pc := 34) (DX11_isIn_0.at 18 rfl) 2 rfl rfl ?_
        refine gk_iload_n (pc := 35) (DX11_isIn_0.at 19 rfl) 3 rfl rfl ?_
        obtain ⟨⟨fs6, q6⟩, hv⟩ := hv
        refine gk_vV (pc := 36) [.int x1, .int x2, .int x3] [] (DX11_isIn_0.at 20 rfl) cvX11_127 q6 rfl rfl (Nat.le_of_ble_eq_true rfl) (Nat.le_of_ble_eq_true rfl) (gk_Run.post (fun o h6 z => ?_) hv)
        obtain ⟨v6, rfl, hv⟩ := z
        refine gk_if_eq (pc := 39) 46 (DX11_isIn_0.at 21 rfl) (by decide) (fun c => ?_) (fun c => ?_)
        · replace hv := hv.1 c
          refine gk_iconst (pc := 46) (nI 0) (DX11_isIn_0.at 24 rfl) ci_0 ?_
          exact gk_ireturn (pc := 47) .int (DX11_isIn_0.at 25 rfl) rfl rfl ⟨_, rfl, hv⟩
        · replace hv := hv.2 c
          refine gk_iconst (pc := 42) (nI 1) (DX11_isIn_0.at 22 rfl) ci_1 ?_
          refine gk_goto (pc := 43) 47 (DX11_isIn_0.at 23 rfl) (by decide) ?_
          exact gk_ireturn (pc := 47) .int (DX11_isIn_0.at 25 rfl) rfl rfl ⟨_, rfl, hv⟩
      · replace hv := hv.2 c
        refine gk_iconst (pc := 24) ((-1)) (DX11_isIn_0.at 12 rfl) ci_m1 ?_
        exact gk_ireturn (pc := 25) .int (DX11_isIn_0.at 13 rfl) rfl rfl ⟨_, rfl, hv⟩
set_option maxHeartbeats 4000000 in
theorem vX11_isList_0 {E : gk_E} {dd : Nat} {x0 : Int32}  {h : gk_H} {K : Int32 → gk_H → Prop} (hv : (x0 < 0 → K (nI 0) h) ∧ (¬ x0 < 0 → ((nI 3) ≤ x0 → K (nI 0) h) ∧ (¬ (nI 3) ≤ x0 → K (nI 1) h))) : RnI E mX11_isList (dd, 0, 0) [.int x0] h K := by
  show gk_G E mX11_isList (dd, 0, 0) 0 [(0, .int x0)] [] h (fun o h1 => ∃ v, o = some (.int v) ∧ K v h1)
  refine gk_iload_n (pc := 0) (DX11_isList_0.at 0 rfl) 0 rfl rfl ?_
  refine gk_if_lt (pc := 1) 13 (DX11_isList_0.at 1 rfl) (by decide) (fun c => ?_) (fun c => ?_)
  · replace hv := hv.1 c
    refine gk_iconst (pc := 13) (nI 0) (DX11_isList_0.at 7 rfl) ci_0 ?_
    exact gk_ireturn (pc := 14) .boolean (DX11_isList_0.at 8 rfl) rfl rfl ⟨_, rfl, hv⟩
  · replace hv := hv.2 c
    refine gk_iload_n (pc := 4) (DX11_isList_0.at 2 rfl) 0 rfl rfl ?_
    refine gk_iconst (pc := 5) (nI 3) (DX11_isList_0.at 3 rfl) ci_3 ?_
    refine gk_icmp_ge (pc := 6) 13 (DX11_isList_0.at 4 rfl) (by decide) (fun c => ?_) (fun c => ?_)
    · replace hv := hv.1 c
      refine gk_iconst (pc := 13) (nI 0) (DX11_isList_0.at 7 rfl) ci_0 ?_
      exact gk_ireturn (pc := 14) .boolean (DX11_isList_0.at 8 rfl) rfl rfl ⟨_, rfl, hv⟩
    · replace hv := hv.2 c
      refine gk_iconst (pc := 9) (nI 1) (DX11_isList_0.at 5 rfl) ci_1 ?_
      refine gk_goto (pc := 10) 14 (DX11_isList_0.at 6 rfl) (by decide) ?_
      exact gk_ireturn (pc := 14) .boolean (DX11_isList_0.at 8 rfl) rfl rfl ⟨_, rfl, hv⟩
set_option maxHeartbeats 4000000 in
theorem vX11_isNet_0 {E : gk_E} {dd : Nat} {x0 : Int32}  {h : gk_H} {K : Int32 → gk_H → Prop} (hv : (x0 < 0 → K (nI 0) h) ∧ (¬ x0 < 0 → ((nI 3) ≤ x0 → K (nI 0) h) ∧ (¬ (nI 3) ≤ x0 → K (nI 1) h))) : RnI E mX11_isNet (dd, 0, 0) [.int x0] h K := by
  show gk_G E mX11_isNet (dd, 0, 0) 0 [(0, .int x0)] [] h (fun o h1 => ∃ v, o = some (.int v) ∧ K v h1)
  refine gk_iload_n (pc := 0) (DX11_isNet_0.at 0 rfl) 0 rfl rfl ?_
  refine gk_if_lt (pc := 1) 13 (DX11_isNet_0.at 1 rfl) (by decide) (fun c => ?_) (fun c => ?_)
  · replace hv := hv.1 c
    refine gk_iconst (pc := 13) (nI 0) (DX11_isNet_0.at 7 rfl) ci_0 ?_
    exact gk_ireturn (pc := 14) .boolean (DX11_isNet_0.at 8 rfl) rfl rfl ⟨_, rfl, hv⟩
  · replace hv := hv.2 c
    refine gk_iload_n (pc := 4) (DX11_isNet_0.at 2 rfl) 0 rfl rfl ?_
    refine gk_iconst (pc := 5) (nI 3) (DX11_isNet_0.at 3 rfl) ci_3 ?_
    refine gk_icmp_ge (pc := 6) 13 (DX11_isNet_0.at 4 rfl) (by decide) (fun c => ?_) (fun c => ?_)
    · replace hv := hv.1 c
      refine gk_iconst (pc := 13) (nI 0) (DX11_isNet_0.at 7 rfl) ci_0 ?_
      exact gk_ireturn (pc := 14) .boolean (DX11_isNet_0.at 8 rfl) rfl rfl ⟨_, rfl, hv⟩
    · replace hv := hv.2 c
      refine gk_iconst (pc := 9) (nI 1) (DX11_isNet_0.at 5 rfl) ci_1 ?_
      refine gk_goto (pc := 10) 14 (DX11_isNet_0.at 6 rfl) (by decide) ?_
      exact gk_ireturn (pc := 14) .boolean (DX11_isNet_0.at 8 rfl) rfl rfl ⟨_, rfl, hv⟩
set_option maxHeartbeats 4000000 in
theorem vX11_isNode_0 {E : gk_E} {dd : Nat} {o : Nat} {x1 : Int32} {x2 : Int32}  {h : gk_H} {K : Int32 → gk_H → Prop} (hv : RnI E mX11_isNet (dd, 0, 0) [.int x1] h (fun v1 h1 => (v1 = 0 → K (nI 0) h1) ∧ (¬ v1 = 0 → (x2 < 0 → K (nI 0) h1) ∧ (¬ x2 < 0 → LdR h1 o 10 0 fun v2 => LdR h1 v2 7 1 fun v3 => AlR 5 h1 v3 x1 fun v4 => LdI h1 v4 3 0 fun v5 => (v5 ≤ x2 → K (nI 0) h1) ∧ (¬ v5 ≤ x2 → K (nI 1) h1))))) : RnI E mX11_isNode (dd + 1, 0, 0) [.ref o, .int x1, .int x2] h K := by
  show gk_G E mX11_isNode (dd + 1, 0, 0) 0 [(0, .ref o), (1, .int x1), (2, .int x2)] [] h (fun o h1 => ∃ v, o = some (.int v) ∧ K v h1)
  refine gk_iload_n (pc := 0) (DX11_isNode_0.at 0 rfl) 1 rfl rfl ?_
  refine gk_vS (pc := 1) [.int x1] [] (DX11_isNode_0.at 1 rfl) csX11_174 rfl rfl (Nat.le_of_ble_eq_true rfl) (Nat.le_of_ble_eq_true rfl) (gk_Run.post (fun o h1 z => ?_) hv)
  obtain ⟨v1, rfl, hv⟩ := z
  refine gk_if_eq (pc := 4) 31 (DX11_isNode_0.at 2 rfl) (by decide) (fun c => ?_) (fun c => ?_)
  · replace hv := hv.1 c
    refine gk_iconst (pc := 31) (nI 0) (DX11_isNode_0.at 15 rfl) ci_0 ?_
    exact gk_ireturn (pc := 32) .boolean (DX11_isNode_0.at 16 rfl) rfl rfl ⟨_, rfl, hv⟩
  · replace hv := hv.2 c
    refine gk_iload_n (pc := 7) (DX11_isNode_0.at 3 rfl) 2 rfl rfl ?_
    refine gk_if_lt (pc := 8) 31 (DX11_isNode_0.at 4 rfl) (by decide) (fun c => ?_) (fun c => ?_)
    · replace hv := hv.1 c
      refine gk_iconst (pc := 31) (nI 0) (DX11_isNode_0.at 15 rfl) ci_0 ?_
      exact gk_ireturn (pc := 32) .boolean (DX11_isNode_0.at 16 rfl) rfl rfl ⟨_, rfl, hv⟩
    · replace hv := hv.2 c
      refine gk_iload_n (pc := 11) (DX11_isNode_0.at 5 rfl) 2 rfl rfl ?_
      refine gk_aload_n (pc := 12) (DX11_isNode_0.at 6 rfl) 0 rfl rfl ?_
      obtain ⟨fs2, v2, q2, r2, hv⟩ := hv
      refine gk_get (pc := 13) (.ref v2) (DX11_isNode_0.at 7 rfl) fX11_12_10 q2 r2 ?_
      obtain ⟨fs3, v3, q3, r3, hv⟩ := hv
      refine gk_get (pc := 16) (.ref v3) (DX11_isNode_0.at 8 rfl) fX11_177_7 q3 r3 ?_
      refine gk_iload_n (pc := 19) (DX11_isNode_0.at 9 rfl) 1 rfl rfl ?_
      obtain ⟨n4, f4, v4, q4, r4, e4, hv⟩ := hv
      refine gk_aald5 (pc := 20) v4 (DX11_isNode_0.at 10 rfl) q4 r4 e4 ?_
      obtain ⟨fs5, v5, q5, r5, hv⟩ := hv
      refine gk_get (pc := 21) (.int v5) (DX11_isNode_0.at 11 rfl) fX11_181_3 q5 r5 ?_
      refine gk_icmp_ge (pc := 24) 31 (DX11_isNode_0.at 12 rfl) (by decide) (fun c => ?_) (fun c => ?_)
      · replace hv := hv.1 c
        refine gk_iconst (pc := 31) (nI 0) (DX11_isNode_0.at 15 rfl) ci_0 ?_
        exact gk_ireturn (pc := 32) .boolean (DX11_isNode_0.at 16 rfl) rfl rfl ⟨_, rfl, hv⟩
      · replace hv := hv.2 c
        refine gk_iconst (pc := 27) (nI 1) (DX11_isNode_0.at 13 rfl) ci_1 ?_
        refine gk_goto (pc := 28) 32 (DX11_isNode_0.at 14 rfl) (by decide) ?_
        exact gk_ireturn (pc := 32) .boolean (DX11_isNode_0.at 16 rfl) rfl rfl ⟨_, rfl, hv⟩
set_option maxHeartbeats 4000000 in
theorem vX11_isPlayable_0 {E : gk_E} {dd : Nat} {o : Nat} {x1 : Nat}  {h : gk_H} {K : Int32 → gk_H → Prop} (hv : LdR h o 10 0 fun v1 => LdR h v1 7 0 fun v2 => (∃ fs, h[x1]? = some (.inr (3, fs))) ∧ RnI E mX3_unsound (dd, 0, 0) [.ref x1, .ref v2] h (fun v3 h3 => (¬ v3 = ((-5)) → K (nI 0) h3) ∧ (v3 = ((-5)) → LdR h3 o 10 3 fun v4 => (∃ fs, h3[v4]? = some (.inr (4, fs))) ∧ RnI E mX4_isBarred (dd, 0, 0) [.ref v4, .ref x1] h3 (fun v5 h5 => (¬ v5 = 0 → K (nI 0) h5) ∧ (v5 = 0 → K (nI 1) h5))))) : RnI E mX11_isPlayable (dd + 1, 0, 0) [.ref o, .ref x1] h K := by
  show gk_G E mX11_isPlayable (dd + 1, 0, 0) 0 [(0, .ref o), (1, .ref x1)] [] h (fun o h1 => ∃ v, o = some (.int v) ∧ K v h1)
  refine gk_aload_n (pc := 0) (DX11_isPlayable_0.at 0 rfl) 1 rfl rfl ?_
  refine gk_aload_n (pc := 1) (DX11_isPlayable_0.at 1 rfl) 0 rfl rfl ?_
  obtain ⟨fs1, v1, q1, r1, hv⟩ := hv
  refine gk_get (pc := 2) (.ref v1) (DX11_isPlayable_0.at 2 rfl) fX11_12_10 q1 r1 ?_
  obtain ⟨fs2, v2, q2, r2, hv⟩ := hv
  refine gk_get (pc := 5) (.ref v2) (DX11_isPlayable_0.at 3 rfl) fX11_52_7 q2 r2 ?_
  obtain ⟨⟨fs3, q3⟩, hv⟩ := hv
  refine gk_vV (pc := 8) [.ref v2] [] (DX11_isPlayable_0.at 4 rfl) cvX11_209 q3 rfl rfl (Nat.le_of_ble_eq_true rfl) (Nat.le_of_ble_eq_true rfl) (gk_Run.post (fun o h3 z => ?_) hv)
  obtain ⟨v3, rfl, hv⟩ := z
  refine gk_bipush (pc := 11) ((-5)) (DX11_isPlayable_0.at 5 rfl) cb_m5 ?_
  refine gk_icmp_ne (pc := 13) 31 (DX11_isPlayable_0.at 6 rfl) (by decide) (fun c => ?_) (fun c => ?_)
  · replace hv := hv.1 c
    refine gk_iconst (pc := 31) (nI 0) (DX11_isPlayable_0.at 14 rfl) ci_0 ?_
    exact gk_ireturn (pc := 32) .boolean (DX11_isPlayable_0.at 15 rfl) rfl rfl ⟨_, rfl, hv⟩
  · replace hv := hv.2 c
    refine gk_aload_n (pc := 16) (DX11_isPlayable_0.at 7 rfl) 0 rfl rfl ?_
    obtain ⟨fs4, v4, q4, r4, hv⟩ := hv
    refine gk_get (pc := 17) (.ref v4) (DX11_isPlayable_0.at 8 rfl) fX11_30_10 q4 r4 ?_
    refine gk_aload_n (pc := 20) (DX11_isPlayable_0.at 9 rfl) 1 rfl rfl ?_
    obtain ⟨⟨fs5, q5⟩, hv⟩ := hv
    refine gk_vV (pc := 21) [.ref x1] [] (DX11_isPlayable_0.at 10 rfl) cvX11_318 q5 rfl rfl (Nat.le_of_ble_eq_true rfl) (Nat.le_of_ble_eq_true rfl) (gk_Run.post (fun o h5 z => ?_) hv)
    obtain ⟨v5, rfl, hv⟩ := z
    refine gk_if_ne (pc := 24) 31 (DX11_isPlayable_0.at 11 rfl) (by decide) (fun c => ?_) (fun c => ?_)
    · replace hv := hv.1 c
      refine gk_iconst (pc := 31) (nI 0) (DX11_isPlayable_0.at 14 rfl) ci_0 ?_
      exact gk_ireturn (pc := 32) .boolean (DX11_isPlayable_0.at 15 rfl) rfl rfl ⟨_, rfl, hv⟩
    · replace hv := hv.2 c
      refine gk_iconst (pc := 27) (nI 1) (DX11_isPlayable_0.at 12 rfl) ci_1 ?_
      refine gk_goto (pc := 28) 32 (DX11_isPlayable_0.at 13 rfl) (by decide) ?_
      exact gk_ireturn (pc := 32) .boolean (DX11_isPlayable_0.at 15 rfl) rfl rfl ⟨_, rfl, hv⟩
set_option maxHeartbeats 4000000 in
theorem vX11_isRelation_0 {E : gk_E} {dd : Nat} {o : Nat} {x1 : Int32}  {h : gk_H} {K : Int32 → gk_H → Prop} (hv : (x1 < 0 → K (nI 0) h) ∧ (¬ x1 < 0 → LdR h o 10 0 fun v1 => LdR h v1 7 0 fun v2 => (∃ fs, h[v2]? = some (.inr (8, fs))) ∧ RnI E mX8_relations (dd, 0, 0) [.ref v2] h (fun v3 h3 => (v3 ≤ x1 → K (nI 0) h3) ∧ (¬ v3 ≤ x1 → K (nI 1) h3)))) : RnI E mX11_isRelation (dd + 1, 0, 0) [.ref o, .int x1] h K := by
  show gk_G E mX11_isRelation (dd + 1, 0, 0) 0 [(0, .ref o), (1, .int x1)] [] h (fun o h1 => ∃ v, o = some (.int v) ∧ K v h1)
  refine gk_iload_n (pc := 0) (DX11_isRelation_0.at 0 rfl) 1 rfl rfl ?_
  refine gk_if_lt (pc := 1) 22 (DX11_isRelation_0.at 1 rfl) (by decide) (fun c => ?_) (fun c => ?_)
  · replace hv := hv.1 c
    refine gk_iconst (pc := 22) (nI 0) (DX11_isRelation_0.at 10 rfl) ci_0 ?_
    exact gk_ireturn (pc := 23) .boolean (DX11_isRelation_0.at 11 rfl) rfl rfl ⟨_, rfl, hv⟩
  · replace hv := hv.2 c
    refine gk_iload_n (pc := 4) (DX11_isRelation_0.at 2 rfl) 1 rfl rfl ?_
    refine gk_aload_n (pc := 5) (DX11_isRelation_0.at 3 rfl) 0 rfl rfl ?_
    obtain ⟨fs1, v1, q1, r1, hv⟩ := hv
    refine gk_get (pc := 6) (.ref v1) (DX11_isRelation_0.at 4 rfl) fX11_12_10 q1 r1 ?_
    obtain ⟨fs2, v2, q2, r2, hv⟩ := hv
    refine gk_get (pc := 9) (.ref v2) (DX11_isRelation_0.at 5 rfl) fX11_52_7 q2 r2 ?_
    obtain ⟨⟨fs3, q3⟩, hv⟩ := hv
    refine gk_vV (pc := 12) [] [.int x1] (DX11_isRelation_0.at 6 rfl) cvX11_146 q3 rfl rfl (Nat.le_of_ble_eq_true rfl) (Nat.le_of_ble_eq_true rfl) (gk_Run.post (fun o h3 z => ?_) hv)
    obtain ⟨v3, rfl, hv⟩ := z
    refine gk_icmp_ge (pc := 15) 22 (DX11_isRelation_0.at 7 rfl) (by decide) (fun c => ?_) (fun c => ?_)
    · replace hv := hv.1 c
      refine gk_iconst (pc := 22) (nI 0) (DX11_isRelation_0.at 10 rfl) ci_0 ?_
      exact gk_ireturn (pc := 23) .boolean (DX11_isRelation_0.at 11 rfl) rfl rfl ⟨_, rfl, hv⟩
    · replace hv := hv.2 c
      refine gk_iconst (pc := 18) (nI 1) (DX11_isRelation_0.at 8 rfl) ci_1 ?_
      refine gk_goto (pc := 19) 23 (DX11_isRelation_0.at 9 rfl) (by decide) ?_
      exact gk_ireturn (pc := 23) .boolean (DX11_isRelation_0.at 11 rfl) rfl rfl ⟨_, rfl, hv⟩
set_option maxHeartbeats 4000000 in
theorem vX11_isSide_0 {E : gk_E} {dd : Nat} {x0 : Int32}  {h : gk_H} {K : Int32 → gk_H → Prop} (hv : (x0 = 0 → K (nI 1) h) ∧ (¬ x0 = 0 → (¬ x0 = (nI 1) → K (nI 0) h) ∧ (x0 = (nI 1) → K (nI 1) h))) : RnI E mX11_isSide (dd, 0, 0) [.int x0] h K := by
  show gk_G E mX11_isSide (dd, 0, 0) 0 [(0, .int x0)] [] h (fun o h1 => ∃ v, o = some (.int v) ∧ K v h1)
  refine gk_iload_n (pc := 0) (DX11_isSide_0.at 0 rfl) 0 rfl rfl ?_
  refine gk_if_eq (pc := 1) 9 (DX11_isSide_0.at 1 rfl) (by decide) (fun c => ?_) (fun c => ?_)
  · replace hv := hv.1 c
    refine gk_iconst (pc := 9) (nI 1) (DX11_isSide_0.at 5 rfl) ci_1 ?_
    refine gk_goto (pc := 10) 14 (DX11_isSide_0.at 6 rfl) (by decide) ?_
    exact gk_ireturn (pc := 14) .boolean (DX11_isSide_0.at 8 rfl) rfl rfl ⟨_, rfl, hv⟩
  · replace hv := hv.2 c
    refine gk_iload_n (pc := 4) (DX11_isSide_0.at 2 rfl) 0 rfl rfl ?_
    refine gk_iconst (pc := 5) (nI 1) (DX11_isSide_0.at 3 rfl) ci_1 ?_
    refine gk_icmp_ne (pc := 6) 13 (DX11_isSide_0.at 4 rfl) (by decide) (fun c => ?_) (fun c => ?_)
    · replace hv := hv.1 c
      refine gk_iconst (pc := 13) (nI 0) (DX11_isSide_0.at 7 rfl) ci_0 ?_
      exact gk_ireturn (pc := 14) .boolean (DX11_isSide_0.at 8 rfl) rfl rfl ⟨_, rfl, hv⟩
    · replace hv := hv.2 c
      refine gk_iconst (pc := 9) (nI 1) (DX11_isSide_0.at 5 rfl) ci_1 ?_
      refine gk_goto (pc := 10) 14 (DX11_isSide_0.at 6 rfl) (by decide) ?_
      exact gk_ireturn (pc := 14) .boolean (DX11_isSide_0.at 8 rfl) rfl rfl ⟨_, rfl, hv⟩
set_option maxHeartbeats 4000000 in
theorem vX11_judge_0 {E : gk_E} {dd : Nat} {o : Nat} {x1 : Int32}  {h : gk_H} {K : Int32 → gk_H → Prop} (hv : RnI E mX11_isList (dd, 0, 0) [.int x1] h (fun v1 h1 => (¬ v1 = 0 → LdR h1 o 10 8 fun v2 => AlI h1 v2 x1 fun v3 => (0 ≤ v3 → LdR h1 o 10 8 fun v4 => AlI h1 v4 x1 fun v5 => (¬ v5 = 0 → LdR h1 o 10 7 fun v6 => LdR h1 o 10 9 fun v7 => LdR h1 o 10 8 fun v8 => AlI h1 v8 x1 fun v9 => (∃ fs, h1[v6]? = some (.inr (5, fs))) ∧ RnI E mX5_verdict (dd, 0, 0) [.ref v6, .ref v7, .int ((nI 12) * x1), .int v9] h1 (fun v10 h10 => K v10 h10)) ∧ (v5 = 0 → K ((-2)) h1)) ∧ (¬ 0 ≤ v3 → K ((-11)) h1)) ∧ (v1 = 0 → K ((-1)) h1))) : RnI E mX11_judge (dd + 1, 0, 0) [.ref o, .int x1] h K := by
  show gk_G E mX11_judge (dd + 1, 0, 0) 0 [(0, .ref o), (1, .int x1)] [] h (fun o h1 => ∃ v, o = some (.int v) ∧ K v h1)
  refine gk_iload_n (pc := 0) (DX11_judge_0.at 0 rfl) 1 rfl rfl ?_
  refine gk_vS (pc := 1) [.int x1] [] (DX11_judge_0.at 1 rfl) csX11_278 rfl rfl (Nat.le_of_ble_eq_true rfl) (Nat.le_of_ble_eq_true rfl) (gk_Run.post (fun o h1 z => ?_) hv)
  obtain ⟨v1, rfl, hv⟩ := z
  refine gk_if_ne (pc := 4) 9 (DX11_judge_0.at 2 rfl) (by decide) (fun c => ?_) (fun c => ?_)
  · replace hv := hv.1 c
    refine gk_aload_n (pc := 9) (DX11_judge_0.at 5 rfl) 0 rfl rfl ?_
    obtain ⟨fs2, v2, q2, r2, hv⟩ := hv
    refine gk_get (pc := 10) (.ref v2) (DX11_judge_0.at 6 rfl) fX11_70_10 q2 r2 ?_
    refine gk_iload_n (pc := 13) (DX11_judge_0.at 7 rfl) 1 rfl rfl ?_
    obtain ⟨n3, f3, q3, r3, hv⟩ := hv
    refine gk_iald (pc := 14) (DX11_judge_0.at 8 rfl) q3 r3 ?_
    generalize f3 _ = v3 at hv ⊢
    refine gk_if_ge (pc := 15) 21 (DX11_judge_0.at 9 rfl) (by decide) (fun c => ?_) (fun c => ?_)
    · replace hv := hv.1 c
      refine gk_aload_n (pc := 21) (DX11_judge_0.at 12 rfl) 0 rfl rfl ?_
      obtain ⟨fs4, v4, q4, r4, hv⟩ := hv
      refine gk_get (pc := 22) (.ref v4) (DX11_judge_0.at 13 rfl) fX11_70_10 q4 r4 ?_
      refine gk_iload_n (pc := 25) (DX11_judge_0.at 14 rfl) 1 rfl rfl ?_
      obtain ⟨n5, f5, q5, r5, hv⟩ := hv
      refine gk_iald (pc := 26) (DX11_judge_0.at 15 rfl) q5 r5 ?_
      generalize f5 _ = v5 at hv ⊢
      refine gk_if_ne (pc := 27) 35 (DX11_judge_0.at 16 rfl) (by decide) (fun c => ?_) (fun c => ?_)
      · replace hv := hv.1 c
        refine gk_aload_n (pc := 35) (DX11_judge_0.at 19 rfl) 0 rfl rfl ?_
        obtain ⟨fs6, v6, q6, r6, hv⟩ := hv
        refine gk_get (pc := 36) (.ref v6) (DX11_judge_0.at 20 rfl) fX11_66_10 q6 r6 ?_
        refine gk_aload_n (pc := 39) (DX11_judge_0.at 21 rfl) 0 rfl rfl ?_
        obtain ⟨fs7, v7, q7, r7, hv⟩ := hv
        refine gk_get (pc := 40) (.ref v7) (DX11_judge_0.at 22 rfl) fX11_74_10 q7 r7 ?_
        refine gk_bipush (pc := 43) (nI 12) (DX11_judge_0.at 23 rfl) cb_12 ?_
        refine gk_iload_n (pc := 45) (DX11_judge_0.at 24 rfl) 1 rfl rfl ?_
        refine gk_imul (pc := 46) (DX11_judge_0.at 25 rfl) ?_
        refine gk_aload_n (pc := 47) (DX11_judge_0.at 26 rfl) 0 rfl rfl ?_
        obtain ⟨fs8, v8, q8, r8, hv⟩ := hv
        refine gk_get (pc := 48) (.ref v8) (DX11_judge_0.at 27 rfl) fX11_70_10 q8 r8 ?_
        refine gk_iload_n (pc := 51) (DX11_judge_0.at 28 rfl) 1 rfl rfl ?_
        obtain ⟨n9, f9, q9, r9, hv⟩ := hv
        refine gk_iald (pc := 52) (DX11_judge_0.at 29 rfl) q9 r9 ?_
        generalize f9 _ = v9 at hv ⊢
        obtain ⟨⟨fs10, q10⟩, hv⟩ := hv
        refine gk_vV (pc := 53) [.ref v7, .int ((nI 12) * x1), .int v9] [] (DX11_judge_0.at 30 rfl) cvX11_281 q10 rfl rfl (Nat.le_of_ble_eq_true rfl) (Nat.le_of_ble_eq_true rfl) (gk_Run.post (fun o h10 z => ?_) hv)
        obtain ⟨v10, rfl, hv⟩ := z
        exact gk_ireturn (pc := 56) .int (DX11_judge_0.at 31 rfl) rfl rfl ⟨_, rfl, hv⟩
      · replace hv := hv.2 c
        refine gk_bipush (pc := 30) ((-2)) (DX11_judge_0.at 17 rfl) cb_m2 ?_
        refine gk_goto (pc := 32) 56 (DX11_judge_0.at 18 rfl) (by decide) ?_
        exact gk_ireturn (pc := 56) .int (DX11_judge_0.at 31 rfl) rfl rfl ⟨_, rfl, hv⟩
    · replace hv := hv.2 c
      refine gk_bipush (pc := 18) ((-11)) (DX11_judge_0.at 10 rfl) cb_m11 ?_
      exact gk_ireturn (pc := 20) .int (DX11_judge_0.at 11 rfl) rfl rfl ⟨_, rfl, hv⟩
  · replace hv := hv.2 c
    refine gk_iconst (pc := 7) ((-1)) (DX11_judge_0.at 3 rfl) ci_m1 ?_
    exact gk_ireturn (pc := 8) .int (DX11_judge_0.at 4 rfl) rfl rfl ⟨_, rfl, hv⟩
set_option maxHeartbeats 4000000 in
theorem vX11_killer_0 {E : gk_E} {dd : Nat} {o : Nat} {x1 : Int32} {x2 : Int32}  {h : gk_H} {K : Int32 → gk_H → Prop} (hv : (∃ fs, h[o]? = some (.inr (10, fs))) ∧ RnI E mX11_gameRefusal (dd, 0, 0) [.ref o, .int x1, .int x2] h (fun v1 h1 => (v1 = 0 → LdR h1 o 10 5 fun v2 => LdR h1 o 10 0 fun v3 => LdR h1 v3 7 1 fun v4 => AlR 5 h1 v4 x1 fun v5 => (∃ fs, h1[v2]? = some (.inr (2, fs))) ∧ RnI E mX2_isWon (dd, 0, 0) [.ref v2, .ref v5, .int x2] h1 (fun v6 h6 => (v6 = 0 → LdR h6 o 10 5 fun v7 => (∃ fs, h6[v7]? = some (.inr (2, fs))) ∧ RnI E mX2_firstLeft (dd, 0, 0) [.ref v7, .int x2] h6 (fun v8 h8 => K v8 h8)) ∧ (¬ v6 = 0 → K ((-5)) h6))) ∧ (¬ v1 = 0 → K v1 h1))) : RnI E mX11_killer (dd + 1, 0, 0) [.ref o, .int x1, .int x2] h K := by
  show gk_G E mX11_killer (dd + 1, 0, 0) 0 [(0, .ref o), (1, .int x1), (2, .int x2)] [] h (fun o h1 => ∃ v, o = some (.int v) ∧ K v h1)
  refine gk_aload_n (pc := 0) (DX11_killer_0.at 0 rfl) 0 rfl rfl ?_
  refine gk_iload_n (pc := 1) (DX11_killer_0.at 1 rfl) 1 rfl rfl ?_
  refine gk_iload_n (pc := 2) (DX11_killer_0.at 2 rfl) 2 rfl rfl ?_
  obtain ⟨⟨fs1, q1⟩, hv⟩ := hv
  refine gk_vV (pc := 3) [.int x1, .int x2] [] (DX11_killer_0.at 3 rfl) cvX11_235 q1 rfl rfl (Nat.le_of_ble_eq_true rfl) (Nat.le_of_ble_eq_true rfl) (gk_Run.post (fun o h1 z => ?_) hv)
  obtain ⟨v1, rfl, hv⟩ := z
  refine gk_istore_n (pc := 6) [(3, .int v1), (0, .ref o), (1, .int x1), (2, .int x2)] (DX11_killer_0.at 4 rfl) rfl (Nat.le_of_ble_eq_true rfl) rfl ?_
  refine gk_iload_n (pc := 7) (DX11_killer_0.at 5 rfl) 0 rfl rfl ?_
  refine gk_if_eq (pc := 8) 13 (DX11_killer_0.at 6 rfl) (by decide) (fun c => ?_) (fun c => ?_)
  · replace hv := hv.1 c
    refine gk_aload_n (pc := 13) (DX11_killer_0.at 9 rfl) 1 rfl rfl ?_
    obtain ⟨fs2, v2, q2, r2, hv⟩ := hv
    refine gk_get (pc := 14) (.ref v2) (DX11_killer_0.at 10 rfl) fX11_46_10 q2 r2 ?_
    refine gk_aload_n (pc := 17) (DX11_killer_0.at 11 rfl) 1 rfl rfl ?_
    obtain ⟨fs3, v3, q3, r3, hv⟩ := hv
    refine gk_get (pc := 18) (.ref v3) (DX11_killer_0.at 12 rfl) fX11_12_10 q3 r3 ?_
    obtain ⟨fs4, v4, q4, r4, hv⟩ := hv
    refine gk_get (pc := 21) (.ref v4) (DX11_killer_0.at 13 rfl) fX11_177_7 q4 r4 ?_
    refine gk_iload_n (pc := 24) (DX11_killer_0.at 14 rfl) 2 rfl rfl ?_
    obtain ⟨n5, f5, v5, q5, r5, e5, hv⟩ := hv
    refine gk_aald5 (pc := 25) v5 (DX11_killer_0.at 15 rfl) q5 r5 e5 ?_
    refine gk_iload_n (pc := 26) (DX11_killer_0.at 16 rfl) 3 rfl rfl ?_
    obtain ⟨⟨fs6, q6⟩, hv⟩ := hv
    refine gk_vV (pc := 27) [.ref v5, .int x2] [] (DX11_killer_0.at 17 rfl) cvX11_238 q6 rfl rfl (Nat.le_of_ble_eq_true rfl) (Nat.le_of_ble_eq_true rfl) (gk_Run.post (fun o h6 z => ?_) hv)
    obtain ⟨v6, rfl, hv⟩ := z
    refine gk_if_eq (pc := 30) 38 (DX11_killer_0.at 18 rfl) (by decide) (fun c => ?_) (fun c => ?_)
    · replace hv := hv.1 c
      refine gk_aload_n (pc := 38) (DX11_killer_0.at 21 rfl) 1 rfl rfl ?_
      obtain ⟨fs7, v7, q7, r7, hv⟩ := hv
      refine gk_get (pc := 39) (.ref v7) (DX11_killer_0.at 22 rfl) fX11_46_10 q7 r7 ?_
      refine gk_iload_n (pc := 42) (DX11_killer_0.at 23 rfl) 3 rfl rfl ?_
      obtain ⟨⟨fs8, q8⟩, hv⟩ := hv
      refine gk_vV (pc := 43) [.int x2] [] (DX11_killer_0.at 24 rfl) cvX11_242 q8 rfl rfl (Nat.le_of_ble_eq_true rfl) (Nat.le_of_ble_eq_true rfl) (gk_Run.post (fun o h8 z => ?_) hv)
      obtain ⟨v8, rfl, hv⟩ := z
      exact gk_ireturn (pc := 46) .int (DX11_killer_0.at 25 rfl) rfl rfl ⟨_, rfl, hv⟩
    · replace hv := hv.2 c
      refine gk_bipush (pc := 33) ((-5)) (DX11_killer_0.at 19 rfl) cb_m5 ?_
      refine gk_goto (pc := 35) 46 (DX11_killer_0.at 20 rfl) (by decide) ?_
      exact gk_ireturn (pc := 46) .int (DX11_killer_0.at 25 rfl) rfl rfl ⟨_, rfl, hv⟩
  · replace hv := hv.2 c
    refine gk_iload_n (pc := 11) (DX11_killer_0.at 7 rfl) 0 rfl rfl ?_
    exact gk_ireturn (pc := 12) .int (DX11_killer_0.at 8 rfl) rfl rfl ⟨_, rfl, hv⟩
set_option maxHeartbeats 4000000 in
theorem vX11_label_0 {E : gk_E} {dd : Nat} {o : Nat} {x1 : Int32} {x2 : Int32} {x3 : Int32}  {h : gk_H} {K : Int32 → gk_H → Prop} (hv : (∃ fs, h[o]? = some (.inr (10, fs))) ∧ RnI E mX11_isNode (dd, 0, 0) [.ref o, .int x1, .int x2] h (fun v1 h1 => (v1 = 0 → K ((-1)) h1) ∧ (¬ v1 = 0 → (∃ fs, h1[o]? = some (.inr (10, fs))) ∧ RnI E mX11_isNode (dd, 0, 0) [.ref o, .int x1, .int x3] h1 (fun v2 h2 => (¬ v2 = 0 → LdR h2 o 10 0 fun v3 => LdR h2 v3 7 1 fun v4 => AlR 5 h2 v4 x1 fun v5 => (∃ fs, h2[v5]? = some (.inr (3, fs))) ∧ RnI E mX3_at (dd, 0, 0) [.ref v5, .int x2, .int x3] h2 (fun v6 h6 => K v6 h6)) ∧ (v2 = 0 → K ((-1)) h2))))) : RnI E mX11_label (dd + 1, 0, 0) [.ref o, .int x1, .int x2, .int x3] h K := by
  show gk_G E mX11_label (dd + 1, 0, 0) 0 [(0, .ref o), (1, .int x1), (2, .int x2), (3, .int x3)] [] h (fun o h1 => ∃ v, o = some (.int v) ∧ K v h1)
  refine gk_aload_n (pc := 0) (DX11_label_0.at 0 rfl) 0 rfl rfl ?_
  refine gk_iload_n (pc := 1) (DX11_label_0.at 1 rfl) 1 rfl rfl ?_
  refine gk_iload_n (pc := 2) (DX11_label_0.at 2 rfl) 2 rfl rfl ?_
  obtain ⟨⟨fs1, q1⟩, hv⟩ := hv
  refine gk_vV (pc := 3) [.int x1, .int x2] [] (DX11_label_0.at 3 rfl) cvX11_195 q1 rfl rfl (Nat.le_of_ble_eq_true rfl) (Nat.le_of_ble_eq_true rfl) (gk_Run.post (fun o h1 z => ?_) hv)
  obtain ⟨v1, rfl, hv⟩ := z
  refine gk_if_eq (pc := 6) 18 (DX11_label_0.at 4 rfl) (by decide) (fun c => ?_) (fun c => ?_)
  · replace hv := hv.1 c
    refine gk_iconst (pc := 18) ((-1)) (DX11_label_0.at 10 rfl) ci_m1 ?_
    exact gk_ireturn (pc := 19) .int (DX11_label_0.at 11 rfl) rfl rfl ⟨_, rfl, hv⟩
  · replace hv := hv.2 c
    refine gk_aload_n (pc := 9) (DX11_label_0.at 5 rfl) 0 rfl rfl ?_
    refine gk_iload_n (pc := 10) (DX11_label_0.at 6 rfl) 1 rfl rfl ?_
    refine gk_iload_n (pc := 11) (DX11_label_0.at 7 rfl) 3 rfl rfl ?_
    obtain ⟨⟨fs2, q2⟩, hv⟩ := hv
    refine gk_vV (pc := 12) [.int x1, .int x3] [] (DX11_label_0.at 8 rfl) cvX11_195 q2 rfl rfl (Nat.le_of_ble_eq_true rfl) (Nat.le_of_ble_eq_true rfl) (gk_Run.post (fun o h2 z => ?_) hv)
    obtain ⟨v2, rfl, hv⟩ := z
    refine gk_if_ne (pc := 15) 20 (DX11_label_0.at 9 rfl) (by decide) (fun c => ?_) (fun c => ?_)
    · replace hv := hv.1 c
      refine gk_aload_n (pc := 20) (DX11_label_0.at 12 rfl) 0 rfl rfl ?_
      obtain ⟨fs3, v3, q3, r3, hv⟩ := hv
      refine gk_get (pc := 21) (.ref v3) (DX11_label_0.at 13 rfl) fX11_12_10 q3 r3 ?_
      obtain ⟨fs4, v4, q4, r4, hv⟩ := hv
      refine gk_get (pc := 24) (.ref v4) (DX11_label_0.at 14 rfl) fX11_177_7 q4 r4 ?_
      refine gk_iload_n (pc := 27) (DX11_label_0.at 15 rfl) 1 rfl rfl ?_
      obtain ⟨n5, f5, v5, q5, r5, e5, hv⟩ := hv
      refine gk_aald5 (pc := 28) v5 (DX11_label_0.at 16 rfl) q5 r5 e5 ?_
      refine gk_iload_n (pc := 29) (DX11_label_0.at 17 rfl) 2 rfl rfl ?_
      refine gk_iload_n (pc := 30) (DX11_label_0.at 18 rfl) 3 rfl rfl ?_
      obtain ⟨⟨fs6, q6⟩, hv⟩ := hv
      refine gk_vV (pc := 31) [.int x2, .int x3] [] (DX11_label_0.at 19 rfl) cvX11_198 q6 rfl rfl (Nat.le_of_ble_eq_true rfl) (Nat.le_of_ble_eq_true rfl) (gk_Run.post (fun o h6 z => ?_) hv)
      obtain ⟨v6, rfl, hv⟩ := z
      exact gk_ireturn (pc := 34) .int (DX11_label_0.at 20 rfl) rfl rfl ⟨_, rfl, hv⟩
    · replace hv := hv.2 c
      refine gk_iconst (pc := 18) ((-1)) (DX11_label_0.at 10 rfl) ci_m1 ?_
      exact gk_ireturn (pc := 19) .int (DX11_label_0.at 11 rfl) rfl rfl ⟨_, rfl, hv⟩
abbrev pX11_lasts_15 (E : gk_E) (dd : Nat) (o : Nat) (x1 : Int32) (x2 : Int32) (x3 : Int32) (h : gk_H) (K : Int32 → gk_H → Prop) : Prop := gk_G E mX11_lasts (dd + 1, 0, 0) 15 [(0, .ref o), (1, .int x1), (2, .int x2), (3, .int x3)] [] h (fun o h1 => ∃ v, o = some (.int v) ∧ K v h1)
set_option maxHeartbeats 4000000 in
theorem vX11_lasts_0 {E : gk_E} {dd : Nat} {o : Nat} {x1 : Int32}  {h : gk_H} {K : Int32 → gk_H → Prop} (hv : (∃ fs, h[o]? = some (.inr (10, fs))) ∧ RnI E mX11_gameRefusal (dd, 0, 0) [.ref o, .int x1, .int (nI 0)] h (fun v1 h1 => (v1 = 0 → pX11_lasts_15 E dd o x1 v1 (nI 0) h1 K) ∧ (¬ v1 = 0 → K v1 h1))) : RnI E mX11_lasts (dd + 1, 0, 0) [.ref o, .int x1] h K := by
  show gk_G E mX11_lasts (dd + 1, 0, 0) 0 [(0, .ref o), (1, .int x1)] [] h (fun o h1 => ∃ v, o = some (.int v) ∧ K v h1)
  refine gk_aload_n (pc := 0) (DX11_lasts_0.at 0 rfl) 0 rfl rfl ?_
  refine gk_iload_n (pc := 1) (DX11_lasts_0.at 1 rfl) 1 rfl rfl ?_
  refine gk_iconst (pc := 2) (nI 0) (DX11_lasts_0.at 2 rfl) ci_0 ?_
  obtain ⟨⟨fs1, q1⟩, hv⟩ := hv
  refine gk_vV (pc := 3) [.int x1, .int (nI 0)] [] (DX11_lasts_0.at 3 rfl) cvX11_235 q1 rfl rfl (Nat.le_of_ble_eq_true rfl) (Nat.le_of_ble_eq_true rfl) (gk_Run.post (fun o h1 z => ?_) hv)
  obtain ⟨v1, rfl, hv⟩ := z
  refine gk_istore_n (pc := 6) [(2, .int v1), (0, .ref o), (1, .int x1)] (DX11_lasts_0.at 4 rfl) rfl (Nat.le_of_ble_eq_true rfl) rfl ?_
  refine gk_iload_n (pc := 7) (DX11_lasts_0.at 5 rfl) 0 rfl rfl ?_
  refine gk_if_eq (pc := 8) 13 (DX11_lasts_0.at 6 rfl) (by decide) (fun c => ?_) (fun c => ?_)
  · replace hv := hv.1 c
    refine gk_iconst (pc := 13) (nI 0) (DX11_lasts_0.at 9 rfl) ci_0 ?_
    refine gk_istore_n (pc := 14) [(3, .int (nI 0)), (2, .int v1), (0, .ref o), (1, .int x1)] (DX11_lasts_0.at 10 rfl) rfl (Nat.le_of_ble_eq_true rfl) rfl ?_
    exact gk_pick (pc := 15) [(0, .ref o), (1, .int x1), (2, .int v1), (3, .int (nI 0))] [2, 3, 1, 0] rfl hv
  · replace hv := hv.2 c
    refine gk_iload_n (pc := 11) (DX11_lasts_0.at 7 rfl) 0 rfl rfl ?_
    exact gk_ireturn (pc := 12) .int (DX11_lasts_0.at 8 rfl) rfl rfl ⟨_, rfl, hv⟩
set_option maxHeartbeats 4000000 in
theorem vX11_lasts_15 {E : gk_E} {dd : Nat} {o : Nat} {x1 : Int32} {x2 : Int32} {x3 : Int32}  {h : gk_H} {K : Int32 → gk_H → Prop} (hv : ((nI 2) ≤ x3 → K x3 h) ∧ (¬ (nI 2) ≤ x3 → LdR h o 10 5 fun v1 => LdR h o 10 0 fun v2 => LdR h v2 7 1 fun v3 => AlR 5 h v3 x1 fun v4 => (∃ fs, h[v1]? = some (.inr (2, fs))) ∧ RnI E mX2_isWon (dd, 0, 0) [.ref v1, .ref v4, .int (x3 + (nI 1))] h (fun v5 h5 => (v5 = 0 → K x3 h5) ∧ (¬ v5 = 0 → pX11_lasts_15 E dd o x1 x2 (x3 + nI 1) h5 K)))) : pX11_lasts_15 E dd o x1 x2 x3 h K := by
  show gk_G E mX11_lasts (dd + 1, 0, 0) 15 [(0, .ref o), (1, .int x1), (2, .int x2), (3, .int x3)] [] h (fun o h1 => ∃ v, o = some (.int v) ∧ K v h1)
  refine gk_iload_n (pc := 15) (DX11_lasts_0.at 11 rfl) 3 rfl rfl ?_
  refine gk_iconst (pc := 16) (nI 2) (DX11_lasts_0.at 12 rfl) ci_2 ?_
  refine gk_icmp_ge (pc := 17) 48 (DX11_lasts_0.at 13 rfl) (by decide) (fun c => ?_) (fun c => ?_)
  · replace hv := hv.1 c
    refine gk_iload_n (pc := 48) (DX11_lasts_0.at 28 rfl) 3 rfl rfl ?_
    exact gk_ireturn (pc := 49) .int (DX11_lasts_0.at 29 rfl) rfl rfl ⟨_, rfl, hv⟩
  · replace hv := hv.2 c
    refine gk_aload_n (pc := 20) (DX11_lasts_0.at 14 rfl) 0 rfl rfl ?_
    obtain ⟨fs1, v1, q1, r1, hv⟩ := hv
    refine gk_get (pc := 21) (.ref v1) (DX11_lasts_0.at 15 rfl) fX11_46_10 q1 r1 ?_
    refine gk_aload_n (pc := 24) (DX11_lasts_0.at 16 rfl) 0 rfl rfl ?_
    obtain ⟨fs2, v2, q2, r2, hv⟩ := hv
    refine gk_get (pc := 25) (.ref v2) (DX11_lasts_0.at 17 rfl) fX11_12_10 q2 r2 ?_
    obtain ⟨fs3, v3, q3, r3, hv⟩ := hv
    refine gk_get (pc := 28) (.ref v3) (DX11_lasts_0.at 18 rfl) fX11_177_7 q3 r3 ?_
    refine gk_iload_n (pc := 31) (DX11_lasts_0.at 19 rfl) 1 rfl rfl ?_
    obtain ⟨n4, f4, v4, q4, r4, e4, hv⟩ := hv
    refine gk_aald5 (pc := 32) v4 (DX11_lasts_0.at 20 rfl) q4 r4 e4 ?_
    refine gk_iload_n (pc := 33) (DX11_lasts_0.at 21 rfl) 3 rfl rfl ?_
    refine gk_iconst (pc := 34) (nI 1) (DX11_lasts_0.at 22 rfl) ci_1 ?_
    refine gk_iadd (pc := 35) (DX11_lasts_0.at 23 rfl) ?_
    obtain ⟨⟨fs5, q5⟩, hv⟩ := hv
    refine gk_vV (pc := 36) [.ref v4, .int (x3 + (nI 1))] [] (DX11_lasts_0.at 24 rfl) cvX11_238 q5 rfl rfl (Nat.le_of_ble_eq_true rfl) (Nat.le_of_ble_eq_true rfl) (gk_Run.post (fun o h5 z => ?_) hv)
    obtain ⟨v5, rfl, hv⟩ := z
    refine gk_if_eq (pc := 39) 48 (DX11_lasts_0.at 25 rfl) (by decide) (fun c => ?_) (fun c => ?_)
    · replace hv := hv.1 c
      refine gk_iload_n (pc := 48) (DX11_lasts_0.at 28 rfl) 3 rfl rfl ?_
      exact gk_ireturn (pc := 49) .int (DX11_lasts_0.at 29 rfl) rfl rfl ⟨_, rfl, hv⟩
    · replace hv := hv.2 c
      refine gk_iinc (pc := 42) (x3 + nI 1) [(3, .int (x3 + nI 1)), (0, .ref o), (1, .int x1), (2, .int x2)] 3 (DX11_lasts_0.at 26 rfl) rfl (by rw [ci_1]) (Nat.le_of_ble_eq_true rfl) rfl ?_
      refine gk_goto (pc := 45) 15 (DX11_lasts_0.at 27 rfl) (by decide) ?_
      exact gk_pick (pc := 15) [(0, .ref o), (1, .int x1), (2, .int x2), (3, .int (x3 + nI 1))] [1, 2, 3, 0] rfl hv
set_option maxHeartbeats 4000000 in
theorem vX11_later_0 {E : gk_E} {dd : Nat} {o : Nat}  {h : gk_H} {K : Int32 → gk_H → Prop} (hv : LdR h o 10 6 fun v1 => LdI h v1 0 1 fun v2 => (v2 = 0 → K ((-3)) h) ∧ (¬ v2 = 0 → LdR h o 10 6 fun v3 => LdI h v3 0 4 fun v4 => (¬ v4 = 0 → LdR h o 10 6 fun v5 => (∃ fs, h[v5]? = some (.inr (0, fs))) ∧ RnV E mX0_rotate (dd, 0, 0) [.ref v5] h (fun h6 => LdR h6 o 10 6 fun v7 => LdI h6 v7 0 4 fun v8 => K v8 h6)) ∧ (v4 = 0 → K ((-3)) h))) : RnI E mX11_later (dd + 1, 0, 0) [.ref o] h K := by
  show gk_G E mX11_later (dd + 1, 0, 0) 0 [(0, .ref o)] [] h (fun o h1 => ∃ v, o = some (.int v) ∧ K v h1)
  refine gk_aload_n (pc := 0) (DX11_later_0.at 0 rfl) 0 rfl rfl ?_
  obtain ⟨fs1, v1, q1, r1, hv⟩ := hv
  refine gk_get (pc := 1) (.ref v1) (DX11_later_0.at 1 rfl) fX11_59_10 q1 r1 ?_
  obtain ⟨fs2, v2, q2, r2, hv⟩ := hv
  refine gk_get (pc := 4) (.int v2) (DX11_later_0.at 2 rfl) fX11_255_0 q2 r2 ?_
  refine gk_if_eq (pc := 7) 20 (DX11_later_0.at 3 rfl) (by decide) (fun c => ?_) (fun c => ?_)
  · replace hv := hv.1 c
    refine gk_bipush (pc := 20) ((-3)) (DX11_later_0.at 8 rfl) cb_m3 ?_
    exact gk_ireturn (pc := 22) .int (DX11_later_0.at 9 rfl) rfl rfl ⟨_, rfl, hv⟩
  · replace hv := hv.2 c
    refine gk_aload_n (pc := 10) (DX11_later_0.at 4 rfl) 0 rfl rfl ?_
    obtain ⟨fs3, v3, q3, r3, hv⟩ := hv
    refine gk_get (pc := 11) (.ref v3) (DX11_later_0.at 5 rfl) fX11_59_10 q3 r3 ?_
    obtain ⟨fs4, v4, q4, r4, hv⟩ := hv
    refine gk_get (pc := 14) (.int v4) (DX11_later_0.at 6 rfl) fX11_252_0 q4 r4 ?_
    refine gk_if_ne (pc := 17) 23 (DX11_later_0.at 7 rfl) (by decide) (fun c => ?_) (fun c => ?_)
    · replace hv := hv.1 c
      refine gk_aload_n (pc := 23) (DX11_later_0.at 10 rfl) 0 rfl rfl ?_
      obtain ⟨fs5, v5, q5, r5, hv⟩ := hv
      refine gk_get (pc := 24) (.ref v5) (DX11_later_0.at 11 rfl) fX11_59_10 q5 r5 ?_
      obtain ⟨⟨fs6, q6⟩, hv⟩ := hv
      refine gk_vV (pc := 27) [] [] (DX11_later_0.at 12 rfl) cvX11_272 q6 rfl rfl (Nat.le_of_ble_eq_true rfl) (Nat.le_of_ble_eq_true rfl) (gk_Run.post (fun o h6 z => ?_) hv)
      obtain ⟨rfl, hv⟩ := z
      refine gk_aload_n (pc := 30) (DX11_later_0.at 13 rfl) 0 rfl rfl ?_
      obtain ⟨fs7, v7, q7, r7, hv⟩ := hv
      refine gk_get (pc := 31) (.ref v7) (DX11_later_0.at 14 rfl) fX11_59_10 q7 r7 ?_
      obtain ⟨fs8, v8, q8, r8, hv⟩ := hv
      refine gk_get (pc := 34) (.int v8) (DX11_later_0.at 15 rfl) fX11_252_0 q8 r8 ?_
      exact gk_ireturn (pc := 37) .int (DX11_later_0.at 16 rfl) rfl rfl ⟨_, rfl, hv⟩
    · replace hv := hv.2 c
      refine gk_bipush (pc := 20) ((-3)) (DX11_later_0.at 8 rfl) cb_m3 ?_
      exact gk_ireturn (pc := 22) .int (DX11_later_0.at 9 rfl) rfl rfl ⟨_, rfl, hv⟩
abbrev pX11_list_35 (E : gk_E) (dd : Nat) (o : Nat) (x1 : Int32) (x2 : Int32) (x3 : Int32) (h : gk_H) (K : Int32 → gk_H → Prop) : Prop := gk_G E mX11_list (dd + 1, 0, 0) 35 [(0, .ref o), (1, .int x1), (2, .int x2), (3, .int x3)] [] h (fun o h1 => ∃ v, o = some (.int v) ∧ K v h1)
set_option maxHeartbeats 4000000 in
theorem vX11_list_0 {E : gk_E} {dd : Nat} {o : Nat} {x1 : Int32} {x2 : Int32}  {h : gk_H} {K : Int32 → gk_H → Prop} (hv : RnI E mX11_isList (dd, 0, 0) [.int x1] h (fun v1 h1 => (¬ v1 = 0 → (x2 ≤ (nI 12) → (((-1)) ≤ x2 → LdR h1 o 10 8 fun v2 => AsI h1 v2 x1 x2 fun h3 => pX11_list_35 E dd o x1 x2 (nI 0) h3 K) ∧ (¬ ((-1)) ≤ x2 → K ((-14)) h1)) ∧ (¬ x2 ≤ (nI 12) → K ((-2)) h1)) ∧ (v1 = 0 → K ((-1)) h1))) : RnI E mX11_list (dd + 1, 0, 0) [.ref o, .int x1, .int x2] h K := by
  show gk_G E mX11_list (dd + 1, 0, 0) 0 [(0, .ref o), (1, .int x1), (2, .int x2)] [] h (fun o h1 => ∃ v, o = some (.int v) ∧ K v h1)
  refine gk_iload_n (pc := 0) (DX11_list_0.at 0 rfl) 1 rfl rfl ?_
  refine gk_vS (pc := 1) [.int x1] [] (DX11_list_0.at 1 rfl) csX11_278 rfl rfl (Nat.le_of_ble_eq_true rfl) (Nat.le_of_ble_eq_true rfl) (gk_Run.post (fun o h1 z => ?_) hv)
  obtain ⟨v1, rfl, hv⟩ := z
  refine gk_if_ne (pc := 4) 9 (DX11_list_0.at 2 rfl) (by decide) (fun c => ?_) (fun c => ?_)
  · replace hv := hv.1 c
    refine gk_iload_n (pc := 9) (DX11_list_0.at 5 rfl) 2 rfl rfl ?_
    refine gk_bipush (pc := 10) (nI 12) (DX11_list_0.at 6 rfl) cb_12 ?_
    refine gk_icmp_le (pc := 12) 18 (DX11_list_0.at 7 rfl) (by decide) (fun c => ?_) (fun c => ?_)
    · replace hv := hv.1 c
      refine gk_iload_n (pc := 18) (DX11_list_0.at 10 rfl) 2 rfl rfl ?_
      refine gk_iconst (pc := 19) ((-1)) (DX11_list_0.at 11 rfl) ci_m1 ?_
      refine gk_icmp_ge (pc := 20) 26 (DX11_list_0.at 12 rfl) (by decide) (fun c => ?_) (fun c => ?_)
      · replace hv := hv.1 c
        refine gk_aload_n (pc := 26) (DX11_list_0.at 15 rfl) 0 rfl rfl ?_
        obtain ⟨fs2, v2, q2, r2, hv⟩ := hv
        refine gk_get (pc := 27) (.ref v2) (DX11_list_0.at 16 rfl) fX11_70_10 q2 r2 ?_
        refine gk_iload_n (pc := 30) (DX11_list_0.at 17 rfl) 1 rfl rfl ?_
        refine gk_iload_n (pc := 31) (DX11_list_0.at 18 rfl) 2 rfl rfl ?_
        obtain ⟨n3, f3, q3, r3, hv⟩ := hv
        refine gk_iast (pc := 32) (DX11_list_0.at 19 rfl) q3 r3 ?_
        generalize h1.set _ _ = h3 at hv ⊢
        refine gk_iconst (pc := 33) (nI 0) (DX11_list_0.at 20 rfl) ci_0 ?_
        refine gk_istore_n (pc := 34) [(3, .int (nI 0)), (0, .ref o), (1, .int x1), (2, .int x2)] (DX11_list_0.at 21 rfl) rfl (Nat.le_of_ble_eq_true rfl) rfl ?_
        exact gk_pick (pc := 35) [(0, .ref o), (1, .int x1), (2, .int x2), (3, .int (nI 0))] [1, 2, 3, 0] rfl hv
      · replace hv := hv.2 c
        refine gk_bipush (pc := 23) ((-14)) (DX11_list_0.at 13 rfl) cb_m14 ?_
        exact gk_ireturn (pc := 25) .int (DX11_list_0.at 14 rfl) rfl rfl ⟨_, rfl, hv⟩
    · replace hv := hv.2 c
      refine gk_bipush (pc := 15) ((-2)) (DX11_list_0.at 8 rfl) cb_m2 ?_
      exact gk_ireturn (pc := 17) .int (DX11_list_0.at 9 rfl) rfl rfl ⟨_, rfl, hv⟩
  · replace hv := hv.2 c
    refine gk_iconst (pc := 7) ((-1)) (DX11_list_0.at 3 rfl) ci_m1 ?_
    exact gk_ireturn (pc := 8) .int (DX11_list_0.at 4 rfl) rfl rfl ⟨_, rfl, hv⟩
set_option maxHeartbeats 4000000 in
theorem vX11_list_35 {E : gk_E} {dd : Nat} {o : Nat} {x1 : Int32} {x2 : Int32} {x3 : Int32}  {h : gk_H} {K : Int32 → gk_H → Prop} (hv : (x2 ≤ x3 → K (nI 1) h) ∧ (¬ x2 ≤ x3 → LdR h o 10 9 fun v1 => AsL h v1 (((nI 12) * x1) + x3) (lN 0) fun h2 => pX11_list_35 E dd o x1 x2 (x3 + nI 1) h2 K)) : pX11_list_35 E dd o x1 x2 x3 h K := by
  show gk_G E mX11_list (dd + 1, 0, 0) 35 [(0, .ref o), (1, .int x1), (2, .int x2), (3, .int x3)] [] h (fun o h1 => ∃ v, o = some (.int v) ∧ K v h1)
  refine gk_iload_n (pc := 35) (DX11_list_0.at 22 rfl) 3 rfl rfl ?_
  refine gk_iload_n (pc := 36) (DX11_list_0.at 23 rfl) 2 rfl rfl ?_
  refine gk_icmp_ge (pc := 37) 58 (DX11_list_0.at 24 rfl) (by decide) (fun c => ?_) (fun c => ?_)
  · replace hv := hv.1 c
    refine gk_iconst (pc := 58) (nI 1) (DX11_list_0.at 36 rfl) ci_1 ?_
    exact gk_ireturn (pc := 59) .int (DX11_list_0.at 37 rfl) rfl rfl ⟨_, rfl, hv⟩
  · replace hv := hv.2 c
    refine gk_aload_n (pc := 40) (DX11_list_0.at 25 rfl) 0 rfl rfl ?_
    obtain ⟨fs1, v1, q1, r1, hv⟩ := hv
    refine gk_get (pc := 41) (.ref v1) (DX11_list_0.at 26 rfl) fX11_74_10 q1 r1 ?_
    refine gk_bipush (pc := 44) (nI 12) (DX11_list_0.at 27 rfl) cb_12 ?_
    refine gk_iload_n (pc := 46) (DX11_list_0.at 28 rfl) 1 rfl rfl ?_
    refine gk_imul (pc := 47) (DX11_list_0.at 29 rfl) ?_
    refine gk_iload_n (pc := 48) (DX11_list_0.at 30 rfl) 3 rfl rfl ?_
    refine gk_iadd (pc := 49) (DX11_list_0.at 31 rfl) ?_
    refine gk_lconst (pc := 50) (lN 0) (DX11_list_0.at 32 rfl) rfl ?_
    obtain ⟨n2, f2, q2, r2, hv⟩ := hv
    refine gk_last (pc := 51) (DX11_list_0.at 33 rfl) q2 r2 ?_
    generalize h.set _ _ = h2 at hv ⊢
    refine gk_iinc (pc := 52) (x3 + nI 1) [(3, .int (x3 + nI 1)), (0, .ref o), (1, .int x1), (2, .int x2)] 3 (DX11_list_0.at 34 rfl) rfl (by rw [ci_1]) (Nat.le_of_ble_eq_true rfl) rfl ?_
    refine gk_goto (pc := 55) 35 (DX11_list_0.at 35 rfl) (by decide) ?_
    exact gk_pick (pc := 35) [(0, .ref o), (1, .int x1), (2, .int x2), (3, .int (x3 + nI 1))] [1, 2, 3, 0] rfl hv
abbrev pX11_listsPresent_4 (E : gk_E) (dd : Nat) (o : Nat) (x1 : Int32) (x2 : Int32) (h : gk_H) (K : Int32 → gk_H → Prop) : Prop := gk_G E mX11_listsPresent (dd, 0, 0) 4 [(0, .ref o), (1, .int x1), (2, .int x2)] [] h (fun o h1 => ∃ v, o = some (.int v) ∧ K v h1)
set_option maxHeartbeats 4000000 in
theorem vX11_listsPresent_0 {E : gk_E} {dd : Nat} {o : Nat}  {h : gk_H} {K : Int32 → gk_H → Prop} (hv : pX11_listsPresent_4 E dd o (nI 0) (nI 0) h K) : RnI E mX11_listsPresent (dd, 0, 0) [.ref o] h K := by
  show gk_G E mX11_listsPresent (dd, 0, 0) 0 [(0, .ref o)] [] h (fun o h1 => ∃ v, o = some (.int v) ∧ K v h1)
  refine gk_iconst (pc := 0) (nI 0) (DX11_listsPresent_0.at 0 rfl) ci_0 ?_
  refine gk_istore_n (pc := 1) [(1, .int (nI 0)), (0, .ref o)] (DX11_listsPresent_0.at 1 rfl) rfl (Nat.le_of_ble_eq_true rfl) rfl ?_
  refine gk_iconst (pc := 2) (nI 0) (DX11_listsPresent_0.at 2 rfl) ci_0 ?_
  refine gk_istore_n (pc := 3) [(2, .int (nI 0)), (1, .int (nI 0)), (0, .ref o)] (DX11_listsPresent_0.at 3 rfl) rfl (Nat.le_of_ble_eq_true rfl) rfl ?_
  exact gk_pick (pc := 4) [(0, .ref o), (1, .int (nI 0)), (2, .int (nI 0))] [2, 1, 0] rfl hv
set_option maxHeartbeats 4000000 in
theorem vX11_listsPresent_4 {E : gk_E} {dd : Nat} {o : Nat} {x1 : Int32} {x2 : Int32}  {h : gk_H} {K : Int32 → gk_H → Prop} (hv : ((nI 3) ≤ x2 → K x1 h) ∧ (¬ (nI 3) ≤ x2 → LdR h o 10 8 fun v1 => AlI h v1 x2 fun v2 => (v2 < 0 → pX11_listsPresent_4 E dd o x1 (x2 + nI 1) h K) ∧ (¬ v2 < 0 → pX11_listsPresent_4 E dd o (x1 + nI 1) (x2 + nI 1) h K))) : pX11_listsPresent_4 E dd o x1 x2 h K := by
  show gk_G E mX11_listsPresent (dd, 0, 0) 4 [(0, .ref o), (1, .int x1), (2, .int x2)] [] h (fun o h1 => ∃ v, o = some (.int v) ∧ K v h1)
  refine gk_iload_n (pc := 4) (DX11_listsPresent_0.at 4 rfl) 2 rfl rfl ?_
  refine gk_iconst (pc := 5) (nI 3) (DX11_listsPresent_0.at 5 rfl) ci_3 ?_
  refine gk_icmp_ge (pc := 6) 27 (DX11_listsPresent_0.at 6 rfl) (by decide) (fun c => ?_) (fun c => ?_)
  · replace hv := hv.1 c
    refine gk_iload_n (pc := 27) (DX11_listsPresent_0.at 15 rfl) 1 rfl rfl ?_
    exact gk_ireturn (pc := 28) .int (DX11_listsPresent_0.at 16 rfl) rfl rfl ⟨_, rfl, hv⟩
  · replace hv := hv.2 c
    refine gk_aload_n (pc := 9) (DX11_listsPresent_0.at 7 rfl) 0 rfl rfl ?_
    obtain ⟨fs1, v1, q1, r1, hv⟩ := hv
    refine gk_get (pc := 10) (.ref v1) (DX11_listsPresent_0.at 8 rfl) fX11_70_10 q1 r1 ?_
    refine gk_iload_n (pc := 13) (DX11_listsPresent_0.at 9 rfl) 2 rfl rfl ?_
    obtain ⟨n2, f2, q2, r2, hv⟩ := hv
    refine gk_iald (pc := 14) (DX11_listsPresent_0.at 10 rfl) q2 r2 ?_
    generalize f2 _ = v2 at hv ⊢
    refine gk_if_lt (pc := 15) 21 (DX11_listsPresent_0.at 11 rfl) (by decide) (fun c => ?_) (fun c => ?_)
    · replace hv := hv.1 c
      refine gk_iinc (pc := 21) (x2 + nI 1) [(2, .int (x2 + nI 1)), (0, .ref o), (1, .int x1)] 2 (DX11_listsPresent_0.at 13 rfl) rfl (by rw [ci_1]) (Nat.le_of_ble_eq_true rfl) rfl ?_
      refine gk_goto (pc := 24) 4 (DX11_listsPresent_0.at 14 rfl) (by decide) ?_
      exact gk_pick (pc := 4) [(0, .ref o), (1, .int x1), (2, .int (x2 + nI 1))] [1, 2, 0] rfl hv
    · replace hv := hv.2 c
      refine gk_iinc (pc := 18) (x1 + nI 1) [(1, .int (x1 + nI 1)), (0, .ref o), (2, .int x2)] 1 (DX11_listsPresent_0.at 12 rfl) rfl (by rw [ci_1]) (Nat.le_of_ble_eq_true rfl) rfl ?_
      refine gk_iinc (pc := 21) (x2 + nI 1) [(2, .int (x2 + nI 1)), (1, .int (x1 + nI 1)), (0, .ref o)] 2 (DX11_listsPresent_0.at 13 rfl) rfl (by rw [ci_1]) (Nat.le_of_ble_eq_true rfl) rfl ?_
      refine gk_goto (pc := 24) 4 (DX11_listsPresent_0.at 14 rfl) (by decide) ?_
      exact gk_pick (pc := 4) [(0, .ref o), (1, .int (x1 + nI 1)), (2, .int (x2 + nI 1))] [2, 1, 0] rfl hv
set_option maxHeartbeats 4000000 in
theorem vX11_node_0 {E : gk_E} {dd : Nat} {o : Nat} {x1 : Int32} {x2 : Int32}  {h : gk_H} {K : Int32 → gk_H → Prop} (hv : RnI E mX11_isNet (dd, 0, 0) [.int x1] h (fun v1 h1 => (¬ v1 = 0 → LdR h1 o 10 0 fun v2 => LdR h1 v2 7 1 fun v3 => AlR 5 h1 v3 x1 fun v4 => LdI h1 v4 3 0 fun v5 => (v5 < (nI 6) → LdR h1 o 10 4 fun v6 => LdI h1 v4 3 0 fun v7 => (∃ fs, h1[v6]? = some (.inr (1, fs))) ∧ RnI E mX1_spread (dd, 0, 0) [.ref v6, .int x2, .int v7] h1 (fun v8 h8 => (¬ v8 = 0 → LdR h8 o 10 4 fun v9 => LdR h8 v9 1 4 fun v10 => LdR h8 o 10 0 fun v11 => LdR h8 v11 7 0 fun v12 => (∃ fs, h8[v4]? = some (.inr (3, fs))) ∧ RnV E mX3_grow (dd, 0, 0) [.ref v4, .ref v10, .ref v12] h8 (fun h13 => LdI h13 v4 3 0 fun v14 => K (v14 - (nI 1)) h13)) ∧ (v8 = 0 → K ((-2)) h8))) ∧ (¬ v5 < (nI 6) → K ((-4)) h1)) ∧ (v1 = 0 → K ((-1)) h1))) : RnI E mX11_node (dd + 1, 0, 0) [.ref o, .int x1, .int x2] h K := by
  show gk_G E mX11_node (dd + 1, 0, 0) 0 [(0, .ref o), (1, .int x1), (2, .int x2)] [] h (fun o h1 => ∃ v, o = some (.int v) ∧ K v h1)
  refine gk_iload_n (pc := 0) (DX11_node_0.at 0 rfl) 1 rfl rfl ?_
  refine gk_vS (pc := 1) [.int x1] [] (DX11_node_0.at 1 rfl) csX11_174 rfl rfl (Nat.le_of_ble_eq_true rfl) (Nat.le_of_ble_eq_true rfl) (gk_Run.post (fun o h1 z => ?_) hv)
  obtain ⟨v1, rfl, hv⟩ := z
  refine gk_if_ne (pc := 4) 9 (DX11_node_0.at 2 rfl) (by decide) (fun c => ?_) (fun c => ?_)
  · replace hv := hv.1 c
    refine gk_aload_n (pc := 9) (DX11_node_0.at 5 rfl) 0 rfl rfl ?_
    obtain ⟨fs2, v2, q2, r2, hv⟩ := hv
    refine gk_get (pc := 10) (.ref v2) (DX11_node_0.at 6 rfl) fX11_12_10 q2 r2 ?_
    obtain ⟨fs3, v3, q3, r3, hv⟩ := hv
    refine gk_get (pc := 13) (.ref v3) (DX11_node_0.at 7 rfl) fX11_177_7 q3 r3 ?_
    refine gk_iload_n (pc := 16) (DX11_node_0.at 8 rfl) 1 rfl rfl ?_
    obtain ⟨n4, f4, v4, q4, r4, e4, hv⟩ := hv
    refine gk_aald5 (pc := 17) v4 (DX11_node_0.at 9 rfl) q4 r4 e4 ?_
    refine gk_astore_n (pc := 18) [(3, .ref v4), (0, .ref o), (1, .int x1), (2, .int x2)] (DX11_node_0.at 10 rfl) rfl (Nat.le_of_ble_eq_true rfl) rfl ?_
    refine gk_aload_n (pc := 19) (DX11_node_0.at 11 rfl) 0 rfl rfl ?_
    obtain ⟨fs5, v5, q5, r5, hv⟩ := hv
    refine gk_get (pc := 20) (.int v5) (DX11_node_0.at 12 rfl) fX11_181_3 q5 r5 ?_
    refine gk_bipush (pc := 23) (nI 6) (DX11_node_0.at 13 rfl) cb_6 ?_
    refine gk_icmp_lt (pc := 25) 31 (DX11_node_0.at 14 rfl) (by decide) (fun c => ?_) (fun c => ?_)
    · replace hv := hv.1 c
      refine gk_aload_n (pc := 31) (DX11_node_0.at 17 rfl) 1 rfl rfl ?_
      obtain ⟨fs6, v6, q6, r6, hv⟩ := hv
      refine gk_get (pc := 32) (.ref v6) (DX11_node_0.at 18 rfl) fX11_39_10 q6 r6 ?_
      refine gk_iload_n (pc := 35) (DX11_node_0.at 19 rfl) 3 rfl rfl ?_
      refine gk_aload_n (pc := 36) (DX11_node_0.at 20 rfl) 0 rfl rfl ?_
      obtain ⟨fs7, v7, q7, r7, hv⟩ := hv
      refine gk_get (pc := 37) (.int v7) (DX11_node_0.at 21 rfl) fX11_181_3 q7 r7 ?_
      obtain ⟨⟨fs8, q8⟩, hv⟩ := hv
      refine gk_vV (pc := 40) [.int x2, .int v7] [] (DX11_node_0.at 22 rfl) cvX11_184 q8 rfl rfl (Nat.le_of_ble_eq_true rfl) (Nat.le_of_ble_eq_true rfl) (gk_Run.post (fun o h8 z => ?_) hv)
      obtain ⟨v8, rfl, hv⟩ := z
      refine gk_if_ne (pc := 43) 49 (DX11_node_0.at 23 rfl) (by decide) (fun c => ?_) (fun c => ?_)
      · replace hv := hv.1 c
        refine gk_aload_n (pc := 49) (DX11_node_0.at 26 rfl) 0 rfl rfl ?_
        refine gk_aload_n (pc := 50) (DX11_node_0.at 27 rfl) 1 rfl rfl ?_
        obtain ⟨fs9, v9, q9, r9, hv⟩ := hv
        refine gk_get (pc := 51) (.ref v9) (DX11_node_0.at 28 rfl) fX11_39_10 q9 r9 ?_
        obtain ⟨fs10, v10, q10, r10, hv⟩ := hv
        refine gk_get (pc := 54) (.ref v10) (DX11_node_0.at 29 rfl) fX11_188_1 q10 r10 ?_
        refine gk_aload_n (pc := 57) (DX11_node_0.at 30 rfl) 1 rfl rfl ?_
        obtain ⟨fs11, v11, q11, r11, hv⟩ := hv
        refine gk_get (pc := 58) (.ref v11) (DX11_node_0.at 31 rfl) fX11_12_10 q11 r11 ?_
        obtain ⟨fs12, v12, q12, r12, hv⟩ := hv
        refine gk_get (pc := 61) (.ref v12) (DX11_node_0.at 32 rfl) fX11_52_7 q12 r12 ?_
        obtain ⟨⟨fs13, q13⟩, hv⟩ := hv
        refine gk_vV (pc := 64) [.ref v10, .ref v12] [] (DX11_node_0.at 33 rfl) cvX11_191 q13 rfl rfl (Nat.le_of_ble_eq_true rfl) (Nat.le_of_ble_eq_true rfl) (gk_Run.post (fun o h13 z => ?_) hv)
        obtain ⟨rfl, hv⟩ := z
        refine gk_aload_n (pc := 67) (DX11_node_0.at 34 rfl) 0 rfl rfl ?_
        obtain ⟨fs14, v14, q14, r14, hv⟩ := hv
        refine gk_get (pc := 68) (.int v14) (DX11_node_0.at 35 rfl) fX11_181_3 q14 r14 ?_
        refine gk_iconst (pc := 71) (nI 1) (DX11_node_0.at 36 rfl) ci_1 ?_
        refine gk_isub (pc := 72) (DX11_node_0.at 37 rfl) ?_
        exact gk_ireturn (pc := 73) .int (DX11_node_0.at 38 rfl) rfl rfl ⟨_, rfl, hv⟩
      · replace hv := hv.2 c
        refine gk_bipush (pc := 46) ((-2)) (DX11_node_0.at 24 rfl) cb_m2 ?_
        exact gk_ireturn (pc := 48) .int (DX11_node_0.at 25 rfl) rfl rfl ⟨_, rfl, hv⟩
    · replace hv := hv.2 c
      refine gk_bipush (pc := 28) ((-4)) (DX11_node_0.at 15 rfl) cb_m4 ?_
      exact gk_ireturn (pc := 30) .int (DX11_node_0.at 16 rfl) rfl rfl ⟨_, rfl, hv⟩
  · replace hv := hv.2 c
    refine gk_iconst (pc := 7) ((-1)) (DX11_node_0.at 3 rfl) ci_m1 ?_
    exact gk_ireturn (pc := 8) .int (DX11_node_0.at 4 rfl) rfl rfl ⟨_, rfl, hv⟩
set_option maxHeartbeats 4000000 in
theorem vX11_occurs_0 {E : gk_E} {dd : Nat} {o : Nat} {x1 : Int32} {x2 : Int32} {x3 : Int32}  {h : gk_H} {K : Int32 → gk_H → Prop} (hv : RnI E mX11_isNet (dd, 0, 0) [.int x1] h (fun v1 h1 => (v1 = 0 → K ((-1)) h1) ∧ (¬ v1 = 0 → RnI E mX11_isNet (dd, 0, 0) [.int x2] h1 (fun v2 h2 => (v2 = 0 → K ((-1)) h2) ∧ (¬ v2 = 0 → (((-1)) ≤ x3 → LdR h2 o 10 3 fun v3 => LdR h2 o 10 0 fun v4 => LdR h2 v4 7 1 fun v5 => AlR 5 h2 v5 x1 fun v6 => LdR h2 o 10 0 fun v7 => LdR h2 v7 7 1 fun v8 => AlR 5 h2 v8 x2 fun v9 => (∃ fs, h2[v3]? = some (.inr (4, fs))) ∧ RnI E mX4_way (dd, 0, 0) [.ref v3, .ref v6, .ref v9, .int x3] h2 (fun v10 h10 => K v10 h10)) ∧ (¬ ((-1)) ≤ x3 → K ((-1)) h2)))))) : RnI E mX11_occurs (dd + 1, 0, 0) [.ref o, .int x1, .int x2, .int x3] h K := by
  show gk_G E mX11_occurs (dd + 1, 0, 0) 0 [(0, .ref o), (1, .int x1), (2, .int x2), (3, .int x3)] [] h (fun o h1 => ∃ v, o = some (.int v) ∧ K v h1)
  refine gk_iload_n (pc := 0) (DX11_occurs_0.at 0 rfl) 1 rfl rfl ?_
  refine gk_vS (pc := 1) [.int x1] [] (DX11_occurs_0.at 1 rfl) csX11_174 rfl rfl (Nat.le_of_ble_eq_true rfl) (Nat.le_of_ble_eq_true rfl) (gk_Run.post (fun o h1 z => ?_) hv)
  obtain ⟨v1, rfl, hv⟩ := z
  refine gk_if_eq (pc := 4) 19 (DX11_occurs_0.at 2 rfl) (by decide) (fun c => ?_) (fun c => ?_)
  · replace hv := hv.1 c
    refine gk_iconst (pc := 19) ((-1)) (DX11_occurs_0.at 9 rfl) ci_m1 ?_
    exact gk_ireturn (pc := 20) .int (DX11_occurs_0.at 10 rfl) rfl rfl ⟨_, rfl, hv⟩
  · replace hv := hv.2 c
    refine gk_iload_n (pc := 7) (DX11_occurs_0.at 3 rfl) 2 rfl rfl ?_
    refine gk_vS (pc := 8) [.int x2] [] (DX11_occurs_0.at 4 rfl) csX11_174 rfl rfl (Nat.le_of_ble_eq_true rfl) (Nat.le_of_ble_eq_true rfl) (gk_Run.post (fun o h2 z => ?_) hv)
    obtain ⟨v2, rfl, hv⟩ := z
    refine gk_if_eq (pc := 11) 19 (DX11_occurs_0.at 5 rfl) (by decide) (fun c => ?_) (fun c => ?_)
    · replace hv := hv.1 c
      refine gk_iconst (pc := 19) ((-1)) (DX11_occurs_0.at 9 rfl) ci_m1 ?_
      exact gk_ireturn (pc := 20) .int (DX11_occurs_0.at 10 rfl) rfl rfl ⟨_, rfl, hv⟩
    · replace hv := hv.2 c
      refine gk_iload_n (pc := 14) (DX11_occurs_0.at 6 rfl) 3 rfl rfl ?_
      refine gk_iconst (pc := 15) ((-1)) (DX11_occurs_0.at 7 rfl) ci_m1 ?_
      refine gk_icmp_ge (pc := 16) 21 (DX11_occurs_0.at 8 rfl) (by decide) (fun c => ?_) (fun c => ?_)
      · replace hv := hv.1 c
        refine gk_aload_n (pc := 21) (DX11_occurs_0.at 11 rfl) 0 rfl rfl ?_
        obtain ⟨fs3, v3, q3, r3, hv⟩ := hv
        refine gk_get (pc := 22) (.ref v3) (DX11_occurs_0.at 12 rfl) fX11_30_10 q3 r3 ?_
        refine gk_aload_n (pc := 25) (DX11_occurs_0.at 13 rfl) 0 rfl rfl ?_
        obtain ⟨fs4, v4, q4, r4, hv⟩ := hv
        refine gk_get (pc := 26) (.ref v4) (DX11_occurs_0.at 14 rfl) fX11_12_10 q4 r4 ?_
        obtain ⟨fs5, v5, q5, r5, hv⟩ := hv
        refine gk_get (pc := 29) (.ref v5) (DX11_occurs_0.at 15 rfl) fX11_177_7 q5 r5 ?_
        refine gk_iload_n (pc := 32) (DX11_occurs_0.at 16 rfl) 1 rfl rfl ?_
        obtain ⟨n6, f6, v6, q6, r6, e6, hv⟩ := hv
        refine gk_aald5 (pc := 33) v6 (DX11_occurs_0.at 17 rfl) q6 r6 e6 ?_
        refine gk_aload_n (pc := 34) (DX11_occurs_0.at 18 rfl) 0 rfl rfl ?_
        obtain ⟨fs7, v7, q7, r7, hv⟩ := hv
        refine gk_get (pc := 35) (.ref v7) (DX11_occurs_0.at 19 rfl) fX11_12_10 q7 r7 ?_
        obtain ⟨fs8, v8, q8, r8, hv⟩ := hv
        refine gk_get (pc := 38) (.ref v8) (DX11_occurs_0.at 20 rfl) fX11_177_7 q8 r8 ?_
        refine gk_iload_n (pc := 41) (DX11_occurs_0.at 21 rfl) 2 rfl rfl ?_
        obtain ⟨n9, f9, v9, q9, r9, e9, hv⟩ := hv
        refine gk_aald5 (pc := 42) v9 (DX11_occurs_0.at 22 rfl) q9 r9 e9 ?_
        refine gk_iload_n (pc := 43) (DX11_occurs_0.at 23 rfl) 3 rfl rfl ?_
        obtain ⟨⟨fs10, q10⟩, hv⟩ := hv
        refine gk_vV (pc := 44) [.ref v6, .ref v9, .int x3] [] (DX11_occurs_0.at 24 rfl) cvX11_225 q10 rfl rfl (Nat.le_of_ble_eq_true rfl) (Nat.le_of_ble_eq_true rfl) (gk_Run.post (fun o h10 z => ?_) hv)
        obtain ⟨v10, rfl, hv⟩ := z
        exact gk_ireturn (pc := 47) .int (DX11_occurs_0.at 25 rfl) rfl rfl ⟨_, rfl, hv⟩
      · replace hv := hv.2 c
        refine gk_iconst (pc := 19) ((-1)) (DX11_occurs_0.at 9 rfl) ci_m1 ?_
        exact gk_ireturn (pc := 20) .int (DX11_occurs_0.at 10 rfl) rfl rfl ⟨_, rfl, hv⟩
set_option maxHeartbeats 4000000 in
theorem vX11_over_0 {E : gk_E} {dd : Nat} {o : Nat} {x1 : Int32} {x2 : Int32} {x3 : Int32}  {h : gk_H} {K : Int32 → gk_H → Prop} (hv : (∃ fs, h[o]? = some (.inr (10, fs))) ∧ RnI E mX11_isRelation (dd, 0, 0) [.ref o, .int x1] h (fun v1 h1 => (v1 = 0 → K ((-2)) h1) ∧ (¬ v1 = 0 → (∃ fs, h1[o]? = some (.inr (10, fs))) ∧ RnI E mX11_isRelation (dd, 0, 0) [.ref o, .int x2] h1 (fun v2 h2 => (v2 = 0 → K ((-2)) h2) ∧ (¬ v2 = 0 → RnI E mX11_isSide (dd, 0, 0) [.int x3] h2 (fun v3 h3 => (¬ v3 = 0 → LdR h3 o 10 0 fun v4 => LdR h3 v4 7 0 fun v5 => (∃ fs, h3[v5]? = some (.inr (8, fs))) ∧ RnI E mX8_residual (dd, 0, 0) [.ref v5, .int x1, .int x2, .int x3] h3 (fun v6 h6 => K v6 h6)) ∧ (v3 = 0 → K ((-2)) h3))))))) : RnI E mX11_over (dd + 1, 0, 0) [.ref o, .int x1, .int x2, .int x3] h K := by
  show gk_G E mX11_over (dd + 1, 0, 0) 0 [(0, .ref o), (1, .int x1), (2, .int x2), (3, .int x3)] [] h (fun o h1 => ∃ v, o = some (.int v) ∧ K v h1)
  refine gk_aload_n (pc := 0) (DX11_over_0.at 0 rfl) 0 rfl rfl ?_
  refine gk_iload_n (pc := 1) (DX11_over_0.at 1 rfl) 1 rfl rfl ?_
  obtain ⟨⟨fs1, q1⟩, hv⟩ := hv
  refine gk_vV (pc := 2) [.int x1] [] (DX11_over_0.at 2 rfl) cvX11_113 q1 rfl rfl (Nat.le_of_ble_eq_true rfl) (Nat.le_of_ble_eq_true rfl) (gk_Run.post (fun o h1 z => ?_) hv)
  obtain ⟨v1, rfl, hv⟩ := z
  refine gk_if_eq (pc := 5) 23 (DX11_over_0.at 3 rfl) (by decide) (fun c => ?_) (fun c => ?_)
  · replace hv := hv.1 c
    refine gk_bipush (pc := 23) ((-2)) (DX11_over_0.at 11 rfl) cb_m2 ?_
    exact gk_ireturn (pc := 25) .int (DX11_over_0.at 12 rfl) rfl rfl ⟨_, rfl, hv⟩
  · replace hv := hv.2 c
    refine gk_aload_n (pc := 8) (DX11_over_0.at 4 rfl) 0 rfl rfl ?_
    refine gk_iload_n (pc := 9) (DX11_over_0.at 5 rfl) 2 rfl rfl ?_
    obtain ⟨⟨fs2, q2⟩, hv⟩ := hv
    refine gk_vV (pc := 10) [.int x2] [] (DX11_over_0.at 6 rfl) cvX11_113 q2 rfl rfl (Nat.le_of_ble_eq_true rfl) (Nat.le_of_ble_eq_true rfl) (gk_Run.post (fun o h2 z => ?_) hv)
    obtain ⟨v2, rfl, hv⟩ := z
    refine gk_if_eq (pc := 13) 23 (DX11_over_0.at 7 rfl) (by decide) (fun c => ?_) (fun c => ?_)
    · replace hv := hv.1 c
      refine gk_bipush (pc := 23) ((-2)) (DX11_over_0.at 11 rfl) cb_m2 ?_
      exact gk_ireturn (pc := 25) .int (DX11_over_0.at 12 rfl) rfl rfl ⟨_, rfl, hv⟩
    · replace hv := hv.2 c
      refine gk_iload_n (pc := 16) (DX11_over_0.at 8 rfl) 3 rfl rfl ?_
      refine gk_vS (pc := 17) [.int x3] [] (DX11_over_0.at 9 rfl) csX11_135 rfl rfl (Nat.le_of_ble_eq_true rfl) (Nat.le_of_ble_eq_true rfl) (gk_Run.post (fun o h3 z => ?_) hv)
      obtain ⟨v3, rfl, hv⟩ := z
      refine gk_if_ne (pc := 20) 26 (DX11_over_0.at 10 rfl) (by decide) (fun c => ?_) (fun c => ?_)
      · replace hv := hv.1 c
        refine gk_aload_n (pc := 26) (DX11_over_0.at 13 rfl) 0 rfl rfl ?_
        obtain ⟨fs4, v4, q4, r4, hv⟩ := hv
        refine gk_get (pc := 27) (.ref v4) (DX11_over_0.at 14 rfl) fX11_12_10 q4 r4 ?_
        obtain ⟨fs5, v5, q5, r5, hv⟩ := hv
        refine gk_get (pc := 30) (.ref v5) (DX11_over_0.at 15 rfl) fX11_52_7 q5 r5 ?_
        refine gk_iload_n (pc := 33) (DX11_over_0.at 16 rfl) 1 rfl rfl ?_
        refine gk_iload_n (pc := 34) (DX11_over_0.at 17 rfl) 2 rfl rfl ?_
        refine gk_iload_n (pc := 35) (DX11_over_0.at 18 rfl) 3 rfl rfl ?_
        obtain ⟨⟨fs6, q6⟩, hv⟩ := hv
        refine gk_vV (pc := 36) [.int x1, .int x2, .int x3] [] (DX11_over_0.at 19 rfl) cvX11_138 q6 rfl rfl (Nat.le_of_ble_eq_true rfl) (Nat.le_of_ble_eq_true rfl) (gk_Run.post (fun o h6 z => ?_) hv)
        obtain ⟨v6, rfl, hv⟩ := z
        exact gk_ireturn (pc := 39) .int (DX11_over_0.at 20 rfl) rfl rfl ⟨_, rfl, hv⟩
      · replace hv := hv.2 c
        refine gk_bipush (pc := 23) ((-2)) (DX11_over_0.at 11 rfl) cb_m2 ?_
        exact gk_ireturn (pc := 25) .int (DX11_over_0.at 12 rfl) rfl rfl ⟨_, rfl, hv⟩
set_option maxHeartbeats 4000000 in
theorem vX11_pair_0 {E : gk_E} {dd : Nat} {o : Nat} {x1 : Int32} {x2 : Int32}  {h : gk_H} {K : Int32 → gk_H → Prop} (hv : (∃ fs, h[o]? = some (.inr (10, fs))) ∧ RnI E mX11_isAtomButZero (dd, 0, 0) [.ref o, .int x1] h (fun v1 h1 => (v1 = 0 → K ((-1)) h1) ∧ (¬ v1 = 0 → (∃ fs, h1[o]? = some (.inr (10, fs))) ∧ RnI E mX11_isAtomButZero (dd, 0, 0) [.ref o, .int x2] h1 (fun v2 h2 => (¬ v2 = 0 → LdR h2 o 10 0 fun v3 => LdR h2 v3 7 0 fun v4 => (∃ fs, h2[v4]? = some (.inr (8, fs))) ∧ RnV E mX8_couple (dd, 0, 0) [.ref v4, .int x1, .int x2] h2 (fun h5 => (∃ fs, h5[o]? = some (.inr (10, fs))) ∧ RnV E mX11_forgetNetworks (dd, 0, 0) [.ref o] h5 (fun h6 => LdR h6 o 10 0 fun v7 => LdR h6 v7 7 0 fun v8 => (∃ fs, h6[v8]? = some (.inr (8, fs))) ∧ RnI E mX8_coupled (dd, 0, 0) [.ref v8] h6 (fun v9 h9 => K v9 h9)))) ∧ (v2 = 0 → K ((-1)) h2))))) : RnI E mX11_pair (dd + 1, 0, 0) [.ref o, .int x1, .int x2] h K := by
  show gk_G E mX11_pair (dd + 1, 0, 0) 0 [(0, .ref o), (1, .int x1), (2, .int x2)] [] h (fun o h1 => ∃ v, o = some (.int v) ∧ K v h1)
  refine gk_aload_n (pc := 0) (DX11_pair_0.at 0 rfl) 0 rfl rfl ?_
  refine gk_iload_n (pc := 1) (DX11_pair_0.at 1 rfl) 1 rfl rfl ?_
  obtain ⟨⟨fs1, q1⟩, hv⟩ := hv
  refine gk_vV (pc := 2) [.int x1] [] (DX11_pair_0.at 2 rfl) cvX11_101 q1 rfl rfl (Nat.le_of_ble_eq_true rfl) (Nat.le_of_ble_eq_true rfl) (gk_Run.post (fun o h1 z => ?_) hv)
  obtain ⟨v1, rfl, hv⟩ := z
  refine gk_if_eq (pc := 5) 16 (DX11_pair_0.at 3 rfl) (by decide) (fun c => ?_) (fun c => ?_)
  · replace hv := hv.1 c
    refine gk_iconst (pc := 16) ((-1)) (DX11_pair_0.at 8 rfl) ci_m1 ?_
    exact gk_ireturn (pc := 17) .int (DX11_pair_0.at 9 rfl) rfl rfl ⟨_, rfl, hv⟩
  · replace hv := hv.2 c
    refine gk_aload_n (pc := 8) (DX11_pair_0.at 4 rfl) 0 rfl rfl ?_
    refine gk_iload_n (pc := 9) (DX11_pair_0.at 5 rfl) 2 rfl rfl ?_
    obtain ⟨⟨fs2, q2⟩, hv⟩ := hv
    refine gk_vV (pc := 10) [.int x2] [] (DX11_pair_0.at 6 rfl) cvX11_101 q2 rfl rfl (Nat.le_of_ble_eq_true rfl) (Nat.le_of_ble_eq_true rfl) (gk_Run.post (fun o h2 z => ?_) hv)
    obtain ⟨v2, rfl, hv⟩ := z
    refine gk_if_ne (pc := 13) 18 (DX11_pair_0.at 7 rfl) (by decide) (fun c => ?_) (fun c => ?_)
    · replace hv := hv.1 c
      refine gk_aload_n (pc := 18) (DX11_pair_0.at 10 rfl) 0 rfl rfl ?_
      obtain ⟨fs3, v3, q3, r3, hv⟩ := hv
      refine gk_get (pc := 19) (.ref v3) (DX11_pair_0.at 11 rfl) fX11_12_10 q3 r3 ?_
      obtain ⟨fs4, v4, q4, r4, hv⟩ := hv
      refine gk_get (pc := 22) (.ref v4) (DX11_pair_0.at 12 rfl) fX11_52_7 q4 r4 ?_
      refine gk_iload_n (pc := 25) (DX11_pair_0.at 13 rfl) 1 rfl rfl ?_
      refine gk_iload_n (pc := 26) (DX11_pair_0.at 14 rfl) 2 rfl rfl ?_
      obtain ⟨⟨fs5, q5⟩, hv⟩ := hv
      refine gk_vV (pc := 27) [.int x1, .int x2] [] (DX11_pair_0.at 15 rfl) cvX11_105 q5 rfl rfl (Nat.le_of_ble_eq_true rfl) (Nat.le_of_ble_eq_true rfl) (gk_Run.post (fun o h5 z => ?_) hv)
      obtain ⟨rfl, hv⟩ := z
      refine gk_aload_n (pc := 30) (DX11_pair_0.at 16 rfl) 0 rfl rfl ?_
      obtain ⟨⟨fs6, q6⟩, hv⟩ := hv
      refine gk_vV (pc := 31) [] [] (DX11_pair_0.at 17 rfl) cvX11_98 q6 rfl rfl (Nat.le_of_ble_eq_true rfl) (Nat.le_of_ble_eq_true rfl) (gk_Run.post (fun o h6 z => ?_) hv)
      obtain ⟨rfl, hv⟩ := z
      refine gk_aload_n (pc := 34) (DX11_pair_0.at 18 rfl) 0 rfl rfl ?_
      obtain ⟨fs7, v7, q7, r7, hv⟩ := hv
      refine gk_get (pc := 35) (.ref v7) (DX11_pair_0.at 19 rfl) fX11_12_10 q7 r7 ?_
      obtain ⟨fs8, v8, q8, r8, hv⟩ := hv
      refine gk_get (pc := 38) (.ref v8) (DX11_pair_0.at 20 rfl) fX11_52_7 q8 r8 ?_
      obtain ⟨⟨fs9, q9⟩, hv⟩ := hv
      refine gk_vV (pc := 41) [] [] (DX11_pair_0.at 21 rfl) cvX11_109 q9 rfl rfl (Nat.le_of_ble_eq_true rfl) (Nat.le_of_ble_eq_true rfl) (gk_Run.post (fun o h9 z => ?_) hv)
      obtain ⟨v9, rfl, hv⟩ := z
      exact gk_ireturn (pc := 44) .int (DX11_pair_0.at 22 rfl) rfl rfl ⟨_, rfl, hv⟩
    · replace hv := hv.2 c
      refine gk_iconst (pc := 16) ((-1)) (DX11_pair_0.at 8 rfl) ci_m1 ?_
      exact gk_ireturn (pc := 17) .int (DX11_pair_0.at 9 rfl) rfl rfl ⟨_, rfl, hv⟩
abbrev pX11_perform_6 (E : gk_E) (dd : Nat) (o : Nat) (x1 : Int32) (x2 : Int32) (x3 : Int32) (h : gk_H) (K : Int32 → gk_H → Prop) : Prop := gk_G E mX11_perform (dd + 1, 0, 0) 6 [(0, .ref o), (1, .int x1), (2, .int x2), (3, .int x3)] [] h (fun o h1 => ∃ v, o = some (.int v) ∧ K v h1)
set_option maxHeartbeats 4000000 in
theorem vX11_perform_0 {E : gk_E} {dd : Nat} {o : Nat}  {h : gk_H} {K : Int32 → gk_H → Prop} (hv : pX11_perform_6 E dd o (nI 0) (nI 0) (nI 0) h K) : RnI E mX11_perform (dd + 1, 0, 0) [.ref o] h K := by
  show gk_G E mX11_perform (dd + 1, 0, 0) 0 [(0, .ref o)] [] h (fun o h1 => ∃ v, o = some (.int v) ∧ K v h1)
  refine gk_iconst (pc := 0) (nI 0) (DX11_perform_0.at 0 rfl) ci_0 ?_
  refine gk_istore_n (pc := 1) [(1, .int (nI 0)), (0, .ref o)] (DX11_perform_0.at 1 rfl) rfl (Nat.le_of_ble_eq_true rfl) rfl ?_
  refine gk_iconst (pc := 2) (nI 0) (DX11_perform_0.at 2 rfl) ci_0 ?_
  refine gk_istore_n (pc := 3) [(2, .int (nI 0)), (1, .int (nI 0)), (0, .ref o)] (DX11_perform_0.at 3 rfl) rfl (Nat.le_of_ble_eq_true rfl) rfl ?_
  refine gk_iconst (pc := 4) (nI 0) (DX11_perform_0.at 4 rfl) ci_0 ?_
  refine gk_istore_n (pc := 5) [(3, .int (nI 0)), (2, .int (nI 0)), (1, .int (nI 0)), (0, .ref o)] (DX11_perform_0.at 5 rfl) rfl (Nat.le_of_ble_eq_true rfl) rfl ?_
  exact gk_pick (pc := 6) [(0, .ref o), (1, .int (nI 0)), (2, .int (nI 0)), (3, .int (nI 0))] [3, 2, 1, 0] rfl hv
set_option maxHeartbeats 4000000 in
theorem vX11_perform_6 {E : gk_E} {dd : Nat} {o : Nat} {x1 : Int32} {x2 : Int32} {x3 : Int32}  {h : gk_H} {K : Int32 → gk_H → Prop} (hv : ((nI 100) ≤ x3 → K x2 h) ∧ (¬ (nI 100) ≤ x3 → LdR h o 10 10 fun v1 => LdI h v1 9 0 fun v2 => (v2 ≤ x1 → K x2 h) ∧ (¬ v2 ≤ x1 → LdR h o 10 10 fun v3 => (∃ fs, h[v3]? = some (.inr (9, fs))) ∧ RnI E mX9_wordEnd (dd, 0, 0) [.ref v3, .int x1] h (fun v4 h4 => LdR h4 o 10 10 fun v5 => (∃ fs, h4[v5]? = some (.inr (9, fs))) ∧ RnI E mX9_wordKind (dd, 0, 0) [.ref v5, .int x1, .int v4] h4 (fun v6 h6 => (∃ fs, h6[o]? = some (.inr (10, fs))) ∧ RnI E mX11_statement (dd, 0, 0) [.ref o, .int v6, .int v4] h6 (fun v7 h7 => (0 ≤ v7 → LdR h7 o 10 10 fun v8 => (∃ fs, h7[v8]? = some (.inr (9, fs))) ∧ RnI E mX9_figuresOf (dd, 0, 0) [.ref v8, .int v6] h7 (fun v9 h9 => pX11_perform_6 E dd o ((v4 + ((nI 2) * v9)) + (nI 1)) (x2 + nI 1) (x3 + nI 1) h9 K)) ∧ (¬ 0 ≤ v7 → K (((-300)) - x2) h7))))))) : pX11_perform_6 E dd o x1 x2 x3 h K := by
  show gk_G E mX11_perform (dd + 1, 0, 0) 6 [(0, .ref o), (1, .int x1), (2, .int x2), (3, .int x3)] [] h (fun o h1 => ∃ v, o = some (.int v) ∧ K v h1)
  refine gk_iload_n (pc := 6) (DX11_perform_0.at 6 rfl) 3 rfl rfl ?_
  refine gk_bipush (pc := 7) (nI 100) (DX11_perform_0.at 7 rfl) cb_100 ?_
  refine gk_icmp_ge (pc := 9) 88 (DX11_perform_0.at 8 rfl) (by decide) (fun c => ?_) (fun c => ?_)
  · replace hv := hv.1 c
    refine gk_iload_n (pc := 88) (DX11_perform_0.at 48 rfl) 2 rfl rfl ?_
    exact gk_ireturn (pc := 89) .int (DX11_perform_0.at 49 rfl) rfl rfl ⟨_, rfl, hv⟩
  · replace hv := hv.2 c
    refine gk_iload_n (pc := 12) (DX11_perform_0.at 9 rfl) 1 rfl rfl ?_
    refine gk_aload_n (pc := 13) (DX11_perform_0.at 10 rfl) 0 rfl rfl ?_
    obtain ⟨fs1, v1, q1, r1, hv⟩ := hv
    refine gk_get (pc := 14) (.ref v1) (DX11_perform_0.at 11 rfl) fX11_81_10 q1 r1 ?_
    obtain ⟨fs2, v2, q2, r2, hv⟩ := hv
    refine gk_get (pc := 17) (.int v2) (DX11_perform_0.at 12 rfl) fX11_293_9 q2 r2 ?_
    refine gk_icmp_ge (pc := 20) 88 (DX11_perform_0.at 13 rfl) (by decide) (fun c => ?_) (fun c => ?_)
    · replace hv := hv.1 c
      refine gk_iload_n (pc := 88) (DX11_perform_0.at 48 rfl) 2 rfl rfl ?_
      exact gk_ireturn (pc := 89) .int (DX11_perform_0.at 49 rfl) rfl rfl ⟨_, rfl, hv⟩
    · replace hv := hv.2 c
      refine gk_aload_n (pc := 23) (DX11_perform_0.at 14 rfl) 0 rfl rfl ?_
      obtain ⟨fs3, v3, q3, r3, hv⟩ := hv
      refine gk_get (pc := 24) (.ref v3) (DX11_perform_0.at 15 rfl) fX11_81_10 q3 r3 ?_
      refine gk_iload_n (pc := 27) (DX11_perform_0.at 16 rfl) 1 rfl rfl ?_
      obtain ⟨⟨fs4, q4⟩, hv⟩ := hv
      refine gk_vV (pc := 28) [.int x1] [] (DX11_perform_0.at 17 rfl) cvX11_321 q4 rfl rfl (Nat.le_of_ble_eq_true rfl) (Nat.le_of_ble_eq_true rfl) (gk_Run.post (fun o h4 z => ?_) hv)
      obtain ⟨v4, rfl, hv⟩ := z
      refine gk_istore (pc := 31) [(4, .int v4), (0, .ref o), (1, .int x1), (2, .int x2), (3, .int x3)] (DX11_perform_0.at 18 rfl) (Nat.le_of_ble_eq_true rfl) rfl ?_
      refine gk_aload_n (pc := 33) (DX11_perform_0.at 19 rfl) 1 rfl rfl ?_
      obtain ⟨fs5, v5, q5, r5, hv⟩ := hv
      refine gk_get (pc := 34) (.ref v5) (DX11_perform_0.at 20 rfl) fX11_81_10 q5 r5 ?_
      refine gk_iload_n (pc := 37) (DX11_perform_0.at 21 rfl) 2 rfl rfl ?_
      refine gk_iload (pc := 38) (DX11_perform_0.at 22 rfl) 0 rfl ?_
      obtain ⟨⟨fs6, q6⟩, hv⟩ := hv
      refine gk_vV (pc := 40) [.int x1, .int v4] [] (DX11_perform_0.at 23 rfl) cvX11_324 q6 rfl rfl (Nat.le_of_ble_eq_true rfl) (Nat.le_of_ble_eq_true rfl) (gk_Run.post (fun o h6 z => ?_) hv)
      obtain ⟨v6, rfl, hv⟩ := z
      refine gk_istore (pc := 43) [(5, .int v6), (4, .int v4), (0, .ref o), (1, .int x1), (2, .int x2), (3, .int x3)] (DX11_perform_0.at 24 rfl) (Nat.le_of_ble_eq_true rfl) rfl ?_
      refine gk_aload_n (pc := 45) (DX11_perform_0.at 25 rfl) 2 rfl rfl ?_
      refine gk_iload (pc := 46) (DX11_perform_0.at 26 rfl) 0 rfl ?_
      refine gk_iload (pc := 48) (DX11_perform_0.at 27 rfl) 1 rfl ?_
      obtain ⟨⟨fs7, q7⟩, hv⟩ := hv
      refine gk_vV (pc := 50) [.int v6, .int v4] [] (DX11_perform_0.at 28 rfl) cvX11_327 q7 rfl rfl (Nat.le_of_ble_eq_true rfl) (Nat.le_of_ble_eq_true rfl) (gk_Run.post (fun o h7 z => ?_) hv)
      obtain ⟨v7, rfl, hv⟩ := z
      refine gk_if_ge (pc := 53) 62 (DX11_perform_0.at 29 rfl) (by decide) (fun c => ?_) (fun c => ?_)
      · replace hv := hv.1 c
        refine gk_iinc (pc := 62) (x2 + nI 1) [(2, .int (x2 + nI 1)), (5, .int v6), (4, .int v4), (0, .ref o), (1, .int x1), (3, .int x3)] 4 (DX11_perform_0.at 34 rfl) rfl (by rw [ci_1]) (Nat.le_of_ble_eq_true rfl) rfl ?_
        refine gk_iload (pc := 65) (DX11_perform_0.at 35 rfl) 2 rfl ?_
        refine gk_iconst (pc := 67) (nI 2) (DX11_perform_0.at 36 rfl) ci_2 ?_
        refine gk_aload_n (pc := 68) (DX11_perform_0.at 37 rfl) 3 rfl rfl ?_
        obtain ⟨fs8, v8, q8, r8, hv⟩ := hv
        refine gk_get (pc := 69) (.ref v8) (DX11_perform_0.at 38 rfl) fX11_81_10 q8 r8 ?_
        refine gk_iload (pc := 72) (DX11_perform_0.at 39 rfl) 1 rfl ?_
        obtain ⟨⟨fs9, q9⟩, hv⟩ := hv
        refine gk_vV (pc := 74) [.int v6] [.int (nI 2), .int v4] (DX11_perform_0.at 40 rfl) cvX11_330 q9 rfl rfl (Nat.le_of_ble_eq_true rfl) (Nat.le_of_ble_eq_true rfl) (gk_Run.post (fun o h9 z => ?_) hv)
        obtain ⟨v9, rfl, hv⟩ := z
        refine gk_imul (pc := 77) (DX11_perform_0.at 41 rfl) ?_
        refine gk_iadd (pc := 78) (DX11_perform_0.at 42 rfl) ?_
        refine gk_iconst (pc := 79) (nI 1) (DX11_perform_0.at 43 rfl) ci_1 ?_
        refine gk_iadd (pc := 80) (DX11_perform_0.at 44 rfl) ?_
        refine gk_istore_n (pc := 81) [(1, .int ((v4 + ((nI 2) * v9)) + (nI 1))), (2, .int (x2 + nI 1)), (5, .int v6), (4, .int v4), (0, .ref o), (3, .int x3)] (DX11_perform_0.at 45 rfl) rfl (Nat.le_of_ble_eq_true rfl) rfl ?_
        refine gk_iinc (pc := 82) (x3 + nI 1) [(3, .int (x3 + nI 1)), (1, .int ((v4 + ((nI 2) * v9)) + (nI 1))), (2, .int (x2 + nI 1)), (5, .int v6), (4, .int v4), (0, .ref o)] 5 (DX11_perform_0.at 46 rfl) rfl (by rw [ci_1]) (Nat.le_of_ble_eq_true rfl) rfl ?_
        refine gk_goto (pc := 85) 6 (DX11_perform_0.at 47 rfl) (by decide) ?_
        exact gk_pick (pc := 6) [(0, .ref o), (1, .int ((v4 + ((nI 2) * v9)) + (nI 1))), (2, .int (x2 + nI 1)), (3, .int (x3 + nI 1))] [5, 1, 2, 0] rfl hv
      · replace hv := hv.2 c
        refine gk_sipush (pc := 56) ((-300)) (DX11_perform_0.at 30 rfl) cs_m300 ?_
        refine gk_iload_n (pc := 59) (DX11_perform_0.at 31 rfl) 4 rfl rfl ?_
        refine gk_isub (pc := 60) (DX11_perform_0.at 32 rfl) ?_
        exact gk_ireturn (pc := 61) .int (DX11_perform_0.at 33 rfl) rfl rfl ⟨_, rfl, hv⟩
set_option maxHeartbeats 4000000 in
theorem vX11_power_0 {E : gk_E} {dd : Nat} {o : Nat} {x1 : Int32} {x2 : Int32}  {h : gk_H} {K : Int32 → gk_H → Prop} (hv : (∃ fs, h[o]? = some (.inr (10, fs))) ∧ RnI E mX11_isRelation (dd, 0, 0) [.ref o, .int x1] h (fun v1 h1 => (¬ v1 = 0 → (x2 = 0 → LdR h1 o 10 0 fun v2 => LdR h1 v2 7 0 fun v3 => (¬ x2 = 0 → (∃ fs, h1[v3]? = some (.inr (8, fs))) ∧ RnI E mX8_powers (dd, 0, 0) [.ref v3, .int x1, .int (nI 0)] h1 (fun v4 h4 => K v4 h4)) ∧ (x2 = 0 → (∃ fs, h1[v3]? = some (.inr (8, fs))) ∧ RnI E mX8_powers (dd, 0, 0) [.ref v3, .int x1, .int (nI 1)] h1 (fun v5 h5 => K v5 h5))) ∧ (¬ x2 = 0 → (x2 = (nI 1) → LdR h1 o 10 0 fun v6 => LdR h1 v6 7 0 fun v7 => (¬ x2 = 0 → (∃ fs, h1[v7]? = some (.inr (8, fs))) ∧ RnI E mX8_powers (dd, 0, 0) [.ref v7, .int x1, .int (nI 0)] h1 (fun v8 h8 => K v8 h8)) ∧ (x2 = 0 → (∃ fs, h1[v7]? = some (.inr (8, fs))) ∧ RnI E mX8_powers (dd, 0, 0) [.ref v7, .int x1, .int (nI 1)] h1 (fun v9 h9 => K v9 h9))) ∧ (¬ x2 = (nI 1) → K ((-1)) h1))) ∧ (v1 = 0 → K ((-2)) h1))) : RnI E mX11_power (dd + 1, 0, 0) [.ref o, .int x1, .int x2] h K := by
  show gk_G E mX11_power (dd + 1, 0, 0) 0 [(0, .ref o), (1, .int x1), (2, .int x2)] [] h (fun o h1 => ∃ v, o = some (.int v) ∧ K v h1)
  refine gk_aload_n (pc := 0) (DX11_power_0.at 0 rfl) 0 rfl rfl ?_
  refine gk_iload_n (pc := 1) (DX11_power_0.at 1 rfl) 1 rfl rfl ?_
  obtain ⟨⟨fs1, q1⟩, hv⟩ := hv
  refine gk_vV (pc := 2) [.int x1] [] (DX11_power_0.at 2 rfl) cvX11_113 q1 rfl rfl (Nat.le_of_ble_eq_true rfl) (Nat.le_of_ble_eq_true rfl) (gk_Run.post (fun o h1 z => ?_) hv)
  obtain ⟨v1, rfl, hv⟩ := z
  refine gk_if_ne (pc := 5) 11 (DX11_power_0.at 3 rfl) (by decide) (fun c => ?_) (fun c => ?_)
  · replace hv := hv.1 c
    refine gk_iload_n (pc := 11) (DX11_power_0.at 6 rfl) 2 rfl rfl ?_
    refine gk_if_eq (pc := 12) 22 (DX11_power_0.at 7 rfl) (by decide) (fun c => ?_) (fun c => ?_)
    · replace hv := hv.1 c
      refine gk_aload_n (pc := 22) (DX11_power_0.at 13 rfl) 0 rfl rfl ?_
      obtain ⟨fs2, v2, q2, r2, hv⟩ := hv
      refine gk_get (pc := 23) (.ref v2) (DX11_power_0.at 14 rfl) fX11_12_10 q2 r2 ?_
      obtain ⟨fs3, v3, q3, r3, hv⟩ := hv
      refine gk_get (pc := 26) (.ref v3) (DX11_power_0.at 15 rfl) fX11_52_7 q3 r3 ?_
      refine gk_iload_n (pc := 29) (DX11_power_0.at 16 rfl) 1 rfl rfl ?_
      refine gk_iload_n (pc := 30) (DX11_power_0.at 17 rfl) 2 rfl rfl ?_
      refine gk_if_ne (pc := 31) 38 (DX11_power_0.at 18 rfl) (by decide) (fun c => ?_) (fun c => ?_)
      · replace hv := hv.1 c
        refine gk_iconst (pc := 38) (nI 0) (DX11_power_0.at 21 rfl) ci_0 ?_
        obtain ⟨⟨fs4, q4⟩, hv⟩ := hv
        refine gk_vV (pc := 39) [.int x1, .int (nI 0)] [] (DX11_power_0.at 22 rfl) cvX11_142 q4 rfl rfl (Nat.le_of_ble_eq_true rfl) (Nat.le_of_ble_eq_true rfl) (gk_Run.post (fun o h4 z => ?_) hv)
        obtain ⟨v4, rfl, hv⟩ := z
        exact gk_ireturn (pc := 42) .int (DX11_power_0.at 23 rfl) rfl rfl ⟨_, rfl, hv⟩
      · replace hv := hv.2 c
        refine gk_iconst (pc := 34) (nI 1) (DX11_power_0.at 19 rfl) ci_1 ?_
        refine gk_goto (pc := 35) 39 (DX11_power_0.at 20 rfl) (by decide) ?_
        obtain ⟨⟨fs5, q5⟩, hv⟩ := hv
        refine gk_vV (pc := 39) [.int x1, .int (nI 1)] [] (DX11_power_0.at 22 rfl) cvX11_142 q5 rfl rfl (Nat.le_of_ble_eq_true rfl) (Nat.le_of_ble_eq_true rfl) (gk_Run.post (fun o h5 z => ?_) hv)
        obtain ⟨v5, rfl, hv⟩ := z
        exact gk_ireturn (pc := 42) .int (DX11_power_0.at 23 rfl) rfl rfl ⟨_, rfl, hv⟩
    · replace hv := hv.2 c
      refine gk_iload_n (pc := 15) (DX11_power_0.at 8 rfl) 2 rfl rfl ?_
      refine gk_iconst (pc := 16) (nI 1) (DX11_power_0.at 9 rfl) ci_1 ?_
      refine gk_icmp_eq (pc := 17) 22 (DX11_power_0.at 10 rfl) (by decide) (fun c => ?_) (fun c => ?_)
      · replace hv := hv.1 c
        refine gk_aload_n (pc := 22) (DX11_power_0.at 13 rfl) 0 rfl rfl ?_
        obtain ⟨fs6, v6, q6, r6, hv⟩ := hv
        refine gk_get (pc := 23) (.ref v6) (DX11_power_0.at 14 rfl) fX11_12_10 q6 r6 ?_
        obtain ⟨fs7, v7, q7, r7, hv⟩ := hv
        refine gk_get (pc := 26) (.ref v7) (DX11_power_0.at 15 rfl) fX11_52_7 q7 r7 ?_
        refine gk_iload_n (pc := 29) (DX11_power_0.at 16 rfl) 1 rfl rfl ?_
        refine gk_iload_n (pc := 30) (DX11_power_0.at 17 rfl) 2 rfl rfl ?_
        refine gk_if_ne (pc := 31) 38 (DX11_power_0.at 18 rfl) (by decide) (fun c => ?_) (fun c => ?_)
        · replace hv := hv.1 c
          refine gk_iconst (pc := 38) (nI 0) (DX11_power_0.at 21 rfl) ci_0 ?_
          obtain ⟨⟨fs8, q8⟩, hv⟩ := hv
          refine gk_vV (pc := 39) [.int x1, .int (nI 0)] [] (DX11_power_0.at 22 rfl) cvX11_142 q8 rfl rfl (Nat.le_of_ble_eq_true rfl) (Nat.le_of_ble_eq_true rfl) (gk_Run.post (fun o h8 z => ?_) hv)
          obtain ⟨v8, rfl, hv⟩ := z
          exact gk_ireturn (pc := 42) .int (DX11_power_0.at 23 rfl) rfl rfl ⟨_, rfl, hv⟩
        · replace hv := hv.2 c
          refine gk_iconst (pc := 34) (nI 1) (DX11_power_0.at 19 rfl) ci_1 ?_
          refine gk_goto (pc := 35) 39 (DX11_power_0.at 20 rfl) (by decide) ?_
          obtain ⟨⟨fs9, q9⟩, hv⟩ := hv
          refine gk_vV (pc := 39) [.int x1, .int (nI 1)] [] (DX11_power_0.at 22 rfl) cvX11_142 q9 rfl rfl (Nat.le_of_ble_eq_true rfl) (Nat.le_of_ble_eq_true rfl) (gk_Run.post (fun o h9 z => ?_) hv)
          obtain ⟨v9, rfl, hv⟩ := z
          exact gk_ireturn (pc := 42) .int (DX11_power_0.at 23 rfl) rfl rfl ⟨_, rfl, hv⟩
      · replace hv := hv.2 c
        refine gk_iconst (pc := 20) ((-1)) (DX11_power_0.at 11 rfl) ci_m1 ?_
        exact gk_ireturn (pc := 21) .int (DX11_power_0.at 12 rfl) rfl rfl ⟨_, rfl, hv⟩
  · replace hv := hv.2 c
    refine gk_bipush (pc := 8) ((-2)) (DX11_power_0.at 4 rfl) cb_m2 ?_
    exact gk_ireturn (pc := 10) .int (DX11_power_0.at 5 rfl) rfl rfl ⟨_, rfl, hv⟩
set_option maxHeartbeats 4000000 in
theorem vX11_put_0 {E : gk_E} {dd : Nat} {o : Nat} {x1 : Int32} {x2 : Int32} {x3 : Int64}  {h : gk_H} {K : Int32 → gk_H → Prop} (hv : RnI E mX11_isList (dd, 0, 0) [.int x1] h (fun v1 h1 => (¬ v1 = 0 → LdR h1 o 10 8 fun v2 => AlI h1 v2 x1 fun v3 => (0 ≤ v3 → (x2 < 0 → K ((-13)) h1) ∧ (¬ x2 < 0 → LdR h1 o 10 8 fun v4 => AlI h1 v4 x1 fun v5 => (x2 < v5 → LdR h1 o 10 9 fun v6 => AsL h1 v6 (((nI 12) * x1) + x2) x3 fun h7 => K (nI 1) h7) ∧ (¬ x2 < v5 → K ((-13)) h1))) ∧ (¬ 0 ≤ v3 → K ((-11)) h1)) ∧ (v1 = 0 → K ((-1)) h1))) : RnI E mX11_put (dd + 1, 0, 0) [.ref o, .int x1, .int x2, .long x3] h K := by
  show gk_G E mX11_put (dd + 1, 0, 0) 0 [(0, .ref o), (1, .int x1), (2, .int x2), (3, .long x3)] [] h (fun o h1 => ∃ v, o = some (.int v) ∧ K v h1)
  refine gk_iload_n (pc := 0) (DX11_put_0.at 0 rfl) 1 rfl rfl ?_
  refine gk_vS (pc := 1) [.int x1] [] (DX11_put_0.at 1 rfl) csX11_278 rfl rfl (Nat.le_of_ble_eq_true rfl) (Nat.le_of_ble_eq_true rfl) (gk_Run.post (fun o h1 z => ?_) hv)
  obtain ⟨v1, rfl, hv⟩ := z
  refine gk_if_ne (pc := 4) 9 (DX11_put_0.at 2 rfl) (by decide) (fun c => ?_) (fun c => ?_)
  · replace hv := hv.1 c
    refine gk_aload_n (pc := 9) (DX11_put_0.at 5 rfl) 0 rfl rfl ?_
    obtain ⟨fs2, v2, q2, r2, hv⟩ := hv
    refine gk_get (pc := 10) (.ref v2) (DX11_put_0.at 6 rfl) fX11_70_10 q2 r2 ?_
    refine gk_iload_n (pc := 13) (DX11_put_0.at 7 rfl) 1 rfl rfl ?_
    obtain ⟨n3, f3, q3, r3, hv⟩ := hv
    refine gk_iald (pc := 14) (DX11_put_0.at 8 rfl) q3 r3 ?_
    generalize f3 _ = v3 at hv ⊢
    refine gk_if_ge (pc := 15) 21 (DX11_put_0.at 9 rfl) (by decide) (fun c => ?_) (fun c => ?_)
    · replace hv := hv.1 c
      refine gk_iload_n (pc := 21) (DX11_put_0.at 12 rfl) 2 rfl rfl ?_
      refine gk_if_lt (pc := 22) 35 (DX11_put_0.at 13 rfl) (by decide) (fun c => ?_) (fun c => ?_)
      · replace hv := hv.1 c
        refine gk_bipush (pc := 35) ((-13)) (DX11_put_0.at 20 rfl) cb_m13 ?_
        exact gk_ireturn (pc := 37) .int (DX11_put_0.at 21 rfl) rfl rfl ⟨_, rfl, hv⟩
      · replace hv := hv.2 c
        refine gk_iload_n (pc := 25) (DX11_put_0.at 14 rfl) 2 rfl rfl ?_
        refine gk_aload_n (pc := 26) (DX11_put_0.at 15 rfl) 0 rfl rfl ?_
        obtain ⟨fs4, v4, q4, r4, hv⟩ := hv
        refine gk_get (pc := 27) (.ref v4) (DX11_put_0.at 16 rfl) fX11_70_10 q4 r4 ?_
        refine gk_iload_n (pc := 30) (DX11_put_0.at 17 rfl) 1 rfl rfl ?_
        obtain ⟨n5, f5, q5, r5, hv⟩ := hv
        refine gk_iald (pc := 31) (DX11_put_0.at 18 rfl) q5 r5 ?_
        generalize f5 _ = v5 at hv ⊢
        refine gk_icmp_lt (pc := 32) 38 (DX11_put_0.at 19 rfl) (by decide) (fun c => ?_) (fun c => ?_)
        · replace hv := hv.1 c
          refine gk_aload_n (pc := 38) (DX11_put_0.at 22 rfl) 0 rfl rfl ?_
          obtain ⟨fs6, v6, q6, r6, hv⟩ := hv
          refine gk_get (pc := 39) (.ref v6) (DX11_put_0.at 23 rfl) fX11_74_10 q6 r6 ?_
          refine gk_bipush (pc := 42) (nI 12) (DX11_put_0.at 24 rfl) cb_12 ?_
          refine gk_iload_n (pc := 44) (DX11_put_0.at 25 rfl) 1 rfl rfl ?_
          refine gk_imul (pc := 45) (DX11_put_0.at 26 rfl) ?_
          refine gk_iload_n (pc := 46) (DX11_put_0.at 27 rfl) 2 rfl rfl ?_
          refine gk_iadd (pc := 47) (DX11_put_0.at 28 rfl) ?_
          refine gk_lload_n (pc := 48) (DX11_put_0.at 29 rfl) 3 rfl rfl ?_
          obtain ⟨n7, f7, q7, r7, hv⟩ := hv
          refine gk_last (pc := 49) (DX11_put_0.at 30 rfl) q7 r7 ?_
          generalize h1.set _ _ = h7 at hv ⊢
          refine gk_iconst (pc := 50) (nI 1) (DX11_put_0.at 31 rfl) ci_1 ?_
          exact gk_ireturn (pc := 51) .int (DX11_put_0.at 32 rfl) rfl rfl ⟨_, rfl, hv⟩
        · replace hv := hv.2 c
          refine gk_bipush (pc := 35) ((-13)) (DX11_put_0.at 20 rfl) cb_m13 ?_
          exact gk_ireturn (pc := 37) .int (DX11_put_0.at 21 rfl) rfl rfl ⟨_, rfl, hv⟩
    · replace hv := hv.2 c
      refine gk_bipush (pc := 18) ((-11)) (DX11_put_0.at 10 rfl) cb_m11 ?_
      exact gk_ireturn (pc := 20) .int (DX11_put_0.at 11 rfl) rfl rfl ⟨_, rfl, hv⟩
  · replace hv := hv.2 c
    refine gk_iconst (pc := 7) ((-1)) (DX11_put_0.at 3 rfl) ci_m1 ?_
    exact gk_ireturn (pc := 8) .int (DX11_put_0.at 4 rfl) rfl rfl ⟨_, rfl, hv⟩
set_option maxHeartbeats 4000000 in
theorem vX11_read_0 {E : gk_E} {dd : Nat} {o : Nat}  {h : gk_H} {K : Int32 → gk_H → Prop} (hv : LdR h o 10 10 fun v1 => (∃ fs, h[v1]? = some (.inr (9, fs))) ∧ RnI E mX9_faultPlace (dd, 0, 0) [.ref v1] h (fun v2 h2 => (¬ v2 = ((-5)) → LdR h2 o 10 10 fun v3 => StI h2 v3 9 0 (nI 0) fun h4 => K (((-100)) - v2) h4) ∧ (v2 = ((-5)) → (∃ fs, h2[o]? = some (.inr (10, fs))) ∧ RnI E mX11_perform (dd, 0, 0) [.ref o] h2 (fun v5 h5 => LdR h5 o 10 10 fun v6 => StI h5 v6 9 0 (nI 0) fun h7 => K v5 h7)))) : RnI E mX11_read (dd + 1, 0, 0) [.ref o] h K := by
  show gk_G E mX11_read (dd + 1, 0, 0) 0 [(0, .ref o)] [] h (fun o h1 => ∃ v, o = some (.int v) ∧ K v h1)
  refine gk_aload_n (pc := 0) (DX11_read_0.at 0 rfl) 0 rfl rfl ?_
  obtain ⟨fs1, v1, q1, r1, hv⟩ := hv
  refine gk_get (pc := 1) (.ref v1) (DX11_read_0.at 1 rfl) fX11_81_10 q1 r1 ?_
  obtain ⟨⟨fs2, q2⟩, hv⟩ := hv
  refine gk_vV (pc := 4) [] [] (DX11_read_0.at 2 rfl) cvX11_297 q2 rfl rfl (Nat.le_of_ble_eq_true rfl) (Nat.le_of_ble_eq_true rfl) (gk_Run.post (fun o h2 z => ?_) hv)
  obtain ⟨v2, rfl, hv⟩ := z
  refine gk_istore_n (pc := 7) [(1, .int v2), (0, .ref o)] (DX11_read_0.at 3 rfl) rfl (Nat.le_of_ble_eq_true rfl) rfl ?_
  refine gk_iload_n (pc := 8) (DX11_read_0.at 4 rfl) 0 rfl rfl ?_
  refine gk_bipush (pc := 9) ((-5)) (DX11_read_0.at 5 rfl) cb_m5 ?_
  refine gk_icmp_ne (pc := 11) 21 (DX11_read_0.at 6 rfl) (by decide) (fun c => ?_) (fun c => ?_)
  · replace hv := hv.1 c
    refine gk_bipush (pc := 21) ((-100)) (DX11_read_0.at 10 rfl) cb_m100 ?_
    refine gk_iload_n (pc := 23) (DX11_read_0.at 11 rfl) 0 rfl rfl ?_
    refine gk_isub (pc := 24) (DX11_read_0.at 12 rfl) ?_
    refine gk_istore_n (pc := 25) [(2, .int (((-100)) - v2)), (1, .int v2), (0, .ref o)] (DX11_read_0.at 13 rfl) rfl (Nat.le_of_ble_eq_true rfl) rfl ?_
    refine gk_aload_n (pc := 26) (DX11_read_0.at 14 rfl) 2 rfl rfl ?_
    obtain ⟨fs3, v3, q3, r3, hv⟩ := hv
    refine gk_get (pc := 27) (.ref v3) (DX11_read_0.at 15 rfl) fX11_81_10 q3 r3 ?_
    refine gk_iconst (pc := 30) (nI 0) (DX11_read_0.at 16 rfl) ci_0 ?_
    obtain ⟨fs4, q4, r4, hv⟩ := hv
    refine gk_put (pc := 31) (DX11_read_0.at 17 rfl) fX11_293_9w q4 r4 rfl rfl ?_
    generalize h2.set _ _ = h4 at hv ⊢
    refine gk_iload_n (pc := 34) (DX11_read_0.at 18 rfl) 0 rfl rfl ?_
    exact gk_ireturn (pc := 35) .int (DX11_read_0.at 19 rfl) rfl rfl ⟨_, rfl, hv⟩
  · replace hv := hv.2 c
    refine gk_aload_n (pc := 14) (DX11_read_0.at 7 rfl) 1 rfl rfl ?_
    obtain ⟨⟨fs5, q5⟩, hv⟩ := hv
    refine gk_vV (pc := 15) [] [] (DX11_read_0.at 8 rfl) cvX11_300 q5 rfl rfl (Nat.le_of_ble_eq_true rfl) (Nat.le_of_ble_eq_true rfl) (gk_Run.post (fun o h5 z => ?_) hv)
    obtain ⟨v5, rfl, hv⟩ := z
    refine gk_goto (pc := 18) 25 (DX11_read_0.at 9 rfl) (by decide) ?_
    refine gk_istore_n (pc := 25) [(2, .int v5), (1, .int v2), (0, .ref o)] (DX11_read_0.at 13 rfl) rfl (Nat.le_of_ble_eq_true rfl) rfl ?_
    refine gk_aload_n (pc := 26) (DX11_read_0.at 14 rfl) 2 rfl rfl ?_
    obtain ⟨fs6, v6, q6, r6, hv⟩ := hv
    refine gk_get (pc := 27) (.ref v6) (DX11_read_0.at 15 rfl) fX11_81_10 q6 r6 ?_
    refine gk_iconst (pc := 30) (nI 0) (DX11_read_0.at 16 rfl) ci_0 ?_
    obtain ⟨fs7, q7, r7, hv⟩ := hv
    refine gk_put (pc := 31) (DX11_read_0.at 17 rfl) fX11_293_9w q7 r7 rfl rfl ?_
    generalize h5.set _ _ = h7 at hv ⊢
    refine gk_iload_n (pc := 34) (DX11_read_0.at 18 rfl) 0 rfl rfl ?_
    exact gk_ireturn (pc := 35) .int (DX11_read_0.at 19 rfl) rfl rfl ⟨_, rfl, hv⟩
set_option maxHeartbeats 4000000 in
theorem vX11_relabel_0 {E : gk_E} {dd : Nat} {o : Nat} {x1 : Int32} {x2 : Int32} {x3 : Int32} {x4 : Int32}  {h : gk_H} {K : Int32 → gk_H → Prop} (hv : (∃ fs, h[o]? = some (.inr (10, fs))) ∧ RnI E mX11_isNode (dd, 0, 0) [.ref o, .int x1, .int x2] h (fun v1 h1 => (v1 = 0 → K ((-1)) h1) ∧ (¬ v1 = 0 → (∃ fs, h1[o]? = some (.inr (10, fs))) ∧ RnI E mX11_isNode (dd, 0, 0) [.ref o, .int x1, .int x3] h1 (fun v2 h2 => (v2 = 0 → K ((-1)) h2) ∧ (¬ v2 = 0 → (x2 = x3 → K ((-1)) h2) ∧ (¬ x2 = x3 → (∃ fs, h2[o]? = some (.inr (10, fs))) ∧ RnI E mX11_isAtomButZero (dd, 0, 0) [.ref o, .int x4] h2 (fun v3 h3 => (¬ v3 = 0 → LdR h3 o 10 0 fun v4 => LdR h3 v4 7 1 fun v5 => AlR 5 h3 v5 x1 fun v6 => (∃ fs, h3[v6]? = some (.inr (3, fs))) ∧ RnI E mX3_at (dd, 0, 0) [.ref v6, .int x2, .int x3] h3 (fun v7 h7 => LdR h7 o 10 0 fun v8 => LdR h7 v8 7 1 fun v9 => AlR 5 h7 v9 x1 fun v10 => LdR h7 o 10 0 fun v11 => LdR h7 v11 7 0 fun v12 => (∃ fs, h7[v10]? = some (.inr (3, fs))) ∧ RnV E mX3_link (dd, 0, 0) [.ref v10, .int x2, .int x3, .int x4, .ref v12] h7 (fun h13 => K v7 h13))) ∧ (v3 = 0 → K ((-1)) h3)))))))) : RnI E mX11_relabel (dd + 1, 0, 0) [.ref o, .int x1, .int x2, .int x3, .int x4] h K := by
  show gk_G E mX11_relabel (dd + 1, 0, 0) 0 [(0, .ref o), (1, .int x1), (2, .int x2), (3, .int x3), (4, .int x4)] [] h (fun o h1 => ∃ v, o = some (.int v) ∧ K v h1)
  refine gk_aload_n (pc := 0) (DX11_relabel_0.at 0 rfl) 0 rfl rfl ?_
  refine gk_iload_n (pc := 1) (DX11_relabel_0.at 1 rfl) 1 rfl rfl ?_
  refine gk_iload_n (pc := 2) (DX11_relabel_0.at 2 rfl) 2 rfl rfl ?_
  obtain ⟨⟨fs1, q1⟩, hv⟩ := hv
  refine gk_vV (pc := 3) [.int x1, .int x2] [] (DX11_relabel_0.at 3 rfl) cvX11_195 q1 rfl rfl (Nat.le_of_ble_eq_true rfl) (Nat.le_of_ble_eq_true rfl) (gk_Run.post (fun o h1 z => ?_) hv)
  obtain ⟨v1, rfl, hv⟩ := z
  refine gk_if_eq (pc := 6) 32 (DX11_relabel_0.at 4 rfl) (by decide) (fun c => ?_) (fun c => ?_)
  · replace hv := hv.1 c
    refine gk_iconst (pc := 32) ((-1)) (DX11_relabel_0.at 17 rfl) ci_m1 ?_
    exact gk_ireturn (pc := 33) .int (DX11_relabel_0.at 18 rfl) rfl rfl ⟨_, rfl, hv⟩
  · replace hv := hv.2 c
    refine gk_aload_n (pc := 9) (DX11_relabel_0.at 5 rfl) 0 rfl rfl ?_
    refine gk_iload_n (pc := 10) (DX11_relabel_0.at 6 rfl) 1 rfl rfl ?_
    refine gk_iload_n (pc := 11) (DX11_relabel_0.at 7 rfl) 3 rfl rfl ?_
    obtain ⟨⟨fs2, q2⟩, hv⟩ := hv
    refine gk_vV (pc := 12) [.int x1, .int x3] [] (DX11_relabel_0.at 8 rfl) cvX11_195 q2 rfl rfl (Nat.le_of_ble_eq_true rfl) (Nat.le_of_ble_eq_true rfl) (gk_Run.post (fun o h2 z => ?_) hv)
    obtain ⟨v2, rfl, hv⟩ := z
    refine gk_if_eq (pc := 15) 32 (DX11_relabel_0.at 9 rfl) (by decide) (fun c => ?_) (fun c => ?_)
    · replace hv := hv.1 c
      refine gk_iconst (pc := 32) ((-1)) (DX11_relabel_0.at 17 rfl) ci_m1 ?_
      exact gk_ireturn (pc := 33) .int (DX11_relabel_0.at 18 rfl) rfl rfl ⟨_, rfl, hv⟩
    · replace hv := hv.2 c
      refine gk_iload_n (pc := 18) (DX11_relabel_0.at 10 rfl) 2 rfl rfl ?_
      refine gk_iload_n (pc := 19) (DX11_relabel_0.at 11 rfl) 3 rfl rfl ?_
      refine gk_icmp_eq (pc := 20) 32 (DX11_relabel_0.at 12 rfl) (by decide) (fun c => ?_) (fun c => ?_)
      · replace hv := hv.1 c
        refine gk_iconst (pc := 32) ((-1)) (DX11_relabel_0.at 17 rfl) ci_m1 ?_
        exact gk_ireturn (pc := 33) .int (DX11_relabel_0.at 18 rfl) rfl rfl ⟨_, rfl, hv⟩
      · replace hv := hv.2 c
        refine gk_aload_n (pc := 23) (DX11_relabel_0.at 13 rfl) 0 rfl rfl ?_
        refine gk_iload (pc := 24) (DX11_relabel_0.at 14 rfl) 4 rfl ?_
        obtain ⟨⟨fs3, q3⟩, hv⟩ := hv
        refine gk_vV (pc := 26) [.int x4] [] (DX11_relabel_0.at 15 rfl) cvX11_101 q3 rfl rfl (Nat.le_of_ble_eq_true rfl) (Nat.le_of_ble_eq_true rfl) (gk_Run.post (fun o h3 z => ?_) hv)
        obtain ⟨v3, rfl, hv⟩ := z
        refine gk_if_ne (pc := 29) 34 (DX11_relabel_0.at 16 rfl) (by decide) (fun c => ?_) (fun c => ?_)
        · replace hv := hv.1 c
          refine gk_aload_n (pc := 34) (DX11_relabel_0.at 19 rfl) 0 rfl rfl ?_
          obtain ⟨fs4, v4, q4, r4, hv⟩ := hv
          refine gk_get (pc := 35) (.ref v4) (DX11_relabel_0.at 20 rfl) fX11_12_10 q4 r4 ?_
          obtain ⟨fs5, v5, q5, r5, hv⟩ := hv
          refine gk_get (pc := 38) (.ref v5) (DX11_relabel_0.at 21 rfl) fX11_177_7 q5 r5 ?_
          refine gk_iload_n (pc := 41) (DX11_relabel_0.at 22 rfl) 1 rfl rfl ?_
          obtain ⟨n6, f6, v6, q6, r6, e6, hv⟩ := hv
          refine gk_aald5 (pc := 42) v6 (DX11_relabel_0.at 23 rfl) q6 r6 e6 ?_
          refine gk_iload_n (pc := 43) (DX11_relabel_0.at 24 rfl) 2 rfl rfl ?_
          refine gk_iload_n (pc := 44) (DX11_relabel_0.at 25 rfl) 3 rfl rfl ?_
          obtain ⟨⟨fs7, q7⟩, hv⟩ := hv
          refine gk_vV (pc := 45) [.int x2, .int x3] [] (DX11_relabel_0.at 26 rfl) cvX11_198 q7 rfl rfl (Nat.le_of_ble_eq_true rfl) (Nat.le_of_ble_eq_true rfl) (gk_Run.post (fun o h7 z => ?_) hv)
          obtain ⟨v7, rfl, hv⟩ := z
          refine gk_istore (pc := 48) [(5, .int v7), (0, .ref o), (1, .int x1), (2, .int x2), (3, .int x3), (4, .int x4)] (DX11_relabel_0.at 27 rfl) (Nat.le_of_ble_eq_true rfl) rfl ?_
          refine gk_aload_n (pc := 50) (DX11_relabel_0.at 28 rfl) 1 rfl rfl ?_
          obtain ⟨fs8, v8, q8, r8, hv⟩ := hv
          refine gk_get (pc := 51) (.ref v8) (DX11_relabel_0.at 29 rfl) fX11_12_10 q8 r8 ?_
          obtain ⟨fs9, v9, q9, r9, hv⟩ := hv
          refine gk_get (pc := 54) (.ref v9) (DX11_relabel_0.at 30 rfl) fX11_177_7 q9 r9 ?_
          refine gk_iload_n (pc := 57) (DX11_relabel_0.at 31 rfl) 2 rfl rfl ?_
          obtain ⟨n10, f10, v10, q10, r10, e10, hv⟩ := hv
          refine gk_aald5 (pc := 58) v10 (DX11_relabel_0.at 32 rfl) q10 r10 e10 ?_
          refine gk_iload_n (pc := 59) (DX11_relabel_0.at 33 rfl) 3 rfl rfl ?_
          refine gk_iload_n (pc := 60) (DX11_relabel_0.at 34 rfl) 4 rfl rfl ?_
          refine gk_iload (pc := 61) (DX11_relabel_0.at 35 rfl) 5 rfl ?_
          refine gk_aload_n (pc := 63) (DX11_relabel_0.at 36 rfl) 1 rfl rfl ?_
          obtain ⟨fs11, v11, q11, r11, hv⟩ := hv
          refine gk_get (pc := 64) (.ref v11) (DX11_relabel_0.at 37 rfl) fX11_12_10 q11 r11 ?_
          obtain ⟨fs12, v12, q12, r12, hv⟩ := hv
          refine gk_get (pc := 67) (.ref v12) (DX11_relabel_0.at 38 rfl) fX11_52_7 q12 r12 ?_
          obtain ⟨⟨fs13, q13⟩, hv⟩ := hv
          refine gk_vV (pc := 70) [.int x2, .int x3, .int x4, .ref v12] [] (DX11_relabel_0.at 39 rfl) cvX11_201 q13 rfl rfl (Nat.le_of_ble_eq_true rfl) (Nat.le_of_ble_eq_true rfl) (gk_Run.post (fun o h13 z => ?_) hv)
          obtain ⟨rfl, hv⟩ := z
          refine gk_iload (pc := 73) (DX11_relabel_0.at 40 rfl) 0 rfl ?_
          exact gk_ireturn (pc := 75) .int (DX11_relabel_0.at 41 rfl) rfl rfl ⟨_, rfl, hv⟩
        · replace hv := hv.2 c
          refine gk_iconst (pc := 32) ((-1)) (DX11_relabel_0.at 17 rfl) ci_m1 ?_
          exact gk_ireturn (pc := 33) .int (DX11_relabel_0.at 18 rfl) rfl rfl ⟨_, rfl, hv⟩
set_option maxHeartbeats 4000000 in
theorem vX11_solved_0 {E : gk_E} {dd : Nat} {o : Nat} {x1 : Int32} {x2 : Int32} {x3 : Int32} {x4 : Int32}  {h : gk_H} {K : Int32 → gk_H → Prop} (hv : (∃ fs, h[o]? = some (.inr (10, fs))) ∧ RnI E mX11_isRelation (dd, 0, 0) [.ref o, .int x1] h (fun v1 h1 => (v1 = 0 → K ((-2)) h1) ∧ (¬ v1 = 0 → (∃ fs, h1[o]? = some (.inr (10, fs))) ∧ RnI E mX11_isRelation (dd, 0, 0) [.ref o, .int x2] h1 (fun v2 h2 => (v2 = 0 → K ((-2)) h2) ∧ (¬ v2 = 0 → RnI E mX11_isSide (dd, 0, 0) [.int x3] h2 (fun v3 h3 => (¬ v3 = 0 → (x4 < 0 → K ((-1)) h3) ∧ (¬ x4 < 0 → (x4 ≤ (nI 2) → LdR h3 o 10 0 fun v4 => LdR h3 v4 7 0 fun v5 => (∃ fs, h3[v5]? = some (.inr (8, fs))) ∧ RnI E mX8_solutions (dd, 0, 0) [.ref v5, .int x1, .int x2, .int x3, .int x4] h3 (fun v6 h6 => K v6 h6)) ∧ (¬ x4 ≤ (nI 2) → K ((-1)) h3))) ∧ (v3 = 0 → K ((-2)) h3))))))) : RnI E mX11_solved (dd + 1, 0, 0) [.ref o, .int x1, .int x2, .int x3, .int x4] h K := by
  show gk_G E mX11_solved (dd + 1, 0, 0) 0 [(0, .ref o), (1, .int x1), (2, .int x2), (3, .int x3), (4, .int x4)] [] h (fun o h1 => ∃ v, o = some (.int v) ∧ K v h1)
  refine gk_aload_n (pc := 0) (DX11_solved_0.at 0 rfl) 0 rfl rfl ?_
  refine gk_iload_n (pc := 1) (DX11_solved_0.at 1 rfl) 1 rfl rfl ?_
  obtain ⟨⟨fs1, q1⟩, hv⟩ := hv
  refine gk_vV (pc := 2) [.int x1] [] (DX11_solved_0.at 2 rfl) cvX11_113 q1 rfl rfl (Nat.le_of_ble_eq_true rfl) (Nat.le_of_ble_eq_true rfl) (gk_Run.post (fun o h1 z => ?_) hv)
  obtain ⟨v1, rfl, hv⟩ := z
  refine gk_if_eq (pc := 5) 23 (DX11_solved_0.at 3 rfl) (by decide) (fun c => ?_) (fun c => ?_)
  · replace hv := hv.1 c
    refine gk_bipush (pc := 23) ((-2)) (DX11_solved_0.at 11 rfl) cb_m2 ?_
    exact gk_ireturn (pc := 25) .int (DX11_solved_0.at 12 rfl) rfl rfl ⟨_, rfl, hv⟩
  · replace hv := hv.2 c
    refine gk_aload_n (pc := 8) (DX11_solved_0.at 4 rfl) 0 rfl rfl ?_
    refine gk_iload_n (pc := 9) (DX11_solved_0.at 5 rfl) 2 rfl rfl ?_
    obtain ⟨⟨fs2, q2⟩, hv⟩ := hv
    refine gk_vV (pc := 10) [.int x2] [] (DX11_solved_0.at 6 rfl) cvX11_113 q2 rfl rfl (Nat.le_of_ble_eq_true rfl) (Nat.le_of_ble_eq_true rfl) (gk_Run.post (fun o h2 z => ?_) hv)
    obtain ⟨v2, rfl, hv⟩ := z
    refine gk_if_eq (pc := 13) 23 (DX11_solved_0.at 7 rfl) (by decide) (fun c => ?_) (fun c => ?_)
    · replace hv := hv.1 c
      refine gk_bipush (pc := 23) ((-2)) (DX11_solved_0.at 11 rfl) cb_m2 ?_
      exact gk_ireturn (pc := 25) .int (DX11_solved_0.at 12 rfl) rfl rfl ⟨_, rfl, hv⟩
    · replace hv := hv.2 c
      refine gk_iload_n (pc := 16) (DX11_solved_0.at 8 rfl) 3 rfl rfl ?_
      refine gk_vS (pc := 17) [.int x3] [] (DX11_solved_0.at 9 rfl) csX11_135 rfl rfl (Nat.le_of_ble_eq_true rfl) (Nat.le_of_ble_eq_true rfl) (gk_Run.post (fun o h3 z => ?_) hv)
      obtain ⟨v3, rfl, hv⟩ := z
      refine gk_if_ne (pc := 20) 26 (DX11_solved_0.at 10 rfl) (by decide) (fun c => ?_) (fun c => ?_)
      · replace hv := hv.1 c
        refine gk_iload (pc := 26) (DX11_solved_0.at 13 rfl) 4 rfl ?_
        refine gk_if_lt (pc := 28) 37 (DX11_solved_0.at 14 rfl) (by decide) (fun c => ?_) (fun c => ?_)
        · replace hv := hv.1 c
          refine gk_iconst (pc := 37) ((-1)) (DX11_solved_0.at 18 rfl) ci_m1 ?_
          exact gk_ireturn (pc := 38) .int (DX11_solved_0.at 19 rfl) rfl rfl ⟨_, rfl, hv⟩
        · replace hv := hv.2 c
          refine gk_iload (pc := 31) (DX11_solved_0.at 15 rfl) 4 rfl ?_
          refine gk_iconst (pc := 33) (nI 2) (DX11_solved_0.at 16 rfl) ci_2 ?_
          refine gk_icmp_le (pc := 34) 39 (DX11_solved_0.at 17 rfl) (by decide) (fun c => ?_) (fun c => ?_)
          · replace hv := hv.1 c
            refine gk_aload_n (pc := 39) (DX11_solved_0.at 20 rfl) 0 rfl rfl ?_
            obtain ⟨fs4, v4, q4, r4, hv⟩ := hv
            refine gk_get (pc := 40) (.ref v4) (DX11_solved_0.at 21 rfl) fX11_12_10 q4 r4 ?_
            obtain ⟨fs5, v5, q5, r5, hv⟩ := hv
            refine gk_get (pc := 43) (.ref v5) (DX11_solved_0.at 22 rfl) fX11_52_7 q5 r5 ?_
            refine gk_iload_n (pc := 46) (DX11_solved_0.at 23 rfl) 1 rfl rfl ?_
            refine gk_iload_n (pc := 47) (DX11_solved_0.at 24 rfl) 2 rfl rfl ?_
            refine gk_iload_n (pc := 48) (DX11_solved_0.at 25 rfl) 3 rfl rfl ?_
            refine gk_iload (pc := 49) (DX11_solved_0.at 26 rfl) 4 rfl ?_
            obtain ⟨⟨fs6, q6⟩, hv⟩ := hv
            refine gk_vV (pc := 51) [.int x1, .int x2, .int x3, .int x4] [] (DX11_solved_0.at 27 rfl) cvX11_152 q6 rfl rfl (Nat.le_of_ble_eq_true rfl) (Nat.le_of_ble_eq_true rfl) (gk_Run.post (fun o h6 z => ?_) hv)
            obtain ⟨v6, rfl, hv⟩ := z
            exact gk_ireturn (pc := 54) .int (DX11_solved_0.at 28 rfl) rfl rfl ⟨_, rfl, hv⟩
          · replace hv := hv.2 c
            refine gk_iconst (pc := 37) ((-1)) (DX11_solved_0.at 18 rfl) ci_m1 ?_
            exact gk_ireturn (pc := 38) .int (DX11_solved_0.at 19 rfl) rfl rfl ⟨_, rfl, hv⟩
      · replace hv := hv.2 c
        refine gk_bipush (pc := 23) ((-2)) (DX11_solved_0.at 11 rfl) cb_m2 ?_
        exact gk_ireturn (pc := 25) .int (DX11_solved_0.at 12 rfl) rfl rfl ⟨_, rfl, hv⟩
set_option maxHeartbeats 4000000 in
theorem vX11_sound_0 {E : gk_E} {dd : Nat} {o : Nat} {x1 : Int32}  {h : gk_H} {K : Int32 → gk_H → Prop} (hv : RnI E mX11_isNet (dd, 0, 0) [.int x1] h (fun v1 h1 => (v1 = 0 → K ((-1)) h1) ∧ (¬ v1 = 0 → LdR h1 o 10 0 fun v2 => LdR h1 v2 7 1 fun v3 => AlR 5 h1 v3 x1 fun v4 => LdR h1 o 10 0 fun v5 => LdR h1 v5 7 0 fun v6 => (∃ fs, h1[v4]? = some (.inr (3, fs))) ∧ RnI E mX3_unsound (dd, 0, 0) [.ref v4, .ref v6] h1 (fun v7 h7 => K v7 h7)))) : RnI E mX11_sound (dd + 1, 0, 0) [.ref o, .int x1] h K := by
  show gk_G E mX11_sound (dd + 1, 0, 0) 0 [(0, .ref o), (1, .int x1)] [] h (fun o h1 => ∃ v, o = some (.int v) ∧ K v h1)
  refine gk_iload_n (pc := 0) (DX11_sound_0.at 0 rfl) 1 rfl rfl ?_
  refine gk_vS (pc := 1) [.int x1] [] (DX11_sound_0.at 1 rfl) csX11_174 rfl rfl (Nat.le_of_ble_eq_true rfl) (Nat.le_of_ble_eq_true rfl) (gk_Run.post (fun o h1 z => ?_) hv)
  obtain ⟨v1, rfl, hv⟩ := z
  refine gk_if_eq (pc := 4) 29 (DX11_sound_0.at 2 rfl) (by decide) (fun c => ?_) (fun c => ?_)
  · replace hv := hv.1 c
    refine gk_iconst (pc := 29) ((-1)) (DX11_sound_0.at 13 rfl) ci_m1 ?_
    exact gk_ireturn (pc := 30) .int (DX11_sound_0.at 14 rfl) rfl rfl ⟨_, rfl, hv⟩
  · replace hv := hv.2 c
    refine gk_aload_n (pc := 7) (DX11_sound_0.at 3 rfl) 0 rfl rfl ?_
    obtain ⟨fs2, v2, q2, r2, hv⟩ := hv
    refine gk_get (pc := 8) (.ref v2) (DX11_sound_0.at 4 rfl) fX11_12_10 q2 r2 ?_
    obtain ⟨fs3, v3, q3, r3, hv⟩ := hv
    refine gk_get (pc := 11) (.ref v3) (DX11_sound_0.at 5 rfl) fX11_177_7 q3 r3 ?_
    refine gk_iload_n (pc := 14) (DX11_sound_0.at 6 rfl) 1 rfl rfl ?_
    obtain ⟨n4, f4, v4, q4, r4, e4, hv⟩ := hv
    refine gk_aald5 (pc := 15) v4 (DX11_sound_0.at 7 rfl) q4 r4 e4 ?_
    refine gk_aload_n (pc := 16) (DX11_sound_0.at 8 rfl) 0 rfl rfl ?_
    obtain ⟨fs5, v5, q5, r5, hv⟩ := hv
    refine gk_get (pc := 17) (.ref v5) (DX11_sound_0.at 9 rfl) fX11_12_10 q5 r5 ?_
    obtain ⟨fs6, v6, q6, r6, hv⟩ := hv
    refine gk_get (pc := 20) (.ref v6) (DX11_sound_0.at 10 rfl) fX11_52_7 q6 r6 ?_
    obtain ⟨⟨fs7, q7⟩, hv⟩ := hv
    refine gk_vV (pc := 23) [.ref v6] [] (DX11_sound_0.at 11 rfl) cvX11_209 q7 rfl rfl (Nat.le_of_ble_eq_true rfl) (Nat.le_of_ble_eq_true rfl) (gk_Run.post (fun o h7 z => ?_) hv)
    obtain ⟨v7, rfl, hv⟩ := z
    refine gk_goto (pc := 26) 30 (DX11_sound_0.at 12 rfl) (by decide) ?_
    exact gk_ireturn (pc := 30) .int (DX11_sound_0.at 14 rfl) rfl rfl ⟨_, rfl, hv⟩
set_option maxHeartbeats 4000000 in
theorem vX11_spelled_0 {E : gk_E} {dd : Nat} {o : Nat} {x1 : Int32}  {h : gk_H} {K : Int32 → gk_H → Prop} (hv : (((-1)) ≤ x1 → LdR h o 10 11 fun v1 => LdR h o 10 0 fun v2 => LdR h v2 7 0 fun v3 => (∃ fs, h[v1]? = some (.inr (9, fs))) ∧ RnV E mX9_spell (dd, 0, 0) [.ref v1, .ref v3] h (fun h4 => (¬ x1 = ((-1)) → LdR h4 o 10 11 fun v5 => LdI h4 v5 9 0 fun v6 => (v6 ≤ x1 → K ((-1)) h4) ∧ (¬ v6 ≤ x1 → LdR h4 o 10 11 fun v7 => LdR h4 v7 9 1 fun v8 => AlB h4 v8 x1 fun v9 => K v9 h4)) ∧ (x1 = ((-1)) → LdR h4 o 10 11 fun v10 => LdI h4 v10 9 0 fun v11 => K v11 h4))) ∧ (¬ ((-1)) ≤ x1 → K ((-1)) h)) : RnI E mX11_spelled (dd + 1, 0, 0) [.ref o, .int x1] h K := by
  show gk_G E mX11_spelled (dd + 1, 0, 0) 0 [(0, .ref o), (1, .int x1)] [] h (fun o h1 => ∃ v, o = some (.int v) ∧ K v h1)
  refine gk_iload_n (pc := 0) (DX11_spelled_0.at 0 rfl) 1 rfl rfl ?_
  refine gk_iconst (pc := 1) ((-1)) (DX11_spelled_0.at 1 rfl) ci_m1 ?_
  refine gk_icmp_ge (pc := 2) 7 (DX11_spelled_0.at 2 rfl) (by decide) (fun c => ?_) (fun c => ?_)
  · replace hv := hv.1 c
    refine gk_aload_n (pc := 7) (DX11_spelled_0.at 5 rfl) 0 rfl rfl ?_
    obtain ⟨fs1, v1, q1, r1, hv⟩ := hv
    refine gk_get (pc := 8) (.ref v1) (DX11_spelled_0.at 6 rfl) fX11_85_10 q1 r1 ?_
    refine gk_aload_n (pc := 11) (DX11_spelled_0.at 7 rfl) 0 rfl rfl ?_
    obtain ⟨fs2, v2, q2, r2, hv⟩ := hv
    refine gk_get (pc := 12) (.ref v2) (DX11_spelled_0.at 8 rfl) fX11_12_10 q2 r2 ?_
    obtain ⟨fs3, v3, q3, r3, hv⟩ := hv
    refine gk_get (pc := 15) (.ref v3) (DX11_spelled_0.at 9 rfl) fX11_52_7 q3 r3 ?_
    obtain ⟨⟨fs4, q4⟩, hv⟩ := hv
    refine gk_vV (pc := 18) [.ref v3] [] (DX11_spelled_0.at 10 rfl) cvX11_303 q4 rfl rfl (Nat.le_of_ble_eq_true rfl) (Nat.le_of_ble_eq_true rfl) (gk_Run.post (fun o h4 z => ?_) hv)
    obtain ⟨rfl, hv⟩ := z
    refine gk_iload_n (pc := 21) (DX11_spelled_0.at 11 rfl) 1 rfl rfl ?_
    refine gk_iconst (pc := 22) ((-1)) (DX11_spelled_0.at 12 rfl) ci_m1 ?_
    refine gk_icmp_ne (pc := 23) 34 (DX11_spelled_0.at 13 rfl) (by decide) (fun c => ?_) (fun c => ?_)
    · replace hv := hv.1 c
      refine gk_iload_n (pc := 34) (DX11_spelled_0.at 18 rfl) 1 rfl rfl ?_
      refine gk_aload_n (pc := 35) (DX11_spelled_0.at 19 rfl) 0 rfl rfl ?_
      obtain ⟨fs5, v5, q5, r5, hv⟩ := hv
      refine gk_get (pc := 36) (.ref v5) (DX11_spelled_0.at 20 rfl) fX11_85_10 q5 r5 ?_
      obtain ⟨fs6, v6, q6, r6, hv⟩ := hv
      refine gk_get (pc := 39) (.int v6) (DX11_spelled_0.at 21 rfl) fX11_293_9 q6 r6 ?_
      refine gk_icmp_ge (pc := 42) 57 (DX11_spelled_0.at 22 rfl) (by decide) (fun c => ?_) (fun c => ?_)
      · replace hv := hv.1 c
        refine gk_iconst (pc := 57) ((-1)) (DX11_spelled_0.at 29 rfl) ci_m1 ?_
        exact gk_ireturn (pc := 58) .int (DX11_spelled_0.at 30 rfl) rfl rfl ⟨_, rfl, hv⟩
      · replace hv := hv.2 c
        refine gk_aload_n (pc := 45) (DX11_spelled_0.at 23 rfl) 0 rfl rfl ?_
        obtain ⟨fs7, v7, q7, r7, hv⟩ := hv
        refine gk_get (pc := 46) (.ref v7) (DX11_spelled_0.at 24 rfl) fX11_85_10 q7 r7 ?_
        obtain ⟨fs8, v8, q8, r8, hv⟩ := hv
        refine gk_get (pc := 49) (.ref v8) (DX11_spelled_0.at 25 rfl) fX11_306_9 q8 r8 ?_
        refine gk_iload_n (pc := 52) (DX11_spelled_0.at 26 rfl) 1 rfl rfl ?_
        obtain ⟨n9, f9, q9, r9, hv⟩ := hv
        refine gk_bald (pc := 53) (DX11_spelled_0.at 27 rfl) q9 r9 ?_
        generalize f9 _ = v9 at hv ⊢
        refine gk_goto (pc := 54) 58 (DX11_spelled_0.at 28 rfl) (by decide) ?_
        exact gk_ireturn (pc := 58) .int (DX11_spelled_0.at 30 rfl) rfl rfl ⟨_, rfl, hv⟩
    · replace hv := hv.2 c
      refine gk_aload_n (pc := 26) (DX11_spelled_0.at 14 rfl) 0 rfl rfl ?_
      obtain ⟨fs10, v10, q10, r10, hv⟩ := hv
      refine gk_get (pc := 27) (.ref v10) (DX11_spelled_0.at 15 rfl) fX11_85_10 q10 r10 ?_
      obtain ⟨fs11, v11, q11, r11, hv⟩ := hv
      refine gk_get (pc := 30) (.int v11) (DX11_spelled_0.at 16 rfl) fX11_293_9 q11 r11 ?_
      exact gk_ireturn (pc := 33) .int (DX11_spelled_0.at 17 rfl) rfl rfl ⟨_, rfl, hv⟩
  · replace hv := hv.2 c
    refine gk_iconst (pc := 5) ((-1)) (DX11_spelled_0.at 3 rfl) ci_m1 ?_
    exact gk_ireturn (pc := 6) .int (DX11_spelled_0.at 4 rfl) rfl rfl ⟨_, rfl, hv⟩
set_option maxHeartbeats 4000000 in
theorem vX11_statement_0 {E : gk_E} {dd : Nat} {o : Nat} {x1 : Int32} {x2 : Int32}  {h : gk_H} {K : Int32 → gk_H → Prop} (hv : LdR h o 10 10 fun v1 => (∃ fs, h[v1]? = some (.inr (9, fs))) ∧ RnI E mX9_figure (dd, 0, 0) [.ref v1, .int (x2 + (nI 1))] h (fun v2 h2 => LdR h2 o 10 10 fun v3 => (∃ fs, h2[v3]? = some (.inr (9, fs))) ∧ RnI E mX9_figure (dd, 0, 0) [.ref v3, .int (x2 + (nI 3))] h2 (fun v4 h4 => LdR h4 o 10 10 fun v5 => (∃ fs, h4[v5]? = some (.inr (9, fs))) ∧ RnI E mX9_figure (dd, 0, 0) [.ref v5, .int (x2 + (nI 5))] h4 (fun v6 h6 => (((x1 = nI 0 → (∃ fs, h6[o]? = some (.inr (10, fs))) ∧ RnI E mX11_atoms (dd, 0, 0) [.ref o, .int v2] h6 (fun v7 h7 => K v7 h7)) ∧ (x1 = nI 1 → (∃ fs, h6[o]? = some (.inr (10, fs))) ∧ RnI E mX11_pair (dd, 0, 0) [.ref o, .int v2, .int v4] h6 (fun v8 h8 => K v8 h8)) ∧ (x1 = nI 2 → (∃ fs, h6[o]? = some (.inr (10, fs))) ∧ RnI E mX11_triangle (dd, 0, 0) [.ref o, .int v2, .int v4, .int v6, .int (nI 1)] h6 (fun v9 h9 => K v9 h9)) ∧ (x1 = nI 3 → (∃ fs, h6[o]? = some (.inr (10, fs))) ∧ RnI E mX11_triangle (dd, 0, 0) [.ref o, .int v2, .int v4, .int v6, .int (nI 0)] h6 (fun v10 h10 => K v10 h10))) ∧ ((∀ k : Nat, k < 4 → ¬ x1 = nI k) → K ((-2)) h6)))))) : RnI E mX11_statement (dd + 1, 0, 0) [.ref o, .int x1, .int x2] h K := by
  show gk_G E mX11_statement (dd + 1, 0, 0) 0 [(0, .ref o), (1, .int x1), (2, .int x2)] [] h (fun o h1 => ∃ v, o = some (.int v) ∧ K v h1)
  refine gk_aload_n (pc := 0) (DX11_statement_0.at 0 rfl) 0 rfl rfl ?_
  obtain ⟨fs1, v1, q1, r1, hv⟩ := hv
  refine gk_get (pc := 1) (.ref v1) (DX11_statement_0.at 1 rfl) fX11_81_10 q1 r1 ?_
  refine gk_iload_n (pc := 4) (DX11_statement_0.at 2 rfl) 2 rfl rfl ?_
  refine gk_iconst (pc := 5) (nI 1) (DX11_statement_0.at 3 rfl) ci_1 ?_
  refine gk_iadd (pc := 6) (DX11_statement_0.at 4 rfl) ?_
  obtain ⟨⟨fs2, q2⟩, hv⟩ := hv
  refine gk_vV (pc := 7) [.int (x2 + (nI 1))] [] (DX11_statement_0.at 5 rfl) cvX11_333 q2 rfl rfl (Nat.le_of_ble_eq_true rfl) (Nat.le_of_ble_eq_true rfl) (gk_Run.post (fun o h2 z => ?_) hv)
  obtain ⟨v2, rfl, hv⟩ := z
  refine gk_istore_n (pc := 10) [(3, .int v2), (0, .ref o), (1, .int x1), (2, .int x2)] (DX11_statement_0.at 6 rfl) rfl (Nat.le_of_ble_eq_true rfl) rfl ?_
  refine gk_aload_n (pc := 11) (DX11_statement_0.at 7 rfl) 1 rfl rfl ?_
  obtain ⟨fs3, v3, q3, r3, hv⟩ := hv
  refine gk_get (pc := 12) (.ref v3) (DX11_statement_0.at 8 rfl) fX11_81_10 q3 r3 ?_
  refine gk_iload_n (pc := 15) (DX11_statement_0.at 9 rfl) 3 rfl rfl ?_
  refine gk_iconst (pc := 16) (nI 3) (DX11_statement_0.at 10 rfl) ci_3 ?_
  refine gk_iadd (pc := 17) (DX11_statement_0.at 11 rfl) ?_
  obtain ⟨⟨fs4, q4⟩, hv⟩ := hv
  refine gk_vV (pc := 18) [.int (x2 + (nI 3))] [] (DX11_statement_0.at 12 rfl) cvX11_333 q4 rfl rfl (Nat.le_of_ble_eq_true rfl) (Nat.le_of_ble_eq_true rfl) (gk_Run.post (fun o h4 z => ?_) hv)
  obtain ⟨v4, rfl, hv⟩ := z
  refine gk_istore (pc := 21) [(4, .int v4), (3, .int v2), (0, .ref o), (1, .int x1), (2, .int x2)] (DX11_statement_0.at 13 rfl) (Nat.le_of_ble_eq_true rfl) rfl ?_
  refine gk_aload_n (pc := 23) (DX11_statement_0.at 14 rfl) 2 rfl rfl ?_
  obtain ⟨fs5, v5, q5, r5, hv⟩ := hv
  refine gk_get (pc := 24) (.ref v5) (DX11_statement_0.at 15 rfl) fX11_81_10 q5 r5 ?_
  refine gk_iload_n (pc := 27) (DX11_statement_0.at 16 rfl) 4 rfl rfl ?_
  refine gk_iconst (pc := 28) (nI 5) (DX11_statement_0.at 17 rfl) ci_5 ?_
  refine gk_iadd (pc := 29) (DX11_statement_0.at 18 rfl) ?_
  obtain ⟨⟨fs6, q6⟩, hv⟩ := hv
  refine gk_vV (pc := 30) [.int (x2 + (nI 5))] [] (DX11_statement_0.at 19 rfl) cvX11_333 q6 rfl rfl (Nat.le_of_ble_eq_true rfl) (Nat.le_of_ble_eq_true rfl) (gk_Run.post (fun o h6 z => ?_) hv)
  obtain ⟨v6, rfl, hv⟩ := z
  refine gk_istore (pc := 33) [(5, .int v6), (4, .int v4), (3, .int v2), (0, .ref o), (1, .int x1), (2, .int x2)] (DX11_statement_0.at 20 rfl) (Nat.le_of_ble_eq_true rfl) rfl ?_
  refine gk_iload_n (pc := 35) (DX11_statement_0.at 21 rfl) 4 rfl rfl ?_
  refine gk_tsw (pc := 36) (n := 4) (fun k => [68, 74, 82, 93].getD k 0) 104 (DX11_statement_0.at 22 rfl) (by decide +kernel) (by decide) (by decide) (by decide) (by decide) (fun k hk c => ?_) (fun c => ?_)
  · replace hv := hv.1
    match k, hk, c with
    | 0, _, c =>
      replace hv := hv.1 c
      refine gk_aload_n (pc := 68) (DX11_statement_0.at 23 rfl) 3 rfl rfl ?_
      refine gk_iload_n (pc := 69) (DX11_statement_0.at 24 rfl) 2 rfl rfl ?_
      obtain ⟨⟨fs7, q7⟩, hv⟩ := hv
      refine gk_vV (pc := 70) [.int v2] [] (DX11_statement_0.at 25 rfl) cvX11_336 q7 rfl rfl (Nat.le_of_ble_eq_true rfl) (Nat.le_of_ble_eq_true rfl) (gk_Run.post (fun o h7 z => ?_) hv)
      obtain ⟨v7, rfl, hv⟩ := z
      exact gk_ireturn (pc := 73) .int (DX11_statement_0.at 26 rfl) rfl rfl ⟨_, rfl, hv⟩
    | 1, _, c =>
      replace hv := hv.2.1 c
      refine gk_aload_n (pc := 74) (DX11_statement_0.at 27 rfl) 3 rfl rfl ?_
      refine gk_iload_n (pc := 75) (DX11_statement_0.at 28 rfl) 2 rfl rfl ?_
      refine gk_iload (pc := 76) (DX11_statement_0.at 29 rfl) 1 rfl ?_
      obtain ⟨⟨fs8, q8⟩, hv⟩ := hv
      refine gk_vV (pc := 78) [.int v2, .int v4] [] (DX11_statement_0.at 30 rfl) cvX11_339 q8 rfl rfl (Nat.le_of_ble_eq_true rfl) (Nat.le_of_ble_eq_true rfl) (gk_Run.post (fun o h8 z => ?_) hv)
      obtain ⟨v8, rfl, hv⟩ := z
      exact gk_ireturn (pc := 81) .int (DX11_statement_0.at 31 rfl) rfl rfl ⟨_, rfl, hv⟩
    | 2, _, c =>
      replace hv := hv.2.2.1 c
      refine gk_aload_n (pc := 82) (DX11_statement_0.at 32 rfl) 3 rfl rfl ?_
      refine gk_iload_n (pc := 83) (DX11_statement_0.at 33 rfl) 2 rfl rfl ?_
      refine gk_iload (pc := 84) (DX11_statement_0.at 34 rfl) 1 rfl ?_
      refine gk_iload (pc := 86) (DX11_statement_0.at 35 rfl) 0 rfl ?_
      refine gk_iconst (pc := 88) (nI 1) (DX11_statement_0.at 36 rfl) ci_1 ?_
      obtain ⟨⟨fs9, q9⟩, hv⟩ := hv
      refine gk_vV (pc := 89) [.int v2, .int v4, .int v6, .int (nI 1)] [] (DX11_statement_0.at 37 rfl) cvX11_342 q9 rfl rfl (Nat.le_of_ble_eq_true rfl) (Nat.le_of_ble_eq_true rfl) (gk_Run.post (fun o h9 z => ?_) hv)
      obtain ⟨v9, rfl, hv⟩ := z
      exact gk_ireturn (pc := 92) .int (DX11_statement_0.at 38 rfl) rfl rfl ⟨_, rfl, hv⟩
    | 3, _, c =>
      replace hv := hv.2.2.2 c
      refine gk_aload_n (pc := 93) (DX11_statement_0.at 39 rfl) 3 rfl rfl ?_
      refine gk_iload_n (pc := 94) (DX11_statement_0.at 40 rfl) 2 rfl rfl ?_
      refine gk_iload (pc := 95) (DX11_statement_0.at 41 rfl) 1 rfl ?_
      refine gk_iload (pc := 97) (DX11_statement_0.at 42 rfl) 0 rfl ?_
      refine gk_iconst (pc := 99) (nI 0) (DX11_statement_0.at 43 rfl) ci_0 ?_
      obtain ⟨⟨fs10, q10⟩, hv⟩ := hv
      refine gk_vV (pc := 100) [.int v2, .int v4, .int v6, .int (nI 0)] [] (DX11_statement_0.at 44 rfl) cvX11_342 q10 rfl rfl (Nat.le_of_ble_eq_true rfl) (Nat.le_of_ble_eq_true rfl) (gk_Run.post (fun o h10 z => ?_) hv)
      obtain ⟨v10, rfl, hv⟩ := z
      exact gk_ireturn (pc := 103) .int (DX11_statement_0.at 45 rfl) rfl rfl ⟨_, rfl, hv⟩
    | k + 4, hk, _ => exact absurd hk (by omega)
  · replace hv := hv.2 c
    refine gk_bipush (pc := 104) ((-2)) (DX11_statement_0.at 46 rfl) cb_m2 ?_
    exact gk_ireturn (pc := 106) .int (DX11_statement_0.at 47 rfl) rfl rfl ⟨_, rfl, hv⟩
set_option maxHeartbeats 4000000 in
theorem vX11_take_0 {E : gk_E} {dd : Nat} {o : Nat} {x1 : Int32}  {h : gk_H} {K : Int32 → gk_H → Prop} (hv : RnI E mX11_isNet (dd, 0, 0) [.int x1] h (fun v1 h1 => (¬ v1 = 0 → LdR h1 o 10 6 fun v2 => LdI h1 v2 0 1 fun v3 => (¬ v3 = 0 → LdR h1 o 10 0 fun v4 => LdR h1 v4 7 1 fun v5 => AlR 5 h1 v5 x1 fun v6 => LdR h1 o 10 6 fun v7 => LdR h1 v7 0 2 fun v8 => (∃ fs, h1[v6]? = some (.inr (3, fs))) ∧ RnV E mX3_become (dd, 0, 0) [.ref v6, .ref v8] h1 (fun h9 => LdR h9 o 10 6 fun v10 => LdR h9 v10 0 2 fun v11 => LdI h9 v11 3 0 fun v12 => K v12 h9)) ∧ (v3 = 0 → K ((-3)) h1)) ∧ (v1 = 0 → K ((-1)) h1))) : RnI E mX11_take (dd + 1, 0, 0) [.ref o, .int x1] h K := by
  show gk_G E mX11_take (dd + 1, 0, 0) 0 [(0, .ref o), (1, .int x1)] [] h (fun o h1 => ∃ v, o = some (.int v) ∧ K v h1)
  refine gk_iload_n (pc := 0) (DX11_take_0.at 0 rfl) 1 rfl rfl ?_
  refine gk_vS (pc := 1) [.int x1] [] (DX11_take_0.at 1 rfl) csX11_174 rfl rfl (Nat.le_of_ble_eq_true rfl) (Nat.le_of_ble_eq_true rfl) (gk_Run.post (fun o h1 z => ?_) hv)
  obtain ⟨v1, rfl, hv⟩ := z
  refine gk_if_ne (pc := 4) 9 (DX11_take_0.at 2 rfl) (by decide) (fun c => ?_) (fun c => ?_)
  · replace hv := hv.1 c
    refine gk_aload_n (pc := 9) (DX11_take_0.at 5 rfl) 0 rfl rfl ?_
    obtain ⟨fs2, v2, q2, r2, hv⟩ := hv
    refine gk_get (pc := 10) (.ref v2) (DX11_take_0.at 6 rfl) fX11_59_10 q2 r2 ?_
    obtain ⟨fs3, v3, q3, r3, hv⟩ := hv
    refine gk_get (pc := 13) (.int v3) (DX11_take_0.at 7 rfl) fX11_255_0 q3 r3 ?_
    refine gk_if_ne (pc := 16) 22 (DX11_take_0.at 8 rfl) (by decide) (fun c => ?_) (fun c => ?_)
    · replace hv := hv.1 c
      refine gk_aload_n (pc := 22) (DX11_take_0.at 11 rfl) 0 rfl rfl ?_
      obtain ⟨fs4, v4, q4, r4, hv⟩ := hv
      refine gk_get (pc := 23) (.ref v4) (DX11_take_0.at 12 rfl) fX11_12_10 q4 r4 ?_
      obtain ⟨fs5, v5, q5, r5, hv⟩ := hv
      refine gk_get (pc := 26) (.ref v5) (DX11_take_0.at 13 rfl) fX11_177_7 q5 r5 ?_
      refine gk_iload_n (pc := 29) (DX11_take_0.at 14 rfl) 1 rfl rfl ?_
      obtain ⟨n6, f6, v6, q6, r6, e6, hv⟩ := hv
      refine gk_aald5 (pc := 30) v6 (DX11_take_0.at 15 rfl) q6 r6 e6 ?_
      refine gk_aload_n (pc := 31) (DX11_take_0.at 16 rfl) 0 rfl rfl ?_
      obtain ⟨fs7, v7, q7, r7, hv⟩ := hv
      refine gk_get (pc := 32) (.ref v7) (DX11_take_0.at 17 rfl) fX11_59_10 q7 r7 ?_
      obtain ⟨fs8, v8, q8, r8, hv⟩ := hv
      refine gk_get (pc := 35) (.ref v8) (DX11_take_0.at 18 rfl) fX11_261_0 q8 r8 ?_
      obtain ⟨⟨fs9, q9⟩, hv⟩ := hv
      refine gk_vV (pc := 38) [.ref v8] [] (DX11_take_0.at 19 rfl) cvX11_205 q9 rfl rfl (Nat.le_of_ble_eq_true rfl) (Nat.le_of_ble_eq_true rfl) (gk_Run.post (fun o h9 z => ?_) hv)
      obtain ⟨rfl, hv⟩ := z
      refine gk_aload_n (pc := 41) (DX11_take_0.at 20 rfl) 0 rfl rfl ?_
      obtain ⟨fs10, v10, q10, r10, hv⟩ := hv
      refine gk_get (pc := 42) (.ref v10) (DX11_take_0.at 21 rfl) fX11_59_10 q10 r10 ?_
      obtain ⟨fs11, v11, q11, r11, hv⟩ := hv
      refine gk_get (pc := 45) (.ref v11) (DX11_take_0.at 22 rfl) fX11_261_0 q11 r11 ?_
      obtain ⟨fs12, v12, q12, r12, hv⟩ := hv
      refine gk_get (pc := 48) (.int v12) (DX11_take_0.at 23 rfl) fX11_181_3 q12 r12 ?_
      exact gk_ireturn (pc := 51) .int (DX11_take_0.at 24 rfl) rfl rfl ⟨_, rfl, hv⟩
    · replace hv := hv.2 c
      refine gk_bipush (pc := 19) ((-3)) (DX11_take_0.at 9 rfl) cb_m3 ?_
      exact gk_ireturn (pc := 21) .int (DX11_take_0.at 10 rfl) rfl rfl ⟨_, rfl, hv⟩
  · replace hv := hv.2 c
    refine gk_iconst (pc := 7) ((-1)) (DX11_take_0.at 3 rfl) ci_m1 ?_
    exact gk_ireturn (pc := 8) .int (DX11_take_0.at 4 rfl) rfl rfl ⟨_, rfl, hv⟩
set_option maxHeartbeats 4000000 in
theorem vX11_triangle_0 {E : gk_E} {dd : Nat} {o : Nat} {x1 : Int32} {x2 : Int32} {x3 : Int32} {x4 : Int32}  {h : gk_H} {K : Int32 → gk_H → Prop} (hv : (∃ fs, h[o]? = some (.inr (10, fs))) ∧ RnI E mX11_isAtom (dd, 0, 0) [.ref o, .int x1] h (fun v1 h1 => (v1 = 0 → K ((-1)) h1) ∧ (¬ v1 = 0 → (∃ fs, h1[o]? = some (.inr (10, fs))) ∧ RnI E mX11_isAtom (dd, 0, 0) [.ref o, .int x2] h1 (fun v2 h2 => (v2 = 0 → K ((-1)) h2) ∧ (¬ v2 = 0 → (∃ fs, h2[o]? = some (.inr (10, fs))) ∧ RnI E mX11_isAtom (dd, 0, 0) [.ref o, .int x3] h2 (fun v3 h3 => (¬ v3 = 0 → (x4 = 0 → (x1 = 0 → K ((-3)) h3) ∧ (¬ x1 = 0 → (x2 = 0 → K ((-3)) h3) ∧ (¬ x2 = 0 → (¬ x3 = 0 → LdR h3 o 10 0 fun v4 => LdR h3 v4 7 0 fun v5 => (¬ x4 = (nI 1) → (∃ fs, h3[v5]? = some (.inr (8, fs))) ∧ RnI E mX8_mark (dd, 0, 0) [.ref v5, .int x1, .int x2, .int x3, .int (nI 0)] h3 (fun v6 h6 => K v6 h6)) ∧ (x4 = (nI 1) → (∃ fs, h3[v5]? = some (.inr (8, fs))) ∧ RnI E mX8_mark (dd, 0, 0) [.ref v5, .int x1, .int x2, .int x3, .int (nI 1)] h3 (fun v7 h7 => K v7 h7))) ∧ (x3 = 0 → K ((-3)) h3)))) ∧ (¬ x4 = 0 → (x4 = (nI 1) → (x1 = 0 → K ((-3)) h3) ∧ (¬ x1 = 0 → (x2 = 0 → K ((-3)) h3) ∧ (¬ x2 = 0 → (¬ x3 = 0 → LdR h3 o 10 0 fun v8 => LdR h3 v8 7 0 fun v9 => (¬ x4 = (nI 1) → (∃ fs, h3[v9]? = some (.inr (8, fs))) ∧ RnI E mX8_mark (dd, 0, 0) [.ref v9, .int x1, .int x2, .int x3, .int (nI 0)] h3 (fun v10 h10 => K v10 h10)) ∧ (x4 = (nI 1) → (∃ fs, h3[v9]? = some (.inr (8, fs))) ∧ RnI E mX8_mark (dd, 0, 0) [.ref v9, .int x1, .int x2, .int x3, .int (nI 1)] h3 (fun v11 h11 => K v11 h11))) ∧ (x3 = 0 → K ((-3)) h3)))) ∧ (¬ x4 = (nI 1) → K ((-2)) h3))) ∧ (v3 = 0 → K ((-1)) h3))))))) : RnI E mX11_triangle (dd + 1, 0, 0) [.ref o, .int x1, .int x2, .int x3, .int x4] h K := by
  show gk_G E mX11_triangle (dd + 1, 0, 0) 0 [(0, .ref o), (1, .int x1), (2, .int x2), (3, .int x3), (4, .int x4)] [] h (fun o h1 => ∃ v, o = some (.int v) ∧ K v h1)
  refine gk_aload_n (pc := 0) (DX11_triangle_0.at 0 rfl) 0 rfl rfl ?_
  refine gk_iload_n (pc := 1) (DX11_triangle_0.at 1 rfl) 1 rfl rfl ?_
  obtain ⟨⟨fs1, q1⟩, hv⟩ := hv
  refine gk_vV (pc := 2) [.int x1] [] (DX11_triangle_0.at 2 rfl) cvX11_120 q1 rfl rfl (Nat.le_of_ble_eq_true rfl) (Nat.le_of_ble_eq_true rfl) (gk_Run.post (fun o h1 z => ?_) hv)
  obtain ⟨v1, rfl, hv⟩ := z
  refine gk_if_eq (pc := 5) 24 (DX11_triangle_0.at 3 rfl) (by decide) (fun c => ?_) (fun c => ?_)
  · replace hv := hv.1 c
    refine gk_iconst (pc := 24) ((-1)) (DX11_triangle_0.at 12 rfl) ci_m1 ?_
    exact gk_ireturn (pc := 25) .int (DX11_triangle_0.at 13 rfl) rfl rfl ⟨_, rfl, hv⟩
  · replace hv := hv.2 c
    refine gk_aload_n (pc := 8) (DX11_triangle_0.at 4 rfl) 0 rfl rfl ?_
    refine gk_iload_n (pc := 9) (DX11_triangle_0.at 5 rfl) 2 rfl rfl ?_
    obtain ⟨⟨fs2, q2⟩, hv⟩ := hv
    refine gk_vV (pc := 10) [.int x2] [] (DX11_triangle_0.at 6 rfl) cvX11_120 q2 rfl rfl (Nat.le_of_ble_eq_true rfl) (Nat.le_of_ble_eq_true rfl) (gk_Run.post (fun o h2 z => ?_) hv)
    obtain ⟨v2, rfl, hv⟩ := z
    refine gk_if_eq (pc := 13) 24 (DX11_triangle_0.at 7 rfl) (by decide) (fun c => ?_) (fun c => ?_)
    · replace hv := hv.1 c
      refine gk_iconst (pc := 24) ((-1)) (DX11_triangle_0.at 12 rfl) ci_m1 ?_
      exact gk_ireturn (pc := 25) .int (DX11_triangle_0.at 13 rfl) rfl rfl ⟨_, rfl, hv⟩
    · replace hv := hv.2 c
      refine gk_aload_n (pc := 16) (DX11_triangle_0.at 8 rfl) 0 rfl rfl ?_
      refine gk_iload_n (pc := 17) (DX11_triangle_0.at 9 rfl) 3 rfl rfl ?_
      obtain ⟨⟨fs3, q3⟩, hv⟩ := hv
      refine gk_vV (pc := 18) [.int x3] [] (DX11_triangle_0.at 10 rfl) cvX11_120 q3 rfl rfl (Nat.le_of_ble_eq_true rfl) (Nat.le_of_ble_eq_true rfl) (gk_Run.post (fun o h3 z => ?_) hv)
      obtain ⟨v3, rfl, hv⟩ := z
      refine gk_if_ne (pc := 21) 26 (DX11_triangle_0.at 11 rfl) (by decide) (fun c => ?_) (fun c => ?_)
      · replace hv := hv.1 c
        refine gk_iload (pc := 26) (DX11_triangle_0.at 14 rfl) 4 rfl ?_
        refine gk_if_eq (pc := 28) 40 (DX11_triangle_0.at 15 rfl) (by decide) (fun c => ?_) (fun c => ?_)
        · replace hv := hv.1 c
          refine gk_iload_n (pc := 40) (DX11_triangle_0.at 21 rfl) 1 rfl rfl ?_
          refine gk_if_eq (pc := 41) 52 (DX11_triangle_0.at 22 rfl) (by decide) (fun c => ?_) (fun c => ?_)
          · replace hv := hv.1 c
            refine gk_bipush (pc := 52) ((-3)) (DX11_triangle_0.at 27 rfl) cb_m3 ?_
            exact gk_ireturn (pc := 54) .int (DX11_triangle_0.at 28 rfl) rfl rfl ⟨_, rfl, hv⟩
          · replace hv := hv.2 c
            refine gk_iload_n (pc := 44) (DX11_triangle_0.at 23 rfl) 2 rfl rfl ?_
            refine gk_if_eq (pc := 45) 52 (DX11_triangle_0.at 24 rfl) (by decide) (fun c => ?_) (fun c => ?_)
            · replace hv := hv.1 c
              refine gk_bipush (pc := 52) ((-3)) (DX11_triangle_0.at 27 rfl) cb_m3 ?_
              exact gk_ireturn (pc := 54) .int (DX11_triangle_0.at 28 rfl) rfl rfl ⟨_, rfl, hv⟩
            · replace hv := hv.2 c
              refine gk_iload_n (pc := 48) (DX11_triangle_0.at 25 rfl) 3 rfl rfl ?_
              refine gk_if_ne (pc := 49) 55 (DX11_triangle_0.at 26 rfl) (by decide) (fun c => ?_) (fun c => ?_)
              · replace hv := hv.1 c
                refine gk_aload_n (pc := 55) (DX11_triangle_0.at 29 rfl) 0 rfl rfl ?_
                obtain ⟨fs4, v4, q4, r4, hv⟩ := hv
                refine gk_get (pc := 56) (.ref v4) (DX11_triangle_0.at 30 rfl) fX11_12_10 q4 r4 ?_
                obtain ⟨fs5, v5, q5, r5, hv⟩ := hv
                refine gk_get (pc := 59) (.ref v5) (DX11_triangle_0.at 31 rfl) fX11_52_7 q5 r5 ?_
                refine gk_iload_n (pc := 62) (DX11_triangle_0.at 32 rfl) 1 rfl rfl ?_
                refine gk_iload_n (pc := 63) (DX11_triangle_0.at 33 rfl) 2 rfl rfl ?_
                refine gk_iload_n (pc := 64) (DX11_triangle_0.at 34 rfl) 3 rfl rfl ?_
                refine gk_iload (pc := 65) (DX11_triangle_0.at 35 rfl) 4 rfl ?_
                refine gk_iconst (pc := 67) (nI 1) (DX11_triangle_0.at 36 rfl) ci_1 ?_
                refine gk_icmp_ne (pc := 68) 75 (DX11_triangle_0.at 37 rfl) (by decide) (fun c => ?_) (fun c => ?_)
                · replace hv := hv.1 c
                  refine gk_iconst (pc := 75) (nI 0) (DX11_triangle_0.at 40 rfl) ci_0 ?_
                  obtain ⟨⟨fs6, q6⟩, hv⟩ := hv
                  refine gk_vV (pc := 76) [.int x1, .int x2, .int x3, .int (nI 0)] [] (DX11_triangle_0.at 41 rfl) cvX11_123 q6 rfl rfl (Nat.le_of_ble_eq_true rfl) (Nat.le_of_ble_eq_true rfl) (gk_Run.post (fun o h6 z => ?_) hv)
                  obtain ⟨v6, rfl, hv⟩ := z
                  exact gk_ireturn (pc := 79) .int (DX11_triangle_0.at 42 rfl) rfl rfl ⟨_, rfl, hv⟩
                · replace hv := hv.2 c
                  refine gk_iconst (pc := 71) (nI 1) (DX11_triangle_0.at 38 rfl) ci_1 ?_
                  refine gk_goto (pc := 72) 76 (DX11_triangle_0.at 39 rfl) (by decide) ?_
                  obtain ⟨⟨fs7, q7⟩, hv⟩ := hv
                  refine gk_vV (pc := 76) [.int x1, .int x2, .int x3, .int (nI 1)] [] (DX11_triangle_0.at 41 rfl) cvX11_123 q7 rfl rfl (Nat.le_of_ble_eq_true rfl) (Nat.le_of_ble_eq_true rfl) (gk_Run.post (fun o h7 z => ?_) hv)
                  obtain ⟨v7, rfl, hv⟩ := z
                  exact gk_ireturn (pc := 79) .int (DX11_triangle_0.at 42 rfl) rfl rfl ⟨_, rfl, hv⟩
              · replace hv := hv.2 c
                refine gk_bipush (pc := 52) ((-3)) (DX11_triangle_0.at 27 rfl) cb_m3 ?_
                exact gk_ireturn (pc := 54) .int (DX11_triangle_0.at 28 rfl) rfl rfl ⟨_, rfl, hv⟩
        · replace hv := hv.2 c
          refine gk_iload (pc := 31) (DX11_triangle_0.at 16 rfl) 4 rfl ?_
          refine gk_iconst (pc := 33) (nI 1) (DX11_triangle_0.at 17 rfl) ci_1 ?_
          refine gk_icmp_eq (pc := 34) 40 (DX11_triangle_0.at 18 rfl) (by decide) (fun c => ?_) (fun c => ?_)
          · replace hv := hv.1 c
            refine gk_iload_n (pc := 40) (DX11_triangle_0.at 21 rfl) 1 rfl rfl ?_
            refine gk_if_eq (pc := 41) 52 (DX11_triangle_0.at 22 rfl) (by decide) (fun c => ?_) (fun c => ?_)
            · replace hv := hv.1 c
              refine gk_bipush (pc := 52) ((-3)) (DX11_triangle_0.at 27 rfl) cb_m3 ?_
              exact gk_ireturn (pc := 54) .int (DX11_triangle_0.at 28 rfl) rfl rfl ⟨_, rfl, hv⟩
            · replace hv := hv.2 c
              refine gk_iload_n (pc := 44) (DX11_triangle_0.at 23 rfl) 2 rfl rfl ?_
              refine gk_if_eq (pc := 45) 52 (DX11_triangle_0.at 24 rfl) (by decide) (fun c => ?_) (fun c => ?_)
              · replace hv := hv.1 c
                refine gk_bipush (pc := 52) ((-3)) (DX11_triangle_0.at 27 rfl) cb_m3 ?_
                exact gk_ireturn (pc := 54) .int (DX11_triangle_0.at 28 rfl) rfl rfl ⟨_, rfl, hv⟩
              · replace hv := hv.2 c
                refine gk_iload_n (pc := 48) (DX11_triangle_0.at 25 rfl) 3 rfl rfl ?_
                refine gk_if_ne (pc := 49) 55 (DX11_triangle_0.at 26 rfl) (by decide) (fun c => ?_) (fun c => ?_)
                · replace hv := hv.1 c
                  refine gk_aload_n (pc := 55) (DX11_triangle_0.at 29 rfl) 0 rfl rfl ?_
                  obtain ⟨fs8, v8, q8, r8, hv⟩ := hv
                  refine gk_get (pc := 56) (.ref v8) (DX11_triangle_0.at 30 rfl) fX11_12_10 q8 r8 ?_
                  obtain ⟨fs9, v9, q9, r9, hv⟩ := hv
                  refine gk_get (pc := 59) (.ref v9) (DX11_triangle_0.at 31 rfl) fX11_52_7 q9 r9 ?_
                  refine gk_iload_n (pc := 62) (DX11_triangle_0.at 32 rfl) 1 rfl rfl ?_
                  refine gk_iload_n (pc := 63) (DX11_triangle_0.at 33 rfl) 2 rfl rfl ?_
                  refine gk_iload_n (pc := 64) (DX11_triangle_0.at 34 rfl) 3 rfl rfl ?_
                  refine gk_iload (pc := 65) (DX11_triangle_0.at 35 rfl) 4 rfl ?_
                  refine gk_iconst (pc := 67) (nI 1) (DX11_triangle_0.at 36 rfl) ci_1 ?_
                  refine gk_icmp_ne (pc := 68) 75 (DX11_triangle_0.at 37 rfl) (by decide) (fun c => ?_) (fun c => ?_)
                  · replace hv := hv.1 c
                    refine gk_iconst (pc := 75) (nI 0) (DX11_triangle_0.at 40 rfl) ci_0 ?_
                    obtain ⟨⟨fs10, q10⟩, hv⟩ := hv
                    refine gk_vV (pc := 76) [.int x1, .int x2, .int x3, .int (nI 0)] [] (DX11_triangle_0.at 41 rfl) cvX11_123 q10 rfl rfl (Nat.le_of_ble_eq_true rfl) (Nat.le_of_ble_eq_true rfl) (gk_Run.post (fun o h10 z => ?_) hv)
                    obtain ⟨v10, rfl, hv⟩ := z
                    exact gk_ireturn (pc := 79) .int (DX11_triangle_0.at 42 rfl) rfl rfl ⟨_, rfl, hv⟩
                  · replace hv := hv.2 c
                    refine gk_iconst (pc := 71) (nI 1) (DX11_triangle_0.at 38 rfl) ci_1 ?_
                    refine gk_goto (pc := 72) 76 (DX11_triangle_0.at 39 rfl) (by decide) ?_
                    obtain ⟨⟨fs11, q11⟩, hv⟩ := hv
                    refine gk_vV (pc := 76) [.int x1, .int x2, .int x3, .int (nI 1)] [] (DX11_triangle_0.at 41 rfl) cvX11_123 q11 rfl rfl (Nat.le_of_ble_eq_true rfl) (Nat.le_of_ble_eq_true rfl) (gk_Run.post (fun o h11 z => ?_) hv)
                    obtain ⟨v11, rfl, hv⟩ := z
                    exact gk_ireturn (pc := 79) .int (DX11_triangle_0.at 42 rfl) rfl rfl ⟨_, rfl, hv⟩
                · replace hv := hv.2 c
                  refine gk_bipush (pc := 52) ((-3)) (DX11_triangle_0.at 27 rfl) cb_m3 ?_
                  exact gk_ireturn (pc := 54) .int (DX11_triangle_0.at 28 rfl) rfl rfl ⟨_, rfl, hv⟩
          · replace hv := hv.2 c
            refine gk_bipush (pc := 37) ((-2)) (DX11_triangle_0.at 19 rfl) cb_m2 ?_
            exact gk_ireturn (pc := 39) .int (DX11_triangle_0.at 20 rfl) rfl rfl ⟨_, rfl, hv⟩
      · replace hv := hv.2 c
        refine gk_iconst (pc := 24) ((-1)) (DX11_triangle_0.at 12 rfl) ci_m1 ?_
        exact gk_ireturn (pc := 25) .int (DX11_triangle_0.at 13 rfl) rfl rfl ⟨_, rfl, hv⟩
set_option maxHeartbeats 4000000 in
theorem vX11_undo_0 {E : gk_E} {dd : Nat} {o : Nat}  {h : gk_H} {K : Int32 → gk_H → Prop} (hv : LdI h o 10 2 fun v1 => (¬ v1 = 0 → LdR h o 10 0 fun v2 => LdR h o 10 1 fun v3 => (∃ fs, h[v2]? = some (.inr (7, fs))) ∧ RnV E mX7_become (dd, 0, 0) [.ref v2, .ref v3] h (fun h4 => LdR h4 o 10 6 fun v5 => StI h4 v5 0 1 (nI 0) fun h6 => LdR h6 o 10 0 fun v7 => LdR h6 v7 7 0 fun v8 => LdI h6 v8 8 0 fun v9 => K v9 h6)) ∧ (v1 = 0 → K ((-3)) h)) : RnI E mX11_undo (dd + 1, 0, 0) [.ref o] h K := by
  show gk_G E mX11_undo (dd + 1, 0, 0) 0 [(0, .ref o)] [] h (fun o h1 => ∃ v, o = some (.int v) ∧ K v h1)
  refine gk_aload_n (pc := 0) (DX11_undo_0.at 0 rfl) 0 rfl rfl ?_
  obtain ⟨fs1, v1, q1, r1, hv⟩ := hv
  refine gk_get (pc := 1) (.int v1) (DX11_undo_0.at 1 rfl) fX11_21_10 q1 r1 ?_
  refine gk_if_ne (pc := 4) 10 (DX11_undo_0.at 2 rfl) (by decide) (fun c => ?_) (fun c => ?_)
  · replace hv := hv.1 c
    refine gk_aload_n (pc := 10) (DX11_undo_0.at 5 rfl) 0 rfl rfl ?_
    obtain ⟨fs2, v2, q2, r2, hv⟩ := hv
    refine gk_get (pc := 11) (.ref v2) (DX11_undo_0.at 6 rfl) fX11_12_10 q2 r2 ?_
    refine gk_aload_n (pc := 14) (DX11_undo_0.at 7 rfl) 0 rfl rfl ?_
    obtain ⟨fs3, v3, q3, r3, hv⟩ := hv
    refine gk_get (pc := 15) (.ref v3) (DX11_undo_0.at 8 rfl) fX11_18_10 q3 r3 ?_
    obtain ⟨⟨fs4, q4⟩, hv⟩ := hv
    refine gk_vV (pc := 18) [.ref v3] [] (DX11_undo_0.at 9 rfl) cvX11_310 q4 rfl rfl (Nat.le_of_ble_eq_true rfl) (Nat.le_of_ble_eq_true rfl) (gk_Run.post (fun o h4 z => ?_) hv)
    obtain ⟨rfl, hv⟩ := z
    refine gk_aload_n (pc := 21) (DX11_undo_0.at 10 rfl) 0 rfl rfl ?_
    obtain ⟨fs5, v5, q5, r5, hv⟩ := hv
    refine gk_get (pc := 22) (.ref v5) (DX11_undo_0.at 11 rfl) fX11_59_10 q5 r5 ?_
    refine gk_iconst (pc := 25) (nI 0) (DX11_undo_0.at 12 rfl) ci_0 ?_
    obtain ⟨fs6, q6, r6, hv⟩ := hv
    refine gk_put (pc := 26) (DX11_undo_0.at 13 rfl) fX11_255_0w q6 r6 rfl rfl ?_
    generalize h4.set _ _ = h6 at hv ⊢
    refine gk_aload_n (pc := 29) (DX11_undo_0.at 14 rfl) 0 rfl rfl ?_
    obtain ⟨fs7, v7, q7, r7, hv⟩ := hv
    refine gk_get (pc := 30) (.ref v7) (DX11_undo_0.at 15 rfl) fX11_12_10 q7 r7 ?_
    obtain ⟨fs8, v8, q8, r8, hv⟩ := hv
    refine gk_get (pc := 33) (.ref v8) (DX11_undo_0.at 16 rfl) fX11_52_7 q8 r8 ?_
    obtain ⟨fs9, v9, q9, r9, hv⟩ := hv
    refine gk_get (pc := 36) (.int v9) (DX11_undo_0.at 17 rfl) fX11_88_8 q9 r9 ?_
    exact gk_ireturn (pc := 39) .int (DX11_undo_0.at 18 rfl) rfl rfl ⟨_, rfl, hv⟩
  · replace hv := hv.2 c
    refine gk_bipush (pc := 7) ((-3)) (DX11_undo_0.at 3 rfl) cb_m3 ?_
    exact gk_ireturn (pc := 9) .int (DX11_undo_0.at 4 rfl) rfl rfl ⟨_, rfl, hv⟩
set_option maxHeartbeats 4000000 in
theorem vX11_wipe_0 {E : gk_E} {dd : Nat} {o : Nat}  {h : gk_H} {K : Int32 → gk_H → Prop} (hv : LdR h o 10 10 fun v1 => LdI h v1 9 0 fun v2 => LdR h o 10 10 fun v3 => StI h v3 9 0 (nI 0) fun h4 => K v2 h4) : RnI E mX11_wipe (dd, 0, 0) [.ref o] h K := by
  show gk_G E mX11_wipe (dd, 0, 0) 0 [(0, .ref o)] [] h (fun o h1 => ∃ v, o = some (.int v) ∧ K v h1)
  refine gk_aload_n (pc := 0) (DX11_wipe_0.at 0 rfl) 0 rfl rfl ?_
  obtain ⟨fs1, v1, q1, r1, hv⟩ := hv
  refine gk_get (pc := 1) (.ref v1) (DX11_wipe_0.at 1 rfl) fX11_81_10 q1 r1 ?_
  obtain ⟨fs2, v2, q2, r2, hv⟩ := hv
  refine gk_get (pc := 4) (.int v2) (DX11_wipe_0.at 2 rfl) fX11_293_9 q2 r2 ?_
  refine gk_istore_n (pc := 7) [(1, .int v2), (0, .ref o)] (DX11_wipe_0.at 3 rfl) rfl (Nat.le_of_ble_eq_true rfl) rfl ?_
  refine gk_aload_n (pc := 8) (DX11_wipe_0.at 4 rfl) 1 rfl rfl ?_
  obtain ⟨fs3, v3, q3, r3, hv⟩ := hv
  refine gk_get (pc := 9) (.ref v3) (DX11_wipe_0.at 5 rfl) fX11_81_10 q3 r3 ?_
  refine gk_iconst (pc := 12) (nI 0) (DX11_wipe_0.at 6 rfl) ci_0 ?_
  obtain ⟨fs4, q4, r4, hv⟩ := hv
  refine gk_put (pc := 13) (DX11_wipe_0.at 7 rfl) fX11_293_9w q4 r4 rfl rfl ?_
  generalize h.set _ _ = h4 at hv ⊢
  refine gk_iload_n (pc := 16) (DX11_wipe_0.at 8 rfl) 0 rfl rfl ?_
  exact gk_ireturn (pc := 17) .int (DX11_wipe_0.at 9 rfl) rfl rfl ⟨_, rfl, hv⟩
set_option maxHeartbeats 4000000 in
theorem vX11_won_0 {E : gk_E} {dd : Nat} {o : Nat} {x1 : Int32} {x2 : Int32}  {h : gk_H} {K : Int32 → gk_H → Prop} (hv : (∃ fs, h[o]? = some (.inr (10, fs))) ∧ RnI E mX11_gameRefusal (dd, 0, 0) [.ref o, .int x1, .int x2] h (fun v1 h1 => (v1 = 0 → LdR h1 o 10 5 fun v2 => LdR h1 o 10 0 fun v3 => LdR h1 v3 7 1 fun v4 => AlR 5 h1 v4 x1 fun v5 => (∃ fs, h1[v2]? = some (.inr (2, fs))) ∧ RnI E mX2_isWon (dd, 0, 0) [.ref v2, .ref v5, .int x2] h1 (fun v6 h6 => (v6 = 0 → K (nI 0) h6) ∧ (¬ v6 = 0 → K (nI 1) h6))) ∧ (¬ v1 = 0 → K v1 h1))) : RnI E mX11_won (dd + 1, 0, 0) [.ref o, .int x1, .int x2] h K := by
  show gk_G E mX11_won (dd + 1, 0, 0) 0 [(0, .ref o), (1, .int x1), (2, .int x2)] [] h (fun o h1 => ∃ v, o = some (.int v) ∧ K v h1)
  refine gk_aload_n (pc := 0) (DX11_won_0.at 0 rfl) 0 rfl rfl ?_
  refine gk_iload_n (pc := 1) (DX11_won_0.at 1 rfl) 1 rfl rfl ?_
  refine gk_iload_n (pc := 2) (DX11_won_0.at 2 rfl) 2 rfl rfl ?_
  obtain ⟨⟨fs1, q1⟩, hv⟩ := hv
  refine gk_vV (pc := 3) [.int x1, .int x2] [] (DX11_won_0.at 3 rfl) cvX11_235 q1 rfl rfl (Nat.le_of_ble_eq_true rfl) (Nat.le_of_ble_eq_true rfl) (gk_Run.post (fun o h1 z => ?_) hv)
  obtain ⟨v1, rfl, hv⟩ := z
  refine gk_istore_n (pc := 6) [(3, .int v1), (0, .ref o), (1, .int x1), (2, .int x2)] (DX11_won_0.at 4 rfl) rfl (Nat.le_of_ble_eq_true rfl) rfl ?_
  refine gk_iload_n (pc := 7) (DX11_won_0.at 5 rfl) 0 rfl rfl ?_
  refine gk_if_eq (pc := 8) 13 (DX11_won_0.at 6 rfl) (by decide) (fun c => ?_) (fun c => ?_)
  · replace hv := hv.1 c
    refine gk_aload_n (pc := 13) (DX11_won_0.at 9 rfl) 1 rfl rfl ?_
    obtain ⟨fs2, v2, q2, r2, hv⟩ := hv
    refine gk_get (pc := 14) (.ref v2) (DX11_won_0.at 10 rfl) fX11_46_10 q2 r2 ?_
    refine gk_aload_n (pc := 17) (DX11_won_0.at 11 rfl) 1 rfl rfl ?_
    obtain ⟨fs3, v3, q3, r3, hv⟩ := hv
    refine gk_get (pc := 18) (.ref v3) (DX11_won_0.at 12 rfl) fX11_12_10 q3 r3 ?_
    obtain ⟨fs4, v4, q4, r4, hv⟩ := hv
    refine gk_get (pc := 21) (.ref v4) (DX11_won_0.at 13 rfl) fX11_177_7 q4 r4 ?_
    refine gk_iload_n (pc := 24) (DX11_won_0.at 14 rfl) 2 rfl rfl ?_
    obtain ⟨n5, f5, v5, q5, r5, e5, hv⟩ := hv
    refine gk_aald5 (pc := 25) v5 (DX11_won_0.at 15 rfl) q5 r5 e5 ?_
    refine gk_iload_n (pc := 26) (DX11_won_0.at 16 rfl) 3 rfl rfl ?_
    obtain ⟨⟨fs6, q6⟩, hv⟩ := hv
    refine gk_vV (pc := 27) [.ref v5, .int x2] [] (DX11_won_0.at 17 rfl) cvX11_238 q6 rfl rfl (Nat.le_of_ble_eq_true rfl) (Nat.le_of_ble_eq_true rfl) (gk_Run.post (fun o h6 z => ?_) hv)
    obtain ⟨v6, rfl, hv⟩ := z
    refine gk_if_eq (pc := 30) 37 (DX11_won_0.at 18 rfl) (by decide) (fun c => ?_) (fun c => ?_)
    · replace hv := hv.1 c
      refine gk_iconst (pc := 37) (nI 0) (DX11_won_0.at 21 rfl) ci_0 ?_
      exact gk_ireturn (pc := 38) .int (DX11_won_0.at 22 rfl) rfl rfl ⟨_, rfl, hv⟩
    · replace hv := hv.2 c
      refine gk_iconst (pc := 33) (nI 1) (DX11_won_0.at 19 rfl) ci_1 ?_
      refine gk_goto (pc := 34) 38 (DX11_won_0.at 20 rfl) (by decide) ?_
      exact gk_ireturn (pc := 38) .int (DX11_won_0.at 22 rfl) rfl rfl ⟨_, rfl, hv⟩
  · replace hv := hv.2 c
    refine gk_iload_n (pc := 11) (DX11_won_0.at 7 rfl) 0 rfl rfl ?_
    exact gk_ireturn (pc := 12) .int (DX11_won_0.at 8 rfl) rfl rfl ⟨_, rfl, hv⟩
