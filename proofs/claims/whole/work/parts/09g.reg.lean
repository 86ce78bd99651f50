set_option maxHeartbeats 4000000 in
theorem vX12_forbid_0 {E : gk_E} {dd : Nat} {o : Nat} {x1 : Int32}  {h : gk_H} {K : Int32 → gk_H → Prop} (hv : (x1 = ((-1)) → LdI h o 11 5 fun v1 => (v1 = 0 → (x1 = ((-1)) → StI h o 11 5 (nI 0) fun h2 => LdR h2 o 11 3 fun v3 => AsI h2 v3 (nI 3) (nI 0) fun h4 => LdI h4 o 11 5 fun v5 => (v5 = 0 → K ((-5)) h4) ∧ (¬ v5 = 0 → (∃ fs, h4[o]? = some (.inr (11, fs))) ∧ RnV E mX12_likens (dd, 0, 0) [.ref o, .int x1, .int (nI 3)] h4 (fun h6 => K ((-5)) h6))) ∧ (¬ x1 = ((-1)) → StI h o 11 5 (nI 1) fun h7 => LdR h7 o 11 3 fun v8 => AsI h7 v8 (nI 3) (nI 0) fun h9 => LdI h9 o 11 5 fun v10 => (v10 = 0 → K ((-5)) h9) ∧ (¬ v10 = 0 → (∃ fs, h9[o]? = some (.inr (11, fs))) ∧ RnV E mX12_likens (dd, 0, 0) [.ref o, .int x1, .int (nI 3)] h9 (fun h11 => K ((-5)) h11)))) ∧ (¬ v1 = 0 → LdR h o 11 3 fun v12 => AlI h v12 (nI 3) fun v13 => (x1 = ((-1)) → StI h o 11 5 (nI 0) fun h14 => LdR h14 o 11 3 fun v15 => AsI h14 v15 (nI 3) (nI 0) fun h16 => LdI h16 o 11 5 fun v17 => (v17 = 0 → K v13 h16) ∧ (¬ v17 = 0 → (∃ fs, h16[o]? = some (.inr (11, fs))) ∧ RnV E mX12_likens (dd, 0, 0) [.ref o, .int x1, .int (nI 3)] h16 (fun h18 => K v13 h18))) ∧ (¬ x1 = ((-1)) → StI h o 11 5 (nI 1) fun h19 => LdR h19 o 11 3 fun v20 => AsI h19 v20 (nI 3) (nI 0) fun h21 => LdI h21 o 11 5 fun v22 => (v22 = 0 → K v13 h21) ∧ (¬ v22 = 0 → (∃ fs, h21[o]? = some (.inr (11, fs))) ∧ RnV E mX12_likens (dd, 0, 0) [.ref o, .int x1, .int (nI 3)] h21 (fun h23 => K v13 h23))))) ∧ (¬ x1 = ((-1)) → RnI E mX12_isNet (dd, 0, 0) [.int x1] h (fun v24 h24 => (¬ v24 = 0 → LdI h24 o 11 5 fun v25 => (v25 = 0 → (x1 = ((-1)) → StI h24 o 11 5 (nI 0) fun h26 => LdR h26 o 11 3 fun v27 => AsI h26 v27 (nI 3) (nI 0) fun h28 => LdI h28 o 11 5 fun v29 => (v29 = 0 → K ((-5)) h28) ∧ (¬ v29 = 0 → (∃ fs, h28[o]? = some (.inr (11, fs))) ∧ RnV E mX12_likens (dd, 0, 0) [.ref o, .int x1, .int (nI 3)] h28 (fun h30 => K ((-5)) h30))) ∧ (¬ x1 = ((-1)) → StI h24 o 11 5 (nI 1) fun h31 => LdR h31 o 11 3 fun v32 => AsI h31 v32 (nI 3) (nI 0) fun h33 => LdI h33 o 11 5 fun v34 => (v34 = 0 → K ((-5)) h33) ∧ (¬ v34 = 0 → (∃ fs, h33[o]? = some (.inr (11, fs))) ∧ RnV E mX12_likens (dd, 0, 0) [.ref o, .int x1, .int (nI 3)] h33 (fun h35 => K ((-5)) h35)))) ∧ (¬ v25 = 0 → LdR h24 o 11 3 fun v36 => AlI h24 v36 (nI 3) fun v37 => (x1 = ((-1)) → StI h24 o 11 5 (nI 0) fun h38 => LdR h38 o 11 3 fun v39 => AsI h38 v39 (nI 3) (nI 0) fun h40 => LdI h40 o 11 5 fun v41 => (v41 = 0 → K v37 h40) ∧ (¬ v41 = 0 → (∃ fs, h40[o]? = some (.inr (11, fs))) ∧ RnV E mX12_likens (dd, 0, 0) [.ref o, .int x1, .int (nI 3)] h40 (fun h42 => K v37 h42))) ∧ (¬ x1 = ((-1)) → StI h24 o 11 5 (nI 1) fun h43 => LdR h43 o 11 3 fun v44 => AsI h43 v44 (nI 3) (nI 0) fun h45 => LdI h45 o 11 5 fun v46 => (v46 = 0 → K v37 h45) ∧ (¬ v46 = 0 → (∃ fs, h45[o]? = some (.inr (11, fs))) ∧ RnV E mX12_likens (dd, 0, 0) [.ref o, .int x1, .int (nI 3)] h45 (fun h47 => K v37 h47))))) ∧ (v24 = 0 → K ((-1)) h24)))) : RnI E mX12_forbid (dd + 1, 0, 0) [.ref o, .int x1] h K := by
  show gk_G E mX12_forbid (dd + 1, 0, 0) 0 [(0, .ref o), (1, .int x1)] [] h (fun o h1 => ∃ v, o = some (.int v) ∧ K v h1)
  refine gk_iload_n (pc := 0) (DX12_forbid_0.at 0 rfl) 1 rfl rfl ?_
  refine gk_iconst (pc := 1) ((-1)) (DX12_forbid_0.at 1 rfl) ci_m1 ?_
  refine gk_icmp_eq (pc := 2) 14 (DX12_forbid_0.at 2 rfl) (by decide) (fun c => ?_) (fun c => ?_)
  · replace hv := hv.1 c
    refine gk_aload_n (pc := 14) (DX12_forbid_0.at 8 rfl) 0 rfl rfl ?_
    obtain ⟨fs1, v1, q1, r1, hv⟩ := hv
    refine gk_get (pc := 15) (.int v1) (DX12_forbid_0.at 9 rfl) fX12_74_11 q1 r1 ?_
    refine gk_if_eq (pc := 18) 30 (DX12_forbid_0.at 10 rfl) (by decide) (fun c => ?_) (fun c => ?_)
    · replace hv := hv.1 c
      refine gk_bipush (pc := 30) ((-5)) (DX12_forbid_0.at 16 rfl) cb_m5 ?_
      refine gk_istore_n (pc := 32) [(2, .int ((-5))), (0, .ref o), (1, .int x1)] (DX12_forbid_0.at 17 rfl) rfl (Nat.le_of_ble_eq_true rfl) rfl ?_
      refine gk_aload_n (pc := 33) (DX12_forbid_0.at 18 rfl) 1 rfl rfl ?_
      refine gk_iload_n (pc := 34) (DX12_forbid_0.at 19 rfl) 2 rfl rfl ?_
      refine gk_iconst (pc := 35) ((-1)) (DX12_forbid_0.at 20 rfl) ci_m1 ?_
      refine gk_icmp_eq (pc := 36) 43 (DX12_forbid_0.at 21 rfl) (by decide) (fun c => ?_) (fun c => ?_)
      · replace hv := hv.1 c
        refine gk_iconst (pc := 43) (nI 0) (DX12_forbid_0.at 24 rfl) ci_0 ?_
        obtain ⟨fs2, q2, r2, hv⟩ := hv
        refine gk_put (pc := 44) (DX12_forbid_0.at 25 rfl) fX12_74_11w q2 r2 rfl rfl ?_
        generalize h.set _ _ = h2 at hv ⊢
        refine gk_aload_n (pc := 47) (DX12_forbid_0.at 26 rfl) 1 rfl rfl ?_
        obtain ⟨fs3, v3, q3, r3, hv⟩ := hv
        refine gk_get (pc := 48) (.ref v3) (DX12_forbid_0.at 27 rfl) fX12_23_11 q3 r3 ?_
        refine gk_iconst (pc := 51) (nI 3) (DX12_forbid_0.at 28 rfl) ci_3 ?_
        refine gk_iconst (pc := 52) (nI 0) (DX12_forbid_0.at 29 rfl) ci_0 ?_
        obtain ⟨n4, f4, q4, r4, hv⟩ := hv
        refine gk_iast (pc := 53) (DX12_forbid_0.at 30 rfl) q4 r4 ?_
        generalize h2.set _ _ = h4 at hv ⊢
        refine gk_aload_n (pc := 54) (DX12_forbid_0.at 31 rfl) 1 rfl rfl ?_
        obtain ⟨fs5, v5, q5, r5, hv⟩ := hv
        refine gk_get (pc := 55) (.int v5) (DX12_forbid_0.at 32 rfl) fX12_74_11 q5 r5 ?_
        refine gk_if_eq (pc := 58) 67 (DX12_forbid_0.at 33 rfl) (by decide) (fun c => ?_) (fun c => ?_)
        · replace hv := hv.1 c
          refine gk_iload_n (pc := 67) (DX12_forbid_0.at 38 rfl) 0 rfl rfl ?_
          exact gk_ireturn (pc := 68) .int (DX12_forbid_0.at 39 rfl) rfl rfl ⟨_, rfl, hv⟩
        · replace hv := hv.2 c
          refine gk_aload_n (pc := 61) (DX12_forbid_0.at 34 rfl) 1 rfl rfl ?_
          refine gk_iload_n (pc := 62) (DX12_forbid_0.at 35 rfl) 2 rfl rfl ?_
          refine gk_iconst (pc := 63) (nI 3) (DX12_forbid_0.at 36 rfl) ci_3 ?_
          obtain ⟨⟨fs6, q6⟩, hv⟩ := hv
          refine gk_vV (pc := 64) [.int x1, .int (nI 3)] [] (DX12_forbid_0.at 37 rfl) cvX12_161 q6 rfl rfl (Nat.le_of_ble_eq_true rfl) (Nat.le_of_ble_eq_true rfl) (gk_Run.post (fun o h6 z => ?_) hv)
          obtain ⟨rfl, hv⟩ := z
          refine gk_iload_n (pc := 67) (DX12_forbid_0.at 38 rfl) 0 rfl rfl ?_
          exact gk_ireturn (pc := 68) .int (DX12_forbid_0.at 39 rfl) rfl rfl ⟨_, rfl, hv⟩
      · replace hv := hv.2 c
        refine gk_iconst (pc := 39) (nI 1) (DX12_forbid_0.at 22 rfl) ci_1 ?_
        refine gk_goto (pc := 40) 44 (DX12_forbid_0.at 23 rfl) (by decide) ?_
        obtain ⟨fs7, q7, r7, hv⟩ := hv
        refine gk_put (pc := 44) (DX12_forbid_0.at 25 rfl) fX12_74_11w q7 r7 rfl rfl ?_
        generalize h.set _ _ = h7 at hv ⊢
        refine gk_aload_n (pc := 47) (DX12_forbid_0.at 26 rfl) 1 rfl rfl ?_
        obtain ⟨fs8, v8, q8, r8, hv⟩ := hv
        refine gk_get (pc := 48) (.ref v8) (DX12_forbid_0.at 27 rfl) fX12_23_11 q8 r8 ?_
        refine gk_iconst (pc := 51) (nI 3) (DX12_forbid_0.at 28 rfl) ci_3 ?_
        refine gk_iconst (pc := 52) (nI 0) (DX12_forbid_0.at 29 rfl) ci_0 ?_
        obtain ⟨n9, f9, q9, r9, hv⟩ := hv
        refine gk_iast (pc := 53) (DX12_forbid_0.at 30 rfl) q9 r9 ?_
        generalize h7.set _ _ = h9 at hv ⊢
        refine gk_aload_n (pc := 54) (DX12_forbid_0.at 31 rfl) 1 rfl rfl ?_
        obtain ⟨fs10, v10, q10, r10, hv⟩ := hv
        refine gk_get (pc := 55) (.int v10) (DX12_forbid_0.at 32 rfl) fX12_74_11 q10 r10 ?_
        refine gk_if_eq (pc := 58) 67 (DX12_forbid_0.at 33 rfl) (by decide) (fun c => ?_) (fun c => ?_)
        · replace hv := hv.1 c
          refine gk_iload_n (pc := 67) (DX12_forbid_0.at 38 rfl) 0 rfl rfl ?_
          exact gk_ireturn (pc := 68) .int (DX12_forbid_0.at 39 rfl) rfl rfl ⟨_, rfl, hv⟩
        · replace hv := hv.2 c
          refine gk_aload_n (pc := 61) (DX12_forbid_0.at 34 rfl) 1 rfl rfl ?_
          refine gk_iload_n (pc := 62) (DX12_forbid_0.at 35 rfl) 2 rfl rfl ?_
          refine gk_iconst (pc := 63) (nI 3) (DX12_forbid_0.at 36 rfl) ci_3 ?_
          obtain ⟨⟨fs11, q11⟩, hv⟩ := hv
          refine gk_vV (pc := 64) [.int x1, .int (nI 3)] [] (DX12_forbid_0.at 37 rfl) cvX12_161 q11 rfl rfl (Nat.le_of_ble_eq_true rfl) (Nat.le_of_ble_eq_true rfl) (gk_Run.post (fun o h11 z => ?_) hv)
          obtain ⟨rfl, hv⟩ := z
          refine gk_iload_n (pc := 67) (DX12_forbid_0.at 38 rfl) 0 rfl rfl ?_
          exact gk_ireturn (pc := 68) .int (DX12_forbid_0.at 39 rfl) rfl rfl ⟨_, rfl, hv⟩
    · replace hv := hv.2 c
      refine gk_aload_n (pc := 21) (DX12_forbid_0.at 11 rfl) 0 rfl rfl ?_
      obtain ⟨fs12, v12, q12, r12, hv⟩ := hv
      refine gk_get (pc := 22) (.ref v12) (DX12_forbid_0.at 12 rfl) fX12_23_11 q12 r12 ?_
      refine gk_iconst (pc := 25) (nI 3) (DX12_forbid_0.at 13 rfl) ci_3 ?_
      obtain ⟨n13, f13, q13, r13, hv⟩ := hv
      refine gk_iald (pc := 26) (DX12_forbid_0.at 14 rfl) q13 r13 ?_
      generalize f13 _ = v13 at hv ⊢
      refine gk_goto (pc := 27) 32 (DX12_forbid_0.at 15 rfl) (by decide) ?_
      refine gk_istore_n (pc := 32) [(2, .int v13), (0, .ref o), (1, .int x1)] (DX12_forbid_0.at 17 rfl) rfl (Nat.le_of_ble_eq_true rfl) rfl ?_
      refine gk_aload_n (pc := 33) (DX12_forbid_0.at 18 rfl) 1 rfl rfl ?_
      refine gk_iload_n (pc := 34) (DX12_forbid_0.at 19 rfl) 2 rfl rfl ?_
      refine gk_iconst (pc := 35) ((-1)) (DX12_forbid_0.at 20 rfl) ci_m1 ?_
      refine gk_icmp_eq (pc := 36) 43 (DX12_forbid_0.at 21 rfl) (by decide) (fun c => ?_) (fun c => ?_)
      · replace hv := hv.1 c
        refine gk_iconst (pc := 43) (nI 0) (DX12_forbid_0.at 24 rfl) ci_0 ?_
        obtain ⟨fs14, q14, r14, hv⟩ := hv
        refine gk_put (pc := 44) (DX12_forbid_0.at 25 rfl) fX12_74_11w q14 r14 rfl rfl ?_
        generalize h.set _ _ = h14 at hv ⊢
        refine gk_aload_n (pc := 47) (DX12_forbid_0.at 26 rfl) 1 rfl rfl ?_
        obtain ⟨fs15, v15, q15, r15, hv⟩ := hv
        refine gk_get (pc := 48) (.ref v15) (DX12_forbid_0.at 27 rfl) fX12_23_11 q15 r15 ?_
        refine gk_iconst (pc := 51) (nI 3) (DX12_forbid_0.at 28 rfl) ci_3 ?_
        refine gk_iconst (pc := 52) (nI 0) (DX12_forbid_0.at 29 rfl) ci_0 ?_
        obtain ⟨n16, f16, q16, r16, hv⟩ := hv
        refine gk_iast (pc := 53) (DX12_forbid_0.at 30 rfl) q16 r16 ?_
        generalize h14.set _ _ = h16 at hv ⊢
        refine gk_aload_n (pc := 54) (DX12_forbid_0.at 31 rfl) 1 rfl rfl ?_
        obtain ⟨fs17, v17, q17, r17, hv⟩ := hv
        refine gk_get (pc := 55) (.int v17) (DX12_forbid_0.at 32 rfl) fX12_74_11 q17 r17 ?_
        refine gk_if_eq (pc := 58) 67 (DX12_forbid_0.at 33 rfl) (by decide) (fun c => ?_) (fun c => ?_)
        · replace hv := hv.1 c
          refine gk_iload_n (pc := 67) (DX12_forbid_0.at 38 rfl) 0 rfl rfl ?_
          exact gk_ireturn (pc := 68) .int (DX12_forbid_0.at 39 rfl) rfl rfl ⟨_, rfl, hv⟩
        · replace hv := hv.2 c
          refine gk_aload_n (pc := 61) (DX12_forbid_0.at 34 rfl) 1 rfl rfl ?_
          refine gk_iload_n (pc := 62) (DX12_forbid_0.at 35 rfl) 2 rfl rfl ?_
          refine gk_iconst (pc := 63) (nI 3) (DX12_forbid_0.at 36 rfl) ci_3 ?_
          obtain ⟨⟨fs18, q18⟩, hv⟩ := hv
          refine gk_vV (pc := 64) [.int x1, .int (nI 3)] [] (DX12_forbid_0.at 37 rfl) cvX12_161 q18 rfl rfl (Nat.le_of_ble_eq_true rfl) (Nat.le_of_ble_eq_true rfl) (gk_Run.post (fun o h18 z => ?_) hv)
          obtain ⟨rfl, hv⟩ := z
          refine gk_iload_n (pc := 67) (DX12_forbid_0.at 38 rfl) 0 rfl rfl ?_
          exact gk_ireturn (pc := 68) .int (DX12_forbid_0.at 39 rfl) rfl rfl ⟨_, rfl, hv⟩
      · replace hv := hv.2 c
        refine gk_iconst (pc := 39) (nI 1) (DX12_forbid_0.at 22 rfl) ci_1 ?_
        refine gk_goto (pc := 40) 44 (DX12_forbid_0.at 23 rfl) (by decide) ?_
        obtain ⟨fs19, q19, r19, hv⟩ := hv
        refine gk_put (pc := 44) (DX12_forbid_0.at 25 rfl) fX12_74_11w q19 r19 rfl rfl ?_
        generalize h.set _ _ = h19 at hv ⊢
        refine gk_aload_n (pc := 47) (DX12_forbid_0.at 26 rfl) 1 rfl rfl ?_
        obtain ⟨fs20, v20, q20, r20, hv⟩ := hv
        refine gk_get (pc := 48) (.ref v20) (DX12_forbid_0.at 27 rfl) fX12_23_11 q20 r20 ?_
        refine gk_iconst (pc := 51) (nI 3) (DX12_forbid_0.at 28 rfl) ci_3 ?_
        refine gk_iconst (pc := 52) (nI 0) (DX12_forbid_0.at 29 rfl) ci_0 ?_
        obtain ⟨n21, f21, q21, r21, hv⟩ := hv
        refine gk_iast (pc := 53) (DX12_forbid_0.at 30 rfl) q21 r21 ?_
        generalize h19.set _ _ = h21 at hv ⊢
        refine gk_aload_n (pc := 54) (DX12_forbid_0.at 31 rfl) 1 rfl rfl ?_
        obtain ⟨fs22, v22, q22, r22, hv⟩ := hv
        refine gk_get (pc := 55) (.int v22) (DX12_forbid_0.at 32 rfl) fX12_74_11 q22 r22 ?_
        refine gk_if_eq (pc := 58) 67 (DX12_forbid_0.at 33 rfl) (by decide) (fun c => ?_) (fun c => ?_)
        · replace hv := hv.1 c
          refine gk_iload_n (pc := 67) (DX12_forbid_0.at 38 rfl) 0 rfl rfl ?_
          exact gk_ireturn (pc := 68) .int (DX12_forbid_0.at 39 rfl) rfl rfl ⟨_, rfl, hv⟩
        · replace hv := hv.2 c
          refine gk_aload_n (pc := 61) (DX12_forbid_0.at 34 rfl) 1 rfl rfl ?_
          refine gk_iload_n (pc := 62) (DX12_forbid_0.at 35 rfl) 2 rfl rfl ?_
          refine gk_iconst (pc := 63) (nI 3) (DX12_forbid_0.at 36 rfl) ci_3 ?_
          obtain ⟨⟨fs23, q23⟩, hv⟩ := hv
          refine gk_vV (pc := 64) [.int x1, .int (nI 3)] [] (DX12_forbid_0.at 37 rfl) cvX12_161 q23 rfl rfl (Nat.le_of_ble_eq_true rfl) (Nat.le_of_ble_eq_true rfl) (gk_Run.post (fun o h23 z => ?_) hv)
          obtain ⟨rfl, hv⟩ := z
          refine gk_iload_n (pc := 67) (DX12_forbid_0.at 38 rfl) 0 rfl rfl ?_
          exact gk_ireturn (pc := 68) .int (DX12_forbid_0.at 39 rfl) rfl rfl ⟨_, rfl, hv⟩
  · replace hv := hv.2 c
    refine gk_iload_n (pc := 5) (DX12_forbid_0.at 3 rfl) 1 rfl rfl ?_
    refine gk_vS (pc := 6) [.int x1] [] (DX12_forbid_0.at 4 rfl) csX12_145 rfl rfl (Nat.le_of_ble_eq_true rfl) (Nat.le_of_ble_eq_true rfl) (gk_Run.post (fun o h24 z => ?_) hv)
    obtain ⟨v24, rfl, hv⟩ := z
    refine gk_if_ne (pc := 9) 14 (DX12_forbid_0.at 5 rfl) (by decide) (fun c => ?_) (fun c => ?_)
    · replace hv := hv.1 c
      refine gk_aload_n (pc := 14) (DX12_forbid_0.at 8 rfl) 0 rfl rfl ?_
      obtain ⟨fs25, v25, q25, r25, hv⟩ := hv
      refine gk_get (pc := 15) (.int v25) (DX12_forbid_0.at 9 rfl) fX12_74_11 q25 r25 ?_
      refine gk_if_eq (pc := 18) 30 (DX12_forbid_0.at 10 rfl) (by decide) (fun c => ?_) (fun c => ?_)
      · replace hv := hv.1 c
        refine gk_bipush (pc := 30) ((-5)) (DX12_forbid_0.at 16 rfl) cb_m5 ?_
        refine gk_istore_n (pc := 32) [(2, .int ((-5))), (0, .ref o), (1, .int x1)] (DX12_forbid_0.at 17 rfl) rfl (Nat.le_of_ble_eq_true rfl) rfl ?_
        refine gk_aload_n (pc := 33) (DX12_forbid_0.at 18 rfl) 1 rfl rfl ?_
        refine gk_iload_n (pc := 34) (DX12_forbid_0.at 19 rfl) 2 rfl rfl ?_
        refine gk_iconst (pc := 35) ((-1)) (DX12_forbid_0.at 20 rfl) ci_m1 ?_
        refine gk_icmp_eq (pc := 36) 43 (DX12_forbid_0.at 21 rfl) (by decide) (fun c => ?_) (fun c => ?_)
        · replace hv := hv.1 c
          refine gk_iconst (pc := 43) (nI 0) (DX12_forbid_0.at 24 rfl) ci_0 ?_
          obtain ⟨fs26, q26, r26, hv⟩ := hv
          refine gk_put (pc := 44) (DX12_forbid_0.at 25 rfl) fX12_74_11w q26 r26 rfl rfl ?_
          generalize h24.set _ _ = h26 at hv ⊢
          refine gk_aload_n (pc := 47) (DX12_forbid_0.at 26 rfl) 1 rfl rfl ?_
          obtain ⟨fs27, v27, q27, r27, hv⟩ := hv
          refine gk_get (pc := 48) (.ref v27) (DX12_forbid_0.at 27 rfl) fX12_23_11 q27 r27 ?_
          refine gk_iconst (pc := 51) (nI 3) (DX12_forbid_0.at 28 rfl) ci_3 ?_
          refine gk_iconst (pc := 52) (nI 0) (DX12_forbid_0.at 29 rfl) ci_0 ?_
          obtain ⟨n28, f28, q28, r28, hv⟩ := hv
          refine gk_iast (pc := 53) (DX12_forbid_0.at 30 rfl) q28 r28 ?_
          generalize h26.set _ _ = h28 at hv ⊢
          refine gk_aload_n (pc := 54) (DX12_forbid_0.at 31 rfl) 1 rfl rfl ?_
          obtain ⟨fs29, v29, q29, r29, hv⟩ := hv
          refine gk_get (pc := 55) (.int v29) (DX12_forbid_0.at 32 rfl) fX12_74_11 q29 r29 ?_
          refine gk_if_eq (pc := 58) 67 (DX12_forbid_0.at 33 rfl) (by decide) (fun c => ?_) (fun c => ?_)
          · replace hv := hv.1 c
            refine gk_iload_n (pc := 67) (DX12_forbid_0.at 38 rfl) 0 rfl rfl ?_
            exact gk_ireturn (pc := 68) .int (DX12_forbid_0.at 39 rfl) rfl rfl ⟨_, rfl, hv⟩
          · replace hv := hv.2 c
            refine gk_aload_n (pc := 61) (DX12_forbid_0.at 34 rfl) 1 rfl rfl ?_
            refine gk_iload_n (pc := 62) (DX12_forbid_0.at 35 rfl) 2 rfl rfl ?_
            refine gk_iconst (pc := 63) (nI 3) (DX12_forbid_0.at 36 rfl) ci_3 ?_
            obtain ⟨⟨fs30, q30⟩, hv⟩ := hv
            refine gk_vV (pc := 64) [.int x1, .int (nI 3)] [] (DX12_forbid_0.at 37 rfl) cvX12_161 q30 rfl rfl (Nat.le_of_ble_eq_true rfl) (Nat.le_of_ble_eq_true rfl) (gk_Run.post (fun o h30 z => ?_) hv)
            obtain ⟨rfl, hv⟩ := z
            refine gk_iload_n (pc := 67) (DX12_forbid_0.at 38 rfl) 0 rfl rfl ?_
            exact gk_ireturn (pc := 68) .int (DX12_forbid_0.at 39 rfl) rfl rfl ⟨_, rfl, hv⟩
        · replace hv := hv.2 c
          refine gk_iconst (pc := 39) (nI 1) (DX12_forbid_0.at 22 rfl) ci_1 ?_
          refine gk_goto (pc := 40) 44 (DX12_forbid_0.at 23 rfl) (by decide) ?_
          obtain ⟨fs31, q31, r31, hv⟩ := hv
          refine gk_put (pc := 44) (DX12_forbid_0.at 25 rfl) fX12_74_11w q31 r31 rfl rfl ?_
          generalize h24.set _ _ = h31 at hv ⊢
          refine gk_aload_n (pc := 47) (DX12_forbid_0.at 26 rfl) 1 rfl rfl ?_
          obtain ⟨fs32, v32, q32, r32, hv⟩ := hv
          refine gk_get (pc := 48) (.ref v32) (DX12_forbid_0.at 27 rfl) fX12_23_11 q32 r32 ?_
          refine gk_iconst (pc := 51) (nI 3) (DX12_forbid_0.at 28 rfl) ci_3 ?_
          refine gk_iconst (pc := 52) (nI 0) (DX12_forbid_0.at 29 rfl) ci_0 ?_
          obtain ⟨n33, f33, q33, r33, hv⟩ := hv
          refine gk_iast (pc := 53) (DX12_forbid_0.at 30 rfl) q33 r33 ?_
          generalize h31.set _ _ = h33 at hv ⊢
          refine gk_aload_n (pc := 54) (DX12_forbid_0.at 31 rfl) 1 rfl rfl ?_
          obtain ⟨fs34, v34, q34, r34, hv⟩ := hv
          refine gk_get (pc := 55) (.int v34) (DX12_forbid_0.at 32 rfl) fX12_74_11 q34 r34 ?_
          refine gk_if_eq (pc := 58) 67 (DX12_forbid_0.at 33 rfl) (by decide) (fun c => ?_) (fun c => ?_)
          · replace hv := hv.1 c
            refine gk_iload_n (pc := 67) (DX12_forbid_0.at 38 rfl) 0 rfl rfl ?_
            exact gk_ireturn (pc := 68) .int (DX12_forbid_0.at 39 rfl) rfl rfl ⟨_, rfl, hv⟩
          · replace hv := hv.2 c
            refine gk_aload_n (pc := 61) (DX12_forbid_0.at 34 rfl) 1 rfl rfl ?_
            refine gk_iload_n (pc := 62) (DX12_forbid_0.at 35 rfl) 2 rfl rfl ?_
            refine gk_iconst (pc := 63) (nI 3) (DX12_forbid_0.at 36 rfl) ci_3 ?_
            obtain ⟨⟨fs35, q35⟩, hv⟩ := hv
            refine gk_vV (pc := 64) [.int x1, .int (nI 3)] [] (DX12_forbid_0.at 37 rfl) cvX12_161 q35 rfl rfl (Nat.le_of_ble_eq_true rfl) (Nat.le_of_ble_eq_true rfl) (gk_Run.post (fun o h35 z => ?_) hv)
            obtain ⟨rfl, hv⟩ := z
            refine gk_iload_n (pc := 67) (DX12_forbid_0.at 38 rfl) 0 rfl rfl ?_
            exact gk_ireturn (pc := 68) .int (DX12_forbid_0.at 39 rfl) rfl rfl ⟨_, rfl, hv⟩
      · replace hv := hv.2 c
        refine gk_aload_n (pc := 21) (DX12_forbid_0.at 11 rfl) 0 rfl rfl ?_
        obtain ⟨fs36, v36, q36, r36, hv⟩ := hv
        refine gk_get (pc := 22) (.ref v36) (DX12_forbid_0.at 12 rfl) fX12_23_11 q36 r36 ?_
        refine gk_iconst (pc := 25) (nI 3) (DX12_forbid_0.at 13 rfl) ci_3 ?_
        obtain ⟨n37, f37, q37, r37, hv⟩ := hv
        refine gk_iald (pc := 26) (DX12_forbid_0.at 14 rfl) q37 r37 ?_
        generalize f37 _ = v37 at hv ⊢
        refine gk_goto (pc := 27) 32 (DX12_forbid_0.at 15 rfl) (by decide) ?_
        refine gk_istore_n (pc := 32) [(2, .int v37), (0, .ref o), (1, .int x1)] (DX12_forbid_0.at 17 rfl) rfl (Nat.le_of_ble_eq_true rfl) rfl ?_
        refine gk_aload_n (pc := 33) (DX12_forbid_0.at 18 rfl) 1 rfl rfl ?_
        refine gk_iload_n (pc := 34) (DX12_forbid_0.at 19 rfl) 2 rfl rfl ?_
        refine gk_iconst (pc := 35) ((-1)) (DX12_forbid_0.at 20 rfl) ci_m1 ?_
        refine gk_icmp_eq (pc := 36) 43 (DX12_forbid_0.at 21 rfl) (by decide) (fun c => ?_) (fun c => ?_)
        · replace hv := hv.1 c
          refine gk_iconst (pc := 43) (nI 0) (DX12_forbid_0.at 24 rfl) ci_0 ?_
          obtain ⟨fs38, q38, r38, hv⟩ := hv
          refine gk_put (pc := 44) (DX12_forbid_0.at 25 rfl) fX12_74_11w q38 r38 rfl rfl ?_
          generalize h24.set _ _ = h38 at hv ⊢
          refine gk_aload_n (pc := 47) (DX12_forbid_0.at 26 rfl) 1 rfl rfl ?_
          obtain ⟨fs39, v39, q39, r39, hv⟩ := hv
          refine gk_get (pc := 48) (.ref v39) (DX12_forbid_0.at 27 rfl) fX12_23_11 q39 r39 ?_
          refine gk_iconst (pc := 51) (nI 3) (DX12_forbid_0.at 28 rfl) ci_3 ?_
          refine gk_iconst (pc := 52) (nI 0) (DX12_forbid_0.at 29 rfl) ci_0 ?_
          obtain ⟨n40, f40, q40, r40, hv⟩ := hv
          refine gk_iast (pc := 53) (DX12_forbid_0.at 30 rfl) q40 r40 ?_
          generalize h38.set _ _ = h40 at hv ⊢
          refine gk_aload_n (pc := 54) (DX12_forbid_0.at 31 rfl) 1 rfl rfl ?_
          obtain ⟨fs41, v41, q41, r41, hv⟩ := hv
          refine gk_get (pc := 55) (.int v41) (DX12_forbid_0.at 32 rfl) fX12_74_11 q41 r41 ?_
          refine gk_if_eq (pc := 58) 67 (DX12_forbid_0.at 33 rfl) (by decide) (fun c => ?_) (fun c => ?_)
          · replace hv := hv.1 c
            refine gk_iload_n (pc := 67) (DX12_forbid_0.at 38 rfl) 0 rfl rfl ?_
            exact gk_ireturn (pc := 68) .int (DX12_forbid_0.at 39 rfl) rfl rfl ⟨_, rfl, hv⟩
          · replace hv := hv.2 c
            refine gk_aload_n (pc := 61) (DX12_forbid_0.at 34 rfl) 1 rfl rfl ?_
            refine gk_iload_n (pc := 62) (DX12_forbid_0.at 35 rfl) 2 rfl rfl ?_
            refine gk_iconst (pc := 63) (nI 3) (DX12_forbid_0.at 36 rfl) ci_3 ?_
            obtain ⟨⟨fs42, q42⟩, hv⟩ := hv
            refine gk_vV (pc := 64) [.int x1, .int (nI 3)] [] (DX12_forbid_0.at 37 rfl) cvX12_161 q42 rfl rfl (Nat.le_of_ble_eq_true rfl) (Nat.le_of_ble_eq_true rfl) (gk_Run.post (fun o h42 z => ?_) hv)
            obtain ⟨rfl, hv⟩ := z
            refine gk_iload_n (pc := 67) (DX12_forbid_0.at 38 rfl) 0 rfl rfl ?_
            exact gk_ireturn (pc := 68) .int (DX12_forbid_0.at 39 rfl) rfl rfl ⟨_, rfl, hv⟩
        · replace hv := hv.2 c
          refine gk_iconst (pc := 39) (nI 1) (DX12_forbid_0.at 22 rfl) ci_1 ?_
          refine gk_goto (pc := 40) 44 (DX12_forbid_0.at 23 rfl) (by decide) ?_
          obtain ⟨fs43, q43, r43, hv⟩ := hv
          refine gk_put (pc := 44) (DX12_forbid_0.at 25 rfl) fX12_74_11w q43 r43 rfl rfl ?_
          generalize h24.set _ _ = h43 at hv ⊢
          refine gk_aload_n (pc := 47) (DX12_forbid_0.at 26 rfl) 1 rfl rfl ?_
          obtain ⟨fs44, v44, q44, r44, hv⟩ := hv
          refine gk_get (pc := 48) (.ref v44) (DX12_forbid_0.at 27 rfl) fX12_23_11 q44 r44 ?_
          refine gk_iconst (pc := 51) (nI 3) (DX12_forbid_0.at 28 rfl) ci_3 ?_
          refine gk_iconst (pc := 52) (nI 0) (DX12_forbid_0.at 29 rfl) ci_0 ?_
          obtain ⟨n45, f45, q45, r45, hv⟩ := hv
          refine gk_iast (pc := 53) (DX12_forbid_0.at 30 rfl) q45 r45 ?_
          generalize h43.set _ _ = h45 at hv ⊢
          refine gk_aload_n (pc := 54) (DX12_forbid_0.at 31 rfl) 1 rfl rfl ?_
          obtain ⟨fs46, v46, q46, r46, hv⟩ := hv
          refine gk_get (pc := 55) (.int v46) (DX12_forbid_0.at 32 rfl) fX12_74_11 q46 r46 ?_
          refine gk_if_eq (pc := 58) 67 (DX12_forbid_0.at 33 rfl) (by decide) (fun c => ?_) (fun c => ?_)
          · replace hv := hv.1 c
            refine gk_iload_n (pc := 67) (DX12_forbid_0.at 38 rfl) 0 rfl rfl ?_
            exact gk_ireturn (pc := 68) .int (DX12_forbid_0.at 39 rfl) rfl rfl ⟨_, rfl, hv⟩
          · replace hv := hv.2 c
            refine gk_aload_n (pc := 61) (DX12_forbid_0.at 34 rfl) 1 rfl rfl ?_
            refine gk_iload_n (pc := 62) (DX12_forbid_0.at 35 rfl) 2 rfl rfl ?_
            refine gk_iconst (pc := 63) (nI 3) (DX12_forbid_0.at 36 rfl) ci_3 ?_
            obtain ⟨⟨fs47, q47⟩, hv⟩ := hv
            refine gk_vV (pc := 64) [.int x1, .int (nI 3)] [] (DX12_forbid_0.at 37 rfl) cvX12_161 q47 rfl rfl (Nat.le_of_ble_eq_true rfl) (Nat.le_of_ble_eq_true rfl) (gk_Run.post (fun o h47 z => ?_) hv)
            obtain ⟨rfl, hv⟩ := z
            refine gk_iload_n (pc := 67) (DX12_forbid_0.at 38 rfl) 0 rfl rfl ?_
            exact gk_ireturn (pc := 68) .int (DX12_forbid_0.at 39 rfl) rfl rfl ⟨_, rfl, hv⟩
    · replace hv := hv.2 c
      refine gk_iconst (pc := 12) ((-1)) (DX12_forbid_0.at 6 rfl) ci_m1 ?_
      exact gk_ireturn (pc := 13) .int (DX12_forbid_0.at 7 rfl) rfl rfl ⟨_, rfl, hv⟩
abbrev pX12_found_21 (E : gk_E) (dd : Nat) (o : Nat) (x1 : Int32) (h : gk_H) (K : Int32 → gk_H → Prop) : Prop := gk_G E mX12_found (dd + 1, 0, 0) 21 [(0, .ref o), (1, .int x1)] [] h (fun o h1 => ∃ v, o = some (.int v) ∧ K v h1)
abbrev pX12_found_52 (E : gk_E) (dd : Nat) (o : Nat) (x1 : Int32) (x2 : Int32) (h : gk_H) (K : Int32 → gk_H → Prop) : Prop := gk_G E mX12_found (dd + 1, 0, 0) 52 [(0, .ref o), (1, .int x1), (2, .int x2)] [] h (fun o h1 => ∃ v, o = some (.int v) ∧ K v h1)
set_option maxHeartbeats 4000000 in
theorem vX12_found_0 {E : gk_E} {dd : Nat} {o : Nat} {x1 : Int32}  {h : gk_H} {K : Int32 → gk_H → Prop} (hv : RnI E mX12_isList (dd, 0, 0) [.int x1] h (fun v1 h1 => (¬ v1 = 0 → LdR h1 o 11 14 fun v2 => AsI h1 v2 (nI 0) (nI 0) fun h3 => StI h3 o 11 13 (nI 2) fun h4 => pX12_found_21 E dd o x1 h4 K) ∧ (v1 = 0 → K ((-1)) h1))) : RnI E mX12_found (dd + 1, 0, 0) [.ref o, .int x1] h K := by
  show gk_G E mX12_found (dd + 1, 0, 0) 0 [(0, .ref o), (1, .int x1)] [] h (fun o h1 => ∃ v, o = some (.int v) ∧ K v h1)
  refine gk_iload_n (pc := 0) (DX12_found_0.at 0 rfl) 1 rfl rfl ?_
  refine gk_vS (pc := 1) [.int x1] [] (DX12_found_0.at 1 rfl) csX12_241 rfl rfl (Nat.le_of_ble_eq_true rfl) (Nat.le_of_ble_eq_true rfl) (gk_Run.post (fun o h1 z => ?_) hv)
  obtain ⟨v1, rfl, hv⟩ := z
  refine gk_if_ne (pc := 4) 9 (DX12_found_0.at 2 rfl) (by decide) (fun c => ?_) (fun c => ?_)
  · replace hv := hv.1 c
    refine gk_aload_n (pc := 9) (DX12_found_0.at 5 rfl) 0 rfl rfl ?_
    obtain ⟨fs2, v2, q2, r2, hv⟩ := hv
    refine gk_get (pc := 10) (.ref v2) (DX12_found_0.at 6 rfl) fX12_32_11 q2 r2 ?_
    refine gk_iconst (pc := 13) (nI 0) (DX12_found_0.at 7 rfl) ci_0 ?_
    refine gk_iconst (pc := 14) (nI 0) (DX12_found_0.at 8 rfl) ci_0 ?_
    obtain ⟨n3, f3, q3, r3, hv⟩ := hv
    refine gk_iast (pc := 15) (DX12_found_0.at 9 rfl) q3 r3 ?_
    generalize h1.set _ _ = h3 at hv ⊢
    refine gk_aload_n (pc := 16) (DX12_found_0.at 10 rfl) 0 rfl rfl ?_
    refine gk_iconst (pc := 17) (nI 2) (DX12_found_0.at 11 rfl) ci_2 ?_
    obtain ⟨fs4, q4, r4, hv⟩ := hv
    refine gk_put (pc := 18) (DX12_found_0.at 12 rfl) fX12_235_11w q4 r4 rfl rfl ?_
    generalize h3.set _ _ = h4 at hv ⊢
    exact gk_pick (pc := 21) [(0, .ref o), (1, .int x1)] [0, 1] rfl hv
  · replace hv := hv.2 c
    refine gk_iconst (pc := 7) ((-1)) (DX12_found_0.at 3 rfl) ci_m1 ?_
    exact gk_ireturn (pc := 8) .int (DX12_found_0.at 4 rfl) rfl rfl ⟨_, rfl, hv⟩
set_option maxHeartbeats 4000000 in
theorem vX12_found_21 {E : gk_E} {dd : Nat} {o : Nat} {x1 : Int32}  {h : gk_H} {K : Int32 → gk_H → Prop} (hv : LdI h o 11 13 fun v1 => ((nI 13) < v1 → K ((-5)) h) ∧ (¬ (nI 13) < v1 → (∃ fs, h[o]? = some (.inr (11, fs))) ∧ RnI E mX12_isPictured (dd, 0, 0) [.ref o, .int (nI 1)] h (fun v2 h2 => (v2 = 0 → LdI h2 o 11 13 fun v3 => StI h2 o 11 13 (v3 + (nI 1)) fun h4 => pX12_found_21 E dd o x1 h4 K) ∧ (¬ v2 = 0 → LdR h2 o 11 15 fun v5 => LdI h2 o 11 13 fun v6 => AsI h2 v5 x1 (v6 - (nI 1)) fun h7 => pX12_found_52 E dd o x1 (nI 1) h7 K)))) : pX12_found_21 E dd o x1 h K := by
  show gk_G E mX12_found (dd + 1, 0, 0) 21 [(0, .ref o), (1, .int x1)] [] h (fun o h1 => ∃ v, o = some (.int v) ∧ K v h1)
  refine gk_aload_n (pc := 21) (DX12_found_0.at 13 rfl) 0 rfl rfl ?_
  obtain ⟨fs1, v1, q1, r1, hv⟩ := hv
  refine gk_get (pc := 22) (.int v1) (DX12_found_0.at 14 rfl) fX12_235_11 q1 r1 ?_
  refine gk_bipush (pc := 25) (nI 13) (DX12_found_0.at 15 rfl) cb_13 ?_
  refine gk_icmp_gt (pc := 27) 104 (DX12_found_0.at 16 rfl) (by decide) (fun c => ?_) (fun c => ?_)
  · replace hv := hv.1 c
    refine gk_bipush (pc := 104) ((-5)) (DX12_found_1.at 2 rfl) cb_m5 ?_
    exact gk_ireturn (pc := 106) .int (DX12_found_1.at 3 rfl) rfl rfl ⟨_, rfl, hv⟩
  · replace hv := hv.2 c
    refine gk_aload_n (pc := 30) (DX12_found_0.at 17 rfl) 0 rfl rfl ?_
    refine gk_iconst (pc := 31) (nI 1) (DX12_found_0.at 18 rfl) ci_1 ?_
    obtain ⟨⟨fs2, q2⟩, hv⟩ := hv
    refine gk_vV (pc := 32) [.int (nI 1)] [] (DX12_found_0.at 19 rfl) cvX12_252 q2 rfl rfl (Nat.le_of_ble_eq_true rfl) (Nat.le_of_ble_eq_true rfl) (gk_Run.post (fun o h2 z => ?_) hv)
    obtain ⟨v2, rfl, hv⟩ := z
    refine gk_if_eq (pc := 35) 91 (DX12_found_0.at 20 rfl) (by decide) (fun c => ?_) (fun c => ?_)
    · replace hv := hv.1 c
      refine gk_aload_n (pc := 91) (DX12_found_0.at 55 rfl) 0 rfl rfl ?_
      refine gk_dup (pc := 92) (DX12_found_0.at 56 rfl) rfl ?_
      obtain ⟨fs3, v3, q3, r3, hv⟩ := hv
      refine gk_get (pc := 93) (.int v3) (DX12_found_0.at 57 rfl) fX12_235_11 q3 r3 ?_
      refine gk_iconst (pc := 96) (nI 1) (DX12_found_0.at 58 rfl) ci_1 ?_
      refine gk_iadd (pc := 97) (DX12_found_0.at 59 rfl) ?_
      obtain ⟨fs4, q4, r4, hv⟩ := hv
      refine gk_put (pc := 98) (DX12_found_1.at 0 rfl) fX12_235_11w q4 r4 rfl rfl ?_
      generalize h2.set _ _ = h4 at hv ⊢
      refine gk_goto (pc := 101) 21 (DX12_found_1.at 1 rfl) (by decide) ?_
      exact gk_pick (pc := 21) [(0, .ref o), (1, .int x1)] [0, 1] rfl hv
    · replace hv := hv.2 c
      refine gk_aload_n (pc := 38) (DX12_found_0.at 21 rfl) 0 rfl rfl ?_
      obtain ⟨fs5, v5, q5, r5, hv⟩ := hv
      refine gk_get (pc := 39) (.ref v5) (DX12_found_0.at 22 rfl) fX12_35_11 q5 r5 ?_
      refine gk_iload_n (pc := 42) (DX12_found_0.at 23 rfl) 1 rfl rfl ?_
      refine gk_aload_n (pc := 43) (DX12_found_0.at 24 rfl) 0 rfl rfl ?_
      obtain ⟨fs6, v6, q6, r6, hv⟩ := hv
      refine gk_get (pc := 44) (.int v6) (DX12_found_0.at 25 rfl) fX12_235_11 q6 r6 ?_
      refine gk_iconst (pc := 47) (nI 1) (DX12_found_0.at 26 rfl) ci_1 ?_
      refine gk_isub (pc := 48) (DX12_found_0.at 27 rfl) ?_
      obtain ⟨n7, f7, q7, r7, hv⟩ := hv
      refine gk_iast (pc := 49) (DX12_found_0.at 28 rfl) q7 r7 ?_
      generalize h2.set _ _ = h7 at hv ⊢
      refine gk_iconst (pc := 50) (nI 1) (DX12_found_0.at 29 rfl) ci_1 ?_
      refine gk_istore_n (pc := 51) [(2, .int (nI 1)), (0, .ref o), (1, .int x1)] (DX12_found_0.at 30 rfl) rfl (Nat.le_of_ble_eq_true rfl) rfl ?_
      exact gk_pick (pc := 52) [(0, .ref o), (1, .int x1), (2, .int (nI 1))] [1, 2, 0] rfl hv
set_option maxHeartbeats 4000000 in
theorem vX12_found_52 {E : gk_E} {dd : Nat} {o : Nat} {x1 : Int32} {x2 : Int32}  {h : gk_H} {K : Int32 → gk_H → Prop} (hv : LdI h o 11 13 fun v1 => (v1 ≤ x2 → LdI h o 11 13 fun v2 => K v2 h) ∧ (¬ v1 ≤ x2 → LdR h o 11 16 fun v3 => LdR h o 11 14 fun v4 => AlI h v4 x2 fun v5 => AsL h v3 ((((nI 12) * x1) + x2) - (nI 1)) v5.toInt64 fun h6 => pX12_found_52 E dd o x1 (x2 + nI 1) h6 K)) : pX12_found_52 E dd o x1 x2 h K := by
  show gk_G E mX12_found (dd + 1, 0, 0) 52 [(0, .ref o), (1, .int x1), (2, .int x2)] [] h (fun o h1 => ∃ v, o = some (.int v) ∧ K v h1)
  refine gk_iload_n (pc := 52) (DX12_found_0.at 31 rfl) 2 rfl rfl ?_
  refine gk_aload_n (pc := 53) (DX12_found_0.at 32 rfl) 0 rfl rfl ?_
  obtain ⟨fs1, v1, q1, r1, hv⟩ := hv
  refine gk_get (pc := 54) (.int v1) (DX12_found_0.at 33 rfl) fX12_235_11 q1 r1 ?_
  refine gk_icmp_ge (pc := 57) 86 (DX12_found_0.at 34 rfl) (by decide) (fun c => ?_) (fun c => ?_)
  · replace hv := hv.1 c
    refine gk_aload_n (pc := 86) (DX12_found_0.at 52 rfl) 0 rfl rfl ?_
    obtain ⟨fs2, v2, q2, r2, hv⟩ := hv
    refine gk_get (pc := 87) (.int v2) (DX12_found_0.at 53 rfl) fX12_235_11 q2 r2 ?_
    exact gk_ireturn (pc := 90) .int (DX12_found_0.at 54 rfl) rfl rfl ⟨_, rfl, hv⟩
  · replace hv := hv.2 c
    refine gk_aload_n (pc := 60) (DX12_found_0.at 35 rfl) 0 rfl rfl ?_
    obtain ⟨fs3, v3, q3, r3, hv⟩ := hv
    refine gk_get (pc := 61) (.ref v3) (DX12_found_0.at 36 rfl) fX12_38_11 q3 r3 ?_
    refine gk_bipush (pc := 64) (nI 12) (DX12_found_0.at 37 rfl) cb_12 ?_
    refine gk_iload_n (pc := 66) (DX12_found_0.at 38 rfl) 1 rfl rfl ?_
    refine gk_imul (pc := 67) (DX12_found_0.at 39 rfl) ?_
    refine gk_iload_n (pc := 68) (DX12_found_0.at 40 rfl) 2 rfl rfl ?_
    refine gk_iadd (pc := 69) (DX12_found_0.at 41 rfl) ?_
    refine gk_iconst (pc := 70) (nI 1) (DX12_found_0.at 42 rfl) ci_1 ?_
    refine gk_isub (pc := 71) (DX12_found_0.at 43 rfl) ?_
    refine gk_aload_n (pc := 72) (DX12_found_0.at 44 rfl) 0 rfl rfl ?_
    obtain ⟨fs4, v4, q4, r4, hv⟩ := hv
    refine gk_get (pc := 73) (.ref v4) (DX12_found_0.at 45 rfl) fX12_32_11 q4 r4 ?_
    refine gk_iload_n (pc := 76) (DX12_found_0.at 46 rfl) 2 rfl rfl ?_
    obtain ⟨n5, f5, q5, r5, hv⟩ := hv
    refine gk_iald (pc := 77) (DX12_found_0.at 47 rfl) q5 r5 ?_
    generalize f5 _ = v5 at hv ⊢
    refine gk_i2l (pc := 78) (DX12_found_0.at 48 rfl) ?_
    obtain ⟨n6, f6, q6, r6, hv⟩ := hv
    refine gk_last (pc := 79) (DX12_found_0.at 49 rfl) q6 r6 ?_
    generalize h.set _ _ = h6 at hv ⊢
    refine gk_iinc (pc := 80) (x2 + nI 1) [(2, .int (x2 + nI 1)), (0, .ref o), (1, .int x1)] 2 (DX12_found_0.at 50 rfl) rfl (by rw [ci_1]) (Nat.le_of_ble_eq_true rfl) rfl ?_
    refine gk_goto (pc := 83) 52 (DX12_found_0.at 51 rfl) (by decide) ?_
    exact gk_pick (pc := 52) [(0, .ref o), (1, .int x1), (2, .int (x2 + nI 1))] [1, 2, 0] rfl hv
abbrev pX12_gap_24 (E : gk_E) (dd : Nat) (o : Nat) (x1 : Int32) (x2 : Int32) (x3 : Int32) (x4 : Int32) (h : gk_H) (K : Int32 → gk_H → Prop) : Prop := gk_G E mX12_gap (dd + 1, 0, 0) 24 [(0, .ref o), (1, .int x1), (2, .int x2), (3, .int x3), (4, .int x4)] [] h (fun o h1 => ∃ v, o = some (.int v) ∧ K v h1)
set_option maxHeartbeats 4000000 in
theorem vX12_gap_0 {E : gk_E} {dd : Nat} {o : Nat} {x1 : Int32} {x2 : Int32}  {h : gk_H} {K : Int32 → gk_H → Prop} (hv : RnI E mX12_isNet (dd, 0, 0) [.int x1] h (fun v1 h1 => (v1 = 0 → K ((-1)) h1) ∧ (¬ v1 = 0 → (((-1)) ≤ x2 → (∃ fs, h1[o]? = some (.inr (11, fs))) ∧ RnI E mX12_gapBehind (dd, 0, 0) [.ref o, .int x1, .int ((-1))] h1 (fun v2 h2 => pX12_gap_24 E dd o x1 x2 (nI 0) v2 h2 K)) ∧ (¬ ((-1)) ≤ x2 → K ((-1)) h1)))) : RnI E mX12_gap (dd + 1, 0, 0) [.ref o, .int x1, .int x2] h K := by
  show gk_G E mX12_gap (dd + 1, 0, 0) 0 [(0, .ref o), (1, .int x1), (2, .int x2)] [] h (fun o h1 => ∃ v, o = some (.int v) ∧ K v h1)
  refine gk_iload_n (pc := 0) (DX12_gap_0.at 0 rfl) 1 rfl rfl ?_
  refine gk_vS (pc := 1) [.int x1] [] (DX12_gap_0.at 1 rfl) csX12_145 rfl rfl (Nat.le_of_ble_eq_true rfl) (Nat.le_of_ble_eq_true rfl) (gk_Run.post (fun o h1 z => ?_) hv)
  obtain ⟨v1, rfl, hv⟩ := z
  refine gk_if_eq (pc := 4) 12 (DX12_gap_0.at 2 rfl) (by decide) (fun c => ?_) (fun c => ?_)
  · replace hv := hv.1 c
    refine gk_iconst (pc := 12) ((-1)) (DX12_gap_0.at 6 rfl) ci_m1 ?_
    exact gk_ireturn (pc := 13) .int (DX12_gap_0.at 7 rfl) rfl rfl ⟨_, rfl, hv⟩
  · replace hv := hv.2 c
    refine gk_iload_n (pc := 7) (DX12_gap_0.at 3 rfl) 2 rfl rfl ?_
    refine gk_iconst (pc := 8) ((-1)) (DX12_gap_0.at 4 rfl) ci_m1 ?_
    refine gk_icmp_ge (pc := 9) 14 (DX12_gap_0.at 5 rfl) (by decide) (fun c => ?_) (fun c => ?_)
    · replace hv := hv.1 c
      refine gk_iconst (pc := 14) (nI 0) (DX12_gap_0.at 8 rfl) ci_0 ?_
      refine gk_istore_n (pc := 15) [(3, .int (nI 0)), (0, .ref o), (1, .int x1), (2, .int x2)] (DX12_gap_0.at 9 rfl) rfl (Nat.le_of_ble_eq_true rfl) rfl ?_
      refine gk_aload_n (pc := 16) (DX12_gap_0.at 10 rfl) 1 rfl rfl ?_
      refine gk_iload_n (pc := 17) (DX12_gap_0.at 11 rfl) 2 rfl rfl ?_
      refine gk_iconst (pc := 18) ((-1)) (DX12_gap_0.at 12 rfl) ci_m1 ?_
      obtain ⟨⟨fs2, q2⟩, hv⟩ := hv
      refine gk_vV (pc := 19) [.int x1, .int ((-1))] [] (DX12_gap_0.at 13 rfl) cvX12_171 q2 rfl rfl (Nat.le_of_ble_eq_true rfl) (Nat.le_of_ble_eq_true rfl) (gk_Run.post (fun o h2 z => ?_) hv)
      obtain ⟨v2, rfl, hv⟩ := z
      refine gk_istore (pc := 22) [(4, .int v2), (3, .int (nI 0)), (0, .ref o), (1, .int x1), (2, .int x2)] (DX12_gap_0.at 14 rfl) (Nat.le_of_ble_eq_true rfl) rfl ?_
      exact gk_pick (pc := 24) [(0, .ref o), (1, .int x1), (2, .int x2), (3, .int (nI 0)), (4, .int v2)] [2, 3, 4, 1, 0] rfl hv
    · replace hv := hv.2 c
      refine gk_iconst (pc := 12) ((-1)) (DX12_gap_0.at 6 rfl) ci_m1 ?_
      exact gk_ireturn (pc := 13) .int (DX12_gap_0.at 7 rfl) rfl rfl ⟨_, rfl, hv⟩
set_option maxHeartbeats 4000000 in
theorem vX12_gap_24 {E : gk_E} {dd : Nat} {o : Nat} {x1 : Int32} {x2 : Int32} {x3 : Int32} {x4 : Int32}  {h : gk_H} {K : Int32 → gk_H → Prop} (hv : (x4 = ((-1)) → (¬ x2 = ((-1)) → K x4 h) ∧ (x2 = ((-1)) → K x3 h)) ∧ (¬ x4 = ((-1)) → (x3 = x2 → (¬ x2 = ((-1)) → K x4 h) ∧ (x2 = ((-1)) → K x3 h)) ∧ (¬ x3 = x2 → (∃ fs, h[o]? = some (.inr (11, fs))) ∧ RnI E mX12_gapBehind (dd, 0, 0) [.ref o, .int x1, .int x4] h (fun v1 h1 => pX12_gap_24 E dd o x1 x2 (x3 + nI 1) v1 h1 K)))) : pX12_gap_24 E dd o x1 x2 x3 x4 h K := by
  show gk_G E mX12_gap (dd + 1, 0, 0) 24 [(0, .ref o), (1, .int x1), (2, .int x2), (3, .int x3), (4, .int x4)] [] h (fun o h1 => ∃ v, o = some (.int v) ∧ K v h1)
  refine gk_iload (pc := 24) (DX12_gap_0.at 15 rfl) 4 rfl ?_
  refine gk_iconst (pc := 26) ((-1)) (DX12_gap_0.at 16 rfl) ci_m1 ?_
  refine gk_icmp_eq (pc := 27) 50 (DX12_gap_0.at 17 rfl) (by decide) (fun c => ?_) (fun c => ?_)
  · replace hv := hv.1 c
    refine gk_iload_n (pc := 50) (DX12_gap_0.at 28 rfl) 2 rfl rfl ?_
    refine gk_iconst (pc := 51) ((-1)) (DX12_gap_0.at 29 rfl) ci_m1 ?_
    refine gk_icmp_ne (pc := 52) 59 (DX12_gap_0.at 30 rfl) (by decide) (fun c => ?_) (fun c => ?_)
    · replace hv := hv.1 c
      refine gk_iload (pc := 59) (DX12_gap_0.at 33 rfl) 4 rfl ?_
      exact gk_ireturn (pc := 61) .int (DX12_gap_0.at 34 rfl) rfl rfl ⟨_, rfl, hv⟩
    · replace hv := hv.2 c
      refine gk_iload_n (pc := 55) (DX12_gap_0.at 31 rfl) 3 rfl rfl ?_
      refine gk_goto (pc := 56) 61 (DX12_gap_0.at 32 rfl) (by decide) ?_
      exact gk_ireturn (pc := 61) .int (DX12_gap_0.at 34 rfl) rfl rfl ⟨_, rfl, hv⟩
  · replace hv := hv.2 c
    refine gk_iload_n (pc := 30) (DX12_gap_0.at 18 rfl) 3 rfl rfl ?_
    refine gk_iload_n (pc := 31) (DX12_gap_0.at 19 rfl) 2 rfl rfl ?_
    refine gk_icmp_eq (pc := 32) 50 (DX12_gap_0.at 20 rfl) (by decide) (fun c => ?_) (fun c => ?_)
    · replace hv := hv.1 c
      refine gk_iload_n (pc := 50) (DX12_gap_0.at 28 rfl) 2 rfl rfl ?_
      refine gk_iconst (pc := 51) ((-1)) (DX12_gap_0.at 29 rfl) ci_m1 ?_
      refine gk_icmp_ne (pc := 52) 59 (DX12_gap_0.at 30 rfl) (by decide) (fun c => ?_) (fun c => ?_)
      · replace hv := hv.1 c
        refine gk_iload (pc := 59) (DX12_gap_0.at 33 rfl) 4 rfl ?_
        exact gk_ireturn (pc := 61) .int (DX12_gap_0.at 34 rfl) rfl rfl ⟨_, rfl, hv⟩
      · replace hv := hv.2 c
        refine gk_iload_n (pc := 55) (DX12_gap_0.at 31 rfl) 3 rfl rfl ?_
        refine gk_goto (pc := 56) 61 (DX12_gap_0.at 32 rfl) (by decide) ?_
        exact gk_ireturn (pc := 61) .int (DX12_gap_0.at 34 rfl) rfl rfl ⟨_, rfl, hv⟩
    · replace hv := hv.2 c
      refine gk_iinc (pc := 35) (x3 + nI 1) [(3, .int (x3 + nI 1)), (0, .ref o), (1, .int x1), (2, .int x2), (4, .int x4)] 3 (DX12_gap_0.at 21 rfl) rfl (by rw [ci_1]) (Nat.le_of_ble_eq_true rfl) rfl ?_
      refine gk_aload_n (pc := 38) (DX12_gap_0.at 22 rfl) 1 rfl rfl ?_
      refine gk_iload_n (pc := 39) (DX12_gap_0.at 23 rfl) 2 rfl rfl ?_
      refine gk_iload (pc := 40) (DX12_gap_0.at 24 rfl) 4 rfl ?_
      obtain ⟨⟨fs1, q1⟩, hv⟩ := hv
      refine gk_vV (pc := 42) [.int x1, .int x4] [] (DX12_gap_0.at 25 rfl) cvX12_171 q1 rfl rfl (Nat.le_of_ble_eq_true rfl) (Nat.le_of_ble_eq_true rfl) (gk_Run.post (fun o h1 z => ?_) hv)
      obtain ⟨v1, rfl, hv⟩ := z
      refine gk_istore (pc := 45) [(4, .int v1), (3, .int (x3 + nI 1)), (0, .ref o), (1, .int x1), (2, .int x2)] (DX12_gap_0.at 26 rfl) (Nat.le_of_ble_eq_true rfl) rfl ?_
      refine gk_goto (pc := 47) 24 (DX12_gap_0.at 27 rfl) (by decide) ?_
      exact gk_pick (pc := 24) [(0, .ref o), (1, .int x1), (2, .int x2), (3, .int (x3 + nI 1)), (4, .int v1)] [2, 3, 4, 1, 0] rfl hv
abbrev pX12_gapBehind_18 (E : gk_E) (dd : Nat) (o : Nat) (x1 : Int32) (x2 : Int32) (x3 : Int32) (x4 : Int32) (h : gk_H) (K : Int32 → gk_H → Prop) : Prop := gk_G E mX12_gapBehind (dd + 1, 0, 0) 18 [(0, .ref o), (1, .int x1), (2, .int x2), (3, .int x3), (4, .int x4)] [] h (fun o h1 => ∃ v, o = some (.int v) ∧ K v h1)
abbrev pX12_gapBehind_54 (E : gk_E) (dd : Nat) (o : Nat) (x1 : Int32) (x2 : Int32) (x3 : Int32) (x4 : Int32) (x5 : Int32) (h : gk_H) (K : Int32 → gk_H → Prop) : Prop := gk_G E mX12_gapBehind (dd + 1, 0, 0) 54 [(0, .ref o), (1, .int x1), (2, .int x2), (3, .int x3), (4, .int x4), (5, .int x5)] [] h (fun o h1 => ∃ v, o = some (.int v) ∧ K v h1)
abbrev pX12_gapBehind_68 (E : gk_E) (dd : Nat) (o : Nat) (x1 : Int32) (x2 : Int32) (x3 : Int32) (x4 : Int32) (x5 : Int32) (x6 : Int32) (h : gk_H) (K : Int32 → gk_H → Prop) : Prop := gk_G E mX12_gapBehind (dd + 1, 0, 0) 68 [(0, .ref o), (1, .int x1), (2, .int x2), (3, .int x3), (4, .int x4), (5, .int x5), (6, .int x6)] [] h (fun o h1 => ∃ v, o = some (.int v) ∧ K v h1)
abbrev pX12_gapBehind_80 (E : gk_E) (dd : Nat) (o : Nat) (x1 : Int32) (x2 : Int32) (x3 : Int32) (x4 : Int32) (x5 : Int32) (x6 : Int32) (x7 : Int32) (h : gk_H) (K : Int32 → gk_H → Prop) : Prop := gk_G E mX12_gapBehind (dd + 1, 0, 0) 80 [(0, .ref o), (1, .int x1), (2, .int x2), (3, .int x3), (4, .int x4), (5, .int x5), (6, .int x6), (7, .int x7)] [] h (fun o h1 => ∃ v, o = some (.int v) ∧ K v h1)
set_option maxHeartbeats 4000000 in
theorem vX12_gapBehind_0 {E : gk_E} {dd : Nat} {o : Nat} {x1 : Int32} {x2 : Int32}  {h : gk_H} {K : Int32 → gk_H → Prop} (hv : (¬ x2 = ((-1)) → pX12_gapBehind_18 E dd o x1 x2 (x2 / (nI 1000)) (x2 / (nI 1000)) h K) ∧ (x2 = ((-1)) → pX12_gapBehind_18 E dd o x1 x2 (nI 0) (nI 0) h K)) : RnI E mX12_gapBehind (dd + 1, 0, 0) [.ref o, .int x1, .int x2] h K := by
  show gk_G E mX12_gapBehind (dd + 1, 0, 0) 0 [(0, .ref o), (1, .int x1), (2, .int x2)] [] h (fun o h1 => ∃ v, o = some (.int v) ∧ K v h1)
  refine gk_iload_n (pc := 0) (DX12_gapBehind_0.at 0 rfl) 2 rfl rfl ?_
  refine gk_iconst (pc := 1) ((-1)) (DX12_gapBehind_0.at 1 rfl) ci_m1 ?_
  refine gk_icmp_ne (pc := 2) 9 (DX12_gapBehind_0.at 2 rfl) (by decide) (fun c => ?_) (fun c => ?_)
  · replace hv := hv.1 c
    refine gk_iload_n (pc := 9) (DX12_gapBehind_0.at 5 rfl) 2 rfl rfl ?_
    refine gk_sipush (pc := 10) (nI 1000) (DX12_gapBehind_0.at 6 rfl) cs_1000 ?_
    refine gk_idiv (pc := 13) (DX12_gapBehind_0.at 7 rfl) (by decide) ?_
    refine gk_istore_n (pc := 14) [(3, .int (x2 / (nI 1000))), (0, .ref o), (1, .int x1), (2, .int x2)] (DX12_gapBehind_0.at 8 rfl) rfl (Nat.le_of_ble_eq_true rfl) rfl ?_
    refine gk_iload_n (pc := 15) (DX12_gapBehind_0.at 9 rfl) 0 rfl rfl ?_
    refine gk_istore (pc := 16) [(4, .int (x2 / (nI 1000))), (3, .int (x2 / (nI 1000))), (0, .ref o), (1, .int x1), (2, .int x2)] (DX12_gapBehind_0.at 10 rfl) (Nat.le_of_ble_eq_true rfl) rfl ?_
    exact gk_pick (pc := 18) [(0, .ref o), (1, .int x1), (2, .int x2), (3, .int (x2 / (nI 1000))), (4, .int (x2 / (nI 1000)))] [2, 3, 4, 1, 0] rfl hv
  · replace hv := hv.2 c
    refine gk_iconst (pc := 5) (nI 0) (DX12_gapBehind_0.at 3 rfl) ci_0 ?_
    refine gk_goto (pc := 6) 14 (DX12_gapBehind_0.at 4 rfl) (by decide) ?_
    refine gk_istore_n (pc := 14) [(3, .int (nI 0)), (0, .ref o), (1, .int x1), (2, .int x2)] (DX12_gapBehind_0.at 8 rfl) rfl (Nat.le_of_ble_eq_true rfl) rfl ?_
    refine gk_iload_n (pc := 15) (DX12_gapBehind_0.at 9 rfl) 0 rfl rfl ?_
    refine gk_istore (pc := 16) [(4, .int (nI 0)), (3, .int (nI 0)), (0, .ref o), (1, .int x1), (2, .int x2)] (DX12_gapBehind_0.at 10 rfl) (Nat.le_of_ble_eq_true rfl) rfl ?_
    exact gk_pick (pc := 18) [(0, .ref o), (1, .int x1), (2, .int x2), (3, .int (nI 0)), (4, .int (nI 0))] [2, 3, 4, 1, 0] rfl hv
set_option maxHeartbeats 4000000 in
theorem vX12_gapBehind_18 {E : gk_E} {dd : Nat} {o : Nat} {x1 : Int32} {x2 : Int32} {x3 : Int32} {x4 : Int32}  {h : gk_H} {K : Int32 → gk_H → Prop} (hv : LdR h o 11 3 fun v1 => AlI h v1 x1 fun v2 => (v2 ≤ x4 → K ((-1)) h) ∧ (¬ v2 ≤ x4 → (x2 = ((-1)) → pX12_gapBehind_54 E dd o x1 x2 x3 x4 x4 h K) ∧ (¬ x2 = ((-1)) → (¬ x4 = x3 → pX12_gapBehind_54 E dd o x1 x2 x3 x4 x4 h K) ∧ (x4 = x3 → pX12_gapBehind_54 E dd o x1 x2 x3 x4 ((x2 / (nI 100)) - (x2 / (nI 100)) / (nI 10) * (nI 10)) h K)))) : pX12_gapBehind_18 E dd o x1 x2 x3 x4 h K := by
  show gk_G E mX12_gapBehind (dd + 1, 0, 0) 18 [(0, .ref o), (1, .int x1), (2, .int x2), (3, .int x3), (4, .int x4)] [] h (fun o h1 => ∃ v, o = some (.int v) ∧ K v h1)
  refine gk_iload (pc := 18) (DX12_gapBehind_0.at 11 rfl) 4 rfl ?_
  refine gk_aload_n (pc := 20) (DX12_gapBehind_0.at 12 rfl) 0 rfl rfl ?_
  obtain ⟨fs1, v1, q1, r1, hv⟩ := hv
  refine gk_get (pc := 21) (.ref v1) (DX12_gapBehind_0.at 13 rfl) fX12_23_11 q1 r1 ?_
  refine gk_iload_n (pc := 24) (DX12_gapBehind_0.at 14 rfl) 1 rfl rfl ?_
  obtain ⟨n2, f2, q2, r2, hv⟩ := hv
  refine gk_iald (pc := 25) (DX12_gapBehind_0.at 15 rfl) q2 r2 ?_
  generalize f2 _ = v2 at hv ⊢
  refine gk_icmp_ge (pc := 26) 161 (DX12_gapBehind_0.at 16 rfl) (by decide) (fun c => ?_) (fun c => ?_)
  · replace hv := hv.1 c
    refine gk_iconst (pc := 161) ((-1)) (DX12_gapBehind_1.at 24 rfl) ci_m1 ?_
    exact gk_ireturn (pc := 162) .int (DX12_gapBehind_1.at 25 rfl) rfl rfl ⟨_, rfl, hv⟩
  · replace hv := hv.2 c
    refine gk_iload_n (pc := 29) (DX12_gapBehind_0.at 17 rfl) 2 rfl rfl ?_
    refine gk_iconst (pc := 30) ((-1)) (DX12_gapBehind_0.at 18 rfl) ci_m1 ?_
    refine gk_icmp_eq (pc := 31) 50 (DX12_gapBehind_0.at 19 rfl) (by decide) (fun c => ?_) (fun c => ?_)
    · replace hv := hv.1 c
      refine gk_iload (pc := 50) (DX12_gapBehind_0.at 29 rfl) 4 rfl ?_
      refine gk_istore (pc := 52) [(5, .int x4), (0, .ref o), (1, .int x1), (2, .int x2), (3, .int x3), (4, .int x4)] (DX12_gapBehind_0.at 30 rfl) (Nat.le_of_ble_eq_true rfl) rfl ?_
      exact gk_pick (pc := 54) [(0, .ref o), (1, .int x1), (2, .int x2), (3, .int x3), (4, .int x4), (5, .int x4)] [1, 2, 3, 4, 5, 0] rfl hv
    · replace hv := hv.2 c
      refine gk_iload (pc := 34) (DX12_gapBehind_0.at 20 rfl) 4 rfl ?_
      refine gk_iload_n (pc := 36) (DX12_gapBehind_0.at 21 rfl) 3 rfl rfl ?_
      refine gk_icmp_ne (pc := 37) 50 (DX12_gapBehind_0.at 22 rfl) (by decide) (fun c => ?_) (fun c => ?_)
      · replace hv := hv.1 c
        refine gk_iload (pc := 50) (DX12_gapBehind_0.at 29 rfl) 4 rfl ?_
        refine gk_istore (pc := 52) [(5, .int x4), (0, .ref o), (1, .int x1), (2, .int x2), (3, .int x3), (4, .int x4)] (DX12_gapBehind_0.at 30 rfl) (Nat.le_of_ble_eq_true rfl) rfl ?_
        exact gk_pick (pc := 54) [(0, .ref o), (1, .int x1), (2, .int x2), (3, .int x3), (4, .int x4), (5, .int x4)] [1, 2, 3, 4, 5, 0] rfl hv
      · replace hv := hv.2 c
        refine gk_iload_n (pc := 40) (DX12_gapBehind_0.at 23 rfl) 2 rfl rfl ?_
        refine gk_bipush (pc := 41) (nI 100) (DX12_gapBehind_0.at 24 rfl) cb_100 ?_
        refine gk_idiv (pc := 43) (DX12_gapBehind_0.at 25 rfl) (by decide) ?_
        refine gk_bipush (pc := 44) (nI 10) (DX12_gapBehind_0.at 26 rfl) cb_10 ?_
        refine gk_irem (pc := 46) (DX12_gapBehind_0.at 27 rfl) (by decide) ?_
        refine gk_goto (pc := 47) 52 (DX12_gapBehind_0.at 28 rfl) (by decide) ?_
        refine gk_istore (pc := 52) [(5, .int ((x2 / (nI 100)) - (x2 / (nI 100)) / (nI 10) * (nI 10))), (0, .ref o), (1, .int x1), (2, .int x2), (3, .int x3), (4, .int x4)] (DX12_gapBehind_0.at 30 rfl) (Nat.le_of_ble_eq_true rfl) rfl ?_
        exact gk_pick (pc := 54) [(0, .ref o), (1, .int x1), (2, .int x2), (3, .int x3), (4, .int x4), (5, .int ((x2 / (nI 100)) - (x2 / (nI 100)) / (nI 10) * (nI 10)))] [1, 2, 3, 4, 5, 0] rfl hv
set_option maxHeartbeats 4000000 in
theorem vX12_gapBehind_54 {E : gk_E} {dd : Nat} {o : Nat} {x1 : Int32} {x2 : Int32} {x3 : Int32} {x4 : Int32} {x5 : Int32}  {h : gk_H} {K : Int32 → gk_H → Prop} (hv : LdR h o 11 3 fun v1 => AlI h v1 x1 fun v2 => (v2 ≤ x5 → pX12_gapBehind_18 E dd o x1 x2 x3 (x4 + nI 1) h K) ∧ (¬ v2 ≤ x5 → pX12_gapBehind_68 E dd o x1 x2 x3 x4 x5 (nI 1) h K)) : pX12_gapBehind_54 E dd o x1 x2 x3 x4 x5 h K := by
  show gk_G E mX12_gapBehind (dd + 1, 0, 0) 54 [(0, .ref o), (1, .int x1), (2, .int x2), (3, .int x3), (4, .int x4), (5, .int x5)] [] h (fun o h1 => ∃ v, o = some (.int v) ∧ K v h1)
  refine gk_iload (pc := 54) (DX12_gapBehind_0.at 31 rfl) 5 rfl ?_
  refine gk_aload_n (pc := 56) (DX12_gapBehind_0.at 32 rfl) 0 rfl rfl ?_
  obtain ⟨fs1, v1, q1, r1, hv⟩ := hv
  refine gk_get (pc := 57) (.ref v1) (DX12_gapBehind_0.at 33 rfl) fX12_23_11 q1 r1 ?_
  refine gk_iload_n (pc := 60) (DX12_gapBehind_0.at 34 rfl) 1 rfl rfl ?_
  obtain ⟨n2, f2, q2, r2, hv⟩ := hv
  refine gk_iald (pc := 61) (DX12_gapBehind_0.at 35 rfl) q2 r2 ?_
  generalize f2 _ = v2 at hv ⊢
  refine gk_icmp_ge (pc := 62) 155 (DX12_gapBehind_0.at 36 rfl) (by decide) (fun c => ?_) (fun c => ?_)
  · replace hv := hv.1 c
    refine gk_iinc (pc := 155) (x4 + nI 1) [(4, .int (x4 + nI 1)), (0, .ref o), (1, .int x1), (2, .int x2), (3, .int x3), (5, .int x5)] 4 (DX12_gapBehind_1.at 22 rfl) rfl (by rw [ci_1]) (Nat.le_of_ble_eq_true rfl) rfl ?_
    refine gk_goto (pc := 158) 18 (DX12_gapBehind_1.at 23 rfl) (by decide) ?_
    exact gk_pick (pc := 18) [(0, .ref o), (1, .int x1), (2, .int x2), (3, .int x3), (4, .int (x4 + nI 1))] [1, 2, 3, 4, 0] rfl hv
  · replace hv := hv.2 c
    refine gk_iconst (pc := 65) (nI 1) (DX12_gapBehind_0.at 37 rfl) ci_1 ?_
    refine gk_istore (pc := 66) [(6, .int (nI 1)), (0, .ref o), (1, .int x1), (2, .int x2), (3, .int x3), (4, .int x4), (5, .int x5)] (DX12_gapBehind_0.at 38 rfl) (Nat.le_of_ble_eq_true rfl) rfl ?_
    exact gk_pick (pc := 68) [(0, .ref o), (1, .int x1), (2, .int x2), (3, .int x3), (4, .int x4), (5, .int x5), (6, .int (nI 1))] [1, 2, 3, 4, 5, 6, 0] rfl hv
set_option maxHeartbeats 4000000 in
theorem vX12_gapBehind_68 {E : gk_E} {dd : Nat} {o : Nat} {x1 : Int32} {x2 : Int32} {x3 : Int32} {x4 : Int32} {x5 : Int32} {x6 : Int32}  {h : gk_H} {K : Int32 → gk_H → Prop} (hv : LdI h o 11 0 fun v1 => (v1 ≤ x6 → pX12_gapBehind_54 E dd o x1 x2 x3 x4 (x5 + nI 1) h K) ∧ (¬ v1 ≤ x6 → pX12_gapBehind_80 E dd o x1 x2 x3 x4 x5 x6 (nI 1) h K)) : pX12_gapBehind_68 E dd o x1 x2 x3 x4 x5 x6 h K := by
  show gk_G E mX12_gapBehind (dd + 1, 0, 0) 68 [(0, .ref o), (1, .int x1), (2, .int x2), (3, .int x3), (4, .int x4), (5, .int x5), (6, .int x6)] [] h (fun o h1 => ∃ v, o = some (.int v) ∧ K v h1)
  refine gk_iload (pc := 68) (DX12_gapBehind_0.at 39 rfl) 6 rfl ?_
  refine gk_aload_n (pc := 70) (DX12_gapBehind_0.at 40 rfl) 0 rfl rfl ?_
  obtain ⟨fs1, v1, q1, r1, hv⟩ := hv
  refine gk_get (pc := 71) (.int v1) (DX12_gapBehind_0.at 41 rfl) fX12_9_11 q1 r1 ?_
  refine gk_icmp_ge (pc := 74) 149 (DX12_gapBehind_0.at 42 rfl) (by decide) (fun c => ?_) (fun c => ?_)
  · replace hv := hv.1 c
    refine gk_iinc (pc := 149) (x5 + nI 1) [(5, .int (x5 + nI 1)), (0, .ref o), (1, .int x1), (2, .int x2), (3, .int x3), (4, .int x4), (6, .int x6)] 5 (DX12_gapBehind_1.at 20 rfl) rfl (by rw [ci_1]) (Nat.le_of_ble_eq_true rfl) rfl ?_
    refine gk_goto (pc := 152) 54 (DX12_gapBehind_1.at 21 rfl) (by decide) ?_
    exact gk_pick (pc := 54) [(0, .ref o), (1, .int x1), (2, .int x2), (3, .int x3), (4, .int x4), (5, .int (x5 + nI 1))] [1, 2, 3, 4, 5, 0] rfl hv
  · replace hv := hv.2 c
    refine gk_iconst (pc := 77) (nI 1) (DX12_gapBehind_0.at 43 rfl) ci_1 ?_
    refine gk_istore (pc := 78) [(7, .int (nI 1)), (0, .ref o), (1, .int x1), (2, .int x2), (3, .int x3), (4, .int x4), (5, .int x5), (6, .int x6)] (DX12_gapBehind_0.at 44 rfl) (Nat.le_of_ble_eq_true rfl) rfl ?_
    exact gk_pick (pc := 80) [(0, .ref o), (1, .int x1), (2, .int x2), (3, .int x3), (4, .int x4), (5, .int x5), (6, .int x6), (7, .int (nI 1))] [1, 2, 3, 4, 5, 6, 7, 0] rfl hv
set_option maxHeartbeats 4000000 in
theorem vX12_gapBehind_80 {E : gk_E} {dd : Nat} {o : Nat} {x1 : Int32} {x2 : Int32} {x3 : Int32} {x4 : Int32} {x5 : Int32} {x6 : Int32} {x7 : Int32}  {h : gk_H} {K : Int32 → gk_H → Prop} (hv : LdI h o 11 0 fun v1 => (v1 ≤ x7 → pX12_gapBehind_68 E dd o x1 x2 x3 x4 x5 (x6 + nI 1) h K) ∧ (¬ v1 ≤ x7 → ((((((nI 1000) * x4) + ((nI 100) * x5)) + ((nI 10) * x6)) + x7) ≤ x2 → pX12_gapBehind_80 E dd o x1 x2 x3 x4 x5 x6 (x7 + nI 1) h K) ∧ (¬ (((((nI 1000) * x4) + ((nI 100) * x5)) + ((nI 10) * x6)) + x7) ≤ x2 → (∃ fs, h[o]? = some (.inr (11, fs))) ∧ RnI E mX12_isGap (dd, 0, 0) [.ref o, .int x1, .int x4, .int x5, .int x6, .int x7] h (fun v2 h2 => (v2 = 0 → pX12_gapBehind_80 E dd o x1 x2 x3 x4 x5 x6 (x7 + nI 1) h2 K) ∧ (¬ v2 = 0 → K (((((nI 1000) * x4) + ((nI 100) * x5)) + ((nI 10) * x6)) + x7) h2))))) : pX12_gapBehind_80 E dd o x1 x2 x3 x4 x5 x6 x7 h K := by
  show gk_G E mX12_gapBehind (dd + 1, 0, 0) 80 [(0, .ref o), (1, .int x1), (2, .int x2), (3, .int x3), (4, .int x4), (5, .int x5), (6, .int x6), (7, .int x7)] [] h (fun o h1 => ∃ v, o = some (.int v) ∧ K v h1)
  refine gk_iload (pc := 80) (DX12_gapBehind_0.at 45 rfl) 7 rfl ?_
  refine gk_aload_n (pc := 82) (DX12_gapBehind_0.at 46 rfl) 0 rfl rfl ?_
  obtain ⟨fs1, v1, q1, r1, hv⟩ := hv
  refine gk_get (pc := 83) (.int v1) (DX12_gapBehind_0.at 47 rfl) fX12_9_11 q1 r1 ?_
  refine gk_icmp_ge (pc := 86) 143 (DX12_gapBehind_0.at 48 rfl) (by decide) (fun c => ?_) (fun c => ?_)
  · replace hv := hv.1 c
    refine gk_iinc (pc := 143) (x6 + nI 1) [(6, .int (x6 + nI 1)), (0, .ref o), (1, .int x1), (2, .int x2), (3, .int x3), (4, .int x4), (5, .int x5), (7, .int x7)] 6 (DX12_gapBehind_1.at 18 rfl) rfl (by rw [ci_1]) (Nat.le_of_ble_eq_true rfl) rfl ?_
    refine gk_goto (pc := 146) 68 (DX12_gapBehind_1.at 19 rfl) (by decide) ?_
    exact gk_pick (pc := 68) [(0, .ref o), (1, .int x1), (2, .int x2), (3, .int x3), (4, .int x4), (5, .int x5), (6, .int (x6 + nI 1))] [1, 2, 3, 4, 5, 6, 0] rfl hv
  · replace hv := hv.2 c
    refine gk_sipush (pc := 89) (nI 1000) (DX12_gapBehind_0.at 49 rfl) cs_1000 ?_
    refine gk_iload (pc := 92) (DX12_gapBehind_0.at 50 rfl) 4 rfl ?_
    refine gk_imul (pc := 94) (DX12_gapBehind_0.at 51 rfl) ?_
    refine gk_bipush (pc := 95) (nI 100) (DX12_gapBehind_0.at 52 rfl) cb_100 ?_
    refine gk_iload (pc := 97) (DX12_gapBehind_0.at 53 rfl) 5 rfl ?_
    refine gk_imul (pc := 99) (DX12_gapBehind_0.at 54 rfl) ?_
    refine gk_iadd (pc := 100) (DX12_gapBehind_0.at 55 rfl) ?_
    refine gk_bipush (pc := 101) (nI 10) (DX12_gapBehind_0.at 56 rfl) cb_10 ?_
    refine gk_iload (pc := 103) (DX12_gapBehind_0.at 57 rfl) 6 rfl ?_
    refine gk_imul (pc := 105) (DX12_gapBehind_0.at 58 rfl) ?_
    refine gk_iadd (pc := 106) (DX12_gapBehind_0.at 59 rfl) ?_
    refine gk_iload (pc := 107) (DX12_gapBehind_1.at 0 rfl) 7 rfl ?_
    refine gk_iadd (pc := 109) (DX12_gapBehind_1.at 1 rfl) ?_
    refine gk_istore (pc := 110) [(8, .int (((((nI 1000) * x4) + ((nI 100) * x5)) + ((nI 10) * x6)) + x7)), (0, .ref o), (1, .int x1), (2, .int x2), (3, .int x3), (4, .int x4), (5, .int x5), (6, .int x6), (7, .int x7)] (DX12_gapBehind_1.at 2 rfl) (Nat.le_of_ble_eq_true rfl) rfl ?_
    refine gk_iload (pc := 112) (DX12_gapBehind_1.at 3 rfl) 0 rfl ?_
    refine gk_iload_n (pc := 114) (DX12_gapBehind_1.at 4 rfl) 3 rfl rfl ?_
    refine gk_icmp_le (pc := 115) 137 (DX12_gapBehind_1.at 5 rfl) (by decide) (fun c => ?_) (fun c => ?_)
    · replace hv := hv.1 c
      refine gk_iinc (pc := 137) (x7 + nI 1) [(7, .int (x7 + nI 1)), (8, .int (((((nI 1000) * x4) + ((nI 100) * x5)) + ((nI 10) * x6)) + x7)), (0, .ref o), (1, .int x1), (2, .int x2), (3, .int x3), (4, .int x4), (5, .int x5), (6, .int x6)] 8 (DX12_gapBehind_1.at 16 rfl) rfl (by rw [ci_1]) (Nat.le_of_ble_eq_true rfl) rfl ?_
      refine gk_goto (pc := 140) 80 (DX12_gapBehind_1.at 17 rfl) (by decide) ?_
      exact gk_pick (pc := 80) [(0, .ref o), (1, .int x1), (2, .int x2), (3, .int x3), (4, .int x4), (5, .int x5), (6, .int x6), (7, .int (x7 + nI 1))] [2, 3, 4, 5, 6, 7, 8, 0] rfl hv
    · replace hv := hv.2 c
      refine gk_aload_n (pc := 118) (DX12_gapBehind_1.at 6 rfl) 1 rfl rfl ?_
      refine gk_iload_n (pc := 119) (DX12_gapBehind_1.at 7 rfl) 2 rfl rfl ?_
      refine gk_iload (pc := 120) (DX12_gapBehind_1.at 8 rfl) 5 rfl ?_
      refine gk_iload (pc := 122) (DX12_gapBehind_1.at 9 rfl) 6 rfl ?_
      refine gk_iload (pc := 124) (DX12_gapBehind_1.at 10 rfl) 7 rfl ?_
      refine gk_iload (pc := 126) (DX12_gapBehind_1.at 11 rfl) 8 rfl ?_
      obtain ⟨⟨fs2, q2⟩, hv⟩ := hv
      refine gk_vV (pc := 128) [.int x1, .int x4, .int x5, .int x6, .int x7] [] (DX12_gapBehind_1.at 12 rfl) cvX12_167 q2 rfl rfl (Nat.le_of_ble_eq_true rfl) (Nat.le_of_ble_eq_true rfl) (gk_Run.post (fun o h2 z => ?_) hv)
      obtain ⟨v2, rfl, hv⟩ := z
      refine gk_if_eq (pc := 131) 137 (DX12_gapBehind_1.at 13 rfl) (by decide) (fun c => ?_) (fun c => ?_)
      · replace hv := hv.1 c
        refine gk_iinc (pc := 137) (x7 + nI 1) [(7, .int (x7 + nI 1)), (8, .int (((((nI 1000) * x4) + ((nI 100) * x5)) + ((nI 10) * x6)) + x7)), (0, .ref o), (1, .int x1), (2, .int x2), (3, .int x3), (4, .int x4), (5, .int x5), (6, .int x6)] 8 (DX12_gapBehind_1.at 16 rfl) rfl (by rw [ci_1]) (Nat.le_of_ble_eq_true rfl) rfl ?_
        refine gk_goto (pc := 140) 80 (DX12_gapBehind_1.at 17 rfl) (by decide) ?_
        exact gk_pick (pc := 80) [(0, .ref o), (1, .int x1), (2, .int x2), (3, .int x3), (4, .int x4), (5, .int x5), (6, .int x6), (7, .int (x7 + nI 1))] [2, 3, 4, 5, 6, 7, 8, 0] rfl hv
      · replace hv := hv.2 c
        refine gk_iload (pc := 134) (DX12_gapBehind_1.at 14 rfl) 0 rfl ?_
        exact gk_ireturn (pc := 136) .int (DX12_gapBehind_1.at 15 rfl) rfl rfl ⟨_, rfl, hv⟩
set_option maxHeartbeats 4000000 in
theorem vX12_get_0 {E : gk_E} {dd : Nat} {o : Nat} {x1 : Int32} {x2 : Int32}  {h : gk_H} {K : Int64 → gk_H → Prop} (hv : RnI E mX12_isList (dd, 0, 0) [.int x1] h (fun v1 h1 => (v1 = 0 → K ((-9223372036854775808)) h1) ∧ (¬ v1 = 0 → LdR h1 o 11 15 fun v2 => AlI h1 v2 x1 fun v3 => RnI E mX12_isFrom (dd, 0, 0) [.long x2.toInt64, .long (lN 0), .long ((v3 - (nI 1)).toInt64)] h1 (fun v4 h4 => (v4 = 0 → K ((-9223372036854775808)) h4) ∧ (¬ v4 = 0 → LdR h4 o 11 16 fun v5 => AlL h4 v5 (((nI 12) * x1) + x2) fun v6 => K v6 h4))))) : RnL E mX12_get (dd + 1, 0, 0) [.ref o, .int x1, .int x2] h K := by
  show gk_G E mX12_get (dd + 1, 0, 0) 0 [(0, .ref o), (1, .int x1), (2, .int x2)] [] h (fun o h1 => ∃ v, o = some (.long v) ∧ K v h1)
  refine gk_iload_n (pc := 0) (DX12_get_0.at 0 rfl) 1 rfl rfl ?_
  refine gk_vS (pc := 1) [.int x1] [] (DX12_get_0.at 1 rfl) csX12_241 rfl rfl (Nat.le_of_ble_eq_true rfl) (Nat.le_of_ble_eq_true rfl) (gk_Run.post (fun o h1 z => ?_) hv)
  obtain ⟨v1, rfl, hv⟩ := z
  refine gk_if_eq (pc := 4) 39 (DX12_get_0.at 2 rfl) (by decide) (fun c => ?_) (fun c => ?_)
  · replace hv := hv.1 c
    refine gk_ldc2 (pc := 39) ((-9223372036854775808)) (DX12_get_0.at 24 rfl) klX12_255 ?_
    exact gk_lreturn (pc := 42) (DX12_get_0.at 25 rfl) rfl ⟨_, rfl, hv⟩
  · replace hv := hv.2 c
    refine gk_iload_n (pc := 7) (DX12_get_0.at 3 rfl) 2 rfl rfl ?_
    refine gk_i2l (pc := 8) (DX12_get_0.at 4 rfl) ?_
    refine gk_lconst (pc := 9) (lN 0) (DX12_get_0.at 5 rfl) rfl ?_
    refine gk_aload_n (pc := 10) (DX12_get_0.at 6 rfl) 0 rfl rfl ?_
    obtain ⟨fs2, v2, q2, r2, hv⟩ := hv
    refine gk_get (pc := 11) (.ref v2) (DX12_get_0.at 7 rfl) fX12_35_11 q2 r2 ?_
    refine gk_iload_n (pc := 14) (DX12_get_0.at 8 rfl) 1 rfl rfl ?_
    obtain ⟨n3, f3, q3, r3, hv⟩ := hv
    refine gk_iald (pc := 15) (DX12_get_0.at 9 rfl) q3 r3 ?_
    generalize f3 _ = v3 at hv ⊢
    refine gk_iconst (pc := 16) (nI 1) (DX12_get_0.at 10 rfl) ci_1 ?_
    refine gk_isub (pc := 17) (DX12_get_0.at 11 rfl) ?_
    refine gk_i2l (pc := 18) (DX12_get_0.at 12 rfl) ?_
    refine gk_vS (pc := 19) [.long x2.toInt64, .long (lN 0), .long ((v3 - (nI 1)).toInt64)] [] (DX12_get_0.at 13 rfl) csX12_70 rfl rfl (Nat.le_of_ble_eq_true rfl) (Nat.le_of_ble_eq_true rfl) (gk_Run.post (fun o h4 z => ?_) hv)
    obtain ⟨v4, rfl, hv⟩ := z
    refine gk_if_eq (pc := 22) 39 (DX12_get_0.at 14 rfl) (by decide) (fun c => ?_) (fun c => ?_)
    · replace hv := hv.1 c
      refine gk_ldc2 (pc := 39) ((-9223372036854775808)) (DX12_get_0.at 24 rfl) klX12_255 ?_
      exact gk_lreturn (pc := 42) (DX12_get_0.at 25 rfl) rfl ⟨_, rfl, hv⟩
    · replace hv := hv.2 c
      refine gk_aload_n (pc := 25) (DX12_get_0.at 15 rfl) 0 rfl rfl ?_
      obtain ⟨fs5, v5, q5, r5, hv⟩ := hv
      refine gk_get (pc := 26) (.ref v5) (DX12_get_0.at 16 rfl) fX12_38_11 q5 r5 ?_
      refine gk_bipush (pc := 29) (nI 12) (DX12_get_0.at 17 rfl) cb_12 ?_
      refine gk_iload_n (pc := 31) (DX12_get_0.at 18 rfl) 1 rfl rfl ?_
      refine gk_imul (pc := 32) (DX12_get_0.at 19 rfl) ?_
      refine gk_iload_n (pc := 33) (DX12_get_0.at 20 rfl) 2 rfl rfl ?_
      refine gk_iadd (pc := 34) (DX12_get_0.at 21 rfl) ?_
      obtain ⟨n6, f6, q6, r6, hv⟩ := hv
      refine gk_lald (pc := 35) (DX12_get_0.at 22 rfl) q6 r6 ?_
      generalize f6 _ = v6 at hv ⊢
      refine gk_goto (pc := 36) 42 (DX12_get_0.at 23 rfl) (by decide) ?_
      exact gk_lreturn (pc := 42) (DX12_get_0.at 25 rfl) rfl ⟨_, rfl, hv⟩
set_option maxHeartbeats 4000000 in
theorem vX12_has_0 {E : gk_E} {dd : Nat} {x0 : Int32} {x1 : Int32}  {h : gk_H} {K : Int32 → gk_H → Prop} (hv : (¬ ((x0 >>> (x1 &&& 31)) &&& (nI 1)) = (nI 1) → K (nI 0) h) ∧ (((x0 >>> (x1 &&& 31)) &&& (nI 1)) = (nI 1) → K (nI 1) h)) : RnI E mX12_has (dd, 0, 0) [.int x0, .int x1] h K := by
  show gk_G E mX12_has (dd, 0, 0) 0 [(0, .int x0), (1, .int x1)] [] h (fun o h1 => ∃ v, o = some (.int v) ∧ K v h1)
  refine gk_iload_n (pc := 0) (DX12_has_0.at 0 rfl) 0 rfl rfl ?_
  refine gk_iload_n (pc := 1) (DX12_has_0.at 1 rfl) 1 rfl rfl ?_
  refine gk_ishr (pc := 2) (DX12_has_0.at 2 rfl) ?_
  refine gk_iconst (pc := 3) (nI 1) (DX12_has_0.at 3 rfl) ci_1 ?_
  refine gk_iand (pc := 4) (DX12_has_0.at 4 rfl) ?_
  refine gk_iconst (pc := 5) (nI 1) (DX12_has_0.at 5 rfl) ci_1 ?_
  refine gk_icmp_ne (pc := 6) 13 (DX12_has_0.at 6 rfl) (by decide) (fun c => ?_) (fun c => ?_)
  · replace hv := hv.1 c
    refine gk_iconst (pc := 13) (nI 0) (DX12_has_0.at 9 rfl) ci_0 ?_
    exact gk_ireturn (pc := 14) .boolean (DX12_has_0.at 10 rfl) rfl rfl ⟨_, rfl, hv⟩
  · replace hv := hv.2 c
    refine gk_iconst (pc := 9) (nI 1) (DX12_has_0.at 7 rfl) ci_1 ?_
    refine gk_goto (pc := 10) 14 (DX12_has_0.at 8 rfl) (by decide) ?_
    exact gk_ireturn (pc := 14) .boolean (DX12_has_0.at 10 rfl) rfl rfl ⟨_, rfl, hv⟩
abbrev pX12_image_15 (E : gk_E) (dd : Nat) (o : Nat) (x1 : Int32) (h : gk_H) (K : Int32 → gk_H → Prop) : Prop := gk_G E mX12_image (dd, 0, 0) 15 [(0, .ref o), (1, .int x1)] [] h (fun o h1 => ∃ v, o = some (.int v) ∧ K v h1)
abbrev pX12_image_40 (E : gk_E) (dd : Nat) (o : Nat) (x1 : Int32) (h : gk_H) (K : Int32 → gk_H → Prop) : Prop := gk_G E mX12_image (dd, 0, 0) 40 [(0, .ref o), (1, .int x1)] [] h (fun o h1 => ∃ v, o = some (.int v) ∧ K v h1)
abbrev pX12_image_66 (E : gk_E) (dd : Nat) (o : Nat) (x1 : Int32) (h : gk_H) (K : Int32 → gk_H → Prop) : Prop := gk_G E mX12_image (dd, 0, 0) 66 [(0, .ref o), (1, .int x1)] [] h (fun o h1 => ∃ v, o = some (.int v) ∧ K v h1)
abbrev pX12_image_91 (E : gk_E) (dd : Nat) (o : Nat) (x1 : Int32) (h : gk_H) (K : Int32 → gk_H → Prop) : Prop := gk_G E mX12_image (dd, 0, 0) 91 [(0, .ref o), (1, .int x1)] [] h (fun o h1 => ∃ v, o = some (.int v) ∧ K v h1)
set_option maxHeartbeats 4000000 in
theorem vX12_image_0 {E : gk_E} {dd : Nat} {o : Nat}  {h : gk_H} {K : Int32 → gk_H → Prop} (hv : StI h o 11 27 (nI 1) fun h1 => LdI h1 o 11 0 fun v2 => StI h1 o 11 28 v2 fun h3 => pX12_image_15 E dd o (nI 0) h3 K) : RnI E mX12_image (dd, 0, 0) [.ref o] h K := by
  show gk_G E mX12_image (dd, 0, 0) 0 [(0, .ref o)] [] h (fun o h1 => ∃ v, o = some (.int v) ∧ K v h1)
  refine gk_aload_n (pc := 0) (DX12_image_0.at 0 rfl) 0 rfl rfl ?_
  refine gk_iconst (pc := 1) (nI 1) (DX12_image_0.at 1 rfl) ci_1 ?_
  obtain ⟨fs1, q1, r1, hv⟩ := hv
  refine gk_put (pc := 2) (DX12_image_0.at 2 rfl) fX12_312_11w q1 r1 rfl rfl ?_
  generalize h.set _ _ = h1 at hv ⊢
  refine gk_aload_n (pc := 5) (DX12_image_0.at 3 rfl) 0 rfl rfl ?_
  refine gk_aload_n (pc := 6) (DX12_image_0.at 4 rfl) 0 rfl rfl ?_
  obtain ⟨fs2, v2, q2, r2, hv⟩ := hv
  refine gk_get (pc := 7) (.int v2) (DX12_image_0.at 5 rfl) fX12_9_11 q2 r2 ?_
  obtain ⟨fs3, q3, r3, hv⟩ := hv
  refine gk_put (pc := 10) (DX12_image_0.at 6 rfl) fX12_315_11w q3 r3 rfl rfl ?_
  generalize h1.set _ _ = h3 at hv ⊢
  refine gk_iconst (pc := 13) (nI 0) (DX12_image_0.at 7 rfl) ci_0 ?_
  refine gk_istore_n (pc := 14) [(1, .int (nI 0)), (0, .ref o)] (DX12_image_0.at 8 rfl) rfl (Nat.le_of_ble_eq_true rfl) rfl ?_
  exact gk_pick (pc := 15) [(0, .ref o), (1, .int (nI 0))] [1, 0] rfl hv
set_option maxHeartbeats 4000000 in
theorem vX12_image_15 {E : gk_E} {dd : Nat} {o : Nat} {x1 : Int32}  {h : gk_H} {K : Int32 → gk_H → Prop} (hv : ((nI 4) ≤ x1 → pX12_image_40 E dd o (nI 0) h K) ∧ (¬ (nI 4) ≤ x1 → LdR h o 11 29 fun v1 => LdR h o 11 1 fun v2 => AlI h v2 x1 fun v3 => AsI h v1 x1 v3 fun h4 => pX12_image_15 E dd o (x1 + nI 1) h4 K)) : pX12_image_15 E dd o x1 h K := by
  show gk_G E mX12_image (dd, 0, 0) 15 [(0, .ref o), (1, .int x1)] [] h (fun o h1 => ∃ v, o = some (.int v) ∧ K v h1)
  refine gk_iload_n (pc := 15) (DX12_image_0.at 9 rfl) 1 rfl rfl ?_
  refine gk_iconst (pc := 16) (nI 4) (DX12_image_0.at 10 rfl) ci_4 ?_
  refine gk_icmp_ge (pc := 17) 38 (DX12_image_0.at 11 rfl) (by decide) (fun c => ?_) (fun c => ?_)
  · replace hv := hv.1 c
    refine gk_iconst (pc := 38) (nI 0) (DX12_image_0.at 22 rfl) ci_0 ?_
    refine gk_istore_n (pc := 39) [(1, .int (nI 0)), (0, .ref o)] (DX12_image_0.at 23 rfl) rfl (Nat.le_of_ble_eq_true rfl) rfl ?_
    exact gk_pick (pc := 40) [(0, .ref o), (1, .int (nI 0))] [1, 0] rfl hv
  · replace hv := hv.2 c
    refine gk_aload_n (pc := 20) (DX12_image_0.at 12 rfl) 0 rfl rfl ?_
    obtain ⟨fs1, v1, q1, r1, hv⟩ := hv
    refine gk_get (pc := 21) (.ref v1) (DX12_image_0.at 13 rfl) fX12_55_11 q1 r1 ?_
    refine gk_iload_n (pc := 24) (DX12_image_0.at 14 rfl) 1 rfl rfl ?_
    refine gk_aload_n (pc := 25) (DX12_image_0.at 15 rfl) 0 rfl rfl ?_
    obtain ⟨fs2, v2, q2, r2, hv⟩ := hv
    refine gk_get (pc := 26) (.ref v2) (DX12_image_0.at 16 rfl) fX12_15_11 q2 r2 ?_
    refine gk_iload_n (pc := 29) (DX12_image_0.at 17 rfl) 1 rfl rfl ?_
    obtain ⟨n3, f3, q3, r3, hv⟩ := hv
    refine gk_iald (pc := 30) (DX12_image_0.at 18 rfl) q3 r3 ?_
    generalize f3 _ = v3 at hv ⊢
    obtain ⟨n4, f4, q4, r4, hv⟩ := hv
    refine gk_iast (pc := 31) (DX12_image_0.at 19 rfl) q4 r4 ?_
    generalize h.set _ _ = h4 at hv ⊢
    refine gk_iinc (pc := 32) (x1 + nI 1) [(1, .int (x1 + nI 1)), (0, .ref o)] 1 (DX12_image_0.at 20 rfl) rfl (by rw [ci_1]) (Nat.le_of_ble_eq_true rfl) rfl ?_
    refine gk_goto (pc := 35) 15 (DX12_image_0.at 21 rfl) (by decide) ?_
    exact gk_pick (pc := 15) [(0, .ref o), (1, .int (x1 + nI 1))] [1, 0] rfl hv
set_option maxHeartbeats 4000000 in
theorem vX12_image_40 {E : gk_E} {dd : Nat} {o : Nat} {x1 : Int32}  {h : gk_H} {K : Int32 → gk_H → Prop} (hv : ((nI 64) ≤ x1 → pX12_image_66 E dd o (nI 0) h K) ∧ (¬ (nI 64) ≤ x1 → LdR h o 11 30 fun v1 => LdR h o 11 2 fun v2 => AlZ h v2 x1 fun v3 => AsZ h v1 x1 v3 fun h4 => pX12_image_40 E dd o (x1 + nI 1) h4 K)) : pX12_image_40 E dd o x1 h K := by
  show gk_G E mX12_image (dd, 0, 0) 40 [(0, .ref o), (1, .int x1)] [] h (fun o h1 => ∃ v, o = some (.int v) ∧ K v h1)
  refine gk_iload_n (pc := 40) (DX12_image_0.at 24 rfl) 1 rfl rfl ?_
  refine gk_bipush (pc := 41) (nI 64) (DX12_image_0.at 25 rfl) cb_64 ?_
  refine gk_icmp_ge (pc := 43) 64 (DX12_image_0.at 26 rfl) (by decide) (fun c => ?_) (fun c => ?_)
  · replace hv := hv.1 c
    refine gk_iconst (pc := 64) (nI 0) (DX12_image_0.at 37 rfl) ci_0 ?_
    refine gk_istore_n (pc := 65) [(1, .int (nI 0)), (0, .ref o)] (DX12_image_0.at 38 rfl) rfl (Nat.le_of_ble_eq_true rfl) rfl ?_
    exact gk_pick (pc := 66) [(0, .ref o), (1, .int (nI 0))] [1, 0] rfl hv
  · replace hv := hv.2 c
    refine gk_aload_n (pc := 46) (DX12_image_0.at 27 rfl) 0 rfl rfl ?_
    obtain ⟨fs1, v1, q1, r1, hv⟩ := hv
    refine gk_get (pc := 47) (.ref v1) (DX12_image_0.at 28 rfl) fX12_58_11 q1 r1 ?_
    refine gk_iload_n (pc := 50) (DX12_image_0.at 29 rfl) 1 rfl rfl ?_
    refine gk_aload_n (pc := 51) (DX12_image_0.at 30 rfl) 0 rfl rfl ?_
    obtain ⟨fs2, v2, q2, r2, hv⟩ := hv
    refine gk_get (pc := 52) (.ref v2) (DX12_image_0.at 31 rfl) fX12_19_11 q2 r2 ?_
    refine gk_iload_n (pc := 55) (DX12_image_0.at 32 rfl) 1 rfl rfl ?_
    obtain ⟨n3, f3, q3, r3, hv⟩ := hv
    refine gk_zald (pc := 56) (DX12_image_0.at 33 rfl) q3 r3 ?_
    generalize f3 _ = v3 at hv ⊢
    obtain ⟨n4, f4, q4, r4, hv⟩ := hv
    refine gk_zast (pc := 57) (DX12_image_0.at 34 rfl) q4 r4 ?_
    generalize h.set _ _ = h4 at hv ⊢
    refine gk_iinc (pc := 58) (x1 + nI 1) [(1, .int (x1 + nI 1)), (0, .ref o)] 1 (DX12_image_0.at 35 rfl) rfl (by rw [ci_1]) (Nat.le_of_ble_eq_true rfl) rfl ?_
    refine gk_goto (pc := 61) 40 (DX12_image_0.at 36 rfl) (by decide) ?_
    exact gk_pick (pc := 40) [(0, .ref o), (1, .int (x1 + nI 1))] [1, 0] rfl hv
set_option maxHeartbeats 4000000 in
theorem vX12_image_66 {E : gk_E} {dd : Nat} {o : Nat} {x1 : Int32}  {h : gk_H} {K : Int32 → gk_H → Prop} (hv : ((nI 3) < x1 → pX12_image_91 E dd o (nI 0) h K) ∧ (¬ (nI 3) < x1 → LdR h o 11 31 fun v1 => LdR h o 11 3 fun v2 => AlI h v2 x1 fun v3 => AsI h v1 x1 v3 fun h4 => pX12_image_66 E dd o (x1 + nI 1) h4 K)) : pX12_image_66 E dd o x1 h K := by
  show gk_G E mX12_image (dd, 0, 0) 66 [(0, .ref o), (1, .int x1)] [] h (fun o h1 => ∃ v, o = some (.int v) ∧ K v h1)
  refine gk_iload_n (pc := 66) (DX12_image_0.at 39 rfl) 1 rfl rfl ?_
  refine gk_iconst (pc := 67) (nI 3) (DX12_image_0.at 40 rfl) ci_3 ?_
  refine gk_icmp_gt (pc := 68) 89 (DX12_image_0.at 41 rfl) (by decide) (fun c => ?_) (fun c => ?_)
  · replace hv := hv.1 c
    refine gk_iconst (pc := 89) (nI 0) (DX12_image_0.at 52 rfl) ci_0 ?_
    refine gk_istore_n (pc := 90) [(1, .int (nI 0)), (0, .ref o)] (DX12_image_0.at 53 rfl) rfl (Nat.le_of_ble_eq_true rfl) rfl ?_
    exact gk_pick (pc := 91) [(0, .ref o), (1, .int (nI 0))] [1, 0] rfl hv
  · replace hv := hv.2 c
    refine gk_aload_n (pc := 71) (DX12_image_0.at 42 rfl) 0 rfl rfl ?_
    obtain ⟨fs1, v1, q1, r1, hv⟩ := hv
    refine gk_get (pc := 72) (.ref v1) (DX12_image_0.at 43 rfl) fX12_61_11 q1 r1 ?_
    refine gk_iload_n (pc := 75) (DX12_image_0.at 44 rfl) 1 rfl rfl ?_
    refine gk_aload_n (pc := 76) (DX12_image_0.at 45 rfl) 0 rfl rfl ?_
    obtain ⟨fs2, v2, q2, r2, hv⟩ := hv
    refine gk_get (pc := 77) (.ref v2) (DX12_image_0.at 46 rfl) fX12_23_11 q2 r2 ?_
    refine gk_iload_n (pc := 80) (DX12_image_0.at 47 rfl) 1 rfl rfl ?_
    obtain ⟨n3, f3, q3, r3, hv⟩ := hv
    refine gk_iald (pc := 81) (DX12_image_0.at 48 rfl) q3 r3 ?_
    generalize f3 _ = v3 at hv ⊢
    obtain ⟨n4, f4, q4, r4, hv⟩ := hv
    refine gk_iast (pc := 82) (DX12_image_0.at 49 rfl) q4 r4 ?_
    generalize h.set _ _ = h4 at hv ⊢
    refine gk_iinc (pc := 83) (x1 + nI 1) [(1, .int (x1 + nI 1)), (0, .ref o)] 1 (DX12_image_0.at 50 rfl) rfl (by rw [ci_1]) (Nat.le_of_ble_eq_true rfl) rfl ?_
    refine gk_goto (pc := 86) 66 (DX12_image_0.at 51 rfl) (by decide) ?_
    exact gk_pick (pc := 66) [(0, .ref o), (1, .int (x1 + nI 1))] [1, 0] rfl hv
set_option maxHeartbeats 4000000 in
theorem vX12_image_91 {E : gk_E} {dd : Nat} {o : Nat} {x1 : Int32}  {h : gk_H} {K : Int32 → gk_H → Prop} (hv : ((nI 144) ≤ x1 → LdI h o 11 5 fun v1 => StZ h o 11 33 v1 fun h2 => LdI h2 o 11 0 fun v3 => K v3 h2) ∧ (¬ (nI 144) ≤ x1 → LdR h o 11 32 fun v4 => LdR h o 11 4 fun v5 => AlI h v5 x1 fun v6 => AsI h v4 x1 v6 fun h7 => pX12_image_91 E dd o (x1 + nI 1) h7 K)) : pX12_image_91 E dd o x1 h K := by
  show gk_G E mX12_image (dd, 0, 0) 91 [(0, .ref o), (1, .int x1)] [] h (fun o h1 => ∃ v, o = some (.int v) ∧ K v h1)
  refine gk_iload_n (pc := 91) (DX12_image_0.at 54 rfl) 1 rfl rfl ?_
  refine gk_sipush (pc := 92) (nI 144) (DX12_image_0.at 55 rfl) cs_144 ?_
  refine gk_icmp_ge (pc := 95) 116 (DX12_image_0.at 56 rfl) (by decide) (fun c => ?_) (fun c => ?_)
  · replace hv := hv.1 c
    refine gk_aload_n (pc := 116) (DX12_image_1.at 7 rfl) 0 rfl rfl ?_
    refine gk_aload_n (pc := 117) (DX12_image_1.at 8 rfl) 0 rfl rfl ?_
    obtain ⟨fs1, v1, q1, r1, hv⟩ := hv
    refine gk_get (pc := 118) (.int v1) (DX12_image_1.at 9 rfl) fX12_74_11 q1 r1 ?_
    obtain ⟨b2, fs2, q2, r2, hv⟩ := hv
    refine gk_put (pc := 121) (DX12_image_1.at 10 rfl) fX12_318_11w q2 r2 (bz_n b2) (bz_f b2) ?_
    generalize h.set _ _ = h2 at hv ⊢
    refine gk_aload_n (pc := 124) (DX12_image_1.at 11 rfl) 0 rfl rfl ?_
    obtain ⟨fs3, v3, q3, r3, hv⟩ := hv
    refine gk_get (pc := 125) (.int v3) (DX12_image_1.at 12 rfl) fX12_9_11 q3 r3 ?_
    exact gk_ireturn (pc := 128) .int (DX12_image_1.at 13 rfl) rfl rfl ⟨_, rfl, hv⟩
  · replace hv := hv.2 c
    refine gk_aload_n (pc := 98) (DX12_image_0.at 57 rfl) 0 rfl rfl ?_
    obtain ⟨fs4, v4, q4, r4, hv⟩ := hv
    refine gk_get (pc := 99) (.ref v4) (DX12_image_0.at 58 rfl) fX12_64_11 q4 r4 ?_
    refine gk_iload_n (pc := 102) (DX12_image_0.at 59 rfl) 1 rfl rfl ?_
    refine gk_aload_n (pc := 103) (DX12_image_1.at 0 rfl) 0 rfl rfl ?_
    obtain ⟨fs5, v5, q5, r5, hv⟩ := hv
    refine gk_get (pc := 104) (.ref v5) (DX12_image_1.at 1 rfl) fX12_26_11 q5 r5 ?_
    refine gk_iload_n (pc := 107) (DX12_image_1.at 2 rfl) 1 rfl rfl ?_
    obtain ⟨n6, f6, q6, r6, hv⟩ := hv
    refine gk_iald (pc := 108) (DX12_image_1.at 3 rfl) q6 r6 ?_
    generalize f6 _ = v6 at hv ⊢
    obtain ⟨n7, f7, q7, r7, hv⟩ := hv
    refine gk_iast (pc := 109) (DX12_image_1.at 4 rfl) q7 r7 ?_
    generalize h.set _ _ = h7 at hv ⊢
    refine gk_iinc (pc := 110) (x1 + nI 1) [(1, .int (x1 + nI 1)), (0, .ref o)] 1 (DX12_image_1.at 5 rfl) rfl (by rw [ci_1]) (Nat.le_of_ble_eq_true rfl) rfl ?_
    refine gk_goto (pc := 113) 91 (DX12_image_1.at 6 rfl) (by decide) ?_
    exact gk_pick (pc := 91) [(0, .ref o), (1, .int (x1 + nI 1))] [1, 0] rfl hv
set_option maxHeartbeats 4000000 in
theorem vX12_is_0 {E : gk_E} {dd : Nat} {o : Nat} {x1 : Int32} {x2 : Int32} {x3 : Int32}  {h : gk_H} {K : Int32 → gk_H → Prop} (hv : LdR h o 11 2 fun v1 => AlZ h v1 ((((nI 16) * x1) + ((nI 4) * x2)) + x3) fun v2 => (bz v2 ∧ K v2 h)) : RnI E mX12_is (dd, 0, 0) [.ref o, .int x1, .int x2, .int x3] h K := by
  show gk_G E mX12_is (dd, 0, 0) 0 [(0, .ref o), (1, .int x1), (2, .int x2), (3, .int x3)] [] h (fun o h1 => ∃ v, o = some (.int v) ∧ K v h1)
  refine gk_aload_n (pc := 0) (DX12_is_0.at 0 rfl) 0 rfl rfl ?_
  obtain ⟨fs1, v1, q1, r1, hv⟩ := hv
  refine gk_get (pc := 1) (.ref v1) (DX12_is_0.at 1 rfl) fX12_19_11 q1 r1 ?_
  refine gk_bipush (pc := 4) (nI 16) (DX12_is_0.at 2 rfl) cb_16 ?_
  refine gk_iload_n (pc := 6) (DX12_is_0.at 3 rfl) 1 rfl rfl ?_
  refine gk_imul (pc := 7) (DX12_is_0.at 4 rfl) ?_
  refine gk_iconst (pc := 8) (nI 4) (DX12_is_0.at 5 rfl) ci_4 ?_
  refine gk_iload_n (pc := 9) (DX12_is_0.at 6 rfl) 2 rfl rfl ?_
  refine gk_imul (pc := 10) (DX12_is_0.at 7 rfl) ?_
  refine gk_iadd (pc := 11) (DX12_is_0.at 8 rfl) ?_
  refine gk_iload_n (pc := 12) (DX12_is_0.at 9 rfl) 3 rfl rfl ?_
  refine gk_iadd (pc := 13) (DX12_is_0.at 10 rfl) ?_
  obtain ⟨n2, f2, q2, r2, hv⟩ := hv
  refine gk_zald (pc := 14) (DX12_is_0.at 11 rfl) q2 r2 ?_
  generalize f2 _ = v2 at hv ⊢
  exact gk_ireturn (pc := 15) .boolean (DX12_is_0.at 12 rfl) rfl (bz_n hv.1) ⟨_, rfl, hv.2⟩
abbrev pX12_isAllHad_4 (E : gk_E) (dd : Nat) (o : Nat) (x1 : Int32) (x2 : Int32) (h : gk_H) (K : Int32 → gk_H → Prop) : Prop := gk_G E mX12_isAllHad (dd, 0, 0) 4 [(0, .ref o), (1, .int x1), (2, .int x2)] [] h (fun o h1 => ∃ v, o = some (.int v) ∧ K v h1)
set_option maxHeartbeats 4000000 in
theorem vX12_isAllHad_0 {E : gk_E} {dd : Nat} {o : Nat}  {h : gk_H} {K : Int32 → gk_H → Prop} (hv : pX12_isAllHad_4 E dd o (nI 0) (nI 0) h K) : RnI E mX12_isAllHad (dd, 0, 0) [.ref o] h K := by
  show gk_G E mX12_isAllHad (dd, 0, 0) 0 [(0, .ref o)] [] h (fun o h1 => ∃ v, o = some (.int v) ∧ K v h1)
  refine gk_iconst (pc := 0) (nI 0) (DX12_isAllHad_0.at 0 rfl) ci_0 ?_
  refine gk_istore_n (pc := 1) [(1, .int (nI 0)), (0, .ref o)] (DX12_isAllHad_0.at 1 rfl) rfl (Nat.le_of_ble_eq_true rfl) rfl ?_
  refine gk_iconst (pc := 2) (nI 0) (DX12_isAllHad_0.at 2 rfl) ci_0 ?_
  refine gk_istore_n (pc := 3) [(2, .int (nI 0)), (1, .int (nI 0)), (0, .ref o)] (DX12_isAllHad_0.at 3 rfl) rfl (Nat.le_of_ble_eq_true rfl) rfl ?_
  exact gk_pick (pc := 4) [(0, .ref o), (1, .int (nI 0)), (2, .int (nI 0))] [2, 1, 0] rfl hv
set_option maxHeartbeats 4000000 in
theorem vX12_isAllHad_4 {E : gk_E} {dd : Nat} {o : Nat} {x1 : Int32} {x2 : Int32}  {h : gk_H} {K : Int32 → gk_H → Prop} (hv : LdI h o 11 13 fun v1 => (v1 ≤ x2 → LdI h o 11 0 fun v2 => (¬ x1 = (((nI 1) <<< (v2 &&& 31)) - (nI 1)) → K (nI 0) h) ∧ (x1 = (((nI 1) <<< (v2 &&& 31)) - (nI 1)) → K (nI 1) h)) ∧ (¬ v1 ≤ x2 → LdR h o 11 14 fun v3 => AlI h v3 x2 fun v4 => pX12_isAllHad_4 E dd o (x1 ||| ((nI 1) <<< (v4 &&& 31))) (x2 + nI 1) h K)) : pX12_isAllHad_4 E dd o x1 x2 h K := by
  show gk_G E mX12_isAllHad (dd, 0, 0) 4 [(0, .ref o), (1, .int x1), (2, .int x2)] [] h (fun o h1 => ∃ v, o = some (.int v) ∧ K v h1)
  refine gk_iload_n (pc := 4) (DX12_isAllHad_0.at 4 rfl) 2 rfl rfl ?_
  refine gk_aload_n (pc := 5) (DX12_isAllHad_0.at 5 rfl) 0 rfl rfl ?_
  obtain ⟨fs1, v1, q1, r1, hv⟩ := hv
  refine gk_get (pc := 6) (.int v1) (DX12_isAllHad_0.at 6 rfl) fX12_235_11 q1 r1 ?_
  refine gk_icmp_ge (pc := 9) 29 (DX12_isAllHad_0.at 7 rfl) (by decide) (fun c => ?_) (fun c => ?_)
  · replace hv := hv.1 c
    refine gk_iload_n (pc := 29) (DX12_isAllHad_0.at 19 rfl) 1 rfl rfl ?_
    refine gk_iconst (pc := 30) (nI 1) (DX12_isAllHad_0.at 20 rfl) ci_1 ?_
    refine gk_aload_n (pc := 31) (DX12_isAllHad_0.at 21 rfl) 0 rfl rfl ?_
    obtain ⟨fs2, v2, q2, r2, hv⟩ := hv
    refine gk_get (pc := 32) (.int v2) (DX12_isAllHad_0.at 22 rfl) fX12_9_11 q2 r2 ?_
    refine gk_ishl (pc := 35) (DX12_isAllHad_0.at 23 rfl) ?_
    refine gk_iconst (pc := 36) (nI 1) (DX12_isAllHad_0.at 24 rfl) ci_1 ?_
    refine gk_isub (pc := 37) (DX12_isAllHad_0.at 25 rfl) ?_
    refine gk_icmp_ne (pc := 38) 45 (DX12_isAllHad_0.at 26 rfl) (by decide) (fun c => ?_) (fun c => ?_)
    · replace hv := hv.1 c
      refine gk_iconst (pc := 45) (nI 0) (DX12_isAllHad_0.at 29 rfl) ci_0 ?_
      exact gk_ireturn (pc := 46) .boolean (DX12_isAllHad_0.at 30 rfl) rfl rfl ⟨_, rfl, hv⟩
    · replace hv := hv.2 c
      refine gk_iconst (pc := 41) (nI 1) (DX12_isAllHad_0.at 27 rfl) ci_1 ?_
      refine gk_goto (pc := 42) 46 (DX12_isAllHad_0.at 28 rfl) (by decide) ?_
      exact gk_ireturn (pc := 46) .boolean (DX12_isAllHad_0.at 30 rfl) rfl rfl ⟨_, rfl, hv⟩
  · replace hv := hv.2 c
    refine gk_iload_n (pc := 12) (DX12_isAllHad_0.at 8 rfl) 1 rfl rfl ?_
    refine gk_iconst (pc := 13) (nI 1) (DX12_isAllHad_0.at 9 rfl) ci_1 ?_
    refine gk_aload_n (pc := 14) (DX12_isAllHad_0.at 10 rfl) 0 rfl rfl ?_
    obtain ⟨fs3, v3, q3, r3, hv⟩ := hv
    refine gk_get (pc := 15) (.ref v3) (DX12_isAllHad_0.at 11 rfl) fX12_32_11 q3 r3 ?_
    refine gk_iload_n (pc := 18) (DX12_isAllHad_0.at 12 rfl) 2 rfl rfl ?_
    obtain ⟨n4, f4, q4, r4, hv⟩ := hv
    refine gk_iald (pc := 19) (DX12_isAllHad_0.at 13 rfl) q4 r4 ?_
    generalize f4 _ = v4 at hv ⊢
    refine gk_ishl (pc := 20) (DX12_isAllHad_0.at 14 rfl) ?_
    refine gk_ior (pc := 21) (DX12_isAllHad_0.at 15 rfl) ?_
    refine gk_istore_n (pc := 22) [(1, .int (x1 ||| ((nI 1) <<< (v4 &&& 31)))), (0, .ref o), (2, .int x2)] (DX12_isAllHad_0.at 16 rfl) rfl (Nat.le_of_ble_eq_true rfl) rfl ?_
    refine gk_iinc (pc := 23) (x2 + nI 1) [(2, .int (x2 + nI 1)), (1, .int (x1 ||| ((nI 1) <<< (v4 &&& 31)))), (0, .ref o)] 2 (DX12_isAllHad_0.at 17 rfl) rfl (by rw [ci_1]) (Nat.le_of_ble_eq_true rfl) rfl ?_
    refine gk_goto (pc := 26) 4 (DX12_isAllHad_0.at 18 rfl) (by decide) ?_
    exact gk_pick (pc := 4) [(0, .ref o), (1, .int (x1 ||| ((nI 1) <<< (v4 &&& 31)))), (2, .int (x2 + nI 1))] [2, 1, 0] rfl hv
set_option maxHeartbeats 4000000 in
theorem vX12_isAt_0 {E : gk_E} {dd : Nat} {o : Nat} {x1 : Int32} {x2 : Int32}  {h : gk_H} {K : Int32 → gk_H → Prop} (hv : LdI h o 11 22 fun v1 => LdI h o 11 21 fun v2 => (v2 ≤ v1 → K (nI 0) h) ∧ (¬ v2 ≤ v1 → LdR h o 11 19 fun v3 => LdI h o 11 22 fun v4 => AlI h v3 v4 fun v5 => RnI E mX12_isFrom (dd, 0, 0) [.long v5.toInt64, .long x1.toInt64, .long x2.toInt64] h (fun v6 h6 => (v6 = 0 → K (nI 0) h6) ∧ (¬ v6 = 0 → K (nI 1) h6)))) : RnI E mX12_isAt (dd + 1, 0, 0) [.ref o, .int x1, .int x2] h K := by
  show gk_G E mX12_isAt (dd + 1, 0, 0) 0 [(0, .ref o), (1, .int x1), (2, .int x2)] [] h (fun o h1 => ∃ v, o = some (.int v) ∧ K v h1)
  refine gk_aload_n (pc := 0) (DX12_isAt_0.at 0 rfl) 0 rfl rfl ?_
  obtain ⟨fs1, v1, q1, r1, hv⟩ := hv
  refine gk_get (pc := 1) (.int v1) (DX12_isAt_0.at 1 rfl) fX12_264_11 q1 r1 ?_
  refine gk_aload_n (pc := 4) (DX12_isAt_0.at 2 rfl) 0 rfl rfl ?_
  obtain ⟨fs2, v2, q2, r2, hv⟩ := hv
  refine gk_get (pc := 5) (.int v2) (DX12_isAt_0.at 3 rfl) fX12_267_11 q2 r2 ?_
  refine gk_icmp_ge (pc := 8) 35 (DX12_isAt_0.at 4 rfl) (by decide) (fun c => ?_) (fun c => ?_)
  · replace hv := hv.1 c
    refine gk_iconst (pc := 35) (nI 0) (DX12_isAt_0.at 19 rfl) ci_0 ?_
    exact gk_ireturn (pc := 36) .boolean (DX12_isAt_0.at 20 rfl) rfl rfl ⟨_, rfl, hv⟩
  · replace hv := hv.2 c
    refine gk_aload_n (pc := 11) (DX12_isAt_0.at 5 rfl) 0 rfl rfl ?_
    obtain ⟨fs3, v3, q3, r3, hv⟩ := hv
    refine gk_get (pc := 12) (.ref v3) (DX12_isAt_0.at 6 rfl) fX12_49_11 q3 r3 ?_
    refine gk_aload_n (pc := 15) (DX12_isAt_0.at 7 rfl) 0 rfl rfl ?_
    obtain ⟨fs4, v4, q4, r4, hv⟩ := hv
    refine gk_get (pc := 16) (.int v4) (DX12_isAt_0.at 8 rfl) fX12_264_11 q4 r4 ?_
    obtain ⟨n5, f5, q5, r5, hv⟩ := hv
    refine gk_iald (pc := 19) (DX12_isAt_0.at 9 rfl) q5 r5 ?_
    generalize f5 _ = v5 at hv ⊢
    refine gk_i2l (pc := 20) (DX12_isAt_0.at 10 rfl) ?_
    refine gk_iload_n (pc := 21) (DX12_isAt_0.at 11 rfl) 1 rfl rfl ?_
    refine gk_i2l (pc := 22) (DX12_isAt_0.at 12 rfl) ?_
    refine gk_iload_n (pc := 23) (DX12_isAt_0.at 13 rfl) 2 rfl rfl ?_
    refine gk_i2l (pc := 24) (DX12_isAt_0.at 14 rfl) ?_
    refine gk_vS (pc := 25) [.long v5.toInt64, .long x1.toInt64, .long x2.toInt64] [] (DX12_isAt_0.at 15 rfl) csX12_70 rfl rfl (Nat.le_of_ble_eq_true rfl) (Nat.le_of_ble_eq_true rfl) (gk_Run.post (fun o h6 z => ?_) hv)
    obtain ⟨v6, rfl, hv⟩ := z
    refine gk_if_eq (pc := 28) 35 (DX12_isAt_0.at 16 rfl) (by decide) (fun c => ?_) (fun c => ?_)
    · replace hv := hv.1 c
      refine gk_iconst (pc := 35) (nI 0) (DX12_isAt_0.at 19 rfl) ci_0 ?_
      exact gk_ireturn (pc := 36) .boolean (DX12_isAt_0.at 20 rfl) rfl rfl ⟨_, rfl, hv⟩
    · replace hv := hv.2 c
      refine gk_iconst (pc := 31) (nI 1) (DX12_isAt_0.at 17 rfl) ci_1 ?_
      refine gk_goto (pc := 32) 36 (DX12_isAt_0.at 18 rfl) (by decide) ?_
      exact gk_ireturn (pc := 36) .boolean (DX12_isAt_0.at 20 rfl) rfl rfl ⟨_, rfl, hv⟩
set_option maxHeartbeats 4000000 in
theorem vX12_isAtom_0 {E : gk_E} {dd : Nat} {o : Nat} {x1 : Int32}  {h : gk_H} {K : Int32 → gk_H → Prop} (hv : LdI h o 11 0 fun v1 => RnI E mX12_isFrom (dd, 0, 0) [.long x1.toInt64, .long (lN 0), .long ((v1 - (nI 1)).toInt64)] h (fun v2 h2 => (bz v2 ∧ K v2 h2))) : RnI E mX12_isAtom (dd + 1, 0, 0) [.ref o, .int x1] h K := by
  show gk_G E mX12_isAtom (dd + 1, 0, 0) 0 [(0, .ref o), (1, .int x1)] [] h (fun o h1 => ∃ v, o = some (.int v) ∧ K v h1)
  refine gk_iload_n (pc := 0) (DX12_isAtom_0.at 0 rfl) 1 rfl rfl ?_
  refine gk_i2l (pc := 1) (DX12_isAtom_0.at 1 rfl) ?_
  refine gk_lconst (pc := 2) (lN 0) (DX12_isAtom_0.at 2 rfl) rfl ?_
  refine gk_aload_n (pc := 3) (DX12_isAtom_0.at 3 rfl) 0 rfl rfl ?_
  obtain ⟨fs1, v1, q1, r1, hv⟩ := hv
  refine gk_get (pc := 4) (.int v1) (DX12_isAtom_0.at 4 rfl) fX12_9_11 q1 r1 ?_
  refine gk_iconst (pc := 7) (nI 1) (DX12_isAtom_0.at 5 rfl) ci_1 ?_
  refine gk_isub (pc := 8) (DX12_isAtom_0.at 6 rfl) ?_
  refine gk_i2l (pc := 9) (DX12_isAtom_0.at 7 rfl) ?_
  refine gk_vS (pc := 10) [.long x1.toInt64, .long (lN 0), .long ((v1 - (nI 1)).toInt64)] [] (DX12_isAtom_0.at 8 rfl) csX12_70 rfl rfl (Nat.le_of_ble_eq_true rfl) (Nat.le_of_ble_eq_true rfl) (gk_Run.post (fun o h2 z => ?_) hv)
  obtain ⟨v2, rfl, hv⟩ := z
  exact gk_ireturn (pc := 13) .boolean (DX12_isAtom_0.at 9 rfl) rfl (bz_n hv.1) ⟨_, rfl, hv.2⟩
set_option maxHeartbeats 4000000 in
theorem vX12_isBarred_0 {E : gk_E} {dd : Nat} {o : Nat} {x1 : Int32}  {h : gk_H} {K : Int32 → gk_H → Prop} (hv : LdI h o 11 5 fun v1 => (v1 = 0 → K (nI 0) h) ∧ (¬ v1 = 0 → LdR h o 11 3 fun v2 => AlI h v2 (nI 3) fun v3 => (¬ v3 = 0 → (∃ fs, h[o]? = some (.inr (11, fs))) ∧ RnV E mX12_looks (dd, 0, 0) [.ref o, .int (nI 3), .int x1, .int (nI 0)] h (fun h4 => LdI h4 o 11 12 fun v5 => (v5 = ((-5)) → K (nI 0) h4) ∧ (¬ v5 = ((-5)) → K (nI 1) h4))) ∧ (v3 = 0 → K (nI 0) h))) : RnI E mX12_isBarred (dd + 1, 0, 0) [.ref o, .int x1] h K := by
  show gk_G E mX12_isBarred (dd + 1, 0, 0) 0 [(0, .ref o), (1, .int x1)] [] h (fun o h1 => ∃ v, o = some (.int v) ∧ K v h1)
  refine gk_aload_n (pc := 0) (DX12_isBarred_0.at 0 rfl) 0 rfl rfl ?_
  obtain ⟨fs1, v1, q1, r1, hv⟩ := hv
  refine gk_get (pc := 1) (.int v1) (DX12_isBarred_0.at 1 rfl) fX12_74_11 q1 r1 ?_
  refine gk_if_eq (pc := 4) 16 (DX12_isBarred_0.at 2 rfl) (by decide) (fun c => ?_) (fun c => ?_)
  · replace hv := hv.1 c
    refine gk_iconst (pc := 16) (nI 0) (DX12_isBarred_0.at 8 rfl) ci_0 ?_
    exact gk_ireturn (pc := 17) .boolean (DX12_isBarred_0.at 9 rfl) rfl rfl ⟨_, rfl, hv⟩
  · replace hv := hv.2 c
    refine gk_aload_n (pc := 7) (DX12_isBarred_0.at 3 rfl) 0 rfl rfl ?_
    obtain ⟨fs2, v2, q2, r2, hv⟩ := hv
    refine gk_get (pc := 8) (.ref v2) (DX12_isBarred_0.at 4 rfl) fX12_23_11 q2 r2 ?_
    refine gk_iconst (pc := 11) (nI 3) (DX12_isBarred_0.at 5 rfl) ci_3 ?_
    obtain ⟨n3, f3, q3, r3, hv⟩ := hv
    refine gk_iald (pc := 12) (DX12_isBarred_0.at 6 rfl) q3 r3 ?_
    generalize f3 _ = v3 at hv ⊢
    refine gk_if_ne (pc := 13) 18 (DX12_isBarred_0.at 7 rfl) (by decide) (fun c => ?_) (fun c => ?_)
    · replace hv := hv.1 c
      refine gk_aload_n (pc := 18) (DX12_isBarred_0.at 10 rfl) 0 rfl rfl ?_
      refine gk_iconst (pc := 19) (nI 3) (DX12_isBarred_0.at 11 rfl) ci_3 ?_
      refine gk_iload_n (pc := 20) (DX12_isBarred_0.at 12 rfl) 1 rfl rfl ?_
      refine gk_iconst (pc := 21) (nI 0) (DX12_isBarred_0.at 13 rfl) ci_0 ?_
      obtain ⟨⟨fs4, q4⟩, hv⟩ := hv
      refine gk_vV (pc := 22) [.int (nI 3), .int x1, .int (nI 0)] [] (DX12_isBarred_0.at 14 rfl) cvX12_189 q4 rfl rfl (Nat.le_of_ble_eq_true rfl) (Nat.le_of_ble_eq_true rfl) (gk_Run.post (fun o h4 z => ?_) hv)
      obtain ⟨rfl, hv⟩ := z
      refine gk_aload_n (pc := 25) (DX12_isBarred_0.at 15 rfl) 0 rfl rfl ?_
      obtain ⟨fs5, v5, q5, r5, hv⟩ := hv
      refine gk_get (pc := 26) (.int v5) (DX12_isBarred_0.at 16 rfl) fX12_180_11 q5 r5 ?_
      refine gk_bipush (pc := 29) ((-5)) (DX12_isBarred_0.at 17 rfl) cb_m5 ?_
      refine gk_icmp_eq (pc := 31) 38 (DX12_isBarred_0.at 18 rfl) (by decide) (fun c => ?_) (fun c => ?_)
      · replace hv := hv.1 c
        refine gk_iconst (pc := 38) (nI 0) (DX12_isBarred_0.at 21 rfl) ci_0 ?_
        exact gk_ireturn (pc := 39) .boolean (DX12_isBarred_0.at 22 rfl) rfl rfl ⟨_, rfl, hv⟩
      · replace hv := hv.2 c
        refine gk_iconst (pc := 34) (nI 1) (DX12_isBarred_0.at 19 rfl) ci_1 ?_
        refine gk_goto (pc := 35) 39 (DX12_isBarred_0.at 20 rfl) (by decide) ?_
        exact gk_ireturn (pc := 39) .boolean (DX12_isBarred_0.at 22 rfl) rfl rfl ⟨_, rfl, hv⟩
    · replace hv := hv.2 c
      refine gk_iconst (pc := 16) (nI 0) (DX12_isBarred_0.at 8 rfl) ci_0 ?_
      exact gk_ireturn (pc := 17) .boolean (DX12_isBarred_0.at 9 rfl) rfl rfl ⟨_, rfl, hv⟩
set_option maxHeartbeats 4000000 in
theorem vX12_isDone_0 {E : gk_E} {dd : Nat} {o : Nat} {x1 : Int32}  {h : gk_H} {K : Int32 → gk_H → Prop} (hv : ((x1 = nI 0 → LdR h o 11 23 fun v1 => AlI h v1 (nI 0) fun v2 => (∃ fs, h[o]? = some (.inr (11, fs))) ∧ RnI E mX12_atoms (dd, 0, 0) [.ref o, .int v2] h (fun v3 h3 => (v3 < 0 → K (nI 0) h3) ∧ (¬ v3 < 0 → K (nI 1) h3))) ∧ (x1 = nI 1 → LdR h o 11 23 fun v4 => AlI h v4 (nI 0) fun v5 => LdR h o 11 23 fun v6 => AlI h v6 (nI 1) fun v7 => (∃ fs, h[o]? = some (.inr (11, fs))) ∧ RnI E mX12_pair (dd, 0, 0) [.ref o, .int v5, .int v7] h (fun v8 h8 => (v8 < 0 → K (nI 0) h8) ∧ (¬ v8 < 0 → K (nI 1) h8))) ∧ (¬ x1 = nI 0 → ¬ x1 = nI 1 → LdR h o 11 23 fun v9 => AlI h v9 (nI 0) fun v10 => LdR h o 11 23 fun v11 => AlI h v11 (nI 1) fun v12 => LdR h o 11 23 fun v13 => AlI h v13 (nI 2) fun v14 => (¬ x1 = (nI 2) → (∃ fs, h[o]? = some (.inr (11, fs))) ∧ RnI E mX12_triangle (dd, 0, 0) [.ref o, .int v10, .int v12, .int v14, .int (nI 0)] h (fun v15 h15 => (v15 < 0 → K (nI 0) h15) ∧ (¬ v15 < 0 → K (nI 1) h15))) ∧ (x1 = (nI 2) → (∃ fs, h[o]? = some (.inr (11, fs))) ∧ RnI E mX12_triangle (dd, 0, 0) [.ref o, .int v10, .int v12, .int v14, .int (nI 1)] h (fun v16 h16 => (v16 < 0 → K (nI 0) h16) ∧ (¬ v16 < 0 → K (nI 1) h16)))))) : RnI E mX12_isDone (dd + 1, 0, 0) [.ref o, .int x1] h K := by
  show gk_G E mX12_isDone (dd + 1, 0, 0) 0 [(0, .ref o), (1, .int x1)] [] h (fun o h1 => ∃ v, o = some (.int v) ∧ K v h1)
  refine gk_iload_n (pc := 0) (DX12_isDone_0.at 0 rfl) 1 rfl rfl ?_
  refine gk_lsw (pc := 1) 28 47 72 (DX12_isDone_0.at 1 rfl) (by decide) (by decide) (by decide) (fun c => ?_) (fun c => ?_) (fun c c2 => ?_)
  · replace hv := hv.1 c
    refine gk_aload_n (pc := 28) (DX12_isDone_0.at 2 rfl) 0 rfl rfl ?_
    refine gk_aload_n (pc := 29) (DX12_isDone_0.at 3 rfl) 0 rfl rfl ?_
    obtain ⟨fs1, v1, q1, r1, hv⟩ := hv
    refine gk_get (pc := 30) (.ref v1) (DX12_isDone_0.at 4 rfl) fX12_52_11 q1 r1 ?_
    refine gk_iconst (pc := 33) (nI 0) (DX12_isDone_0.at 5 rfl) ci_0 ?_
    obtain ⟨n2, f2, q2, r2, hv⟩ := hv
    refine gk_iald (pc := 34) (DX12_isDone_0.at 6 rfl) q2 r2 ?_
    generalize f2 _ = v2 at hv ⊢
    obtain ⟨⟨fs3, q3⟩, hv⟩ := hv
    refine gk_vV (pc := 35) [.int v2] [] (DX12_isDone_0.at 7 rfl) cvX12_276 q3 rfl rfl (Nat.le_of_ble_eq_true rfl) (Nat.le_of_ble_eq_true rfl) (gk_Run.post (fun o h3 z => ?_) hv)
    obtain ⟨v3, rfl, hv⟩ := z
    refine gk_if_lt (pc := 38) 45 (DX12_isDone_0.at 8 rfl) (by decide) (fun c => ?_) (fun c => ?_)
    · replace hv := hv.1 c
      refine gk_iconst (pc := 45) (nI 0) (DX12_isDone_0.at 11 rfl) ci_0 ?_
      exact gk_ireturn (pc := 46) .boolean (DX12_isDone_0.at 12 rfl) rfl rfl ⟨_, rfl, hv⟩
    · replace hv := hv.2 c
      refine gk_iconst (pc := 41) (nI 1) (DX12_isDone_0.at 9 rfl) ci_1 ?_
      refine gk_goto (pc := 42) 46 (DX12_isDone_0.at 10 rfl) (by decide) ?_
      exact gk_ireturn (pc := 46) .boolean (DX12_isDone_0.at 12 rfl) rfl rfl ⟨_, rfl, hv⟩
  · replace hv := hv.2.1 c
    refine gk_aload_n (pc := 47) (DX12_isDone_0.at 13 rfl) 0 rfl rfl ?_
    refine gk_aload_n (pc := 48) (DX12_isDone_0.at 14 rfl) 0 rfl rfl ?_
    obtain ⟨fs4, v4, q4, r4, hv⟩ := hv
    refine gk_get (pc := 49) (.ref v4) (DX12_isDone_0.at 15 rfl) fX12_52_11 q4 r4 ?_
    refine gk_iconst (pc := 52) (nI 0) (DX12_isDone_0.at 16 rfl) ci_0 ?_
    obtain ⟨n5, f5, q5, r5, hv⟩ := hv
    refine gk_iald (pc := 53) (DX12_isDone_0.at 17 rfl) q5 r5 ?_
    generalize f5 _ = v5 at hv ⊢
    refine gk_aload_n (pc := 54) (DX12_isDone_0.at 18 rfl) 0 rfl rfl ?_
    obtain ⟨fs6, v6, q6, r6, hv⟩ := hv
    refine gk_get (pc := 55) (.ref v6) (DX12_isDone_0.at 19 rfl) fX12_52_11 q6 r6 ?_
    refine gk_iconst (pc := 58) (nI 1) (DX12_isDone_0.at 20 rfl) ci_1 ?_
    obtain ⟨n7, f7, q7, r7, hv⟩ := hv
    refine gk_iald (pc := 59) (DX12_isDone_0.at 21 rfl) q7 r7 ?_
    generalize f7 _ = v7 at hv ⊢
    obtain ⟨⟨fs8, q8⟩, hv⟩ := hv
    refine gk_vV (pc := 60) [.int v5, .int v7] [] (DX12_isDone_0.at 22 rfl) cvX12_278 q8 rfl rfl (Nat.le_of_ble_eq_true rfl) (Nat.le_of_ble_eq_true rfl) (gk_Run.post (fun o h8 z => ?_) hv)
    obtain ⟨v8, rfl, hv⟩ := z
    refine gk_if_lt (pc := 63) 70 (DX12_isDone_0.at 23 rfl) (by decide) (fun c => ?_) (fun c => ?_)
    · replace hv := hv.1 c
      refine gk_iconst (pc := 70) (nI 0) (DX12_isDone_0.at 26 rfl) ci_0 ?_
      exact gk_ireturn (pc := 71) .boolean (DX12_isDone_0.at 27 rfl) rfl rfl ⟨_, rfl, hv⟩
    · replace hv := hv.2 c
      refine gk_iconst (pc := 66) (nI 1) (DX12_isDone_0.at 24 rfl) ci_1 ?_
      refine gk_goto (pc := 67) 71 (DX12_isDone_0.at 25 rfl) (by decide) ?_
      exact gk_ireturn (pc := 71) .boolean (DX12_isDone_0.at 27 rfl) rfl rfl ⟨_, rfl, hv⟩
  · replace hv := hv.2.2 c c2
    refine gk_aload_n (pc := 72) (DX12_isDone_0.at 28 rfl) 0 rfl rfl ?_
    refine gk_aload_n (pc := 73) (DX12_isDone_0.at 29 rfl) 0 rfl rfl ?_
    obtain ⟨fs9, v9, q9, r9, hv⟩ := hv
    refine gk_get (pc := 74) (.ref v9) (DX12_isDone_0.at 30 rfl) fX12_52_11 q9 r9 ?_
    refine gk_iconst (pc := 77) (nI 0) (DX12_isDone_0.at 31 rfl) ci_0 ?_
    obtain ⟨n10, f10, q10, r10, hv⟩ := hv
    refine gk_iald (pc := 78) (DX12_isDone_0.at 32 rfl) q10 r10 ?_
    generalize f10 _ = v10 at hv ⊢
    refine gk_aload_n (pc := 79) (DX12_isDone_0.at 33 rfl) 0 rfl rfl ?_
    obtain ⟨fs11, v11, q11, r11, hv⟩ := hv
    refine gk_get (pc := 80) (.ref v11) (DX12_isDone_0.at 34 rfl) fX12_52_11 q11 r11 ?_
    refine gk_iconst (pc := 83) (nI 1) (DX12_isDone_0.at 35 rfl) ci_1 ?_
    obtain ⟨n12, f12, q12, r12, hv⟩ := hv
    refine gk_iald (pc := 84) (DX12_isDone_0.at 36 rfl) q12 r12 ?_
    generalize f12 _ = v12 at hv ⊢
    refine gk_aload_n (pc := 85) (DX12_isDone_0.at 37 rfl) 0 rfl rfl ?_
    obtain ⟨fs13, v13, q13, r13, hv⟩ := hv
    refine gk_get (pc := 86) (.ref v13) (DX12_isDone_0.at 38 rfl) fX12_52_11 q13 r13 ?_
    refine gk_iconst (pc := 89) (nI 2) (DX12_isDone_0.at 39 rfl) ci_2 ?_
    obtain ⟨n14, f14, q14, r14, hv⟩ := hv
    refine gk_iald (pc := 90) (DX12_isDone_0.at 40 rfl) q14 r14 ?_
    generalize f14 _ = v14 at hv ⊢
    refine gk_iload_n (pc := 91) (DX12_isDone_0.at 41 rfl) 1 rfl rfl ?_
    refine gk_iconst (pc := 92) (nI 2) (DX12_isDone_0.at 42 rfl) ci_2 ?_
    refine gk_icmp_ne (pc := 93) 100 (DX12_isDone_0.at 43 rfl) (by decide) (fun c => ?_) (fun c => ?_)
    · replace hv := hv.1 c
      refine gk_iconst (pc := 100) (nI 0) (DX12_isDone_0.at 46 rfl) ci_0 ?_
      obtain ⟨⟨fs15, q15⟩, hv⟩ := hv
      refine gk_vV (pc := 101) [.int v10, .int v12, .int v14, .int (nI 0)] [] (DX12_isDone_0.at 47 rfl) cvX12_281 q15 rfl rfl (Nat.le_of_ble_eq_true rfl) (Nat.le_of_ble_eq_true rfl) (gk_Run.post (fun o h15 z => ?_) hv)
      obtain ⟨v15, rfl, hv⟩ := z
      refine gk_if_lt (pc := 104) 111 (DX12_isDone_0.at 48 rfl) (by decide) (fun c => ?_) (fun c => ?_)
      · replace hv := hv.1 c
        refine gk_iconst (pc := 111) (nI 0) (DX12_isDone_0.at 51 rfl) ci_0 ?_
        exact gk_ireturn (pc := 112) .boolean (DX12_isDone_0.at 52 rfl) rfl rfl ⟨_, rfl, hv⟩
      · replace hv := hv.2 c
        refine gk_iconst (pc := 107) (nI 1) (DX12_isDone_0.at 49 rfl) ci_1 ?_
        refine gk_goto (pc := 108) 112 (DX12_isDone_0.at 50 rfl) (by decide) ?_
        exact gk_ireturn (pc := 112) .boolean (DX12_isDone_0.at 52 rfl) rfl rfl ⟨_, rfl, hv⟩
    · replace hv := hv.2 c
      refine gk_iconst (pc := 96) (nI 1) (DX12_isDone_0.at 44 rfl) ci_1 ?_
      refine gk_goto (pc := 97) 101 (DX12_isDone_0.at 45 rfl) (by decide) ?_
      obtain ⟨⟨fs16, q16⟩, hv⟩ := hv
      refine gk_vV (pc := 101) [.int v10, .int v12, .int v14, .int (nI 1)] [] (DX12_isDone_0.at 47 rfl) cvX12_281 q16 rfl rfl (Nat.le_of_ble_eq_true rfl) (Nat.le_of_ble_eq_true rfl) (gk_Run.post (fun o h16 z => ?_) hv)
      obtain ⟨v16, rfl, hv⟩ := z
      refine gk_if_lt (pc := 104) 111 (DX12_isDone_0.at 48 rfl) (by decide) (fun c => ?_) (fun c => ?_)
      · replace hv := hv.1 c
        refine gk_iconst (pc := 111) (nI 0) (DX12_isDone_0.at 51 rfl) ci_0 ?_
        exact gk_ireturn (pc := 112) .boolean (DX12_isDone_0.at 52 rfl) rfl rfl ⟨_, rfl, hv⟩
      · replace hv := hv.2 c
        refine gk_iconst (pc := 107) (nI 1) (DX12_isDone_0.at 49 rfl) ci_1 ?_
        refine gk_goto (pc := 108) 112 (DX12_isDone_0.at 50 rfl) (by decide) ?_
        exact gk_ireturn (pc := 112) .boolean (DX12_isDone_0.at 52 rfl) rfl rfl ⟨_, rfl, hv⟩
set_option maxHeartbeats 4000000 in
theorem vX12_isEquivalence_0 {E : gk_E} {dd : Nat} {o : Nat} {x1 : Int32}  {h : gk_H} {K : Int32 → gk_H → Prop} (hv : RnI E mX12_has (dd, 0, 0) [.int x1, .int (nI 0)] h (fun v1 h1 => (v1 = 0 → K (nI 0) h1) ∧ (¬ v1 = 0 → (∃ fs, h1[o]? = some (.inr (11, fs))) ∧ RnI E mX12_turned (dd, 0, 0) [.ref o, .int x1] h1 (fun v2 h2 => (¬ v2 = x1 → K (nI 0) h2) ∧ (v2 = x1 → (∃ fs, h2[o]? = some (.inr (11, fs))) ∧ RnI E mX12_composed (dd, 0, 0) [.ref o, .int x1, .int x1] h2 (fun v3 h3 => (¬ (v3 &&& (x1 ^^^ ((-1)))) = 0 → K (nI 0) h3) ∧ ((v3 &&& (x1 ^^^ ((-1)))) = 0 → K (nI 1) h3))))))) : RnI E mX12_isEquivalence (dd + 1, 0, 0) [.ref o, .int x1] h K := by
  show gk_G E mX12_isEquivalence (dd + 1, 0, 0) 0 [(0, .ref o), (1, .int x1)] [] h (fun o h1 => ∃ v, o = some (.int v) ∧ K v h1)
  refine gk_iload_n (pc := 0) (DX12_isEquivalence_0.at 0 rfl) 1 rfl rfl ?_
  refine gk_iconst (pc := 1) (nI 0) (DX12_isEquivalence_0.at 1 rfl) ci_0 ?_
  refine gk_vS (pc := 2) [.int x1, .int (nI 0)] [] (DX12_isEquivalence_0.at 2 rfl) csX12_87 rfl rfl (Nat.le_of_ble_eq_true rfl) (Nat.le_of_ble_eq_true rfl) (gk_Run.post (fun o h1 z => ?_) hv)
  obtain ⟨v1, rfl, hv⟩ := z
  refine gk_if_eq (pc := 5) 34 (DX12_isEquivalence_0.at 3 rfl) (by decide) (fun c => ?_) (fun c => ?_)
  · replace hv := hv.1 c
    refine gk_iconst (pc := 34) (nI 0) (DX12_isEquivalence_0.at 20 rfl) ci_0 ?_
    exact gk_ireturn (pc := 35) .boolean (DX12_isEquivalence_0.at 21 rfl) rfl rfl ⟨_, rfl, hv⟩
  · replace hv := hv.2 c
    refine gk_aload_n (pc := 8) (DX12_isEquivalence_0.at 4 rfl) 0 rfl rfl ?_
    refine gk_iload_n (pc := 9) (DX12_isEquivalence_0.at 5 rfl) 1 rfl rfl ?_
    obtain ⟨⟨fs2, q2⟩, hv⟩ := hv
    refine gk_vV (pc := 10) [.int x1] [] (DX12_isEquivalence_0.at 6 rfl) cvX12_94 q2 rfl rfl (Nat.le_of_ble_eq_true rfl) (Nat.le_of_ble_eq_true rfl) (gk_Run.post (fun o h2 z => ?_) hv)
    obtain ⟨v2, rfl, hv⟩ := z
    refine gk_iload_n (pc := 13) (DX12_isEquivalence_0.at 7 rfl) 1 rfl rfl ?_
    refine gk_icmp_ne (pc := 14) 34 (DX12_isEquivalence_0.at 8 rfl) (by decide) (fun c => ?_) (fun c => ?_)
    · replace hv := hv.1 c
      refine gk_iconst (pc := 34) (nI 0) (DX12_isEquivalence_0.at 20 rfl) ci_0 ?_
      exact gk_ireturn (pc := 35) .boolean (DX12_isEquivalence_0.at 21 rfl) rfl rfl ⟨_, rfl, hv⟩
    · replace hv := hv.2 c
      refine gk_aload_n (pc := 17) (DX12_isEquivalence_0.at 9 rfl) 0 rfl rfl ?_
      refine gk_iload_n (pc := 18) (DX12_isEquivalence_0.at 10 rfl) 1 rfl rfl ?_
      refine gk_iload_n (pc := 19) (DX12_isEquivalence_0.at 11 rfl) 1 rfl rfl ?_
      obtain ⟨⟨fs3, q3⟩, hv⟩ := hv
      refine gk_vV (pc := 20) [.int x1, .int x1] [] (DX12_isEquivalence_0.at 12 rfl) cvX12_109 q3 rfl rfl (Nat.le_of_ble_eq_true rfl) (Nat.le_of_ble_eq_true rfl) (gk_Run.post (fun o h3 z => ?_) hv)
      obtain ⟨v3, rfl, hv⟩ := z
      refine gk_iload_n (pc := 23) (DX12_isEquivalence_0.at 13 rfl) 1 rfl rfl ?_
      refine gk_iconst (pc := 24) ((-1)) (DX12_isEquivalence_0.at 14 rfl) ci_m1 ?_
      refine gk_ixor (pc := 25) (DX12_isEquivalence_0.at 15 rfl) ?_
      refine gk_iand (pc := 26) (DX12_isEquivalence_0.at 16 rfl) ?_
      refine gk_if_ne (pc := 27) 34 (DX12_isEquivalence_0.at 17 rfl) (by decide) (fun c => ?_) (fun c => ?_)
      · replace hv := hv.1 c
        refine gk_iconst (pc := 34) (nI 0) (DX12_isEquivalence_0.at 20 rfl) ci_0 ?_
        exact gk_ireturn (pc := 35) .boolean (DX12_isEquivalence_0.at 21 rfl) rfl rfl ⟨_, rfl, hv⟩
      · replace hv := hv.2 c
        refine gk_iconst (pc := 30) (nI 1) (DX12_isEquivalence_0.at 18 rfl) ci_1 ?_
        refine gk_goto (pc := 31) 35 (DX12_isEquivalence_0.at 19 rfl) (by decide) ?_
        exact gk_ireturn (pc := 35) .boolean (DX12_isEquivalence_0.at 21 rfl) rfl rfl ⟨_, rfl, hv⟩
set_option maxHeartbeats 4000000 in
theorem vX12_isFillOf_0 {E : gk_E} {dd : Nat} {o : Nat} {x1 : Int32} {x2 : Int32}  {h : gk_H} {K : Int32 → gk_H → Prop} (hv : (∃ fs, h[o]? = some (.inr (11, fs))) ∧ RnI E mX12_isGapOf (dd, 0, 0) [.ref o, .int (nI 4), .int x1] h (fun v1 h1 => (v1 = 0 → K (nI 0) h1) ∧ (¬ v1 = 0 → (∃ fs, h1[o]? = some (.inr (11, fs))) ∧ RnI E mX12_areAtoms (dd, 0, 0) [.ref o, .int (nI 4), .int x2] h1 (fun v2 h2 => (v2 = 0 → K (nI 0) h2) ∧ (¬ v2 = 0 → RnI E mX12_digit (dd, 0, 0) [.int x2, .int (x1 / (nI 1000))] h2 (fun v3 h3 => (¬ v3 = ((x1 / (nI 10)) - (x1 / (nI 10)) / (nI 10) * (nI 10)) → K (nI 0) h3) ∧ (v3 = ((x1 / (nI 10)) - (x1 / (nI 10)) / (nI 10) * (nI 10)) → RnI E mX12_digit (dd, 0, 0) [.int x2, .int ((x1 / (nI 100)) - (x1 / (nI 100)) / (nI 10) * (nI 10))] h3 (fun v4 h4 => LdR h4 o 11 1 fun v5 => AlI h4 v5 (x1 - x1 / (nI 10) * (nI 10)) fun v6 => (v4 = v6 → (∃ fs, h4[o]? = some (.inr (11, fs))) ∧ RnV E mX12_likens (dd, 0, 0) [.ref o, .int (nI 4), .int (nI 5)] h4 (fun h7 => (∃ fs, h7[o]? = some (.inr (11, fs))) ∧ RnV E mX12_comes (dd, 0, 0) [.ref o, .int (nI 5), .int x2] h7 (fun h8 => (∃ fs, h8[o]? = some (.inr (11, fs))) ∧ RnI E mX12_unsound (dd, 0, 0) [.ref o, .int (nI 5)] h8 (fun v9 h9 => (¬ v9 = ((-5)) → K (nI 0) h9) ∧ (v9 = ((-5)) → (∃ fs, h9[o]? = some (.inr (11, fs))) ∧ RnI E mX12_isBarred (dd, 0, 0) [.ref o, .int (nI 5)] h9 (fun v10 h10 => (¬ v10 = 0 → K (nI 0) h10) ∧ (v10 = 0 → K (nI 1) h10))))))) ∧ (¬ v4 = v6 → K (nI 0) h4))))))))) : RnI E mX12_isFillOf (dd + 1, 0, 0) [.ref o, .int x1, .int x2] h K := by
  show gk_G E mX12_isFillOf (dd + 1, 0, 0) 0 [(0, .ref o), (1, .int x1), (2, .int x2)] [] h (fun o h1 => ∃ v, o = some (.int v) ∧ K v h1)
  refine gk_aload_n (pc := 0) (DX12_isFillOf_0.at 0 rfl) 0 rfl rfl ?_
  refine gk_iconst (pc := 1) (nI 4) (DX12_isFillOf_0.at 1 rfl) ci_4 ?_
  refine gk_iload_n (pc := 2) (DX12_isFillOf_0.at 2 rfl) 1 rfl rfl ?_
  obtain ⟨⟨fs1, q1⟩, hv⟩ := hv
  refine gk_vV (pc := 3) [.int (nI 4), .int x1] [] (DX12_isFillOf_0.at 3 rfl) cvX12_211 q1 rfl rfl (Nat.le_of_ble_eq_true rfl) (Nat.le_of_ble_eq_true rfl) (gk_Run.post (fun o h1 z => ?_) hv)
  obtain ⟨v1, rfl, hv⟩ := z
  refine gk_if_eq (pc := 6) 60 (DX12_isFillOf_0.at 4 rfl) (by decide) (fun c => ?_) (fun c => ?_)
  · replace hv := hv.1 c
    refine gk_iconst (pc := 60) (nI 0) (DX12_isFillOf_0.at 35 rfl) ci_0 ?_
    exact gk_ireturn (pc := 61) .boolean (DX12_isFillOf_0.at 36 rfl) rfl rfl ⟨_, rfl, hv⟩
  · replace hv := hv.2 c
    refine gk_aload_n (pc := 9) (DX12_isFillOf_0.at 5 rfl) 0 rfl rfl ?_
    refine gk_iconst (pc := 10) (nI 4) (DX12_isFillOf_0.at 6 rfl) ci_4 ?_
    refine gk_iload_n (pc := 11) (DX12_isFillOf_0.at 7 rfl) 2 rfl rfl ?_
    obtain ⟨⟨fs2, q2⟩, hv⟩ := hv
    refine gk_vV (pc := 12) [.int (nI 4), .int x2] [] (DX12_isFillOf_0.at 8 rfl) cvX12_148 q2 rfl rfl (Nat.le_of_ble_eq_true rfl) (Nat.le_of_ble_eq_true rfl) (gk_Run.post (fun o h2 z => ?_) hv)
    obtain ⟨v2, rfl, hv⟩ := z
    refine gk_if_eq (pc := 15) 60 (DX12_isFillOf_0.at 9 rfl) (by decide) (fun c => ?_) (fun c => ?_)
    · replace hv := hv.1 c
      refine gk_iconst (pc := 60) (nI 0) (DX12_isFillOf_0.at 35 rfl) ci_0 ?_
      exact gk_ireturn (pc := 61) .boolean (DX12_isFillOf_0.at 36 rfl) rfl rfl ⟨_, rfl, hv⟩
    · replace hv := hv.2 c
      refine gk_iload_n (pc := 18) (DX12_isFillOf_0.at 10 rfl) 2 rfl rfl ?_
      refine gk_iload_n (pc := 19) (DX12_isFillOf_0.at 11 rfl) 1 rfl rfl ?_
      refine gk_sipush (pc := 20) (nI 1000) (DX12_isFillOf_0.at 12 rfl) cs_1000 ?_
      refine gk_idiv (pc := 23) (DX12_isFillOf_0.at 13 rfl) (by decide) ?_
      refine gk_vS (pc := 24) [.int x2, .int (x1 / (nI 1000))] [] (DX12_isFillOf_0.at 14 rfl) csX12_138 rfl rfl (Nat.le_of_ble_eq_true rfl) (Nat.le_of_ble_eq_true rfl) (gk_Run.post (fun o h3 z => ?_) hv)
      obtain ⟨v3, rfl, hv⟩ := z
      refine gk_iload_n (pc := 27) (DX12_isFillOf_0.at 15 rfl) 1 rfl rfl ?_
      refine gk_bipush (pc := 28) (nI 10) (DX12_isFillOf_0.at 16 rfl) cb_10 ?_
      refine gk_idiv (pc := 30) (DX12_isFillOf_0.at 17 rfl) (by decide) ?_
      refine gk_bipush (pc := 31) (nI 10) (DX12_isFillOf_0.at 18 rfl) cb_10 ?_
      refine gk_irem (pc := 33) (DX12_isFillOf_0.at 19 rfl) (by decide) ?_
      refine gk_icmp_ne (pc := 34) 60 (DX12_isFillOf_0.at 20 rfl) (by decide) (fun c => ?_) (fun c => ?_)
      · replace hv := hv.1 c
        refine gk_iconst (pc := 60) (nI 0) (DX12_isFillOf_0.at 35 rfl) ci_0 ?_
        exact gk_ireturn (pc := 61) .boolean (DX12_isFillOf_0.at 36 rfl) rfl rfl ⟨_, rfl, hv⟩
      · replace hv := hv.2 c
        refine gk_iload_n (pc := 37) (DX12_isFillOf_0.at 21 rfl) 2 rfl rfl ?_
        refine gk_iload_n (pc := 38) (DX12_isFillOf_0.at 22 rfl) 1 rfl rfl ?_
        refine gk_bipush (pc := 39) (nI 100) (DX12_isFillOf_0.at 23 rfl) cb_100 ?_
        refine gk_idiv (pc := 41) (DX12_isFillOf_0.at 24 rfl) (by decide) ?_
        refine gk_bipush (pc := 42) (nI 10) (DX12_isFillOf_0.at 25 rfl) cb_10 ?_
        refine gk_irem (pc := 44) (DX12_isFillOf_0.at 26 rfl) (by decide) ?_
        refine gk_vS (pc := 45) [.int x2, .int ((x1 / (nI 100)) - (x1 / (nI 100)) / (nI 10) * (nI 10))] [] (DX12_isFillOf_0.at 27 rfl) csX12_138 rfl rfl (Nat.le_of_ble_eq_true rfl) (Nat.le_of_ble_eq_true rfl) (gk_Run.post (fun o h4 z => ?_) hv)
        obtain ⟨v4, rfl, hv⟩ := z
        refine gk_aload_n (pc := 48) (DX12_isFillOf_0.at 28 rfl) 0 rfl rfl ?_
        obtain ⟨fs5, v5, q5, r5, hv⟩ := hv
        refine gk_get (pc := 49) (.ref v5) (DX12_isFillOf_0.at 29 rfl) fX12_15_11 q5 r5 ?_
        refine gk_iload_n (pc := 52) (DX12_isFillOf_0.at 30 rfl) 1 rfl rfl ?_
        refine gk_bipush (pc := 53) (nI 10) (DX12_isFillOf_0.at 31 rfl) cb_10 ?_
        refine gk_irem (pc := 55) (DX12_isFillOf_0.at 32 rfl) (by decide) ?_
        obtain ⟨n6, f6, q6, r6, hv⟩ := hv
        refine gk_iald (pc := 56) (DX12_isFillOf_0.at 33 rfl) q6 r6 ?_
        generalize f6 _ = v6 at hv ⊢
        refine gk_icmp_eq (pc := 57) 62 (DX12_isFillOf_0.at 34 rfl) (by decide) (fun c => ?_) (fun c => ?_)
        · replace hv := hv.1 c
          refine gk_aload_n (pc := 62) (DX12_isFillOf_0.at 37 rfl) 0 rfl rfl ?_
          refine gk_iconst (pc := 63) (nI 4) (DX12_isFillOf_0.at 38 rfl) ci_4 ?_
          refine gk_iconst (pc := 64) (nI 5) (DX12_isFillOf_0.at 39 rfl) ci_5 ?_
          obtain ⟨⟨fs7, q7⟩, hv⟩ := hv
          refine gk_vV (pc := 65) [.int (nI 4), .int (nI 5)] [] (DX12_isFillOf_0.at 40 rfl) cvX12_161 q7 rfl rfl (Nat.le_of_ble_eq_true rfl) (Nat.le_of_ble_eq_true rfl) (gk_Run.post (fun o h7 z => ?_) hv)
          obtain ⟨rfl, hv⟩ := z
          refine gk_aload_n (pc := 68) (DX12_isFillOf_0.at 41 rfl) 0 rfl rfl ?_
          refine gk_iconst (pc := 69) (nI 5) (DX12_isFillOf_0.at 42 rfl) ci_5 ?_
          refine gk_iload_n (pc := 70) (DX12_isFillOf_0.at 43 rfl) 2 rfl rfl ?_
          obtain ⟨⟨fs8, q8⟩, hv⟩ := hv
          refine gk_vV (pc := 71) [.int (nI 5), .int x2] [] (DX12_isFillOf_0.at 44 rfl) cvX12_151 q8 rfl rfl (Nat.le_of_ble_eq_true rfl) (Nat.le_of_ble_eq_true rfl) (gk_Run.post (fun o h8 z => ?_) hv)
          obtain ⟨rfl, hv⟩ := z
          refine gk_aload_n (pc := 74) (DX12_isFillOf_0.at 45 rfl) 0 rfl rfl ?_
          refine gk_iconst (pc := 75) (nI 5) (DX12_isFillOf_0.at 46 rfl) ci_5 ?_
          obtain ⟨⟨fs9, q9⟩, hv⟩ := hv
          refine gk_vV (pc := 76) [.int (nI 5)] [] (DX12_isFillOf_0.at 47 rfl) cvX12_164 q9 rfl rfl (Nat.le_of_ble_eq_true rfl) (Nat.le_of_ble_eq_true rfl) (gk_Run.post (fun o h9 z => ?_) hv)
          obtain ⟨v9, rfl, hv⟩ := z
          refine gk_bipush (pc := 79) ((-5)) (DX12_isFillOf_0.at 48 rfl) cb_m5 ?_
          refine gk_icmp_ne (pc := 81) 96 (DX12_isFillOf_0.at 49 rfl) (by decide) (fun c => ?_) (fun c => ?_)
          · replace hv := hv.1 c
            refine gk_iconst (pc := 96) (nI 0) (DX12_isFillOf_0.at 56 rfl) ci_0 ?_
            exact gk_ireturn (pc := 97) .boolean (DX12_isFillOf_0.at 57 rfl) rfl rfl ⟨_, rfl, hv⟩
          · replace hv := hv.2 c
            refine gk_aload_n (pc := 84) (DX12_isFillOf_0.at 50 rfl) 0 rfl rfl ?_
            refine gk_iconst (pc := 85) (nI 5) (DX12_isFillOf_0.at 51 rfl) ci_5 ?_
            obtain ⟨⟨fs10, q10⟩, hv⟩ := hv
            refine gk_vV (pc := 86) [.int (nI 5)] [] (DX12_isFillOf_0.at 52 rfl) cvX12_202 q10 rfl rfl (Nat.le_of_ble_eq_true rfl) (Nat.le_of_ble_eq_true rfl) (gk_Run.post (fun o h10 z => ?_) hv)
            obtain ⟨v10, rfl, hv⟩ := z
            refine gk_if_ne (pc := 89) 96 (DX12_isFillOf_0.at 53 rfl) (by decide) (fun c => ?_) (fun c => ?_)
            · replace hv := hv.1 c
              refine gk_iconst (pc := 96) (nI 0) (DX12_isFillOf_0.at 56 rfl) ci_0 ?_
              exact gk_ireturn (pc := 97) .boolean (DX12_isFillOf_0.at 57 rfl) rfl rfl ⟨_, rfl, hv⟩
            · replace hv := hv.2 c
              refine gk_iconst (pc := 92) (nI 1) (DX12_isFillOf_0.at 54 rfl) ci_1 ?_
              refine gk_goto (pc := 93) 97 (DX12_isFillOf_0.at 55 rfl) (by decide) ?_
              exact gk_ireturn (pc := 97) .boolean (DX12_isFillOf_0.at 57 rfl) rfl rfl ⟨_, rfl, hv⟩
        · replace hv := hv.2 c
          refine gk_iconst (pc := 60) (nI 0) (DX12_isFillOf_0.at 35 rfl) ci_0 ?_
          exact gk_ireturn (pc := 61) .boolean (DX12_isFillOf_0.at 36 rfl) rfl rfl ⟨_, rfl, hv⟩
abbrev pX12_isFillable_5 (E : gk_E) (dd : Nat) (o : Nat) (x1 : Int32) (x2 : Int32) (x3 : Int32) (x4 : Int32) (h : gk_H) (K : Int32 → gk_H → Prop) : Prop := gk_G E mX12_isFillable (dd + 1, 0, 0) 5 [(0, .ref o), (1, .int x1), (2, .int x2), (3, .int x3), (4, .int x4)] [] h (fun o h1 => ∃ v, o = some (.int v) ∧ K v h1)
set_option maxHeartbeats 4000000 in
theorem vX12_isFillable_0 {E : gk_E} {dd : Nat} {o : Nat} {x1 : Int32} {x2 : Int32}  {h : gk_H} {K : Int32 → gk_H → Prop} (hv : pX12_isFillable_5 E dd o x1 x2 (nI 1) (nI 1) h K) : RnI E mX12_isFillable (dd + 1, 0, 0) [.ref o, .int x1, .int x2] h K := by
  show gk_G E mX12_isFillable (dd + 1, 0, 0) 0 [(0, .ref o), (1, .int x1), (2, .int x2)] [] h (fun o h1 => ∃ v, o = some (.int v) ∧ K v h1)
  refine gk_iconst (pc := 0) (nI 1) (DX12_isFillable_0.at 0 rfl) ci_1 ?_
  refine gk_istore_n (pc := 1) [(3, .int (nI 1)), (0, .ref o), (1, .int x1), (2, .int x2)] (DX12_isFillable_0.at 1 rfl) rfl (Nat.le_of_ble_eq_true rfl) rfl ?_
  refine gk_iconst (pc := 2) (nI 1) (DX12_isFillable_0.at 2 rfl) ci_1 ?_
  refine gk_istore (pc := 3) [(4, .int (nI 1)), (3, .int (nI 1)), (0, .ref o), (1, .int x1), (2, .int x2)] (DX12_isFillable_0.at 3 rfl) (Nat.le_of_ble_eq_true rfl) rfl ?_
  exact gk_pick (pc := 5) [(0, .ref o), (1, .int x1), (2, .int x2), (3, .int (nI 1)), (4, .int (nI 1))] [2, 3, 4, 1, 0] rfl hv
set_option maxHeartbeats 4000000 in
theorem vX12_isFillable_5 {E : gk_E} {dd : Nat} {o : Nat} {x1 : Int32} {x2 : Int32} {x3 : Int32} {x4 : Int32}  {h : gk_H} {K : Int32 → gk_H → Prop} (hv : LdR h o 11 3 fun v1 => AlI h v1 (nI 5) fun v2 => (v2 ≤ x4 → LdR h o 11 3 fun v3 => AlI h v3 (nI 5) fun v4 => (∃ fs, h[o]? = some (.inr (11, fs))) ∧ RnI E mX12_fillsFrom (dd, 0, 0) [.ref o, .int (v4 - (nI 1)), .int x1, .int x3, .int (nI 0), .int x2] h (fun v5 h5 => (bz v5 ∧ K v5 h5))) ∧ (¬ v2 ≤ x4 → pX12_isFillable_5 E dd o x1 x2 (x3 * (nI 10)) (x4 + nI 1) h K)) : pX12_isFillable_5 E dd o x1 x2 x3 x4 h K := by
  show gk_G E mX12_isFillable (dd + 1, 0, 0) 5 [(0, .ref o), (1, .int x1), (2, .int x2), (3, .int x3), (4, .int x4)] [] h (fun o h1 => ∃ v, o = some (.int v) ∧ K v h1)
  refine gk_iload (pc := 5) (DX12_isFillable_0.at 4 rfl) 4 rfl ?_
  refine gk_aload_n (pc := 7) (DX12_isFillable_0.at 5 rfl) 0 rfl rfl ?_
  obtain ⟨fs1, v1, q1, r1, hv⟩ := hv
  refine gk_get (pc := 8) (.ref v1) (DX12_isFillable_0.at 6 rfl) fX12_23_11 q1 r1 ?_
  refine gk_iconst (pc := 11) (nI 5) (DX12_isFillable_0.at 7 rfl) ci_5 ?_
  obtain ⟨n2, f2, q2, r2, hv⟩ := hv
  refine gk_iald (pc := 12) (DX12_isFillable_0.at 8 rfl) q2 r2 ?_
  generalize f2 _ = v2 at hv ⊢
  refine gk_icmp_ge (pc := 13) 27 (DX12_isFillable_0.at 9 rfl) (by decide) (fun c => ?_) (fun c => ?_)
  · replace hv := hv.1 c
    refine gk_aload_n (pc := 27) (DX12_isFillable_0.at 16 rfl) 0 rfl rfl ?_
    refine gk_aload_n (pc := 28) (DX12_isFillable_0.at 17 rfl) 0 rfl rfl ?_
    obtain ⟨fs3, v3, q3, r3, hv⟩ := hv
    refine gk_get (pc := 29) (.ref v3) (DX12_isFillable_0.at 18 rfl) fX12_23_11 q3 r3 ?_
    refine gk_iconst (pc := 32) (nI 5) (DX12_isFillable_0.at 19 rfl) ci_5 ?_
    obtain ⟨n4, f4, q4, r4, hv⟩ := hv
    refine gk_iald (pc := 33) (DX12_isFillable_0.at 20 rfl) q4 r4 ?_
    generalize f4 _ = v4 at hv ⊢
    refine gk_iconst (pc := 34) (nI 1) (DX12_isFillable_0.at 21 rfl) ci_1 ?_
    refine gk_isub (pc := 35) (DX12_isFillable_0.at 22 rfl) ?_
    refine gk_iload_n (pc := 36) (DX12_isFillable_0.at 23 rfl) 1 rfl rfl ?_
    refine gk_iload_n (pc := 37) (DX12_isFillable_0.at 24 rfl) 3 rfl rfl ?_
    refine gk_iconst (pc := 38) (nI 0) (DX12_isFillable_0.at 25 rfl) ci_0 ?_
    refine gk_iload_n (pc := 39) (DX12_isFillable_0.at 26 rfl) 2 rfl rfl ?_
    obtain ⟨⟨fs5, q5⟩, hv⟩ := hv
    refine gk_vV (pc := 40) [.int (v4 - (nI 1)), .int x1, .int x3, .int (nI 0), .int x2] [] (DX12_isFillable_0.at 27 rfl) cvX12_199 q5 rfl rfl (Nat.le_of_ble_eq_true rfl) (Nat.le_of_ble_eq_true rfl) (gk_Run.post (fun o h5 z => ?_) hv)
    obtain ⟨v5, rfl, hv⟩ := z
    exact gk_ireturn (pc := 43) .boolean (DX12_isFillable_0.at 28 rfl) rfl (bz_n hv.1) ⟨_, rfl, hv.2⟩
  · replace hv := hv.2 c
    refine gk_iload_n (pc := 16) (DX12_isFillable_0.at 10 rfl) 3 rfl rfl ?_
    refine gk_bipush (pc := 17) (nI 10) (DX12_isFillable_0.at 11 rfl) cb_10 ?_
    refine gk_imul (pc := 19) (DX12_isFillable_0.at 12 rfl) ?_
    refine gk_istore_n (pc := 20) [(3, .int (x3 * (nI 10))), (0, .ref o), (1, .int x1), (2, .int x2), (4, .int x4)] (DX12_isFillable_0.at 13 rfl) rfl (Nat.le_of_ble_eq_true rfl) rfl ?_
    refine gk_iinc (pc := 21) (x4 + nI 1) [(4, .int (x4 + nI 1)), (3, .int (x3 * (nI 10))), (0, .ref o), (1, .int x1), (2, .int x2)] 4 (DX12_isFillable_0.at 14 rfl) rfl (by rw [ci_1]) (Nat.le_of_ble_eq_true rfl) rfl ?_
    refine gk_goto (pc := 24) 5 (DX12_isFillable_0.at 15 rfl) (by decide) ?_
    exact gk_pick (pc := 5) [(0, .ref o), (1, .int x1), (2, .int x2), (3, .int (x3 * (nI 10))), (4, .int (x4 + nI 1))] [2, 3, 4, 1, 0] rfl hv
set_option maxHeartbeats 4000000 in
theorem vX12_isFilled_0 {E : gk_E} {dd : Nat} {o : Nat} {x1 : Int32} {x2 : Int32}  {h : gk_H} {K : Int32 → gk_H → Prop} (hv : LdI h o 11 10 fun v1 => LdI h o 11 11 fun v2 => LdI h o 11 12 fun v3 => LdR h o 11 3 fun v4 => AlI h v4 (nI 5) fun v5 => AsI h v4 (nI 5) (v5 + (nI 1)) fun h6 => (∃ fs, h6[o]? = some (.inr (11, fs))) ∧ RnI E mX12_isBarred (dd, 0, 0) [.ref o, .int (nI 5)] h6 (fun v7 h7 => (¬ v7 = 0 → StI h7 o 11 10 v1 fun h8 => StI h8 o 11 11 v2 fun h9 => StI h9 o 11 12 v3 fun h10 => ((nI 0) = 0 → ((nI 0) = 0 → LdR h10 o 11 3 fun v11 => AlI h10 v11 (nI 5) fun v12 => AsI h10 v11 (nI 5) (v12 - (nI 1)) fun h13 => K (nI 0) h13) ∧ (¬ (nI 0) = 0 → (∃ fs, h10[o]? = some (.inr (11, fs))) ∧ RnI E mX12_isWon (dd, 0, 0) [.ref o, .int x2] h10 (fun v14 h14 => LdR h14 o 11 3 fun v15 => AlI h14 v15 (nI 5) fun v16 => AsI h14 v15 (nI 5) (v16 - (nI 1)) fun h17 => (bz v14 ∧ K v14 h17)))) ∧ (¬ (nI 0) = 0 → (¬ x2 = ((-1)) → ((nI 0) = 0 → LdR h10 o 11 3 fun v18 => AlI h10 v18 (nI 5) fun v19 => AsI h10 v18 (nI 5) (v19 - (nI 1)) fun h20 => K (nI 0) h20) ∧ (¬ (nI 0) = 0 → (∃ fs, h10[o]? = some (.inr (11, fs))) ∧ RnI E mX12_isWon (dd, 0, 0) [.ref o, .int x2] h10 (fun v21 h21 => LdR h21 o 11 3 fun v22 => AlI h21 v22 (nI 5) fun v23 => AsI h21 v22 (nI 5) (v23 - (nI 1)) fun h24 => (bz v21 ∧ K v21 h24)))) ∧ (x2 = ((-1)) → LdI h10 o 11 10 fun v25 => LdI h10 o 11 11 fun v26 => (¬ v25 = v26 → LdI h10 o 11 12 fun v27 => StI h10 o 11 12 v27 fun h28 => LdI h28 o 11 10 fun v29 => StI h28 o 11 10 (v29 + (nI 1)) fun h30 => LdI h30 o 11 12 fun v31 => (v31 = ((-5)) → LdR h30 o 11 3 fun v32 => AlI h30 v32 (nI 5) fun v33 => AsI h30 v32 (nI 5) (v33 - (nI 1)) fun h34 => K (nI 0) h34) ∧ (¬ v31 = ((-5)) → LdR h30 o 11 3 fun v35 => AlI h30 v35 (nI 5) fun v36 => AsI h30 v35 (nI 5) (v36 - (nI 1)) fun h37 => K (nI 1) h37)) ∧ (v25 = v26 → StI h10 o 11 12 x1 fun h38 => LdI h38 o 11 10 fun v39 => StI h38 o 11 10 (v39 + (nI 1)) fun h40 => LdI h40 o 11 12 fun v41 => (v41 = ((-5)) → LdR h40 o 11 3 fun v42 => AlI h40 v42 (nI 5) fun v43 => AsI h40 v42 (nI 5) (v43 - (nI 1)) fun h44 => K (nI 0) h44) ∧ (¬ v41 = ((-5)) → LdR h40 o 11 3 fun v45 => AlI h40 v45 (nI 5) fun v46 => AsI h40 v45 (nI 5) (v46 - (nI 1)) fun h47 => K (nI 1) h47))))) ∧ (v7 = 0 → StI h7 o 11 10 v1 fun h48 => StI h48 o 11 11 v2 fun h49 => StI h49 o 11 12 v3 fun h50 => ((nI 1) = 0 → ((nI 1) = 0 → LdR h50 o 11 3 fun v51 => AlI h50 v51 (nI 5) fun v52 => AsI h50 v51 (nI 5) (v52 - (nI 1)) fun h53 => K (nI 0) h53) ∧ (¬ (nI 1) = 0 → (∃ fs, h50[o]? = some (.inr (11, fs))) ∧ RnI E mX12_isWon (dd, 0, 0) [.ref o, .int x2] h50 (fun v54 h54 => LdR h54 o 11 3 fun v55 => AlI h54 v55 (nI 5) fun v56 => AsI h54 v55 (nI 5) (v56 - (nI 1)) fun h57 => (bz v54 ∧ K v54 h57)))) ∧ (¬ (nI 1) = 0 → (¬ x2 = ((-1)) → ((nI 1) = 0 → LdR h50 o 11 3 fun v58 => AlI h50 v58 (nI 5) fun v59 => AsI h50 v58 (nI 5) (v59 - (nI 1)) fun h60 => K (nI 0) h60) ∧ (¬ (nI 1) = 0 → (∃ fs, h50[o]? = some (.inr (11, fs))) ∧ RnI E mX12_isWon (dd, 0, 0) [.ref o, .int x2] h50 (fun v61 h61 => LdR h61 o 11 3 fun v62 => AlI h61 v62 (nI 5) fun v63 => AsI h61 v62 (nI 5) (v63 - (nI 1)) fun h64 => (bz v61 ∧ K v61 h64)))) ∧ (x2 = ((-1)) → LdI h50 o 11 10 fun v65 => LdI h50 o 11 11 fun v66 => (¬ v65 = v66 → LdI h50 o 11 12 fun v67 => StI h50 o 11 12 v67 fun h68 => LdI h68 o 11 10 fun v69 => StI h68 o 11 10 (v69 + (nI 1)) fun h70 => LdI h70 o 11 12 fun v71 => (v71 = ((-5)) → LdR h70 o 11 3 fun v72 => AlI h70 v72 (nI 5) fun v73 => AsI h70 v72 (nI 5) (v73 - (nI 1)) fun h74 => K (nI 0) h74) ∧ (¬ v71 = ((-5)) → LdR h70 o 11 3 fun v75 => AlI h70 v75 (nI 5) fun v76 => AsI h70 v75 (nI 5) (v76 - (nI 1)) fun h77 => K (nI 1) h77)) ∧ (v65 = v66 → StI h50 o 11 12 x1 fun h78 => LdI h78 o 11 10 fun v79 => StI h78 o 11 10 (v79 + (nI 1)) fun h80 => LdI h80 o 11 12 fun v81 => (v81 = ((-5)) → LdR h80 o 11 3 fun v82 => AlI h80 v82 (nI 5) fun v83 => AsI h80 v82 (nI 5) (v83 - (nI 1)) fun h84 => K (nI 0) h84) ∧ (¬ v81 = ((-5)) → LdR h80 o 11 3 fun v85 => AlI h80 v85 (nI 5) fun v86 => AsI h80 v85 (nI 5) (v86 - (nI 1)) fun h87 => K (nI 1) h87))))))) : RnI E mX12_isFilled (dd + 1, 0, 0) [.ref o, .int x1, .int x2] h K := by
  show gk_G E mX12_isFilled (dd + 1, 0, 0) 0 [(0, .ref o), (1, .int x1), (2, .int x2)] [] h (fun o h1 => ∃ v, o = some (.int v) ∧ K v h1)
  refine gk_aload_n (pc := 0) (DX12_isFilled_0.at 0 rfl) 0 rfl rfl ?_
  obtain ⟨fs1, v1, q1, r1, hv⟩ := hv
  refine gk_get (pc := 1) (.int v1) (DX12_isFilled_0.at 1 rfl) fX12_174_11 q1 r1 ?_
  refine gk_istore_n (pc := 4) [(3, .int v1), (0, .ref o), (1, .int x1), (2, .int x2)] (DX12_isFilled_0.at 2 rfl) rfl (Nat.le_of_ble_eq_true rfl) rfl ?_
  refine gk_aload_n (pc := 5) (DX12_isFilled_0.at 3 rfl) 1 rfl rfl ?_
  obtain ⟨fs2, v2, q2, r2, hv⟩ := hv
  refine gk_get (pc := 6) (.int v2) (DX12_isFilled_0.at 4 rfl) fX12_177_11 q2 r2 ?_
  refine gk_istore (pc := 9) [(4, .int v2), (3, .int v1), (0, .ref o), (1, .int x1), (2, .int x2)] (DX12_isFilled_0.at 5 rfl) (Nat.le_of_ble_eq_true rfl) rfl ?_
  refine gk_aload_n (pc := 11) (DX12_isFilled_0.at 6 rfl) 2 rfl rfl ?_
  obtain ⟨fs3, v3, q3, r3, hv⟩ := hv
  refine gk_get (pc := 12) (.int v3) (DX12_isFilled_0.at 7 rfl) fX12_180_11 q3 r3 ?_
  refine gk_istore (pc := 15) [(5, .int v3), (4, .int v2), (3, .int v1), (0, .ref o), (1, .int x1), (2, .int x2)] (DX12_isFilled_0.at 8 rfl) (Nat.le_of_ble_eq_true rfl) rfl ?_
  refine gk_aload_n (pc := 17) (DX12_isFilled_0.at 9 rfl) 3 rfl rfl ?_
  obtain ⟨fs4, v4, q4, r4, hv⟩ := hv
  refine gk_get (pc := 18) (.ref v4) (DX12_isFilled_0.at 10 rfl) fX12_23_11 q4 r4 ?_
  refine gk_iconst (pc := 21) (nI 5) (DX12_isFilled_0.at 11 rfl) ci_5 ?_
  refine gk_dup2 (pc := 22) (DX12_isFilled_0.at 12 rfl) rfl rfl ?_
  obtain ⟨n5, f5, q5, r5, hv⟩ := hv
  refine gk_iald (pc := 23) (DX12_isFilled_0.at 13 rfl) q5 r5 ?_
  generalize f5 _ = v5 at hv ⊢
  refine gk_iconst (pc := 24) (nI 1) (DX12_isFilled_0.at 14 rfl) ci_1 ?_
  refine gk_iadd (pc := 25) (DX12_isFilled_0.at 15 rfl) ?_
  obtain ⟨n6, f6, q6, r6, hv⟩ := hv
  refine gk_iast (pc := 26) (DX12_isFilled_0.at 16 rfl) q6 r6 ?_
  generalize h.set _ _ = h6 at hv ⊢
  refine gk_aload_n (pc := 27) (DX12_isFilled_0.at 17 rfl) 3 rfl rfl ?_
  refine gk_iconst (pc := 28) (nI 5) (DX12_isFilled_0.at 18 rfl) ci_5 ?_
  obtain ⟨⟨fs7, q7⟩, hv⟩ := hv
  refine gk_vV (pc := 29) [.int (nI 5)] [] (DX12_isFilled_0.at 19 rfl) cvX12_202 q7 rfl rfl (Nat.le_of_ble_eq_true rfl) (Nat.le_of_ble_eq_true rfl) (gk_Run.post (fun o h7 z => ?_) hv)
  obtain ⟨v7, rfl, hv⟩ := z
  refine gk_if_ne (pc := 32) 39 (DX12_isFilled_0.at 20 rfl) (by decide) (fun c => ?_) (fun c => ?_)
  · replace hv := hv.1 c
    refine gk_iconst (pc := 39) (nI 0) (DX12_isFilled_0.at 23 rfl) ci_0 ?_
    refine gk_istore (pc := 40) [(6, .int (nI 0)), (5, .int v3), (4, .int v2), (3, .int v1), (0, .ref o), (1, .int x1), (2, .int x2)] (DX12_isFilled_0.at 24 rfl) (Nat.le_of_ble_eq_true rfl) rfl ?_
    refine gk_aload_n (pc := 42) (DX12_isFilled_0.at 25 rfl) 4 rfl rfl ?_
    refine gk_iload_n (pc := 43) (DX12_isFilled_0.at 26 rfl) 3 rfl rfl ?_
    obtain ⟨fs8, q8, r8, hv⟩ := hv
    refine gk_put (pc := 44) (DX12_isFilled_0.at 27 rfl) fX12_174_11w q8 r8 rfl rfl ?_
    generalize h7.set _ _ = h8 at hv ⊢
    refine gk_aload_n (pc := 47) (DX12_isFilled_0.at 28 rfl) 4 rfl rfl ?_
    refine gk_iload (pc := 48) (DX12_isFilled_0.at 29 rfl) 2 rfl ?_
    obtain ⟨fs9, q9, r9, hv⟩ := hv
    refine gk_put (pc := 50) (DX12_isFilled_0.at 30 rfl) fX12_177_11w q9 r9 rfl rfl ?_
    generalize h8.set _ _ = h9 at hv ⊢
    refine gk_aload_n (pc := 53) (DX12_isFilled_0.at 31 rfl) 4 rfl rfl ?_
    refine gk_iload (pc := 54) (DX12_isFilled_0.at 32 rfl) 1 rfl ?_
    obtain ⟨fs10, q10, r10, hv⟩ := hv
    refine gk_put (pc := 56) (DX12_isFilled_0.at 33 rfl) fX12_180_11w q10 r10 rfl rfl ?_
    generalize h9.set _ _ = h10 at hv ⊢
    refine gk_iconst (pc := 59) (nI 0) (DX12_isFilled_0.at 34 rfl) ci_0 ?_
    refine gk_istore (pc := 60) [(7, .int (nI 0)), (6, .int (nI 0)), (5, .int v3), (4, .int v2), (3, .int v1), (0, .ref o), (1, .int x1), (2, .int x2)] (DX12_isFilled_0.at 35 rfl) (Nat.le_of_ble_eq_true rfl) rfl ?_
    refine gk_iload (pc := 62) (DX12_isFilled_0.at 36 rfl) 1 rfl ?_
    refine gk_if_eq (pc := 64) 124 (DX12_isFilled_0.at 37 rfl) (by decide) (fun c => ?_) (fun c => ?_)
    · replace hv := hv.1 c
      refine gk_iload (pc := 124) (DX12_isFilled_1.at 7 rfl) 1 rfl ?_
      refine gk_if_eq (pc := 126) 136 (DX12_isFilled_1.at 8 rfl) (by decide) (fun c => ?_) (fun c => ?_)
      · replace hv := hv.1 c
        refine gk_aload_n (pc := 136) (DX12_isFilled_1.at 13 rfl) 5 rfl rfl ?_
        obtain ⟨fs11, v11, q11, r11, hv⟩ := hv
        refine gk_get (pc := 137) (.ref v11) (DX12_isFilled_1.at 14 rfl) fX12_23_11 q11 r11 ?_
        refine gk_iconst (pc := 140) (nI 5) (DX12_isFilled_1.at 15 rfl) ci_5 ?_
        refine gk_dup2 (pc := 141) (DX12_isFilled_1.at 16 rfl) rfl rfl ?_
        obtain ⟨n12, f12, q12, r12, hv⟩ := hv
        refine gk_iald (pc := 142) (DX12_isFilled_1.at 17 rfl) q12 r12 ?_
        generalize f12 _ = v12 at hv ⊢
        refine gk_iconst (pc := 143) (nI 1) (DX12_isFilled_1.at 18 rfl) ci_1 ?_
        refine gk_isub (pc := 144) (DX12_isFilled_1.at 19 rfl) ?_
        obtain ⟨n13, f13, q13, r13, hv⟩ := hv
        refine gk_iast (pc := 145) (DX12_isFilled_1.at 20 rfl) q13 r13 ?_
        generalize h10.set _ _ = h13 at hv ⊢
        refine gk_iload (pc := 146) (DX12_isFilled_1.at 21 rfl) 0 rfl ?_
        exact gk_ireturn (pc := 148) .boolean (DX12_isFilled_1.at 22 rfl) rfl rfl ⟨_, rfl, hv⟩
      · replace hv := hv.2 c
        refine gk_aload_n (pc := 129) (DX12_isFilled_1.at 9 rfl) 5 rfl rfl ?_
        refine gk_iload_n (pc := 130) (DX12_isFilled_1.at 10 rfl) 7 rfl rfl ?_
        obtain ⟨⟨fs14, q14⟩, hv⟩ := hv
        refine gk_vV (pc := 131) [.int x2] [] (DX12_isFilled_1.at 11 rfl) cvX12_205 q14 rfl rfl (Nat.le_of_ble_eq_true rfl) (Nat.le_of_ble_eq_true rfl) (gk_Run.post (fun o h14 z => ?_) hv)
        obtain ⟨v14, rfl, hv⟩ := z
        refine gk_istore (pc := 134) [(7, .int v14), (6, .int (nI 0)), (5, .int v3), (4, .int v2), (3, .int v1), (0, .ref o), (1, .int x1), (2, .int x2)] (DX12_isFilled_1.at 12 rfl) (Nat.le_of_ble_eq_true rfl) rfl ?_
        refine gk_aload_n (pc := 136) (DX12_isFilled_1.at 13 rfl) 5 rfl rfl ?_
        obtain ⟨fs15, v15, q15, r15, hv⟩ := hv
        refine gk_get (pc := 137) (.ref v15) (DX12_isFilled_1.at 14 rfl) fX12_23_11 q15 r15 ?_
        refine gk_iconst (pc := 140) (nI 5) (DX12_isFilled_1.at 15 rfl) ci_5 ?_
        refine gk_dup2 (pc := 141) (DX12_isFilled_1.at 16 rfl) rfl rfl ?_
        obtain ⟨n16, f16, q16, r16, hv⟩ := hv
        refine gk_iald (pc := 142) (DX12_isFilled_1.at 17 rfl) q16 r16 ?_
        generalize f16 _ = v16 at hv ⊢
        refine gk_iconst (pc := 143) (nI 1) (DX12_isFilled_1.at 18 rfl) ci_1 ?_
        refine gk_isub (pc := 144) (DX12_isFilled_1.at 19 rfl) ?_
        obtain ⟨n17, f17, q17, r17, hv⟩ := hv
        refine gk_iast (pc := 145) (DX12_isFilled_1.at 20 rfl) q17 r17 ?_
        generalize h14.set _ _ = h17 at hv ⊢
        refine gk_iload (pc := 146) (DX12_isFilled_1.at 21 rfl) 0 rfl ?_
        exact gk_ireturn (pc := 148) .boolean (DX12_isFilled_1.at 22 rfl) rfl (bz_n hv.1) ⟨_, rfl, hv.2⟩
    · replace hv := hv.2 c
      refine gk_iload_n (pc := 67) (DX12_isFilled_0.at 38 rfl) 7 rfl rfl ?_
      refine gk_iconst (pc := 68) ((-1)) (DX12_isFilled_0.at 39 rfl) ci_m1 ?_
      refine gk_icmp_ne (pc := 69) 124 (DX12_isFilled_0.at 40 rfl) (by decide) (fun c => ?_) (fun c => ?_)
      · replace hv := hv.1 c
        refine gk_iload (pc := 124) (DX12_isFilled_1.at 7 rfl) 1 rfl ?_
        refine gk_if_eq (pc := 126) 136 (DX12_isFilled_1.at 8 rfl) (by decide) (fun c => ?_) (fun c => ?_)
        · replace hv := hv.1 c
          refine gk_aload_n (pc := 136) (DX12_isFilled_1.at 13 rfl) 5 rfl rfl ?_
          obtain ⟨fs18, v18, q18, r18, hv⟩ := hv
          refine gk_get (pc := 137) (.ref v18) (DX12_isFilled_1.at 14 rfl) fX12_23_11 q18 r18 ?_
          refine gk_iconst (pc := 140) (nI 5) (DX12_isFilled_1.at 15 rfl) ci_5 ?_
          refine gk_dup2 (pc := 141) (DX12_isFilled_1.at 16 rfl) rfl rfl ?_
          obtain ⟨n19, f19, q19, r19, hv⟩ := hv
          refine gk_iald (pc := 142) (DX12_isFilled_1.at 17 rfl) q19 r19 ?_
          generalize f19 _ = v19 at hv ⊢
          refine gk_iconst (pc := 143) (nI 1) (DX12_isFilled_1.at 18 rfl) ci_1 ?_
          refine gk_isub (pc := 144) (DX12_isFilled_1.at 19 rfl) ?_
          obtain ⟨n20, f20, q20, r20, hv⟩ := hv
          refine gk_iast (pc := 145) (DX12_isFilled_1.at 20 rfl) q20 r20 ?_
          generalize h10.set _ _ = h20 at hv ⊢
          refine gk_iload (pc := 146) (DX12_isFilled_1.at 21 rfl) 0 rfl ?_
          exact gk_ireturn (pc := 148) .boolean (DX12_isFilled_1.at 22 rfl) rfl rfl ⟨_, rfl, hv⟩
        · replace hv := hv.2 c
          refine gk_aload_n (pc := 129) (DX12_isFilled_1.at 9 rfl) 5 rfl rfl ?_
          refine gk_iload_n (pc := 130) (DX12_isFilled_1.at 10 rfl) 7 rfl rfl ?_
          obtain ⟨⟨fs21, q21⟩, hv⟩ := hv
          refine gk_vV (pc := 131) [.int x2] [] (DX12_isFilled_1.at 11 rfl) cvX12_205 q21 rfl rfl (Nat.le_of_ble_eq_true rfl) (Nat.le_of_ble_eq_true rfl) (gk_Run.post (fun o h21 z => ?_) hv)
          obtain ⟨v21, rfl, hv⟩ := z
          refine gk_istore (pc := 134) [(7, .int v21), (6, .int (nI 0)), (5, .int v3), (4, .int v2), (3, .int v1), (0, .ref o), (1, .int x1), (2, .int x2)] (DX12_isFilled_1.at 12 rfl) (Nat.le_of_ble_eq_true rfl) rfl ?_
          refine gk_aload_n (pc := 136) (DX12_isFilled_1.at 13 rfl) 5 rfl rfl ?_
          obtain ⟨fs22, v22, q22, r22, hv⟩ := hv
          refine gk_get (pc := 137) (.ref v22) (DX12_isFilled_1.at 14 rfl) fX12_23_11 q22 r22 ?_
          refine gk_iconst (pc := 140) (nI 5) (DX12_isFilled_1.at 15 rfl) ci_5 ?_
          refine gk_dup2 (pc := 141) (DX12_isFilled_1.at 16 rfl) rfl rfl ?_
          obtain ⟨n23, f23, q23, r23, hv⟩ := hv
          refine gk_iald (pc := 142) (DX12_isFilled_1.at 17 rfl) q23 r23 ?_
          generalize f23 _ = v23 at hv ⊢
          refine gk_iconst (pc := 143) (nI 1) (DX12_isFilled_1.at 18 rfl) ci_1 ?_
          refine gk_isub (pc := 144) (DX12_isFilled_1.at 19 rfl) ?_
          obtain ⟨n24, f24, q24, r24, hv⟩ := hv
          refine gk_iast (pc := 145) (DX12_isFilled_1.at 20 rfl) q24 r24 ?_
          generalize h21.set _ _ = h24 at hv ⊢
          refine gk_iload (pc := 146) (DX12_isFilled_1.at 21 rfl) 0 rfl ?_
          exact gk_ireturn (pc := 148) .boolean (DX12_isFilled_1.at 22 rfl) rfl (bz_n hv.1) ⟨_, rfl, hv.2⟩
      · replace hv := hv.2 c
        refine gk_aload_n (pc := 72) (DX12_isFilled_0.at 41 rfl) 5 rfl rfl ?_
        refine gk_aload_n (pc := 73) (DX12_isFilled_0.at 42 rfl) 5 rfl rfl ?_
        obtain ⟨fs25, v25, q25, r25, hv⟩ := hv
        refine gk_get (pc := 74) (.int v25) (DX12_isFilled_0.at 43 rfl) fX12_174_11 q25 r25 ?_
        refine gk_aload_n (pc := 77) (DX12_isFilled_0.at 44 rfl) 5 rfl rfl ?_
        obtain ⟨fs26, v26, q26, r26, hv⟩ := hv
        refine gk_get (pc := 78) (.int v26) (DX12_isFilled_0.at 45 rfl) fX12_177_11 q26 r26 ?_
        refine gk_icmp_ne (pc := 81) 88 (DX12_isFilled_0.at 46 rfl) (by decide) (fun c => ?_) (fun c => ?_)
        · replace hv := hv.1 c
          refine gk_aload_n (pc := 88) (DX12_isFilled_0.at 49 rfl) 5 rfl rfl ?_
          obtain ⟨fs27, v27, q27, r27, hv⟩ := hv
          refine gk_get (pc := 89) (.int v27) (DX12_isFilled_0.at 50 rfl) fX12_180_11 q27 r27 ?_
          obtain ⟨fs28, q28, r28, hv⟩ := hv
          refine gk_put (pc := 92) (DX12_isFilled_0.at 51 rfl) fX12_180_11w q28 r28 rfl rfl ?_
          generalize h10.set _ _ = h28 at hv ⊢
          refine gk_aload_n (pc := 95) (DX12_isFilled_0.at 52 rfl) 5 rfl rfl ?_
          refine gk_dup (pc := 96) (DX12_isFilled_0.at 53 rfl) rfl ?_
          obtain ⟨fs29, v29, q29, r29, hv⟩ := hv
          refine gk_get (pc := 97) (.int v29) (DX12_isFilled_0.at 54 rfl) fX12_174_11 q29 r29 ?_
          refine gk_iconst (pc := 100) (nI 1) (DX12_isFilled_0.at 55 rfl) ci_1 ?_
          refine gk_iadd (pc := 101) (DX12_isFilled_0.at 56 rfl) ?_
          obtain ⟨fs30, q30, r30, hv⟩ := hv
          refine gk_put (pc := 102) (DX12_isFilled_0.at 57 rfl) fX12_174_11w q30 r30 rfl rfl ?_
          generalize h28.set _ _ = h30 at hv ⊢
          refine gk_aload_n (pc := 105) (DX12_isFilled_0.at 58 rfl) 5 rfl rfl ?_
          obtain ⟨fs31, v31, q31, r31, hv⟩ := hv
          refine gk_get (pc := 106) (.int v31) (DX12_isFilled_0.at 59 rfl) fX12_180_11 q31 r31 ?_
          refine gk_bipush (pc := 109) ((-5)) (DX12_isFilled_1.at 0 rfl) cb_m5 ?_
          refine gk_icmp_eq (pc := 111) 118 (DX12_isFilled_1.at 1 rfl) (by decide) (fun c => ?_) (fun c => ?_)
          · replace hv := hv.1 c
            refine gk_iconst (pc := 118) (nI 0) (DX12_isFilled_1.at 4 rfl) ci_0 ?_
            refine gk_istore (pc := 119) [(7, .int (nI 0)), (6, .int (nI 0)), (5, .int v3), (4, .int v2), (3, .int v1), (0, .ref o), (1, .int x1), (2, .int x2)] (DX12_isFilled_1.at 5 rfl) (Nat.le_of_ble_eq_true rfl) rfl ?_
            refine gk_goto (pc := 121) 136 (DX12_isFilled_1.at 6 rfl) (by decide) ?_
            refine gk_aload_n (pc := 136) (DX12_isFilled_1.at 13 rfl) 5 rfl rfl ?_
            obtain ⟨fs32, v32, q32, r32, hv⟩ := hv
            refine gk_get (pc := 137) (.ref v32) (DX12_isFilled_1.at 14 rfl) fX12_23_11 q32 r32 ?_
            refine gk_iconst (pc := 140) (nI 5) (DX12_isFilled_1.at 15 rfl) ci_5 ?_
            refine gk_dup2 (pc := 141) (DX12_isFilled_1.at 16 rfl) rfl rfl ?_
            obtain ⟨n33, f33, q33, r33, hv⟩ := hv
            refine gk_iald (pc := 142) (DX12_isFilled_1.at 17 rfl) q33 r33 ?_
            generalize f33 _ = v33 at hv ⊢
            refine gk_iconst (pc := 143) (nI 1) (DX12_isFilled_1.at 18 rfl) ci_1 ?_
            refine gk_isub (pc := 144) (DX12_isFilled_1.at 19 rfl) ?_
            obtain ⟨n34, f34, q34, r34, hv⟩ := hv
            refine gk_iast (pc := 145) (DX12_isFilled_1.at 20 rfl) q34 r34 ?_
            generalize h30.set _ _ = h34 at hv ⊢
            refine gk_iload (pc := 146) (DX12_isFilled_1.at 21 rfl) 0 rfl ?_
            exact gk_ireturn (pc := 148) .boolean (DX12_isFilled_1.at 22 rfl) rfl rfl ⟨_, rfl, hv⟩
          · replace hv := hv.2 c
            refine gk_iconst (pc := 114) (nI 1) (DX12_isFilled_1.at 2 rfl) ci_1 ?_
            refine gk_goto (pc := 115) 119 (DX12_isFilled_1.at 3 rfl) (by decide) ?_
            refine gk_istore (pc := 119) [(7, .int (nI 1)), (6, .int (nI 0)), (5, .int v3), (4, .int v2), (3, .int v1), (0, .ref o), (1, .int x1), (2, .int x2)] (DX12_isFilled_1.at 5 rfl) (Nat.le_of_ble_eq_true rfl) rfl ?_
            refine gk_goto (pc := 121) 136 (DX12_isFilled_1.at 6 rfl) (by decide) ?_
            refine gk_aload_n (pc := 136) (DX12_isFilled_1.at 13 rfl) 5 rfl rfl ?_
            obtain ⟨fs35, v35, q35, r35, hv⟩ := hv
            refine gk_get (pc := 137) (.ref v35) (DX12_isFilled_1.at 14 rfl) fX12_23_11 q35 r35 ?_
            refine gk_iconst (pc := 140) (nI 5) (DX12_isFilled_1.at 15 rfl) ci_5 ?_
            refine gk_dup2 (pc := 141) (DX12_isFilled_1.at 16 rfl) rfl rfl ?_
            obtain ⟨n36, f36, q36, r36, hv⟩ := hv
            refine gk_iald (pc := 142) (DX12_isFilled_1.at 17 rfl) q36 r36 ?_
            generalize f36 _ = v36 at hv ⊢
            refine gk_iconst (pc := 143) (nI 1) (DX12_isFilled_1.at 18 rfl) ci_1 ?_
            refine gk_isub (pc := 144) (DX12_isFilled_1.at 19 rfl) ?_
            obtain ⟨n37, f37, q37, r37, hv⟩ := hv
            refine gk_iast (pc := 145) (DX12_isFilled_1.at 20 rfl) q37 r37 ?_
            generalize h30.set _ _ = h37 at hv ⊢
            refine gk_iload (pc := 146) (DX12_isFilled_1.at 21 rfl) 0 rfl ?_
            exact gk_ireturn (pc := 148) .boolean (DX12_isFilled_1.at 22 rfl) rfl rfl ⟨_, rfl, hv⟩
        · replace hv := hv.2 c
          refine gk_iload_n (pc := 84) (DX12_isFilled_0.at 47 rfl) 6 rfl rfl ?_
          refine gk_goto (pc := 85) 92 (DX12_isFilled_0.at 48 rfl) (by decide) ?_
          obtain ⟨fs38, q38, r38, hv⟩ := hv
          refine gk_put (pc := 92) (DX12_isFilled_0.at 51 rfl) fX12_180_11w q38 r38 rfl rfl ?_
          generalize h10.set _ _ = h38 at hv ⊢
          refine gk_aload_n (pc := 95) (DX12_isFilled_0.at 52 rfl) 5 rfl rfl ?_
          refine gk_dup (pc := 96) (DX12_isFilled_0.at 53 rfl) rfl ?_
          obtain ⟨fs39, v39, q39, r39, hv⟩ := hv
          refine gk_get (pc := 97) (.int v39) (DX12_isFilled_0.at 54 rfl) fX12_174_11 q39 r39 ?_
          refine gk_iconst (pc := 100) (nI 1) (DX12_isFilled_0.at 55 rfl) ci_1 ?_
          refine gk_iadd (pc := 101) (DX12_isFilled_0.at 56 rfl) ?_
          obtain ⟨fs40, q40, r40, hv⟩ := hv
          refine gk_put (pc := 102) (DX12_isFilled_0.at 57 rfl) fX12_174_11w q40 r40 rfl rfl ?_
          generalize h38.set _ _ = h40 at hv ⊢
          refine gk_aload_n (pc := 105) (DX12_isFilled_0.at 58 rfl) 5 rfl rfl ?_
          obtain ⟨fs41, v41, q41, r41, hv⟩ := hv
          refine gk_get (pc := 106) (.int v41) (DX12_isFilled_0.at 59 rfl) fX12_180_11 q41 r41 ?_
          refine gk_bipush (pc := 109) ((-5)) (DX12_isFilled_1.at 0 rfl) cb_m5 ?_
          refine gk_icmp_eq (pc := 111) 118 (DX12_isFilled_1.at 1 rfl) (by decide) (fun c => ?_) (fun c => ?_)
          · replace hv := hv.1 c
            refine gk_iconst (pc := 118) (nI 0) (DX12_isFilled_1.at 4 rfl) ci_0 ?_
            refine gk_istore (pc := 119) [(7, .int (nI 0)), (6, .int (nI 0)), (5, .int v3), (4, .int v2), (3, .int v1), (0, .ref o), (1, .int x1), (2, .int x2)] (DX12_isFilled_1.at 5 rfl) (Nat.le_of_ble_eq_true rfl) rfl ?_
            refine gk_goto (pc := 121) 136 (DX12_isFilled_1.at 6 rfl) (by decide) ?_
            refine gk_aload_n (pc := 136) (DX12_isFilled_1.at 13 rfl) 5 rfl rfl ?_
            obtain ⟨fs42, v42, q42, r42, hv⟩ := hv
            refine gk_get (pc := 137) (.ref v42) (DX12_isFilled_1.at 14 rfl) fX12_23_11 q42 r42 ?_
            refine gk_iconst (pc := 140) (nI 5) (DX12_isFilled_1.at 15 rfl) ci_5 ?_
            refine gk_dup2 (pc := 141) (DX12_isFilled_1.at 16 rfl) rfl rfl ?_
            obtain ⟨n43, f43, q43, r43, hv⟩ := hv
            refine gk_iald (pc := 142) (DX12_isFilled_1.at 17 rfl) q43 r43 ?_
            generalize f43 _ = v43 at hv ⊢
            refine gk_iconst (pc := 143) (nI 1) (DX12_isFilled_1.at 18 rfl) ci_1 ?_
            refine gk_isub (pc := 144) (DX12_isFilled_1.at 19 rfl) ?_
            obtain ⟨n44, f44, q44, r44, hv⟩ := hv
            refine gk_iast (pc := 145) (DX12_isFilled_1.at 20 rfl) q44 r44 ?_
            generalize h40.set _ _ = h44 at hv ⊢
            refine gk_iload (pc := 146) (DX12_isFilled_1.at 21 rfl) 0 rfl ?_
            exact gk_ireturn (pc := 148) .boolean (DX12_isFilled_1.at 22 rfl) rfl rfl ⟨_, rfl, hv⟩
          · replace hv := hv.2 c
            refine gk_iconst (pc := 114) (nI 1) (DX12_isFilled_1.at 2 rfl) ci_1 ?_
            refine gk_goto (pc := 115) 119 (DX12_isFilled_1.at 3 rfl) (by decide) ?_
            refine gk_istore (pc := 119) [(7, .int (nI 1)), (6, .int (nI 0)), (5, .int v3), (4, .int v2), (3, .int v1), (0, .ref o), (1, .int x1), (2, .int x2)] (DX12_isFilled_1.at 5 rfl) (Nat.le_of_ble_eq_true rfl) rfl ?_
            refine gk_goto (pc := 121) 136 (DX12_isFilled_1.at 6 rfl) (by decide) ?_
            refine gk_aload_n (pc := 136) (DX12_isFilled_1.at 13 rfl) 5 rfl rfl ?_
            obtain ⟨fs45, v45, q45, r45, hv⟩ := hv
            refine gk_get (pc := 137) (.ref v45) (DX12_isFilled_1.at 14 rfl) fX12_23_11 q45 r45 ?_
            refine gk_iconst (pc := 140) (nI 5) (DX12_isFilled_1.at 15 rfl) ci_5 ?_
            refine gk_dup2 (pc := 141) (DX12_isFilled_1.at 16 rfl) rfl rfl ?_
            obtain ⟨n46, f46, q46, r46, hv⟩ := hv
            refine gk_iald (pc := 142) (DX12_isFilled_1.at 17 rfl) q46 r46 ?_
            generalize f46 _ = v46 at hv ⊢
            refine gk_iconst (pc := 143) (nI 1) (DX12_isFilled_1.at 18 rfl) ci_1 ?_
            refine gk_isub (pc := 144) (DX12_isFilled_1.at 19 rfl) ?_
            obtain ⟨n47, f47, q47, r47, hv⟩ := hv
            refine gk_iast (pc := 145) (DX12_isFilled_1.at 20 rfl) q47 r47 ?_
            generalize h40.set _ _ = h47 at hv ⊢
            refine gk_iload (pc := 146) (DX12_isFilled_1.at 21 rfl) 0 rfl ?_
            exact gk_ireturn (pc := 148) .boolean (DX12_isFilled_1.at 22 rfl) rfl rfl ⟨_, rfl, hv⟩
  · replace hv := hv.2 c
    refine gk_iconst (pc := 35) (nI 1) (DX12_isFilled_0.at 21 rfl) ci_1 ?_
    refine gk_goto (pc := 36) 40 (DX12_isFilled_0.at 22 rfl) (by decide) ?_
    refine gk_istore (pc := 40) [(6, .int (nI 1)), (5, .int v3), (4, .int v2), (3, .int v1), (0, .ref o), (1, .int x1), (2, .int x2)] (DX12_isFilled_0.at 24 rfl) (Nat.le_of_ble_eq_true rfl) rfl ?_
    refine gk_aload_n (pc := 42) (DX12_isFilled_0.at 25 rfl) 4 rfl rfl ?_
    refine gk_iload_n (pc := 43) (DX12_isFilled_0.at 26 rfl) 3 rfl rfl ?_
    obtain ⟨fs48, q48, r48, hv⟩ := hv
    refine gk_put (pc := 44) (DX12_isFilled_0.at 27 rfl) fX12_174_11w q48 r48 rfl rfl ?_
    generalize h7.set _ _ = h48 at hv ⊢
    refine gk_aload_n (pc := 47) (DX12_isFilled_0.at 28 rfl) 4 rfl rfl ?_
    refine gk_iload (pc := 48) (DX12_isFilled_0.at 29 rfl) 2 rfl ?_
    obtain ⟨fs49, q49, r49, hv⟩ := hv
    refine gk_put (pc := 50) (DX12_isFilled_0.at 30 rfl) fX12_177_11w q49 r49 rfl rfl ?_
    generalize h48.set _ _ = h49 at hv ⊢
    refine gk_aload_n (pc := 53) (DX12_isFilled_0.at 31 rfl) 4 rfl rfl ?_
    refine gk_iload (pc := 54) (DX12_isFilled_0.at 32 rfl) 1 rfl ?_
    obtain ⟨fs50, q50, r50, hv⟩ := hv
    refine gk_put (pc := 56) (DX12_isFilled_0.at 33 rfl) fX12_180_11w q50 r50 rfl rfl ?_
    generalize h49.set _ _ = h50 at hv ⊢
    refine gk_iconst (pc := 59) (nI 0) (DX12_isFilled_0.at 34 rfl) ci_0 ?_
    refine gk_istore (pc := 60) [(7, .int (nI 0)), (6, .int (nI 1)), (5, .int v3), (4, .int v2), (3, .int v1), (0, .ref o), (1, .int x1), (2, .int x2)] (DX12_isFilled_0.at 35 rfl) (Nat.le_of_ble_eq_true rfl) rfl ?_
    refine gk_iload (pc := 62) (DX12_isFilled_0.at 36 rfl) 1 rfl ?_
    refine gk_if_eq (pc := 64) 124 (DX12_isFilled_0.at 37 rfl) (by decide) (fun c => ?_) (fun c => ?_)
    · replace hv := hv.1 c
      refine gk_iload (pc := 124) (DX12_isFilled_1.at 7 rfl) 1 rfl ?_
      refine gk_if_eq (pc := 126) 136 (DX12_isFilled_1.at 8 rfl) (by decide) (fun c => ?_) (fun c => ?_)
      · replace hv := hv.1 c
        refine gk_aload_n (pc := 136) (DX12_isFilled_1.at 13 rfl) 5 rfl rfl ?_
        obtain ⟨fs51, v51, q51, r51, hv⟩ := hv
        refine gk_get (pc := 137) (.ref v51) (DX12_isFilled_1.at 14 rfl) fX12_23_11 q51 r51 ?_
        refine gk_iconst (pc := 140) (nI 5) (DX12_isFilled_1.at 15 rfl) ci_5 ?_
        refine gk_dup2 (pc := 141) (DX12_isFilled_1.at 16 rfl) rfl rfl ?_
        obtain ⟨n52, f52, q52, r52, hv⟩ := hv
        refine gk_iald (pc := 142) (DX12_isFilled_1.at 17 rfl) q52 r52 ?_
        generalize f52 _ = v52 at hv ⊢
        refine gk_iconst (pc := 143) (nI 1) (DX12_isFilled_1.at 18 rfl) ci_1 ?_
        refine gk_isub (pc := 144) (DX12_isFilled_1.at 19 rfl) ?_
        obtain ⟨n53, f53, q53, r53, hv⟩ := hv
        refine gk_iast (pc := 145) (DX12_isFilled_1.at 20 rfl) q53 r53 ?_
        generalize h50.set _ _ = h53 at hv ⊢
        refine gk_iload (pc := 146) (DX12_isFilled_1.at 21 rfl) 0 rfl ?_
        exact gk_ireturn (pc := 148) .boolean (DX12_isFilled_1.at 22 rfl) rfl rfl ⟨_, rfl, hv⟩
      · replace hv := hv.2 c
        refine gk_aload_n (pc := 129) (DX12_isFilled_1.at 9 rfl) 5 rfl rfl ?_
        refine gk_iload_n (pc := 130) (DX12_isFilled_1.at 10 rfl) 7 rfl rfl ?_
        obtain ⟨⟨fs54, q54⟩, hv⟩ := hv
        refine gk_vV (pc := 131) [.int x2] [] (DX12_isFilled_1.at 11 rfl) cvX12_205 q54 rfl rfl (Nat.le_of_ble_eq_true rfl) (Nat.le_of_ble_eq_true rfl) (gk_Run.post (fun o h54 z => ?_) hv)
        obtain ⟨v54, rfl, hv⟩ := z
        refine gk_istore (pc := 134) [(7, .int v54), (6, .int (nI 1)), (5, .int v3), (4, .int v2), (3, .int v1), (0, .ref o), (1, .int x1), (2, .int x2)] (DX12_isFilled_1.at 12 rfl) (Nat.le_of_ble_eq_true rfl) rfl ?_
        refine gk_aload_n (pc := 136) (DX12_isFilled_1.at 13 rfl) 5 rfl rfl ?_
        obtain ⟨fs55, v55, q55, r55, hv⟩ := hv
        refine gk_get (pc := 137) (.ref v55) (DX12_isFilled_1.at 14 rfl) fX12_23_11 q55 r55 ?_
        refine gk_iconst (pc := 140) (nI 5) (DX12_isFilled_1.at 15 rfl) ci_5 ?_
        refine gk_dup2 (pc := 141) (DX12_isFilled_1.at 16 rfl) rfl rfl ?_
        obtain ⟨n56, f56, q56, r56, hv⟩ := hv
        refine gk_iald (pc := 142) (DX12_isFilled_1.at 17 rfl) q56 r56 ?_
        generalize f56 _ = v56 at hv ⊢
        refine gk_iconst (pc := 143) (nI 1) (DX12_isFilled_1.at 18 rfl) ci_1 ?_
        refine gk_isub (pc := 144) (DX12_isFilled_1.at 19 rfl) ?_
        obtain ⟨n57, f57, q57, r57, hv⟩ := hv
        refine gk_iast (pc := 145) (DX12_isFilled_1.at 20 rfl) q57 r57 ?_
        generalize h54.set _ _ = h57 at hv ⊢
        refine gk_iload (pc := 146) (DX12_isFilled_1.at 21 rfl) 0 rfl ?_
        exact gk_ireturn (pc := 148) .boolean (DX12_isFilled_1.at 22 rfl) rfl (bz_n hv.1) ⟨_, rfl, hv.2⟩
    · replace hv := hv.2 c
      refine gk_iload_n (pc := 67) (DX12_isFilled_0.at 38 rfl) 7 rfl rfl ?_
      refine gk_iconst (pc := 68) ((-1)) (DX12_isFilled_0.at 39 rfl) ci_m1 ?_
      refine gk_icmp_ne (pc := 69) 124 (DX12_isFilled_0.at 40 rfl) (by decide) (fun c => ?_) (fun c => ?_)
      · replace hv := hv.1 c
        refine gk_iload (pc := 124) (DX12_isFilled_1.at 7 rfl) 1 rfl ?_
        refine gk_if_eq (pc := 126) 136 (DX12_isFilled_1.at 8 rfl) (by decide) (fun c => ?_) (fun c => ?_)
        · replace hv := hv.1 c
          refine gk_aload_n (pc := 136) (DX12_isFilled_1.at 13 rfl) 5 rfl rfl ?_
          obtain ⟨fs58, v58, q58, r58, hv⟩ := hv
          refine gk_get (pc := 137) (.ref v58) (DX12_isFilled_1.at 14 rfl) fX12_23_11 q58 r58 ?_
          refine gk_iconst (pc := 140) (nI 5) (DX12_isFilled_1.at 15 rfl) ci_5 ?_
          refine gk_dup2 (pc := 141) (DX12_isFilled_1.at 16 rfl) rfl rfl ?_
          obtain ⟨n59, f59, q59, r59, hv⟩ := hv
          refine gk_iald (pc := 142) (DX12_isFilled_1.at 17 rfl) q59 r59 ?_
          generalize f59 _ = v59 at hv ⊢
          refine gk_iconst (pc := 143) (nI 1) (DX12_isFilled_1.at 18 rfl) ci_1 ?_
          refine gk_isub (pc := 144) (DX12_isFilled_1.at 19 rfl) ?_
          obtain ⟨n60, f60, q60, r60, hv⟩ := hv
          refine gk_iast (pc := 145) (DX12_isFilled_1.at 20 rfl) q60 r60 ?_
          generalize h50.set _ _ = h60 at hv ⊢
          refine gk_iload (pc := 146) (DX12_isFilled_1.at 21 rfl) 0 rfl ?_
          exact gk_ireturn (pc := 148) .boolean (DX12_isFilled_1.at 22 rfl) rfl rfl ⟨_, rfl, hv⟩
        · replace hv := hv.2 c
          refine gk_aload_n (pc := 129) (DX12_isFilled_1.at 9 rfl) 5 rfl rfl ?_
          refine gk_iload_n (pc := 130) (DX12_isFilled_1.at 10 rfl) 7 rfl rfl ?_
          obtain ⟨⟨fs61, q61⟩, hv⟩ := hv
          refine gk_vV (pc := 131) [.int x2] [] (DX12_isFilled_1.at 11 rfl) cvX12_205 q61 rfl rfl (Nat.le_of_ble_eq_true rfl) (Nat.le_of_ble_eq_true rfl) (gk_Run.post (fun o h61 z => ?_) hv)
          obtain ⟨v61, rfl, hv⟩ := z
          refine gk_istore (pc := 134) [(7, .int v61), (6, .int (nI 1)), (5, .int v3), (4, .int v2), (3, .int v1), (0, .ref o), (1, .int x1), (2, .int x2)] (DX12_isFilled_1.at 12 rfl) (Nat.le_of_ble_eq_true rfl) rfl ?_
          refine gk_aload_n (pc := 136) (DX12_isFilled_1.at 13 rfl) 5 rfl rfl ?_
          obtain ⟨fs62, v62, q62, r62, hv⟩ := hv
          refine gk_get (pc := 137) (.ref v62) (DX12_isFilled_1.at 14 rfl) fX12_23_11 q62 r62 ?_
          refine gk_iconst (pc := 140) (nI 5) (DX12_isFilled_1.at 15 rfl) ci_5 ?_
          refine gk_dup2 (pc := 141) (DX12_isFilled_1.at 16 rfl) rfl rfl ?_
          obtain ⟨n63, f63, q63, r63, hv⟩ := hv
          refine gk_iald (pc := 142) (DX12_isFilled_1.at 17 rfl) q63 r63 ?_
          generalize f63 _ = v63 at hv ⊢
          refine gk_iconst (pc := 143) (nI 1) (DX12_isFilled_1.at 18 rfl) ci_1 ?_
          refine gk_isub (pc := 144) (DX12_isFilled_1.at 19 rfl) ?_
          obtain ⟨n64, f64, q64, r64, hv⟩ := hv
          refine gk_iast (pc := 145) (DX12_isFilled_1.at 20 rfl) q64 r64 ?_
          generalize h61.set _ _ = h64 at hv ⊢
          refine gk_iload (pc := 146) (DX12_isFilled_1.at 21 rfl) 0 rfl ?_
          exact gk_ireturn (pc := 148) .boolean (DX12_isFilled_1.at 22 rfl) rfl (bz_n hv.1) ⟨_, rfl, hv.2⟩
      · replace hv := hv.2 c
        refine gk_aload_n (pc := 72) (DX12_isFilled_0.at 41 rfl) 5 rfl rfl ?_
        refine gk_aload_n (pc := 73) (DX12_isFilled_0.at 42 rfl) 5 rfl rfl ?_
        obtain ⟨fs65, v65, q65, r65, hv⟩ := hv
        refine gk_get (pc := 74) (.int v65) (DX12_isFilled_0.at 43 rfl) fX12_174_11 q65 r65 ?_
        refine gk_aload_n (pc := 77) (DX12_isFilled_0.at 44 rfl) 5 rfl rfl ?_
        obtain ⟨fs66, v66, q66, r66, hv⟩ := hv
        refine gk_get (pc := 78) (.int v66) (DX12_isFilled_0.at 45 rfl) fX12_177_11 q66 r66 ?_
        refine gk_icmp_ne (pc := 81) 88 (DX12_isFilled_0.at 46 rfl) (by decide) (fun c => ?_) (fun c => ?_)
        · replace hv := hv.1 c
          refine gk_aload_n (pc := 88) (DX12_isFilled_0.at 49 rfl) 5 rfl rfl ?_
          obtain ⟨fs67, v67, q67, r67, hv⟩ := hv
          refine gk_get (pc := 89) (.int v67) (DX12_isFilled_0.at 50 rfl) fX12_180_11 q67 r67 ?_
          obtain ⟨fs68, q68, r68, hv⟩ := hv
          refine gk_put (pc := 92) (DX12_isFilled_0.at 51 rfl) fX12_180_11w q68 r68 rfl rfl ?_
          generalize h50.set _ _ = h68 at hv ⊢
          refine gk_aload_n (pc := 95) (DX12_isFilled_0.at 52 rfl) 5 rfl rfl ?_
          refine gk_dup (pc := 96) (DX12_isFilled_0.at 53 rfl) rfl ?_
          obtain ⟨fs69, v69, q69, r69, hv⟩ := hv
          refine gk_get (pc := 97) (.int v69) (DX12_isFilled_0.at 54 rfl) fX12_174_11 q69 r69 ?_
          refine gk_iconst (pc := 100) (nI 1) (DX12_isFilled_0.at 55 rfl) ci_1 ?_
          refine gk_iadd (pc := 101) (DX12_isFilled_0.at 56 rfl) ?_
          obtain ⟨fs70, q70, r70, hv⟩ := hv
          refine gk_put (pc := 102) (DX12_isFilled_0.at 57 rfl) fX12_174_11w q70 r70 rfl rfl ?_
          generalize h68.set _ _ = h70 at hv ⊢
          refine gk_aload_n (pc := 105) (DX12_isFilled_0.at 58 rfl) 5 rfl rfl ?_
          obtain ⟨fs71, v71, q71, r71, hv⟩ := hv
          refine gk_get (pc := 106) (.int v71) (DX12_isFilled_0.at 59 rfl) fX12_180_11 q71 r71 ?_
          refine gk_bipush (pc := 109) ((-5)) (DX12_isFilled_1.at 0 rfl) cb_m5 ?_
          refine gk_icmp_eq (pc := 111) 118 (DX12_isFilled_1.at 1 rfl) (by decide) (fun c => ?_) (fun c => ?_)
          · replace hv := hv.1 c
            refine gk_iconst (pc := 118) (nI 0) (DX12_isFilled_1.at 4 rfl) ci_0 ?_
            refine gk_istore (pc := 119) [(7, .int (nI 0)), (6, .int (nI 1)), (5, .int v3), (4, .int v2), (3, .int v1), (0, .ref o), (1, .int x1), (2, .int x2)] (DX12_isFilled_1.at 5 rfl) (Nat.le_of_ble_eq_true rfl) rfl ?_
            refine gk_goto (pc := 121) 136 (DX12_isFilled_1.at 6 rfl) (by decide) ?_
            refine gk_aload_n (pc := 136) (DX12_isFilled_1.at 13 rfl) 5 rfl rfl ?_
            obtain ⟨fs72, v72, q72, r72, hv⟩ := hv
            refine gk_get (pc := 137) (.ref v72) (DX12_isFilled_1.at 14 rfl) fX12_23_11 q72 r72 ?_
            refine gk_iconst (pc := 140) (nI 5) (DX12_isFilled_1.at 15 rfl) ci_5 ?_
            refine gk_dup2 (pc := 141) (DX12_isFilled_1.at 16 rfl) rfl rfl ?_
            obtain ⟨n73, f73, q73, r73, hv⟩ := hv
            refine gk_iald (pc := 142) (DX12_isFilled_1.at 17 rfl) q73 r73 ?_
            generalize f73 _ = v73 at hv ⊢
            refine gk_iconst (pc := 143) (nI 1) (DX12_isFilled_1.at 18 rfl) ci_1 ?_
            refine gk_isub (pc := 144) (DX12_isFilled_1.at 19 rfl) ?_
            obtain ⟨n74, f74, q74, r74, hv⟩ := hv
            refine gk_iast (pc := 145) (DX12_isFilled_1.at 20 rfl) q74 r74 ?_
            generalize h70.set _ _ = h74 at hv ⊢
            refine gk_iload (pc := 146) (DX12_isFilled_1.at 21 rfl) 0 rfl ?_
            exact gk_ireturn (pc := 148) .boolean (DX12_isFilled_1.at 22 rfl) rfl rfl ⟨_, rfl, hv⟩
          · replace hv := hv.2 c
            refine gk_iconst (pc := 114) (nI 1) (DX12_isFilled_1.at 2 rfl) ci_1 ?_
            refine gk_goto (pc := 115) 119 (DX12_isFilled_1.at 3 rfl) (by decide) ?_
            refine gk_istore (pc := 119) [(7, .int (nI 1)), (6, .int (nI 1)), (5, .int v3), (4, .int v2), (3, .int v1), (0, .ref o), (1, .int x1), (2, .int x2)] (DX12_isFilled_1.at 5 rfl) (Nat.le_of_ble_eq_true rfl) rfl ?_
            refine gk_goto (pc := 121) 136 (DX12_isFilled_1.at 6 rfl) (by decide) ?_
            refine gk_aload_n (pc := 136) (DX12_isFilled_1.at 13 rfl) 5 rfl rfl ?_
            obtain ⟨fs75, v75, q75, r75, hv⟩ := hv
            refine gk_get (pc := 137) (.ref v75) (DX12_isFilled_1.at 14 rfl) fX12_23_11 q75 r75 ?_
            refine gk_iconst (pc := 140) (nI 5) (DX12_isFilled_1.at 15 rfl) ci_5 ?_
            refine gk_dup2 (pc := 141) (DX12_isFilled_1.at 16 rfl) rfl rfl ?_
            obtain ⟨n76, f76, q76, r76, hv⟩ := hv
            refine gk_iald (pc := 142) (DX12_isFilled_1.at 17 rfl) q76 r76 ?_
            generalize f76 _ = v76 at hv ⊢
            refine gk_iconst (pc := 143) (nI 1) (DX12_isFilled_1.at 18 rfl) ci_1 ?_
            refine gk_isub (pc := 144) (DX12_isFilled_1.at 19 rfl) ?_
            obtain ⟨n77, f77, q77, r77, hv⟩ := hv
            refine gk_iast (pc := 145) (DX12_isFilled_1.at 20 rfl) q77 r77 ?_
            generalize h70.set _ _ = h77 at hv ⊢
            refine gk_iload (pc := 146) (DX12_isFilled_1.at 21 rfl) 0 rfl ?_
            exact gk_ireturn (pc := 148) .boolean (DX12_isFilled_1.at 22 rfl) rfl rfl ⟨_, rfl, hv⟩
        · replace hv := hv.2 c
          refine gk_iload_n (pc := 84) (DX12_isFilled_0.at 47 rfl) 6 rfl rfl ?_
          refine gk_goto (pc := 85) 92 (DX12_isFilled_0.at 48 rfl) (by decide) ?_
          obtain ⟨fs78, q78, r78, hv⟩ := hv
          refine gk_put (pc := 92) (DX12_isFilled_0.at 51 rfl) fX12_180_11w q78 r78 rfl rfl ?_
          generalize h50.set _ _ = h78 at hv ⊢
          refine gk_aload_n (pc := 95) (DX12_isFilled_0.at 52 rfl) 5 rfl rfl ?_
          refine gk_dup (pc := 96) (DX12_isFilled_0.at 53 rfl) rfl ?_
          obtain ⟨fs79, v79, q79, r79, hv⟩ := hv
          refine gk_get (pc := 97) (.int v79) (DX12_isFilled_0.at 54 rfl) fX12_174_11 q79 r79 ?_
          refine gk_iconst (pc := 100) (nI 1) (DX12_isFilled_0.at 55 rfl) ci_1 ?_
          refine gk_iadd (pc := 101) (DX12_isFilled_0.at 56 rfl) ?_
          obtain ⟨fs80, q80, r80, hv⟩ := hv
          refine gk_put (pc := 102) (DX12_isFilled_0.at 57 rfl) fX12_174_11w q80 r80 rfl rfl ?_
          generalize h78.set _ _ = h80 at hv ⊢
          refine gk_aload_n (pc := 105) (DX12_isFilled_0.at 58 rfl) 5 rfl rfl ?_
          obtain ⟨fs81, v81, q81, r81, hv⟩ := hv
          refine gk_get (pc := 106) (.int v81) (DX12_isFilled_0.at 59 rfl) fX12_180_11 q81 r81 ?_
          refine gk_bipush (pc := 109) ((-5)) (DX12_isFilled_1.at 0 rfl) cb_m5 ?_
          refine gk_icmp_eq (pc := 111) 118 (DX12_isFilled_1.at 1 rfl) (by decide) (fun c => ?_) (fun c => ?_)
          · replace hv := hv.1 c
            refine gk_iconst (pc := 118) (nI 0) (DX12_isFilled_1.at 4 rfl) ci_0 ?_
            refine gk_istore (pc := 119) [(7, .int (nI 0)), (6, .int (nI 1)), (5, .int v3), (4, .int v2), (3, .int v1), (0, .ref o), (1, .int x1), (2, .int x2)] (DX12_isFilled_1.at 5 rfl) (Nat.le_of_ble_eq_true rfl) rfl ?_
            refine gk_goto (pc := 121) 136 (DX12_isFilled_1.at 6 rfl) (by decide) ?_
            refine gk_aload_n (pc := 136) (DX12_isFilled_1.at 13 rfl) 5 rfl rfl ?_
            obtain ⟨fs82, v82, q82, r82, hv⟩ := hv
            refine gk_get (pc := 137) (.ref v82) (DX12_isFilled_1.at 14 rfl) fX12_23_11 q82 r82 ?_
            refine gk_iconst (pc := 140) (nI 5) (DX12_isFilled_1.at 15 rfl) ci_5 ?_
            refine gk_dup2 (pc := 141) (DX12_isFilled_1.at 16 rfl) rfl rfl ?_
            obtain ⟨n83, f83, q83, r83, hv⟩ := hv
            refine gk_iald (pc := 142) (DX12_isFilled_1.at 17 rfl) q83 r83 ?_
            generalize f83 _ = v83 at hv ⊢
            refine gk_iconst (pc := 143) (nI 1) (DX12_isFilled_1.at 18 rfl) ci_1 ?_
            refine gk_isub (pc := 144) (DX12_isFilled_1.at 19 rfl) ?_
            obtain ⟨n84, f84, q84, r84, hv⟩ := hv
            refine gk_iast (pc := 145) (DX12_isFilled_1.at 20 rfl) q84 r84 ?_
            generalize h80.set _ _ = h84 at hv ⊢
            refine gk_iload (pc := 146) (DX12_isFilled_1.at 21 rfl) 0 rfl ?_
            exact gk_ireturn (pc := 148) .boolean (DX12_isFilled_1.at 22 rfl) rfl rfl ⟨_, rfl, hv⟩
          · replace hv := hv.2 c
            refine gk_iconst (pc := 114) (nI 1) (DX12_isFilled_1.at 2 rfl) ci_1 ?_
            refine gk_goto (pc := 115) 119 (DX12_isFilled_1.at 3 rfl) (by decide) ?_
            refine gk_istore (pc := 119) [(7, .int (nI 1)), (6, .int (nI 1)), (5, .int v3), (4, .int v2), (3, .int v1), (0, .ref o), (1, .int x1), (2, .int x2)] (DX12_isFilled_1.at 5 rfl) (Nat.le_of_ble_eq_true rfl) rfl ?_
            refine gk_goto (pc := 121) 136 (DX12_isFilled_1.at 6 rfl) (by decide) ?_
            refine gk_aload_n (pc := 136) (DX12_isFilled_1.at 13 rfl) 5 rfl rfl ?_
            obtain ⟨fs85, v85, q85, r85, hv⟩ := hv
            refine gk_get (pc := 137) (.ref v85) (DX12_isFilled_1.at 14 rfl) fX12_23_11 q85 r85 ?_
            refine gk_iconst (pc := 140) (nI 5) (DX12_isFilled_1.at 15 rfl) ci_5 ?_
            refine gk_dup2 (pc := 141) (DX12_isFilled_1.at 16 rfl) rfl rfl ?_
            obtain ⟨n86, f86, q86, r86, hv⟩ := hv
            refine gk_iald (pc := 142) (DX12_isFilled_1.at 17 rfl) q86 r86 ?_
            generalize f86 _ = v86 at hv ⊢
            refine gk_iconst (pc := 143) (nI 1) (DX12_isFilled_1.at 18 rfl) ci_1 ?_
            refine gk_isub (pc := 144) (DX12_isFilled_1.at 19 rfl) ?_
            obtain ⟨n87, f87, q87, r87, hv⟩ := hv
            refine gk_iast (pc := 145) (DX12_isFilled_1.at 20 rfl) q87 r87 ?_
            generalize h80.set _ _ = h87 at hv ⊢
            refine gk_iload (pc := 146) (DX12_isFilled_1.at 21 rfl) 0 rfl ?_
            exact gk_ireturn (pc := 148) .boolean (DX12_isFilled_1.at 22 rfl) rfl rfl ⟨_, rfl, hv⟩
set_option maxHeartbeats 4000000 in
theorem vX12_isFrom_0 {E : gk_E} {dd : Nat} {x0 : Int64} {x2 : Int64} {x4 : Int64}  {h : gk_H} {K : Int32 → gk_H → Prop} (hv : ((lg_cmp x0 x2) < 0 → K (nI 0) h) ∧ (¬ (lg_cmp x0 x2) < 0 → (0 < (lg_cmp x0 x4) → K (nI 0) h) ∧ (¬ 0 < (lg_cmp x0 x4) → K (nI 1) h))) : RnI E mX12_isFrom (dd, 0, 0) [.long x0, .long x2, .long x4] h K := by
  show gk_G E mX12_isFrom (dd, 0, 0) 0 [(0, .long x0), (2, .long x2), (4, .long x4)] [] h (fun o h1 => ∃ v, o = some (.int v) ∧ K v h1)
  refine gk_lload_n (pc := 0) (DX12_isFrom_0.at 0 rfl) 0 rfl rfl ?_
  refine gk_lload_n (pc := 1) (DX12_isFrom_0.at 1 rfl) 1 rfl rfl ?_
  refine gk_lcmp (pc := 2) (DX12_isFrom_0.at 2 rfl) ?_
  refine gk_if_lt (pc := 3) 17 (DX12_isFrom_0.at 3 rfl) (by decide) (fun c => ?_) (fun c => ?_)
  · replace hv := hv.1 c
    refine gk_iconst (pc := 17) (nI 0) (DX12_isFrom_0.at 10 rfl) ci_0 ?_
    exact gk_ireturn (pc := 18) .boolean (DX12_isFrom_0.at 11 rfl) rfl rfl ⟨_, rfl, hv⟩
  · replace hv := hv.2 c
    refine gk_lload_n (pc := 6) (DX12_isFrom_0.at 4 rfl) 0 rfl rfl ?_
    refine gk_lload (pc := 7) (DX12_isFrom_0.at 5 rfl) 2 rfl ?_
    refine gk_lcmp (pc := 9) (DX12_isFrom_0.at 6 rfl) ?_
    refine gk_if_gt (pc := 10) 17 (DX12_isFrom_0.at 7 rfl) (by decide) (fun c => ?_) (fun c => ?_)
    · replace hv := hv.1 c
      refine gk_iconst (pc := 17) (nI 0) (DX12_isFrom_0.at 10 rfl) ci_0 ?_
      exact gk_ireturn (pc := 18) .boolean (DX12_isFrom_0.at 11 rfl) rfl rfl ⟨_, rfl, hv⟩
    · replace hv := hv.2 c
      refine gk_iconst (pc := 13) (nI 1) (DX12_isFrom_0.at 8 rfl) ci_1 ?_
      refine gk_goto (pc := 14) 18 (DX12_isFrom_0.at 9 rfl) (by decide) ?_
      exact gk_ireturn (pc := 18) .boolean (DX12_isFrom_0.at 11 rfl) rfl rfl ⟨_, rfl, hv⟩
abbrev pX12_isGap_23 (E : gk_E) (dd : Nat) (o : Nat) (x1 : Int32) (x2 : Int32) (x3 : Int32) (x4 : Int32) (x5 : Int32) (x6 : Int32) (h : gk_H) (K : Int32 → gk_H → Prop) : Prop := gk_G E mX12_isGap (dd + 1, 0, 0) 23 [(0, .ref o), (1, .int x1), (2, .int x2), (3, .int x3), (4, .int x4), (5, .int x5), (6, .int x6)] [] h (fun o h1 => ∃ v, o = some (.int v) ∧ K v h1)
set_option maxHeartbeats 4000000 in
theorem vX12_isGap_0 {E : gk_E} {dd : Nat} {o : Nat} {x1 : Int32} {x2 : Int32} {x3 : Int32} {x4 : Int32} {x5 : Int32}  {h : gk_H} {K : Int32 → gk_H → Prop} (hv : (∃ fs, h[o]? = some (.inr (11, fs))) ∧ RnI E mX12_labelOf (dd, 0, 0) [.ref o, .int x1, .int x2, .int x3] h (fun v1 h1 => (∃ fs, h1[o]? = some (.inr (11, fs))) ∧ RnI E mX12_is (dd, 0, 0) [.ref o, .int x4, .int x5, .int v1] h1 (fun v2 h2 => (¬ v2 = 0 → pX12_isGap_23 E dd o x1 x2 x3 x4 x5 (nI 0) h2 K) ∧ (v2 = 0 → K (nI 0) h2)))) : RnI E mX12_isGap (dd + 1, 0, 0) [.ref o, .int x1, .int x2, .int x3, .int x4, .int x5] h K := by
  show gk_G E mX12_isGap (dd + 1, 0, 0) 0 [(0, .ref o), (1, .int x1), (2, .int x2), (3, .int x3), (4, .int x4), (5, .int x5)] [] h (fun o h1 => ∃ v, o = some (.int v) ∧ K v h1)
  refine gk_aload_n (pc := 0) (DX12_isGap_0.at 0 rfl) 0 rfl rfl ?_
  refine gk_iload (pc := 1) (DX12_isGap_0.at 1 rfl) 4 rfl ?_
  refine gk_iload (pc := 3) (DX12_isGap_0.at 2 rfl) 5 rfl ?_
  refine gk_aload_n (pc := 5) (DX12_isGap_0.at 3 rfl) 0 rfl rfl ?_
  refine gk_iload_n (pc := 6) (DX12_isGap_0.at 4 rfl) 1 rfl rfl ?_
  refine gk_iload_n (pc := 7) (DX12_isGap_0.at 5 rfl) 2 rfl rfl ?_
  refine gk_iload_n (pc := 8) (DX12_isGap_0.at 6 rfl) 3 rfl rfl ?_
  obtain ⟨⟨fs1, q1⟩, hv⟩ := hv
  refine gk_vV (pc := 9) [.int x1, .int x2, .int x3] [.int x5, .int x4, .ref o] (DX12_isGap_0.at 7 rfl) cvX12_158 q1 rfl rfl (Nat.le_of_ble_eq_true rfl) (Nat.le_of_ble_eq_true rfl) (gk_Run.post (fun o h1 z => ?_) hv)
  obtain ⟨v1, rfl, hv⟩ := z
  obtain ⟨⟨fs2, q2⟩, hv⟩ := hv
  refine gk_vV (pc := 12) [.int x4, .int x5, .int v1] [] (DX12_isGap_0.at 8 rfl) cvX12_105 q2 rfl rfl (Nat.le_of_ble_eq_true rfl) (Nat.le_of_ble_eq_true rfl) (gk_Run.post (fun o h2 z => ?_) hv)
  obtain ⟨v2, rfl, hv⟩ := z
  refine gk_if_ne (pc := 15) 20 (DX12_isGap_0.at 9 rfl) (by decide) (fun c => ?_) (fun c => ?_)
  · replace hv := hv.1 c
    refine gk_iconst (pc := 20) (nI 0) (DX12_isGap_0.at 12 rfl) ci_0 ?_
    refine gk_istore (pc := 21) [(6, .int (nI 0)), (0, .ref o), (1, .int x1), (2, .int x2), (3, .int x3), (4, .int x4), (5, .int x5)] (DX12_isGap_0.at 13 rfl) (Nat.le_of_ble_eq_true rfl) rfl ?_
    exact gk_pick (pc := 23) [(0, .ref o), (1, .int x1), (2, .int x2), (3, .int x3), (4, .int x4), (5, .int x5), (6, .int (nI 0))] [1, 2, 3, 4, 5, 6, 0] rfl hv
  · replace hv := hv.2 c
    refine gk_iconst (pc := 18) (nI 0) (DX12_isGap_0.at 10 rfl) ci_0 ?_
    exact gk_ireturn (pc := 19) .boolean (DX12_isGap_0.at 11 rfl) rfl rfl ⟨_, rfl, hv⟩
set_option maxHeartbeats 4000000 in
theorem vX12_isGap_23 {E : gk_E} {dd : Nat} {o : Nat} {x1 : Int32} {x2 : Int32} {x3 : Int32} {x4 : Int32} {x5 : Int32} {x6 : Int32}  {h : gk_H} {K : Int32 → gk_H → Prop} (hv : LdR h o 11 3 fun v1 => AlI h v1 x1 fun v2 => (v2 ≤ x6 → K (nI 1) h) ∧ (¬ v2 ≤ x6 → (∃ fs, h[o]? = some (.inr (11, fs))) ∧ RnI E mX12_labelOf (dd, 0, 0) [.ref o, .int x1, .int x2, .int x6] h (fun v3 h3 => (¬ v3 = x4 → pX12_isGap_23 E dd o x1 x2 x3 x4 x5 (x6 + nI 1) h3 K) ∧ (v3 = x4 → (∃ fs, h3[o]? = some (.inr (11, fs))) ∧ RnI E mX12_labelOf (dd, 0, 0) [.ref o, .int x1, .int x6, .int x3] h3 (fun v4 h4 => (¬ v4 = x5 → pX12_isGap_23 E dd o x1 x2 x3 x4 x5 (x6 + nI 1) h4 K) ∧ (v4 = x5 → K (nI 0) h4)))))) : pX12_isGap_23 E dd o x1 x2 x3 x4 x5 x6 h K := by
  show gk_G E mX12_isGap (dd + 1, 0, 0) 23 [(0, .ref o), (1, .int x1), (2, .int x2), (3, .int x3), (4, .int x4), (5, .int x5), (6, .int x6)] [] h (fun o h1 => ∃ v, o = some (.int v) ∧ K v h1)
  refine gk_iload (pc := 23) (DX12_isGap_0.at 14 rfl) 6 rfl ?_
  refine gk_aload_n (pc := 25) (DX12_isGap_0.at 15 rfl) 0 rfl rfl ?_
  obtain ⟨fs1, v1, q1, r1, hv⟩ := hv
  refine gk_get (pc := 26) (.ref v1) (DX12_isGap_0.at 16 rfl) fX12_23_11 q1 r1 ?_
  refine gk_iload_n (pc := 29) (DX12_isGap_0.at 17 rfl) 1 rfl rfl ?_
  obtain ⟨n2, f2, q2, r2, hv⟩ := hv
  refine gk_iald (pc := 30) (DX12_isGap_0.at 18 rfl) q2 r2 ?_
  generalize f2 _ = v2 at hv ⊢
  refine gk_icmp_ge (pc := 31) 68 (DX12_isGap_0.at 19 rfl) (by decide) (fun c => ?_) (fun c => ?_)
  · replace hv := hv.1 c
    refine gk_iconst (pc := 68) (nI 1) (DX12_isGap_0.at 38 rfl) ci_1 ?_
    exact gk_ireturn (pc := 69) .boolean (DX12_isGap_0.at 39 rfl) rfl rfl ⟨_, rfl, hv⟩
  · replace hv := hv.2 c
    refine gk_aload_n (pc := 34) (DX12_isGap_0.at 20 rfl) 0 rfl rfl ?_
    refine gk_iload_n (pc := 35) (DX12_isGap_0.at 21 rfl) 1 rfl rfl ?_
    refine gk_iload_n (pc := 36) (DX12_isGap_0.at 22 rfl) 2 rfl rfl ?_
    refine gk_iload (pc := 37) (DX12_isGap_0.at 23 rfl) 6 rfl ?_
    obtain ⟨⟨fs3, q3⟩, hv⟩ := hv
    refine gk_vV (pc := 39) [.int x1, .int x2, .int x6] [] (DX12_isGap_0.at 24 rfl) cvX12_158 q3 rfl rfl (Nat.le_of_ble_eq_true rfl) (Nat.le_of_ble_eq_true rfl) (gk_Run.post (fun o h3 z => ?_) hv)
    obtain ⟨v3, rfl, hv⟩ := z
    refine gk_iload (pc := 42) (DX12_isGap_0.at 25 rfl) 4 rfl ?_
    refine gk_icmp_ne (pc := 44) 62 (DX12_isGap_0.at 26 rfl) (by decide) (fun c => ?_) (fun c => ?_)
    · replace hv := hv.1 c
      refine gk_iinc (pc := 62) (x6 + nI 1) [(6, .int (x6 + nI 1)), (0, .ref o), (1, .int x1), (2, .int x2), (3, .int x3), (4, .int x4), (5, .int x5)] 6 (DX12_isGap_0.at 36 rfl) rfl (by rw [ci_1]) (Nat.le_of_ble_eq_true rfl) rfl ?_
      refine gk_goto (pc := 65) 23 (DX12_isGap_0.at 37 rfl) (by decide) ?_
      exact gk_pick (pc := 23) [(0, .ref o), (1, .int x1), (2, .int x2), (3, .int x3), (4, .int x4), (5, .int x5), (6, .int (x6 + nI 1))] [1, 2, 3, 4, 5, 6, 0] rfl hv
    · replace hv := hv.2 c
      refine gk_aload_n (pc := 47) (DX12_isGap_0.at 27 rfl) 0 rfl rfl ?_
      refine gk_iload_n (pc := 48) (DX12_isGap_0.at 28 rfl) 1 rfl rfl ?_
      refine gk_iload (pc := 49) (DX12_isGap_0.at 29 rfl) 6 rfl ?_
      refine gk_iload_n (pc := 51) (DX12_isGap_0.at 30 rfl) 3 rfl rfl ?_
      obtain ⟨⟨fs4, q4⟩, hv⟩ := hv
      refine gk_vV (pc := 52) [.int x1, .int x6, .int x3] [] (DX12_isGap_0.at 31 rfl) cvX12_158 q4 rfl rfl (Nat.le_of_ble_eq_true rfl) (Nat.le_of_ble_eq_true rfl) (gk_Run.post (fun o h4 z => ?_) hv)
      obtain ⟨v4, rfl, hv⟩ := z
      refine gk_iload (pc := 55) (DX12_isGap_0.at 32 rfl) 5 rfl ?_
      refine gk_icmp_ne (pc := 57) 62 (DX12_isGap_0.at 33 rfl) (by decide) (fun c => ?_) (fun c => ?_)
      · replace hv := hv.1 c
        refine gk_iinc (pc := 62) (x6 + nI 1) [(6, .int (x6 + nI 1)), (0, .ref o), (1, .int x1), (2, .int x2), (3, .int x3), (4, .int x4), (5, .int x5)] 6 (DX12_isGap_0.at 36 rfl) rfl (by rw [ci_1]) (Nat.le_of_ble_eq_true rfl) rfl ?_
        refine gk_goto (pc := 65) 23 (DX12_isGap_0.at 37 rfl) (by decide) ?_
        exact gk_pick (pc := 23) [(0, .ref o), (1, .int x1), (2, .int x2), (3, .int x3), (4, .int x4), (5, .int x5), (6, .int (x6 + nI 1))] [1, 2, 3, 4, 5, 6, 0] rfl hv
      · replace hv := hv.2 c
        refine gk_iconst (pc := 60) (nI 0) (DX12_isGap_0.at 34 rfl) ci_0 ?_
        exact gk_ireturn (pc := 61) .boolean (DX12_isGap_0.at 35 rfl) rfl rfl ⟨_, rfl, hv⟩
set_option maxHeartbeats 4000000 in
theorem vX12_isGapOf_0 {E : gk_E} {dd : Nat} {o : Nat} {x1 : Int32} {x2 : Int32}  {h : gk_H} {K : Int32 → gk_H → Prop} (hv : (x2 < 0 → K (nI 0) h) ∧ (¬ x2 < 0 → (∃ fs, h[o]? = some (.inr (11, fs))) ∧ RnI E mX12_isNode (dd, 0, 0) [.ref o, .int x1, .int (x2 / (nI 1000))] h (fun v1 h1 => (v1 = 0 → K (nI 0) h1) ∧ (¬ v1 = 0 → (∃ fs, h1[o]? = some (.inr (11, fs))) ∧ RnI E mX12_isNode (dd, 0, 0) [.ref o, .int x1, .int ((x2 / (nI 100)) - (x2 / (nI 100)) / (nI 10) * (nI 10))] h1 (fun v2 h2 => (v2 = 0 → K (nI 0) h2) ∧ (¬ v2 = 0 → (((x2 / (nI 100)) - (x2 / (nI 100)) / (nI 10) * (nI 10)) < (x2 / (nI 1000)) → K (nI 0) h2) ∧ (¬ ((x2 / (nI 100)) - (x2 / (nI 100)) / (nI 10) * (nI 10)) < (x2 / (nI 1000)) → (∃ fs, h2[o]? = some (.inr (11, fs))) ∧ RnI E mX12_isOther (dd, 0, 0) [.ref o, .int ((x2 / (nI 10)) - (x2 / (nI 10)) / (nI 10) * (nI 10))] h2 (fun v3 h3 => (v3 = 0 → K (nI 0) h3) ∧ (¬ v3 = 0 → (∃ fs, h3[o]? = some (.inr (11, fs))) ∧ RnI E mX12_isOther (dd, 0, 0) [.ref o, .int (x2 - x2 / (nI 10) * (nI 10))] h3 (fun v4 h4 => (v4 = 0 → K (nI 0) h4) ∧ (¬ v4 = 0 → (∃ fs, h4[o]? = some (.inr (11, fs))) ∧ RnI E mX12_isGap (dd, 0, 0) [.ref o, .int x1, .int (x2 / (nI 1000)), .int ((x2 / (nI 100)) - (x2 / (nI 100)) / (nI 10) * (nI 10)), .int ((x2 / (nI 10)) - (x2 / (nI 10)) / (nI 10) * (nI 10)), .int (x2 - x2 / (nI 10) * (nI 10))] h4 (fun v5 h5 => (v5 = 0 → K (nI 0) h5) ∧ (¬ v5 = 0 → K (nI 1) h5))))))))))))) : RnI E mX12_isGapOf (dd + 1, 0, 0) [.ref o, .int x1, .int x2] h K := by
  show gk_G E mX12_isGapOf (dd + 1, 0, 0) 0 [(0, .ref o), (1, .int x1), (2, .int x2)] [] h (fun o h1 => ∃ v, o = some (.int v) ∧ K v h1)
  refine gk_iload_n (pc := 0) (DX12_isGapOf_0.at 0 rfl) 2 rfl rfl ?_
  refine gk_sipush (pc := 1) (nI 1000) (DX12_isGapOf_0.at 1 rfl) cs_1000 ?_
  refine gk_idiv (pc := 4) (DX12_isGapOf_0.at 2 rfl) (by decide) ?_
  refine gk_istore_n (pc := 5) [(3, .int (x2 / (nI 1000))), (0, .ref o), (1, .int x1), (2, .int x2)] (DX12_isGapOf_0.at 3 rfl) rfl (Nat.le_of_ble_eq_true rfl) rfl ?_
  refine gk_iload_n (pc := 6) (DX12_isGapOf_0.at 4 rfl) 3 rfl rfl ?_
  refine gk_bipush (pc := 7) (nI 100) (DX12_isGapOf_0.at 5 rfl) cb_100 ?_
  refine gk_idiv (pc := 9) (DX12_isGapOf_0.at 6 rfl) (by decide) ?_
  refine gk_bipush (pc := 10) (nI 10) (DX12_isGapOf_0.at 7 rfl) cb_10 ?_
  refine gk_irem (pc := 12) (DX12_isGapOf_0.at 8 rfl) (by decide) ?_
  refine gk_istore (pc := 13) [(4, .int ((x2 / (nI 100)) - (x2 / (nI 100)) / (nI 10) * (nI 10))), (3, .int (x2 / (nI 1000))), (0, .ref o), (1, .int x1), (2, .int x2)] (DX12_isGapOf_0.at 9 rfl) (Nat.le_of_ble_eq_true rfl) rfl ?_
  refine gk_iload_n (pc := 15) (DX12_isGapOf_0.at 10 rfl) 4 rfl rfl ?_
  refine gk_bipush (pc := 16) (nI 10) (DX12_isGapOf_0.at 11 rfl) cb_10 ?_
  refine gk_idiv (pc := 18) (DX12_isGapOf_0.at 12 rfl) (by decide) ?_
  refine gk_bipush (pc := 19) (nI 10) (DX12_isGapOf_0.at 13 rfl) cb_10 ?_
  refine gk_irem (pc := 21) (DX12_isGapOf_0.at 14 rfl) (by decide) ?_
  refine gk_istore (pc := 22) [(5, .int ((x2 / (nI 10)) - (x2 / (nI 10)) / (nI 10) * (nI 10))), (4, .int ((x2 / (nI 100)) - (x2 / (nI 100)) / (nI 10) * (nI 10))), (3, .int (x2 / (nI 1000))), (0, .ref o), (1, .int x1), (2, .int x2)] (DX12_isGapOf_0.at 15 rfl) (Nat.le_of_ble_eq_true rfl) rfl ?_
  refine gk_iload_n (pc := 24) (DX12_isGapOf_0.at 16 rfl) 5 rfl rfl ?_
  refine gk_bipush (pc := 25) (nI 10) (DX12_isGapOf_0.at 17 rfl) cb_10 ?_
  refine gk_irem (pc := 27) (DX12_isGapOf_0.at 18 rfl) (by decide) ?_
  refine gk_istore (pc := 28) [(6, .int (x2 - x2 / (nI 10) * (nI 10))), (5, .int ((x2 / (nI 10)) - (x2 / (nI 10)) / (nI 10) * (nI 10))), (4, .int ((x2 / (nI 100)) - (x2 / (nI 100)) / (nI 10) * (nI 10))), (3, .int (x2 / (nI 1000))), (0, .ref o), (1, .int x1), (2, .int x2)] (DX12_isGapOf_0.at 19 rfl) (Nat.le_of_ble_eq_true rfl) rfl ?_
  refine gk_iload_n (pc := 30) (DX12_isGapOf_0.at 20 rfl) 6 rfl rfl ?_
  refine gk_if_lt (pc := 31) 96 (DX12_isGapOf_0.at 21 rfl) (by decide) (fun c => ?_) (fun c => ?_)
  · replace hv := hv.1 c
    refine gk_iconst (pc := 96) (nI 0) (DX12_isGapOf_0.at 53 rfl) ci_0 ?_
    exact gk_ireturn (pc := 97) .boolean (DX12_isGapOf_0.at 54 rfl) rfl rfl ⟨_, rfl, hv⟩
  · replace hv := hv.2 c
    refine gk_aload_n (pc := 34) (DX12_isGapOf_0.at 22 rfl) 4 rfl rfl ?_
    refine gk_iload_n (pc := 35) (DX12_isGapOf_0.at 23 rfl) 5 rfl rfl ?_
    refine gk_iload_n (pc := 36) (DX12_isGapOf_0.at 24 rfl) 3 rfl rfl ?_
    obtain ⟨⟨fs1, q1⟩, hv⟩ := hv
    refine gk_vV (pc := 37) [.int x1, .int (x2 / (nI 1000))] [] (DX12_isGapOf_0.at 25 rfl) cvX12_155 q1 rfl rfl (Nat.le_of_ble_eq_true rfl) (Nat.le_of_ble_eq_true rfl) (gk_Run.post (fun o h1 z => ?_) hv)
    obtain ⟨v1, rfl, hv⟩ := z
    refine gk_if_eq (pc := 40) 96 (DX12_isGapOf_0.at 26 rfl) (by decide) (fun c => ?_) (fun c => ?_)
    · replace hv := hv.1 c
      refine gk_iconst (pc := 96) (nI 0) (DX12_isGapOf_0.at 53 rfl) ci_0 ?_
      exact gk_ireturn (pc := 97) .boolean (DX12_isGapOf_0.at 54 rfl) rfl rfl ⟨_, rfl, hv⟩
    · replace hv := hv.2 c
      refine gk_aload_n (pc := 43) (DX12_isGapOf_0.at 27 rfl) 4 rfl rfl ?_
      refine gk_iload_n (pc := 44) (DX12_isGapOf_0.at 28 rfl) 5 rfl rfl ?_
      refine gk_iload (pc := 45) (DX12_isGapOf_0.at 29 rfl) 2 rfl ?_
      obtain ⟨⟨fs2, q2⟩, hv⟩ := hv
      refine gk_vV (pc := 47) [.int x1, .int ((x2 / (nI 100)) - (x2 / (nI 100)) / (nI 10) * (nI 10))] [] (DX12_isGapOf_0.at 30 rfl) cvX12_155 q2 rfl rfl (Nat.le_of_ble_eq_true rfl) (Nat.le_of_ble_eq_true rfl) (gk_Run.post (fun o h2 z => ?_) hv)
      obtain ⟨v2, rfl, hv⟩ := z
      refine gk_if_eq (pc := 50) 96 (DX12_isGapOf_0.at 31 rfl) (by decide) (fun c => ?_) (fun c => ?_)
      · replace hv := hv.1 c
        refine gk_iconst (pc := 96) (nI 0) (DX12_isGapOf_0.at 53 rfl) ci_0 ?_
        exact gk_ireturn (pc := 97) .boolean (DX12_isGapOf_0.at 54 rfl) rfl rfl ⟨_, rfl, hv⟩
      · replace hv := hv.2 c
        refine gk_iload_n (pc := 53) (DX12_isGapOf_0.at 32 rfl) 3 rfl rfl ?_
        refine gk_iload (pc := 54) (DX12_isGapOf_0.at 33 rfl) 2 rfl ?_
        refine gk_icmp_gt (pc := 56) 96 (DX12_isGapOf_0.at 34 rfl) (by decide) (fun c => ?_) (fun c => ?_)
        · replace hv := hv.1 c
          refine gk_iconst (pc := 96) (nI 0) (DX12_isGapOf_0.at 53 rfl) ci_0 ?_
          exact gk_ireturn (pc := 97) .boolean (DX12_isGapOf_0.at 54 rfl) rfl rfl ⟨_, rfl, hv⟩
        · replace hv := hv.2 c
          refine gk_aload_n (pc := 59) (DX12_isGapOf_0.at 35 rfl) 4 rfl rfl ?_
          refine gk_iload (pc := 60) (DX12_isGapOf_0.at 36 rfl) 1 rfl ?_
          obtain ⟨⟨fs3, q3⟩, hv⟩ := hv
          refine gk_vV (pc := 62) [.int ((x2 / (nI 10)) - (x2 / (nI 10)) / (nI 10) * (nI 10))] [] (DX12_isGapOf_0.at 37 rfl) cvX12_83 q3 rfl rfl (Nat.le_of_ble_eq_true rfl) (Nat.le_of_ble_eq_true rfl) (gk_Run.post (fun o h3 z => ?_) hv)
          obtain ⟨v3, rfl, hv⟩ := z
          refine gk_if_eq (pc := 65) 96 (DX12_isGapOf_0.at 38 rfl) (by decide) (fun c => ?_) (fun c => ?_)
          · replace hv := hv.1 c
            refine gk_iconst (pc := 96) (nI 0) (DX12_isGapOf_0.at 53 rfl) ci_0 ?_
            exact gk_ireturn (pc := 97) .boolean (DX12_isGapOf_0.at 54 rfl) rfl rfl ⟨_, rfl, hv⟩
          · replace hv := hv.2 c
            refine gk_aload_n (pc := 68) (DX12_isGapOf_0.at 39 rfl) 4 rfl rfl ?_
            refine gk_iload (pc := 69) (DX12_isGapOf_0.at 40 rfl) 0 rfl ?_
            obtain ⟨⟨fs4, q4⟩, hv⟩ := hv
            refine gk_vV (pc := 71) [.int (x2 - x2 / (nI 10) * (nI 10))] [] (DX12_isGapOf_0.at 41 rfl) cvX12_83 q4 rfl rfl (Nat.le_of_ble_eq_true rfl) (Nat.le_of_ble_eq_true rfl) (gk_Run.post (fun o h4 z => ?_) hv)
            obtain ⟨v4, rfl, hv⟩ := z
            refine gk_if_eq (pc := 74) 96 (DX12_isGapOf_0.at 42 rfl) (by decide) (fun c => ?_) (fun c => ?_)
            · replace hv := hv.1 c
              refine gk_iconst (pc := 96) (nI 0) (DX12_isGapOf_0.at 53 rfl) ci_0 ?_
              exact gk_ireturn (pc := 97) .boolean (DX12_isGapOf_0.at 54 rfl) rfl rfl ⟨_, rfl, hv⟩
            · replace hv := hv.2 c
              refine gk_aload_n (pc := 77) (DX12_isGapOf_0.at 43 rfl) 4 rfl rfl ?_
              refine gk_iload_n (pc := 78) (DX12_isGapOf_0.at 44 rfl) 5 rfl rfl ?_
              refine gk_iload_n (pc := 79) (DX12_isGapOf_0.at 45 rfl) 3 rfl rfl ?_
              refine gk_iload (pc := 80) (DX12_isGapOf_0.at 46 rfl) 2 rfl ?_
              refine gk_iload (pc := 82) (DX12_isGapOf_0.at 47 rfl) 1 rfl ?_
              refine gk_iload (pc := 84) (DX12_isGapOf_0.at 48 rfl) 0 rfl ?_
              obtain ⟨⟨fs5, q5⟩, hv⟩ := hv
              refine gk_vV (pc := 86) [.int x1, .int (x2 / (nI 1000)), .int ((x2 / (nI 100)) - (x2 / (nI 100)) / (nI 10) * (nI 10)), .int ((x2 / (nI 10)) - (x2 / (nI 10)) / (nI 10) * (nI 10)), .int (x2 - x2 / (nI 10) * (nI 10))] [] (DX12_isGapOf_0.at 49 rfl) cvX12_167 q5 rfl rfl (Nat.le_of_ble_eq_true rfl) (Nat.le_of_ble_eq_true rfl) (gk_Run.post (fun o h5 z => ?_) hv)
              obtain ⟨v5, rfl, hv⟩ := z
              refine gk_if_eq (pc := 89) 96 (DX12_isGapOf_0.at 50 rfl) (by decide) (fun c => ?_) (fun c => ?_)
              · replace hv := hv.1 c
                refine gk_iconst (pc := 96) (nI 0) (DX12_isGapOf_0.at 53 rfl) ci_0 ?_
                exact gk_ireturn (pc := 97) .boolean (DX12_isGapOf_0.at 54 rfl) rfl rfl ⟨_, rfl, hv⟩
              · replace hv := hv.2 c
                refine gk_iconst (pc := 92) (nI 1) (DX12_isGapOf_0.at 51 rfl) ci_1 ?_
                refine gk_goto (pc := 93) 97 (DX12_isGapOf_0.at 52 rfl) (by decide) ?_
                exact gk_ireturn (pc := 97) .boolean (DX12_isGapOf_0.at 54 rfl) rfl rfl ⟨_, rfl, hv⟩
set_option maxHeartbeats 4000000 in
theorem vX12_isIn_0 {E : gk_E} {dd : Nat} {o : Nat} {x1 : Int32} {x2 : Int32} {x3 : Int32}  {h : gk_H} {K : Int32 → gk_H → Prop} (hv : (∃ fs, h[o]? = some (.inr (11, fs))) ∧ RnI E mX12_isAtom (dd, 0, 0) [.ref o, .int x1] h (fun v1 h1 => (v1 = 0 → K ((-1)) h1) ∧ (¬ v1 = 0 → (∃ fs, h1[o]? = some (.inr (11, fs))) ∧ RnI E mX12_isAtom (dd, 0, 0) [.ref o, .int x2] h1 (fun v2 h2 => (v2 = 0 → K ((-1)) h2) ∧ (¬ v2 = 0 → (∃ fs, h2[o]? = some (.inr (11, fs))) ∧ RnI E mX12_isAtom (dd, 0, 0) [.ref o, .int x3] h2 (fun v3 h3 => (¬ v3 = 0 → (∃ fs, h3[o]? = some (.inr (11, fs))) ∧ RnI E mX12_is (dd, 0, 0) [.ref o, .int x1, .int x2, .int x3] h3 (fun v4 h4 => (v4 = 0 → K (nI 0) h4) ∧ (¬ v4 = 0 → K (nI 1) h4))) ∧ (v3 = 0 → K ((-1)) h3))))))) : RnI E mX12_isIn (dd + 1, 0, 0) [.ref o, .int x1, .int x2, .int x3] h K := by
  show gk_G E mX12_isIn (dd + 1, 0, 0) 0 [(0, .ref o), (1, .int x1), (2, .int x2), (3, .int x3)] [] h (fun o h1 => ∃ v, o = some (.int v) ∧ K v h1)
  refine gk_aload_n (pc := 0) (DX12_isIn_0.at 0 rfl) 0 rfl rfl ?_
  refine gk_iload_n (pc := 1) (DX12_isIn_0.at 1 rfl) 1 rfl rfl ?_
  obtain ⟨⟨fs1, q1⟩, hv⟩ := hv
  refine gk_vV (pc := 2) [.int x1] [] (DX12_isIn_0.at 2 rfl) cvX12_98 q1 rfl rfl (Nat.le_of_ble_eq_true rfl) (Nat.le_of_ble_eq_true rfl) (gk_Run.post (fun o h1 z => ?_) hv)
  obtain ⟨v1, rfl, hv⟩ := z
  refine gk_if_eq (pc := 5) 24 (DX12_isIn_0.at 3 rfl) (by decide) (fun c => ?_) (fun c => ?_)
  · replace hv := hv.1 c
    refine gk_iconst (pc := 24) ((-1)) (DX12_isIn_0.at 12 rfl) ci_m1 ?_
    exact gk_ireturn (pc := 25) .int (DX12_isIn_0.at 13 rfl) rfl rfl ⟨_, rfl, hv⟩
  · replace hv := hv.2 c
    refine gk_aload_n (pc := 8) (DX12_isIn_0.at 4 rfl) 0 rfl rfl ?_
    refine gk_iload_n (pc := 9) (DX12_isIn_0.at 5 rfl) 2 rfl rfl ?_
    obtain ⟨⟨fs2, q2⟩, hv⟩ := hv
    refine gk_vV (pc := 10) [.int x2] [] (DX12_isIn_0.at 6 rfl) cvX12_98 q2 rfl rfl (Nat.le_of_ble_eq_true rfl) (Nat.le_of_ble_eq_true rfl) (gk_Run.post (fun o h2 z => ?_) hv)
    obtain ⟨v2, rfl, hv⟩ := z
    refine gk_if_eq (pc := 13) 24 (DX12_isIn_0.at 7 rfl) (by decide) (fun c => ?_) (fun c => ?_)
    · replace hv := hv.1 c
      refine gk_iconst (pc := 24) ((-1)) (DX12_isIn_0.at 12 rfl) ci_m1 ?_
      exact gk_ireturn (pc := 25) .int (DX12_isIn_0.at 13 rfl) rfl rfl ⟨_, rfl, hv⟩
    · replace hv := hv.2 c
      refine gk_aload_n (pc := 16) (DX12_isIn_0.at 8 rfl) 0 rfl rfl ?_
      refine gk_iload_n (pc := 17) (DX12_isIn_0.at 9 rfl) 3 rfl rfl ?_
      obtain ⟨⟨fs3, q3⟩, hv⟩ := hv
      refine gk_vV (pc := 18) [.int x3] [] (DX12_isIn_0.at 10 rfl) cvX12_98 q3 rfl rfl (Nat.le_of_ble_eq_true rfl) (Nat.le_of_ble_eq_true rfl) (gk_Run.post (fun o h3 z => ?_) hv)
      obtain ⟨v3, rfl, hv⟩ := z
      refine gk_if_ne (pc := 21) 26 (DX12_isIn_0.at 11 rfl) (by decide) (fun c => ?_) (fun c => ?_)
      · replace hv := hv.1 c
        refine gk_aload_n (pc := 26) (DX12_isIn_0.at 14 rfl) 0 rfl rfl ?_
        refine gk_iload_n (pc := 27) (DX12_isIn_0.at 15 rfl) 1 rfl rfl ?_
        refine gk_iload_n (pc := 28) (DX12_isIn_0.at 16 rfl) 2 rfl rfl ?_
        refine gk_iload_n (pc := 29) (DX12_isIn_0.at 17 rfl) 3 rfl rfl ?_
        obtain ⟨⟨fs4, q4⟩, hv⟩ := hv
        refine gk_vV (pc := 30) [.int x1, .int x2, .int x3] [] (DX12_isIn_0.at 18 rfl) cvX12_105 q4 rfl rfl (Nat.le_of_ble_eq_true rfl) (Nat.le_of_ble_eq_true rfl) (gk_Run.post (fun o h4 z => ?_) hv)
        obtain ⟨v4, rfl, hv⟩ := z
        refine gk_if_eq (pc := 33) 40 (DX12_isIn_0.at 19 rfl) (by decide) (fun c => ?_) (fun c => ?_)
        · replace hv := hv.1 c
          refine gk_iconst (pc := 40) (nI 0) (DX12_isIn_0.at 22 rfl) ci_0 ?_
          exact gk_ireturn (pc := 41) .int (DX12_isIn_0.at 23 rfl) rfl rfl ⟨_, rfl, hv⟩
        · replace hv := hv.2 c
          refine gk_iconst (pc := 36) (nI 1) (DX12_isIn_0.at 20 rfl) ci_1 ?_
          refine gk_goto (pc := 37) 41 (DX12_isIn_0.at 21 rfl) (by decide) ?_
          exact gk_ireturn (pc := 41) .int (DX12_isIn_0.at 23 rfl) rfl rfl ⟨_, rfl, hv⟩
      · replace hv := hv.2 c
        refine gk_iconst (pc := 24) ((-1)) (DX12_isIn_0.at 12 rfl) ci_m1 ?_
        exact gk_ireturn (pc := 25) .int (DX12_isIn_0.at 13 rfl) rfl rfl ⟨_, rfl, hv⟩
abbrev pX12_isLeast_6 (E : gk_E) (dd : Nat) (o : Nat) (x1 : Int32) (x2 : Int32) (x3 : Int32) (x4 : Int32) (x5 : Int32) (h : gk_H) (K : Int32 → gk_H → Prop) : Prop := gk_G E mX12_isLeast (dd + 1, 0, 0) 6 [(0, .ref o), (1, .int x1), (2, .int x2), (3, .int x3), (4, .int x4), (5, .int x5)] [] h (fun o h1 => ∃ v, o = some (.int v) ∧ K v h1)
set_option maxHeartbeats 4000000 in
theorem vX12_isLeast_0 {E : gk_E} {dd : Nat} {o : Nat} {x1 : Int32} {x2 : Int32} {x3 : Int32}  {h : gk_H} {K : Int32 → gk_H → Prop} (hv : pX12_isLeast_6 E dd o x1 x2 x3 (nI 1) (nI 1) h K) : RnI E mX12_isLeast (dd + 1, 0, 0) [.ref o, .int x1, .int x2, .int x3] h K := by
  show gk_G E mX12_isLeast (dd + 1, 0, 0) 0 [(0, .ref o), (1, .int x1), (2, .int x2), (3, .int x3)] [] h (fun o h1 => ∃ v, o = some (.int v) ∧ K v h1)
  refine gk_iconst (pc := 0) (nI 1) (DX12_isLeast_0.at 0 rfl) ci_1 ?_
  refine gk_istore (pc := 1) [(4, .int (nI 1)), (0, .ref o), (1, .int x1), (2, .int x2), (3, .int x3)] (DX12_isLeast_0.at 1 rfl) (Nat.le_of_ble_eq_true rfl) rfl ?_
  refine gk_iconst (pc := 3) (nI 1) (DX12_isLeast_0.at 2 rfl) ci_1 ?_
  refine gk_istore (pc := 4) [(5, .int (nI 1)), (4, .int (nI 1)), (0, .ref o), (1, .int x1), (2, .int x2), (3, .int x3)] (DX12_isLeast_0.at 3 rfl) (Nat.le_of_ble_eq_true rfl) rfl ?_
  exact gk_pick (pc := 6) [(0, .ref o), (1, .int x1), (2, .int x2), (3, .int x3), (4, .int (nI 1)), (5, .int (nI 1))] [2, 3, 4, 5, 1, 0] rfl hv
set_option maxHeartbeats 4000000 in
theorem vX12_isLeast_6 {E : gk_E} {dd : Nat} {o : Nat} {x1 : Int32} {x2 : Int32} {x3 : Int32} {x4 : Int32} {x5 : Int32}  {h : gk_H} {K : Int32 → gk_H → Prop} (hv : ((nI 6) ≤ x5 → (bz x4 ∧ K x4 h)) ∧ (¬ (nI 6) ≤ x5 → (x4 = 0 → pX12_isLeast_6 E dd o x1 x2 x3 (nI 0) (x5 + nI 1) h K) ∧ (¬ x4 = 0 → (∃ fs, h[o]? = some (.inr (11, fs))) ∧ RnI E mX12_turn (dd, 0, 0) [.ref o, .int x1, .int x2, .int x3, .int x5] h (fun v1 h1 => (∃ fs, h1[o]? = some (.inr (11, fs))) ∧ RnI E mX12_turn (dd, 0, 0) [.ref o, .int x1, .int x2, .int x3, .int (nI 0)] h1 (fun v2 h2 => (v1 < v2 → pX12_isLeast_6 E dd o x1 x2 x3 (nI 0) (x5 + nI 1) h2 K) ∧ (¬ v1 < v2 → pX12_isLeast_6 E dd o x1 x2 x3 (nI 1) (x5 + nI 1) h2 K)))))) : pX12_isLeast_6 E dd o x1 x2 x3 x4 x5 h K := by
  show gk_G E mX12_isLeast (dd + 1, 0, 0) 6 [(0, .ref o), (1, .int x1), (2, .int x2), (3, .int x3), (4, .int x4), (5, .int x5)] [] h (fun o h1 => ∃ v, o = some (.int v) ∧ K v h1)
  refine gk_iload (pc := 6) (DX12_isLeast_0.at 4 rfl) 5 rfl ?_
  refine gk_bipush (pc := 8) (nI 6) (DX12_isLeast_0.at 5 rfl) cb_6 ?_
  refine gk_icmp_ge (pc := 10) 51 (DX12_isLeast_0.at 6 rfl) (by decide) (fun c => ?_) (fun c => ?_)
  · replace hv := hv.1 c
    refine gk_iload (pc := 51) (DX12_isLeast_0.at 28 rfl) 4 rfl ?_
    exact gk_ireturn (pc := 53) .boolean (DX12_isLeast_0.at 29 rfl) rfl (bz_n hv.1) ⟨_, rfl, hv.2⟩
  · replace hv := hv.2 c
    refine gk_iload (pc := 13) (DX12_isLeast_0.at 7 rfl) 4 rfl ?_
    refine gk_if_eq (pc := 15) 42 (DX12_isLeast_0.at 8 rfl) (by decide) (fun c => ?_) (fun c => ?_)
    · replace hv := hv.1 c
      refine gk_iconst (pc := 42) (nI 0) (DX12_isLeast_0.at 24 rfl) ci_0 ?_
      refine gk_istore (pc := 43) [(4, .int (nI 0)), (0, .ref o), (1, .int x1), (2, .int x2), (3, .int x3), (5, .int x5)] (DX12_isLeast_0.at 25 rfl) (Nat.le_of_ble_eq_true rfl) rfl ?_
      refine gk_iinc (pc := 45) (x5 + nI 1) [(5, .int (x5 + nI 1)), (4, .int (nI 0)), (0, .ref o), (1, .int x1), (2, .int x2), (3, .int x3)] 5 (DX12_isLeast_0.at 26 rfl) rfl (by rw [ci_1]) (Nat.le_of_ble_eq_true rfl) rfl ?_
      refine gk_goto (pc := 48) 6 (DX12_isLeast_0.at 27 rfl) (by decide) ?_
      exact gk_pick (pc := 6) [(0, .ref o), (1, .int x1), (2, .int x2), (3, .int x3), (4, .int (nI 0)), (5, .int (x5 + nI 1))] [2, 3, 4, 5, 1, 0] rfl hv
    · replace hv := hv.2 c
      refine gk_aload_n (pc := 18) (DX12_isLeast_0.at 9 rfl) 0 rfl rfl ?_
      refine gk_iload_n (pc := 19) (DX12_isLeast_0.at 10 rfl) 1 rfl rfl ?_
      refine gk_iload_n (pc := 20) (DX12_isLeast_0.at 11 rfl) 2 rfl rfl ?_
      refine gk_iload_n (pc := 21) (DX12_isLeast_0.at 12 rfl) 3 rfl rfl ?_
      refine gk_iload (pc := 22) (DX12_isLeast_0.at 13 rfl) 5 rfl ?_
      obtain ⟨⟨fs1, q1⟩, hv⟩ := hv
      refine gk_vV (pc := 24) [.int x1, .int x2, .int x3, .int x5] [] (DX12_isLeast_0.at 14 rfl) cvX12_101 q1 rfl rfl (Nat.le_of_ble_eq_true rfl) (Nat.le_of_ble_eq_true rfl) (gk_Run.post (fun o h1 z => ?_) hv)
      obtain ⟨v1, rfl, hv⟩ := z
      refine gk_aload_n (pc := 27) (DX12_isLeast_0.at 15 rfl) 0 rfl rfl ?_
      refine gk_iload_n (pc := 28) (DX12_isLeast_0.at 16 rfl) 1 rfl rfl ?_
      refine gk_iload_n (pc := 29) (DX12_isLeast_0.at 17 rfl) 2 rfl rfl ?_
      refine gk_iload_n (pc := 30) (DX12_isLeast_0.at 18 rfl) 3 rfl rfl ?_
      refine gk_iconst (pc := 31) (nI 0) (DX12_isLeast_0.at 19 rfl) ci_0 ?_
      obtain ⟨⟨fs2, q2⟩, hv⟩ := hv
      refine gk_vV (pc := 32) [.int x1, .int x2, .int x3, .int (nI 0)] [.int v1] (DX12_isLeast_0.at 20 rfl) cvX12_101 q2 rfl rfl (Nat.le_of_ble_eq_true rfl) (Nat.le_of_ble_eq_true rfl) (gk_Run.post (fun o h2 z => ?_) hv)
      obtain ⟨v2, rfl, hv⟩ := z
      refine gk_icmp_lt (pc := 35) 42 (DX12_isLeast_0.at 21 rfl) (by decide) (fun c => ?_) (fun c => ?_)
      · replace hv := hv.1 c
        refine gk_iconst (pc := 42) (nI 0) (DX12_isLeast_0.at 24 rfl) ci_0 ?_
        refine gk_istore (pc := 43) [(4, .int (nI 0)), (0, .ref o), (1, .int x1), (2, .int x2), (3, .int x3), (5, .int x5)] (DX12_isLeast_0.at 25 rfl) (Nat.le_of_ble_eq_true rfl) rfl ?_
        refine gk_iinc (pc := 45) (x5 + nI 1) [(5, .int (x5 + nI 1)), (4, .int (nI 0)), (0, .ref o), (1, .int x1), (2, .int x2), (3, .int x3)] 5 (DX12_isLeast_0.at 26 rfl) rfl (by rw [ci_1]) (Nat.le_of_ble_eq_true rfl) rfl ?_
        refine gk_goto (pc := 48) 6 (DX12_isLeast_0.at 27 rfl) (by decide) ?_
        exact gk_pick (pc := 6) [(0, .ref o), (1, .int x1), (2, .int x2), (3, .int x3), (4, .int (nI 0)), (5, .int (x5 + nI 1))] [2, 3, 4, 5, 1, 0] rfl hv
      · replace hv := hv.2 c
        refine gk_iconst (pc := 38) (nI 1) (DX12_isLeast_0.at 22 rfl) ci_1 ?_
        refine gk_goto (pc := 39) 43 (DX12_isLeast_0.at 23 rfl) (by decide) ?_
        refine gk_istore (pc := 43) [(4, .int (nI 1)), (0, .ref o), (1, .int x1), (2, .int x2), (3, .int x3), (5, .int x5)] (DX12_isLeast_0.at 25 rfl) (Nat.le_of_ble_eq_true rfl) rfl ?_
        refine gk_iinc (pc := 45) (x5 + nI 1) [(5, .int (x5 + nI 1)), (4, .int (nI 1)), (0, .ref o), (1, .int x1), (2, .int x2), (3, .int x3)] 5 (DX12_isLeast_0.at 26 rfl) rfl (by rw [ci_1]) (Nat.le_of_ble_eq_true rfl) rfl ?_
        refine gk_goto (pc := 48) 6 (DX12_isLeast_0.at 27 rfl) (by decide) ?_
        exact gk_pick (pc := 6) [(0, .ref o), (1, .int x1), (2, .int x2), (3, .int x3), (4, .int (nI 1)), (5, .int (x5 + nI 1))] [2, 3, 4, 5, 1, 0] rfl hv
abbrev pX12_isLike_14 (E : gk_E) (dd : Nat) (o : Nat) (x1 : Int32) (x2 : Int32) (x3 : Int32) (x4 : Int32) (x5 : Int32) (x6 : Int32) (x7 : Int32) (h : gk_H) (K : Int32 → gk_H → Prop) : Prop := gk_G E mX12_isLike (dd + 1, 0, 0) 14 [(0, .ref o), (1, .int x1), (2, .int x2), (3, .int x3), (4, .int x4), (5, .int x5), (6, .int x6), (7, .int x7)] [] h (fun o h1 => ∃ v, o = some (.int v) ∧ K v h1)
set_option maxHeartbeats 4000000 in
theorem vX12_isLike_0 {E : gk_E} {dd : Nat} {o : Nat} {x1 : Int32} {x2 : Int32} {x3 : Int32} {x4 : Int32} {x5 : Int32}  {h : gk_H} {K : Int32 → gk_H → Prop} (hv : LdR h o 11 3 fun v1 => AlI h v1 x1 fun v2 => pX12_isLike_14 E dd o x1 x2 x3 x4 x5 x5 (v2 - (nI 1)) h K) : RnI E mX12_isLike (dd + 1, 0, 0) [.ref o, .int x1, .int x2, .int x3, .int x4, .int x5] h K := by
  show gk_G E mX12_isLike (dd + 1, 0, 0) 0 [(0, .ref o), (1, .int x1), (2, .int x2), (3, .int x3), (4, .int x4), (5, .int x5)] [] h (fun o h1 => ∃ v, o = some (.int v) ∧ K v h1)
  refine gk_iload (pc := 0) (DX12_isLike_0.at 0 rfl) 5 rfl ?_
  refine gk_istore (pc := 2) [(6, .int x5), (0, .ref o), (1, .int x1), (2, .int x2), (3, .int x3), (4, .int x4), (5, .int x5)] (DX12_isLike_0.at 1 rfl) (Nat.le_of_ble_eq_true rfl) rfl ?_
  refine gk_aload_n (pc := 4) (DX12_isLike_0.at 2 rfl) 1 rfl rfl ?_
  obtain ⟨fs1, v1, q1, r1, hv⟩ := hv
  refine gk_get (pc := 5) (.ref v1) (DX12_isLike_0.at 3 rfl) fX12_23_11 q1 r1 ?_
  refine gk_iload_n (pc := 8) (DX12_isLike_0.at 4 rfl) 2 rfl rfl ?_
  obtain ⟨n2, f2, q2, r2, hv⟩ := hv
  refine gk_iald (pc := 9) (DX12_isLike_0.at 5 rfl) q2 r2 ?_
  generalize f2 _ = v2 at hv ⊢
  refine gk_iconst (pc := 10) (nI 1) (DX12_isLike_0.at 6 rfl) ci_1 ?_
  refine gk_isub (pc := 11) (DX12_isLike_0.at 7 rfl) ?_
  refine gk_istore (pc := 12) [(7, .int (v2 - (nI 1))), (6, .int x5), (0, .ref o), (1, .int x1), (2, .int x2), (3, .int x3), (4, .int x4), (5, .int x5)] (DX12_isLike_0.at 8 rfl) (Nat.le_of_ble_eq_true rfl) rfl ?_
  exact gk_pick (pc := 14) [(0, .ref o), (1, .int x1), (2, .int x2), (3, .int x3), (4, .int x4), (5, .int x5), (6, .int x5), (7, .int (v2 - (nI 1)))] [2, 3, 4, 5, 6, 7, 1, 0] rfl hv
set_option maxHeartbeats 4000000 in
theorem vX12_isLike_14 {E : gk_E} {dd : Nat} {o : Nat} {x1 : Int32} {x2 : Int32} {x3 : Int32} {x4 : Int32} {x5 : Int32} {x6 : Int32} {x7 : Int32}  {h : gk_H} {K : Int32 → gk_H → Prop} (hv : (x7 ≤ x3 → K (nI 1) h) ∧ (¬ x7 ≤ x3 → RnI E mX12_digit (dd, 0, 0) [.int x6, .int x7] h (fun v1 h1 => ((v1 - (nI 1)) = x4 → K (nI 0) h1) ∧ (¬ (v1 - (nI 1)) = x4 → (∃ fs, h1[o]? = some (.inr (11, fs))) ∧ RnI E mX12_labelOf (dd, 0, 0) [.ref o, .int x1, .int x3, .int x7] h1 (fun v2 h2 => (∃ fs, h2[o]? = some (.inr (11, fs))) ∧ RnI E mX12_labelOf (dd, 0, 0) [.ref o, .int x2, .int x4, .int (v1 - (nI 1))] h2 (fun v3 h3 => (v2 = v3 → pX12_isLike_14 E dd o x1 x2 x3 x4 x5 x6 (x7 + (-1)) h3 K) ∧ (¬ v2 = v3 → K (nI 0) h3))))))) : pX12_isLike_14 E dd o x1 x2 x3 x4 x5 x6 x7 h K := by
  show gk_G E mX12_isLike (dd + 1, 0, 0) 14 [(0, .ref o), (1, .int x1), (2, .int x2), (3, .int x3), (4, .int x4), (5, .int x5), (6, .int x6), (7, .int x7)] [] h (fun o h1 => ∃ v, o = some (.int v) ∧ K v h1)
  refine gk_iload (pc := 14) (DX12_isLike_0.at 9 rfl) 7 rfl ?_
  refine gk_iload_n (pc := 16) (DX12_isLike_0.at 10 rfl) 3 rfl rfl ?_
  refine gk_icmp_le (pc := 17) 66 (DX12_isLike_0.at 11 rfl) (by decide) (fun c => ?_) (fun c => ?_)
  · replace hv := hv.1 c
    refine gk_iconst (pc := 66) (nI 1) (DX12_isLike_0.at 36 rfl) ci_1 ?_
    exact gk_ireturn (pc := 67) .boolean (DX12_isLike_0.at 37 rfl) rfl rfl ⟨_, rfl, hv⟩
  · replace hv := hv.2 c
    refine gk_iload (pc := 20) (DX12_isLike_0.at 12 rfl) 6 rfl ?_
    refine gk_iload (pc := 22) (DX12_isLike_0.at 13 rfl) 7 rfl ?_
    refine gk_vS (pc := 24) [.int x6, .int x7] [] (DX12_isLike_0.at 14 rfl) csX12_138 rfl rfl (Nat.le_of_ble_eq_true rfl) (Nat.le_of_ble_eq_true rfl) (gk_Run.post (fun o h1 z => ?_) hv)
    obtain ⟨v1, rfl, hv⟩ := z
    refine gk_iconst (pc := 27) (nI 1) (DX12_isLike_0.at 15 rfl) ci_1 ?_
    refine gk_isub (pc := 28) (DX12_isLike_0.at 16 rfl) ?_
    refine gk_istore (pc := 29) [(8, .int (v1 - (nI 1))), (0, .ref o), (1, .int x1), (2, .int x2), (3, .int x3), (4, .int x4), (5, .int x5), (6, .int x6), (7, .int x7)] (DX12_isLike_0.at 17 rfl) (Nat.le_of_ble_eq_true rfl) rfl ?_
    refine gk_iload (pc := 31) (DX12_isLike_0.at 18 rfl) 0 rfl ?_
    refine gk_iload (pc := 33) (DX12_isLike_0.at 19 rfl) 5 rfl ?_
    refine gk_icmp_eq (pc := 35) 58 (DX12_isLike_0.at 20 rfl) (by decide) (fun c => ?_) (fun c => ?_)
    · replace hv := hv.1 c
      refine gk_iconst (pc := 58) (nI 0) (DX12_isLike_0.at 32 rfl) ci_0 ?_
      exact gk_ireturn (pc := 59) .boolean (DX12_isLike_0.at 33 rfl) rfl rfl ⟨_, rfl, hv⟩
    · replace hv := hv.2 c
      refine gk_aload_n (pc := 38) (DX12_isLike_0.at 21 rfl) 1 rfl rfl ?_
      refine gk_iload_n (pc := 39) (DX12_isLike_0.at 22 rfl) 2 rfl rfl ?_
      refine gk_iload_n (pc := 40) (DX12_isLike_0.at 23 rfl) 4 rfl rfl ?_
      refine gk_iload (pc := 41) (DX12_isLike_0.at 24 rfl) 8 rfl ?_
      obtain ⟨⟨fs2, q2⟩, hv⟩ := hv
      refine gk_vV (pc := 43) [.int x1, .int x3, .int x7] [] (DX12_isLike_0.at 25 rfl) cvX12_158 q2 rfl rfl (Nat.le_of_ble_eq_true rfl) (Nat.le_of_ble_eq_true rfl) (gk_Run.post (fun o h2 z => ?_) hv)
      obtain ⟨v2, rfl, hv⟩ := z
      refine gk_aload_n (pc := 46) (DX12_isLike_0.at 26 rfl) 1 rfl rfl ?_
      refine gk_iload_n (pc := 47) (DX12_isLike_0.at 27 rfl) 3 rfl rfl ?_
      refine gk_iload (pc := 48) (DX12_isLike_0.at 28 rfl) 5 rfl ?_
      refine gk_iload (pc := 50) (DX12_isLike_0.at 29 rfl) 0 rfl ?_
      obtain ⟨⟨fs3, q3⟩, hv⟩ := hv
      refine gk_vV (pc := 52) [.int x2, .int x4, .int (v1 - (nI 1))] [.int v2] (DX12_isLike_0.at 30 rfl) cvX12_158 q3 rfl rfl (Nat.le_of_ble_eq_true rfl) (Nat.le_of_ble_eq_true rfl) (gk_Run.post (fun o h3 z => ?_) hv)
      obtain ⟨v3, rfl, hv⟩ := z
      refine gk_icmp_eq (pc := 55) 60 (DX12_isLike_0.at 31 rfl) (by decide) (fun c => ?_) (fun c => ?_)
      · replace hv := hv.1 c
        refine gk_iinc (pc := 60) (x7 + (-1)) [(7, .int (x7 + (-1))), (8, .int (v1 - (nI 1))), (0, .ref o), (1, .int x1), (2, .int x2), (3, .int x3), (4, .int x4), (5, .int x5), (6, .int x6)] 8 (DX12_isLike_0.at 34 rfl) rfl (by rw [ci_m1]) (Nat.le_of_ble_eq_true rfl) rfl ?_
        refine gk_goto (pc := 63) 14 (DX12_isLike_0.at 35 rfl) (by decide) ?_
        exact gk_pick (pc := 14) [(0, .ref o), (1, .int x1), (2, .int x2), (3, .int x3), (4, .int x4), (5, .int x5), (6, .int x6), (7, .int (x7 + (-1)))] [2, 3, 4, 5, 6, 7, 8, 0] rfl hv
      · replace hv := hv.2 c
        refine gk_iconst (pc := 58) (nI 0) (DX12_isLike_0.at 32 rfl) ci_0 ?_
        exact gk_ireturn (pc := 59) .boolean (DX12_isLike_0.at 33 rfl) rfl rfl ⟨_, rfl, hv⟩
set_option maxHeartbeats 4000000 in
theorem vX12_isList_0 {E : gk_E} {dd : Nat} {x0 : Int32}  {h : gk_H} {K : Int32 → gk_H → Prop} (hv : RnI E mX12_isFrom (dd, 0, 0) [.long x0.toInt64, .long (lN 0), .long (lN 2)] h (fun v1 h1 => (bz v1 ∧ K v1 h1))) : RnI E mX12_isList (dd + 1, 0, 0) [.int x0] h K := by
  show gk_G E mX12_isList (dd + 1, 0, 0) 0 [(0, .int x0)] [] h (fun o h1 => ∃ v, o = some (.int v) ∧ K v h1)
  refine gk_iload_n (pc := 0) (DX12_isList_0.at 0 rfl) 0 rfl rfl ?_
  refine gk_i2l (pc := 1) (DX12_isList_0.at 1 rfl) ?_
  refine gk_lconst (pc := 2) (lN 0) (DX12_isList_0.at 2 rfl) rfl ?_
  refine gk_ldc2 (pc := 3) (lN 2) (DX12_isList_0.at 3 rfl) klX12_123 ?_
  refine gk_vS (pc := 6) [.long x0.toInt64, .long (lN 0), .long (lN 2)] [] (DX12_isList_0.at 4 rfl) csX12_70 rfl rfl (Nat.le_of_ble_eq_true rfl) (Nat.le_of_ble_eq_true rfl) (gk_Run.post (fun o h1 z => ?_) hv)
  obtain ⟨v1, rfl, hv⟩ := z
  exact gk_ireturn (pc := 9) .boolean (DX12_isList_0.at 5 rfl) rfl (bz_n hv.1) ⟨_, rfl, hv.2⟩
