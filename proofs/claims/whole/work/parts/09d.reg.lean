set_option maxHeartbeats 4000000 in
theorem vX1_isAllowed_0 {E : gk_E} {dd : Nat} {o : Nat} {x1 : Nat}  {h : gk_H} {K : Int32 → gk_H → Prop} (hv : LdR h o 1 2 fun v1 => LdR h o 1 0 fun v2 => LdR h v2 7 0 fun v3 => (∃ fs, h[v1]? = some (.inr (3, fs))) ∧ RnV E mX3_grow (dd, 0, 0) [.ref v1, .ref x1, .ref v3] h (fun h4 => LdR h4 o 1 1 fun v5 => LdR h4 o 1 2 fun v6 => (∃ fs, h4[v5]? = some (.inr (4, fs))) ∧ RnI E mX4_isBarred (dd, 0, 0) [.ref v5, .ref v6] h4 (fun v7 h7 => (¬ v7 = 0 → LdR h7 o 1 2 fun v8 => LdI h7 v8 3 0 fun v9 => StI h7 v8 3 0 (v9 - (nI 1)) fun h10 => K (nI 0) h10) ∧ (v7 = 0 → LdR h7 o 1 2 fun v11 => LdI h7 v11 3 0 fun v12 => StI h7 v11 3 0 (v12 - (nI 1)) fun h13 => K (nI 1) h13)))) : RnI E mX1_isAllowed (dd + 1, 0, 0) [.ref o, .ref x1] h K := by
  show gk_G E mX1_isAllowed (dd + 1, 0, 0) 0 [(0, .ref o), (1, .ref x1)] [] h (fun o h1 => ∃ v, o = some (.int v) ∧ K v h1)
  refine gk_aload_n (pc := 0) (DX1_isAllowed_0.at 0 rfl) 0 rfl rfl ?_
  obtain ⟨fs1, v1, q1, r1, hv⟩ := hv
  refine gk_get (pc := 1) (.ref v1) (DX1_isAllowed_0.at 1 rfl) fX1_12_1 q1 r1 ?_
  refine gk_aload_n (pc := 4) (DX1_isAllowed_0.at 2 rfl) 1 rfl rfl ?_
  refine gk_aload_n (pc := 5) (DX1_isAllowed_0.at 3 rfl) 0 rfl rfl ?_
  obtain ⟨fs2, v2, q2, r2, hv⟩ := hv
  refine gk_get (pc := 6) (.ref v2) (DX1_isAllowed_0.at 4 rfl) fX1_22_1 q2 r2 ?_
  obtain ⟨fs3, v3, q3, r3, hv⟩ := hv
  refine gk_get (pc := 9) (.ref v3) (DX1_isAllowed_0.at 5 rfl) fX1_32_7 q3 r3 ?_
  obtain ⟨⟨fs4, q4⟩, hv⟩ := hv
  refine gk_vV (pc := 12) [.ref x1, .ref v3] [] (DX1_isAllowed_0.at 6 rfl) cvX1_84 q4 rfl rfl (Nat.le_of_ble_eq_true rfl) (Nat.le_of_ble_eq_true rfl) (gk_Run.post (fun o h4 z => ?_) hv)
  obtain ⟨rfl, hv⟩ := z
  refine gk_aload_n (pc := 15) (DX1_isAllowed_0.at 7 rfl) 0 rfl rfl ?_
  obtain ⟨fs5, v5, q5, r5, hv⟩ := hv
  refine gk_get (pc := 16) (.ref v5) (DX1_isAllowed_0.at 8 rfl) fX1_26_1 q5 r5 ?_
  refine gk_aload_n (pc := 19) (DX1_isAllowed_0.at 9 rfl) 0 rfl rfl ?_
  obtain ⟨fs6, v6, q6, r6, hv⟩ := hv
  refine gk_get (pc := 20) (.ref v6) (DX1_isAllowed_0.at 10 rfl) fX1_12_1 q6 r6 ?_
  obtain ⟨⟨fs7, q7⟩, hv⟩ := hv
  refine gk_vV (pc := 23) [.ref v6] [] (DX1_isAllowed_0.at 11 rfl) cvX1_88 q7 rfl rfl (Nat.le_of_ble_eq_true rfl) (Nat.le_of_ble_eq_true rfl) (gk_Run.post (fun o h7 z => ?_) hv)
  obtain ⟨v7, rfl, hv⟩ := z
  refine gk_if_ne (pc := 26) 33 (DX1_isAllowed_0.at 12 rfl) (by decide) (fun c => ?_) (fun c => ?_)
  · replace hv := hv.1 c
    refine gk_iconst (pc := 33) (nI 0) (DX1_isAllowed_0.at 15 rfl) ci_0 ?_
    refine gk_istore_n (pc := 34) [(2, .int (nI 0)), (0, .ref o), (1, .ref x1)] (DX1_isAllowed_0.at 16 rfl) rfl (Nat.le_of_ble_eq_true rfl) rfl ?_
    refine gk_aload_n (pc := 35) (DX1_isAllowed_0.at 17 rfl) 1 rfl rfl ?_
    obtain ⟨fs8, v8, q8, r8, hv⟩ := hv
    refine gk_get (pc := 36) (.ref v8) (DX1_isAllowed_0.at 18 rfl) fX1_12_1 q8 r8 ?_
    refine gk_dup (pc := 39) (DX1_isAllowed_0.at 19 rfl) rfl ?_
    obtain ⟨fs9, v9, q9, r9, hv⟩ := hv
    refine gk_get (pc := 40) (.int v9) (DX1_isAllowed_0.at 20 rfl) fX1_94_3 q9 r9 ?_
    refine gk_iconst (pc := 43) (nI 1) (DX1_isAllowed_0.at 21 rfl) ci_1 ?_
    refine gk_isub (pc := 44) (DX1_isAllowed_0.at 22 rfl) ?_
    obtain ⟨fs10, q10, r10, hv⟩ := hv
    refine gk_put (pc := 45) (DX1_isAllowed_0.at 23 rfl) fX1_94_3w q10 r10 rfl rfl ?_
    generalize h7.set _ _ = h10 at hv ⊢
    refine gk_iload_n (pc := 48) (DX1_isAllowed_0.at 24 rfl) 0 rfl rfl ?_
    exact gk_ireturn (pc := 49) .boolean (DX1_isAllowed_0.at 25 rfl) rfl rfl ⟨_, rfl, hv⟩
  · replace hv := hv.2 c
    refine gk_iconst (pc := 29) (nI 1) (DX1_isAllowed_0.at 13 rfl) ci_1 ?_
    refine gk_goto (pc := 30) 34 (DX1_isAllowed_0.at 14 rfl) (by decide) ?_
    refine gk_istore_n (pc := 34) [(2, .int (nI 1)), (0, .ref o), (1, .ref x1)] (DX1_isAllowed_0.at 16 rfl) rfl (Nat.le_of_ble_eq_true rfl) rfl ?_
    refine gk_aload_n (pc := 35) (DX1_isAllowed_0.at 17 rfl) 1 rfl rfl ?_
    obtain ⟨fs11, v11, q11, r11, hv⟩ := hv
    refine gk_get (pc := 36) (.ref v11) (DX1_isAllowed_0.at 18 rfl) fX1_12_1 q11 r11 ?_
    refine gk_dup (pc := 39) (DX1_isAllowed_0.at 19 rfl) rfl ?_
    obtain ⟨fs12, v12, q12, r12, hv⟩ := hv
    refine gk_get (pc := 40) (.int v12) (DX1_isAllowed_0.at 20 rfl) fX1_94_3 q12 r12 ?_
    refine gk_iconst (pc := 43) (nI 1) (DX1_isAllowed_0.at 21 rfl) ci_1 ?_
    refine gk_isub (pc := 44) (DX1_isAllowed_0.at 22 rfl) ?_
    obtain ⟨fs13, q13, r13, hv⟩ := hv
    refine gk_put (pc := 45) (DX1_isAllowed_0.at 23 rfl) fX1_94_3w q13 r13 rfl rfl ?_
    generalize h7.set _ _ = h13 at hv ⊢
    refine gk_iload_n (pc := 48) (DX1_isAllowed_0.at 24 rfl) 0 rfl rfl ?_
    exact gk_ireturn (pc := 49) .boolean (DX1_isAllowed_0.at 25 rfl) rfl rfl ⟨_, rfl, hv⟩
set_option maxHeartbeats 4000000 in
theorem vX1_isFilledBy_0 {E : gk_E} {dd : Nat} {o : Nat} {x1 : Nat} {x2 : Int32} {x3 : Int32}  {h : gk_H} {K : Int32 → gk_H → Prop} (hv : LdR h o 1 0 fun v1 => LdR h v1 7 0 fun v2 => (∃ fs, h[x1]? = some (.inr (3, fs))) ∧ RnI E mX3_lacks (dd, 0, 0) [.ref x1, .ref v2, .int x2] h (fun v3 h3 => (v3 = 0 → K (nI 0) h3) ∧ (¬ v3 = 0 → LdI h3 x1 3 0 fun v4 => (∃ fs, h3[o]? = some (.inr (1, fs))) ∧ RnI E mX1_spread (dd, 0, 0) [.ref o, .int x3, .int v4] h3 (fun v5 h5 => (¬ v5 = 0 → LdR h5 o 1 4 fun v6 => AlI h5 v6 (x2 / (nI 1000)) fun v7 => (¬ v7 = ((x2 / (nI 10)) - (x2 / (nI 10)) / (nI 10) * (nI 10)) → ((nI 0) = 0 → LdR h5 o 1 2 fun v8 => (∃ fs, h5[v8]? = some (.inr (3, fs))) ∧ RnV E mX3_become (dd, 0, 0) [.ref v8, .ref x1] h5 (fun h9 => LdR h9 o 1 2 fun v10 => LdR h9 o 1 4 fun v11 => LdR h9 o 1 0 fun v12 => LdR h9 v12 7 0 fun v13 => (∃ fs, h9[v10]? = some (.inr (3, fs))) ∧ RnV E mX3_grow (dd, 0, 0) [.ref v10, .ref v11, .ref v13] h9 (fun h14 => ((nI 0) = 0 → K (nI 0) h14) ∧ (¬ (nI 0) = 0 → LdR h14 o 1 2 fun v15 => LdR h14 o 1 0 fun v16 => LdR h14 v16 7 0 fun v17 => (∃ fs, h14[v15]? = some (.inr (3, fs))) ∧ RnI E mX3_unsound (dd, 0, 0) [.ref v15, .ref v17] h14 (fun v18 h18 => (¬ v18 = ((-5)) → K (nI 0) h18) ∧ (v18 = ((-5)) → LdR h18 o 1 1 fun v19 => LdR h18 o 1 2 fun v20 => (∃ fs, h18[v19]? = some (.inr (4, fs))) ∧ RnI E mX4_isBarred (dd, 0, 0) [.ref v19, .ref v20] h18 (fun v21 h21 => (¬ v21 = 0 → K (nI 0) h21) ∧ (v21 = 0 → K (nI 1) h21)))))))) ∧ (¬ (nI 0) = 0 → LdR h5 o 1 4 fun v22 => AlI h5 v22 ((x2 / (nI 100)) - (x2 / (nI 100)) / (nI 10) * (nI 10)) fun v23 => LdR h5 o 1 0 fun v24 => LdR h5 v24 7 0 fun v25 => LdR h5 v25 8 1 fun v26 => AlI h5 v26 (x2 - x2 / (nI 10) * (nI 10)) fun v27 => (¬ v23 = v27 → LdR h5 o 1 2 fun v28 => (∃ fs, h5[v28]? = some (.inr (3, fs))) ∧ RnV E mX3_become (dd, 0, 0) [.ref v28, .ref x1] h5 (fun h29 => LdR h29 o 1 2 fun v30 => LdR h29 o 1 4 fun v31 => LdR h29 o 1 0 fun v32 => LdR h29 v32 7 0 fun v33 => (∃ fs, h29[v30]? = some (.inr (3, fs))) ∧ RnV E mX3_grow (dd, 0, 0) [.ref v30, .ref v31, .ref v33] h29 (fun h34 => ((nI 0) = 0 → K (nI 0) h34) ∧ (¬ (nI 0) = 0 → LdR h34 o 1 2 fun v35 => LdR h34 o 1 0 fun v36 => LdR h34 v36 7 0 fun v37 => (∃ fs, h34[v35]? = some (.inr (3, fs))) ∧ RnI E mX3_unsound (dd, 0, 0) [.ref v35, .ref v37] h34 (fun v38 h38 => (¬ v38 = ((-5)) → K (nI 0) h38) ∧ (v38 = ((-5)) → LdR h38 o 1 1 fun v39 => LdR h38 o 1 2 fun v40 => (∃ fs, h38[v39]? = some (.inr (4, fs))) ∧ RnI E mX4_isBarred (dd, 0, 0) [.ref v39, .ref v40] h38 (fun v41 h41 => (¬ v41 = 0 → K (nI 0) h41) ∧ (v41 = 0 → K (nI 1) h41)))))))) ∧ (v23 = v27 → LdR h5 o 1 2 fun v42 => (∃ fs, h5[v42]? = some (.inr (3, fs))) ∧ RnV E mX3_become (dd, 0, 0) [.ref v42, .ref x1] h5 (fun h43 => LdR h43 o 1 2 fun v44 => LdR h43 o 1 4 fun v45 => LdR h43 o 1 0 fun v46 => LdR h43 v46 7 0 fun v47 => (∃ fs, h43[v44]? = some (.inr (3, fs))) ∧ RnV E mX3_grow (dd, 0, 0) [.ref v44, .ref v45, .ref v47] h43 (fun h48 => ((nI 1) = 0 → K (nI 0) h48) ∧ (¬ (nI 1) = 0 → LdR h48 o 1 2 fun v49 => LdR h48 o 1 0 fun v50 => LdR h48 v50 7 0 fun v51 => (∃ fs, h48[v49]? = some (.inr (3, fs))) ∧ RnI E mX3_unsound (dd, 0, 0) [.ref v49, .ref v51] h48 (fun v52 h52 => (¬ v52 = ((-5)) → K (nI 0) h52) ∧ (v52 = ((-5)) → LdR h52 o 1 1 fun v53 => LdR h52 o 1 2 fun v54 => (∃ fs, h52[v53]? = some (.inr (4, fs))) ∧ RnI E mX4_isBarred (dd, 0, 0) [.ref v53, .ref v54] h52 (fun v55 h55 => (¬ v55 = 0 → K (nI 0) h55) ∧ (v55 = 0 → K (nI 1) h55)))))))))) ∧ (v7 = ((x2 / (nI 10)) - (x2 / (nI 10)) / (nI 10) * (nI 10)) → ((nI 1) = 0 → LdR h5 o 1 2 fun v56 => (∃ fs, h5[v56]? = some (.inr (3, fs))) ∧ RnV E mX3_become (dd, 0, 0) [.ref v56, .ref x1] h5 (fun h57 => LdR h57 o 1 2 fun v58 => LdR h57 o 1 4 fun v59 => LdR h57 o 1 0 fun v60 => LdR h57 v60 7 0 fun v61 => (∃ fs, h57[v58]? = some (.inr (3, fs))) ∧ RnV E mX3_grow (dd, 0, 0) [.ref v58, .ref v59, .ref v61] h57 (fun h62 => ((nI 0) = 0 → K (nI 0) h62) ∧ (¬ (nI 0) = 0 → LdR h62 o 1 2 fun v63 => LdR h62 o 1 0 fun v64 => LdR h62 v64 7 0 fun v65 => (∃ fs, h62[v63]? = some (.inr (3, fs))) ∧ RnI E mX3_unsound (dd, 0, 0) [.ref v63, .ref v65] h62 (fun v66 h66 => (¬ v66 = ((-5)) → K (nI 0) h66) ∧ (v66 = ((-5)) → LdR h66 o 1 1 fun v67 => LdR h66 o 1 2 fun v68 => (∃ fs, h66[v67]? = some (.inr (4, fs))) ∧ RnI E mX4_isBarred (dd, 0, 0) [.ref v67, .ref v68] h66 (fun v69 h69 => (¬ v69 = 0 → K (nI 0) h69) ∧ (v69 = 0 → K (nI 1) h69)))))))) ∧ (¬ (nI 1) = 0 → LdR h5 o 1 4 fun v70 => AlI h5 v70 ((x2 / (nI 100)) - (x2 / (nI 100)) / (nI 10) * (nI 10)) fun v71 => LdR h5 o 1 0 fun v72 => LdR h5 v72 7 0 fun v73 => LdR h5 v73 8 1 fun v74 => AlI h5 v74 (x2 - x2 / (nI 10) * (nI 10)) fun v75 => (¬ v71 = v75 → LdR h5 o 1 2 fun v76 => (∃ fs, h5[v76]? = some (.inr (3, fs))) ∧ RnV E mX3_become (dd, 0, 0) [.ref v76, .ref x1] h5 (fun h77 => LdR h77 o 1 2 fun v78 => LdR h77 o 1 4 fun v79 => LdR h77 o 1 0 fun v80 => LdR h77 v80 7 0 fun v81 => (∃ fs, h77[v78]? = some (.inr (3, fs))) ∧ RnV E mX3_grow (dd, 0, 0) [.ref v78, .ref v79, .ref v81] h77 (fun h82 => ((nI 0) = 0 → K (nI 0) h82) ∧ (¬ (nI 0) = 0 → LdR h82 o 1 2 fun v83 => LdR h82 o 1 0 fun v84 => LdR h82 v84 7 0 fun v85 => (∃ fs, h82[v83]? = some (.inr (3, fs))) ∧ RnI E mX3_unsound (dd, 0, 0) [.ref v83, .ref v85] h82 (fun v86 h86 => (¬ v86 = ((-5)) → K (nI 0) h86) ∧ (v86 = ((-5)) → LdR h86 o 1 1 fun v87 => LdR h86 o 1 2 fun v88 => (∃ fs, h86[v87]? = some (.inr (4, fs))) ∧ RnI E mX4_isBarred (dd, 0, 0) [.ref v87, .ref v88] h86 (fun v89 h89 => (¬ v89 = 0 → K (nI 0) h89) ∧ (v89 = 0 → K (nI 1) h89)))))))) ∧ (v71 = v75 → LdR h5 o 1 2 fun v90 => (∃ fs, h5[v90]? = some (.inr (3, fs))) ∧ RnV E mX3_become (dd, 0, 0) [.ref v90, .ref x1] h5 (fun h91 => LdR h91 o 1 2 fun v92 => LdR h91 o 1 4 fun v93 => LdR h91 o 1 0 fun v94 => LdR h91 v94 7 0 fun v95 => (∃ fs, h91[v92]? = some (.inr (3, fs))) ∧ RnV E mX3_grow (dd, 0, 0) [.ref v92, .ref v93, .ref v95] h91 (fun h96 => ((nI 1) = 0 → K (nI 0) h96) ∧ (¬ (nI 1) = 0 → LdR h96 o 1 2 fun v97 => LdR h96 o 1 0 fun v98 => LdR h96 v98 7 0 fun v99 => (∃ fs, h96[v97]? = some (.inr (3, fs))) ∧ RnI E mX3_unsound (dd, 0, 0) [.ref v97, .ref v99] h96 (fun v100 h100 => (¬ v100 = ((-5)) → K (nI 0) h100) ∧ (v100 = ((-5)) → LdR h100 o 1 1 fun v101 => LdR h100 o 1 2 fun v102 => (∃ fs, h100[v101]? = some (.inr (4, fs))) ∧ RnI E mX4_isBarred (dd, 0, 0) [.ref v101, .ref v102] h100 (fun v103 h103 => (¬ v103 = 0 → K (nI 0) h103) ∧ (v103 = 0 → K (nI 1) h103))))))))))) ∧ (v5 = 0 → K (nI 0) h5))))) : RnI E mX1_isFilledBy (dd + 1, 0, 0) [.ref o, .ref x1, .int x2, .int x3] h K := by
  show gk_G E mX1_isFilledBy (dd + 1, 0, 0) 0 [(0, .ref o), (1, .ref x1), (2, .int x2), (3, .int x3)] [] h (fun o h1 => ∃ v, o = some (.int v) ∧ K v h1)
  refine gk_aload_n (pc := 0) (DX1_isFilledBy_0.at 0 rfl) 1 rfl rfl ?_
  refine gk_aload_n (pc := 1) (DX1_isFilledBy_0.at 1 rfl) 0 rfl rfl ?_
  obtain ⟨fs1, v1, q1, r1, hv⟩ := hv
  refine gk_get (pc := 2) (.ref v1) (DX1_isFilledBy_0.at 2 rfl) fX1_22_1 q1 r1 ?_
  obtain ⟨fs2, v2, q2, r2, hv⟩ := hv
  refine gk_get (pc := 5) (.ref v2) (DX1_isFilledBy_0.at 3 rfl) fX1_32_7 q2 r2 ?_
  refine gk_iload_n (pc := 8) (DX1_isFilledBy_0.at 4 rfl) 2 rfl rfl ?_
  obtain ⟨⟨fs3, q3⟩, hv⟩ := hv
  refine gk_vV (pc := 9) [.ref v2, .int x2] [] (DX1_isFilledBy_0.at 5 rfl) cvX1_95 q3 rfl rfl (Nat.le_of_ble_eq_true rfl) (Nat.le_of_ble_eq_true rfl) (gk_Run.post (fun o h3 z => ?_) hv)
  obtain ⟨v3, rfl, hv⟩ := z
  refine gk_if_eq (pc := 12) 27 (DX1_isFilledBy_0.at 6 rfl) (by decide) (fun c => ?_) (fun c => ?_)
  · replace hv := hv.1 c
    refine gk_iconst (pc := 27) (nI 0) (DX1_isFilledBy_0.at 13 rfl) ci_0 ?_
    exact gk_ireturn (pc := 28) .boolean (DX1_isFilledBy_0.at 14 rfl) rfl rfl ⟨_, rfl, hv⟩
  · replace hv := hv.2 c
    refine gk_aload_n (pc := 15) (DX1_isFilledBy_0.at 7 rfl) 0 rfl rfl ?_
    refine gk_iload_n (pc := 16) (DX1_isFilledBy_0.at 8 rfl) 3 rfl rfl ?_
    refine gk_aload_n (pc := 17) (DX1_isFilledBy_0.at 9 rfl) 1 rfl rfl ?_
    obtain ⟨fs4, v4, q4, r4, hv⟩ := hv
    refine gk_get (pc := 18) (.int v4) (DX1_isFilledBy_0.at 10 rfl) fX1_94_3 q4 r4 ?_
    obtain ⟨⟨fs5, q5⟩, hv⟩ := hv
    refine gk_vV (pc := 21) [.int x3, .int v4] [] (DX1_isFilledBy_0.at 11 rfl) cvX1_99 q5 rfl rfl (Nat.le_of_ble_eq_true rfl) (Nat.le_of_ble_eq_true rfl) (gk_Run.post (fun o h5 z => ?_) hv)
    obtain ⟨v5, rfl, hv⟩ := z
    refine gk_if_ne (pc := 24) 29 (DX1_isFilledBy_0.at 12 rfl) (by decide) (fun c => ?_) (fun c => ?_)
    · replace hv := hv.1 c
      refine gk_aload_n (pc := 29) (DX1_isFilledBy_0.at 15 rfl) 0 rfl rfl ?_
      obtain ⟨fs6, v6, q6, r6, hv⟩ := hv
      refine gk_get (pc := 30) (.ref v6) (DX1_isFilledBy_0.at 16 rfl) fX1_18_1 q6 r6 ?_
      refine gk_iload_n (pc := 33) (DX1_isFilledBy_0.at 17 rfl) 2 rfl rfl ?_
      refine gk_sipush (pc := 34) (nI 1000) (DX1_isFilledBy_0.at 18 rfl) cs_1000 ?_
      refine gk_idiv (pc := 37) (DX1_isFilledBy_0.at 19 rfl) (by decide) ?_
      obtain ⟨n7, f7, q7, r7, hv⟩ := hv
      refine gk_iald (pc := 38) (DX1_isFilledBy_0.at 20 rfl) q7 r7 ?_
      generalize f7 _ = v7 at hv ⊢
      refine gk_iload_n (pc := 39) (DX1_isFilledBy_0.at 21 rfl) 2 rfl rfl ?_
      refine gk_bipush (pc := 40) (nI 10) (DX1_isFilledBy_0.at 22 rfl) cb_10 ?_
      refine gk_idiv (pc := 42) (DX1_isFilledBy_0.at 23 rfl) (by decide) ?_
      refine gk_bipush (pc := 43) (nI 10) (DX1_isFilledBy_0.at 24 rfl) cb_10 ?_
      refine gk_irem (pc := 45) (DX1_isFilledBy_0.at 25 rfl) (by decide) ?_
      refine gk_icmp_ne (pc := 46) 53 (DX1_isFilledBy_0.at 26 rfl) (by decide) (fun c => ?_) (fun c => ?_)
      · replace hv := hv.1 c
        refine gk_iconst (pc := 53) (nI 0) (DX1_isFilledBy_0.at 29 rfl) ci_0 ?_
        refine gk_istore (pc := 54) [(4, .int (nI 0)), (0, .ref o), (1, .ref x1), (2, .int x2), (3, .int x3)] (DX1_isFilledBy_0.at 30 rfl) (Nat.le_of_ble_eq_true rfl) rfl ?_
        refine gk_iload (pc := 56) (DX1_isFilledBy_0.at 31 rfl) 0 rfl ?_
        refine gk_if_eq (pc := 58) 95 (DX1_isFilledBy_0.at 32 rfl) (by decide) (fun c => ?_) (fun c => ?_)
        · replace hv := hv.1 c
          refine gk_iconst (pc := 95) (nI 0) (DX1_isFilledBy_0.at 52 rfl) ci_0 ?_
          refine gk_istore (pc := 96) [(4, .int (nI 0)), (0, .ref o), (1, .ref x1), (2, .int x2), (3, .int x3)] (DX1_isFilledBy_0.at 53 rfl) (Nat.le_of_ble_eq_true rfl) rfl ?_
          refine gk_aload_n (pc := 98) (DX1_isFilledBy_0.at 54 rfl) 1 rfl rfl ?_
          obtain ⟨fs8, v8, q8, r8, hv⟩ := hv
          refine gk_get (pc := 99) (.ref v8) (DX1_isFilledBy_0.at 55 rfl) fX1_12_1 q8 r8 ?_
          refine gk_aload_n (pc := 102) (DX1_isFilledBy_0.at 56 rfl) 2 rfl rfl ?_
          obtain ⟨⟨fs9, q9⟩, hv⟩ := hv
          refine gk_vV (pc := 103) [.ref x1] [] (DX1_isFilledBy_0.at 57 rfl) cvX1_51 q9 rfl rfl (Nat.le_of_ble_eq_true rfl) (Nat.le_of_ble_eq_true rfl) (gk_Run.post (fun o h9 z => ?_) hv)
          obtain ⟨rfl, hv⟩ := z
          refine gk_aload_n (pc := 106) (DX1_isFilledBy_0.at 58 rfl) 1 rfl rfl ?_
          obtain ⟨fs10, v10, q10, r10, hv⟩ := hv
          refine gk_get (pc := 107) (.ref v10) (DX1_isFilledBy_0.at 59 rfl) fX1_12_1 q10 r10 ?_
          refine gk_aload_n (pc := 110) (DX1_isFilledBy_1.at 0 rfl) 1 rfl rfl ?_
          obtain ⟨fs11, v11, q11, r11, hv⟩ := hv
          refine gk_get (pc := 111) (.ref v11) (DX1_isFilledBy_1.at 1 rfl) fX1_18_1 q11 r11 ?_
          refine gk_aload_n (pc := 114) (DX1_isFilledBy_1.at 2 rfl) 1 rfl rfl ?_
          obtain ⟨fs12, v12, q12, r12, hv⟩ := hv
          refine gk_get (pc := 115) (.ref v12) (DX1_isFilledBy_1.at 3 rfl) fX1_22_1 q12 r12 ?_
          obtain ⟨fs13, v13, q13, r13, hv⟩ := hv
          refine gk_get (pc := 118) (.ref v13) (DX1_isFilledBy_1.at 4 rfl) fX1_32_7 q13 r13 ?_
          obtain ⟨⟨fs14, q14⟩, hv⟩ := hv
          refine gk_vV (pc := 121) [.ref v11, .ref v13] [] (DX1_isFilledBy_1.at 5 rfl) cvX1_84 q14 rfl rfl (Nat.le_of_ble_eq_true rfl) (Nat.le_of_ble_eq_true rfl) (gk_Run.post (fun o h14 z => ?_) hv)
          obtain ⟨rfl, hv⟩ := z
          refine gk_iload (pc := 124) (DX1_isFilledBy_1.at 6 rfl) 0 rfl ?_
          refine gk_if_eq (pc := 126) 166 (DX1_isFilledBy_1.at 7 rfl) (by decide) (fun c => ?_) (fun c => ?_)
          · replace hv := hv.1 c
            refine gk_iconst (pc := 166) (nI 0) (DX1_isFilledBy_1.at 24 rfl) ci_0 ?_
            exact gk_ireturn (pc := 167) .boolean (DX1_isFilledBy_1.at 25 rfl) rfl rfl ⟨_, rfl, hv⟩
          · replace hv := hv.2 c
            refine gk_aload_n (pc := 129) (DX1_isFilledBy_1.at 8 rfl) 1 rfl rfl ?_
            obtain ⟨fs15, v15, q15, r15, hv⟩ := hv
            refine gk_get (pc := 130) (.ref v15) (DX1_isFilledBy_1.at 9 rfl) fX1_12_1 q15 r15 ?_
            refine gk_aload_n (pc := 133) (DX1_isFilledBy_1.at 10 rfl) 1 rfl rfl ?_
            obtain ⟨fs16, v16, q16, r16, hv⟩ := hv
            refine gk_get (pc := 134) (.ref v16) (DX1_isFilledBy_1.at 11 rfl) fX1_22_1 q16 r16 ?_
            obtain ⟨fs17, v17, q17, r17, hv⟩ := hv
            refine gk_get (pc := 137) (.ref v17) (DX1_isFilledBy_1.at 12 rfl) fX1_32_7 q17 r17 ?_
            obtain ⟨⟨fs18, q18⟩, hv⟩ := hv
            refine gk_vV (pc := 140) [.ref v17] [] (DX1_isFilledBy_1.at 13 rfl) cvX1_103 q18 rfl rfl (Nat.le_of_ble_eq_true rfl) (Nat.le_of_ble_eq_true rfl) (gk_Run.post (fun o h18 z => ?_) hv)
            obtain ⟨v18, rfl, hv⟩ := z
            refine gk_bipush (pc := 143) ((-5)) (DX1_isFilledBy_1.at 14 rfl) cb_m5 ?_
            refine gk_icmp_ne (pc := 145) 166 (DX1_isFilledBy_1.at 15 rfl) (by decide) (fun c => ?_) (fun c => ?_)
            · replace hv := hv.1 c
              refine gk_iconst (pc := 166) (nI 0) (DX1_isFilledBy_1.at 24 rfl) ci_0 ?_
              exact gk_ireturn (pc := 167) .boolean (DX1_isFilledBy_1.at 25 rfl) rfl rfl ⟨_, rfl, hv⟩
            · replace hv := hv.2 c
              refine gk_aload_n (pc := 148) (DX1_isFilledBy_1.at 16 rfl) 1 rfl rfl ?_
              obtain ⟨fs19, v19, q19, r19, hv⟩ := hv
              refine gk_get (pc := 149) (.ref v19) (DX1_isFilledBy_1.at 17 rfl) fX1_26_1 q19 r19 ?_
              refine gk_aload_n (pc := 152) (DX1_isFilledBy_1.at 18 rfl) 1 rfl rfl ?_
              obtain ⟨fs20, v20, q20, r20, hv⟩ := hv
              refine gk_get (pc := 153) (.ref v20) (DX1_isFilledBy_1.at 19 rfl) fX1_12_1 q20 r20 ?_
              obtain ⟨⟨fs21, q21⟩, hv⟩ := hv
              refine gk_vV (pc := 156) [.ref v20] [] (DX1_isFilledBy_1.at 20 rfl) cvX1_88 q21 rfl rfl (Nat.le_of_ble_eq_true rfl) (Nat.le_of_ble_eq_true rfl) (gk_Run.post (fun o h21 z => ?_) hv)
              obtain ⟨v21, rfl, hv⟩ := z
              refine gk_if_ne (pc := 159) 166 (DX1_isFilledBy_1.at 21 rfl) (by decide) (fun c => ?_) (fun c => ?_)
              · replace hv := hv.1 c
                refine gk_iconst (pc := 166) (nI 0) (DX1_isFilledBy_1.at 24 rfl) ci_0 ?_
                exact gk_ireturn (pc := 167) .boolean (DX1_isFilledBy_1.at 25 rfl) rfl rfl ⟨_, rfl, hv⟩
              · replace hv := hv.2 c
                refine gk_iconst (pc := 162) (nI 1) (DX1_isFilledBy_1.at 22 rfl) ci_1 ?_
                refine gk_goto (pc := 163) 167 (DX1_isFilledBy_1.at 23 rfl) (by decide) ?_
                exact gk_ireturn (pc := 167) .boolean (DX1_isFilledBy_1.at 25 rfl) rfl rfl ⟨_, rfl, hv⟩
        · replace hv := hv.2 c
          refine gk_aload_n (pc := 61) (DX1_isFilledBy_0.at 33 rfl) 1 rfl rfl ?_
          obtain ⟨fs22, v22, q22, r22, hv⟩ := hv
          refine gk_get (pc := 62) (.ref v22) (DX1_isFilledBy_0.at 34 rfl) fX1_18_1 q22 r22 ?_
          refine gk_iload_n (pc := 65) (DX1_isFilledBy_0.at 35 rfl) 3 rfl rfl ?_
          refine gk_bipush (pc := 66) (nI 100) (DX1_isFilledBy_0.at 36 rfl) cb_100 ?_
          refine gk_idiv (pc := 68) (DX1_isFilledBy_0.at 37 rfl) (by decide) ?_
          refine gk_bipush (pc := 69) (nI 10) (DX1_isFilledBy_0.at 38 rfl) cb_10 ?_
          refine gk_irem (pc := 71) (DX1_isFilledBy_0.at 39 rfl) (by decide) ?_
          obtain ⟨n23, f23, q23, r23, hv⟩ := hv
          refine gk_iald (pc := 72) (DX1_isFilledBy_0.at 40 rfl) q23 r23 ?_
          generalize f23 _ = v23 at hv ⊢
          refine gk_aload_n (pc := 73) (DX1_isFilledBy_0.at 41 rfl) 1 rfl rfl ?_
          obtain ⟨fs24, v24, q24, r24, hv⟩ := hv
          refine gk_get (pc := 74) (.ref v24) (DX1_isFilledBy_0.at 42 rfl) fX1_22_1 q24 r24 ?_
          obtain ⟨fs25, v25, q25, r25, hv⟩ := hv
          refine gk_get (pc := 77) (.ref v25) (DX1_isFilledBy_0.at 43 rfl) fX1_32_7 q25 r25 ?_
          obtain ⟨fs26, v26, q26, r26, hv⟩ := hv
          refine gk_get (pc := 80) (.ref v26) (DX1_isFilledBy_0.at 44 rfl) fX1_62_8 q26 r26 ?_
          refine gk_iload_n (pc := 83) (DX1_isFilledBy_0.at 45 rfl) 3 rfl rfl ?_
          refine gk_bipush (pc := 84) (nI 10) (DX1_isFilledBy_0.at 46 rfl) cb_10 ?_
          refine gk_irem (pc := 86) (DX1_isFilledBy_0.at 47 rfl) (by decide) ?_
          obtain ⟨n27, f27, q27, r27, hv⟩ := hv
          refine gk_iald (pc := 87) (DX1_isFilledBy_0.at 48 rfl) q27 r27 ?_
          generalize f27 _ = v27 at hv ⊢
          refine gk_icmp_ne (pc := 88) 95 (DX1_isFilledBy_0.at 49 rfl) (by decide) (fun c => ?_) (fun c => ?_)
          · replace hv := hv.1 c
            refine gk_iconst (pc := 95) (nI 0) (DX1_isFilledBy_0.at 52 rfl) ci_0 ?_
            refine gk_istore (pc := 96) [(4, .int (nI 0)), (0, .ref o), (1, .ref x1), (2, .int x2), (3, .int x3)] (DX1_isFilledBy_0.at 53 rfl) (Nat.le_of_ble_eq_true rfl) rfl ?_
            refine gk_aload_n (pc := 98) (DX1_isFilledBy_0.at 54 rfl) 1 rfl rfl ?_
            obtain ⟨fs28, v28, q28, r28, hv⟩ := hv
            refine gk_get (pc := 99) (.ref v28) (DX1_isFilledBy_0.at 55 rfl) fX1_12_1 q28 r28 ?_
            refine gk_aload_n (pc := 102) (DX1_isFilledBy_0.at 56 rfl) 2 rfl rfl ?_
            obtain ⟨⟨fs29, q29⟩, hv⟩ := hv
            refine gk_vV (pc := 103) [.ref x1] [] (DX1_isFilledBy_0.at 57 rfl) cvX1_51 q29 rfl rfl (Nat.le_of_ble_eq_true rfl) (Nat.le_of_ble_eq_true rfl) (gk_Run.post (fun o h29 z => ?_) hv)
            obtain ⟨rfl, hv⟩ := z
            refine gk_aload_n (pc := 106) (DX1_isFilledBy_0.at 58 rfl) 1 rfl rfl ?_
            obtain ⟨fs30, v30, q30, r30, hv⟩ := hv
            refine gk_get (pc := 107) (.ref v30) (DX1_isFilledBy_0.at 59 rfl) fX1_12_1 q30 r30 ?_
            refine gk_aload_n (pc := 110) (DX1_isFilledBy_1.at 0 rfl) 1 rfl rfl ?_
            obtain ⟨fs31, v31, q31, r31, hv⟩ := hv
            refine gk_get (pc := 111) (.ref v31) (DX1_isFilledBy_1.at 1 rfl) fX1_18_1 q31 r31 ?_
            refine gk_aload_n (pc := 114) (DX1_isFilledBy_1.at 2 rfl) 1 rfl rfl ?_
            obtain ⟨fs32, v32, q32, r32, hv⟩ := hv
            refine gk_get (pc := 115) (.ref v32) (DX1_isFilledBy_1.at 3 rfl) fX1_22_1 q32 r32 ?_
            obtain ⟨fs33, v33, q33, r33, hv⟩ := hv
            refine gk_get (pc := 118) (.ref v33) (DX1_isFilledBy_1.at 4 rfl) fX1_32_7 q33 r33 ?_
            obtain ⟨⟨fs34, q34⟩, hv⟩ := hv
            refine gk_vV (pc := 121) [.ref v31, .ref v33] [] (DX1_isFilledBy_1.at 5 rfl) cvX1_84 q34 rfl rfl (Nat.le_of_ble_eq_true rfl) (Nat.le_of_ble_eq_true rfl) (gk_Run.post (fun o h34 z => ?_) hv)
            obtain ⟨rfl, hv⟩ := z
            refine gk_iload (pc := 124) (DX1_isFilledBy_1.at 6 rfl) 0 rfl ?_
            refine gk_if_eq (pc := 126) 166 (DX1_isFilledBy_1.at 7 rfl) (by decide) (fun c => ?_) (fun c => ?_)
            · replace hv := hv.1 c
              refine gk_iconst (pc := 166) (nI 0) (DX1_isFilledBy_1.at 24 rfl) ci_0 ?_
              exact gk_ireturn (pc := 167) .boolean (DX1_isFilledBy_1.at 25 rfl) rfl rfl ⟨_, rfl, hv⟩
            · replace hv := hv.2 c
              refine gk_aload_n (pc := 129) (DX1_isFilledBy_1.at 8 rfl) 1 rfl rfl ?_
              obtain ⟨fs35, v35, q35, r35, hv⟩ := hv
              refine gk_get (pc := 130) (.ref v35) (DX1_isFilledBy_1.at 9 rfl) fX1_12_1 q35 r35 ?_
              refine gk_aload_n (pc := 133) (DX1_isFilledBy_1.at 10 rfl) 1 rfl rfl ?_
              obtain ⟨fs36, v36, q36, r36, hv⟩ := hv
              refine gk_get (pc := 134) (.ref v36) (DX1_isFilledBy_1.at 11 rfl) fX1_22_1 q36 r36 ?_
              obtain ⟨fs37, v37, q37, r37, hv⟩ := hv
              refine gk_get (pc := 137) (.ref v37) (DX1_isFilledBy_1.at 12 rfl) fX1_32_7 q37 r37 ?_
              obtain ⟨⟨fs38, q38⟩, hv⟩ := hv
              refine gk_vV (pc := 140) [.ref v37] [] (DX1_isFilledBy_1.at 13 rfl) cvX1_103 q38 rfl rfl (Nat.le_of_ble_eq_true rfl) (Nat.le_of_ble_eq_true rfl) (gk_Run.post (fun o h38 z => ?_) hv)
              obtain ⟨v38, rfl, hv⟩ := z
              refine gk_bipush (pc := 143) ((-5)) (DX1_isFilledBy_1.at 14 rfl) cb_m5 ?_
              refine gk_icmp_ne (pc := 145) 166 (DX1_isFilledBy_1.at 15 rfl) (by decide) (fun c => ?_) (fun c => ?_)
              · replace hv := hv.1 c
                refine gk_iconst (pc := 166) (nI 0) (DX1_isFilledBy_1.at 24 rfl) ci_0 ?_
                exact gk_ireturn (pc := 167) .boolean (DX1_isFilledBy_1.at 25 rfl) rfl rfl ⟨_, rfl, hv⟩
              · replace hv := hv.2 c
                refine gk_aload_n (pc := 148) (DX1_isFilledBy_1.at 16 rfl) 1 rfl rfl ?_
                obtain ⟨fs39, v39, q39, r39, hv⟩ := hv
                refine gk_get (pc := 149) (.ref v39) (DX1_isFilledBy_1.at 17 rfl) fX1_26_1 q39 r39 ?_
                refine gk_aload_n (pc := 152) (DX1_isFilledBy_1.at 18 rfl) 1 rfl rfl ?_
                obtain ⟨fs40, v40, q40, r40, hv⟩ := hv
                refine gk_get (pc := 153) (.ref v40) (DX1_isFilledBy_1.at 19 rfl) fX1_12_1 q40 r40 ?_
                obtain ⟨⟨fs41, q41⟩, hv⟩ := hv
                refine gk_vV (pc := 156) [.ref v40] [] (DX1_isFilledBy_1.at 20 rfl) cvX1_88 q41 rfl rfl (Nat.le_of_ble_eq_true rfl) (Nat.le_of_ble_eq_true rfl) (gk_Run.post (fun o h41 z => ?_) hv)
                obtain ⟨v41, rfl, hv⟩ := z
                refine gk_if_ne (pc := 159) 166 (DX1_isFilledBy_1.at 21 rfl) (by decide) (fun c => ?_) (fun c => ?_)
                · replace hv := hv.1 c
                  refine gk_iconst (pc := 166) (nI 0) (DX1_isFilledBy_1.at 24 rfl) ci_0 ?_
                  exact gk_ireturn (pc := 167) .boolean (DX1_isFilledBy_1.at 25 rfl) rfl rfl ⟨_, rfl, hv⟩
                · replace hv := hv.2 c
                  refine gk_iconst (pc := 162) (nI 1) (DX1_isFilledBy_1.at 22 rfl) ci_1 ?_
                  refine gk_goto (pc := 163) 167 (DX1_isFilledBy_1.at 23 rfl) (by decide) ?_
                  exact gk_ireturn (pc := 167) .boolean (DX1_isFilledBy_1.at 25 rfl) rfl rfl ⟨_, rfl, hv⟩
          · replace hv := hv.2 c
            refine gk_iconst (pc := 91) (nI 1) (DX1_isFilledBy_0.at 50 rfl) ci_1 ?_
            refine gk_goto (pc := 92) 96 (DX1_isFilledBy_0.at 51 rfl) (by decide) ?_
            refine gk_istore (pc := 96) [(4, .int (nI 1)), (0, .ref o), (1, .ref x1), (2, .int x2), (3, .int x3)] (DX1_isFilledBy_0.at 53 rfl) (Nat.le_of_ble_eq_true rfl) rfl ?_
            refine gk_aload_n (pc := 98) (DX1_isFilledBy_0.at 54 rfl) 1 rfl rfl ?_
            obtain ⟨fs42, v42, q42, r42, hv⟩ := hv
            refine gk_get (pc := 99) (.ref v42) (DX1_isFilledBy_0.at 55 rfl) fX1_12_1 q42 r42 ?_
            refine gk_aload_n (pc := 102) (DX1_isFilledBy_0.at 56 rfl) 2 rfl rfl ?_
            obtain ⟨⟨fs43, q43⟩, hv⟩ := hv
            refine gk_vV (pc := 103) [.ref x1] [] (DX1_isFilledBy_0.at 57 rfl) cvX1_51 q43 rfl rfl (Nat.le_of_ble_eq_true rfl) (Nat.le_of_ble_eq_true rfl) (gk_Run.post (fun o h43 z => ?_) hv)
            obtain ⟨rfl, hv⟩ := z
            refine gk_aload_n (pc := 106) (DX1_isFilledBy_0.at 58 rfl) 1 rfl rfl ?_
            obtain ⟨fs44, v44, q44, r44, hv⟩ := hv
            refine gk_get (pc := 107) (.ref v44) (DX1_isFilledBy_0.at 59 rfl) fX1_12_1 q44 r44 ?_
            refine gk_aload_n (pc := 110) (DX1_isFilledBy_1.at 0 rfl) 1 rfl rfl ?_
            obtain ⟨fs45, v45, q45, r45, hv⟩ := hv
            refine gk_get (pc := 111) (.ref v45) (DX1_isFilledBy_1.at 1 rfl) fX1_18_1 q45 r45 ?_
            refine gk_aload_n (pc := 114) (DX1_isFilledBy_1.at 2 rfl) 1 rfl rfl ?_
            obtain ⟨fs46, v46, q46, r46, hv⟩ := hv
            refine gk_get (pc := 115) (.ref v46) (DX1_isFilledBy_1.at 3 rfl) fX1_22_1 q46 r46 ?_
            obtain ⟨fs47, v47, q47, r47, hv⟩ := hv
            refine gk_get (pc := 118) (.ref v47) (DX1_isFilledBy_1.at 4 rfl) fX1_32_7 q47 r47 ?_
            obtain ⟨⟨fs48, q48⟩, hv⟩ := hv
            refine gk_vV (pc := 121) [.ref v45, .ref v47] [] (DX1_isFilledBy_1.at 5 rfl) cvX1_84 q48 rfl rfl (Nat.le_of_ble_eq_true rfl) (Nat.le_of_ble_eq_true rfl) (gk_Run.post (fun o h48 z => ?_) hv)
            obtain ⟨rfl, hv⟩ := z
            refine gk_iload (pc := 124) (DX1_isFilledBy_1.at 6 rfl) 0 rfl ?_
            refine gk_if_eq (pc := 126) 166 (DX1_isFilledBy_1.at 7 rfl) (by decide) (fun c => ?_) (fun c => ?_)
            · replace hv := hv.1 c
              refine gk_iconst (pc := 166) (nI 0) (DX1_isFilledBy_1.at 24 rfl) ci_0 ?_
              exact gk_ireturn (pc := 167) .boolean (DX1_isFilledBy_1.at 25 rfl) rfl rfl ⟨_, rfl, hv⟩
            · replace hv := hv.2 c
              refine gk_aload_n (pc := 129) (DX1_isFilledBy_1.at 8 rfl) 1 rfl rfl ?_
              obtain ⟨fs49, v49, q49, r49, hv⟩ := hv
              refine gk_get (pc := 130) (.ref v49) (DX1_isFilledBy_1.at 9 rfl) fX1_12_1 q49 r49 ?_
              refine gk_aload_n (pc := 133) (DX1_isFilledBy_1.at 10 rfl) 1 rfl rfl ?_
              obtain ⟨fs50, v50, q50, r50, hv⟩ := hv
              refine gk_get (pc := 134) (.ref v50) (DX1_isFilledBy_1.at 11 rfl) fX1_22_1 q50 r50 ?_
              obtain ⟨fs51, v51, q51, r51, hv⟩ := hv
              refine gk_get (pc := 137) (.ref v51) (DX1_isFilledBy_1.at 12 rfl) fX1_32_7 q51 r51 ?_
              obtain ⟨⟨fs52, q52⟩, hv⟩ := hv
              refine gk_vV (pc := 140) [.ref v51] [] (DX1_isFilledBy_1.at 13 rfl) cvX1_103 q52 rfl rfl (Nat.le_of_ble_eq_true rfl) (Nat.le_of_ble_eq_true rfl) (gk_Run.post (fun o h52 z => ?_) hv)
              obtain ⟨v52, rfl, hv⟩ := z
              refine gk_bipush (pc := 143) ((-5)) (DX1_isFilledBy_1.at 14 rfl) cb_m5 ?_
              refine gk_icmp_ne (pc := 145) 166 (DX1_isFilledBy_1.at 15 rfl) (by decide) (fun c => ?_) (fun c => ?_)
              · replace hv := hv.1 c
                refine gk_iconst (pc := 166) (nI 0) (DX1_isFilledBy_1.at 24 rfl) ci_0 ?_
                exact gk_ireturn (pc := 167) .boolean (DX1_isFilledBy_1.at 25 rfl) rfl rfl ⟨_, rfl, hv⟩
              · replace hv := hv.2 c
                refine gk_aload_n (pc := 148) (DX1_isFilledBy_1.at 16 rfl) 1 rfl rfl ?_
                obtain ⟨fs53, v53, q53, r53, hv⟩ := hv
                refine gk_get (pc := 149) (.ref v53) (DX1_isFilledBy_1.at 17 rfl) fX1_26_1 q53 r53 ?_
                refine gk_aload_n (pc := 152) (DX1_isFilledBy_1.at 18 rfl) 1 rfl rfl ?_
                obtain ⟨fs54, v54, q54, r54, hv⟩ := hv
                refine gk_get (pc := 153) (.ref v54) (DX1_isFilledBy_1.at 19 rfl) fX1_12_1 q54 r54 ?_
                obtain ⟨⟨fs55, q55⟩, hv⟩ := hv
                refine gk_vV (pc := 156) [.ref v54] [] (DX1_isFilledBy_1.at 20 rfl) cvX1_88 q55 rfl rfl (Nat.le_of_ble_eq_true rfl) (Nat.le_of_ble_eq_true rfl) (gk_Run.post (fun o h55 z => ?_) hv)
                obtain ⟨v55, rfl, hv⟩ := z
                refine gk_if_ne (pc := 159) 166 (DX1_isFilledBy_1.at 21 rfl) (by decide) (fun c => ?_) (fun c => ?_)
                · replace hv := hv.1 c
                  refine gk_iconst (pc := 166) (nI 0) (DX1_isFilledBy_1.at 24 rfl) ci_0 ?_
                  exact gk_ireturn (pc := 167) .boolean (DX1_isFilledBy_1.at 25 rfl) rfl rfl ⟨_, rfl, hv⟩
                · replace hv := hv.2 c
                  refine gk_iconst (pc := 162) (nI 1) (DX1_isFilledBy_1.at 22 rfl) ci_1 ?_
                  refine gk_goto (pc := 163) 167 (DX1_isFilledBy_1.at 23 rfl) (by decide) ?_
                  exact gk_ireturn (pc := 167) .boolean (DX1_isFilledBy_1.at 25 rfl) rfl rfl ⟨_, rfl, hv⟩
      · replace hv := hv.2 c
        refine gk_iconst (pc := 49) (nI 1) (DX1_isFilledBy_0.at 27 rfl) ci_1 ?_
        refine gk_goto (pc := 50) 54 (DX1_isFilledBy_0.at 28 rfl) (by decide) ?_
        refine gk_istore (pc := 54) [(4, .int (nI 1)), (0, .ref o), (1, .ref x1), (2, .int x2), (3, .int x3)] (DX1_isFilledBy_0.at 30 rfl) (Nat.le_of_ble_eq_true rfl) rfl ?_
        refine gk_iload (pc := 56) (DX1_isFilledBy_0.at 31 rfl) 0 rfl ?_
        refine gk_if_eq (pc := 58) 95 (DX1_isFilledBy_0.at 32 rfl) (by decide) (fun c => ?_) (fun c => ?_)
        · replace hv := hv.1 c
          refine gk_iconst (pc := 95) (nI 0) (DX1_isFilledBy_0.at 52 rfl) ci_0 ?_
          refine gk_istore (pc := 96) [(4, .int (nI 0)), (0, .ref o), (1, .ref x1), (2, .int x2), (3, .int x3)] (DX1_isFilledBy_0.at 53 rfl) (Nat.le_of_ble_eq_true rfl) rfl ?_
          refine gk_aload_n (pc := 98) (DX1_isFilledBy_0.at 54 rfl) 1 rfl rfl ?_
          obtain ⟨fs56, v56, q56, r56, hv⟩ := hv
          refine gk_get (pc := 99) (.ref v56) (DX1_isFilledBy_0.at 55 rfl) fX1_12_1 q56 r56 ?_
          refine gk_aload_n (pc := 102) (DX1_isFilledBy_0.at 56 rfl) 2 rfl rfl ?_
          obtain ⟨⟨fs57, q57⟩, hv⟩ := hv
          refine gk_vV (pc := 103) [.ref x1] [] (DX1_isFilledBy_0.at 57 rfl) cvX1_51 q57 rfl rfl (Nat.le_of_ble_eq_true rfl) (Nat.le_of_ble_eq_true rfl) (gk_Run.post (fun o h57 z => ?_) hv)
          obtain ⟨rfl, hv⟩ := z
          refine gk_aload_n (pc := 106) (DX1_isFilledBy_0.at 58 rfl) 1 rfl rfl ?_
          obtain ⟨fs58, v58, q58, r58, hv⟩ := hv
          refine gk_get (pc := 107) (.ref v58) (DX1_isFilledBy_0.at 59 rfl) fX1_12_1 q58 r58 ?_
          refine gk_aload_n (pc := 110) (DX1_isFilledBy_1.at 0 rfl) 1 rfl rfl ?_
          obtain ⟨fs59, v59, q59, r59, hv⟩ := hv
          refine gk_get (pc := 111) (.ref v59) (DX1_isFilledBy_1.at 1 rfl) fX1_18_1 q59 r59 ?_
          refine gk_aload_n (pc := 114) (DX1_isFilledBy_1.at 2 rfl) 1 rfl rfl ?_
          obtain ⟨fs60, v60, q60, r60, hv⟩ := hv
          refine gk_get (pc := 115) (.ref v60) (DX1_isFilledBy_1.at 3 rfl) fX1_22_1 q60 r60 ?_
          obtain ⟨fs61, v61, q61, r61, hv⟩ := hv
          refine gk_get (pc := 118) (.ref v61) (DX1_isFilledBy_1.at 4 rfl) fX1_32_7 q61 r61 ?_
          obtain ⟨⟨fs62, q62⟩, hv⟩ := hv
          refine gk_vV (pc := 121) [.ref v59, .ref v61] [] (DX1_isFilledBy_1.at 5 rfl) cvX1_84 q62 rfl rfl (Nat.le_of_ble_eq_true rfl) (Nat.le_of_ble_eq_true rfl) (gk_Run.post (fun o h62 z => ?_) hv)
          obtain ⟨rfl, hv⟩ := z
          refine gk_iload (pc := 124) (DX1_isFilledBy_1.at 6 rfl) 0 rfl ?_
          refine gk_if_eq (pc := 126) 166 (DX1_isFilledBy_1.at 7 rfl) (by decide) (fun c => ?_) (fun c => ?_)
          · replace hv := hv.1 c
            refine gk_iconst (pc := 166) (nI 0) (DX1_isFilledBy_1.at 24 rfl) ci_0 ?_
            exact gk_ireturn (pc := 167) .boolean (DX1_isFilledBy_1.at 25 rfl) rfl rfl ⟨_, rfl, hv⟩
          · replace hv := hv.2 c
            refine gk_aload_n (pc := 129) (DX1_isFilledBy_1.at 8 rfl) 1 rfl rfl ?_
            obtain ⟨fs63, v63, q63, r63, hv⟩ := hv
            refine gk_get (pc := 130) (.ref v63) (DX1_isFilledBy_1.at 9 rfl) fX1_12_1 q63 r63 ?_
            refine gk_aload_n (pc := 133) (DX1_isFilledBy_1.at 10 rfl) 1 rfl rfl ?_
            obtain ⟨fs64, v64, q64, r64, hv⟩ := hv
            refine gk_get (pc := 134) (.ref v64) (DX1_isFilledBy_1.at 11 rfl) fX1_22_1 q64 r64 ?_
            obtain ⟨fs65, v65, q65, r65, hv⟩ := hv
            refine gk_get (pc := 137) (.ref v65) (DX1_isFilledBy_1.at 12 rfl) fX1_32_7 q65 r65 ?_
            obtain ⟨⟨fs66, q66⟩, hv⟩ := hv
            refine gk_vV (pc := 140) [.ref v65] [] (DX1_isFilledBy_1.at 13 rfl) cvX1_103 q66 rfl rfl (Nat.le_of_ble_eq_true rfl) (Nat.le_of_ble_eq_true rfl) (gk_Run.post (fun o h66 z => ?_) hv)
            obtain ⟨v66, rfl, hv⟩ := z
            refine gk_bipush (pc := 143) ((-5)) (DX1_isFilledBy_1.at 14 rfl) cb_m5 ?_
            refine gk_icmp_ne (pc := 145) 166 (DX1_isFilledBy_1.at 15 rfl) (by decide) (fun c => ?_) (fun c => ?_)
            · replace hv := hv.1 c
              refine gk_iconst (pc := 166) (nI 0) (DX1_isFilledBy_1.at 24 rfl) ci_0 ?_
              exact gk_ireturn (pc := 167) .boolean (DX1_isFilledBy_1.at 25 rfl) rfl rfl ⟨_, rfl, hv⟩
            · replace hv := hv.2 c
              refine gk_aload_n (pc := 148) (DX1_isFilledBy_1.at 16 rfl) 1 rfl rfl ?_
              obtain ⟨fs67, v67, q67, r67, hv⟩ := hv
              refine gk_get (pc := 149) (.ref v67) (DX1_isFilledBy_1.at 17 rfl) fX1_26_1 q67 r67 ?_
              refine gk_aload_n (pc := 152) (DX1_isFilledBy_1.at 18 rfl) 1 rfl rfl ?_
              obtain ⟨fs68, v68, q68, r68, hv⟩ := hv
              refine gk_get (pc := 153) (.ref v68) (DX1_isFilledBy_1.at 19 rfl) fX1_12_1 q68 r68 ?_
              obtain ⟨⟨fs69, q69⟩, hv⟩ := hv
              refine gk_vV (pc := 156) [.ref v68] [] (DX1_isFilledBy_1.at 20 rfl) cvX1_88 q69 rfl rfl (Nat.le_of_ble_eq_true rfl) (Nat.le_of_ble_eq_true rfl) (gk_Run.post (fun o h69 z => ?_) hv)
              obtain ⟨v69, rfl, hv⟩ := z
              refine gk_if_ne (pc := 159) 166 (DX1_isFilledBy_1.at 21 rfl) (by decide) (fun c => ?_) (fun c => ?_)
              · replace hv := hv.1 c
                refine gk_iconst (pc := 166) (nI 0) (DX1_isFilledBy_1.at 24 rfl) ci_0 ?_
                exact gk_ireturn (pc := 167) .boolean (DX1_isFilledBy_1.at 25 rfl) rfl rfl ⟨_, rfl, hv⟩
              · replace hv := hv.2 c
                refine gk_iconst (pc := 162) (nI 1) (DX1_isFilledBy_1.at 22 rfl) ci_1 ?_
                refine gk_goto (pc := 163) 167 (DX1_isFilledBy_1.at 23 rfl) (by decide) ?_
                exact gk_ireturn (pc := 167) .boolean (DX1_isFilledBy_1.at 25 rfl) rfl rfl ⟨_, rfl, hv⟩
        · replace hv := hv.2 c
          refine gk_aload_n (pc := 61) (DX1_isFilledBy_0.at 33 rfl) 1 rfl rfl ?_
          obtain ⟨fs70, v70, q70, r70, hv⟩ := hv
          refine gk_get (pc := 62) (.ref v70) (DX1_isFilledBy_0.at 34 rfl) fX1_18_1 q70 r70 ?_
          refine gk_iload_n (pc := 65) (DX1_isFilledBy_0.at 35 rfl) 3 rfl rfl ?_
          refine gk_bipush (pc := 66) (nI 100) (DX1_isFilledBy_0.at 36 rfl) cb_100 ?_
          refine gk_idiv (pc := 68) (DX1_isFilledBy_0.at 37 rfl) (by decide) ?_
          refine gk_bipush (pc := 69) (nI 10) (DX1_isFilledBy_0.at 38 rfl) cb_10 ?_
          refine gk_irem (pc := 71) (DX1_isFilledBy_0.at 39 rfl) (by decide) ?_
          obtain ⟨n71, f71, q71, r71, hv⟩ := hv
          refine gk_iald (pc := 72) (DX1_isFilledBy_0.at 40 rfl) q71 r71 ?_
          generalize f71 _ = v71 at hv ⊢
          refine gk_aload_n (pc := 73) (DX1_isFilledBy_0.at 41 rfl) 1 rfl rfl ?_
          obtain ⟨fs72, v72, q72, r72, hv⟩ := hv
          refine gk_get (pc := 74) (.ref v72) (DX1_isFilledBy_0.at 42 rfl) fX1_22_1 q72 r72 ?_
          obtain ⟨fs73, v73, q73, r73, hv⟩ := hv
          refine gk_get (pc := 77) (.ref v73) (DX1_isFilledBy_0.at 43 rfl) fX1_32_7 q73 r73 ?_
          obtain ⟨fs74, v74, q74, r74, hv⟩ := hv
          refine gk_get (pc := 80) (.ref v74) (DX1_isFilledBy_0.at 44 rfl) fX1_62_8 q74 r74 ?_
          refine gk_iload_n (pc := 83) (DX1_isFilledBy_0.at 45 rfl) 3 rfl rfl ?_
          refine gk_bipush (pc := 84) (nI 10) (DX1_isFilledBy_0.at 46 rfl) cb_10 ?_
          refine gk_irem (pc := 86) (DX1_isFilledBy_0.at 47 rfl) (by decide) ?_
          obtain ⟨n75, f75, q75, r75, hv⟩ := hv
          refine gk_iald (pc := 87) (DX1_isFilledBy_0.at 48 rfl) q75 r75 ?_
          generalize f75 _ = v75 at hv ⊢
          refine gk_icmp_ne (pc := 88) 95 (DX1_isFilledBy_0.at 49 rfl) (by decide) (fun c => ?_) (fun c => ?_)
          · replace hv := hv.1 c
            refine gk_iconst (pc := 95) (nI 0) (DX1_isFilledBy_0.at 52 rfl) ci_0 ?_
            refine gk_istore (pc := 96) [(4, .int (nI 0)), (0, .ref o), (1, .ref x1), (2, .int x2), (3, .int x3)] (DX1_isFilledBy_0.at 53 rfl) (Nat.le_of_ble_eq_true rfl) rfl ?_
            refine gk_aload_n (pc := 98) (DX1_isFilledBy_0.at 54 rfl) 1 rfl rfl ?_
            obtain ⟨fs76, v76, q76, r76, hv⟩ := hv
            refine gk_get (pc := 99) (.ref v76) (DX1_isFilledBy_0.at 55 rfl) fX1_12_1 q76 r76 ?_
            refine gk_aload_n (pc := 102) (DX1_isFilledBy_0.at 56 rfl) 2 rfl rfl ?_
            obtain ⟨⟨fs77, q77⟩, hv⟩ := hv
            refine gk_vV (pc := 103) [.ref x1] [] (DX1_isFilledBy_0.at 57 rfl) cvX1_51 q77 rfl rfl (Nat.le_of_ble_eq_true rfl) (Nat.le_of_ble_eq_true rfl) (gk_Run.post (fun o h77 z => ?_) hv)
            obtain ⟨rfl, hv⟩ := z
            refine gk_aload_n (pc := 106) (DX1_isFilledBy_0.at 58 rfl) 1 rfl rfl ?_
            obtain ⟨fs78, v78, q78, r78, hv⟩ := hv
            refine gk_get (pc := 107) (.ref v78) (DX1_isFilledBy_0.at 59 rfl) fX1_12_1 q78 r78 ?_
            refine gk_aload_n (pc := 110) (DX1_isFilledBy_1.at 0 rfl) 1 rfl rfl ?_
            obtain ⟨fs79, v79, q79, r79, hv⟩ := hv
            refine gk_get (pc := 111) (.ref v79) (DX1_isFilledBy_1.at 1 rfl) fX1_18_1 q79 r79 ?_
            refine gk_aload_n (pc := 114) (DX1_isFilledBy_1.at 2 rfl) 1 rfl rfl ?_
            obtain ⟨fs80, v80, q80, r80, hv⟩ := hv
            refine gk_get (pc := 115) (.ref v80) (DX1_isFilledBy_1.at 3 rfl) fX1_22_1 q80 r80 ?_
            obtain ⟨fs81, v81, q81, r81, hv⟩ := hv
            refine gk_get (pc := 118) (.ref v81) (DX1_isFilledBy_1.at 4 rfl) fX1_32_7 q81 r81 ?_
            obtain ⟨⟨fs82, q82⟩, hv⟩ := hv
            refine gk_vV (pc := 121) [.ref v79, .ref v81] [] (DX1_isFilledBy_1.at 5 rfl) cvX1_84 q82 rfl rfl (Nat.le_of_ble_eq_true rfl) (Nat.le_of_ble_eq_true rfl) (gk_Run.post (fun o h82 z => ?_) hv)
            obtain ⟨rfl, hv⟩ := z
            refine gk_iload (pc := 124) (DX1_isFilledBy_1.at 6 rfl) 0 rfl ?_
            refine gk_if_eq (pc := 126) 166 (DX1_isFilledBy_1.at 7 rfl) (by decide) (fun c => ?_) (fun c => ?_)
            · replace hv := hv.1 c
              refine gk_iconst (pc := 166) (nI 0) (DX1_isFilledBy_1.at 24 rfl) ci_0 ?_
              exact gk_ireturn (pc := 167) .boolean (DX1_isFilledBy_1.at 25 rfl) rfl rfl ⟨_, rfl, hv⟩
            · replace hv := hv.2 c
              refine gk_aload_n (pc := 129) (DX1_isFilledBy_1.at 8 rfl) 1 rfl rfl ?_
              obtain ⟨fs83, v83, q83, r83, hv⟩ := hv
              refine gk_get (pc := 130) (.ref v83) (DX1_isFilledBy_1.at 9 rfl) fX1_12_1 q83 r83 ?_
              refine gk_aload_n (pc := 133) (DX1_isFilledBy_1.at 10 rfl) 1 rfl rfl ?_
              obtain ⟨fs84, v84, q84, r84, hv⟩ := hv
              refine gk_get (pc := 134) (.ref v84) (DX1_isFilledBy_1.at 11 rfl) fX1_22_1 q84 r84 ?_
              obtain ⟨fs85, v85, q85, r85, hv⟩ := hv
              refine gk_get (pc := 137) (.ref v85) (DX1_isFilledBy_1.at 12 rfl) fX1_32_7 q85 r85 ?_
              obtain ⟨⟨fs86, q86⟩, hv⟩ := hv
              refine gk_vV (pc := 140) [.ref v85] [] (DX1_isFilledBy_1.at 13 rfl) cvX1_103 q86 rfl rfl (Nat.le_of_ble_eq_true rfl) (Nat.le_of_ble_eq_true rfl) (gk_Run.post (fun o h86 z => ?_) hv)
              obtain ⟨v86, rfl, hv⟩ := z
              refine gk_bipush (pc := 143) ((-5)) (DX1_isFilledBy_1.at 14 rfl) cb_m5 ?_
              refine gk_icmp_ne (pc := 145) 166 (DX1_isFilledBy_1.at 15 rfl) (by decide) (fun c => ?_) (fun c => ?_)
              · replace hv := hv.1 c
                refine gk_iconst (pc := 166) (nI 0) (DX1_isFilledBy_1.at 24 rfl) ci_0 ?_
                exact gk_ireturn (pc := 167) .boolean (DX1_isFilledBy_1.at 25 rfl) rfl rfl ⟨_, rfl, hv⟩
              · replace hv := hv.2 c
                refine gk_aload_n (pc := 148) (DX1_isFilledBy_1.at 16 rfl) 1 rfl rfl ?_
                obtain ⟨fs87, v87, q87, r87, hv⟩ := hv
                refine gk_get (pc := 149) (.ref v87) (DX1_isFilledBy_1.at 17 rfl) fX1_26_1 q87 r87 ?_
                refine gk_aload_n (pc := 152) (DX1_isFilledBy_1.at 18 rfl) 1 rfl rfl ?_
                obtain ⟨fs88, v88, q88, r88, hv⟩ := hv
                refine gk_get (pc := 153) (.ref v88) (DX1_isFilledBy_1.at 19 rfl) fX1_12_1 q88 r88 ?_
                obtain ⟨⟨fs89, q89⟩, hv⟩ := hv
                refine gk_vV (pc := 156) [.ref v88] [] (DX1_isFilledBy_1.at 20 rfl) cvX1_88 q89 rfl rfl (Nat.le_of_ble_eq_true rfl) (Nat.le_of_ble_eq_true rfl) (gk_Run.post (fun o h89 z => ?_) hv)
                obtain ⟨v89, rfl, hv⟩ := z
                refine gk_if_ne (pc := 159) 166 (DX1_isFilledBy_1.at 21 rfl) (by decide) (fun c => ?_) (fun c => ?_)
                · replace hv := hv.1 c
                  refine gk_iconst (pc := 166) (nI 0) (DX1_isFilledBy_1.at 24 rfl) ci_0 ?_
                  exact gk_ireturn (pc := 167) .boolean (DX1_isFilledBy_1.at 25 rfl) rfl rfl ⟨_, rfl, hv⟩
                · replace hv := hv.2 c
                  refine gk_iconst (pc := 162) (nI 1) (DX1_isFilledBy_1.at 22 rfl) ci_1 ?_
                  refine gk_goto (pc := 163) 167 (DX1_isFilledBy_1.at 23 rfl) (by decide) ?_
                  exact gk_ireturn (pc := 167) .boolean (DX1_isFilledBy_1.at 25 rfl) rfl rfl ⟨_, rfl, hv⟩
          · replace hv := hv.2 c
            refine gk_iconst (pc := 91) (nI 1) (DX1_isFilledBy_0.at 50 rfl) ci_1 ?_
            refine gk_goto (pc := 92) 96 (DX1_isFilledBy_0.at 51 rfl) (by decide) ?_
            refine gk_istore (pc := 96) [(4, .int (nI 1)), (0, .ref o), (1, .ref x1), (2, .int x2), (3, .int x3)] (DX1_isFilledBy_0.at 53 rfl) (Nat.le_of_ble_eq_true rfl) rfl ?_
            refine gk_aload_n (pc := 98) (DX1_isFilledBy_0.at 54 rfl) 1 rfl rfl ?_
            obtain ⟨fs90, v90, q90, r90, hv⟩ := hv
            refine gk_get (pc := 99) (.ref v90) (DX1_isFilledBy_0.at 55 rfl) fX1_12_1 q90 r90 ?_
            refine gk_aload_n (pc := 102) (DX1_isFilledBy_0.at 56 rfl) 2 rfl rfl ?_
            obtain ⟨⟨fs91, q91⟩, hv⟩ := hv
            refine gk_vV (pc := 103) [.ref x1] [] (DX1_isFilledBy_0.at 57 rfl) cvX1_51 q91 rfl rfl (Nat.le_of_ble_eq_true rfl) (Nat.le_of_ble_eq_true rfl) (gk_Run.post (fun o h91 z => ?_) hv)
            obtain ⟨rfl, hv⟩ := z
            refine gk_aload_n (pc := 106) (DX1_isFilledBy_0.at 58 rfl) 1 rfl rfl ?_
            obtain ⟨fs92, v92, q92, r92, hv⟩ := hv
            refine gk_get (pc := 107) (.ref v92) (DX1_isFilledBy_0.at 59 rfl) fX1_12_1 q92 r92 ?_
            refine gk_aload_n (pc := 110) (DX1_isFilledBy_1.at 0 rfl) 1 rfl rfl ?_
            obtain ⟨fs93, v93, q93, r93, hv⟩ := hv
            refine gk_get (pc := 111) (.ref v93) (DX1_isFilledBy_1.at 1 rfl) fX1_18_1 q93 r93 ?_
            refine gk_aload_n (pc := 114) (DX1_isFilledBy_1.at 2 rfl) 1 rfl rfl ?_
            obtain ⟨fs94, v94, q94, r94, hv⟩ := hv
            refine gk_get (pc := 115) (.ref v94) (DX1_isFilledBy_1.at 3 rfl) fX1_22_1 q94 r94 ?_
            obtain ⟨fs95, v95, q95, r95, hv⟩ := hv
            refine gk_get (pc := 118) (.ref v95) (DX1_isFilledBy_1.at 4 rfl) fX1_32_7 q95 r95 ?_
            obtain ⟨⟨fs96, q96⟩, hv⟩ := hv
            refine gk_vV (pc := 121) [.ref v93, .ref v95] [] (DX1_isFilledBy_1.at 5 rfl) cvX1_84 q96 rfl rfl (Nat.le_of_ble_eq_true rfl) (Nat.le_of_ble_eq_true rfl) (gk_Run.post (fun o h96 z => ?_) hv)
            obtain ⟨rfl, hv⟩ := z
            refine gk_iload (pc := 124) (DX1_isFilledBy_1.at 6 rfl) 0 rfl ?_
            refine gk_if_eq (pc := 126) 166 (DX1_isFilledBy_1.at 7 rfl) (by decide) (fun c => ?_) (fun c => ?_)
            · replace hv := hv.1 c
              refine gk_iconst (pc := 166) (nI 0) (DX1_isFilledBy_1.at 24 rfl) ci_0 ?_
              exact gk_ireturn (pc := 167) .boolean (DX1_isFilledBy_1.at 25 rfl) rfl rfl ⟨_, rfl, hv⟩
            · replace hv := hv.2 c
              refine gk_aload_n (pc := 129) (DX1_isFilledBy_1.at 8 rfl) 1 rfl rfl ?_
              obtain ⟨fs97, v97, q97, r97, hv⟩ := hv
              refine gk_get (pc := 130) (.ref v97) (DX1_isFilledBy_1.at 9 rfl) fX1_12_1 q97 r97 ?_
              refine gk_aload_n (pc := 133) (DX1_isFilledBy_1.at 10 rfl) 1 rfl rfl ?_
              obtain ⟨fs98, v98, q98, r98, hv⟩ := hv
              refine gk_get (pc := 134) (.ref v98) (DX1_isFilledBy_1.at 11 rfl) fX1_22_1 q98 r98 ?_
              obtain ⟨fs99, v99, q99, r99, hv⟩ := hv
              refine gk_get (pc := 137) (.ref v99) (DX1_isFilledBy_1.at 12 rfl) fX1_32_7 q99 r99 ?_
              obtain ⟨⟨fs100, q100⟩, hv⟩ := hv
              refine gk_vV (pc := 140) [.ref v99] [] (DX1_isFilledBy_1.at 13 rfl) cvX1_103 q100 rfl rfl (Nat.le_of_ble_eq_true rfl) (Nat.le_of_ble_eq_true rfl) (gk_Run.post (fun o h100 z => ?_) hv)
              obtain ⟨v100, rfl, hv⟩ := z
              refine gk_bipush (pc := 143) ((-5)) (DX1_isFilledBy_1.at 14 rfl) cb_m5 ?_
              refine gk_icmp_ne (pc := 145) 166 (DX1_isFilledBy_1.at 15 rfl) (by decide) (fun c => ?_) (fun c => ?_)
              · replace hv := hv.1 c
                refine gk_iconst (pc := 166) (nI 0) (DX1_isFilledBy_1.at 24 rfl) ci_0 ?_
                exact gk_ireturn (pc := 167) .boolean (DX1_isFilledBy_1.at 25 rfl) rfl rfl ⟨_, rfl, hv⟩
              · replace hv := hv.2 c
                refine gk_aload_n (pc := 148) (DX1_isFilledBy_1.at 16 rfl) 1 rfl rfl ?_
                obtain ⟨fs101, v101, q101, r101, hv⟩ := hv
                refine gk_get (pc := 149) (.ref v101) (DX1_isFilledBy_1.at 17 rfl) fX1_26_1 q101 r101 ?_
                refine gk_aload_n (pc := 152) (DX1_isFilledBy_1.at 18 rfl) 1 rfl rfl ?_
                obtain ⟨fs102, v102, q102, r102, hv⟩ := hv
                refine gk_get (pc := 153) (.ref v102) (DX1_isFilledBy_1.at 19 rfl) fX1_12_1 q102 r102 ?_
                obtain ⟨⟨fs103, q103⟩, hv⟩ := hv
                refine gk_vV (pc := 156) [.ref v102] [] (DX1_isFilledBy_1.at 20 rfl) cvX1_88 q103 rfl rfl (Nat.le_of_ble_eq_true rfl) (Nat.le_of_ble_eq_true rfl) (gk_Run.post (fun o h103 z => ?_) hv)
                obtain ⟨v103, rfl, hv⟩ := z
                refine gk_if_ne (pc := 159) 166 (DX1_isFilledBy_1.at 21 rfl) (by decide) (fun c => ?_) (fun c => ?_)
                · replace hv := hv.1 c
                  refine gk_iconst (pc := 166) (nI 0) (DX1_isFilledBy_1.at 24 rfl) ci_0 ?_
                  exact gk_ireturn (pc := 167) .boolean (DX1_isFilledBy_1.at 25 rfl) rfl rfl ⟨_, rfl, hv⟩
                · replace hv := hv.2 c
                  refine gk_iconst (pc := 162) (nI 1) (DX1_isFilledBy_1.at 22 rfl) ci_1 ?_
                  refine gk_goto (pc := 163) 167 (DX1_isFilledBy_1.at 23 rfl) (by decide) ?_
                  exact gk_ireturn (pc := 167) .boolean (DX1_isFilledBy_1.at 25 rfl) rfl rfl ⟨_, rfl, hv⟩
    · replace hv := hv.2 c
      refine gk_iconst (pc := 27) (nI 0) (DX1_isFilledBy_0.at 13 rfl) ci_0 ?_
      exact gk_ireturn (pc := 28) .boolean (DX1_isFilledBy_0.at 14 rfl) rfl rfl ⟨_, rfl, hv⟩
abbrev pX1_spread_5 (E : gk_E) (dd : Nat) (o : Nat) (x1 : Int32) (x2 : Int32) (x3 : Int32) (x4 : Int32) (h : gk_H) (K : Int32 → gk_H → Prop) : Prop := gk_G E mX1_spread (dd, 0, 0) 5 [(0, .ref o), (1, .int x1), (2, .int x2), (3, .int x3), (4, .int x4)] [] h (fun o h1 => ∃ v, o = some (.int v) ∧ K v h1)
set_option maxHeartbeats 4000000 in
theorem vX1_spread_0 {E : gk_E} {dd : Nat} {o : Nat} {x1 : Int32} {x2 : Int32}  {h : gk_H} {K : Int32 → gk_H → Prop} (hv : pX1_spread_5 E dd o x1 x2 x1 (nI 0) h K) : RnI E mX1_spread (dd, 0, 0) [.ref o, .int x1, .int x2] h K := by
  show gk_G E mX1_spread (dd, 0, 0) 0 [(0, .ref o), (1, .int x1), (2, .int x2)] [] h (fun o h1 => ∃ v, o = some (.int v) ∧ K v h1)
  refine gk_iload_n (pc := 0) (DX1_spread_0.at 0 rfl) 1 rfl rfl ?_
  refine gk_istore_n (pc := 1) [(3, .int x1), (0, .ref o), (1, .int x1), (2, .int x2)] (DX1_spread_0.at 1 rfl) rfl (Nat.le_of_ble_eq_true rfl) rfl ?_
  refine gk_iconst (pc := 2) (nI 0) (DX1_spread_0.at 2 rfl) ci_0 ?_
  refine gk_istore (pc := 3) [(4, .int (nI 0)), (3, .int x1), (0, .ref o), (1, .int x1), (2, .int x2)] (DX1_spread_0.at 3 rfl) (Nat.le_of_ble_eq_true rfl) rfl ?_
  exact gk_pick (pc := 5) [(0, .ref o), (1, .int x1), (2, .int x2), (3, .int x1), (4, .int (nI 0))] [2, 3, 4, 1, 0] rfl hv
set_option maxHeartbeats 4000000 in
theorem vX1_spread_5 {E : gk_E} {dd : Nat} {o : Nat} {x1 : Int32} {x2 : Int32} {x3 : Int32} {x4 : Int32}  {h : gk_H} {K : Int32 → gk_H → Prop} (hv : (x2 ≤ x4 → (¬ x3 = 0 → K (nI 0) h) ∧ (x3 = 0 → K (nI 1) h)) ∧ (¬ x2 ≤ x4 → LdR h o 1 4 fun v1 => AsI h v1 x4 (x3 - x3 / (nI 10) * (nI 10)) fun h2 => LdR h2 o 1 4 fun v3 => AlI h2 v3 x4 fun v4 => (v4 < (nI 1) → K (nI 0) h2) ∧ (¬ v4 < (nI 1) → LdR h2 o 1 4 fun v5 => AlI h2 v5 x4 fun v6 => LdR h2 o 1 0 fun v7 => LdR h2 v7 7 0 fun v8 => LdI h2 v8 8 0 fun v9 => (v6 < v9 → pX1_spread_5 E dd o x1 x2 (x3 / (nI 10)) (x4 + nI 1) h2 K) ∧ (¬ v6 < v9 → K (nI 0) h2)))) : pX1_spread_5 E dd o x1 x2 x3 x4 h K := by
  show gk_G E mX1_spread (dd, 0, 0) 5 [(0, .ref o), (1, .int x1), (2, .int x2), (3, .int x3), (4, .int x4)] [] h (fun o h1 => ∃ v, o = some (.int v) ∧ K v h1)
  refine gk_iload (pc := 5) (DX1_spread_0.at 4 rfl) 4 rfl ?_
  refine gk_iload_n (pc := 7) (DX1_spread_0.at 5 rfl) 2 rfl rfl ?_
  refine gk_icmp_ge (pc := 8) 66 (DX1_spread_0.at 6 rfl) (by decide) (fun c => ?_) (fun c => ?_)
  · replace hv := hv.1 c
    refine gk_iload_n (pc := 66) (DX1_spread_0.at 37 rfl) 3 rfl rfl ?_
    refine gk_if_ne (pc := 67) 74 (DX1_spread_0.at 38 rfl) (by decide) (fun c => ?_) (fun c => ?_)
    · replace hv := hv.1 c
      refine gk_iconst (pc := 74) (nI 0) (DX1_spread_0.at 41 rfl) ci_0 ?_
      exact gk_ireturn (pc := 75) .boolean (DX1_spread_0.at 42 rfl) rfl rfl ⟨_, rfl, hv⟩
    · replace hv := hv.2 c
      refine gk_iconst (pc := 70) (nI 1) (DX1_spread_0.at 39 rfl) ci_1 ?_
      refine gk_goto (pc := 71) 75 (DX1_spread_0.at 40 rfl) (by decide) ?_
      exact gk_ireturn (pc := 75) .boolean (DX1_spread_0.at 42 rfl) rfl rfl ⟨_, rfl, hv⟩
  · replace hv := hv.2 c
    refine gk_aload_n (pc := 11) (DX1_spread_0.at 7 rfl) 0 rfl rfl ?_
    obtain ⟨fs1, v1, q1, r1, hv⟩ := hv
    refine gk_get (pc := 12) (.ref v1) (DX1_spread_0.at 8 rfl) fX1_18_1 q1 r1 ?_
    refine gk_iload (pc := 15) (DX1_spread_0.at 9 rfl) 4 rfl ?_
    refine gk_iload_n (pc := 17) (DX1_spread_0.at 10 rfl) 3 rfl rfl ?_
    refine gk_bipush (pc := 18) (nI 10) (DX1_spread_0.at 11 rfl) cb_10 ?_
    refine gk_irem (pc := 20) (DX1_spread_0.at 12 rfl) (by decide) ?_
    obtain ⟨n2, f2, q2, r2, hv⟩ := hv
    refine gk_iast (pc := 21) (DX1_spread_0.at 13 rfl) q2 r2 ?_
    generalize h.set _ _ = h2 at hv ⊢
    refine gk_aload_n (pc := 22) (DX1_spread_0.at 14 rfl) 0 rfl rfl ?_
    obtain ⟨fs3, v3, q3, r3, hv⟩ := hv
    refine gk_get (pc := 23) (.ref v3) (DX1_spread_0.at 15 rfl) fX1_18_1 q3 r3 ?_
    refine gk_iload (pc := 26) (DX1_spread_0.at 16 rfl) 4 rfl ?_
    obtain ⟨n4, f4, q4, r4, hv⟩ := hv
    refine gk_iald (pc := 28) (DX1_spread_0.at 17 rfl) q4 r4 ?_
    generalize f4 _ = v4 at hv ⊢
    refine gk_iconst (pc := 29) (nI 1) (DX1_spread_0.at 18 rfl) ci_1 ?_
    refine gk_icmp_lt (pc := 30) 53 (DX1_spread_0.at 19 rfl) (by decide) (fun c => ?_) (fun c => ?_)
    · replace hv := hv.1 c
      refine gk_iconst (pc := 53) (nI 0) (DX1_spread_0.at 29 rfl) ci_0 ?_
      exact gk_ireturn (pc := 54) .boolean (DX1_spread_0.at 30 rfl) rfl rfl ⟨_, rfl, hv⟩
    · replace hv := hv.2 c
      refine gk_aload_n (pc := 33) (DX1_spread_0.at 20 rfl) 0 rfl rfl ?_
      obtain ⟨fs5, v5, q5, r5, hv⟩ := hv
      refine gk_get (pc := 34) (.ref v5) (DX1_spread_0.at 21 rfl) fX1_18_1 q5 r5 ?_
      refine gk_iload (pc := 37) (DX1_spread_0.at 22 rfl) 4 rfl ?_
      obtain ⟨n6, f6, q6, r6, hv⟩ := hv
      refine gk_iald (pc := 39) (DX1_spread_0.at 23 rfl) q6 r6 ?_
      generalize f6 _ = v6 at hv ⊢
      refine gk_aload_n (pc := 40) (DX1_spread_0.at 24 rfl) 0 rfl rfl ?_
      obtain ⟨fs7, v7, q7, r7, hv⟩ := hv
      refine gk_get (pc := 41) (.ref v7) (DX1_spread_0.at 25 rfl) fX1_22_1 q7 r7 ?_
      obtain ⟨fs8, v8, q8, r8, hv⟩ := hv
      refine gk_get (pc := 44) (.ref v8) (DX1_spread_0.at 26 rfl) fX1_32_7 q8 r8 ?_
      obtain ⟨fs9, v9, q9, r9, hv⟩ := hv
      refine gk_get (pc := 47) (.int v9) (DX1_spread_0.at 27 rfl) fX1_45_8 q9 r9 ?_
      refine gk_icmp_lt (pc := 50) 55 (DX1_spread_0.at 28 rfl) (by decide) (fun c => ?_) (fun c => ?_)
      · replace hv := hv.1 c
        refine gk_iload_n (pc := 55) (DX1_spread_0.at 31 rfl) 3 rfl rfl ?_
        refine gk_bipush (pc := 56) (nI 10) (DX1_spread_0.at 32 rfl) cb_10 ?_
        refine gk_idiv (pc := 58) (DX1_spread_0.at 33 rfl) (by decide) ?_
        refine gk_istore_n (pc := 59) [(3, .int (x3 / (nI 10))), (0, .ref o), (1, .int x1), (2, .int x2), (4, .int x4)] (DX1_spread_0.at 34 rfl) rfl (Nat.le_of_ble_eq_true rfl) rfl ?_
        refine gk_iinc (pc := 60) (x4 + nI 1) [(4, .int (x4 + nI 1)), (3, .int (x3 / (nI 10))), (0, .ref o), (1, .int x1), (2, .int x2)] 4 (DX1_spread_0.at 35 rfl) rfl (by rw [ci_1]) (Nat.le_of_ble_eq_true rfl) rfl ?_
        refine gk_goto (pc := 63) 5 (DX1_spread_0.at 36 rfl) (by decide) ?_
        exact gk_pick (pc := 5) [(0, .ref o), (1, .int x1), (2, .int x2), (3, .int (x3 / (nI 10))), (4, .int (x4 + nI 1))] [2, 3, 4, 1, 0] rfl hv
      · replace hv := hv.2 c
        refine gk_iconst (pc := 53) (nI 0) (DX1_spread_0.at 29 rfl) ci_0 ?_
        exact gk_ireturn (pc := 54) .boolean (DX1_spread_0.at 30 rfl) rfl rfl ⟨_, rfl, hv⟩
abbrev pX1_way_78 (E : gk_E) (dd : Nat) (o : Nat) (x1 : Nat) (x2 : Int32) (x3 : Int32) (x4 : Int32) (x5 : Int32) (x6 : Int32) (h : gk_H) (K : Int32 → gk_H → Prop) : Prop := gk_G E mX1_way (dd + 1, 0, 0) 78 [(0, .ref o), (1, .ref x1), (2, .int x2), (3, .int x3), (4, .int x4), (5, .int x5), (6, .int x6)] [] h (fun o h1 => ∃ v, o = some (.int v) ∧ K v h1)
set_option maxHeartbeats 4000000 in
theorem vX1_way_0 {E : gk_E} {dd : Nat} {o : Nat} {x1 : Nat} {x2 : Int32} {x3 : Int32}  {h : gk_H} {K : Int32 → gk_H → Prop} (hv : LdR h o 1 2 fun v1 => (∃ fs, h[v1]? = some (.inr (3, fs))) ∧ RnV E mX3_become (dd, 0, 0) [.ref v1, .ref x1] h (fun h2 => LdR h2 o 1 3 fun v3 => (∃ fs, h2[v3]? = some (.inr (6, fs))) ∧ RnV E mX6_spanAll (dd, 0, 0) [.ref v3] h2 (fun h4 => LdR h4 o 1 3 fun v5 => (∃ fs, h4[v5]? = some (.inr (6, fs))) ∧ RnV E mX10_hold (dd, 0, 0) [.ref v5, .int (x2 / (nI 1000)), .int ((x2 / (nI 10)) - (x2 / (nI 10)) / (nI 10) * (nI 10))] h4 (fun h6 => LdR h6 o 1 3 fun v7 => LdR h6 o 1 0 fun v8 => LdR h6 v8 7 0 fun v9 => LdR h6 v9 8 1 fun v10 => AlI h6 v10 (x2 - x2 / (nI 10) * (nI 10)) fun v11 => (∃ fs, h6[v7]? = some (.inr (6, fs))) ∧ RnV E mX10_hold (dd, 0, 0) [.ref v7, .int ((x2 / (nI 100)) - (x2 / (nI 100)) / (nI 10) * (nI 10)), .int v11] h6 (fun h12 => LdR h12 o 1 3 fun v13 => (∃ fs, h12[v13]? = some (.inr (6, fs))) ∧ RnI E mX10_first (dd, 0, 0) [.ref v13] h12 (fun v14 h14 => pX1_way_78 E dd o x1 x2 x3 (nI 0) v14 (nI 0) h14 K)))))) : RnI E mX1_way (dd + 1, 0, 0) [.ref o, .ref x1, .int x2, .int x3] h K := by
  show gk_G E mX1_way (dd + 1, 0, 0) 0 [(0, .ref o), (1, .ref x1), (2, .int x2), (3, .int x3)] [] h (fun o h1 => ∃ v, o = some (.int v) ∧ K v h1)
  refine gk_aload_n (pc := 0) (DX1_way_0.at 0 rfl) 0 rfl rfl ?_
  obtain ⟨fs1, v1, q1, r1, hv⟩ := hv
  refine gk_get (pc := 1) (.ref v1) (DX1_way_0.at 1 rfl) fX1_12_1 q1 r1 ?_
  refine gk_aload_n (pc := 4) (DX1_way_0.at 2 rfl) 1 rfl rfl ?_
  obtain ⟨⟨fs2, q2⟩, hv⟩ := hv
  refine gk_vV (pc := 5) [.ref x1] [] (DX1_way_0.at 3 rfl) cvX1_51 q2 rfl rfl (Nat.le_of_ble_eq_true rfl) (Nat.le_of_ble_eq_true rfl) (gk_Run.post (fun o h2 z => ?_) hv)
  obtain ⟨rfl, hv⟩ := z
  refine gk_aload_n (pc := 8) (DX1_way_0.at 4 rfl) 0 rfl rfl ?_
  obtain ⟨fs3, v3, q3, r3, hv⟩ := hv
  refine gk_get (pc := 9) (.ref v3) (DX1_way_0.at 5 rfl) fX1_41_1 q3 r3 ?_
  obtain ⟨⟨fs4, q4⟩, hv⟩ := hv
  refine gk_vV (pc := 12) [] [] (DX1_way_0.at 6 rfl) cvX1_55 q4 rfl rfl (Nat.le_of_ble_eq_true rfl) (Nat.le_of_ble_eq_true rfl) (gk_Run.post (fun o h4 z => ?_) hv)
  obtain ⟨rfl, hv⟩ := z
  refine gk_aload_n (pc := 15) (DX1_way_0.at 7 rfl) 0 rfl rfl ?_
  obtain ⟨fs5, v5, q5, r5, hv⟩ := hv
  refine gk_get (pc := 16) (.ref v5) (DX1_way_0.at 8 rfl) fX1_41_1 q5 r5 ?_
  refine gk_iload_n (pc := 19) (DX1_way_0.at 9 rfl) 2 rfl rfl ?_
  refine gk_sipush (pc := 20) (nI 1000) (DX1_way_0.at 10 rfl) cs_1000 ?_
  refine gk_idiv (pc := 23) (DX1_way_0.at 11 rfl) (by decide) ?_
  refine gk_iload_n (pc := 24) (DX1_way_0.at 12 rfl) 2 rfl rfl ?_
  refine gk_bipush (pc := 25) (nI 10) (DX1_way_0.at 13 rfl) cb_10 ?_
  refine gk_idiv (pc := 27) (DX1_way_0.at 14 rfl) (by decide) ?_
  refine gk_bipush (pc := 28) (nI 10) (DX1_way_0.at 15 rfl) cb_10 ?_
  refine gk_irem (pc := 30) (DX1_way_0.at 16 rfl) (by decide) ?_
  obtain ⟨⟨fs6, q6⟩, hv⟩ := hv
  refine gk_vU (pc := 31) [.int (x2 / (nI 1000)), .int ((x2 / (nI 10)) - (x2 / (nI 10)) / (nI 10) * (nI 10))] [] (DX1_way_0.at 17 rfl) cuX1_58_6 q6 rfl rfl (Nat.le_of_ble_eq_true rfl) (Nat.le_of_ble_eq_true rfl) (gk_Run.post (fun o h6 z => ?_) hv)
  obtain ⟨rfl, hv⟩ := z
  refine gk_aload_n (pc := 34) (DX1_way_0.at 18 rfl) 0 rfl rfl ?_
  obtain ⟨fs7, v7, q7, r7, hv⟩ := hv
  refine gk_get (pc := 35) (.ref v7) (DX1_way_0.at 19 rfl) fX1_41_1 q7 r7 ?_
  refine gk_iload_n (pc := 38) (DX1_way_0.at 20 rfl) 2 rfl rfl ?_
  refine gk_bipush (pc := 39) (nI 100) (DX1_way_0.at 21 rfl) cb_100 ?_
  refine gk_idiv (pc := 41) (DX1_way_0.at 22 rfl) (by decide) ?_
  refine gk_bipush (pc := 42) (nI 10) (DX1_way_0.at 23 rfl) cb_10 ?_
  refine gk_irem (pc := 44) (DX1_way_0.at 24 rfl) (by decide) ?_
  refine gk_aload_n (pc := 45) (DX1_way_0.at 25 rfl) 0 rfl rfl ?_
  obtain ⟨fs8, v8, q8, r8, hv⟩ := hv
  refine gk_get (pc := 46) (.ref v8) (DX1_way_0.at 26 rfl) fX1_22_1 q8 r8 ?_
  obtain ⟨fs9, v9, q9, r9, hv⟩ := hv
  refine gk_get (pc := 49) (.ref v9) (DX1_way_0.at 27 rfl) fX1_32_7 q9 r9 ?_
  obtain ⟨fs10, v10, q10, r10, hv⟩ := hv
  refine gk_get (pc := 52) (.ref v10) (DX1_way_0.at 28 rfl) fX1_62_8 q10 r10 ?_
  refine gk_iload_n (pc := 55) (DX1_way_0.at 29 rfl) 2 rfl rfl ?_
  refine gk_bipush (pc := 56) (nI 10) (DX1_way_0.at 30 rfl) cb_10 ?_
  refine gk_irem (pc := 58) (DX1_way_0.at 31 rfl) (by decide) ?_
  obtain ⟨n11, f11, q11, r11, hv⟩ := hv
  refine gk_iald (pc := 59) (DX1_way_0.at 32 rfl) q11 r11 ?_
  generalize f11 _ = v11 at hv ⊢
  obtain ⟨⟨fs12, q12⟩, hv⟩ := hv
  refine gk_vU (pc := 60) [.int ((x2 / (nI 100)) - (x2 / (nI 100)) / (nI 10) * (nI 10)), .int v11] [] (DX1_way_0.at 33 rfl) cuX1_58_6 q12 rfl rfl (Nat.le_of_ble_eq_true rfl) (Nat.le_of_ble_eq_true rfl) (gk_Run.post (fun o h12 z => ?_) hv)
  obtain ⟨rfl, hv⟩ := z
  refine gk_iconst (pc := 63) (nI 0) (DX1_way_0.at 34 rfl) ci_0 ?_
  refine gk_istore (pc := 64) [(4, .int (nI 0)), (0, .ref o), (1, .ref x1), (2, .int x2), (3, .int x3)] (DX1_way_0.at 35 rfl) (Nat.le_of_ble_eq_true rfl) rfl ?_
  refine gk_aload_n (pc := 66) (DX1_way_0.at 36 rfl) 1 rfl rfl ?_
  obtain ⟨fs13, v13, q13, r13, hv⟩ := hv
  refine gk_get (pc := 67) (.ref v13) (DX1_way_0.at 37 rfl) fX1_41_1 q13 r13 ?_
  obtain ⟨⟨fs14, q14⟩, hv⟩ := hv
  refine gk_vU (pc := 70) [] [] (DX1_way_0.at 38 rfl) cuX1_65_6 q14 rfl rfl (Nat.le_of_ble_eq_true rfl) (Nat.le_of_ble_eq_true rfl) (gk_Run.post (fun o h14 z => ?_) hv)
  obtain ⟨v14, rfl, hv⟩ := z
  refine gk_istore (pc := 73) [(5, .int v14), (4, .int (nI 0)), (0, .ref o), (1, .ref x1), (2, .int x2), (3, .int x3)] (DX1_way_0.at 39 rfl) (Nat.le_of_ble_eq_true rfl) rfl ?_
  refine gk_iconst (pc := 75) (nI 0) (DX1_way_0.at 40 rfl) ci_0 ?_
  refine gk_istore (pc := 76) [(6, .int (nI 0)), (5, .int v14), (4, .int (nI 0)), (0, .ref o), (1, .ref x1), (2, .int x2), (3, .int x3)] (DX1_way_0.at 41 rfl) (Nat.le_of_ble_eq_true rfl) rfl ?_
  exact gk_pick (pc := 78) [(0, .ref o), (1, .ref x1), (2, .int x2), (3, .int x3), (4, .int (nI 0)), (5, .int v14), (6, .int (nI 0))] [3, 4, 5, 6, 2, 1, 0] rfl hv
set_option maxHeartbeats 4000000 in
theorem vX1_way_78 {E : gk_E} {dd : Nat} {o : Nat} {x1 : Nat} {x2 : Int32} {x3 : Int32} {x4 : Int32} {x5 : Int32} {x6 : Int32}  {h : gk_H} {K : Int32 → gk_H → Prop} (hv : ((nI 1000000) ≤ x6 → (¬ x3 = ((-1)) → K ((-1)) h) ∧ (x3 = ((-1)) → K x4 h)) ∧ (¬ (nI 1000000) ≤ x6 → (x5 = 0 → (¬ x3 = ((-1)) → K ((-1)) h) ∧ (x3 = ((-1)) → K x4 h)) ∧ (¬ x5 = 0 → LdR h o 1 3 fun v1 => LdR h v1 6 1 fun v2 => (∃ fs, h[o]? = some (.inr (1, fs))) ∧ RnI E mX1_isAllowed (dd, 0, 0) [.ref o, .ref v2] h (fun v3 h3 => (v3 = 0 → LdR h3 o 1 3 fun v4 => (∃ fs, h3[v4]? = some (.inr (6, fs))) ∧ RnI E mX10_next (dd, 0, 0) [.ref v4] h3 (fun v5 h5 => pX1_way_78 E dd o x1 x2 x3 x4 v5 (x6 + nI 1) h5 K)) ∧ (¬ v3 = 0 → (¬ x4 = x3 → LdR h3 o 1 3 fun v6 => (∃ fs, h3[v6]? = some (.inr (6, fs))) ∧ RnI E mX10_next (dd, 0, 0) [.ref v6] h3 (fun v7 h7 => pX1_way_78 E dd o x1 x2 x3 (x4 + nI 1) v7 (x6 + nI 1) h7 K)) ∧ (x4 = x3 → LdR h3 o 1 3 fun v8 => (∃ fs, h3[v8]? = some (.inr (6, fs))) ∧ RnI E mX10_digits (dd, 0, 0) [.ref v8, .int (nI 0)] h3 (fun v9 h9 => K v9 h9))))))) : pX1_way_78 E dd o x1 x2 x3 x4 x5 x6 h K := by
  show gk_G E mX1_way (dd + 1, 0, 0) 78 [(0, .ref o), (1, .ref x1), (2, .int x2), (3, .int x3), (4, .int x4), (5, .int x5), (6, .int x6)] [] h (fun o h1 => ∃ v, o = some (.int v) ∧ K v h1)
  refine gk_iload (pc := 78) (DX1_way_0.at 42 rfl) 6 rfl ?_
  refine gk_ldc (pc := 80) (nI 1000000) (DX1_way_0.at 43 rfl) kcX1_69 ?_
  refine gk_icmp_ge (pc := 82) 137 (DX1_way_0.at 44 rfl) (by decide) (fun c => ?_) (fun c => ?_)
  · replace hv := hv.1 c
    refine gk_iload_n (pc := 137) (DX1_way_1.at 8 rfl) 3 rfl rfl ?_
    refine gk_iconst (pc := 138) ((-1)) (DX1_way_1.at 9 rfl) ci_m1 ?_
    refine gk_icmp_ne (pc := 139) 147 (DX1_way_1.at 10 rfl) (by decide) (fun c => ?_) (fun c => ?_)
    · replace hv := hv.1 c
      refine gk_iconst (pc := 147) ((-1)) (DX1_way_1.at 13 rfl) ci_m1 ?_
      exact gk_ireturn (pc := 148) .int (DX1_way_1.at 14 rfl) rfl rfl ⟨_, rfl, hv⟩
    · replace hv := hv.2 c
      refine gk_iload (pc := 142) (DX1_way_1.at 11 rfl) 4 rfl ?_
      refine gk_goto (pc := 144) 148 (DX1_way_1.at 12 rfl) (by decide) ?_
      exact gk_ireturn (pc := 148) .int (DX1_way_1.at 14 rfl) rfl rfl ⟨_, rfl, hv⟩
  · replace hv := hv.2 c
    refine gk_iload (pc := 85) (DX1_way_0.at 45 rfl) 5 rfl ?_
    refine gk_if_eq (pc := 87) 137 (DX1_way_0.at 46 rfl) (by decide) (fun c => ?_) (fun c => ?_)
    · replace hv := hv.1 c
      refine gk_iload_n (pc := 137) (DX1_way_1.at 8 rfl) 3 rfl rfl ?_
      refine gk_iconst (pc := 138) ((-1)) (DX1_way_1.at 9 rfl) ci_m1 ?_
      refine gk_icmp_ne (pc := 139) 147 (DX1_way_1.at 10 rfl) (by decide) (fun c => ?_) (fun c => ?_)
      · replace hv := hv.1 c
        refine gk_iconst (pc := 147) ((-1)) (DX1_way_1.at 13 rfl) ci_m1 ?_
        exact gk_ireturn (pc := 148) .int (DX1_way_1.at 14 rfl) rfl rfl ⟨_, rfl, hv⟩
      · replace hv := hv.2 c
        refine gk_iload (pc := 142) (DX1_way_1.at 11 rfl) 4 rfl ?_
        refine gk_goto (pc := 144) 148 (DX1_way_1.at 12 rfl) (by decide) ?_
        exact gk_ireturn (pc := 148) .int (DX1_way_1.at 14 rfl) rfl rfl ⟨_, rfl, hv⟩
    · replace hv := hv.2 c
      refine gk_aload_n (pc := 90) (DX1_way_0.at 47 rfl) 0 rfl rfl ?_
      refine gk_aload_n (pc := 91) (DX1_way_0.at 48 rfl) 0 rfl rfl ?_
      obtain ⟨fs1, v1, q1, r1, hv⟩ := hv
      refine gk_get (pc := 92) (.ref v1) (DX1_way_0.at 49 rfl) fX1_41_1 q1 r1 ?_
      obtain ⟨fs2, v2, q2, r2, hv⟩ := hv
      refine gk_get (pc := 95) (.ref v2) (DX1_way_0.at 50 rfl) fX1_70_6 q2 r2 ?_
      obtain ⟨⟨fs3, q3⟩, hv⟩ := hv
      refine gk_vV (pc := 98) [.ref v2] [] (DX1_way_0.at 51 rfl) cvX1_73 q3 rfl rfl (Nat.le_of_ble_eq_true rfl) (Nat.le_of_ble_eq_true rfl) (gk_Run.post (fun o h3 z => ?_) hv)
      obtain ⟨v3, rfl, hv⟩ := z
      refine gk_if_eq (pc := 101) 122 (DX1_way_0.at 52 rfl) (by decide) (fun c => ?_) (fun c => ?_)
      · replace hv := hv.1 c
        refine gk_aload_n (pc := 122) (DX1_way_1.at 2 rfl) 0 rfl rfl ?_
        obtain ⟨fs4, v4, q4, r4, hv⟩ := hv
        refine gk_get (pc := 123) (.ref v4) (DX1_way_1.at 3 rfl) fX1_41_1 q4 r4 ?_
        obtain ⟨⟨fs5, q5⟩, hv⟩ := hv
        refine gk_vU (pc := 126) [] [] (DX1_way_1.at 4 rfl) cuX1_81_6 q5 rfl rfl (Nat.le_of_ble_eq_true rfl) (Nat.le_of_ble_eq_true rfl) (gk_Run.post (fun o h5 z => ?_) hv)
        obtain ⟨v5, rfl, hv⟩ := z
        refine gk_istore (pc := 129) [(5, .int v5), (0, .ref o), (1, .ref x1), (2, .int x2), (3, .int x3), (4, .int x4), (6, .int x6)] (DX1_way_1.at 5 rfl) (Nat.le_of_ble_eq_true rfl) rfl ?_
        refine gk_iinc (pc := 131) (x6 + nI 1) [(6, .int (x6 + nI 1)), (5, .int v5), (0, .ref o), (1, .ref x1), (2, .int x2), (3, .int x3), (4, .int x4)] 6 (DX1_way_1.at 6 rfl) rfl (by rw [ci_1]) (Nat.le_of_ble_eq_true rfl) rfl ?_
        refine gk_goto (pc := 134) 78 (DX1_way_1.at 7 rfl) (by decide) ?_
        exact gk_pick (pc := 78) [(0, .ref o), (1, .ref x1), (2, .int x2), (3, .int x3), (4, .int x4), (5, .int v5), (6, .int (x6 + nI 1))] [2, 3, 4, 5, 6, 1, 0] rfl hv
      · replace hv := hv.2 c
        refine gk_iload (pc := 104) (DX1_way_0.at 53 rfl) 4 rfl ?_
        refine gk_iload_n (pc := 106) (DX1_way_0.at 54 rfl) 3 rfl rfl ?_
        refine gk_icmp_ne (pc := 107) 119 (DX1_way_0.at 55 rfl) (by decide) (fun c => ?_) (fun c => ?_)
        · replace hv := hv.1 c
          refine gk_iinc (pc := 119) (x4 + nI 1) [(4, .int (x4 + nI 1)), (0, .ref o), (1, .ref x1), (2, .int x2), (3, .int x3), (5, .int x5), (6, .int x6)] 4 (DX1_way_1.at 1 rfl) rfl (by rw [ci_1]) (Nat.le_of_ble_eq_true rfl) rfl ?_
          refine gk_aload_n (pc := 122) (DX1_way_1.at 2 rfl) 1 rfl rfl ?_
          obtain ⟨fs6, v6, q6, r6, hv⟩ := hv
          refine gk_get (pc := 123) (.ref v6) (DX1_way_1.at 3 rfl) fX1_41_1 q6 r6 ?_
          obtain ⟨⟨fs7, q7⟩, hv⟩ := hv
          refine gk_vU (pc := 126) [] [] (DX1_way_1.at 4 rfl) cuX1_81_6 q7 rfl rfl (Nat.le_of_ble_eq_true rfl) (Nat.le_of_ble_eq_true rfl) (gk_Run.post (fun o h7 z => ?_) hv)
          obtain ⟨v7, rfl, hv⟩ := z
          refine gk_istore (pc := 129) [(5, .int v7), (4, .int (x4 + nI 1)), (0, .ref o), (1, .ref x1), (2, .int x2), (3, .int x3), (6, .int x6)] (DX1_way_1.at 5 rfl) (Nat.le_of_ble_eq_true rfl) rfl ?_
          refine gk_iinc (pc := 131) (x6 + nI 1) [(6, .int (x6 + nI 1)), (5, .int v7), (4, .int (x4 + nI 1)), (0, .ref o), (1, .ref x1), (2, .int x2), (3, .int x3)] 6 (DX1_way_1.at 6 rfl) rfl (by rw [ci_1]) (Nat.le_of_ble_eq_true rfl) rfl ?_
          refine gk_goto (pc := 134) 78 (DX1_way_1.at 7 rfl) (by decide) ?_
          exact gk_pick (pc := 78) [(0, .ref o), (1, .ref x1), (2, .int x2), (3, .int x3), (4, .int (x4 + nI 1)), (5, .int v7), (6, .int (x6 + nI 1))] [3, 4, 5, 6, 2, 1, 0] rfl hv
        · replace hv := hv.2 c
          refine gk_aload_n (pc := 110) (DX1_way_0.at 56 rfl) 0 rfl rfl ?_
          obtain ⟨fs8, v8, q8, r8, hv⟩ := hv
          refine gk_get (pc := 111) (.ref v8) (DX1_way_0.at 57 rfl) fX1_41_1 q8 r8 ?_
          refine gk_iconst (pc := 114) (nI 0) (DX1_way_0.at 58 rfl) ci_0 ?_
          obtain ⟨⟨fs9, q9⟩, hv⟩ := hv
          refine gk_vU (pc := 115) [.int (nI 0)] [] (DX1_way_0.at 59 rfl) cuX1_77_6 q9 rfl rfl (Nat.le_of_ble_eq_true rfl) (Nat.le_of_ble_eq_true rfl) (gk_Run.post (fun o h9 z => ?_) hv)
          obtain ⟨v9, rfl, hv⟩ := z
          exact gk_ireturn (pc := 118) .int (DX1_way_1.at 0 rfl) rfl rfl ⟨_, rfl, hv⟩
abbrev pX2_answers_14 (E : gk_E) (dd : Nat) (o : Nat) (x1 : Nat) (x2 : Nat) (x3 : Nat) (x4 : Int32) (h : gk_H) (K : Int32 → gk_H → Prop) : Prop := gk_G E mX2_answers (dd, 0, 0) 14 [(0, .ref o), (1, .ref x1), (2, .ref x2), (3, .ref x3), (4, .int x4)] [] h (fun o h1 => ∃ v, o = some (.int v) ∧ K v h1)
abbrev pX2_answers_30 (E : gk_E) (dd : Nat) (o : Nat) (x1 : Nat) (x2 : Nat) (x3 : Nat) (x4 : Int32) (x5 : Int32) (h : gk_H) (K : Int32 → gk_H → Prop) : Prop := gk_G E mX2_answers (dd, 0, 0) 30 [(0, .ref o), (1, .ref x1), (2, .ref x2), (3, .ref x3), (4, .int x4), (5, .int x5)] [] h (fun o h1 => ∃ v, o = some (.int v) ∧ K v h1)
set_option maxHeartbeats 4000000 in
theorem vX2_answers_0 {E : gk_E} {dd : Nat} {o : Nat} {x1 : Nat} {x2 : Nat}  {h : gk_H} {K : Int32 → gk_H → Prop} (hv : LdR h o 2 0 fun v1 => LdR h v1 7 0 fun v2 => LdR h v2 8 1 fun v3 => pX2_answers_14 E dd o x1 x2 v3 (nI 0) h K) : RnI E mX2_answers (dd, 0, 0) [.ref o, .ref x1, .ref x2] h K := by
  show gk_G E mX2_answers (dd, 0, 0) 0 [(0, .ref o), (1, .ref x1), (2, .ref x2)] [] h (fun o h1 => ∃ v, o = some (.int v) ∧ K v h1)
  refine gk_aload_n (pc := 0) (DX2_answers_0.at 0 rfl) 0 rfl rfl ?_
  obtain ⟨fs1, v1, q1, r1, hv⟩ := hv
  refine gk_get (pc := 1) (.ref v1) (DX2_answers_0.at 1 rfl) fX2_29_2 q1 r1 ?_
  obtain ⟨fs2, v2, q2, r2, hv⟩ := hv
  refine gk_get (pc := 4) (.ref v2) (DX2_answers_0.at 2 rfl) fX2_37_7 q2 r2 ?_
  obtain ⟨fs3, v3, q3, r3, hv⟩ := hv
  refine gk_get (pc := 7) (.ref v3) (DX2_answers_0.at 3 rfl) fX2_97_8 q3 r3 ?_
  refine gk_astore_n (pc := 10) [(3, .ref v3), (0, .ref o), (1, .ref x1), (2, .ref x2)] (DX2_answers_0.at 4 rfl) rfl (Nat.le_of_ble_eq_true rfl) rfl ?_
  refine gk_iconst (pc := 11) (nI 0) (DX2_answers_0.at 5 rfl) ci_0 ?_
  refine gk_istore (pc := 12) [(4, .int (nI 0)), (3, .ref v3), (0, .ref o), (1, .ref x1), (2, .ref x2)] (DX2_answers_0.at 6 rfl) (Nat.le_of_ble_eq_true rfl) rfl ?_
  exact gk_pick (pc := 14) [(0, .ref o), (1, .ref x1), (2, .ref x2), (3, .ref v3), (4, .int (nI 0))] [2, 3, 4, 1, 0] rfl hv
set_option maxHeartbeats 4000000 in
theorem vX2_answers_14 {E : gk_E} {dd : Nat} {o : Nat} {x1 : Nat} {x2 : Nat} {x3 : Nat} {x4 : Int32}  {h : gk_H} {K : Int32 → gk_H → Prop} (hv : LdR h o 2 2 fun v1 => LdI h v1 3 0 fun v2 => (v2 ≤ x4 → K (nI 0) h) ∧ (¬ v2 ≤ x4 → pX2_answers_30 E dd o x1 x2 x3 x4 x4 h K)) : pX2_answers_14 E dd o x1 x2 x3 x4 h K := by
  show gk_G E mX2_answers (dd, 0, 0) 14 [(0, .ref o), (1, .ref x1), (2, .ref x2), (3, .ref x3), (4, .int x4)] [] h (fun o h1 => ∃ v, o = some (.int v) ∧ K v h1)
  refine gk_iload (pc := 14) (DX2_answers_0.at 7 rfl) 4 rfl ?_
  refine gk_aload_n (pc := 16) (DX2_answers_0.at 8 rfl) 0 rfl rfl ?_
  obtain ⟨fs1, v1, q1, r1, hv⟩ := hv
  refine gk_get (pc := 17) (.ref v1) (DX2_answers_0.at 9 rfl) fX2_12_2 q1 r1 ?_
  obtain ⟨fs2, v2, q2, r2, hv⟩ := hv
  refine gk_get (pc := 20) (.int v2) (DX2_answers_0.at 10 rfl) fX2_89_3 q2 r2 ?_
  refine gk_icmp_ge (pc := 23) 86 (DX2_answers_0.at 11 rfl) (by decide) (fun c => ?_) (fun c => ?_)
  · replace hv := hv.1 c
    refine gk_iconst (pc := 86) (nI 0) (DX2_answers_0.at 48 rfl) ci_0 ?_
    exact gk_ireturn (pc := 87) .boolean (DX2_answers_0.at 49 rfl) rfl rfl ⟨_, rfl, hv⟩
  · replace hv := hv.2 c
    refine gk_iload (pc := 26) (DX2_answers_0.at 12 rfl) 4 rfl ?_
    refine gk_istore (pc := 28) [(5, .int x4), (0, .ref o), (1, .ref x1), (2, .ref x2), (3, .ref x3), (4, .int x4)] (DX2_answers_0.at 13 rfl) (Nat.le_of_ble_eq_true rfl) rfl ?_
    exact gk_pick (pc := 30) [(0, .ref o), (1, .ref x1), (2, .ref x2), (3, .ref x3), (4, .int x4), (5, .int x4)] [1, 2, 3, 4, 5, 0] rfl hv
set_option maxHeartbeats 4000000 in
theorem vX2_answers_30 {E : gk_E} {dd : Nat} {o : Nat} {x1 : Nat} {x2 : Nat} {x3 : Nat} {x4 : Int32} {x5 : Int32}  {h : gk_H} {K : Int32 → gk_H → Prop} (hv : LdR h o 2 2 fun v1 => LdI h v1 3 0 fun v2 => (v2 ≤ x5 → pX2_answers_14 E dd o x1 x2 x3 (x4 + nI 1) h K) ∧ (¬ v2 ≤ x5 → AlI h x1 (((nI 6) * x4) + x5) fun v3 => AlI h x2 x4 fun v4 => AlI h x2 x5 fun v5 => AlI h x3 v5 fun v6 => (¬ ((v3 >>> ((((nI 4) * v4) + v6) &&& 31)) &&& (nI 1)) = (nI 1) → pX2_answers_30 E dd o x1 x2 x3 x4 (x5 + nI 1) h K) ∧ (((v3 >>> ((((nI 4) * v4) + v6) &&& 31)) &&& (nI 1)) = (nI 1) → K (nI 1) h))) : pX2_answers_30 E dd o x1 x2 x3 x4 x5 h K := by
  show gk_G E mX2_answers (dd, 0, 0) 30 [(0, .ref o), (1, .ref x1), (2, .ref x2), (3, .ref x3), (4, .int x4), (5, .int x5)] [] h (fun o h1 => ∃ v, o = some (.int v) ∧ K v h1)
  refine gk_iload (pc := 30) (DX2_answers_0.at 14 rfl) 5 rfl ?_
  refine gk_aload_n (pc := 32) (DX2_answers_0.at 15 rfl) 0 rfl rfl ?_
  obtain ⟨fs1, v1, q1, r1, hv⟩ := hv
  refine gk_get (pc := 33) (.ref v1) (DX2_answers_0.at 16 rfl) fX2_12_2 q1 r1 ?_
  obtain ⟨fs2, v2, q2, r2, hv⟩ := hv
  refine gk_get (pc := 36) (.int v2) (DX2_answers_0.at 17 rfl) fX2_89_3 q2 r2 ?_
  refine gk_icmp_ge (pc := 39) 80 (DX2_answers_0.at 18 rfl) (by decide) (fun c => ?_) (fun c => ?_)
  · replace hv := hv.1 c
    refine gk_iinc (pc := 80) (x4 + nI 1) [(4, .int (x4 + nI 1)), (0, .ref o), (1, .ref x1), (2, .ref x2), (3, .ref x3), (5, .int x5)] 4 (DX2_answers_0.at 46 rfl) rfl (by rw [ci_1]) (Nat.le_of_ble_eq_true rfl) rfl ?_
    refine gk_goto (pc := 83) 14 (DX2_answers_0.at 47 rfl) (by decide) ?_
    exact gk_pick (pc := 14) [(0, .ref o), (1, .ref x1), (2, .ref x2), (3, .ref x3), (4, .int (x4 + nI 1))] [1, 2, 3, 4, 0] rfl hv
  · replace hv := hv.2 c
    refine gk_aload_n (pc := 42) (DX2_answers_0.at 19 rfl) 1 rfl rfl ?_
    refine gk_bipush (pc := 43) (nI 6) (DX2_answers_0.at 20 rfl) cb_6 ?_
    refine gk_iload (pc := 45) (DX2_answers_0.at 21 rfl) 4 rfl ?_
    refine gk_imul (pc := 47) (DX2_answers_0.at 22 rfl) ?_
    refine gk_iload (pc := 48) (DX2_answers_0.at 23 rfl) 5 rfl ?_
    refine gk_iadd (pc := 50) (DX2_answers_0.at 24 rfl) ?_
    obtain ⟨n3, f3, q3, r3, hv⟩ := hv
    refine gk_iald (pc := 51) (DX2_answers_0.at 25 rfl) q3 r3 ?_
    generalize f3 _ = v3 at hv ⊢
    refine gk_iconst (pc := 52) (nI 4) (DX2_answers_0.at 26 rfl) ci_4 ?_
    refine gk_aload_n (pc := 53) (DX2_answers_0.at 27 rfl) 2 rfl rfl ?_
    refine gk_iload (pc := 54) (DX2_answers_0.at 28 rfl) 4 rfl ?_
    obtain ⟨n4, f4, q4, r4, hv⟩ := hv
    refine gk_iald (pc := 56) (DX2_answers_0.at 29 rfl) q4 r4 ?_
    generalize f4 _ = v4 at hv ⊢
    refine gk_imul (pc := 57) (DX2_answers_0.at 30 rfl) ?_
    refine gk_aload_n (pc := 58) (DX2_answers_0.at 31 rfl) 3 rfl rfl ?_
    refine gk_aload_n (pc := 59) (DX2_answers_0.at 32 rfl) 2 rfl rfl ?_
    refine gk_iload (pc := 60) (DX2_answers_0.at 33 rfl) 5 rfl ?_
    obtain ⟨n5, f5, q5, r5, hv⟩ := hv
    refine gk_iald (pc := 62) (DX2_answers_0.at 34 rfl) q5 r5 ?_
    generalize f5 _ = v5 at hv ⊢
    obtain ⟨n6, f6, q6, r6, hv⟩ := hv
    refine gk_iald (pc := 63) (DX2_answers_0.at 35 rfl) q6 r6 ?_
    generalize f6 _ = v6 at hv ⊢
    refine gk_iadd (pc := 64) (DX2_answers_0.at 36 rfl) ?_
    refine gk_ishr (pc := 65) (DX2_answers_0.at 37 rfl) ?_
    refine gk_iconst (pc := 66) (nI 1) (DX2_answers_0.at 38 rfl) ci_1 ?_
    refine gk_iand (pc := 67) (DX2_answers_0.at 39 rfl) ?_
    refine gk_iconst (pc := 68) (nI 1) (DX2_answers_0.at 40 rfl) ci_1 ?_
    refine gk_icmp_ne (pc := 69) 74 (DX2_answers_0.at 41 rfl) (by decide) (fun c => ?_) (fun c => ?_)
    · replace hv := hv.1 c
      refine gk_iinc (pc := 74) (x5 + nI 1) [(5, .int (x5 + nI 1)), (0, .ref o), (1, .ref x1), (2, .ref x2), (3, .ref x3), (4, .int x4)] 5 (DX2_answers_0.at 44 rfl) rfl (by rw [ci_1]) (Nat.le_of_ble_eq_true rfl) rfl ?_
      refine gk_goto (pc := 77) 30 (DX2_answers_0.at 45 rfl) (by decide) ?_
      exact gk_pick (pc := 30) [(0, .ref o), (1, .ref x1), (2, .ref x2), (3, .ref x3), (4, .int x4), (5, .int (x5 + nI 1))] [1, 2, 3, 4, 5, 0] rfl hv
    · replace hv := hv.2 c
      refine gk_iconst (pc := 72) (nI 1) (DX2_answers_0.at 42 rfl) ci_1 ?_
      exact gk_ireturn (pc := 73) .boolean (DX2_answers_0.at 43 rfl) rfl rfl ⟨_, rfl, hv⟩
abbrev pX2_findGaps_2 (E : gk_E) (dd : Nat) (o : Nat) (x1 : Nat) (x2 : Int32) (h : gk_H) (K : gk_H → Prop) : Prop := gk_G E mX2_findGaps (dd + 1, 0, 0) 2 [(0, .ref o), (1, .ref x1), (2, .int x2)] [] h (fun o h1 => o = none ∧ K h1)
abbrev pX2_findGaps_15 (E : gk_E) (dd : Nat) (o : Nat) (x1 : Nat) (x2 : Int32) (x3 : Int32) (h : gk_H) (K : gk_H → Prop) : Prop := gk_G E mX2_findGaps (dd + 1, 0, 0) 15 [(0, .ref o), (1, .ref x1), (2, .int x2), (3, .int x3)] [] h (fun o h1 => o = none ∧ K h1)
set_option maxHeartbeats 4000000 in
theorem vX2_findGaps_0 {E : gk_E} {dd : Nat} {o : Nat} {x1 : Nat}  {h : gk_H} {K : gk_H → Prop} (hv : pX2_findGaps_2 E dd o x1 (nI 0) h K) : RnV E mX2_findGaps (dd + 1, 0, 0) [.ref o, .ref x1] h K := by
  show gk_G E mX2_findGaps (dd + 1, 0, 0) 0 [(0, .ref o), (1, .ref x1)] [] h (fun o h1 => o = none ∧ K h1)
  refine gk_iconst (pc := 0) (nI 0) (DX2_findGaps_0.at 0 rfl) ci_0 ?_
  refine gk_istore_n (pc := 1) [(2, .int (nI 0)), (0, .ref o), (1, .ref x1)] (DX2_findGaps_0.at 1 rfl) rfl (Nat.le_of_ble_eq_true rfl) rfl ?_
  exact gk_pick (pc := 2) [(0, .ref o), (1, .ref x1), (2, .int (nI 0))] [1, 2, 0] rfl hv
set_option maxHeartbeats 4000000 in
theorem vX2_findGaps_2 {E : gk_E} {dd : Nat} {o : Nat} {x1 : Nat} {x2 : Int32}  {h : gk_H} {K : gk_H → Prop} (hv : LdR h o 2 2 fun v1 => LdI h v1 3 0 fun v2 => (v2 ≤ x2 → K h) ∧ (¬ v2 ≤ x2 → pX2_findGaps_15 E dd o x1 x2 x2 h K)) : pX2_findGaps_2 E dd o x1 x2 h K := by
  show gk_G E mX2_findGaps (dd + 1, 0, 0) 2 [(0, .ref o), (1, .ref x1), (2, .int x2)] [] h (fun o h1 => o = none ∧ K h1)
  refine gk_iload_n (pc := 2) (DX2_findGaps_0.at 2 rfl) 2 rfl rfl ?_
  refine gk_aload_n (pc := 3) (DX2_findGaps_0.at 3 rfl) 0 rfl rfl ?_
  obtain ⟨fs1, v1, q1, r1, hv⟩ := hv
  refine gk_get (pc := 4) (.ref v1) (DX2_findGaps_0.at 4 rfl) fX2_12_2 q1 r1 ?_
  obtain ⟨fs2, v2, q2, r2, hv⟩ := hv
  refine gk_get (pc := 7) (.int v2) (DX2_findGaps_0.at 5 rfl) fX2_89_3 q2 r2 ?_
  refine gk_icmp_ge (pc := 10) 62 (DX2_findGaps_0.at 6 rfl) (by decide) (fun c => ?_) (fun c => ?_)
  · replace hv := hv.1 c
    exact gk_return (pc := 62) (DX2_findGaps_0.at 33 rfl) rfl ⟨rfl, hv⟩
  · replace hv := hv.2 c
    refine gk_iload_n (pc := 13) (DX2_findGaps_0.at 7 rfl) 2 rfl rfl ?_
    refine gk_istore_n (pc := 14) [(3, .int x2), (0, .ref o), (1, .ref x1), (2, .int x2)] (DX2_findGaps_0.at 8 rfl) rfl (Nat.le_of_ble_eq_true rfl) rfl ?_
    exact gk_pick (pc := 15) [(0, .ref o), (1, .ref x1), (2, .int x2), (3, .int x2)] [1, 2, 3, 0] rfl hv
set_option maxHeartbeats 4000000 in
theorem vX2_findGaps_15 {E : gk_E} {dd : Nat} {o : Nat} {x1 : Nat} {x2 : Int32} {x3 : Int32}  {h : gk_H} {K : gk_H → Prop} (hv : LdR h o 2 2 fun v1 => LdI h v1 3 0 fun v2 => (v2 ≤ x3 → pX2_findGaps_2 E dd o x1 (x2 + nI 1) h K) ∧ (¬ v2 ≤ x3 → LdR h o 2 2 fun v3 => LdR h o 2 0 fun v4 => LdR h v4 7 0 fun v5 => (∃ fs, h[v3]? = some (.inr (3, fs))) ∧ RnI E mX3_open (dd, 0, 0) [.ref v3, .ref v5, .int x2, .int x3] h (fun v6 h6 => AsI h6 x1 (((nI 6) * x2) + x3) v6 fun h7 => pX2_findGaps_15 E dd o x1 x2 (x3 + nI 1) h7 K))) : pX2_findGaps_15 E dd o x1 x2 x3 h K := by
  show gk_G E mX2_findGaps (dd + 1, 0, 0) 15 [(0, .ref o), (1, .ref x1), (2, .int x2), (3, .int x3)] [] h (fun o h1 => o = none ∧ K h1)
  refine gk_iload_n (pc := 15) (DX2_findGaps_0.at 9 rfl) 3 rfl rfl ?_
  refine gk_aload_n (pc := 16) (DX2_findGaps_0.at 10 rfl) 0 rfl rfl ?_
  obtain ⟨fs1, v1, q1, r1, hv⟩ := hv
  refine gk_get (pc := 17) (.ref v1) (DX2_findGaps_0.at 11 rfl) fX2_12_2 q1 r1 ?_
  obtain ⟨fs2, v2, q2, r2, hv⟩ := hv
  refine gk_get (pc := 20) (.int v2) (DX2_findGaps_0.at 12 rfl) fX2_89_3 q2 r2 ?_
  refine gk_icmp_ge (pc := 23) 56 (DX2_findGaps_0.at 13 rfl) (by decide) (fun c => ?_) (fun c => ?_)
  · replace hv := hv.1 c
    refine gk_iinc (pc := 56) (x2 + nI 1) [(2, .int (x2 + nI 1)), (0, .ref o), (1, .ref x1), (3, .int x3)] 2 (DX2_findGaps_0.at 31 rfl) rfl (by rw [ci_1]) (Nat.le_of_ble_eq_true rfl) rfl ?_
    refine gk_goto (pc := 59) 2 (DX2_findGaps_0.at 32 rfl) (by decide) ?_
    exact gk_pick (pc := 2) [(0, .ref o), (1, .ref x1), (2, .int (x2 + nI 1))] [1, 2, 0] rfl hv
  · replace hv := hv.2 c
    refine gk_aload_n (pc := 26) (DX2_findGaps_0.at 14 rfl) 1 rfl rfl ?_
    refine gk_bipush (pc := 27) (nI 6) (DX2_findGaps_0.at 15 rfl) cb_6 ?_
    refine gk_iload_n (pc := 29) (DX2_findGaps_0.at 16 rfl) 2 rfl rfl ?_
    refine gk_imul (pc := 30) (DX2_findGaps_0.at 17 rfl) ?_
    refine gk_iload_n (pc := 31) (DX2_findGaps_0.at 18 rfl) 3 rfl rfl ?_
    refine gk_iadd (pc := 32) (DX2_findGaps_0.at 19 rfl) ?_
    refine gk_aload_n (pc := 33) (DX2_findGaps_0.at 20 rfl) 0 rfl rfl ?_
    obtain ⟨fs3, v3, q3, r3, hv⟩ := hv
    refine gk_get (pc := 34) (.ref v3) (DX2_findGaps_0.at 21 rfl) fX2_12_2 q3 r3 ?_
    refine gk_aload_n (pc := 37) (DX2_findGaps_0.at 22 rfl) 0 rfl rfl ?_
    obtain ⟨fs4, v4, q4, r4, hv⟩ := hv
    refine gk_get (pc := 38) (.ref v4) (DX2_findGaps_0.at 23 rfl) fX2_29_2 q4 r4 ?_
    obtain ⟨fs5, v5, q5, r5, hv⟩ := hv
    refine gk_get (pc := 41) (.ref v5) (DX2_findGaps_0.at 24 rfl) fX2_37_7 q5 r5 ?_
    refine gk_iload_n (pc := 44) (DX2_findGaps_0.at 25 rfl) 2 rfl rfl ?_
    refine gk_iload_n (pc := 45) (DX2_findGaps_0.at 26 rfl) 3 rfl rfl ?_
    obtain ⟨⟨fs6, q6⟩, hv⟩ := hv
    refine gk_vV (pc := 46) [.ref v5, .int x2, .int x3] [.int (((nI 6) * x2) + x3), .ref x1] (DX2_findGaps_0.at 27 rfl) cvX2_93 q6 rfl rfl (Nat.le_of_ble_eq_true rfl) (Nat.le_of_ble_eq_true rfl) (gk_Run.post (fun o h6 z => ?_) hv)
    obtain ⟨v6, rfl, hv⟩ := z
    obtain ⟨n7, f7, q7, r7, hv⟩ := hv
    refine gk_iast (pc := 49) (DX2_findGaps_0.at 28 rfl) q7 r7 ?_
    generalize h6.set _ _ = h7 at hv ⊢
    refine gk_iinc (pc := 50) (x3 + nI 1) [(3, .int (x3 + nI 1)), (0, .ref o), (1, .ref x1), (2, .int x2)] 3 (DX2_findGaps_0.at 29 rfl) rfl (by rw [ci_1]) (Nat.le_of_ble_eq_true rfl) rfl ?_
    refine gk_goto (pc := 53) 15 (DX2_findGaps_0.at 30 rfl) (by decide) ?_
    exact gk_pick (pc := 15) [(0, .ref o), (1, .ref x1), (2, .int x2), (3, .int (x3 + nI 1))] [1, 2, 3, 0] rfl hv
abbrev pX2_firstLeft_15 (E : gk_E) (dd : Nat) (o : Nat) (x1 : Int32) (x2 : Int32) (h : gk_H) (K : Int32 → gk_H → Prop) : Prop := gk_G E mX2_firstLeft (dd + 1, 0, 0) 15 [(0, .ref o), (1, .int x1), (2, .int x2)] [] h (fun o h1 => ∃ v, o = some (.int v) ∧ K v h1)
abbrev pX2_firstLeft_28 (E : gk_E) (dd : Nat) (o : Nat) (x1 : Int32) (x2 : Int32) (x3 : Int32) (h : gk_H) (K : Int32 → gk_H → Prop) : Prop := gk_G E mX2_firstLeft (dd + 1, 0, 0) 28 [(0, .ref o), (1, .int x1), (2, .int x2), (3, .int x3)] [] h (fun o h1 => ∃ v, o = some (.int v) ∧ K v h1)
set_option maxHeartbeats 4000000 in
theorem vX2_firstLeft_0 {E : gk_E} {dd : Nat} {o : Nat} {x1 : Int32}  {h : gk_H} {K : Int32 → gk_H → Prop} (hv : (x1 < (nI 1) → K ((-5)) h) ∧ (¬ x1 < (nI 1) → (x1 ≤ (nI 2) → pX2_firstLeft_15 E dd o x1 (nI 0) h K) ∧ (¬ x1 ≤ (nI 2) → K ((-5)) h))) : RnI E mX2_firstLeft (dd + 1, 0, 0) [.ref o, .int x1] h K := by
  show gk_G E mX2_firstLeft (dd + 1, 0, 0) 0 [(0, .ref o), (1, .int x1)] [] h (fun o h1 => ∃ v, o = some (.int v) ∧ K v h1)
  refine gk_iload_n (pc := 0) (DX2_firstLeft_0.at 0 rfl) 1 rfl rfl ?_
  refine gk_iconst (pc := 1) (nI 1) (DX2_firstLeft_0.at 1 rfl) ci_1 ?_
  refine gk_icmp_lt (pc := 2) 10 (DX2_firstLeft_0.at 2 rfl) (by decide) (fun c => ?_) (fun c => ?_)
  · replace hv := hv.1 c
    refine gk_bipush (pc := 10) ((-5)) (DX2_firstLeft_0.at 6 rfl) cb_m5 ?_
    exact gk_ireturn (pc := 12) .int (DX2_firstLeft_0.at 7 rfl) rfl rfl ⟨_, rfl, hv⟩
  · replace hv := hv.2 c
    refine gk_iload_n (pc := 5) (DX2_firstLeft_0.at 3 rfl) 1 rfl rfl ?_
    refine gk_iconst (pc := 6) (nI 2) (DX2_firstLeft_0.at 4 rfl) ci_2 ?_
    refine gk_icmp_le (pc := 7) 13 (DX2_firstLeft_0.at 5 rfl) (by decide) (fun c => ?_) (fun c => ?_)
    · replace hv := hv.1 c
      refine gk_iconst (pc := 13) (nI 0) (DX2_firstLeft_0.at 8 rfl) ci_0 ?_
      refine gk_istore_n (pc := 14) [(2, .int (nI 0)), (0, .ref o), (1, .int x1)] (DX2_firstLeft_0.at 9 rfl) rfl (Nat.le_of_ble_eq_true rfl) rfl ?_
      exact gk_pick (pc := 15) [(0, .ref o), (1, .int x1), (2, .int (nI 0))] [1, 2, 0] rfl hv
    · replace hv := hv.2 c
      refine gk_bipush (pc := 10) ((-5)) (DX2_firstLeft_0.at 6 rfl) cb_m5 ?_
      exact gk_ireturn (pc := 12) .int (DX2_firstLeft_0.at 7 rfl) rfl rfl ⟨_, rfl, hv⟩
set_option maxHeartbeats 4000000 in
theorem vX2_firstLeft_15 {E : gk_E} {dd : Nat} {o : Nat} {x1 : Int32} {x2 : Int32}  {h : gk_H} {K : Int32 → gk_H → Prop} (hv : LdR h o 2 2 fun v1 => LdI h v1 3 0 fun v2 => (v2 ≤ x2 → K ((-5)) h) ∧ (¬ v2 ≤ x2 → pX2_firstLeft_28 E dd o x1 x2 x2 h K)) : pX2_firstLeft_15 E dd o x1 x2 h K := by
  show gk_G E mX2_firstLeft (dd + 1, 0, 0) 15 [(0, .ref o), (1, .int x1), (2, .int x2)] [] h (fun o h1 => ∃ v, o = some (.int v) ∧ K v h1)
  refine gk_iload_n (pc := 15) (DX2_firstLeft_0.at 10 rfl) 2 rfl rfl ?_
  refine gk_aload_n (pc := 16) (DX2_firstLeft_0.at 11 rfl) 0 rfl rfl ?_
  obtain ⟨fs1, v1, q1, r1, hv⟩ := hv
  refine gk_get (pc := 17) (.ref v1) (DX2_firstLeft_0.at 12 rfl) fX2_12_2 q1 r1 ?_
  obtain ⟨fs2, v2, q2, r2, hv⟩ := hv
  refine gk_get (pc := 20) (.int v2) (DX2_firstLeft_0.at 13 rfl) fX2_89_3 q2 r2 ?_
  refine gk_icmp_ge (pc := 23) 85 (DX2_firstLeft_0.at 14 rfl) (by decide) (fun c => ?_) (fun c => ?_)
  · replace hv := hv.1 c
    refine gk_bipush (pc := 85) ((-5)) (DX2_firstLeft_0.at 48 rfl) cb_m5 ?_
    exact gk_ireturn (pc := 87) .int (DX2_firstLeft_0.at 49 rfl) rfl rfl ⟨_, rfl, hv⟩
  · replace hv := hv.2 c
    refine gk_iload_n (pc := 26) (DX2_firstLeft_0.at 15 rfl) 2 rfl rfl ?_
    refine gk_istore_n (pc := 27) [(3, .int x2), (0, .ref o), (1, .int x1), (2, .int x2)] (DX2_firstLeft_0.at 16 rfl) rfl (Nat.le_of_ble_eq_true rfl) rfl ?_
    exact gk_pick (pc := 28) [(0, .ref o), (1, .int x1), (2, .int x2), (3, .int x2)] [1, 2, 3, 0] rfl hv
set_option maxHeartbeats 4000000 in
theorem vX2_firstLeft_28 {E : gk_E} {dd : Nat} {o : Nat} {x1 : Int32} {x2 : Int32} {x3 : Int32}  {h : gk_H} {K : Int32 → gk_H → Prop} (hv : LdR h o 2 2 fun v1 => LdI h v1 3 0 fun v2 => (v2 ≤ x3 → pX2_firstLeft_15 E dd o x1 (x2 + nI 1) h K) ∧ (¬ v2 ≤ x3 → LdR h o 2 4 fun v3 => AlR 7 h v3 (x1 - (nI 1)) fun v4 => AlI h v4 (((nI 6) * x2) + x3) fun v5 => (v5 = 0 → pX2_firstLeft_28 E dd o x1 x2 (x3 + nI 1) h K) ∧ (¬ v5 = 0 → RnI E mX3_placeOf (dd, 0, 0) [.int v5, .int (nI 0)] h (fun v6 h6 => RnI E mX3_gapNumber (dd, 0, 0) [.int x2, .int x3, .int v6] h6 (fun v7 h7 => K v7 h7))))) : pX2_firstLeft_28 E dd o x1 x2 x3 h K := by
  show gk_G E mX2_firstLeft (dd + 1, 0, 0) 28 [(0, .ref o), (1, .int x1), (2, .int x2), (3, .int x3)] [] h (fun o h1 => ∃ v, o = some (.int v) ∧ K v h1)
  refine gk_iload_n (pc := 28) (DX2_firstLeft_0.at 17 rfl) 3 rfl rfl ?_
  refine gk_aload_n (pc := 29) (DX2_firstLeft_0.at 18 rfl) 0 rfl rfl ?_
  obtain ⟨fs1, v1, q1, r1, hv⟩ := hv
  refine gk_get (pc := 30) (.ref v1) (DX2_firstLeft_0.at 19 rfl) fX2_12_2 q1 r1 ?_
  obtain ⟨fs2, v2, q2, r2, hv⟩ := hv
  refine gk_get (pc := 33) (.int v2) (DX2_firstLeft_0.at 20 rfl) fX2_89_3 q2 r2 ?_
  refine gk_icmp_ge (pc := 36) 79 (DX2_firstLeft_0.at 21 rfl) (by decide) (fun c => ?_) (fun c => ?_)
  · replace hv := hv.1 c
    refine gk_iinc (pc := 79) (x2 + nI 1) [(2, .int (x2 + nI 1)), (0, .ref o), (1, .int x1), (3, .int x3)] 2 (DX2_firstLeft_0.at 46 rfl) rfl (by rw [ci_1]) (Nat.le_of_ble_eq_true rfl) rfl ?_
    refine gk_goto (pc := 82) 15 (DX2_firstLeft_0.at 47 rfl) (by decide) ?_
    exact gk_pick (pc := 15) [(0, .ref o), (1, .int x1), (2, .int (x2 + nI 1))] [1, 2, 0] rfl hv
  · replace hv := hv.2 c
    refine gk_aload_n (pc := 39) (DX2_firstLeft_0.at 22 rfl) 0 rfl rfl ?_
    obtain ⟨fs3, v3, q3, r3, hv⟩ := hv
    refine gk_get (pc := 40) (.ref v3) (DX2_firstLeft_0.at 23 rfl) fX2_26_2 q3 r3 ?_
    refine gk_iload_n (pc := 43) (DX2_firstLeft_0.at 24 rfl) 1 rfl rfl ?_
    refine gk_iconst (pc := 44) (nI 1) (DX2_firstLeft_0.at 25 rfl) ci_1 ?_
    refine gk_isub (pc := 45) (DX2_firstLeft_0.at 26 rfl) ?_
    obtain ⟨n4, f4, v4, q4, r4, e4, hv⟩ := hv
    refine gk_aald7 (pc := 46) v4 (DX2_firstLeft_0.at 27 rfl) q4 r4 e4 ?_
    refine gk_bipush (pc := 47) (nI 6) (DX2_firstLeft_0.at 28 rfl) cb_6 ?_
    refine gk_iload_n (pc := 49) (DX2_firstLeft_0.at 29 rfl) 2 rfl rfl ?_
    refine gk_imul (pc := 50) (DX2_firstLeft_0.at 30 rfl) ?_
    refine gk_iload_n (pc := 51) (DX2_firstLeft_0.at 31 rfl) 3 rfl rfl ?_
    refine gk_iadd (pc := 52) (DX2_firstLeft_0.at 32 rfl) ?_
    obtain ⟨n5, f5, q5, r5, hv⟩ := hv
    refine gk_iald (pc := 53) (DX2_firstLeft_0.at 33 rfl) q5 r5 ?_
    generalize f5 _ = v5 at hv ⊢
    refine gk_istore (pc := 54) [(4, .int v5), (0, .ref o), (1, .int x1), (2, .int x2), (3, .int x3)] (DX2_firstLeft_0.at 34 rfl) (Nat.le_of_ble_eq_true rfl) rfl ?_
    refine gk_iload (pc := 56) (DX2_firstLeft_0.at 35 rfl) 0 rfl ?_
    refine gk_if_eq (pc := 58) 73 (DX2_firstLeft_0.at 36 rfl) (by decide) (fun c => ?_) (fun c => ?_)
    · replace hv := hv.1 c
      refine gk_iinc (pc := 73) (x3 + nI 1) [(3, .int (x3 + nI 1)), (4, .int v5), (0, .ref o), (1, .int x1), (2, .int x2)] 4 (DX2_firstLeft_0.at 44 rfl) rfl (by rw [ci_1]) (Nat.le_of_ble_eq_true rfl) rfl ?_
      refine gk_goto (pc := 76) 28 (DX2_firstLeft_0.at 45 rfl) (by decide) ?_
      exact gk_pick (pc := 28) [(0, .ref o), (1, .int x1), (2, .int x2), (3, .int (x3 + nI 1))] [2, 3, 4, 0] rfl hv
    · replace hv := hv.2 c
      refine gk_iload_n (pc := 61) (DX2_firstLeft_0.at 37 rfl) 3 rfl rfl ?_
      refine gk_iload_n (pc := 62) (DX2_firstLeft_0.at 38 rfl) 4 rfl rfl ?_
      refine gk_iload (pc := 63) (DX2_firstLeft_0.at 39 rfl) 0 rfl ?_
      refine gk_iconst (pc := 65) (nI 0) (DX2_firstLeft_0.at 40 rfl) ci_0 ?_
      refine gk_vS (pc := 66) [.int v5, .int (nI 0)] [.int x3, .int x2] (DX2_firstLeft_0.at 41 rfl) csX2_112 rfl rfl (Nat.le_of_ble_eq_true rfl) (Nat.le_of_ble_eq_true rfl) (gk_Run.post (fun o h6 z => ?_) hv)
      obtain ⟨v6, rfl, hv⟩ := z
      refine gk_vS (pc := 69) [.int x2, .int x3, .int v6] [] (DX2_firstLeft_0.at 42 rfl) csX2_116 rfl rfl (Nat.le_of_ble_eq_true rfl) (Nat.le_of_ble_eq_true rfl) (gk_Run.post (fun o h7 z => ?_) hv)
      obtain ⟨v7, rfl, hv⟩ := z
      exact gk_ireturn (pc := 72) .int (DX2_firstLeft_0.at 43 rfl) rfl rfl ⟨_, rfl, hv⟩
abbrev pX2_isOpen_2 (E : gk_E) (dd : Nat) (o : Nat) (x1 : Nat) (x2 : Int32) (h : gk_H) (K : Int32 → gk_H → Prop) : Prop := gk_G E mX2_isOpen (dd, 0, 0) 2 [(0, .ref o), (1, .ref x1), (2, .int x2)] [] h (fun o h1 => ∃ v, o = some (.int v) ∧ K v h1)
abbrev pX2_isOpen_15 (E : gk_E) (dd : Nat) (o : Nat) (x1 : Nat) (x2 : Int32) (x3 : Int32) (h : gk_H) (K : Int32 → gk_H → Prop) : Prop := gk_G E mX2_isOpen (dd, 0, 0) 15 [(0, .ref o), (1, .ref x1), (2, .int x2), (3, .int x3)] [] h (fun o h1 => ∃ v, o = some (.int v) ∧ K v h1)
set_option maxHeartbeats 4000000 in
theorem vX2_isOpen_0 {E : gk_E} {dd : Nat} {o : Nat} {x1 : Nat}  {h : gk_H} {K : Int32 → gk_H → Prop} (hv : pX2_isOpen_2 E dd o x1 (nI 0) h K) : RnI E mX2_isOpen (dd, 0, 0) [.ref o, .ref x1] h K := by
  show gk_G E mX2_isOpen (dd, 0, 0) 0 [(0, .ref o), (1, .ref x1)] [] h (fun o h1 => ∃ v, o = some (.int v) ∧ K v h1)
  refine gk_iconst (pc := 0) (nI 0) (DX2_isOpen_0.at 0 rfl) ci_0 ?_
  refine gk_istore_n (pc := 1) [(2, .int (nI 0)), (0, .ref o), (1, .ref x1)] (DX2_isOpen_0.at 1 rfl) rfl (Nat.le_of_ble_eq_true rfl) rfl ?_
  exact gk_pick (pc := 2) [(0, .ref o), (1, .ref x1), (2, .int (nI 0))] [1, 2, 0] rfl hv
set_option maxHeartbeats 4000000 in
theorem vX2_isOpen_2 {E : gk_E} {dd : Nat} {o : Nat} {x1 : Nat} {x2 : Int32}  {h : gk_H} {K : Int32 → gk_H → Prop} (hv : LdR h o 2 2 fun v1 => LdI h v1 3 0 fun v2 => (v2 ≤ x2 → K (nI 0) h) ∧ (¬ v2 ≤ x2 → pX2_isOpen_15 E dd o x1 x2 x2 h K)) : pX2_isOpen_2 E dd o x1 x2 h K := by
  show gk_G E mX2_isOpen (dd, 0, 0) 2 [(0, .ref o), (1, .ref x1), (2, .int x2)] [] h (fun o h1 => ∃ v, o = some (.int v) ∧ K v h1)
  refine gk_iload_n (pc := 2) (DX2_isOpen_0.at 2 rfl) 2 rfl rfl ?_
  refine gk_aload_n (pc := 3) (DX2_isOpen_0.at 3 rfl) 0 rfl rfl ?_
  obtain ⟨fs1, v1, q1, r1, hv⟩ := hv
  refine gk_get (pc := 4) (.ref v1) (DX2_isOpen_0.at 4 rfl) fX2_12_2 q1 r1 ?_
  obtain ⟨fs2, v2, q2, r2, hv⟩ := hv
  refine gk_get (pc := 7) (.int v2) (DX2_isOpen_0.at 5 rfl) fX2_89_3 q2 r2 ?_
  refine gk_icmp_ge (pc := 10) 51 (DX2_isOpen_0.at 6 rfl) (by decide) (fun c => ?_) (fun c => ?_)
  · replace hv := hv.1 c
    refine gk_iconst (pc := 51) (nI 0) (DX2_isOpen_0.at 28 rfl) ci_0 ?_
    exact gk_ireturn (pc := 52) .boolean (DX2_isOpen_0.at 29 rfl) rfl rfl ⟨_, rfl, hv⟩
  · replace hv := hv.2 c
    refine gk_iload_n (pc := 13) (DX2_isOpen_0.at 7 rfl) 2 rfl rfl ?_
    refine gk_istore_n (pc := 14) [(3, .int x2), (0, .ref o), (1, .ref x1), (2, .int x2)] (DX2_isOpen_0.at 8 rfl) rfl (Nat.le_of_ble_eq_true rfl) rfl ?_
    exact gk_pick (pc := 15) [(0, .ref o), (1, .ref x1), (2, .int x2), (3, .int x2)] [1, 2, 3, 0] rfl hv
set_option maxHeartbeats 4000000 in
theorem vX2_isOpen_15 {E : gk_E} {dd : Nat} {o : Nat} {x1 : Nat} {x2 : Int32} {x3 : Int32}  {h : gk_H} {K : Int32 → gk_H → Prop} (hv : LdR h o 2 2 fun v1 => LdI h v1 3 0 fun v2 => (v2 ≤ x3 → pX2_isOpen_2 E dd o x1 (x2 + nI 1) h K) ∧ (¬ v2 ≤ x3 → AlI h x1 (((nI 6) * x2) + x3) fun v3 => (v3 = 0 → pX2_isOpen_15 E dd o x1 x2 (x3 + nI 1) h K) ∧ (¬ v3 = 0 → K (nI 1) h))) : pX2_isOpen_15 E dd o x1 x2 x3 h K := by
  show gk_G E mX2_isOpen (dd, 0, 0) 15 [(0, .ref o), (1, .ref x1), (2, .int x2), (3, .int x3)] [] h (fun o h1 => ∃ v, o = some (.int v) ∧ K v h1)
  refine gk_iload_n (pc := 15) (DX2_isOpen_0.at 9 rfl) 3 rfl rfl ?_
  refine gk_aload_n (pc := 16) (DX2_isOpen_0.at 10 rfl) 0 rfl rfl ?_
  obtain ⟨fs1, v1, q1, r1, hv⟩ := hv
  refine gk_get (pc := 17) (.ref v1) (DX2_isOpen_0.at 11 rfl) fX2_12_2 q1 r1 ?_
  obtain ⟨fs2, v2, q2, r2, hv⟩ := hv
  refine gk_get (pc := 20) (.int v2) (DX2_isOpen_0.at 12 rfl) fX2_89_3 q2 r2 ?_
  refine gk_icmp_ge (pc := 23) 45 (DX2_isOpen_0.at 13 rfl) (by decide) (fun c => ?_) (fun c => ?_)
  · replace hv := hv.1 c
    refine gk_iinc (pc := 45) (x2 + nI 1) [(2, .int (x2 + nI 1)), (0, .ref o), (1, .ref x1), (3, .int x3)] 2 (DX2_isOpen_0.at 26 rfl) rfl (by rw [ci_1]) (Nat.le_of_ble_eq_true rfl) rfl ?_
    refine gk_goto (pc := 48) 2 (DX2_isOpen_0.at 27 rfl) (by decide) ?_
    exact gk_pick (pc := 2) [(0, .ref o), (1, .ref x1), (2, .int (x2 + nI 1))] [1, 2, 0] rfl hv
  · replace hv := hv.2 c
    refine gk_aload_n (pc := 26) (DX2_isOpen_0.at 14 rfl) 1 rfl rfl ?_
    refine gk_bipush (pc := 27) (nI 6) (DX2_isOpen_0.at 15 rfl) cb_6 ?_
    refine gk_iload_n (pc := 29) (DX2_isOpen_0.at 16 rfl) 2 rfl rfl ?_
    refine gk_imul (pc := 30) (DX2_isOpen_0.at 17 rfl) ?_
    refine gk_iload_n (pc := 31) (DX2_isOpen_0.at 18 rfl) 3 rfl rfl ?_
    refine gk_iadd (pc := 32) (DX2_isOpen_0.at 19 rfl) ?_
    obtain ⟨n3, f3, q3, r3, hv⟩ := hv
    refine gk_iald (pc := 33) (DX2_isOpen_0.at 20 rfl) q3 r3 ?_
    generalize f3 _ = v3 at hv ⊢
    refine gk_if_eq (pc := 34) 39 (DX2_isOpen_0.at 21 rfl) (by decide) (fun c => ?_) (fun c => ?_)
    · replace hv := hv.1 c
      refine gk_iinc (pc := 39) (x3 + nI 1) [(3, .int (x3 + nI 1)), (0, .ref o), (1, .ref x1), (2, .int x2)] 3 (DX2_isOpen_0.at 24 rfl) rfl (by rw [ci_1]) (Nat.le_of_ble_eq_true rfl) rfl ?_
      refine gk_goto (pc := 42) 15 (DX2_isOpen_0.at 25 rfl) (by decide) ?_
      exact gk_pick (pc := 15) [(0, .ref o), (1, .ref x1), (2, .int x2), (3, .int (x3 + nI 1))] [1, 2, 3, 0] rfl hv
    · replace hv := hv.2 c
      refine gk_iconst (pc := 37) (nI 1) (DX2_isOpen_0.at 22 rfl) ci_1 ?_
      exact gk_ireturn (pc := 38) .boolean (DX2_isOpen_0.at 23 rfl) rfl rfl ⟨_, rfl, hv⟩
set_option maxHeartbeats 4000000 in
theorem vX2_isWon_0 {E : gk_E} {dd : Nat} {o : Nat} {x1 : Nat} {x2 : Int32}  {h : gk_H} {K : Int32 → gk_H → Prop} (hv : LdR h o 2 2 fun v1 => (∃ fs, h[v1]? = some (.inr (3, fs))) ∧ RnV E mX3_become (dd, 0, 0) [.ref v1, .ref x1] h (fun h2 => (∃ fs, h2[o]? = some (.inr (2, fs))) ∧ RnI E mX2_outlives (dd, 0, 0) [.ref o, .int x2] h2 (fun v3 h3 => (bz v3 ∧ K v3 h3)))) : RnI E mX2_isWon (dd + 1, 0, 0) [.ref o, .ref x1, .int x2] h K := by
  show gk_G E mX2_isWon (dd + 1, 0, 0) 0 [(0, .ref o), (1, .ref x1), (2, .int x2)] [] h (fun o h1 => ∃ v, o = some (.int v) ∧ K v h1)
  refine gk_aload_n (pc := 0) (DX2_isWon_0.at 0 rfl) 0 rfl rfl ?_
  obtain ⟨fs1, v1, q1, r1, hv⟩ := hv
  refine gk_get (pc := 1) (.ref v1) (DX2_isWon_0.at 1 rfl) fX2_12_2 q1 r1 ?_
  refine gk_aload_n (pc := 4) (DX2_isWon_0.at 2 rfl) 1 rfl rfl ?_
  obtain ⟨⟨fs2, q2⟩, hv⟩ := hv
  refine gk_vV (pc := 5) [.ref x1] [] (DX2_isWon_0.at 3 rfl) cvX2_46 q2 rfl rfl (Nat.le_of_ble_eq_true rfl) (Nat.le_of_ble_eq_true rfl) (gk_Run.post (fun o h2 z => ?_) hv)
  obtain ⟨rfl, hv⟩ := z
  refine gk_aload_n (pc := 8) (DX2_isWon_0.at 4 rfl) 0 rfl rfl ?_
  refine gk_iload_n (pc := 9) (DX2_isWon_0.at 5 rfl) 2 rfl rfl ?_
  obtain ⟨⟨fs3, q3⟩, hv⟩ := hv
  refine gk_vV (pc := 10) [.int x2] [] (DX2_isWon_0.at 6 rfl) cvX2_50 q3 rfl rfl (Nat.le_of_ble_eq_true rfl) (Nat.le_of_ble_eq_true rfl) (gk_Run.post (fun o h3 z => ?_) hv)
  obtain ⟨v3, rfl, hv⟩ := z
  exact gk_ireturn (pc := 13) .boolean (DX2_isWon_0.at 7 rfl) rfl (bz_n hv.1) ⟨_, rfl, hv.2⟩
abbrev pX2_outlives_55 (E : gk_E) (dd : Nat) (o : Nat) (x1 : Int32) (x2 : Nat) (x3 : Nat) (x4 : Int32) (x5 : Int32) (x6 : Int32) (h : gk_H) (K : Int32 → gk_H → Prop) : Prop := gk_G E mX2_outlives (dd + 1, 0, 0) 55 [(0, .ref o), (1, .int x1), (2, .ref x2), (3, .ref x3), (4, .int x4), (5, .int x5), (6, .int x6)] [] h (fun o h1 => ∃ v, o = some (.int v) ∧ K v h1)
set_option maxHeartbeats 4000000 in
theorem vX2_outlives_0 {E : gk_E} {dd : Nat} {o : Nat} {x1 : Int32}  {h : gk_H} {K : Int32 → gk_H → Prop} (hv : (x1 < (nI 1) → K (nI 1) h) ∧ (¬ x1 < (nI 1) → (x1 ≤ (nI 2) → LdR h o 2 4 fun v1 => AlR 7 h v1 (x1 - (nI 1)) fun v2 => LdR h o 2 3 fun v3 => AlR 6 h v3 (x1 - (nI 1)) fun v4 => (∃ fs, h[o]? = some (.inr (2, fs))) ∧ RnV E mX2_findGaps (dd, 0, 0) [.ref o, .ref v2] h (fun h5 => (∃ fs, h5[v4]? = some (.inr (6, fs))) ∧ RnV E mX6_spanAll (dd, 0, 0) [.ref v4] h5 (fun h6 => (∃ fs, h6[o]? = some (.inr (2, fs))) ∧ RnI E mX2_isOpen (dd, 0, 0) [.ref o, .ref v2] h6 (fun v7 h7 => (∃ fs, h7[v4]? = some (.inr (6, fs))) ∧ RnI E mX10_first (dd, 0, 0) [.ref v4] h7 (fun v8 h8 => pX2_outlives_55 E dd o x1 v2 v4 v7 v8 (nI 0) h8 K))))) ∧ (¬ x1 ≤ (nI 2) → K (nI 1) h))) : RnI E mX2_outlives (dd + 1, 0, 0) [.ref o, .int x1] h K := by
  show gk_G E mX2_outlives (dd + 1, 0, 0) 0 [(0, .ref o), (1, .int x1)] [] h (fun o h1 => ∃ v, o = some (.int v) ∧ K v h1)
  refine gk_iload_n (pc := 0) (DX2_outlives_0.at 0 rfl) 1 rfl rfl ?_
  refine gk_iconst (pc := 1) (nI 1) (DX2_outlives_0.at 1 rfl) ci_1 ?_
  refine gk_icmp_lt (pc := 2) 10 (DX2_outlives_0.at 2 rfl) (by decide) (fun c => ?_) (fun c => ?_)
  · replace hv := hv.1 c
    refine gk_iconst (pc := 10) (nI 1) (DX2_outlives_0.at 6 rfl) ci_1 ?_
    exact gk_ireturn (pc := 11) .boolean (DX2_outlives_0.at 7 rfl) rfl rfl ⟨_, rfl, hv⟩
  · replace hv := hv.2 c
    refine gk_iload_n (pc := 5) (DX2_outlives_0.at 3 rfl) 1 rfl rfl ?_
    refine gk_iconst (pc := 6) (nI 2) (DX2_outlives_0.at 4 rfl) ci_2 ?_
    refine gk_icmp_le (pc := 7) 12 (DX2_outlives_0.at 5 rfl) (by decide) (fun c => ?_) (fun c => ?_)
    · replace hv := hv.1 c
      refine gk_aload_n (pc := 12) (DX2_outlives_0.at 8 rfl) 0 rfl rfl ?_
      obtain ⟨fs1, v1, q1, r1, hv⟩ := hv
      refine gk_get (pc := 13) (.ref v1) (DX2_outlives_0.at 9 rfl) fX2_26_2 q1 r1 ?_
      refine gk_iload_n (pc := 16) (DX2_outlives_0.at 10 rfl) 1 rfl rfl ?_
      refine gk_iconst (pc := 17) (nI 1) (DX2_outlives_0.at 11 rfl) ci_1 ?_
      refine gk_isub (pc := 18) (DX2_outlives_0.at 12 rfl) ?_
      obtain ⟨n2, f2, v2, q2, r2, e2, hv⟩ := hv
      refine gk_aald7 (pc := 19) v2 (DX2_outlives_0.at 13 rfl) q2 r2 e2 ?_
      refine gk_astore_n (pc := 20) [(2, .ref v2), (0, .ref o), (1, .int x1)] (DX2_outlives_0.at 14 rfl) rfl (Nat.le_of_ble_eq_true rfl) rfl ?_
      refine gk_aload_n (pc := 21) (DX2_outlives_0.at 15 rfl) 1 rfl rfl ?_
      obtain ⟨fs3, v3, q3, r3, hv⟩ := hv
      refine gk_get (pc := 22) (.ref v3) (DX2_outlives_0.at 16 rfl) fX2_20_2 q3 r3 ?_
      refine gk_iload_n (pc := 25) (DX2_outlives_0.at 17 rfl) 2 rfl rfl ?_
      refine gk_iconst (pc := 26) (nI 1) (DX2_outlives_0.at 18 rfl) ci_1 ?_
      refine gk_isub (pc := 27) (DX2_outlives_0.at 19 rfl) ?_
      obtain ⟨n4, f4, v4, q4, r4, e4, hv⟩ := hv
      refine gk_aald6 (pc := 28) v4 (DX2_outlives_0.at 20 rfl) q4 r4 e4 ?_
      refine gk_astore_n (pc := 29) [(3, .ref v4), (2, .ref v2), (0, .ref o), (1, .int x1)] (DX2_outlives_0.at 21 rfl) rfl (Nat.le_of_ble_eq_true rfl) rfl ?_
      refine gk_aload_n (pc := 30) (DX2_outlives_0.at 22 rfl) 2 rfl rfl ?_
      refine gk_aload_n (pc := 31) (DX2_outlives_0.at 23 rfl) 1 rfl rfl ?_
      obtain ⟨⟨fs5, q5⟩, hv⟩ := hv
      refine gk_vV (pc := 32) [.ref v2] [] (DX2_outlives_0.at 24 rfl) cvX2_54 q5 rfl rfl (Nat.le_of_ble_eq_true rfl) (Nat.le_of_ble_eq_true rfl) (gk_Run.post (fun o h5 z => ?_) hv)
      obtain ⟨rfl, hv⟩ := z
      refine gk_aload_n (pc := 35) (DX2_outlives_0.at 25 rfl) 0 rfl rfl ?_
      obtain ⟨⟨fs6, q6⟩, hv⟩ := hv
      refine gk_vV (pc := 36) [] [] (DX2_outlives_0.at 26 rfl) cvX2_58 q6 rfl rfl (Nat.le_of_ble_eq_true rfl) (Nat.le_of_ble_eq_true rfl) (gk_Run.post (fun o h6 z => ?_) hv)
      obtain ⟨rfl, hv⟩ := z
      refine gk_aload_n (pc := 39) (DX2_outlives_0.at 27 rfl) 2 rfl rfl ?_
      refine gk_aload_n (pc := 40) (DX2_outlives_0.at 28 rfl) 1 rfl rfl ?_
      obtain ⟨⟨fs7, q7⟩, hv⟩ := hv
      refine gk_vV (pc := 41) [.ref v2] [] (DX2_outlives_0.at 29 rfl) cvX2_61 q7 rfl rfl (Nat.le_of_ble_eq_true rfl) (Nat.le_of_ble_eq_true rfl) (gk_Run.post (fun o h7 z => ?_) hv)
      obtain ⟨v7, rfl, hv⟩ := z
      refine gk_istore (pc := 44) [(4, .int v7), (3, .ref v4), (2, .ref v2), (0, .ref o), (1, .int x1)] (DX2_outlives_0.at 30 rfl) (Nat.le_of_ble_eq_true rfl) rfl ?_
      refine gk_aload_n (pc := 46) (DX2_outlives_0.at 31 rfl) 1 rfl rfl ?_
      obtain ⟨⟨fs8, q8⟩, hv⟩ := hv
      refine gk_vU (pc := 47) [] [] (DX2_outlives_0.at 32 rfl) cuX2_65_6 q8 rfl rfl (Nat.le_of_ble_eq_true rfl) (Nat.le_of_ble_eq_true rfl) (gk_Run.post (fun o h8 z => ?_) hv)
      obtain ⟨v8, rfl, hv⟩ := z
      refine gk_istore (pc := 50) [(5, .int v8), (4, .int v7), (3, .ref v4), (2, .ref v2), (0, .ref o), (1, .int x1)] (DX2_outlives_0.at 33 rfl) (Nat.le_of_ble_eq_true rfl) rfl ?_
      refine gk_iconst (pc := 52) (nI 0) (DX2_outlives_0.at 34 rfl) ci_0 ?_
      refine gk_istore (pc := 53) [(6, .int (nI 0)), (5, .int v8), (4, .int v7), (3, .ref v4), (2, .ref v2), (0, .ref o), (1, .int x1)] (DX2_outlives_0.at 35 rfl) (Nat.le_of_ble_eq_true rfl) rfl ?_
      exact gk_pick (pc := 55) [(0, .ref o), (1, .int x1), (2, .ref v2), (3, .ref v4), (4, .int v7), (5, .int v8), (6, .int (nI 0))] [5, 6, 4, 3, 2, 1, 0] rfl hv
    · replace hv := hv.2 c
      refine gk_iconst (pc := 10) (nI 1) (DX2_outlives_0.at 6 rfl) ci_1 ?_
      exact gk_ireturn (pc := 11) .boolean (DX2_outlives_0.at 7 rfl) rfl rfl ⟨_, rfl, hv⟩
set_option maxHeartbeats 4000000 in
theorem vX2_outlives_55 {E : gk_E} {dd : Nat} {o : Nat} {x1 : Int32} {x2 : Nat} {x3 : Nat} {x4 : Int32} {x5 : Int32} {x6 : Int32}  {h : gk_H} {K : Int32 → gk_H → Prop} (hv : ((nI 1000000) ≤ x6 → (¬ x4 = 0 → K (nI 0) h) ∧ (x4 = 0 → K (nI 1) h)) ∧ (¬ (nI 1000000) ≤ x6 → (x5 = 0 → (¬ x4 = 0 → K (nI 0) h) ∧ (x4 = 0 → K (nI 1) h)) ∧ (¬ x5 = 0 → (x4 = 0 → (¬ x4 = 0 → K (nI 0) h) ∧ (x4 = 0 → K (nI 1) h)) ∧ (¬ x4 = 0 → LdR h x3 6 1 fun v1 => (∃ fs, h[o]? = some (.inr (2, fs))) ∧ RnI E mX2_answers (dd, 0, 0) [.ref o, .ref x2, .ref v1] h (fun v2 h2 => (v2 = 0 → (∃ fs, h2[x3]? = some (.inr (6, fs))) ∧ RnI E mX10_next (dd, 0, 0) [.ref x3] h2 (fun v3 h3 => pX2_outlives_55 E dd o x1 x2 x3 x4 v3 (x6 + nI 1) h3 K)) ∧ (¬ v2 = 0 → LdR h2 x3 6 1 fun v4 => (∃ fs, h2[o]? = some (.inr (2, fs))) ∧ RnI E mX2_stands (dd, 0, 0) [.ref o, .ref v4, .int (x1 - (nI 1))] h2 (fun v5 h5 => (v5 = 0 → (∃ fs, h5[x3]? = some (.inr (6, fs))) ∧ RnI E mX10_next (dd, 0, 0) [.ref x3] h5 (fun v6 h6 => pX2_outlives_55 E dd o x1 x2 x3 x4 v6 (x6 + nI 1) h6 K)) ∧ (¬ v5 = 0 → LdR h5 x3 6 1 fun v7 => (∃ fs, h5[o]? = some (.inr (2, fs))) ∧ RnV E mX2_strike (dd, 0, 0) [.ref o, .ref x2, .ref v7] h5 (fun h8 => (∃ fs, h8[o]? = some (.inr (2, fs))) ∧ RnI E mX2_isOpen (dd, 0, 0) [.ref o, .ref x2] h8 (fun v9 h9 => (∃ fs, h9[x3]? = some (.inr (6, fs))) ∧ RnI E mX10_next (dd, 0, 0) [.ref x3] h9 (fun v10 h10 => pX2_outlives_55 E dd o x1 x2 x3 v9 v10 (x6 + nI 1) h10 K))))))))))) : pX2_outlives_55 E dd o x1 x2 x3 x4 x5 x6 h K := by
  show gk_G E mX2_outlives (dd + 1, 0, 0) 55 [(0, .ref o), (1, .int x1), (2, .ref x2), (3, .ref x3), (4, .int x4), (5, .int x5), (6, .int x6)] [] h (fun o h1 => ∃ v, o = some (.int v) ∧ K v h1)
  refine gk_iload (pc := 55) (DX2_outlives_0.at 36 rfl) 6 rfl ?_
  refine gk_ldc (pc := 57) (nI 1000000) (DX2_outlives_0.at 37 rfl) kcX2_69 ?_
  refine gk_icmp_ge (pc := 59) 126 (DX2_outlives_0.at 38 rfl) (by decide) (fun c => ?_) (fun c => ?_)
  · replace hv := hv.1 c
    refine gk_iload (pc := 126) (DX2_outlives_1.at 11 rfl) 4 rfl ?_
    refine gk_if_ne (pc := 128) 135 (DX2_outlives_1.at 12 rfl) (by decide) (fun c => ?_) (fun c => ?_)
    · replace hv := hv.1 c
      refine gk_iconst (pc := 135) (nI 0) (DX2_outlives_1.at 15 rfl) ci_0 ?_
      exact gk_ireturn (pc := 136) .boolean (DX2_outlives_1.at 16 rfl) rfl rfl ⟨_, rfl, hv⟩
    · replace hv := hv.2 c
      refine gk_iconst (pc := 131) (nI 1) (DX2_outlives_1.at 13 rfl) ci_1 ?_
      refine gk_goto (pc := 132) 136 (DX2_outlives_1.at 14 rfl) (by decide) ?_
      exact gk_ireturn (pc := 136) .boolean (DX2_outlives_1.at 16 rfl) rfl rfl ⟨_, rfl, hv⟩
  · replace hv := hv.2 c
    refine gk_iload (pc := 62) (DX2_outlives_0.at 39 rfl) 5 rfl ?_
    refine gk_if_eq (pc := 64) 126 (DX2_outlives_0.at 40 rfl) (by decide) (fun c => ?_) (fun c => ?_)
    · replace hv := hv.1 c
      refine gk_iload (pc := 126) (DX2_outlives_1.at 11 rfl) 4 rfl ?_
      refine gk_if_ne (pc := 128) 135 (DX2_outlives_1.at 12 rfl) (by decide) (fun c => ?_) (fun c => ?_)
      · replace hv := hv.1 c
        refine gk_iconst (pc := 135) (nI 0) (DX2_outlives_1.at 15 rfl) ci_0 ?_
        exact gk_ireturn (pc := 136) .boolean (DX2_outlives_1.at 16 rfl) rfl rfl ⟨_, rfl, hv⟩
      · replace hv := hv.2 c
        refine gk_iconst (pc := 131) (nI 1) (DX2_outlives_1.at 13 rfl) ci_1 ?_
        refine gk_goto (pc := 132) 136 (DX2_outlives_1.at 14 rfl) (by decide) ?_
        exact gk_ireturn (pc := 136) .boolean (DX2_outlives_1.at 16 rfl) rfl rfl ⟨_, rfl, hv⟩
    · replace hv := hv.2 c
      refine gk_iload (pc := 67) (DX2_outlives_0.at 41 rfl) 4 rfl ?_
      refine gk_if_eq (pc := 69) 126 (DX2_outlives_0.at 42 rfl) (by decide) (fun c => ?_) (fun c => ?_)
      · replace hv := hv.1 c
        refine gk_iload (pc := 126) (DX2_outlives_1.at 11 rfl) 4 rfl ?_
        refine gk_if_ne (pc := 128) 135 (DX2_outlives_1.at 12 rfl) (by decide) (fun c => ?_) (fun c => ?_)
        · replace hv := hv.1 c
          refine gk_iconst (pc := 135) (nI 0) (DX2_outlives_1.at 15 rfl) ci_0 ?_
          exact gk_ireturn (pc := 136) .boolean (DX2_outlives_1.at 16 rfl) rfl rfl ⟨_, rfl, hv⟩
        · replace hv := hv.2 c
          refine gk_iconst (pc := 131) (nI 1) (DX2_outlives_1.at 13 rfl) ci_1 ?_
          refine gk_goto (pc := 132) 136 (DX2_outlives_1.at 14 rfl) (by decide) ?_
          exact gk_ireturn (pc := 136) .boolean (DX2_outlives_1.at 16 rfl) rfl rfl ⟨_, rfl, hv⟩
      · replace hv := hv.2 c
        refine gk_aload_n (pc := 72) (DX2_outlives_0.at 43 rfl) 0 rfl rfl ?_
        refine gk_aload_n (pc := 73) (DX2_outlives_0.at 44 rfl) 2 rfl rfl ?_
        refine gk_aload_n (pc := 74) (DX2_outlives_0.at 45 rfl) 3 rfl rfl ?_
        obtain ⟨fs1, v1, q1, r1, hv⟩ := hv
        refine gk_get (pc := 75) (.ref v1) (DX2_outlives_0.at 46 rfl) fX2_70_6 q1 r1 ?_
        obtain ⟨⟨fs2, q2⟩, hv⟩ := hv
        refine gk_vV (pc := 78) [.ref x2, .ref v1] [] (DX2_outlives_0.at 47 rfl) cvX2_74 q2 rfl rfl (Nat.le_of_ble_eq_true rfl) (Nat.le_of_ble_eq_true rfl) (gk_Run.post (fun o h2 z => ?_) hv)
        obtain ⟨v2, rfl, hv⟩ := z
        refine gk_if_eq (pc := 81) 114 (DX2_outlives_0.at 48 rfl) (by decide) (fun c => ?_) (fun c => ?_)
        · replace hv := hv.1 c
          refine gk_aload_n (pc := 114) (DX2_outlives_1.at 6 rfl) 3 rfl rfl ?_
          obtain ⟨⟨fs3, q3⟩, hv⟩ := hv
          refine gk_vU (pc := 115) [] [] (DX2_outlives_1.at 7 rfl) cuX2_86_6 q3 rfl rfl (Nat.le_of_ble_eq_true rfl) (Nat.le_of_ble_eq_true rfl) (gk_Run.post (fun o h3 z => ?_) hv)
          obtain ⟨v3, rfl, hv⟩ := z
          refine gk_istore (pc := 118) [(5, .int v3), (0, .ref o), (1, .int x1), (2, .ref x2), (3, .ref x3), (4, .int x4), (6, .int x6)] (DX2_outlives_1.at 8 rfl) (Nat.le_of_ble_eq_true rfl) rfl ?_
          refine gk_iinc (pc := 120) (x6 + nI 1) [(6, .int (x6 + nI 1)), (5, .int v3), (0, .ref o), (1, .int x1), (2, .ref x2), (3, .ref x3), (4, .int x4)] 6 (DX2_outlives_1.at 9 rfl) rfl (by rw [ci_1]) (Nat.le_of_ble_eq_true rfl) rfl ?_
          refine gk_goto (pc := 123) 55 (DX2_outlives_1.at 10 rfl) (by decide) ?_
          exact gk_pick (pc := 55) [(0, .ref o), (1, .int x1), (2, .ref x2), (3, .ref x3), (4, .int x4), (5, .int v3), (6, .int (x6 + nI 1))] [2, 3, 4, 5, 6, 1, 0] rfl hv
        · replace hv := hv.2 c
          refine gk_aload_n (pc := 84) (DX2_outlives_0.at 49 rfl) 0 rfl rfl ?_
          refine gk_aload_n (pc := 85) (DX2_outlives_0.at 50 rfl) 3 rfl rfl ?_
          obtain ⟨fs4, v4, q4, r4, hv⟩ := hv
          refine gk_get (pc := 86) (.ref v4) (DX2_outlives_0.at 51 rfl) fX2_70_6 q4 r4 ?_
          refine gk_iload_n (pc := 89) (DX2_outlives_0.at 52 rfl) 1 rfl rfl ?_
          refine gk_iconst (pc := 90) (nI 1) (DX2_outlives_0.at 53 rfl) ci_1 ?_
          refine gk_isub (pc := 91) (DX2_outlives_0.at 54 rfl) ?_
          obtain ⟨⟨fs5, q5⟩, hv⟩ := hv
          refine gk_vV (pc := 92) [.ref v4, .int (x1 - (nI 1))] [] (DX2_outlives_0.at 55 rfl) cvX2_78 q5 rfl rfl (Nat.le_of_ble_eq_true rfl) (Nat.le_of_ble_eq_true rfl) (gk_Run.post (fun o h5 z => ?_) hv)
          obtain ⟨v5, rfl, hv⟩ := z
          refine gk_if_eq (pc := 95) 114 (DX2_outlives_0.at 56 rfl) (by decide) (fun c => ?_) (fun c => ?_)
          · replace hv := hv.1 c
            refine gk_aload_n (pc := 114) (DX2_outlives_1.at 6 rfl) 3 rfl rfl ?_
            obtain ⟨⟨fs6, q6⟩, hv⟩ := hv
            refine gk_vU (pc := 115) [] [] (DX2_outlives_1.at 7 rfl) cuX2_86_6 q6 rfl rfl (Nat.le_of_ble_eq_true rfl) (Nat.le_of_ble_eq_true rfl) (gk_Run.post (fun o h6 z => ?_) hv)
            obtain ⟨v6, rfl, hv⟩ := z
            refine gk_istore (pc := 118) [(5, .int v6), (0, .ref o), (1, .int x1), (2, .ref x2), (3, .ref x3), (4, .int x4), (6, .int x6)] (DX2_outlives_1.at 8 rfl) (Nat.le_of_ble_eq_true rfl) rfl ?_
            refine gk_iinc (pc := 120) (x6 + nI 1) [(6, .int (x6 + nI 1)), (5, .int v6), (0, .ref o), (1, .int x1), (2, .ref x2), (3, .ref x3), (4, .int x4)] 6 (DX2_outlives_1.at 9 rfl) rfl (by rw [ci_1]) (Nat.le_of_ble_eq_true rfl) rfl ?_
            refine gk_goto (pc := 123) 55 (DX2_outlives_1.at 10 rfl) (by decide) ?_
            exact gk_pick (pc := 55) [(0, .ref o), (1, .int x1), (2, .ref x2), (3, .ref x3), (4, .int x4), (5, .int v6), (6, .int (x6 + nI 1))] [2, 3, 4, 5, 6, 1, 0] rfl hv
          · replace hv := hv.2 c
            refine gk_aload_n (pc := 98) (DX2_outlives_0.at 57 rfl) 0 rfl rfl ?_
            refine gk_aload_n (pc := 99) (DX2_outlives_0.at 58 rfl) 2 rfl rfl ?_
            refine gk_aload_n (pc := 100) (DX2_outlives_0.at 59 rfl) 3 rfl rfl ?_
            obtain ⟨fs7, v7, q7, r7, hv⟩ := hv
            refine gk_get (pc := 101) (.ref v7) (DX2_outlives_1.at 0 rfl) fX2_70_6 q7 r7 ?_
            obtain ⟨⟨fs8, q8⟩, hv⟩ := hv
            refine gk_vV (pc := 104) [.ref x2, .ref v7] [] (DX2_outlives_1.at 1 rfl) cvX2_82 q8 rfl rfl (Nat.le_of_ble_eq_true rfl) (Nat.le_of_ble_eq_true rfl) (gk_Run.post (fun o h8 z => ?_) hv)
            obtain ⟨rfl, hv⟩ := z
            refine gk_aload_n (pc := 107) (DX2_outlives_1.at 2 rfl) 0 rfl rfl ?_
            refine gk_aload_n (pc := 108) (DX2_outlives_1.at 3 rfl) 2 rfl rfl ?_
            obtain ⟨⟨fs9, q9⟩, hv⟩ := hv
            refine gk_vV (pc := 109) [.ref x2] [] (DX2_outlives_1.at 4 rfl) cvX2_61 q9 rfl rfl (Nat.le_of_ble_eq_true rfl) (Nat.le_of_ble_eq_true rfl) (gk_Run.post (fun o h9 z => ?_) hv)
            obtain ⟨v9, rfl, hv⟩ := z
            refine gk_istore (pc := 112) [(4, .int v9), (0, .ref o), (1, .int x1), (2, .ref x2), (3, .ref x3), (5, .int x5), (6, .int x6)] (DX2_outlives_1.at 5 rfl) (Nat.le_of_ble_eq_true rfl) rfl ?_
            refine gk_aload_n (pc := 114) (DX2_outlives_1.at 6 rfl) 4 rfl rfl ?_
            obtain ⟨⟨fs10, q10⟩, hv⟩ := hv
            refine gk_vU (pc := 115) [] [] (DX2_outlives_1.at 7 rfl) cuX2_86_6 q10 rfl rfl (Nat.le_of_ble_eq_true rfl) (Nat.le_of_ble_eq_true rfl) (gk_Run.post (fun o h10 z => ?_) hv)
            obtain ⟨v10, rfl, hv⟩ := z
            refine gk_istore (pc := 118) [(5, .int v10), (4, .int v9), (0, .ref o), (1, .int x1), (2, .ref x2), (3, .ref x3), (6, .int x6)] (DX2_outlives_1.at 8 rfl) (Nat.le_of_ble_eq_true rfl) rfl ?_
            refine gk_iinc (pc := 120) (x6 + nI 1) [(6, .int (x6 + nI 1)), (5, .int v10), (4, .int v9), (0, .ref o), (1, .int x1), (2, .ref x2), (3, .ref x3)] 6 (DX2_outlives_1.at 9 rfl) rfl (by rw [ci_1]) (Nat.le_of_ble_eq_true rfl) rfl ?_
            refine gk_goto (pc := 123) 55 (DX2_outlives_1.at 10 rfl) (by decide) ?_
            exact gk_pick (pc := 55) [(0, .ref o), (1, .int x1), (2, .ref x2), (3, .ref x3), (4, .int v9), (5, .int v10), (6, .int (x6 + nI 1))] [3, 4, 5, 6, 2, 1, 0] rfl hv
set_option maxHeartbeats 4000000 in
theorem vX2_stands_0 {E : gk_E} {dd : Nat} {o : Nat} {x1 : Nat} {x2 : Int32}  {h : gk_H} {K : Int32 → gk_H → Prop} (hv : LdR h o 2 2 fun v1 => LdR h o 2 0 fun v2 => LdR h v2 7 0 fun v3 => (∃ fs, h[v1]? = some (.inr (3, fs))) ∧ RnV E mX3_grow (dd, 0, 0) [.ref v1, .ref x1, .ref v3] h (fun h4 => LdR h4 o 2 1 fun v5 => LdR h4 o 2 2 fun v6 => (∃ fs, h4[v5]? = some (.inr (4, fs))) ∧ RnI E mX4_isBarred (dd, 0, 0) [.ref v5, .ref v6] h4 (fun v7 h7 => (¬ v7 = 0 → LdR h7 o 2 2 fun v8 => LdI h7 v8 3 0 fun v9 => StI h7 v8 3 0 (v9 - (nI 1)) fun h10 => K (nI 0) h10) ∧ (v7 = 0 → (∃ fs, h7[o]? = some (.inr (2, fs))) ∧ RnI E mX2_outlives (dd, 0, 0) [.ref o, .int x2] h7 (fun v11 h11 => (v11 = 0 → LdR h11 o 2 2 fun v12 => LdI h11 v12 3 0 fun v13 => StI h11 v12 3 0 (v13 - (nI 1)) fun h14 => K (nI 0) h14) ∧ (¬ v11 = 0 → LdR h11 o 2 2 fun v15 => LdI h11 v15 3 0 fun v16 => StI h11 v15 3 0 (v16 - (nI 1)) fun h17 => K (nI 1) h17)))))) : RnI E mX2_stands (dd + 1, 0, 0) [.ref o, .ref x1, .int x2] h K := by
  show gk_G E mX2_stands (dd + 1, 0, 0) 0 [(0, .ref o), (1, .ref x1), (2, .int x2)] [] h (fun o h1 => ∃ v, o = some (.int v) ∧ K v h1)
  refine gk_aload_n (pc := 0) (DX2_stands_0.at 0 rfl) 0 rfl rfl ?_
  obtain ⟨fs1, v1, q1, r1, hv⟩ := hv
  refine gk_get (pc := 1) (.ref v1) (DX2_stands_0.at 1 rfl) fX2_12_2 q1 r1 ?_
  refine gk_aload_n (pc := 4) (DX2_stands_0.at 2 rfl) 1 rfl rfl ?_
  refine gk_aload_n (pc := 5) (DX2_stands_0.at 3 rfl) 0 rfl rfl ?_
  obtain ⟨fs2, v2, q2, r2, hv⟩ := hv
  refine gk_get (pc := 6) (.ref v2) (DX2_stands_0.at 4 rfl) fX2_29_2 q2 r2 ?_
  obtain ⟨fs3, v3, q3, r3, hv⟩ := hv
  refine gk_get (pc := 9) (.ref v3) (DX2_stands_0.at 5 rfl) fX2_37_7 q3 r3 ?_
  obtain ⟨⟨fs4, q4⟩, hv⟩ := hv
  refine gk_vV (pc := 12) [.ref x1, .ref v3] [] (DX2_stands_0.at 6 rfl) cvX2_102 q4 rfl rfl (Nat.le_of_ble_eq_true rfl) (Nat.le_of_ble_eq_true rfl) (gk_Run.post (fun o h4 z => ?_) hv)
  obtain ⟨rfl, hv⟩ := z
  refine gk_aload_n (pc := 15) (DX2_stands_0.at 7 rfl) 0 rfl rfl ?_
  obtain ⟨fs5, v5, q5, r5, hv⟩ := hv
  refine gk_get (pc := 16) (.ref v5) (DX2_stands_0.at 8 rfl) fX2_33_2 q5 r5 ?_
  refine gk_aload_n (pc := 19) (DX2_stands_0.at 9 rfl) 0 rfl rfl ?_
  obtain ⟨fs6, v6, q6, r6, hv⟩ := hv
  refine gk_get (pc := 20) (.ref v6) (DX2_stands_0.at 10 rfl) fX2_12_2 q6 r6 ?_
  obtain ⟨⟨fs7, q7⟩, hv⟩ := hv
  refine gk_vV (pc := 23) [.ref v6] [] (DX2_stands_0.at 11 rfl) cvX2_106 q7 rfl rfl (Nat.le_of_ble_eq_true rfl) (Nat.le_of_ble_eq_true rfl) (gk_Run.post (fun o h7 z => ?_) hv)
  obtain ⟨v7, rfl, hv⟩ := z
  refine gk_if_ne (pc := 26) 41 (DX2_stands_0.at 12 rfl) (by decide) (fun c => ?_) (fun c => ?_)
  · replace hv := hv.1 c
    refine gk_iconst (pc := 41) (nI 0) (DX2_stands_0.at 19 rfl) ci_0 ?_
    refine gk_istore_n (pc := 42) [(3, .int (nI 0)), (0, .ref o), (1, .ref x1), (2, .int x2)] (DX2_stands_0.at 20 rfl) rfl (Nat.le_of_ble_eq_true rfl) rfl ?_
    refine gk_aload_n (pc := 43) (DX2_stands_0.at 21 rfl) 1 rfl rfl ?_
    obtain ⟨fs8, v8, q8, r8, hv⟩ := hv
    refine gk_get (pc := 44) (.ref v8) (DX2_stands_0.at 22 rfl) fX2_12_2 q8 r8 ?_
    refine gk_dup (pc := 47) (DX2_stands_0.at 23 rfl) rfl ?_
    obtain ⟨fs9, v9, q9, r9, hv⟩ := hv
    refine gk_get (pc := 48) (.int v9) (DX2_stands_0.at 24 rfl) fX2_89_3 q9 r9 ?_
    refine gk_iconst (pc := 51) (nI 1) (DX2_stands_0.at 25 rfl) ci_1 ?_
    refine gk_isub (pc := 52) (DX2_stands_0.at 26 rfl) ?_
    obtain ⟨fs10, q10, r10, hv⟩ := hv
    refine gk_put (pc := 53) (DX2_stands_0.at 27 rfl) fX2_89_3w q10 r10 rfl rfl ?_
    generalize h7.set _ _ = h10 at hv ⊢
    refine gk_iload_n (pc := 56) (DX2_stands_0.at 28 rfl) 0 rfl rfl ?_
    exact gk_ireturn (pc := 57) .boolean (DX2_stands_0.at 29 rfl) rfl rfl ⟨_, rfl, hv⟩
  · replace hv := hv.2 c
    refine gk_aload_n (pc := 29) (DX2_stands_0.at 13 rfl) 0 rfl rfl ?_
    refine gk_iload_n (pc := 30) (DX2_stands_0.at 14 rfl) 2 rfl rfl ?_
    obtain ⟨⟨fs11, q11⟩, hv⟩ := hv
    refine gk_vV (pc := 31) [.int x2] [] (DX2_stands_0.at 15 rfl) cvX2_50 q11 rfl rfl (Nat.le_of_ble_eq_true rfl) (Nat.le_of_ble_eq_true rfl) (gk_Run.post (fun o h11 z => ?_) hv)
    obtain ⟨v11, rfl, hv⟩ := z
    refine gk_if_eq (pc := 34) 41 (DX2_stands_0.at 16 rfl) (by decide) (fun c => ?_) (fun c => ?_)
    · replace hv := hv.1 c
      refine gk_iconst (pc := 41) (nI 0) (DX2_stands_0.at 19 rfl) ci_0 ?_
      refine gk_istore_n (pc := 42) [(3, .int (nI 0)), (0, .ref o), (1, .ref x1), (2, .int x2)] (DX2_stands_0.at 20 rfl) rfl (Nat.le_of_ble_eq_true rfl) rfl ?_
      refine gk_aload_n (pc := 43) (DX2_stands_0.at 21 rfl) 1 rfl rfl ?_
      obtain ⟨fs12, v12, q12, r12, hv⟩ := hv
      refine gk_get (pc := 44) (.ref v12) (DX2_stands_0.at 22 rfl) fX2_12_2 q12 r12 ?_
      refine gk_dup (pc := 47) (DX2_stands_0.at 23 rfl) rfl ?_
      obtain ⟨fs13, v13, q13, r13, hv⟩ := hv
      refine gk_get (pc := 48) (.int v13) (DX2_stands_0.at 24 rfl) fX2_89_3 q13 r13 ?_
      refine gk_iconst (pc := 51) (nI 1) (DX2_stands_0.at 25 rfl) ci_1 ?_
      refine gk_isub (pc := 52) (DX2_stands_0.at 26 rfl) ?_
      obtain ⟨fs14, q14, r14, hv⟩ := hv
      refine gk_put (pc := 53) (DX2_stands_0.at 27 rfl) fX2_89_3w q14 r14 rfl rfl ?_
      generalize h11.set _ _ = h14 at hv ⊢
      refine gk_iload_n (pc := 56) (DX2_stands_0.at 28 rfl) 0 rfl rfl ?_
      exact gk_ireturn (pc := 57) .boolean (DX2_stands_0.at 29 rfl) rfl rfl ⟨_, rfl, hv⟩
    · replace hv := hv.2 c
      refine gk_iconst (pc := 37) (nI 1) (DX2_stands_0.at 17 rfl) ci_1 ?_
      refine gk_goto (pc := 38) 42 (DX2_stands_0.at 18 rfl) (by decide) ?_
      refine gk_istore_n (pc := 42) [(3, .int (nI 1)), (0, .ref o), (1, .ref x1), (2, .int x2)] (DX2_stands_0.at 20 rfl) rfl (Nat.le_of_ble_eq_true rfl) rfl ?_
      refine gk_aload_n (pc := 43) (DX2_stands_0.at 21 rfl) 1 rfl rfl ?_
      obtain ⟨fs15, v15, q15, r15, hv⟩ := hv
      refine gk_get (pc := 44) (.ref v15) (DX2_stands_0.at 22 rfl) fX2_12_2 q15 r15 ?_
      refine gk_dup (pc := 47) (DX2_stands_0.at 23 rfl) rfl ?_
      obtain ⟨fs16, v16, q16, r16, hv⟩ := hv
      refine gk_get (pc := 48) (.int v16) (DX2_stands_0.at 24 rfl) fX2_89_3 q16 r16 ?_
      refine gk_iconst (pc := 51) (nI 1) (DX2_stands_0.at 25 rfl) ci_1 ?_
      refine gk_isub (pc := 52) (DX2_stands_0.at 26 rfl) ?_
      obtain ⟨fs17, q17, r17, hv⟩ := hv
      refine gk_put (pc := 53) (DX2_stands_0.at 27 rfl) fX2_89_3w q17 r17 rfl rfl ?_
      generalize h11.set _ _ = h17 at hv ⊢
      refine gk_iload_n (pc := 56) (DX2_stands_0.at 28 rfl) 0 rfl rfl ?_
      exact gk_ireturn (pc := 57) .boolean (DX2_stands_0.at 29 rfl) rfl rfl ⟨_, rfl, hv⟩
abbrev pX2_strike_14 (E : gk_E) (dd : Nat) (o : Nat) (x1 : Nat) (x2 : Nat) (x3 : Nat) (x4 : Int32) (h : gk_H) (K : gk_H → Prop) : Prop := gk_G E mX2_strike (dd, 0, 0) 14 [(0, .ref o), (1, .ref x1), (2, .ref x2), (3, .ref x3), (4, .int x4)] [] h (fun o h1 => o = none ∧ K h1)
abbrev pX2_strike_30 (E : gk_E) (dd : Nat) (o : Nat) (x1 : Nat) (x2 : Nat) (x3 : Nat) (x4 : Int32) (x5 : Int32) (h : gk_H) (K : gk_H → Prop) : Prop := gk_G E mX2_strike (dd, 0, 0) 30 [(0, .ref o), (1, .ref x1), (2, .ref x2), (3, .ref x3), (4, .int x4), (5, .int x5)] [] h (fun o h1 => o = none ∧ K h1)
set_option maxHeartbeats 4000000 in
theorem vX2_strike_0 {E : gk_E} {dd : Nat} {o : Nat} {x1 : Nat} {x2 : Nat}  {h : gk_H} {K : gk_H → Prop} (hv : LdR h o 2 0 fun v1 => LdR h v1 7 0 fun v2 => LdR h v2 8 1 fun v3 => pX2_strike_14 E dd o x1 x2 v3 (nI 0) h K) : RnV E mX2_strike (dd, 0, 0) [.ref o, .ref x1, .ref x2] h K := by
  show gk_G E mX2_strike (dd, 0, 0) 0 [(0, .ref o), (1, .ref x1), (2, .ref x2)] [] h (fun o h1 => o = none ∧ K h1)
  refine gk_aload_n (pc := 0) (DX2_strike_0.at 0 rfl) 0 rfl rfl ?_
  obtain ⟨fs1, v1, q1, r1, hv⟩ := hv
  refine gk_get (pc := 1) (.ref v1) (DX2_strike_0.at 1 rfl) fX2_29_2 q1 r1 ?_
  obtain ⟨fs2, v2, q2, r2, hv⟩ := hv
  refine gk_get (pc := 4) (.ref v2) (DX2_strike_0.at 2 rfl) fX2_37_7 q2 r2 ?_
  obtain ⟨fs3, v3, q3, r3, hv⟩ := hv
  refine gk_get (pc := 7) (.ref v3) (DX2_strike_0.at 3 rfl) fX2_97_8 q3 r3 ?_
  refine gk_astore_n (pc := 10) [(3, .ref v3), (0, .ref o), (1, .ref x1), (2, .ref x2)] (DX2_strike_0.at 4 rfl) rfl (Nat.le_of_ble_eq_true rfl) rfl ?_
  refine gk_iconst (pc := 11) (nI 0) (DX2_strike_0.at 5 rfl) ci_0 ?_
  refine gk_istore (pc := 12) [(4, .int (nI 0)), (3, .ref v3), (0, .ref o), (1, .ref x1), (2, .ref x2)] (DX2_strike_0.at 6 rfl) (Nat.le_of_ble_eq_true rfl) rfl ?_
  exact gk_pick (pc := 14) [(0, .ref o), (1, .ref x1), (2, .ref x2), (3, .ref v3), (4, .int (nI 0))] [2, 3, 4, 1, 0] rfl hv
set_option maxHeartbeats 4000000 in
theorem vX2_strike_14 {E : gk_E} {dd : Nat} {o : Nat} {x1 : Nat} {x2 : Nat} {x3 : Nat} {x4 : Int32}  {h : gk_H} {K : gk_H → Prop} (hv : LdR h o 2 2 fun v1 => LdI h v1 3 0 fun v2 => (v2 ≤ x4 → K h) ∧ (¬ v2 ≤ x4 → pX2_strike_30 E dd o x1 x2 x3 x4 x4 h K)) : pX2_strike_14 E dd o x1 x2 x3 x4 h K := by
  show gk_G E mX2_strike (dd, 0, 0) 14 [(0, .ref o), (1, .ref x1), (2, .ref x2), (3, .ref x3), (4, .int x4)] [] h (fun o h1 => o = none ∧ K h1)
  refine gk_iload (pc := 14) (DX2_strike_0.at 7 rfl) 4 rfl ?_
  refine gk_aload_n (pc := 16) (DX2_strike_0.at 8 rfl) 0 rfl rfl ?_
  obtain ⟨fs1, v1, q1, r1, hv⟩ := hv
  refine gk_get (pc := 17) (.ref v1) (DX2_strike_0.at 9 rfl) fX2_12_2 q1 r1 ?_
  obtain ⟨fs2, v2, q2, r2, hv⟩ := hv
  refine gk_get (pc := 20) (.int v2) (DX2_strike_0.at 10 rfl) fX2_89_3 q2 r2 ?_
  refine gk_icmp_ge (pc := 23) 84 (DX2_strike_0.at 11 rfl) (by decide) (fun c => ?_) (fun c => ?_)
  · replace hv := hv.1 c
    exact gk_return (pc := 84) (DX2_strike_0.at 48 rfl) rfl ⟨rfl, hv⟩
  · replace hv := hv.2 c
    refine gk_iload (pc := 26) (DX2_strike_0.at 12 rfl) 4 rfl ?_
    refine gk_istore (pc := 28) [(5, .int x4), (0, .ref o), (1, .ref x1), (2, .ref x2), (3, .ref x3), (4, .int x4)] (DX2_strike_0.at 13 rfl) (Nat.le_of_ble_eq_true rfl) rfl ?_
    exact gk_pick (pc := 30) [(0, .ref o), (1, .ref x1), (2, .ref x2), (3, .ref x3), (4, .int x4), (5, .int x4)] [1, 2, 3, 4, 5, 0] rfl hv
set_option maxHeartbeats 4000000 in
theorem vX2_strike_30 {E : gk_E} {dd : Nat} {o : Nat} {x1 : Nat} {x2 : Nat} {x3 : Nat} {x4 : Int32} {x5 : Int32}  {h : gk_H} {K : gk_H → Prop} (hv : LdR h o 2 2 fun v1 => LdI h v1 3 0 fun v2 => (v2 ≤ x5 → pX2_strike_14 E dd o x1 x2 x3 (x4 + nI 1) h K) ∧ (¬ v2 ≤ x5 → AlI h x1 (((nI 6) * x4) + x5) fun v3 => AlI h x2 x4 fun v4 => AlI h x2 x5 fun v5 => AlI h x3 v5 fun v6 => AsI h x1 (((nI 6) * x4) + x5) (v3 &&& (((nI 1) <<< ((((nI 4) * v4) + v6) &&& 31)) ^^^ ((-1)))) fun h7 => pX2_strike_30 E dd o x1 x2 x3 x4 (x5 + nI 1) h7 K)) : pX2_strike_30 E dd o x1 x2 x3 x4 x5 h K := by
  show gk_G E mX2_strike (dd, 0, 0) 30 [(0, .ref o), (1, .ref x1), (2, .ref x2), (3, .ref x3), (4, .int x4), (5, .int x5)] [] h (fun o h1 => o = none ∧ K h1)
  refine gk_iload (pc := 30) (DX2_strike_0.at 14 rfl) 5 rfl ?_
  refine gk_aload_n (pc := 32) (DX2_strike_0.at 15 rfl) 0 rfl rfl ?_
  obtain ⟨fs1, v1, q1, r1, hv⟩ := hv
  refine gk_get (pc := 33) (.ref v1) (DX2_strike_0.at 16 rfl) fX2_12_2 q1 r1 ?_
  obtain ⟨fs2, v2, q2, r2, hv⟩ := hv
  refine gk_get (pc := 36) (.int v2) (DX2_strike_0.at 17 rfl) fX2_89_3 q2 r2 ?_
  refine gk_icmp_ge (pc := 39) 78 (DX2_strike_0.at 18 rfl) (by decide) (fun c => ?_) (fun c => ?_)
  · replace hv := hv.1 c
    refine gk_iinc (pc := 78) (x4 + nI 1) [(4, .int (x4 + nI 1)), (0, .ref o), (1, .ref x1), (2, .ref x2), (3, .ref x3), (5, .int x5)] 4 (DX2_strike_0.at 46 rfl) rfl (by rw [ci_1]) (Nat.le_of_ble_eq_true rfl) rfl ?_
    refine gk_goto (pc := 81) 14 (DX2_strike_0.at 47 rfl) (by decide) ?_
    exact gk_pick (pc := 14) [(0, .ref o), (1, .ref x1), (2, .ref x2), (3, .ref x3), (4, .int (x4 + nI 1))] [1, 2, 3, 4, 0] rfl hv
  · replace hv := hv.2 c
    refine gk_aload_n (pc := 42) (DX2_strike_0.at 19 rfl) 1 rfl rfl ?_
    refine gk_bipush (pc := 43) (nI 6) (DX2_strike_0.at 20 rfl) cb_6 ?_
    refine gk_iload (pc := 45) (DX2_strike_0.at 21 rfl) 4 rfl ?_
    refine gk_imul (pc := 47) (DX2_strike_0.at 22 rfl) ?_
    refine gk_iload (pc := 48) (DX2_strike_0.at 23 rfl) 5 rfl ?_
    refine gk_iadd (pc := 50) (DX2_strike_0.at 24 rfl) ?_
    refine gk_dup2 (pc := 51) (DX2_strike_0.at 25 rfl) rfl rfl ?_
    obtain ⟨n3, f3, q3, r3, hv⟩ := hv
    refine gk_iald (pc := 52) (DX2_strike_0.at 26 rfl) q3 r3 ?_
    generalize f3 _ = v3 at hv ⊢
    refine gk_iconst (pc := 53) (nI 1) (DX2_strike_0.at 27 rfl) ci_1 ?_
    refine gk_iconst (pc := 54) (nI 4) (DX2_strike_0.at 28 rfl) ci_4 ?_
    refine gk_aload_n (pc := 55) (DX2_strike_0.at 29 rfl) 2 rfl rfl ?_
    refine gk_iload (pc := 56) (DX2_strike_0.at 30 rfl) 4 rfl ?_
    obtain ⟨n4, f4, q4, r4, hv⟩ := hv
    refine gk_iald (pc := 58) (DX2_strike_0.at 31 rfl) q4 r4 ?_
    generalize f4 _ = v4 at hv ⊢
    refine gk_imul (pc := 59) (DX2_strike_0.at 32 rfl) ?_
    refine gk_aload_n (pc := 60) (DX2_strike_0.at 33 rfl) 3 rfl rfl ?_
    refine gk_aload_n (pc := 61) (DX2_strike_0.at 34 rfl) 2 rfl rfl ?_
    refine gk_iload (pc := 62) (DX2_strike_0.at 35 rfl) 5 rfl ?_
    obtain ⟨n5, f5, q5, r5, hv⟩ := hv
    refine gk_iald (pc := 64) (DX2_strike_0.at 36 rfl) q5 r5 ?_
    generalize f5 _ = v5 at hv ⊢
    obtain ⟨n6, f6, q6, r6, hv⟩ := hv
    refine gk_iald (pc := 65) (DX2_strike_0.at 37 rfl) q6 r6 ?_
    generalize f6 _ = v6 at hv ⊢
    refine gk_iadd (pc := 66) (DX2_strike_0.at 38 rfl) ?_
    refine gk_ishl (pc := 67) (DX2_strike_0.at 39 rfl) ?_
    refine gk_iconst (pc := 68) ((-1)) (DX2_strike_0.at 40 rfl) ci_m1 ?_
    refine gk_ixor (pc := 69) (DX2_strike_0.at 41 rfl) ?_
    refine gk_iand (pc := 70) (DX2_strike_0.at 42 rfl) ?_
    obtain ⟨n7, f7, q7, r7, hv⟩ := hv
    refine gk_iast (pc := 71) (DX2_strike_0.at 43 rfl) q7 r7 ?_
    generalize h.set _ _ = h7 at hv ⊢
    refine gk_iinc (pc := 72) (x5 + nI 1) [(5, .int (x5 + nI 1)), (0, .ref o), (1, .ref x1), (2, .ref x2), (3, .ref x3), (4, .int x4)] 5 (DX2_strike_0.at 44 rfl) rfl (by rw [ci_1]) (Nat.le_of_ble_eq_true rfl) rfl ?_
    refine gk_goto (pc := 75) 30 (DX2_strike_0.at 45 rfl) (by decide) ?_
    exact gk_pick (pc := 30) [(0, .ref o), (1, .ref x1), (2, .ref x2), (3, .ref x3), (4, .int x4), (5, .int (x5 + nI 1))] [1, 2, 3, 4, 5, 0] rfl hv
