abbrev pX5_clash_2 (E : gk_E) (dd : Nat) (o : Nat) (x1 : Int32) (x2 : Int32) (h : gk_H) (K : Int32 → gk_H → Prop) : Prop := gk_G E mX5_clash (dd + 1, 0, 0) 2 [(0, .ref o), (1, .int x1), (2, .int x2)] [] h (fun o h1 => ∃ v, o = some (.int v) ∧ K v h1)
set_option maxHeartbeats 4000000 in
theorem vX5_clash_0 {E : gk_E} {dd : Nat} {o : Nat} {x1 : Int32}  {h : gk_H} {K : Int32 → gk_H → Prop} (hv : pX5_clash_2 E dd o x1 x1 h K) : RnI E mX5_clash (dd + 1, 0, 0) [.ref o, .int x1] h K := by
  show gk_G E mX5_clash (dd + 1, 0, 0) 0 [(0, .ref o), (1, .int x1)] [] h (fun o h1 => ∃ v, o = some (.int v) ∧ K v h1)
  refine gk_iload_n (pc := 0) (DX5_clash_0.at 0 rfl) 1 rfl rfl ?_
  refine gk_istore_n (pc := 1) [(2, .int x1), (0, .ref o), (1, .int x1)] (DX5_clash_0.at 1 rfl) rfl (Nat.le_of_ble_eq_true rfl) rfl ?_
  exact gk_pick (pc := 2) [(0, .ref o), (1, .int x1), (2, .int x1)] [1, 2, 0] rfl hv
set_option maxHeartbeats 4000000 in
theorem vX5_clash_2 {E : gk_E} {dd : Nat} {o : Nat} {x1 : Int32} {x2 : Int32}  {h : gk_H} {K : Int32 → gk_H → Prop} (hv : (x2 < 0 → K ((-1)) h) ∧ (¬ x2 < 0 → LdI h o 5 0 fun v1 => LdR h o 5 1 fun v2 => AlI h v2 x2 fun v3 => LdI h o 5 5 fun v4 => (¬ ((nI 2) * (v1 - x2)) = v4 → LdR h o 5 6 fun v5 => AsI h v5 (v1 - x2) v3 fun h6 => LdR h6 o 5 6 fun v7 => LdI h6 o 5 5 fun v8 => LdR h6 o 5 4 fun v9 => LdR h6 v9 8 1 fun v10 => AlI h6 v10 v3 fun v11 => AsI h6 v7 (v8 - (v1 - x2)) v11 fun h12 => (∃ fs, h12[o]? = some (.inr (5, fs))) ∧ RnI E mX5_goes (dd, 0, 0) [.ref o, .int (v1 - x2)] h12 (fun v13 h13 => (¬ v13 = 0 → pX5_clash_2 E dd o x1 (x2 + (-1)) h13 K) ∧ (v13 = 0 → K x2 h13))) ∧ (((nI 2) * (v1 - x2)) = v4 → LdR h o 5 4 fun v14 => LdR h v14 8 1 fun v15 => AlI h v15 v3 fun v16 => (v16 = v3 → LdR h o 5 6 fun v17 => AsI h v17 (v1 - x2) v3 fun h18 => LdR h18 o 5 6 fun v19 => LdI h18 o 5 5 fun v20 => LdR h18 o 5 4 fun v21 => LdR h18 v21 8 1 fun v22 => AlI h18 v22 v3 fun v23 => AsI h18 v19 (v20 - (v1 - x2)) v23 fun h24 => (∃ fs, h24[o]? = some (.inr (5, fs))) ∧ RnI E mX5_goes (dd, 0, 0) [.ref o, .int (v1 - x2)] h24 (fun v25 h25 => (¬ v25 = 0 → pX5_clash_2 E dd o x1 (x2 + (-1)) h25 K) ∧ (v25 = 0 → K x2 h25))) ∧ (¬ v16 = v3 → K x2 h)))) : pX5_clash_2 E dd o x1 x2 h K := by
  show gk_G E mX5_clash (dd + 1, 0, 0) 2 [(0, .ref o), (1, .int x1), (2, .int x2)] [] h (fun o h1 => ∃ v, o = some (.int v) ∧ K v h1)
  refine gk_iload_n (pc := 2) (DX5_clash_0.at 2 rfl) 2 rfl rfl ?_
  refine gk_if_lt (pc := 3) 93 (DX5_clash_0.at 3 rfl) (by decide) (fun c => ?_) (fun c => ?_)
  · replace hv := hv.1 c
    refine gk_iconst (pc := 93) ((-1)) (DX5_clash_0.at 54 rfl) ci_m1 ?_
    exact gk_ireturn (pc := 94) .int (DX5_clash_0.at 55 rfl) rfl rfl ⟨_, rfl, hv⟩
  · replace hv := hv.2 c
    refine gk_aload_n (pc := 6) (DX5_clash_0.at 4 rfl) 0 rfl rfl ?_
    obtain ⟨fs1, v1, q1, r1, hv⟩ := hv
    refine gk_get (pc := 7) (.int v1) (DX5_clash_0.at 5 rfl) fX5_67_5 q1 r1 ?_
    refine gk_iload_n (pc := 10) (DX5_clash_0.at 6 rfl) 2 rfl rfl ?_
    refine gk_isub (pc := 11) (DX5_clash_0.at 7 rfl) ?_
    refine gk_istore_n (pc := 12) [(3, .int (v1 - x2)), (0, .ref o), (1, .int x1), (2, .int x2)] (DX5_clash_0.at 8 rfl) rfl (Nat.le_of_ble_eq_true rfl) rfl ?_
    refine gk_aload_n (pc := 13) (DX5_clash_0.at 9 rfl) 1 rfl rfl ?_
    obtain ⟨fs2, v2, q2, r2, hv⟩ := hv
    refine gk_get (pc := 14) (.ref v2) (DX5_clash_0.at 10 rfl) fX5_68_5 q2 r2 ?_
    refine gk_iload_n (pc := 17) (DX5_clash_0.at 11 rfl) 3 rfl rfl ?_
    obtain ⟨n3, f3, q3, r3, hv⟩ := hv
    refine gk_iald (pc := 18) (DX5_clash_0.at 12 rfl) q3 r3 ?_
    generalize f3 _ = v3 at hv ⊢
    refine gk_istore (pc := 19) [(4, .int v3), (3, .int (v1 - x2)), (0, .ref o), (1, .int x1), (2, .int x2)] (DX5_clash_0.at 13 rfl) (Nat.le_of_ble_eq_true rfl) rfl ?_
    refine gk_iconst (pc := 21) (nI 2) (DX5_clash_0.at 14 rfl) ci_2 ?_
    refine gk_iload_n (pc := 22) (DX5_clash_0.at 15 rfl) 1 rfl rfl ?_
    refine gk_imul (pc := 23) (DX5_clash_0.at 16 rfl) ?_
    refine gk_aload_n (pc := 24) (DX5_clash_0.at 17 rfl) 2 rfl rfl ?_
    obtain ⟨fs4, v4, q4, r4, hv⟩ := hv
    refine gk_get (pc := 25) (.int v4) (DX5_clash_0.at 18 rfl) fX5_9_5 q4 r4 ?_
    refine gk_icmp_ne (pc := 28) 48 (DX5_clash_0.at 19 rfl) (by decide) (fun c => ?_) (fun c => ?_)
    · replace hv := hv.1 c
      refine gk_aload_n (pc := 48) (DX5_clash_0.at 29 rfl) 2 rfl rfl ?_
      obtain ⟨fs5, v5, q5, r5, hv⟩ := hv
      refine gk_get (pc := 49) (.ref v5) (DX5_clash_0.at 30 rfl) fX5_15_5 q5 r5 ?_
      refine gk_iload_n (pc := 52) (DX5_clash_0.at 31 rfl) 1 rfl rfl ?_
      refine gk_iload (pc := 53) (DX5_clash_0.at 32 rfl) 0 rfl ?_
      obtain ⟨n6, f6, q6, r6, hv⟩ := hv
      refine gk_iast (pc := 55) (DX5_clash_0.at 33 rfl) q6 r6 ?_
      generalize h.set _ _ = h6 at hv ⊢
      refine gk_aload_n (pc := 56) (DX5_clash_0.at 34 rfl) 2 rfl rfl ?_
      obtain ⟨fs7, v7, q7, r7, hv⟩ := hv
      refine gk_get (pc := 57) (.ref v7) (DX5_clash_0.at 35 rfl) fX5_15_5 q7 r7 ?_
      refine gk_aload_n (pc := 60) (DX5_clash_0.at 36 rfl) 2 rfl rfl ?_
      obtain ⟨fs8, v8, q8, r8, hv⟩ := hv
      refine gk_get (pc := 61) (.int v8) (DX5_clash_0.at 37 rfl) fX5_9_5 q8 r8 ?_
      refine gk_iload_n (pc := 64) (DX5_clash_0.at 38 rfl) 1 rfl rfl ?_
      refine gk_isub (pc := 65) (DX5_clash_0.at 39 rfl) ?_
      refine gk_aload_n (pc := 66) (DX5_clash_0.at 40 rfl) 2 rfl rfl ?_
      obtain ⟨fs9, v9, q9, r9, hv⟩ := hv
      refine gk_get (pc := 67) (.ref v9) (DX5_clash_0.at 41 rfl) fX5_22_5 q9 r9 ?_
      obtain ⟨fs10, v10, q10, r10, hv⟩ := hv
      refine gk_get (pc := 70) (.ref v10) (DX5_clash_0.at 42 rfl) fX5_31_8 q10 r10 ?_
      refine gk_iload (pc := 73) (DX5_clash_0.at 43 rfl) 0 rfl ?_
      obtain ⟨n11, f11, q11, r11, hv⟩ := hv
      refine gk_iald (pc := 75) (DX5_clash_0.at 44 rfl) q11 r11 ?_
      generalize f11 _ = v11 at hv ⊢
      obtain ⟨n12, f12, q12, r12, hv⟩ := hv
      refine gk_iast (pc := 76) (DX5_clash_0.at 45 rfl) q12 r12 ?_
      generalize h6.set _ _ = h12 at hv ⊢
      refine gk_aload_n (pc := 77) (DX5_clash_0.at 46 rfl) 2 rfl rfl ?_
      refine gk_iload_n (pc := 78) (DX5_clash_0.at 47 rfl) 1 rfl rfl ?_
      obtain ⟨⟨fs13, q13⟩, hv⟩ := hv
      refine gk_vV (pc := 79) [.int (v1 - x2)] [] (DX5_clash_0.at 48 rfl) cvX5_71 q13 rfl rfl (Nat.le_of_ble_eq_true rfl) (Nat.le_of_ble_eq_true rfl) (gk_Run.post (fun o h13 z => ?_) hv)
      obtain ⟨v13, rfl, hv⟩ := z
      refine gk_if_ne (pc := 82) 87 (DX5_clash_0.at 49 rfl) (by decide) (fun c => ?_) (fun c => ?_)
      · replace hv := hv.1 c
        refine gk_iinc (pc := 87) (x2 + (-1)) [(2, .int (x2 + (-1))), (4, .int v3), (3, .int (v1 - x2)), (0, .ref o), (1, .int x1)] 4 (DX5_clash_0.at 52 rfl) rfl (by rw [ci_m1]) (Nat.le_of_ble_eq_true rfl) rfl ?_
        refine gk_goto (pc := 90) 2 (DX5_clash_0.at 53 rfl) (by decide) ?_
        exact gk_pick (pc := 2) [(0, .ref o), (1, .int x1), (2, .int (x2 + (-1)))] [3, 4, 0] rfl hv
      · replace hv := hv.2 c
        refine gk_iload_n (pc := 85) (DX5_clash_0.at 50 rfl) 4 rfl rfl ?_
        exact gk_ireturn (pc := 86) .int (DX5_clash_0.at 51 rfl) rfl rfl ⟨_, rfl, hv⟩
    · replace hv := hv.2 c
      refine gk_aload_n (pc := 31) (DX5_clash_0.at 20 rfl) 2 rfl rfl ?_
      obtain ⟨fs14, v14, q14, r14, hv⟩ := hv
      refine gk_get (pc := 32) (.ref v14) (DX5_clash_0.at 21 rfl) fX5_22_5 q14 r14 ?_
      obtain ⟨fs15, v15, q15, r15, hv⟩ := hv
      refine gk_get (pc := 35) (.ref v15) (DX5_clash_0.at 22 rfl) fX5_31_8 q15 r15 ?_
      refine gk_iload (pc := 38) (DX5_clash_0.at 23 rfl) 0 rfl ?_
      obtain ⟨n16, f16, q16, r16, hv⟩ := hv
      refine gk_iald (pc := 40) (DX5_clash_0.at 24 rfl) q16 r16 ?_
      generalize f16 _ = v16 at hv ⊢
      refine gk_iload (pc := 41) (DX5_clash_0.at 25 rfl) 0 rfl ?_
      refine gk_icmp_eq (pc := 43) 48 (DX5_clash_0.at 26 rfl) (by decide) (fun c => ?_) (fun c => ?_)
      · replace hv := hv.1 c
        refine gk_aload_n (pc := 48) (DX5_clash_0.at 29 rfl) 2 rfl rfl ?_
        obtain ⟨fs17, v17, q17, r17, hv⟩ := hv
        refine gk_get (pc := 49) (.ref v17) (DX5_clash_0.at 30 rfl) fX5_15_5 q17 r17 ?_
        refine gk_iload_n (pc := 52) (DX5_clash_0.at 31 rfl) 1 rfl rfl ?_
        refine gk_iload (pc := 53) (DX5_clash_0.at 32 rfl) 0 rfl ?_
        obtain ⟨n18, f18, q18, r18, hv⟩ := hv
        refine gk_iast (pc := 55) (DX5_clash_0.at 33 rfl) q18 r18 ?_
        generalize h.set _ _ = h18 at hv ⊢
        refine gk_aload_n (pc := 56) (DX5_clash_0.at 34 rfl) 2 rfl rfl ?_
        obtain ⟨fs19, v19, q19, r19, hv⟩ := hv
        refine gk_get (pc := 57) (.ref v19) (DX5_clash_0.at 35 rfl) fX5_15_5 q19 r19 ?_
        refine gk_aload_n (pc := 60) (DX5_clash_0.at 36 rfl) 2 rfl rfl ?_
        obtain ⟨fs20, v20, q20, r20, hv⟩ := hv
        refine gk_get (pc := 61) (.int v20) (DX5_clash_0.at 37 rfl) fX5_9_5 q20 r20 ?_
        refine gk_iload_n (pc := 64) (DX5_clash_0.at 38 rfl) 1 rfl rfl ?_
        refine gk_isub (pc := 65) (DX5_clash_0.at 39 rfl) ?_
        refine gk_aload_n (pc := 66) (DX5_clash_0.at 40 rfl) 2 rfl rfl ?_
        obtain ⟨fs21, v21, q21, r21, hv⟩ := hv
        refine gk_get (pc := 67) (.ref v21) (DX5_clash_0.at 41 rfl) fX5_22_5 q21 r21 ?_
        obtain ⟨fs22, v22, q22, r22, hv⟩ := hv
        refine gk_get (pc := 70) (.ref v22) (DX5_clash_0.at 42 rfl) fX5_31_8 q22 r22 ?_
        refine gk_iload (pc := 73) (DX5_clash_0.at 43 rfl) 0 rfl ?_
        obtain ⟨n23, f23, q23, r23, hv⟩ := hv
        refine gk_iald (pc := 75) (DX5_clash_0.at 44 rfl) q23 r23 ?_
        generalize f23 _ = v23 at hv ⊢
        obtain ⟨n24, f24, q24, r24, hv⟩ := hv
        refine gk_iast (pc := 76) (DX5_clash_0.at 45 rfl) q24 r24 ?_
        generalize h18.set _ _ = h24 at hv ⊢
        refine gk_aload_n (pc := 77) (DX5_clash_0.at 46 rfl) 2 rfl rfl ?_
        refine gk_iload_n (pc := 78) (DX5_clash_0.at 47 rfl) 1 rfl rfl ?_
        obtain ⟨⟨fs25, q25⟩, hv⟩ := hv
        refine gk_vV (pc := 79) [.int (v1 - x2)] [] (DX5_clash_0.at 48 rfl) cvX5_71 q25 rfl rfl (Nat.le_of_ble_eq_true rfl) (Nat.le_of_ble_eq_true rfl) (gk_Run.post (fun o h25 z => ?_) hv)
        obtain ⟨v25, rfl, hv⟩ := z
        refine gk_if_ne (pc := 82) 87 (DX5_clash_0.at 49 rfl) (by decide) (fun c => ?_) (fun c => ?_)
        · replace hv := hv.1 c
          refine gk_iinc (pc := 87) (x2 + (-1)) [(2, .int (x2 + (-1))), (4, .int v3), (3, .int (v1 - x2)), (0, .ref o), (1, .int x1)] 4 (DX5_clash_0.at 52 rfl) rfl (by rw [ci_m1]) (Nat.le_of_ble_eq_true rfl) rfl ?_
          refine gk_goto (pc := 90) 2 (DX5_clash_0.at 53 rfl) (by decide) ?_
          exact gk_pick (pc := 2) [(0, .ref o), (1, .int x1), (2, .int (x2 + (-1)))] [3, 4, 0] rfl hv
        · replace hv := hv.2 c
          refine gk_iload_n (pc := 85) (DX5_clash_0.at 50 rfl) 4 rfl rfl ?_
          exact gk_ireturn (pc := 86) .int (DX5_clash_0.at 51 rfl) rfl rfl ⟨_, rfl, hv⟩
      · replace hv := hv.2 c
        refine gk_iload_n (pc := 46) (DX5_clash_0.at 27 rfl) 4 rfl rfl ?_
        exact gk_ireturn (pc := 47) .int (DX5_clash_0.at 28 rfl) rfl rfl ⟨_, rfl, hv⟩
abbrev pX5_goes_2 (E : gk_E) (dd : Nat) (o : Nat) (x1 : Int32) (x2 : Int32) (h : gk_H) (K : Int32 → gk_H → Prop) : Prop := gk_G E mX5_goes (dd + 1, 0, 0) 2 [(0, .ref o), (1, .int x1), (2, .int x2)] [] h (fun o h1 => ∃ v, o = some (.int v) ∧ K v h1)
set_option maxHeartbeats 4000000 in
theorem vX5_goes_0 {E : gk_E} {dd : Nat} {o : Nat} {x1 : Int32}  {h : gk_H} {K : Int32 → gk_H → Prop} (hv : pX5_goes_2 E dd o x1 (nI 1) h K) : RnI E mX5_goes (dd + 1, 0, 0) [.ref o, .int x1] h K := by
  show gk_G E mX5_goes (dd + 1, 0, 0) 0 [(0, .ref o), (1, .int x1)] [] h (fun o h1 => ∃ v, o = some (.int v) ∧ K v h1)
  refine gk_iconst (pc := 0) (nI 1) (DX5_goes_0.at 0 rfl) ci_1 ?_
  refine gk_istore_n (pc := 1) [(2, .int (nI 1)), (0, .ref o), (1, .int x1)] (DX5_goes_0.at 1 rfl) rfl (Nat.le_of_ble_eq_true rfl) rfl ?_
  exact gk_pick (pc := 2) [(0, .ref o), (1, .int x1), (2, .int (nI 1))] [1, 2, 0] rfl hv
set_option maxHeartbeats 4000000 in
theorem vX5_goes_2 {E : gk_E} {dd : Nat} {o : Nat} {x1 : Int32} {x2 : Int32}  {h : gk_H} {K : Int32 → gk_H → Prop} (hv : LdI h o 5 5 fun v1 => (v1 ≤ x2 → K (nI 1) h) ∧ (¬ v1 ≤ x2 → (x1 < x2 → LdI h o 5 5 fun v2 => (x2 ≤ x1 → (((x1 - x2) + v2) ≤ x1 → ((nI 1) = 0 → pX5_goes_2 E dd o x1 (x2 + nI 1) h K) ∧ (¬ (nI 1) = 0 → LdR h o 5 4 fun v3 => LdR h o 5 6 fun v4 => AlI h v4 x2 fun v5 => LdR h o 5 6 fun v6 => AlI h v6 ((x1 - x2) + v2) fun v7 => LdR h o 5 6 fun v8 => AlI h v8 x1 fun v9 => (∃ fs, h[v3]? = some (.inr (8, fs))) ∧ RnI E mX8_has (dd, 0, 0) [.ref v3, .int v5, .int v7, .int v9] h (fun v10 h10 => (¬ v10 = 0 → pX5_goes_2 E dd o x1 (x2 + nI 1) h10 K) ∧ (v10 = 0 → K (nI 0) h10)))) ∧ (¬ ((x1 - x2) + v2) ≤ x1 → LdI h o 5 5 fun v11 => (((x1 - x2) + v2) < (v11 - x1) → ((nI 0) = 0 → pX5_goes_2 E dd o x1 (x2 + nI 1) h K) ∧ (¬ (nI 0) = 0 → LdR h o 5 4 fun v12 => LdR h o 5 6 fun v13 => AlI h v13 x2 fun v14 => LdR h o 5 6 fun v15 => AlI h v15 ((x1 - x2) + v2) fun v16 => LdR h o 5 6 fun v17 => AlI h v17 x1 fun v18 => (∃ fs, h[v12]? = some (.inr (8, fs))) ∧ RnI E mX8_has (dd, 0, 0) [.ref v12, .int v14, .int v16, .int v18] h (fun v19 h19 => (¬ v19 = 0 → pX5_goes_2 E dd o x1 (x2 + nI 1) h19 K) ∧ (v19 = 0 → K (nI 0) h19)))) ∧ (¬ ((x1 - x2) + v2) < (v11 - x1) → ((nI 1) = 0 → pX5_goes_2 E dd o x1 (x2 + nI 1) h K) ∧ (¬ (nI 1) = 0 → LdR h o 5 4 fun v20 => LdR h o 5 6 fun v21 => AlI h v21 x2 fun v22 => LdR h o 5 6 fun v23 => AlI h v23 ((x1 - x2) + v2) fun v24 => LdR h o 5 6 fun v25 => AlI h v25 x1 fun v26 => (∃ fs, h[v20]? = some (.inr (8, fs))) ∧ RnI E mX8_has (dd, 0, 0) [.ref v20, .int v22, .int v24, .int v26] h (fun v27 h27 => (¬ v27 = 0 → pX5_goes_2 E dd o x1 (x2 + nI 1) h27 K) ∧ (v27 = 0 → K (nI 0) h27)))))) ∧ (¬ x2 ≤ x1 → LdI h o 5 5 fun v28 => (x2 < (v28 - x1) → ((nI 0) = 0 → pX5_goes_2 E dd o x1 (x2 + nI 1) h K) ∧ (¬ (nI 0) = 0 → LdR h o 5 4 fun v29 => LdR h o 5 6 fun v30 => AlI h v30 x2 fun v31 => LdR h o 5 6 fun v32 => AlI h v32 ((x1 - x2) + v2) fun v33 => LdR h o 5 6 fun v34 => AlI h v34 x1 fun v35 => (∃ fs, h[v29]? = some (.inr (8, fs))) ∧ RnI E mX8_has (dd, 0, 0) [.ref v29, .int v31, .int v33, .int v35] h (fun v36 h36 => (¬ v36 = 0 → pX5_goes_2 E dd o x1 (x2 + nI 1) h36 K) ∧ (v36 = 0 → K (nI 0) h36)))) ∧ (¬ x2 < (v28 - x1) → (((x1 - x2) + v2) ≤ x1 → ((nI 1) = 0 → pX5_goes_2 E dd o x1 (x2 + nI 1) h K) ∧ (¬ (nI 1) = 0 → LdR h o 5 4 fun v37 => LdR h o 5 6 fun v38 => AlI h v38 x2 fun v39 => LdR h o 5 6 fun v40 => AlI h v40 ((x1 - x2) + v2) fun v41 => LdR h o 5 6 fun v42 => AlI h v42 x1 fun v43 => (∃ fs, h[v37]? = some (.inr (8, fs))) ∧ RnI E mX8_has (dd, 0, 0) [.ref v37, .int v39, .int v41, .int v43] h (fun v44 h44 => (¬ v44 = 0 → pX5_goes_2 E dd o x1 (x2 + nI 1) h44 K) ∧ (v44 = 0 → K (nI 0) h44)))) ∧ (¬ ((x1 - x2) + v2) ≤ x1 → LdI h o 5 5 fun v45 => (((x1 - x2) + v2) < (v45 - x1) → ((nI 0) = 0 → pX5_goes_2 E dd o x1 (x2 + nI 1) h K) ∧ (¬ (nI 0) = 0 → LdR h o 5 4 fun v46 => LdR h o 5 6 fun v47 => AlI h v47 x2 fun v48 => LdR h o 5 6 fun v49 => AlI h v49 ((x1 - x2) + v2) fun v50 => LdR h o 5 6 fun v51 => AlI h v51 x1 fun v52 => (∃ fs, h[v46]? = some (.inr (8, fs))) ∧ RnI E mX8_has (dd, 0, 0) [.ref v46, .int v48, .int v50, .int v52] h (fun v53 h53 => (¬ v53 = 0 → pX5_goes_2 E dd o x1 (x2 + nI 1) h53 K) ∧ (v53 = 0 → K (nI 0) h53)))) ∧ (¬ ((x1 - x2) + v2) < (v45 - x1) → ((nI 1) = 0 → pX5_goes_2 E dd o x1 (x2 + nI 1) h K) ∧ (¬ (nI 1) = 0 → LdR h o 5 4 fun v54 => LdR h o 5 6 fun v55 => AlI h v55 x2 fun v56 => LdR h o 5 6 fun v57 => AlI h v57 ((x1 - x2) + v2) fun v58 => LdR h o 5 6 fun v59 => AlI h v59 x1 fun v60 => (∃ fs, h[v54]? = some (.inr (8, fs))) ∧ RnI E mX8_has (dd, 0, 0) [.ref v54, .int v56, .int v58, .int v60] h (fun v61 h61 => (¬ v61 = 0 → pX5_goes_2 E dd o x1 (x2 + nI 1) h61 K) ∧ (v61 = 0 → K (nI 0) h61)))))))) ∧ (¬ x1 < x2 → (x2 ≤ x1 → ((x1 - x2) ≤ x1 → ((nI 1) = 0 → pX5_goes_2 E dd o x1 (x2 + nI 1) h K) ∧ (¬ (nI 1) = 0 → LdR h o 5 4 fun v62 => LdR h o 5 6 fun v63 => AlI h v63 x2 fun v64 => LdR h o 5 6 fun v65 => AlI h v65 (x1 - x2) fun v66 => LdR h o 5 6 fun v67 => AlI h v67 x1 fun v68 => (∃ fs, h[v62]? = some (.inr (8, fs))) ∧ RnI E mX8_has (dd, 0, 0) [.ref v62, .int v64, .int v66, .int v68] h (fun v69 h69 => (¬ v69 = 0 → pX5_goes_2 E dd o x1 (x2 + nI 1) h69 K) ∧ (v69 = 0 → K (nI 0) h69)))) ∧ (¬ (x1 - x2) ≤ x1 → LdI h o 5 5 fun v70 => ((x1 - x2) < (v70 - x1) → ((nI 0) = 0 → pX5_goes_2 E dd o x1 (x2 + nI 1) h K) ∧ (¬ (nI 0) = 0 → LdR h o 5 4 fun v71 => LdR h o 5 6 fun v72 => AlI h v72 x2 fun v73 => LdR h o 5 6 fun v74 => AlI h v74 (x1 - x2) fun v75 => LdR h o 5 6 fun v76 => AlI h v76 x1 fun v77 => (∃ fs, h[v71]? = some (.inr (8, fs))) ∧ RnI E mX8_has (dd, 0, 0) [.ref v71, .int v73, .int v75, .int v77] h (fun v78 h78 => (¬ v78 = 0 → pX5_goes_2 E dd o x1 (x2 + nI 1) h78 K) ∧ (v78 = 0 → K (nI 0) h78)))) ∧ (¬ (x1 - x2) < (v70 - x1) → ((nI 1) = 0 → pX5_goes_2 E dd o x1 (x2 + nI 1) h K) ∧ (¬ (nI 1) = 0 → LdR h o 5 4 fun v79 => LdR h o 5 6 fun v80 => AlI h v80 x2 fun v81 => LdR h o 5 6 fun v82 => AlI h v82 (x1 - x2) fun v83 => LdR h o 5 6 fun v84 => AlI h v84 x1 fun v85 => (∃ fs, h[v79]? = some (.inr (8, fs))) ∧ RnI E mX8_has (dd, 0, 0) [.ref v79, .int v81, .int v83, .int v85] h (fun v86 h86 => (¬ v86 = 0 → pX5_goes_2 E dd o x1 (x2 + nI 1) h86 K) ∧ (v86 = 0 → K (nI 0) h86)))))) ∧ (¬ x2 ≤ x1 → LdI h o 5 5 fun v87 => (x2 < (v87 - x1) → ((nI 0) = 0 → pX5_goes_2 E dd o x1 (x2 + nI 1) h K) ∧ (¬ (nI 0) = 0 → LdR h o 5 4 fun v88 => LdR h o 5 6 fun v89 => AlI h v89 x2 fun v90 => LdR h o 5 6 fun v91 => AlI h v91 (x1 - x2) fun v92 => LdR h o 5 6 fun v93 => AlI h v93 x1 fun v94 => (∃ fs, h[v88]? = some (.inr (8, fs))) ∧ RnI E mX8_has (dd, 0, 0) [.ref v88, .int v90, .int v92, .int v94] h (fun v95 h95 => (¬ v95 = 0 → pX5_goes_2 E dd o x1 (x2 + nI 1) h95 K) ∧ (v95 = 0 → K (nI 0) h95)))) ∧ (¬ x2 < (v87 - x1) → ((x1 - x2) ≤ x1 → ((nI 1) = 0 → pX5_goes_2 E dd o x1 (x2 + nI 1) h K) ∧ (¬ (nI 1) = 0 → LdR h o 5 4 fun v96 => LdR h o 5 6 fun v97 => AlI h v97 x2 fun v98 => LdR h o 5 6 fun v99 => AlI h v99 (x1 - x2) fun v100 => LdR h o 5 6 fun v101 => AlI h v101 x1 fun v102 => (∃ fs, h[v96]? = some (.inr (8, fs))) ∧ RnI E mX8_has (dd, 0, 0) [.ref v96, .int v98, .int v100, .int v102] h (fun v103 h103 => (¬ v103 = 0 → pX5_goes_2 E dd o x1 (x2 + nI 1) h103 K) ∧ (v103 = 0 → K (nI 0) h103)))) ∧ (¬ (x1 - x2) ≤ x1 → LdI h o 5 5 fun v104 => ((x1 - x2) < (v104 - x1) → ((nI 0) = 0 → pX5_goes_2 E dd o x1 (x2 + nI 1) h K) ∧ (¬ (nI 0) = 0 → LdR h o 5 4 fun v105 => LdR h o 5 6 fun v106 => AlI h v106 x2 fun v107 => LdR h o 5 6 fun v108 => AlI h v108 (x1 - x2) fun v109 => LdR h o 5 6 fun v110 => AlI h v110 x1 fun v111 => (∃ fs, h[v105]? = some (.inr (8, fs))) ∧ RnI E mX8_has (dd, 0, 0) [.ref v105, .int v107, .int v109, .int v111] h (fun v112 h112 => (¬ v112 = 0 → pX5_goes_2 E dd o x1 (x2 + nI 1) h112 K) ∧ (v112 = 0 → K (nI 0) h112)))) ∧ (¬ (x1 - x2) < (v104 - x1) → ((nI 1) = 0 → pX5_goes_2 E dd o x1 (x2 + nI 1) h K) ∧ (¬ (nI 1) = 0 → LdR h o 5 4 fun v113 => LdR h o 5 6 fun v114 => AlI h v114 x2 fun v115 => LdR h o 5 6 fun v116 => AlI h v116 (x1 - x2) fun v117 => LdR h o 5 6 fun v118 => AlI h v118 x1 fun v119 => (∃ fs, h[v113]? = some (.inr (8, fs))) ∧ RnI E mX8_has (dd, 0, 0) [.ref v113, .int v115, .int v117, .int v119] h (fun v120 h120 => (¬ v120 = 0 → pX5_goes_2 E dd o x1 (x2 + nI 1) h120 K) ∧ (v120 = 0 → K (nI 0) h120)))))))))) : pX5_goes_2 E dd o x1 x2 h K := by
  show gk_G E mX5_goes (dd + 1, 0, 0) 2 [(0, .ref o), (1, .int x1), (2, .int x2)] [] h (fun o h1 => ∃ v, o = some (.int v) ∧ K v h1)
  refine gk_iload_n (pc := 2) (DX5_goes_0.at 2 rfl) 2 rfl rfl ?_
  refine gk_aload_n (pc := 3) (DX5_goes_0.at 3 rfl) 0 rfl rfl ?_
  obtain ⟨fs1, v1, q1, r1, hv⟩ := hv
  refine gk_get (pc := 4) (.int v1) (DX5_goes_0.at 4 rfl) fX5_9_5 q1 r1 ?_
  refine gk_icmp_ge (pc := 7) 108 (DX5_goes_0.at 5 rfl) (by decide) (fun c => ?_) (fun c => ?_)
  · replace hv := hv.1 c
    refine gk_iconst (pc := 108) (nI 1) (DX5_goes_1.at 4 rfl) ci_1 ?_
    exact gk_ireturn (pc := 109) .boolean (DX5_goes_1.at 5 rfl) rfl rfl ⟨_, rfl, hv⟩
  · replace hv := hv.2 c
    refine gk_iload_n (pc := 10) (DX5_goes_0.at 6 rfl) 2 rfl rfl ?_
    refine gk_iload_n (pc := 11) (DX5_goes_0.at 7 rfl) 1 rfl rfl ?_
    refine gk_icmp_gt (pc := 12) 21 (DX5_goes_0.at 8 rfl) (by decide) (fun c => ?_) (fun c => ?_)
    · replace hv := hv.1 c
      refine gk_iload_n (pc := 21) (DX5_goes_0.at 13 rfl) 1 rfl rfl ?_
      refine gk_iload_n (pc := 22) (DX5_goes_0.at 14 rfl) 2 rfl rfl ?_
      refine gk_isub (pc := 23) (DX5_goes_0.at 15 rfl) ?_
      refine gk_aload_n (pc := 24) (DX5_goes_0.at 16 rfl) 0 rfl rfl ?_
      obtain ⟨fs2, v2, q2, r2, hv⟩ := hv
      refine gk_get (pc := 25) (.int v2) (DX5_goes_0.at 17 rfl) fX5_9_5 q2 r2 ?_
      refine gk_iadd (pc := 28) (DX5_goes_0.at 18 rfl) ?_
      refine gk_istore_n (pc := 29) [(3, .int ((x1 - x2) + v2)), (0, .ref o), (1, .int x1), (2, .int x2)] (DX5_goes_0.at 19 rfl) rfl (Nat.le_of_ble_eq_true rfl) rfl ?_
      refine gk_iload_n (pc := 30) (DX5_goes_0.at 20 rfl) 3 rfl rfl ?_
      refine gk_iload_n (pc := 31) (DX5_goes_0.at 21 rfl) 2 rfl rfl ?_
      refine gk_icmp_le (pc := 32) 45 (DX5_goes_0.at 22 rfl) (by decide) (fun c => ?_) (fun c => ?_)
      · replace hv := hv.1 c
        refine gk_iload_n (pc := 45) (DX5_goes_0.at 29 rfl) 0 rfl rfl ?_
        refine gk_iload_n (pc := 46) (DX5_goes_0.at 30 rfl) 2 rfl rfl ?_
        refine gk_icmp_le (pc := 47) 60 (DX5_goes_0.at 31 rfl) (by decide) (fun c => ?_) (fun c => ?_)
        · replace hv := hv.1 c
          refine gk_iconst (pc := 60) (nI 1) (DX5_goes_0.at 38 rfl) ci_1 ?_
          refine gk_goto (pc := 61) 65 (DX5_goes_0.at 39 rfl) (by decide) ?_
          refine gk_istore (pc := 65) [(4, .int (nI 1)), (3, .int ((x1 - x2) + v2)), (0, .ref o), (1, .int x1), (2, .int x2)] (DX5_goes_0.at 41 rfl) (Nat.le_of_ble_eq_true rfl) rfl ?_
          refine gk_iload (pc := 67) (DX5_goes_0.at 42 rfl) 0 rfl ?_
          refine gk_if_eq (pc := 69) 102 (DX5_goes_0.at 43 rfl) (by decide) (fun c => ?_) (fun c => ?_)
          · replace hv := hv.1 c
            refine gk_iinc (pc := 102) (x2 + nI 1) [(2, .int (x2 + nI 1)), (4, .int (nI 1)), (3, .int ((x1 - x2) + v2)), (0, .ref o), (1, .int x1)] 4 (DX5_goes_1.at 2 rfl) rfl (by rw [ci_1]) (Nat.le_of_ble_eq_true rfl) rfl ?_
            refine gk_goto (pc := 105) 2 (DX5_goes_1.at 3 rfl) (by decide) ?_
            exact gk_pick (pc := 2) [(0, .ref o), (1, .int x1), (2, .int (x2 + nI 1))] [3, 4, 0] rfl hv
          · replace hv := hv.2 c
            refine gk_aload_n (pc := 72) (DX5_goes_0.at 44 rfl) 2 rfl rfl ?_
            obtain ⟨fs3, v3, q3, r3, hv⟩ := hv
            refine gk_get (pc := 73) (.ref v3) (DX5_goes_0.at 45 rfl) fX5_22_5 q3 r3 ?_
            refine gk_aload_n (pc := 76) (DX5_goes_0.at 46 rfl) 2 rfl rfl ?_
            obtain ⟨fs4, v4, q4, r4, hv⟩ := hv
            refine gk_get (pc := 77) (.ref v4) (DX5_goes_0.at 47 rfl) fX5_15_5 q4 r4 ?_
            refine gk_iload_n (pc := 80) (DX5_goes_0.at 48 rfl) 4 rfl rfl ?_
            obtain ⟨n5, f5, q5, r5, hv⟩ := hv
            refine gk_iald (pc := 81) (DX5_goes_0.at 49 rfl) q5 r5 ?_
            generalize f5 _ = v5 at hv ⊢
            refine gk_aload_n (pc := 82) (DX5_goes_0.at 50 rfl) 2 rfl rfl ?_
            obtain ⟨fs6, v6, q6, r6, hv⟩ := hv
            refine gk_get (pc := 83) (.ref v6) (DX5_goes_0.at 51 rfl) fX5_15_5 q6 r6 ?_
            refine gk_iload_n (pc := 86) (DX5_goes_0.at 52 rfl) 1 rfl rfl ?_
            obtain ⟨n7, f7, q7, r7, hv⟩ := hv
            refine gk_iald (pc := 87) (DX5_goes_0.at 53 rfl) q7 r7 ?_
            generalize f7 _ = v7 at hv ⊢
            refine gk_aload_n (pc := 88) (DX5_goes_0.at 54 rfl) 2 rfl rfl ?_
            obtain ⟨fs8, v8, q8, r8, hv⟩ := hv
            refine gk_get (pc := 89) (.ref v8) (DX5_goes_0.at 55 rfl) fX5_15_5 q8 r8 ?_
            refine gk_iload_n (pc := 92) (DX5_goes_0.at 56 rfl) 3 rfl rfl ?_
            obtain ⟨n9, f9, q9, r9, hv⟩ := hv
            refine gk_iald (pc := 93) (DX5_goes_0.at 57 rfl) q9 r9 ?_
            generalize f9 _ = v9 at hv ⊢
            obtain ⟨⟨fs10, q10⟩, hv⟩ := hv
            refine gk_vV (pc := 94) [.int v5, .int v7, .int v9] [] (DX5_goes_0.at 58 rfl) cvX5_75 q10 rfl rfl (Nat.le_of_ble_eq_true rfl) (Nat.le_of_ble_eq_true rfl) (gk_Run.post (fun o h10 z => ?_) hv)
            obtain ⟨v10, rfl, hv⟩ := z
            refine gk_if_ne (pc := 97) 102 (DX5_goes_0.at 59 rfl) (by decide) (fun c => ?_) (fun c => ?_)
            · replace hv := hv.1 c
              refine gk_iinc (pc := 102) (x2 + nI 1) [(2, .int (x2 + nI 1)), (4, .int (nI 1)), (3, .int ((x1 - x2) + v2)), (0, .ref o), (1, .int x1)] 4 (DX5_goes_1.at 2 rfl) rfl (by rw [ci_1]) (Nat.le_of_ble_eq_true rfl) rfl ?_
              refine gk_goto (pc := 105) 2 (DX5_goes_1.at 3 rfl) (by decide) ?_
              exact gk_pick (pc := 2) [(0, .ref o), (1, .int x1), (2, .int (x2 + nI 1))] [3, 4, 0] rfl hv
            · replace hv := hv.2 c
              refine gk_iconst (pc := 100) (nI 0) (DX5_goes_1.at 0 rfl) ci_0 ?_
              exact gk_ireturn (pc := 101) .boolean (DX5_goes_1.at 1 rfl) rfl rfl ⟨_, rfl, hv⟩
        · replace hv := hv.2 c
          refine gk_iload_n (pc := 50) (DX5_goes_0.at 32 rfl) 0 rfl rfl ?_
          refine gk_aload_n (pc := 51) (DX5_goes_0.at 33 rfl) 1 rfl rfl ?_
          obtain ⟨fs11, v11, q11, r11, hv⟩ := hv
          refine gk_get (pc := 52) (.int v11) (DX5_goes_0.at 34 rfl) fX5_9_5 q11 r11 ?_
          refine gk_iload_n (pc := 55) (DX5_goes_0.at 35 rfl) 2 rfl rfl ?_
          refine gk_isub (pc := 56) (DX5_goes_0.at 36 rfl) ?_
          refine gk_icmp_lt (pc := 57) 64 (DX5_goes_0.at 37 rfl) (by decide) (fun c => ?_) (fun c => ?_)
          · replace hv := hv.1 c
            refine gk_iconst (pc := 64) (nI 0) (DX5_goes_0.at 40 rfl) ci_0 ?_
            refine gk_istore (pc := 65) [(4, .int (nI 0)), (3, .int ((x1 - x2) + v2)), (0, .ref o), (1, .int x1), (2, .int x2)] (DX5_goes_0.at 41 rfl) (Nat.le_of_ble_eq_true rfl) rfl ?_
            refine gk_iload (pc := 67) (DX5_goes_0.at 42 rfl) 0 rfl ?_
            refine gk_if_eq (pc := 69) 102 (DX5_goes_0.at 43 rfl) (by decide) (fun c => ?_) (fun c => ?_)
            · replace hv := hv.1 c
              refine gk_iinc (pc := 102) (x2 + nI 1) [(2, .int (x2 + nI 1)), (4, .int (nI 0)), (3, .int ((x1 - x2) + v2)), (0, .ref o), (1, .int x1)] 4 (DX5_goes_1.at 2 rfl) rfl (by rw [ci_1]) (Nat.le_of_ble_eq_true rfl) rfl ?_
              refine gk_goto (pc := 105) 2 (DX5_goes_1.at 3 rfl) (by decide) ?_
              exact gk_pick (pc := 2) [(0, .ref o), (1, .int x1), (2, .int (x2 + nI 1))] [3, 4, 0] rfl hv
            · replace hv := hv.2 c
              refine gk_aload_n (pc := 72) (DX5_goes_0.at 44 rfl) 2 rfl rfl ?_
              obtain ⟨fs12, v12, q12, r12, hv⟩ := hv
              refine gk_get (pc := 73) (.ref v12) (DX5_goes_0.at 45 rfl) fX5_22_5 q12 r12 ?_
              refine gk_aload_n (pc := 76) (DX5_goes_0.at 46 rfl) 2 rfl rfl ?_
              obtain ⟨fs13, v13, q13, r13, hv⟩ := hv
              refine gk_get (pc := 77) (.ref v13) (DX5_goes_0.at 47 rfl) fX5_15_5 q13 r13 ?_
              refine gk_iload_n (pc := 80) (DX5_goes_0.at 48 rfl) 4 rfl rfl ?_
              obtain ⟨n14, f14, q14, r14, hv⟩ := hv
              refine gk_iald (pc := 81) (DX5_goes_0.at 49 rfl) q14 r14 ?_
              generalize f14 _ = v14 at hv ⊢
              refine gk_aload_n (pc := 82) (DX5_goes_0.at 50 rfl) 2 rfl rfl ?_
              obtain ⟨fs15, v15, q15, r15, hv⟩ := hv
              refine gk_get (pc := 83) (.ref v15) (DX5_goes_0.at 51 rfl) fX5_15_5 q15 r15 ?_
              refine gk_iload_n (pc := 86) (DX5_goes_0.at 52 rfl) 1 rfl rfl ?_
              obtain ⟨n16, f16, q16, r16, hv⟩ := hv
              refine gk_iald (pc := 87) (DX5_goes_0.at 53 rfl) q16 r16 ?_
              generalize f16 _ = v16 at hv ⊢
              refine gk_aload_n (pc := 88) (DX5_goes_0.at 54 rfl) 2 rfl rfl ?_
              obtain ⟨fs17, v17, q17, r17, hv⟩ := hv
              refine gk_get (pc := 89) (.ref v17) (DX5_goes_0.at 55 rfl) fX5_15_5 q17 r17 ?_
              refine gk_iload_n (pc := 92) (DX5_goes_0.at 56 rfl) 3 rfl rfl ?_
              obtain ⟨n18, f18, q18, r18, hv⟩ := hv
              refine gk_iald (pc := 93) (DX5_goes_0.at 57 rfl) q18 r18 ?_
              generalize f18 _ = v18 at hv ⊢
              obtain ⟨⟨fs19, q19⟩, hv⟩ := hv
              refine gk_vV (pc := 94) [.int v14, .int v16, .int v18] [] (DX5_goes_0.at 58 rfl) cvX5_75 q19 rfl rfl (Nat.le_of_ble_eq_true rfl) (Nat.le_of_ble_eq_true rfl) (gk_Run.post (fun o h19 z => ?_) hv)
              obtain ⟨v19, rfl, hv⟩ := z
              refine gk_if_ne (pc := 97) 102 (DX5_goes_0.at 59 rfl) (by decide) (fun c => ?_) (fun c => ?_)
              · replace hv := hv.1 c
                refine gk_iinc (pc := 102) (x2 + nI 1) [(2, .int (x2 + nI 1)), (4, .int (nI 0)), (3, .int ((x1 - x2) + v2)), (0, .ref o), (1, .int x1)] 4 (DX5_goes_1.at 2 rfl) rfl (by rw [ci_1]) (Nat.le_of_ble_eq_true rfl) rfl ?_
                refine gk_goto (pc := 105) 2 (DX5_goes_1.at 3 rfl) (by decide) ?_
                exact gk_pick (pc := 2) [(0, .ref o), (1, .int x1), (2, .int (x2 + nI 1))] [3, 4, 0] rfl hv
              · replace hv := hv.2 c
                refine gk_iconst (pc := 100) (nI 0) (DX5_goes_1.at 0 rfl) ci_0 ?_
                exact gk_ireturn (pc := 101) .boolean (DX5_goes_1.at 1 rfl) rfl rfl ⟨_, rfl, hv⟩
          · replace hv := hv.2 c
            refine gk_iconst (pc := 60) (nI 1) (DX5_goes_0.at 38 rfl) ci_1 ?_
            refine gk_goto (pc := 61) 65 (DX5_goes_0.at 39 rfl) (by decide) ?_
            refine gk_istore (pc := 65) [(4, .int (nI 1)), (3, .int ((x1 - x2) + v2)), (0, .ref o), (1, .int x1), (2, .int x2)] (DX5_goes_0.at 41 rfl) (Nat.le_of_ble_eq_true rfl) rfl ?_
            refine gk_iload (pc := 67) (DX5_goes_0.at 42 rfl) 0 rfl ?_
            refine gk_if_eq (pc := 69) 102 (DX5_goes_0.at 43 rfl) (by decide) (fun c => ?_) (fun c => ?_)
            · replace hv := hv.1 c
              refine gk_iinc (pc := 102) (x2 + nI 1) [(2, .int (x2 + nI 1)), (4, .int (nI 1)), (3, .int ((x1 - x2) + v2)), (0, .ref o), (1, .int x1)] 4 (DX5_goes_1.at 2 rfl) rfl (by rw [ci_1]) (Nat.le_of_ble_eq_true rfl) rfl ?_
              refine gk_goto (pc := 105) 2 (DX5_goes_1.at 3 rfl) (by decide) ?_
              exact gk_pick (pc := 2) [(0, .ref o), (1, .int x1), (2, .int (x2 + nI 1))] [3, 4, 0] rfl hv
            · replace hv := hv.2 c
              refine gk_aload_n (pc := 72) (DX5_goes_0.at 44 rfl) 2 rfl rfl ?_
              obtain ⟨fs20, v20, q20, r20, hv⟩ := hv
              refine gk_get (pc := 73) (.ref v20) (DX5_goes_0.at 45 rfl) fX5_22_5 q20 r20 ?_
              refine gk_aload_n (pc := 76) (DX5_goes_0.at 46 rfl) 2 rfl rfl ?_
              obtain ⟨fs21, v21, q21, r21, hv⟩ := hv
              refine gk_get (pc := 77) (.ref v21) (DX5_goes_0.at 47 rfl) fX5_15_5 q21 r21 ?_
              refine gk_iload_n (pc := 80) (DX5_goes_0.at 48 rfl) 4 rfl rfl ?_
              obtain ⟨n22, f22, q22, r22, hv⟩ := hv
              refine gk_iald (pc := 81) (DX5_goes_0.at 49 rfl) q22 r22 ?_
              generalize f22 _ = v22 at hv ⊢
              refine gk_aload_n (pc := 82) (DX5_goes_0.at 50 rfl) 2 rfl rfl ?_
              obtain ⟨fs23, v23, q23, r23, hv⟩ := hv
              refine gk_get (pc := 83) (.ref v23) (DX5_goes_0.at 51 rfl) fX5_15_5 q23 r23 ?_
              refine gk_iload_n (pc := 86) (DX5_goes_0.at 52 rfl) 1 rfl rfl ?_
              obtain ⟨n24, f24, q24, r24, hv⟩ := hv
              refine gk_iald (pc := 87) (DX5_goes_0.at 53 rfl) q24 r24 ?_
              generalize f24 _ = v24 at hv ⊢
              refine gk_aload_n (pc := 88) (DX5_goes_0.at 54 rfl) 2 rfl rfl ?_
              obtain ⟨fs25, v25, q25, r25, hv⟩ := hv
              refine gk_get (pc := 89) (.ref v25) (DX5_goes_0.at 55 rfl) fX5_15_5 q25 r25 ?_
              refine gk_iload_n (pc := 92) (DX5_goes_0.at 56 rfl) 3 rfl rfl ?_
              obtain ⟨n26, f26, q26, r26, hv⟩ := hv
              refine gk_iald (pc := 93) (DX5_goes_0.at 57 rfl) q26 r26 ?_
              generalize f26 _ = v26 at hv ⊢
              obtain ⟨⟨fs27, q27⟩, hv⟩ := hv
              refine gk_vV (pc := 94) [.int v22, .int v24, .int v26] [] (DX5_goes_0.at 58 rfl) cvX5_75 q27 rfl rfl (Nat.le_of_ble_eq_true rfl) (Nat.le_of_ble_eq_true rfl) (gk_Run.post (fun o h27 z => ?_) hv)
              obtain ⟨v27, rfl, hv⟩ := z
              refine gk_if_ne (pc := 97) 102 (DX5_goes_0.at 59 rfl) (by decide) (fun c => ?_) (fun c => ?_)
              · replace hv := hv.1 c
                refine gk_iinc (pc := 102) (x2 + nI 1) [(2, .int (x2 + nI 1)), (4, .int (nI 1)), (3, .int ((x1 - x2) + v2)), (0, .ref o), (1, .int x1)] 4 (DX5_goes_1.at 2 rfl) rfl (by rw [ci_1]) (Nat.le_of_ble_eq_true rfl) rfl ?_
                refine gk_goto (pc := 105) 2 (DX5_goes_1.at 3 rfl) (by decide) ?_
                exact gk_pick (pc := 2) [(0, .ref o), (1, .int x1), (2, .int (x2 + nI 1))] [3, 4, 0] rfl hv
              · replace hv := hv.2 c
                refine gk_iconst (pc := 100) (nI 0) (DX5_goes_1.at 0 rfl) ci_0 ?_
                exact gk_ireturn (pc := 101) .boolean (DX5_goes_1.at 1 rfl) rfl rfl ⟨_, rfl, hv⟩
      · replace hv := hv.2 c
        refine gk_iload_n (pc := 35) (DX5_goes_0.at 23 rfl) 3 rfl rfl ?_
        refine gk_aload_n (pc := 36) (DX5_goes_0.at 24 rfl) 1 rfl rfl ?_
        obtain ⟨fs28, v28, q28, r28, hv⟩ := hv
        refine gk_get (pc := 37) (.int v28) (DX5_goes_0.at 25 rfl) fX5_9_5 q28 r28 ?_
        refine gk_iload_n (pc := 40) (DX5_goes_0.at 26 rfl) 2 rfl rfl ?_
        refine gk_isub (pc := 41) (DX5_goes_0.at 27 rfl) ?_
        refine gk_icmp_lt (pc := 42) 64 (DX5_goes_0.at 28 rfl) (by decide) (fun c => ?_) (fun c => ?_)
        · replace hv := hv.1 c
          refine gk_iconst (pc := 64) (nI 0) (DX5_goes_0.at 40 rfl) ci_0 ?_
          refine gk_istore (pc := 65) [(4, .int (nI 0)), (3, .int ((x1 - x2) + v2)), (0, .ref o), (1, .int x1), (2, .int x2)] (DX5_goes_0.at 41 rfl) (Nat.le_of_ble_eq_true rfl) rfl ?_
          refine gk_iload (pc := 67) (DX5_goes_0.at 42 rfl) 0 rfl ?_
          refine gk_if_eq (pc := 69) 102 (DX5_goes_0.at 43 rfl) (by decide) (fun c => ?_) (fun c => ?_)
          · replace hv := hv.1 c
            refine gk_iinc (pc := 102) (x2 + nI 1) [(2, .int (x2 + nI 1)), (4, .int (nI 0)), (3, .int ((x1 - x2) + v2)), (0, .ref o), (1, .int x1)] 4 (DX5_goes_1.at 2 rfl) rfl (by rw [ci_1]) (Nat.le_of_ble_eq_true rfl) rfl ?_
            refine gk_goto (pc := 105) 2 (DX5_goes_1.at 3 rfl) (by decide) ?_
            exact gk_pick (pc := 2) [(0, .ref o), (1, .int x1), (2, .int (x2 + nI 1))] [3, 4, 0] rfl hv
          · replace hv := hv.2 c
            refine gk_aload_n (pc := 72) (DX5_goes_0.at 44 rfl) 2 rfl rfl ?_
            obtain ⟨fs29, v29, q29, r29, hv⟩ := hv
            refine gk_get (pc := 73) (.ref v29) (DX5_goes_0.at 45 rfl) fX5_22_5 q29 r29 ?_
            refine gk_aload_n (pc := 76) (DX5_goes_0.at 46 rfl) 2 rfl rfl ?_
            obtain ⟨fs30, v30, q30, r30, hv⟩ := hv
            refine gk_get (pc := 77) (.ref v30) (DX5_goes_0.at 47 rfl) fX5_15_5 q30 r30 ?_
            refine gk_iload_n (pc := 80) (DX5_goes_0.at 48 rfl) 4 rfl rfl ?_
            obtain ⟨n31, f31, q31, r31, hv⟩ := hv
            refine gk_iald (pc := 81) (DX5_goes_0.at 49 rfl) q31 r31 ?_
            generalize f31 _ = v31 at hv ⊢
            refine gk_aload_n (pc := 82) (DX5_goes_0.at 50 rfl) 2 rfl rfl ?_
            obtain ⟨fs32, v32, q32, r32, hv⟩ := hv
            refine gk_get (pc := 83) (.ref v32) (DX5_goes_0.at 51 rfl) fX5_15_5 q32 r32 ?_
            refine gk_iload_n (pc := 86) (DX5_goes_0.at 52 rfl) 1 rfl rfl ?_
            obtain ⟨n33, f33, q33, r33, hv⟩ := hv
            refine gk_iald (pc := 87) (DX5_goes_0.at 53 rfl) q33 r33 ?_
            generalize f33 _ = v33 at hv ⊢
            refine gk_aload_n (pc := 88) (DX5_goes_0.at 54 rfl) 2 rfl rfl ?_
            obtain ⟨fs34, v34, q34, r34, hv⟩ := hv
            refine gk_get (pc := 89) (.ref v34) (DX5_goes_0.at 55 rfl) fX5_15_5 q34 r34 ?_
            refine gk_iload_n (pc := 92) (DX5_goes_0.at 56 rfl) 3 rfl rfl ?_
            obtain ⟨n35, f35, q35, r35, hv⟩ := hv
            refine gk_iald (pc := 93) (DX5_goes_0.at 57 rfl) q35 r35 ?_
            generalize f35 _ = v35 at hv ⊢
            obtain ⟨⟨fs36, q36⟩, hv⟩ := hv
            refine gk_vV (pc := 94) [.int v31, .int v33, .int v35] [] (DX5_goes_0.at 58 rfl) cvX5_75 q36 rfl rfl (Nat.le_of_ble_eq_true rfl) (Nat.le_of_ble_eq_true rfl) (gk_Run.post (fun o h36 z => ?_) hv)
            obtain ⟨v36, rfl, hv⟩ := z
            refine gk_if_ne (pc := 97) 102 (DX5_goes_0.at 59 rfl) (by decide) (fun c => ?_) (fun c => ?_)
            · replace hv := hv.1 c
              refine gk_iinc (pc := 102) (x2 + nI 1) [(2, .int (x2 + nI 1)), (4, .int (nI 0)), (3, .int ((x1 - x2) + v2)), (0, .ref o), (1, .int x1)] 4 (DX5_goes_1.at 2 rfl) rfl (by rw [ci_1]) (Nat.le_of_ble_eq_true rfl) rfl ?_
              refine gk_goto (pc := 105) 2 (DX5_goes_1.at 3 rfl) (by decide) ?_
              exact gk_pick (pc := 2) [(0, .ref o), (1, .int x1), (2, .int (x2 + nI 1))] [3, 4, 0] rfl hv
            · replace hv := hv.2 c
              refine gk_iconst (pc := 100) (nI 0) (DX5_goes_1.at 0 rfl) ci_0 ?_
              exact gk_ireturn (pc := 101) .boolean (DX5_goes_1.at 1 rfl) rfl rfl ⟨_, rfl, hv⟩
        · replace hv := hv.2 c
          refine gk_iload_n (pc := 45) (DX5_goes_0.at 29 rfl) 0 rfl rfl ?_
          refine gk_iload_n (pc := 46) (DX5_goes_0.at 30 rfl) 2 rfl rfl ?_
          refine gk_icmp_le (pc := 47) 60 (DX5_goes_0.at 31 rfl) (by decide) (fun c => ?_) (fun c => ?_)
          · replace hv := hv.1 c
            refine gk_iconst (pc := 60) (nI 1) (DX5_goes_0.at 38 rfl) ci_1 ?_
            refine gk_goto (pc := 61) 65 (DX5_goes_0.at 39 rfl) (by decide) ?_
            refine gk_istore (pc := 65) [(4, .int (nI 1)), (3, .int ((x1 - x2) + v2)), (0, .ref o), (1, .int x1), (2, .int x2)] (DX5_goes_0.at 41 rfl) (Nat.le_of_ble_eq_true rfl) rfl ?_
            refine gk_iload (pc := 67) (DX5_goes_0.at 42 rfl) 0 rfl ?_
            refine gk_if_eq (pc := 69) 102 (DX5_goes_0.at 43 rfl) (by decide) (fun c => ?_) (fun c => ?_)
            · replace hv := hv.1 c
              refine gk_iinc (pc := 102) (x2 + nI 1) [(2, .int (x2 + nI 1)), (4, .int (nI 1)), (3, .int ((x1 - x2) + v2)), (0, .ref o), (1, .int x1)] 4 (DX5_goes_1.at 2 rfl) rfl (by rw [ci_1]) (Nat.le_of_ble_eq_true rfl) rfl ?_
              refine gk_goto (pc := 105) 2 (DX5_goes_1.at 3 rfl) (by decide) ?_
              exact gk_pick (pc := 2) [(0, .ref o), (1, .int x1), (2, .int (x2 + nI 1))] [3, 4, 0] rfl hv
            · replace hv := hv.2 c
              refine gk_aload_n (pc := 72) (DX5_goes_0.at 44 rfl) 2 rfl rfl ?_
              obtain ⟨fs37, v37, q37, r37, hv⟩ := hv
              refine gk_get (pc := 73) (.ref v37) (DX5_goes_0.at 45 rfl) fX5_22_5 q37 r37 ?_
              refine gk_aload_n (pc := 76) (DX5_goes_0.at 46 rfl) 2 rfl rfl ?_
              obtain ⟨fs38, v38, q38, r38, hv⟩ := hv
              refine gk_get (pc := 77) (.ref v38) (DX5_goes_0.at 47 rfl) fX5_15_5 q38 r38 ?_
              refine gk_iload_n (pc := 80) (DX5_goes_0.at 48 rfl) 4 rfl rfl ?_
              obtain ⟨n39, f39, q39, r39, hv⟩ := hv
              refine gk_iald (pc := 81) (DX5_goes_0.at 49 rfl) q39 r39 ?_
              generalize f39 _ = v39 at hv ⊢
              refine gk_aload_n (pc := 82) (DX5_goes_0.at 50 rfl) 2 rfl rfl ?_
              obtain ⟨fs40, v40, q40, r40, hv⟩ := hv
              refine gk_get (pc := 83) (.ref v40) (DX5_goes_0.at 51 rfl) fX5_15_5 q40 r40 ?_
              refine gk_iload_n (pc := 86) (DX5_goes_0.at 52 rfl) 1 rfl rfl ?_
              obtain ⟨n41, f41, q41, r41, hv⟩ := hv
              refine gk_iald (pc := 87) (DX5_goes_0.at 53 rfl) q41 r41 ?_
              generalize f41 _ = v41 at hv ⊢
              refine gk_aload_n (pc := 88) (DX5_goes_0.at 54 rfl) 2 rfl rfl ?_
              obtain ⟨fs42, v42, q42, r42, hv⟩ := hv
              refine gk_get (pc := 89) (.ref v42) (DX5_goes_0.at 55 rfl) fX5_15_5 q42 r42 ?_
              refine gk_iload_n (pc := 92) (DX5_goes_0.at 56 rfl) 3 rfl rfl ?_
              obtain ⟨n43, f43, q43, r43, hv⟩ := hv
              refine gk_iald (pc := 93) (DX5_goes_0.at 57 rfl) q43 r43 ?_
              generalize f43 _ = v43 at hv ⊢
              obtain ⟨⟨fs44, q44⟩, hv⟩ := hv
              refine gk_vV (pc := 94) [.int v39, .int v41, .int v43] [] (DX5_goes_0.at 58 rfl) cvX5_75 q44 rfl rfl (Nat.le_of_ble_eq_true rfl) (Nat.le_of_ble_eq_true rfl) (gk_Run.post (fun o h44 z => ?_) hv)
              obtain ⟨v44, rfl, hv⟩ := z
              refine gk_if_ne (pc := 97) 102 (DX5_goes_0.at 59 rfl) (by decide) (fun c => ?_) (fun c => ?_)
              · replace hv := hv.1 c
                refine gk_iinc (pc := 102) (x2 + nI 1) [(2, .int (x2 + nI 1)), (4, .int (nI 1)), (3, .int ((x1 - x2) + v2)), (0, .ref o), (1, .int x1)] 4 (DX5_goes_1.at 2 rfl) rfl (by rw [ci_1]) (Nat.le_of_ble_eq_true rfl) rfl ?_
                refine gk_goto (pc := 105) 2 (DX5_goes_1.at 3 rfl) (by decide) ?_
                exact gk_pick (pc := 2) [(0, .ref o), (1, .int x1), (2, .int (x2 + nI 1))] [3, 4, 0] rfl hv
              · replace hv := hv.2 c
                refine gk_iconst (pc := 100) (nI 0) (DX5_goes_1.at 0 rfl) ci_0 ?_
                exact gk_ireturn (pc := 101) .boolean (DX5_goes_1.at 1 rfl) rfl rfl ⟨_, rfl, hv⟩
          · replace hv := hv.2 c
            refine gk_iload_n (pc := 50) (DX5_goes_0.at 32 rfl) 0 rfl rfl ?_
            refine gk_aload_n (pc := 51) (DX5_goes_0.at 33 rfl) 1 rfl rfl ?_
            obtain ⟨fs45, v45, q45, r45, hv⟩ := hv
            refine gk_get (pc := 52) (.int v45) (DX5_goes_0.at 34 rfl) fX5_9_5 q45 r45 ?_
            refine gk_iload_n (pc := 55) (DX5_goes_0.at 35 rfl) 2 rfl rfl ?_
            refine gk_isub (pc := 56) (DX5_goes_0.at 36 rfl) ?_
            refine gk_icmp_lt (pc := 57) 64 (DX5_goes_0.at 37 rfl) (by decide) (fun c => ?_) (fun c => ?_)
            · replace hv := hv.1 c
              refine gk_iconst (pc := 64) (nI 0) (DX5_goes_0.at 40 rfl) ci_0 ?_
              refine gk_istore (pc := 65) [(4, .int (nI 0)), (3, .int ((x1 - x2) + v2)), (0, .ref o), (1, .int x1), (2, .int x2)] (DX5_goes_0.at 41 rfl) (Nat.le_of_ble_eq_true rfl) rfl ?_
              refine gk_iload (pc := 67) (DX5_goes_0.at 42 rfl) 0 rfl ?_
              refine gk_if_eq (pc := 69) 102 (DX5_goes_0.at 43 rfl) (by decide) (fun c => ?_) (fun c => ?_)
              · replace hv := hv.1 c
                refine gk_iinc (pc := 102) (x2 + nI 1) [(2, .int (x2 + nI 1)), (4, .int (nI 0)), (3, .int ((x1 - x2) + v2)), (0, .ref o), (1, .int x1)] 4 (DX5_goes_1.at 2 rfl) rfl (by rw [ci_1]) (Nat.le_of_ble_eq_true rfl) rfl ?_
                refine gk_goto (pc := 105) 2 (DX5_goes_1.at 3 rfl) (by decide) ?_
                exact gk_pick (pc := 2) [(0, .ref o), (1, .int x1), (2, .int (x2 + nI 1))] [3, 4, 0] rfl hv
              · replace hv := hv.2 c
                refine gk_aload_n (pc := 72) (DX5_goes_0.at 44 rfl) 2 rfl rfl ?_
                obtain ⟨fs46, v46, q46, r46, hv⟩ := hv
                refine gk_get (pc := 73) (.ref v46) (DX5_goes_0.at 45 rfl) fX5_22_5 q46 r46 ?_
                refine gk_aload_n (pc := 76) (DX5_goes_0.at 46 rfl) 2 rfl rfl ?_
                obtain ⟨fs47, v47, q47, r47, hv⟩ := hv
                refine gk_get (pc := 77) (.ref v47) (DX5_goes_0.at 47 rfl) fX5_15_5 q47 r47 ?_
                refine gk_iload_n (pc := 80) (DX5_goes_0.at 48 rfl) 4 rfl rfl ?_
                obtain ⟨n48, f48, q48, r48, hv⟩ := hv
                refine gk_iald (pc := 81) (DX5_goes_0.at 49 rfl) q48 r48 ?_
                generalize f48 _ = v48 at hv ⊢
                refine gk_aload_n (pc := 82) (DX5_goes_0.at 50 rfl) 2 rfl rfl ?_
                obtain ⟨fs49, v49, q49, r49, hv⟩ := hv
                refine gk_get (pc := 83) (.ref v49) (DX5_goes_0.at 51 rfl) fX5_15_5 q49 r49 ?_
                refine gk_iload_n (pc := 86) (DX5_goes_0.at 52 rfl) 1 rfl rfl ?_
                obtain ⟨n50, f50, q50, r50, hv⟩ := hv
                refine gk_iald (pc := 87) (DX5_goes_0.at 53 rfl) q50 r50 ?_
                generalize f50 _ = v50 at hv ⊢
                refine gk_aload_n (pc := 88) (DX5_goes_0.at 54 rfl) 2 rfl rfl ?_
                obtain ⟨fs51, v51, q51, r51, hv⟩ := hv
                refine gk_get (pc := 89) (.ref v51) (DX5_goes_0.at 55 rfl) fX5_15_5 q51 r51 ?_
                refine gk_iload_n (pc := 92) (DX5_goes_0.at 56 rfl) 3 rfl rfl ?_
                obtain ⟨n52, f52, q52, r52, hv⟩ := hv
                refine gk_iald (pc := 93) (DX5_goes_0.at 57 rfl) q52 r52 ?_
                generalize f52 _ = v52 at hv ⊢
                obtain ⟨⟨fs53, q53⟩, hv⟩ := hv
                refine gk_vV (pc := 94) [.int v48, .int v50, .int v52] [] (DX5_goes_0.at 58 rfl) cvX5_75 q53 rfl rfl (Nat.le_of_ble_eq_true rfl) (Nat.le_of_ble_eq_true rfl) (gk_Run.post (fun o h53 z => ?_) hv)
                obtain ⟨v53, rfl, hv⟩ := z
                refine gk_if_ne (pc := 97) 102 (DX5_goes_0.at 59 rfl) (by decide) (fun c => ?_) (fun c => ?_)
                · replace hv := hv.1 c
                  refine gk_iinc (pc := 102) (x2 + nI 1) [(2, .int (x2 + nI 1)), (4, .int (nI 0)), (3, .int ((x1 - x2) + v2)), (0, .ref o), (1, .int x1)] 4 (DX5_goes_1.at 2 rfl) rfl (by rw [ci_1]) (Nat.le_of_ble_eq_true rfl) rfl ?_
                  refine gk_goto (pc := 105) 2 (DX5_goes_1.at 3 rfl) (by decide) ?_
                  exact gk_pick (pc := 2) [(0, .ref o), (1, .int x1), (2, .int (x2 + nI 1))] [3, 4, 0] rfl hv
                · replace hv := hv.2 c
                  refine gk_iconst (pc := 100) (nI 0) (DX5_goes_1.at 0 rfl) ci_0 ?_
                  exact gk_ireturn (pc := 101) .boolean (DX5_goes_1.at 1 rfl) rfl rfl ⟨_, rfl, hv⟩
            · replace hv := hv.2 c
              refine gk_iconst (pc := 60) (nI 1) (DX5_goes_0.at 38 rfl) ci_1 ?_
              refine gk_goto (pc := 61) 65 (DX5_goes_0.at 39 rfl) (by decide) ?_
              refine gk_istore (pc := 65) [(4, .int (nI 1)), (3, .int ((x1 - x2) + v2)), (0, .ref o), (1, .int x1), (2, .int x2)] (DX5_goes_0.at 41 rfl) (Nat.le_of_ble_eq_true rfl) rfl ?_
              refine gk_iload (pc := 67) (DX5_goes_0.at 42 rfl) 0 rfl ?_
              refine gk_if_eq (pc := 69) 102 (DX5_goes_0.at 43 rfl) (by decide) (fun c => ?_) (fun c => ?_)
              · replace hv := hv.1 c
                refine gk_iinc (pc := 102) (x2 + nI 1) [(2, .int (x2 + nI 1)), (4, .int (nI 1)), (3, .int ((x1 - x2) + v2)), (0, .ref o), (1, .int x1)] 4 (DX5_goes_1.at 2 rfl) rfl (by rw [ci_1]) (Nat.le_of_ble_eq_true rfl) rfl ?_
                refine gk_goto (pc := 105) 2 (DX5_goes_1.at 3 rfl) (by decide) ?_
                exact gk_pick (pc := 2) [(0, .ref o), (1, .int x1), (2, .int (x2 + nI 1))] [3, 4, 0] rfl hv
              · replace hv := hv.2 c
                refine gk_aload_n (pc := 72) (DX5_goes_0.at 44 rfl) 2 rfl rfl ?_
                obtain ⟨fs54, v54, q54, r54, hv⟩ := hv
                refine gk_get (pc := 73) (.ref v54) (DX5_goes_0.at 45 rfl) fX5_22_5 q54 r54 ?_
                refine gk_aload_n (pc := 76) (DX5_goes_0.at 46 rfl) 2 rfl rfl ?_
                obtain ⟨fs55, v55, q55, r55, hv⟩ := hv
                refine gk_get (pc := 77) (.ref v55) (DX5_goes_0.at 47 rfl) fX5_15_5 q55 r55 ?_
                refine gk_iload_n (pc := 80) (DX5_goes_0.at 48 rfl) 4 rfl rfl ?_
                obtain ⟨n56, f56, q56, r56, hv⟩ := hv
                refine gk_iald (pc := 81) (DX5_goes_0.at 49 rfl) q56 r56 ?_
                generalize f56 _ = v56 at hv ⊢
                refine gk_aload_n (pc := 82) (DX5_goes_0.at 50 rfl) 2 rfl rfl ?_
                obtain ⟨fs57, v57, q57, r57, hv⟩ := hv
                refine gk_get (pc := 83) (.ref v57) (DX5_goes_0.at 51 rfl) fX5_15_5 q57 r57 ?_
                refine gk_iload_n (pc := 86) (DX5_goes_0.at 52 rfl) 1 rfl rfl ?_
                obtain ⟨n58, f58, q58, r58, hv⟩ := hv
                refine gk_iald (pc := 87) (DX5_goes_0.at 53 rfl) q58 r58 ?_
                generalize f58 _ = v58 at hv ⊢
                refine gk_aload_n (pc := 88) (DX5_goes_0.at 54 rfl) 2 rfl rfl ?_
                obtain ⟨fs59, v59, q59, r59, hv⟩ := hv
                refine gk_get (pc := 89) (.ref v59) (DX5_goes_0.at 55 rfl) fX5_15_5 q59 r59 ?_
                refine gk_iload_n (pc := 92) (DX5_goes_0.at 56 rfl) 3 rfl rfl ?_
                obtain ⟨n60, f60, q60, r60, hv⟩ := hv
                refine gk_iald (pc := 93) (DX5_goes_0.at 57 rfl) q60 r60 ?_
                generalize f60 _ = v60 at hv ⊢
                obtain ⟨⟨fs61, q61⟩, hv⟩ := hv
                refine gk_vV (pc := 94) [.int v56, .int v58, .int v60] [] (DX5_goes_0.at 58 rfl) cvX5_75 q61 rfl rfl (Nat.le_of_ble_eq_true rfl) (Nat.le_of_ble_eq_true rfl) (gk_Run.post (fun o h61 z => ?_) hv)
                obtain ⟨v61, rfl, hv⟩ := z
                refine gk_if_ne (pc := 97) 102 (DX5_goes_0.at 59 rfl) (by decide) (fun c => ?_) (fun c => ?_)
                · replace hv := hv.1 c
                  refine gk_iinc (pc := 102) (x2 + nI 1) [(2, .int (x2 + nI 1)), (4, .int (nI 1)), (3, .int ((x1 - x2) + v2)), (0, .ref o), (1, .int x1)] 4 (DX5_goes_1.at 2 rfl) rfl (by rw [ci_1]) (Nat.le_of_ble_eq_true rfl) rfl ?_
                  refine gk_goto (pc := 105) 2 (DX5_goes_1.at 3 rfl) (by decide) ?_
                  exact gk_pick (pc := 2) [(0, .ref o), (1, .int x1), (2, .int (x2 + nI 1))] [3, 4, 0] rfl hv
                · replace hv := hv.2 c
                  refine gk_iconst (pc := 100) (nI 0) (DX5_goes_1.at 0 rfl) ci_0 ?_
                  exact gk_ireturn (pc := 101) .boolean (DX5_goes_1.at 1 rfl) rfl rfl ⟨_, rfl, hv⟩
    · replace hv := hv.2 c
      refine gk_iload_n (pc := 15) (DX5_goes_0.at 9 rfl) 1 rfl rfl ?_
      refine gk_iload_n (pc := 16) (DX5_goes_0.at 10 rfl) 2 rfl rfl ?_
      refine gk_isub (pc := 17) (DX5_goes_0.at 11 rfl) ?_
      refine gk_goto (pc := 18) 29 (DX5_goes_0.at 12 rfl) (by decide) ?_
      refine gk_istore_n (pc := 29) [(3, .int (x1 - x2)), (0, .ref o), (1, .int x1), (2, .int x2)] (DX5_goes_0.at 19 rfl) rfl (Nat.le_of_ble_eq_true rfl) rfl ?_
      refine gk_iload_n (pc := 30) (DX5_goes_0.at 20 rfl) 3 rfl rfl ?_
      refine gk_iload_n (pc := 31) (DX5_goes_0.at 21 rfl) 2 rfl rfl ?_
      refine gk_icmp_le (pc := 32) 45 (DX5_goes_0.at 22 rfl) (by decide) (fun c => ?_) (fun c => ?_)
      · replace hv := hv.1 c
        refine gk_iload_n (pc := 45) (DX5_goes_0.at 29 rfl) 0 rfl rfl ?_
        refine gk_iload_n (pc := 46) (DX5_goes_0.at 30 rfl) 2 rfl rfl ?_
        refine gk_icmp_le (pc := 47) 60 (DX5_goes_0.at 31 rfl) (by decide) (fun c => ?_) (fun c => ?_)
        · replace hv := hv.1 c
          refine gk_iconst (pc := 60) (nI 1) (DX5_goes_0.at 38 rfl) ci_1 ?_
          refine gk_goto (pc := 61) 65 (DX5_goes_0.at 39 rfl) (by decide) ?_
          refine gk_istore (pc := 65) [(4, .int (nI 1)), (3, .int (x1 - x2)), (0, .ref o), (1, .int x1), (2, .int x2)] (DX5_goes_0.at 41 rfl) (Nat.le_of_ble_eq_true rfl) rfl ?_
          refine gk_iload (pc := 67) (DX5_goes_0.at 42 rfl) 0 rfl ?_
          refine gk_if_eq (pc := 69) 102 (DX5_goes_0.at 43 rfl) (by decide) (fun c => ?_) (fun c => ?_)
          · replace hv := hv.1 c
            refine gk_iinc (pc := 102) (x2 + nI 1) [(2, .int (x2 + nI 1)), (4, .int (nI 1)), (3, .int (x1 - x2)), (0, .ref o), (1, .int x1)] 4 (DX5_goes_1.at 2 rfl) rfl (by rw [ci_1]) (Nat.le_of_ble_eq_true rfl) rfl ?_
            refine gk_goto (pc := 105) 2 (DX5_goes_1.at 3 rfl) (by decide) ?_
            exact gk_pick (pc := 2) [(0, .ref o), (1, .int x1), (2, .int (x2 + nI 1))] [3, 4, 0] rfl hv
          · replace hv := hv.2 c
            refine gk_aload_n (pc := 72) (DX5_goes_0.at 44 rfl) 2 rfl rfl ?_
            obtain ⟨fs62, v62, q62, r62, hv⟩ := hv
            refine gk_get (pc := 73) (.ref v62) (DX5_goes_0.at 45 rfl) fX5_22_5 q62 r62 ?_
            refine gk_aload_n (pc := 76) (DX5_goes_0.at 46 rfl) 2 rfl rfl ?_
            obtain ⟨fs63, v63, q63, r63, hv⟩ := hv
            refine gk_get (pc := 77) (.ref v63) (DX5_goes_0.at 47 rfl) fX5_15_5 q63 r63 ?_
            refine gk_iload_n (pc := 80) (DX5_goes_0.at 48 rfl) 4 rfl rfl ?_
            obtain ⟨n64, f64, q64, r64, hv⟩ := hv
            refine gk_iald (pc := 81) (DX5_goes_0.at 49 rfl) q64 r64 ?_
            generalize f64 _ = v64 at hv ⊢
            refine gk_aload_n (pc := 82) (DX5_goes_0.at 50 rfl) 2 rfl rfl ?_
            obtain ⟨fs65, v65, q65, r65, hv⟩ := hv
            refine gk_get (pc := 83) (.ref v65) (DX5_goes_0.at 51 rfl) fX5_15_5 q65 r65 ?_
            refine gk_iload_n (pc := 86) (DX5_goes_0.at 52 rfl) 1 rfl rfl ?_
            obtain ⟨n66, f66, q66, r66, hv⟩ := hv
            refine gk_iald (pc := 87) (DX5_goes_0.at 53 rfl) q66 r66 ?_
            generalize f66 _ = v66 at hv ⊢
            refine gk_aload_n (pc := 88) (DX5_goes_0.at 54 rfl) 2 rfl rfl ?_
            obtain ⟨fs67, v67, q67, r67, hv⟩ := hv
            refine gk_get (pc := 89) (.ref v67) (DX5_goes_0.at 55 rfl) fX5_15_5 q67 r67 ?_
            refine gk_iload_n (pc := 92) (DX5_goes_0.at 56 rfl) 3 rfl rfl ?_
            obtain ⟨n68, f68, q68, r68, hv⟩ := hv
            refine gk_iald (pc := 93) (DX5_goes_0.at 57 rfl) q68 r68 ?_
            generalize f68 _ = v68 at hv ⊢
            obtain ⟨⟨fs69, q69⟩, hv⟩ := hv
            refine gk_vV (pc := 94) [.int v64, .int v66, .int v68] [] (DX5_goes_0.at 58 rfl) cvX5_75 q69 rfl rfl (Nat.le_of_ble_eq_true rfl) (Nat.le_of_ble_eq_true rfl) (gk_Run.post (fun o h69 z => ?_) hv)
            obtain ⟨v69, rfl, hv⟩ := z
            refine gk_if_ne (pc := 97) 102 (DX5_goes_0.at 59 rfl) (by decide) (fun c => ?_) (fun c => ?_)
            · replace hv := hv.1 c
              refine gk_iinc (pc := 102) (x2 + nI 1) [(2, .int (x2 + nI 1)), (4, .int (nI 1)), (3, .int (x1 - x2)), (0, .ref o), (1, .int x1)] 4 (DX5_goes_1.at 2 rfl) rfl (by rw [ci_1]) (Nat.le_of_ble_eq_true rfl) rfl ?_
              refine gk_goto (pc := 105) 2 (DX5_goes_1.at 3 rfl) (by decide) ?_
              exact gk_pick (pc := 2) [(0, .ref o), (1, .int x1), (2, .int (x2 + nI 1))] [3, 4, 0] rfl hv
            · replace hv := hv.2 c
              refine gk_iconst (pc := 100) (nI 0) (DX5_goes_1.at 0 rfl) ci_0 ?_
              exact gk_ireturn (pc := 101) .boolean (DX5_goes_1.at 1 rfl) rfl rfl ⟨_, rfl, hv⟩
        · replace hv := hv.2 c
          refine gk_iload_n (pc := 50) (DX5_goes_0.at 32 rfl) 0 rfl rfl ?_
          refine gk_aload_n (pc := 51) (DX5_goes_0.at 33 rfl) 1 rfl rfl ?_
          obtain ⟨fs70, v70, q70, r70, hv⟩ := hv
          refine gk_get (pc := 52) (.int v70) (DX5_goes_0.at 34 rfl) fX5_9_5 q70 r70 ?_
          refine gk_iload_n (pc := 55) (DX5_goes_0.at 35 rfl) 2 rfl rfl ?_
          refine gk_isub (pc := 56) (DX5_goes_0.at 36 rfl) ?_
          refine gk_icmp_lt (pc := 57) 64 (DX5_goes_0.at 37 rfl) (by decide) (fun c => ?_) (fun c => ?_)
          · replace hv := hv.1 c
            refine gk_iconst (pc := 64) (nI 0) (DX5_goes_0.at 40 rfl) ci_0 ?_
            refine gk_istore (pc := 65) [(4, .int (nI 0)), (3, .int (x1 - x2)), (0, .ref o), (1, .int x1), (2, .int x2)] (DX5_goes_0.at 41 rfl) (Nat.le_of_ble_eq_true rfl) rfl ?_
            refine gk_iload (pc := 67) (DX5_goes_0.at 42 rfl) 0 rfl ?_
            refine gk_if_eq (pc := 69) 102 (DX5_goes_0.at 43 rfl) (by decide) (fun c => ?_) (fun c => ?_)
            · replace hv := hv.1 c
              refine gk_iinc (pc := 102) (x2 + nI 1) [(2, .int (x2 + nI 1)), (4, .int (nI 0)), (3, .int (x1 - x2)), (0, .ref o), (1, .int x1)] 4 (DX5_goes_1.at 2 rfl) rfl (by rw [ci_1]) (Nat.le_of_ble_eq_true rfl) rfl ?_
              refine gk_goto (pc := 105) 2 (DX5_goes_1.at 3 rfl) (by decide) ?_
              exact gk_pick (pc := 2) [(0, .ref o), (1, .int x1), (2, .int (x2 + nI 1))] [3, 4, 0] rfl hv
            · replace hv := hv.2 c
              refine gk_aload_n (pc := 72) (DX5_goes_0.at 44 rfl) 2 rfl rfl ?_
              obtain ⟨fs71, v71, q71, r71, hv⟩ := hv
              refine gk_get (pc := 73) (.ref v71) (DX5_goes_0.at 45 rfl) fX5_22_5 q71 r71 ?_
              refine gk_aload_n (pc := 76) (DX5_goes_0.at 46 rfl) 2 rfl rfl ?_
              obtain ⟨fs72, v72, q72, r72, hv⟩ := hv
              refine gk_get (pc := 77) (.ref v72) (DX5_goes_0.at 47 rfl) fX5_15_5 q72 r72 ?_
              refine gk_iload_n (pc := 80) (DX5_goes_0.at 48 rfl) 4 rfl rfl ?_
              obtain ⟨n73, f73, q73, r73, hv⟩ := hv
              refine gk_iald (pc := 81) (DX5_goes_0.at 49 rfl) q73 r73 ?_
              generalize f73 _ = v73 at hv ⊢
              refine gk_aload_n (pc := 82) (DX5_goes_0.at 50 rfl) 2 rfl rfl ?_
              obtain ⟨fs74, v74, q74, r74, hv⟩ := hv
              refine gk_get (pc := 83) (.ref v74) (DX5_goes_0.at 51 rfl) fX5_15_5 q74 r74 ?_
              refine gk_iload_n (pc := 86) (DX5_goes_0.at 52 rfl) 1 rfl rfl ?_
              obtain ⟨n75, f75, q75, r75, hv⟩ := hv
              refine gk_iald (pc := 87) (DX5_goes_0.at 53 rfl) q75 r75 ?_
              generalize f75 _ = v75 at hv ⊢
              refine gk_aload_n (pc := 88) (DX5_goes_0.at 54 rfl) 2 rfl rfl ?_
              obtain ⟨fs76, v76, q76, r76, hv⟩ := hv
              refine gk_get (pc := 89) (.ref v76) (DX5_goes_0.at 55 rfl) fX5_15_5 q76 r76 ?_
              refine gk_iload_n (pc := 92) (DX5_goes_0.at 56 rfl) 3 rfl rfl ?_
              obtain ⟨n77, f77, q77, r77, hv⟩ := hv
              refine gk_iald (pc := 93) (DX5_goes_0.at 57 rfl) q77 r77 ?_
              generalize f77 _ = v77 at hv ⊢
              obtain ⟨⟨fs78, q78⟩, hv⟩ := hv
              refine gk_vV (pc := 94) [.int v73, .int v75, .int v77] [] (DX5_goes_0.at 58 rfl) cvX5_75 q78 rfl rfl (Nat.le_of_ble_eq_true rfl) (Nat.le_of_ble_eq_true rfl) (gk_Run.post (fun o h78 z => ?_) hv)
              obtain ⟨v78, rfl, hv⟩ := z
              refine gk_if_ne (pc := 97) 102 (DX5_goes_0.at 59 rfl) (by decide) (fun c => ?_) (fun c => ?_)
              · replace hv := hv.1 c
                refine gk_iinc (pc := 102) (x2 + nI 1) [(2, .int (x2 + nI 1)), (4, .int (nI 0)), (3, .int (x1 - x2)), (0, .ref o), (1, .int x1)] 4 (DX5_goes_1.at 2 rfl) rfl (by rw [ci_1]) (Nat.le_of_ble_eq_true rfl) rfl ?_
                refine gk_goto (pc := 105) 2 (DX5_goes_1.at 3 rfl) (by decide) ?_
                exact gk_pick (pc := 2) [(0, .ref o), (1, .int x1), (2, .int (x2 + nI 1))] [3, 4, 0] rfl hv
              · replace hv := hv.2 c
                refine gk_iconst (pc := 100) (nI 0) (DX5_goes_1.at 0 rfl) ci_0 ?_
                exact gk_ireturn (pc := 101) .boolean (DX5_goes_1.at 1 rfl) rfl rfl ⟨_, rfl, hv⟩
          · replace hv := hv.2 c
            refine gk_iconst (pc := 60) (nI 1) (DX5_goes_0.at 38 rfl) ci_1 ?_
            refine gk_goto (pc := 61) 65 (DX5_goes_0.at 39 rfl) (by decide) ?_
            refine gk_istore (pc := 65) [(4, .int (nI 1)), (3, .int (x1 - x2)), (0, .ref o), (1, .int x1), (2, .int x2)] (DX5_goes_0.at 41 rfl) (Nat.le_of_ble_eq_true rfl) rfl ?_
            refine gk_iload (pc := 67) (DX5_goes_0.at 42 rfl) 0 rfl ?_
            refine gk_if_eq (pc := 69) 102 (DX5_goes_0.at 43 rfl) (by decide) (fun c => ?_) (fun c => ?_)
            · replace hv := hv.1 c
              refine gk_iinc (pc := 102) (x2 + nI 1) [(2, .int (x2 + nI 1)), (4, .int (nI 1)), (3, .int (x1 - x2)), (0, .ref o), (1, .int x1)] 4 (DX5_goes_1.at 2 rfl) rfl (by rw [ci_1]) (Nat.le_of_ble_eq_true rfl) rfl ?_
              refine gk_goto (pc := 105) 2 (DX5_goes_1.at 3 rfl) (by decide) ?_
              exact gk_pick (pc := 2) [(0, .ref o), (1, .int x1), (2, .int (x2 + nI 1))] [3, 4, 0] rfl hv
            · replace hv := hv.2 c
              refine gk_aload_n (pc := 72) (DX5_goes_0.at 44 rfl) 2 rfl rfl ?_
              obtain ⟨fs79, v79, q79, r79, hv⟩ := hv
              refine gk_get (pc := 73) (.ref v79) (DX5_goes_0.at 45 rfl) fX5_22_5 q79 r79 ?_
              refine gk_aload_n (pc := 76) (DX5_goes_0.at 46 rfl) 2 rfl rfl ?_
              obtain ⟨fs80, v80, q80, r80, hv⟩ := hv
              refine gk_get (pc := 77) (.ref v80) (DX5_goes_0.at 47 rfl) fX5_15_5 q80 r80 ?_
              refine gk_iload_n (pc := 80) (DX5_goes_0.at 48 rfl) 4 rfl rfl ?_
              obtain ⟨n81, f81, q81, r81, hv⟩ := hv
              refine gk_iald (pc := 81) (DX5_goes_0.at 49 rfl) q81 r81 ?_
              generalize f81 _ = v81 at hv ⊢
              refine gk_aload_n (pc := 82) (DX5_goes_0.at 50 rfl) 2 rfl rfl ?_
              obtain ⟨fs82, v82, q82, r82, hv⟩ := hv
              refine gk_get (pc := 83) (.ref v82) (DX5_goes_0.at 51 rfl) fX5_15_5 q82 r82 ?_
              refine gk_iload_n (pc := 86) (DX5_goes_0.at 52 rfl) 1 rfl rfl ?_
              obtain ⟨n83, f83, q83, r83, hv⟩ := hv
              refine gk_iald (pc := 87) (DX5_goes_0.at 53 rfl) q83 r83 ?_
              generalize f83 _ = v83 at hv ⊢
              refine gk_aload_n (pc := 88) (DX5_goes_0.at 54 rfl) 2 rfl rfl ?_
              obtain ⟨fs84, v84, q84, r84, hv⟩ := hv
              refine gk_get (pc := 89) (.ref v84) (DX5_goes_0.at 55 rfl) fX5_15_5 q84 r84 ?_
              refine gk_iload_n (pc := 92) (DX5_goes_0.at 56 rfl) 3 rfl rfl ?_
              obtain ⟨n85, f85, q85, r85, hv⟩ := hv
              refine gk_iald (pc := 93) (DX5_goes_0.at 57 rfl) q85 r85 ?_
              generalize f85 _ = v85 at hv ⊢
              obtain ⟨⟨fs86, q86⟩, hv⟩ := hv
              refine gk_vV (pc := 94) [.int v81, .int v83, .int v85] [] (DX5_goes_0.at 58 rfl) cvX5_75 q86 rfl rfl (Nat.le_of_ble_eq_true rfl) (Nat.le_of_ble_eq_true rfl) (gk_Run.post (fun o h86 z => ?_) hv)
              obtain ⟨v86, rfl, hv⟩ := z
              refine gk_if_ne (pc := 97) 102 (DX5_goes_0.at 59 rfl) (by decide) (fun c => ?_) (fun c => ?_)
              · replace hv := hv.1 c
                refine gk_iinc (pc := 102) (x2 + nI 1) [(2, .int (x2 + nI 1)), (4, .int (nI 1)), (3, .int (x1 - x2)), (0, .ref o), (1, .int x1)] 4 (DX5_goes_1.at 2 rfl) rfl (by rw [ci_1]) (Nat.le_of_ble_eq_true rfl) rfl ?_
                refine gk_goto (pc := 105) 2 (DX5_goes_1.at 3 rfl) (by decide) ?_
                exact gk_pick (pc := 2) [(0, .ref o), (1, .int x1), (2, .int (x2 + nI 1))] [3, 4, 0] rfl hv
              · replace hv := hv.2 c
                refine gk_iconst (pc := 100) (nI 0) (DX5_goes_1.at 0 rfl) ci_0 ?_
                exact gk_ireturn (pc := 101) .boolean (DX5_goes_1.at 1 rfl) rfl rfl ⟨_, rfl, hv⟩
      · replace hv := hv.2 c
        refine gk_iload_n (pc := 35) (DX5_goes_0.at 23 rfl) 3 rfl rfl ?_
        refine gk_aload_n (pc := 36) (DX5_goes_0.at 24 rfl) 1 rfl rfl ?_
        obtain ⟨fs87, v87, q87, r87, hv⟩ := hv
        refine gk_get (pc := 37) (.int v87) (DX5_goes_0.at 25 rfl) fX5_9_5 q87 r87 ?_
        refine gk_iload_n (pc := 40) (DX5_goes_0.at 26 rfl) 2 rfl rfl ?_
        refine gk_isub (pc := 41) (DX5_goes_0.at 27 rfl) ?_
        refine gk_icmp_lt (pc := 42) 64 (DX5_goes_0.at 28 rfl) (by decide) (fun c => ?_) (fun c => ?_)
        · replace hv := hv.1 c
          refine gk_iconst (pc := 64) (nI 0) (DX5_goes_0.at 40 rfl) ci_0 ?_
          refine gk_istore (pc := 65) [(4, .int (nI 0)), (3, .int (x1 - x2)), (0, .ref o), (1, .int x1), (2, .int x2)] (DX5_goes_0.at 41 rfl) (Nat.le_of_ble_eq_true rfl) rfl ?_
          refine gk_iload (pc := 67) (DX5_goes_0.at 42 rfl) 0 rfl ?_
          refine gk_if_eq (pc := 69) 102 (DX5_goes_0.at 43 rfl) (by decide) (fun c => ?_) (fun c => ?_)
          · replace hv := hv.1 c
            refine gk_iinc (pc := 102) (x2 + nI 1) [(2, .int (x2 + nI 1)), (4, .int (nI 0)), (3, .int (x1 - x2)), (0, .ref o), (1, .int x1)] 4 (DX5_goes_1.at 2 rfl) rfl (by rw [ci_1]) (Nat.le_of_ble_eq_true rfl) rfl ?_
            refine gk_goto (pc := 105) 2 (DX5_goes_1.at 3 rfl) (by decide) ?_
            exact gk_pick (pc := 2) [(0, .ref o), (1, .int x1), (2, .int (x2 + nI 1))] [3, 4, 0] rfl hv
          · replace hv := hv.2 c
            refine gk_aload_n (pc := 72) (DX5_goes_0.at 44 rfl) 2 rfl rfl ?_
            obtain ⟨fs88, v88, q88, r88, hv⟩ := hv
            refine gk_get (pc := 73) (.ref v88) (DX5_goes_0.at 45 rfl) fX5_22_5 q88 r88 ?_
            refine gk_aload_n (pc := 76) (DX5_goes_0.at 46 rfl) 2 rfl rfl ?_
            obtain ⟨fs89, v89, q89, r89, hv⟩ := hv
            refine gk_get (pc := 77) (.ref v89) (DX5_goes_0.at 47 rfl) fX5_15_5 q89 r89 ?_
            refine gk_iload_n (pc := 80) (DX5_goes_0.at 48 rfl) 4 rfl rfl ?_
            obtain ⟨n90, f90, q90, r90, hv⟩ := hv
            refine gk_iald (pc := 81) (DX5_goes_0.at 49 rfl) q90 r90 ?_
            generalize f90 _ = v90 at hv ⊢
            refine gk_aload_n (pc := 82) (DX5_goes_0.at 50 rfl) 2 rfl rfl ?_
            obtain ⟨fs91, v91, q91, r91, hv⟩ := hv
            refine gk_get (pc := 83) (.ref v91) (DX5_goes_0.at 51 rfl) fX5_15_5 q91 r91 ?_
            refine gk_iload_n (pc := 86) (DX5_goes_0.at 52 rfl) 1 rfl rfl ?_
            obtain ⟨n92, f92, q92, r92, hv⟩ := hv
            refine gk_iald (pc := 87) (DX5_goes_0.at 53 rfl) q92 r92 ?_
            generalize f92 _ = v92 at hv ⊢
            refine gk_aload_n (pc := 88) (DX5_goes_0.at 54 rfl) 2 rfl rfl ?_
            obtain ⟨fs93, v93, q93, r93, hv⟩ := hv
            refine gk_get (pc := 89) (.ref v93) (DX5_goes_0.at 55 rfl) fX5_15_5 q93 r93 ?_
            refine gk_iload_n (pc := 92) (DX5_goes_0.at 56 rfl) 3 rfl rfl ?_
            obtain ⟨n94, f94, q94, r94, hv⟩ := hv
            refine gk_iald (pc := 93) (DX5_goes_0.at 57 rfl) q94 r94 ?_
            generalize f94 _ = v94 at hv ⊢
            obtain ⟨⟨fs95, q95⟩, hv⟩ := hv
            refine gk_vV (pc := 94) [.int v90, .int v92, .int v94] [] (DX5_goes_0.at 58 rfl) cvX5_75 q95 rfl rfl (Nat.le_of_ble_eq_true rfl) (Nat.le_of_ble_eq_true rfl) (gk_Run.post (fun o h95 z => ?_) hv)
            obtain ⟨v95, rfl, hv⟩ := z
            refine gk_if_ne (pc := 97) 102 (DX5_goes_0.at 59 rfl) (by decide) (fun c => ?_) (fun c => ?_)
            · replace hv := hv.1 c
              refine gk_iinc (pc := 102) (x2 + nI 1) [(2, .int (x2 + nI 1)), (4, .int (nI 0)), (3, .int (x1 - x2)), (0, .ref o), (1, .int x1)] 4 (DX5_goes_1.at 2 rfl) rfl (by rw [ci_1]) (Nat.le_of_ble_eq_true rfl) rfl ?_
              refine gk_goto (pc := 105) 2 (DX5_goes_1.at 3 rfl) (by decide) ?_
              exact gk_pick (pc := 2) [(0, .ref o), (1, .int x1), (2, .int (x2 + nI 1))] [3, 4, 0] rfl hv
            · replace hv := hv.2 c
              refine gk_iconst (pc := 100) (nI 0) (DX5_goes_1.at 0 rfl) ci_0 ?_
              exact gk_ireturn (pc := 101) .boolean (DX5_goes_1.at 1 rfl) rfl rfl ⟨_, rfl, hv⟩
        · replace hv := hv.2 c
          refine gk_iload_n (pc := 45) (DX5_goes_0.at 29 rfl) 0 rfl rfl ?_
          refine gk_iload_n (pc := 46) (DX5_goes_0.at 30 rfl) 2 rfl rfl ?_
          refine gk_icmp_le (pc := 47) 60 (DX5_goes_0.at 31 rfl) (by decide) (fun c => ?_) (fun c => ?_)
          · replace hv := hv.1 c
            refine gk_iconst (pc := 60) (nI 1) (DX5_goes_0.at 38 rfl) ci_1 ?_
            refine gk_goto (pc := 61) 65 (DX5_goes_0.at 39 rfl) (by decide) ?_
            refine gk_istore (pc := 65) [(4, .int (nI 1)), (3, .int (x1 - x2)), (0, .ref o), (1, .int x1), (2, .int x2)] (DX5_goes_0.at 41 rfl) (Nat.le_of_ble_eq_true rfl) rfl ?_
            refine gk_iload (pc := 67) (DX5_goes_0.at 42 rfl) 0 rfl ?_
            refine gk_if_eq (pc := 69) 102 (DX5_goes_0.at 43 rfl) (by decide) (fun c => ?_) (fun c => ?_)
            · replace hv := hv.1 c
              refine gk_iinc (pc := 102) (x2 + nI 1) [(2, .int (x2 + nI 1)), (4, .int (nI 1)), (3, .int (x1 - x2)), (0, .ref o), (1, .int x1)] 4 (DX5_goes_1.at 2 rfl) rfl (by rw [ci_1]) (Nat.le_of_ble_eq_true rfl) rfl ?_
              refine gk_goto (pc := 105) 2 (DX5_goes_1.at 3 rfl) (by decide) ?_
              exact gk_pick (pc := 2) [(0, .ref o), (1, .int x1), (2, .int (x2 + nI 1))] [3, 4, 0] rfl hv
            · replace hv := hv.2 c
              refine gk_aload_n (pc := 72) (DX5_goes_0.at 44 rfl) 2 rfl rfl ?_
              obtain ⟨fs96, v96, q96, r96, hv⟩ := hv
              refine gk_get (pc := 73) (.ref v96) (DX5_goes_0.at 45 rfl) fX5_22_5 q96 r96 ?_
              refine gk_aload_n (pc := 76) (DX5_goes_0.at 46 rfl) 2 rfl rfl ?_
              obtain ⟨fs97, v97, q97, r97, hv⟩ := hv
              refine gk_get (pc := 77) (.ref v97) (DX5_goes_0.at 47 rfl) fX5_15_5 q97 r97 ?_
              refine gk_iload_n (pc := 80) (DX5_goes_0.at 48 rfl) 4 rfl rfl ?_
              obtain ⟨n98, f98, q98, r98, hv⟩ := hv
              refine gk_iald (pc := 81) (DX5_goes_0.at 49 rfl) q98 r98 ?_
              generalize f98 _ = v98 at hv ⊢
              refine gk_aload_n (pc := 82) (DX5_goes_0.at 50 rfl) 2 rfl rfl ?_
              obtain ⟨fs99, v99, q99, r99, hv⟩ := hv
              refine gk_get (pc := 83) (.ref v99) (DX5_goes_0.at 51 rfl) fX5_15_5 q99 r99 ?_
              refine gk_iload_n (pc := 86) (DX5_goes_0.at 52 rfl) 1 rfl rfl ?_
              obtain ⟨n100, f100, q100, r100, hv⟩ := hv
              refine gk_iald (pc := 87) (DX5_goes_0.at 53 rfl) q100 r100 ?_
              generalize f100 _ = v100 at hv ⊢
              refine gk_aload_n (pc := 88) (DX5_goes_0.at 54 rfl) 2 rfl rfl ?_
              obtain ⟨fs101, v101, q101, r101, hv⟩ := hv
              refine gk_get (pc := 89) (.ref v101) (DX5_goes_0.at 55 rfl) fX5_15_5 q101 r101 ?_
              refine gk_iload_n (pc := 92) (DX5_goes_0.at 56 rfl) 3 rfl rfl ?_
              obtain ⟨n102, f102, q102, r102, hv⟩ := hv
              refine gk_iald (pc := 93) (DX5_goes_0.at 57 rfl) q102 r102 ?_
              generalize f102 _ = v102 at hv ⊢
              obtain ⟨⟨fs103, q103⟩, hv⟩ := hv
              refine gk_vV (pc := 94) [.int v98, .int v100, .int v102] [] (DX5_goes_0.at 58 rfl) cvX5_75 q103 rfl rfl (Nat.le_of_ble_eq_true rfl) (Nat.le_of_ble_eq_true rfl) (gk_Run.post (fun o h103 z => ?_) hv)
              obtain ⟨v103, rfl, hv⟩ := z
              refine gk_if_ne (pc := 97) 102 (DX5_goes_0.at 59 rfl) (by decide) (fun c => ?_) (fun c => ?_)
              · replace hv := hv.1 c
                refine gk_iinc (pc := 102) (x2 + nI 1) [(2, .int (x2 + nI 1)), (4, .int (nI 1)), (3, .int (x1 - x2)), (0, .ref o), (1, .int x1)] 4 (DX5_goes_1.at 2 rfl) rfl (by rw [ci_1]) (Nat.le_of_ble_eq_true rfl) rfl ?_
                refine gk_goto (pc := 105) 2 (DX5_goes_1.at 3 rfl) (by decide) ?_
                exact gk_pick (pc := 2) [(0, .ref o), (1, .int x1), (2, .int (x2 + nI 1))] [3, 4, 0] rfl hv
              · replace hv := hv.2 c
                refine gk_iconst (pc := 100) (nI 0) (DX5_goes_1.at 0 rfl) ci_0 ?_
                exact gk_ireturn (pc := 101) .boolean (DX5_goes_1.at 1 rfl) rfl rfl ⟨_, rfl, hv⟩
          · replace hv := hv.2 c
            refine gk_iload_n (pc := 50) (DX5_goes_0.at 32 rfl) 0 rfl rfl ?_
            refine gk_aload_n (pc := 51) (DX5_goes_0.at 33 rfl) 1 rfl rfl ?_
            obtain ⟨fs104, v104, q104, r104, hv⟩ := hv
            refine gk_get (pc := 52) (.int v104) (DX5_goes_0.at 34 rfl) fX5_9_5 q104 r104 ?_
            refine gk_iload_n (pc := 55) (DX5_goes_0.at 35 rfl) 2 rfl rfl ?_
            refine gk_isub (pc := 56) (DX5_goes_0.at 36 rfl) ?_
            refine gk_icmp_lt (pc := 57) 64 (DX5_goes_0.at 37 rfl) (by decide) (fun c => ?_) (fun c => ?_)
            · replace hv := hv.1 c
              refine gk_iconst (pc := 64) (nI 0) (DX5_goes_0.at 40 rfl) ci_0 ?_
              refine gk_istore (pc := 65) [(4, .int (nI 0)), (3, .int (x1 - x2)), (0, .ref o), (1, .int x1), (2, .int x2)] (DX5_goes_0.at 41 rfl) (Nat.le_of_ble_eq_true rfl) rfl ?_
              refine gk_iload (pc := 67) (DX5_goes_0.at 42 rfl) 0 rfl ?_
              refine gk_if_eq (pc := 69) 102 (DX5_goes_0.at 43 rfl) (by decide) (fun c => ?_) (fun c => ?_)
              · replace hv := hv.1 c
                refine gk_iinc (pc := 102) (x2 + nI 1) [(2, .int (x2 + nI 1)), (4, .int (nI 0)), (3, .int (x1 - x2)), (0, .ref o), (1, .int x1)] 4 (DX5_goes_1.at 2 rfl) rfl (by rw [ci_1]) (Nat.le_of_ble_eq_true rfl) rfl ?_
                refine gk_goto (pc := 105) 2 (DX5_goes_1.at 3 rfl) (by decide) ?_
                exact gk_pick (pc := 2) [(0, .ref o), (1, .int x1), (2, .int (x2 + nI 1))] [3, 4, 0] rfl hv
              · replace hv := hv.2 c
                refine gk_aload_n (pc := 72) (DX5_goes_0.at 44 rfl) 2 rfl rfl ?_
                obtain ⟨fs105, v105, q105, r105, hv⟩ := hv
                refine gk_get (pc := 73) (.ref v105) (DX5_goes_0.at 45 rfl) fX5_22_5 q105 r105 ?_
                refine gk_aload_n (pc := 76) (DX5_goes_0.at 46 rfl) 2 rfl rfl ?_
                obtain ⟨fs106, v106, q106, r106, hv⟩ := hv
                refine gk_get (pc := 77) (.ref v106) (DX5_goes_0.at 47 rfl) fX5_15_5 q106 r106 ?_
                refine gk_iload_n (pc := 80) (DX5_goes_0.at 48 rfl) 4 rfl rfl ?_
                obtain ⟨n107, f107, q107, r107, hv⟩ := hv
                refine gk_iald (pc := 81) (DX5_goes_0.at 49 rfl) q107 r107 ?_
                generalize f107 _ = v107 at hv ⊢
                refine gk_aload_n (pc := 82) (DX5_goes_0.at 50 rfl) 2 rfl rfl ?_
                obtain ⟨fs108, v108, q108, r108, hv⟩ := hv
                refine gk_get (pc := 83) (.ref v108) (DX5_goes_0.at 51 rfl) fX5_15_5 q108 r108 ?_
                refine gk_iload_n (pc := 86) (DX5_goes_0.at 52 rfl) 1 rfl rfl ?_
                obtain ⟨n109, f109, q109, r109, hv⟩ := hv
                refine gk_iald (pc := 87) (DX5_goes_0.at 53 rfl) q109 r109 ?_
                generalize f109 _ = v109 at hv ⊢
                refine gk_aload_n (pc := 88) (DX5_goes_0.at 54 rfl) 2 rfl rfl ?_
                obtain ⟨fs110, v110, q110, r110, hv⟩ := hv
                refine gk_get (pc := 89) (.ref v110) (DX5_goes_0.at 55 rfl) fX5_15_5 q110 r110 ?_
                refine gk_iload_n (pc := 92) (DX5_goes_0.at 56 rfl) 3 rfl rfl ?_
                obtain ⟨n111, f111, q111, r111, hv⟩ := hv
                refine gk_iald (pc := 93) (DX5_goes_0.at 57 rfl) q111 r111 ?_
                generalize f111 _ = v111 at hv ⊢
                obtain ⟨⟨fs112, q112⟩, hv⟩ := hv
                refine gk_vV (pc := 94) [.int v107, .int v109, .int v111] [] (DX5_goes_0.at 58 rfl) cvX5_75 q112 rfl rfl (Nat.le_of_ble_eq_true rfl) (Nat.le_of_ble_eq_true rfl) (gk_Run.post (fun o h112 z => ?_) hv)
                obtain ⟨v112, rfl, hv⟩ := z
                refine gk_if_ne (pc := 97) 102 (DX5_goes_0.at 59 rfl) (by decide) (fun c => ?_) (fun c => ?_)
                · replace hv := hv.1 c
                  refine gk_iinc (pc := 102) (x2 + nI 1) [(2, .int (x2 + nI 1)), (4, .int (nI 0)), (3, .int (x1 - x2)), (0, .ref o), (1, .int x1)] 4 (DX5_goes_1.at 2 rfl) rfl (by rw [ci_1]) (Nat.le_of_ble_eq_true rfl) rfl ?_
                  refine gk_goto (pc := 105) 2 (DX5_goes_1.at 3 rfl) (by decide) ?_
                  exact gk_pick (pc := 2) [(0, .ref o), (1, .int x1), (2, .int (x2 + nI 1))] [3, 4, 0] rfl hv
                · replace hv := hv.2 c
                  refine gk_iconst (pc := 100) (nI 0) (DX5_goes_1.at 0 rfl) ci_0 ?_
                  exact gk_ireturn (pc := 101) .boolean (DX5_goes_1.at 1 rfl) rfl rfl ⟨_, rfl, hv⟩
            · replace hv := hv.2 c
              refine gk_iconst (pc := 60) (nI 1) (DX5_goes_0.at 38 rfl) ci_1 ?_
              refine gk_goto (pc := 61) 65 (DX5_goes_0.at 39 rfl) (by decide) ?_
              refine gk_istore (pc := 65) [(4, .int (nI 1)), (3, .int (x1 - x2)), (0, .ref o), (1, .int x1), (2, .int x2)] (DX5_goes_0.at 41 rfl) (Nat.le_of_ble_eq_true rfl) rfl ?_
              refine gk_iload (pc := 67) (DX5_goes_0.at 42 rfl) 0 rfl ?_
              refine gk_if_eq (pc := 69) 102 (DX5_goes_0.at 43 rfl) (by decide) (fun c => ?_) (fun c => ?_)
              · replace hv := hv.1 c
                refine gk_iinc (pc := 102) (x2 + nI 1) [(2, .int (x2 + nI 1)), (4, .int (nI 1)), (3, .int (x1 - x2)), (0, .ref o), (1, .int x1)] 4 (DX5_goes_1.at 2 rfl) rfl (by rw [ci_1]) (Nat.le_of_ble_eq_true rfl) rfl ?_
                refine gk_goto (pc := 105) 2 (DX5_goes_1.at 3 rfl) (by decide) ?_
                exact gk_pick (pc := 2) [(0, .ref o), (1, .int x1), (2, .int (x2 + nI 1))] [3, 4, 0] rfl hv
              · replace hv := hv.2 c
                refine gk_aload_n (pc := 72) (DX5_goes_0.at 44 rfl) 2 rfl rfl ?_
                obtain ⟨fs113, v113, q113, r113, hv⟩ := hv
                refine gk_get (pc := 73) (.ref v113) (DX5_goes_0.at 45 rfl) fX5_22_5 q113 r113 ?_
                refine gk_aload_n (pc := 76) (DX5_goes_0.at 46 rfl) 2 rfl rfl ?_
                obtain ⟨fs114, v114, q114, r114, hv⟩ := hv
                refine gk_get (pc := 77) (.ref v114) (DX5_goes_0.at 47 rfl) fX5_15_5 q114 r114 ?_
                refine gk_iload_n (pc := 80) (DX5_goes_0.at 48 rfl) 4 rfl rfl ?_
                obtain ⟨n115, f115, q115, r115, hv⟩ := hv
                refine gk_iald (pc := 81) (DX5_goes_0.at 49 rfl) q115 r115 ?_
                generalize f115 _ = v115 at hv ⊢
                refine gk_aload_n (pc := 82) (DX5_goes_0.at 50 rfl) 2 rfl rfl ?_
                obtain ⟨fs116, v116, q116, r116, hv⟩ := hv
                refine gk_get (pc := 83) (.ref v116) (DX5_goes_0.at 51 rfl) fX5_15_5 q116 r116 ?_
                refine gk_iload_n (pc := 86) (DX5_goes_0.at 52 rfl) 1 rfl rfl ?_
                obtain ⟨n117, f117, q117, r117, hv⟩ := hv
                refine gk_iald (pc := 87) (DX5_goes_0.at 53 rfl) q117 r117 ?_
                generalize f117 _ = v117 at hv ⊢
                refine gk_aload_n (pc := 88) (DX5_goes_0.at 54 rfl) 2 rfl rfl ?_
                obtain ⟨fs118, v118, q118, r118, hv⟩ := hv
                refine gk_get (pc := 89) (.ref v118) (DX5_goes_0.at 55 rfl) fX5_15_5 q118 r118 ?_
                refine gk_iload_n (pc := 92) (DX5_goes_0.at 56 rfl) 3 rfl rfl ?_
                obtain ⟨n119, f119, q119, r119, hv⟩ := hv
                refine gk_iald (pc := 93) (DX5_goes_0.at 57 rfl) q119 r119 ?_
                generalize f119 _ = v119 at hv ⊢
                obtain ⟨⟨fs120, q120⟩, hv⟩ := hv
                refine gk_vV (pc := 94) [.int v115, .int v117, .int v119] [] (DX5_goes_0.at 58 rfl) cvX5_75 q120 rfl rfl (Nat.le_of_ble_eq_true rfl) (Nat.le_of_ble_eq_true rfl) (gk_Run.post (fun o h120 z => ?_) hv)
                obtain ⟨v120, rfl, hv⟩ := z
                refine gk_if_ne (pc := 97) 102 (DX5_goes_0.at 59 rfl) (by decide) (fun c => ?_) (fun c => ?_)
                · replace hv := hv.1 c
                  refine gk_iinc (pc := 102) (x2 + nI 1) [(2, .int (x2 + nI 1)), (4, .int (nI 1)), (3, .int (x1 - x2)), (0, .ref o), (1, .int x1)] 4 (DX5_goes_1.at 2 rfl) rfl (by rw [ci_1]) (Nat.le_of_ble_eq_true rfl) rfl ?_
                  refine gk_goto (pc := 105) 2 (DX5_goes_1.at 3 rfl) (by decide) ?_
                  exact gk_pick (pc := 2) [(0, .ref o), (1, .int x1), (2, .int (x2 + nI 1))] [3, 4, 0] rfl hv
                · replace hv := hv.2 c
                  refine gk_iconst (pc := 100) (nI 0) (DX5_goes_1.at 0 rfl) ci_0 ?_
                  exact gk_ireturn (pc := 101) .boolean (DX5_goes_1.at 1 rfl) rfl rfl ⟨_, rfl, hv⟩
abbrev pX5_isFull_4 (E : gk_E) (dd : Nat) (o : Nat) (x1 : Int32) (x2 : Int32) (h : gk_H) (K : Int32 → gk_H → Prop) : Prop := gk_G E mX5_isFull (dd + 1, 0, 0) 4 [(0, .ref o), (1, .int x1), (2, .int x2)] [] h (fun o h1 => ∃ v, o = some (.int v) ∧ K v h1)
set_option maxHeartbeats 4000000 in
theorem vX5_isFull_0 {E : gk_E} {dd : Nat} {o : Nat}  {h : gk_H} {K : Int32 → gk_H → Prop} (hv : pX5_isFull_4 E dd o (nI 0) (nI 0) h K) : RnI E mX5_isFull (dd + 1, 0, 0) [.ref o] h K := by
  show gk_G E mX5_isFull (dd + 1, 0, 0) 0 [(0, .ref o)] [] h (fun o h1 => ∃ v, o = some (.int v) ∧ K v h1)
  refine gk_iconst (pc := 0) (nI 0) (DX5_isFull_0.at 0 rfl) ci_0 ?_
  refine gk_istore_n (pc := 1) [(1, .int (nI 0)), (0, .ref o)] (DX5_isFull_0.at 1 rfl) rfl (Nat.le_of_ble_eq_true rfl) rfl ?_
  refine gk_iconst (pc := 2) (nI 0) (DX5_isFull_0.at 2 rfl) ci_0 ?_
  refine gk_istore_n (pc := 3) [(2, .int (nI 0)), (1, .int (nI 0)), (0, .ref o)] (DX5_isFull_0.at 3 rfl) rfl (Nat.le_of_ble_eq_true rfl) rfl ?_
  exact gk_pick (pc := 4) [(0, .ref o), (1, .int (nI 0)), (2, .int (nI 0))] [2, 1, 0] rfl hv
set_option maxHeartbeats 4000000 in
theorem vX5_isFull_4 {E : gk_E} {dd : Nat} {o : Nat} {x1 : Int32} {x2 : Int32}  {h : gk_H} {K : Int32 → gk_H → Prop} (hv : LdI h o 5 5 fun v1 => (v1 ≤ x2 → LdR h o 5 4 fun v2 => (∃ fs, h[v2]? = some (.inr (8, fs))) ∧ RnI E mX8_relations (dd, 0, 0) [.ref v2] h (fun v3 h3 => (¬ x1 = (v3 - (nI 1)) → K (nI 0) h3) ∧ (x1 = (v3 - (nI 1)) → K (nI 1) h3))) ∧ (¬ v1 ≤ x2 → LdR h o 5 6 fun v4 => AlI h v4 x2 fun v5 => pX5_isFull_4 E dd o (x1 ||| ((nI 1) <<< (v5 &&& 31))) (x2 + nI 1) h K)) : pX5_isFull_4 E dd o x1 x2 h K := by
  show gk_G E mX5_isFull (dd + 1, 0, 0) 4 [(0, .ref o), (1, .int x1), (2, .int x2)] [] h (fun o h1 => ∃ v, o = some (.int v) ∧ K v h1)
  refine gk_iload_n (pc := 4) (DX5_isFull_0.at 4 rfl) 2 rfl rfl ?_
  refine gk_aload_n (pc := 5) (DX5_isFull_0.at 5 rfl) 0 rfl rfl ?_
  obtain ⟨fs1, v1, q1, r1, hv⟩ := hv
  refine gk_get (pc := 6) (.int v1) (DX5_isFull_0.at 6 rfl) fX5_9_5 q1 r1 ?_
  refine gk_icmp_ge (pc := 9) 29 (DX5_isFull_0.at 7 rfl) (by decide) (fun c => ?_) (fun c => ?_)
  · replace hv := hv.1 c
    refine gk_iload_n (pc := 29) (DX5_isFull_0.at 19 rfl) 1 rfl rfl ?_
    refine gk_aload_n (pc := 30) (DX5_isFull_0.at 20 rfl) 0 rfl rfl ?_
    obtain ⟨fs2, v2, q2, r2, hv⟩ := hv
    refine gk_get (pc := 31) (.ref v2) (DX5_isFull_0.at 21 rfl) fX5_22_5 q2 r2 ?_
    obtain ⟨⟨fs3, q3⟩, hv⟩ := hv
    refine gk_vV (pc := 34) [] [.int x1] (DX5_isFull_0.at 22 rfl) cvX5_45 q3 rfl rfl (Nat.le_of_ble_eq_true rfl) (Nat.le_of_ble_eq_true rfl) (gk_Run.post (fun o h3 z => ?_) hv)
    obtain ⟨v3, rfl, hv⟩ := z
    refine gk_iconst (pc := 37) (nI 1) (DX5_isFull_0.at 23 rfl) ci_1 ?_
    refine gk_isub (pc := 38) (DX5_isFull_0.at 24 rfl) ?_
    refine gk_icmp_ne (pc := 39) 46 (DX5_isFull_0.at 25 rfl) (by decide) (fun c => ?_) (fun c => ?_)
    · replace hv := hv.1 c
      refine gk_iconst (pc := 46) (nI 0) (DX5_isFull_0.at 28 rfl) ci_0 ?_
      exact gk_ireturn (pc := 47) .boolean (DX5_isFull_0.at 29 rfl) rfl rfl ⟨_, rfl, hv⟩
    · replace hv := hv.2 c
      refine gk_iconst (pc := 42) (nI 1) (DX5_isFull_0.at 26 rfl) ci_1 ?_
      refine gk_goto (pc := 43) 47 (DX5_isFull_0.at 27 rfl) (by decide) ?_
      exact gk_ireturn (pc := 47) .boolean (DX5_isFull_0.at 29 rfl) rfl rfl ⟨_, rfl, hv⟩
  · replace hv := hv.2 c
    refine gk_iload_n (pc := 12) (DX5_isFull_0.at 8 rfl) 1 rfl rfl ?_
    refine gk_iconst (pc := 13) (nI 1) (DX5_isFull_0.at 9 rfl) ci_1 ?_
    refine gk_aload_n (pc := 14) (DX5_isFull_0.at 10 rfl) 0 rfl rfl ?_
    obtain ⟨fs4, v4, q4, r4, hv⟩ := hv
    refine gk_get (pc := 15) (.ref v4) (DX5_isFull_0.at 11 rfl) fX5_15_5 q4 r4 ?_
    refine gk_iload_n (pc := 18) (DX5_isFull_0.at 12 rfl) 2 rfl rfl ?_
    obtain ⟨n5, f5, q5, r5, hv⟩ := hv
    refine gk_iald (pc := 19) (DX5_isFull_0.at 13 rfl) q5 r5 ?_
    generalize f5 _ = v5 at hv ⊢
    refine gk_ishl (pc := 20) (DX5_isFull_0.at 14 rfl) ?_
    refine gk_ior (pc := 21) (DX5_isFull_0.at 15 rfl) ?_
    refine gk_istore_n (pc := 22) [(1, .int (x1 ||| ((nI 1) <<< (v5 &&& 31)))), (0, .ref o), (2, .int x2)] (DX5_isFull_0.at 16 rfl) rfl (Nat.le_of_ble_eq_true rfl) rfl ?_
    refine gk_iinc (pc := 23) (x2 + nI 1) [(2, .int (x2 + nI 1)), (1, .int (x1 ||| ((nI 1) <<< (v5 &&& 31)))), (0, .ref o)] 2 (DX5_isFull_0.at 17 rfl) rfl (by rw [ci_1]) (Nat.le_of_ble_eq_true rfl) rfl ?_
    refine gk_goto (pc := 26) 4 (DX5_isFull_0.at 18 rfl) (by decide) ?_
    exact gk_pick (pc := 4) [(0, .ref o), (1, .int (x1 ||| ((nI 1) <<< (v5 &&& 31)))), (2, .int (x2 + nI 1))] [2, 1, 0] rfl hv
abbrev pX5_misfit_2 (E : gk_E) (dd : Nat) (o : Nat) (x1 : Int32) (h : gk_H) (K : Int32 → gk_H → Prop) : Prop := gk_G E mX5_misfit (dd, 0, 0) 2 [(0, .ref o), (1, .int x1)] [] h (fun o h1 => ∃ v, o = some (.int v) ∧ K v h1)
abbrev pX5_misfit_14 (E : gk_E) (dd : Nat) (o : Nat) (x1 : Int32) (x2 : Int32) (x3 : Int32) (h : gk_H) (K : Int32 → gk_H → Prop) : Prop := gk_G E mX5_misfit (dd, 0, 0) 14 [(0, .ref o), (1, .int x1), (2, .int x2), (3, .int x3)] [] h (fun o h1 => ∃ v, o = some (.int v) ∧ K v h1)
set_option maxHeartbeats 4000000 in
theorem vX5_misfit_0 {E : gk_E} {dd : Nat} {o : Nat}  {h : gk_H} {K : Int32 → gk_H → Prop} (hv : pX5_misfit_2 E dd o (nI 0) h K) : RnI E mX5_misfit (dd, 0, 0) [.ref o] h K := by
  show gk_G E mX5_misfit (dd, 0, 0) 0 [(0, .ref o)] [] h (fun o h1 => ∃ v, o = some (.int v) ∧ K v h1)
  refine gk_iconst (pc := 0) (nI 0) (DX5_misfit_0.at 0 rfl) ci_0 ?_
  refine gk_istore_n (pc := 1) [(1, .int (nI 0)), (0, .ref o)] (DX5_misfit_0.at 1 rfl) rfl (Nat.le_of_ble_eq_true rfl) rfl ?_
  exact gk_pick (pc := 2) [(0, .ref o), (1, .int (nI 0))] [1, 0] rfl hv
set_option maxHeartbeats 4000000 in
theorem vX5_misfit_2 {E : gk_E} {dd : Nat} {o : Nat} {x1 : Int32}  {h : gk_H} {K : Int32 → gk_H → Prop} (hv : LdI h o 5 5 fun v1 => (v1 ≤ x1 → K ((-1)) h) ∧ (¬ v1 ≤ x1 → pX5_misfit_14 E dd o x1 (nI 0) (nI 0) h K)) : pX5_misfit_2 E dd o x1 h K := by
  show gk_G E mX5_misfit (dd, 0, 0) 2 [(0, .ref o), (1, .int x1)] [] h (fun o h1 => ∃ v, o = some (.int v) ∧ K v h1)
  refine gk_iload_n (pc := 2) (DX5_misfit_0.at 2 rfl) 1 rfl rfl ?_
  refine gk_aload_n (pc := 3) (DX5_misfit_0.at 3 rfl) 0 rfl rfl ?_
  obtain ⟨fs1, v1, q1, r1, hv⟩ := hv
  refine gk_get (pc := 4) (.int v1) (DX5_misfit_0.at 4 rfl) fX5_9_5 q1 r1 ?_
  refine gk_icmp_ge (pc := 7) 89 (DX5_misfit_0.at 5 rfl) (by decide) (fun c => ?_) (fun c => ?_)
  · replace hv := hv.1 c
    refine gk_iconst (pc := 89) ((-1)) (DX5_misfit_0.at 57 rfl) ci_m1 ?_
    exact gk_ireturn (pc := 90) .int (DX5_misfit_0.at 58 rfl) rfl rfl ⟨_, rfl, hv⟩
  · replace hv := hv.2 c
    refine gk_iconst (pc := 10) (nI 0) (DX5_misfit_0.at 6 rfl) ci_0 ?_
    refine gk_istore_n (pc := 11) [(2, .int (nI 0)), (0, .ref o), (1, .int x1)] (DX5_misfit_0.at 7 rfl) rfl (Nat.le_of_ble_eq_true rfl) rfl ?_
    refine gk_iconst (pc := 12) (nI 0) (DX5_misfit_0.at 8 rfl) ci_0 ?_
    refine gk_istore_n (pc := 13) [(3, .int (nI 0)), (2, .int (nI 0)), (0, .ref o), (1, .int x1)] (DX5_misfit_0.at 9 rfl) rfl (Nat.le_of_ble_eq_true rfl) rfl ?_
    exact gk_pick (pc := 14) [(0, .ref o), (1, .int x1), (2, .int (nI 0)), (3, .int (nI 0))] [2, 3, 1, 0] rfl hv
set_option maxHeartbeats 4000000 in
theorem vX5_misfit_14 {E : gk_E} {dd : Nat} {o : Nat} {x1 : Int32} {x2 : Int32} {x3 : Int32}  {h : gk_H} {K : Int32 → gk_H → Prop} (hv : LdI h o 5 5 fun v1 => (v1 ≤ x3 → LdR h o 5 7 fun v2 => LdR h o 5 6 fun v3 => AlI h v3 x1 fun v4 => AlI h v2 v4 fun v5 => (x2 = v5 → pX5_misfit_2 E dd o (x1 + nI 1) h K) ∧ (¬ x2 = v5 → K x1 h)) ∧ (¬ v1 ≤ x3 → LdR h o 5 6 fun v6 => AlI h v6 x3 fun v7 => LdR h o 5 6 fun v8 => (x1 < x3 → LdI h o 5 5 fun v9 => AlI h v8 ((x1 - x3) + v9) fun v10 => pX5_misfit_14 E dd o x1 (x2 ||| ((nI 1) <<< ((((nI 4) * v7) + v10) &&& 31))) (x3 + nI 1) h K) ∧ (¬ x1 < x3 → AlI h v8 (x1 - x3) fun v11 => pX5_misfit_14 E dd o x1 (x2 ||| ((nI 1) <<< ((((nI 4) * v7) + v11) &&& 31))) (x3 + nI 1) h K))) : pX5_misfit_14 E dd o x1 x2 x3 h K := by
  show gk_G E mX5_misfit (dd, 0, 0) 14 [(0, .ref o), (1, .int x1), (2, .int x2), (3, .int x3)] [] h (fun o h1 => ∃ v, o = some (.int v) ∧ K v h1)
  refine gk_iload_n (pc := 14) (DX5_misfit_0.at 10 rfl) 3 rfl rfl ?_
  refine gk_aload_n (pc := 15) (DX5_misfit_0.at 11 rfl) 0 rfl rfl ?_
  obtain ⟨fs1, v1, q1, r1, hv⟩ := hv
  refine gk_get (pc := 16) (.int v1) (DX5_misfit_0.at 12 rfl) fX5_9_5 q1 r1 ?_
  refine gk_icmp_ge (pc := 19) 66 (DX5_misfit_0.at 13 rfl) (by decide) (fun c => ?_) (fun c => ?_)
  · replace hv := hv.1 c
    refine gk_iload_n (pc := 66) (DX5_misfit_0.at 44 rfl) 2 rfl rfl ?_
    refine gk_aload_n (pc := 67) (DX5_misfit_0.at 45 rfl) 0 rfl rfl ?_
    obtain ⟨fs2, v2, q2, r2, hv⟩ := hv
    refine gk_get (pc := 68) (.ref v2) (DX5_misfit_0.at 46 rfl) fX5_19_5 q2 r2 ?_
    refine gk_aload_n (pc := 71) (DX5_misfit_0.at 47 rfl) 0 rfl rfl ?_
    obtain ⟨fs3, v3, q3, r3, hv⟩ := hv
    refine gk_get (pc := 72) (.ref v3) (DX5_misfit_0.at 48 rfl) fX5_15_5 q3 r3 ?_
    refine gk_iload_n (pc := 75) (DX5_misfit_0.at 49 rfl) 1 rfl rfl ?_
    obtain ⟨n4, f4, q4, r4, hv⟩ := hv
    refine gk_iald (pc := 76) (DX5_misfit_0.at 50 rfl) q4 r4 ?_
    generalize f4 _ = v4 at hv ⊢
    obtain ⟨n5, f5, q5, r5, hv⟩ := hv
    refine gk_iald (pc := 77) (DX5_misfit_0.at 51 rfl) q5 r5 ?_
    generalize f5 _ = v5 at hv ⊢
    refine gk_icmp_eq (pc := 78) 83 (DX5_misfit_0.at 52 rfl) (by decide) (fun c => ?_) (fun c => ?_)
    · replace hv := hv.1 c
      refine gk_iinc (pc := 83) (x1 + nI 1) [(1, .int (x1 + nI 1)), (0, .ref o), (2, .int x2), (3, .int x3)] 1 (DX5_misfit_0.at 55 rfl) rfl (by rw [ci_1]) (Nat.le_of_ble_eq_true rfl) rfl ?_
      refine gk_goto (pc := 86) 2 (DX5_misfit_0.at 56 rfl) (by decide) ?_
      exact gk_pick (pc := 2) [(0, .ref o), (1, .int (x1 + nI 1))] [1, 0] rfl hv
    · replace hv := hv.2 c
      refine gk_iload_n (pc := 81) (DX5_misfit_0.at 53 rfl) 1 rfl rfl ?_
      exact gk_ireturn (pc := 82) .int (DX5_misfit_0.at 54 rfl) rfl rfl ⟨_, rfl, hv⟩
  · replace hv := hv.2 c
    refine gk_iload_n (pc := 22) (DX5_misfit_0.at 14 rfl) 2 rfl rfl ?_
    refine gk_iconst (pc := 23) (nI 1) (DX5_misfit_0.at 15 rfl) ci_1 ?_
    refine gk_iconst (pc := 24) (nI 4) (DX5_misfit_0.at 16 rfl) ci_4 ?_
    refine gk_aload_n (pc := 25) (DX5_misfit_0.at 17 rfl) 0 rfl rfl ?_
    obtain ⟨fs6, v6, q6, r6, hv⟩ := hv
    refine gk_get (pc := 26) (.ref v6) (DX5_misfit_0.at 18 rfl) fX5_15_5 q6 r6 ?_
    refine gk_iload_n (pc := 29) (DX5_misfit_0.at 19 rfl) 3 rfl rfl ?_
    obtain ⟨n7, f7, q7, r7, hv⟩ := hv
    refine gk_iald (pc := 30) (DX5_misfit_0.at 20 rfl) q7 r7 ?_
    generalize f7 _ = v7 at hv ⊢
    refine gk_imul (pc := 31) (DX5_misfit_0.at 21 rfl) ?_
    refine gk_aload_n (pc := 32) (DX5_misfit_0.at 22 rfl) 0 rfl rfl ?_
    obtain ⟨fs8, v8, q8, r8, hv⟩ := hv
    refine gk_get (pc := 33) (.ref v8) (DX5_misfit_0.at 23 rfl) fX5_15_5 q8 r8 ?_
    refine gk_iload_n (pc := 36) (DX5_misfit_0.at 24 rfl) 3 rfl rfl ?_
    refine gk_iload_n (pc := 37) (DX5_misfit_0.at 25 rfl) 1 rfl rfl ?_
    refine gk_icmp_gt (pc := 38) 47 (DX5_misfit_0.at 26 rfl) (by decide) (fun c => ?_) (fun c => ?_)
    · replace hv := hv.1 c
      refine gk_iload_n (pc := 47) (DX5_misfit_0.at 31 rfl) 1 rfl rfl ?_
      refine gk_iload_n (pc := 48) (DX5_misfit_0.at 32 rfl) 3 rfl rfl ?_
      refine gk_isub (pc := 49) (DX5_misfit_0.at 33 rfl) ?_
      refine gk_aload_n (pc := 50) (DX5_misfit_0.at 34 rfl) 0 rfl rfl ?_
      obtain ⟨fs9, v9, q9, r9, hv⟩ := hv
      refine gk_get (pc := 51) (.int v9) (DX5_misfit_0.at 35 rfl) fX5_9_5 q9 r9 ?_
      refine gk_iadd (pc := 54) (DX5_misfit_0.at 36 rfl) ?_
      obtain ⟨n10, f10, q10, r10, hv⟩ := hv
      refine gk_iald (pc := 55) (DX5_misfit_0.at 37 rfl) q10 r10 ?_
      generalize f10 _ = v10 at hv ⊢
      refine gk_iadd (pc := 56) (DX5_misfit_0.at 38 rfl) ?_
      refine gk_ishl (pc := 57) (DX5_misfit_0.at 39 rfl) ?_
      refine gk_ior (pc := 58) (DX5_misfit_0.at 40 rfl) ?_
      refine gk_istore_n (pc := 59) [(2, .int (x2 ||| ((nI 1) <<< ((((nI 4) * v7) + v10) &&& 31)))), (0, .ref o), (1, .int x1), (3, .int x3)] (DX5_misfit_0.at 41 rfl) rfl (Nat.le_of_ble_eq_true rfl) rfl ?_
      refine gk_iinc (pc := 60) (x3 + nI 1) [(3, .int (x3 + nI 1)), (2, .int (x2 ||| ((nI 1) <<< ((((nI 4) * v7) + v10) &&& 31)))), (0, .ref o), (1, .int x1)] 3 (DX5_misfit_0.at 42 rfl) rfl (by rw [ci_1]) (Nat.le_of_ble_eq_true rfl) rfl ?_
      refine gk_goto (pc := 63) 14 (DX5_misfit_0.at 43 rfl) (by decide) ?_
      exact gk_pick (pc := 14) [(0, .ref o), (1, .int x1), (2, .int (x2 ||| ((nI 1) <<< ((((nI 4) * v7) + v10) &&& 31)))), (3, .int (x3 + nI 1))] [2, 3, 1, 0] rfl hv
    · replace hv := hv.2 c
      refine gk_iload_n (pc := 41) (DX5_misfit_0.at 27 rfl) 1 rfl rfl ?_
      refine gk_iload_n (pc := 42) (DX5_misfit_0.at 28 rfl) 3 rfl rfl ?_
      refine gk_isub (pc := 43) (DX5_misfit_0.at 29 rfl) ?_
      refine gk_goto (pc := 44) 55 (DX5_misfit_0.at 30 rfl) (by decide) ?_
      obtain ⟨n11, f11, q11, r11, hv⟩ := hv
      refine gk_iald (pc := 55) (DX5_misfit_0.at 37 rfl) q11 r11 ?_
      generalize f11 _ = v11 at hv ⊢
      refine gk_iadd (pc := 56) (DX5_misfit_0.at 38 rfl) ?_
      refine gk_ishl (pc := 57) (DX5_misfit_0.at 39 rfl) ?_
      refine gk_ior (pc := 58) (DX5_misfit_0.at 40 rfl) ?_
      refine gk_istore_n (pc := 59) [(2, .int (x2 ||| ((nI 1) <<< ((((nI 4) * v7) + v11) &&& 31)))), (0, .ref o), (1, .int x1), (3, .int x3)] (DX5_misfit_0.at 41 rfl) rfl (Nat.le_of_ble_eq_true rfl) rfl ?_
      refine gk_iinc (pc := 60) (x3 + nI 1) [(3, .int (x3 + nI 1)), (2, .int (x2 ||| ((nI 1) <<< ((((nI 4) * v7) + v11) &&& 31)))), (0, .ref o), (1, .int x1)] 3 (DX5_misfit_0.at 42 rfl) rfl (by rw [ci_1]) (Nat.le_of_ble_eq_true rfl) rfl ?_
      refine gk_goto (pc := 63) 14 (DX5_misfit_0.at 43 rfl) (by decide) ?_
      exact gk_pick (pc := 14) [(0, .ref o), (1, .int x1), (2, .int (x2 ||| ((nI 1) <<< ((((nI 4) * v7) + v11) &&& 31)))), (3, .int (x3 + nI 1))] [2, 3, 1, 0] rfl hv
abbrev pX5_readDue_2 (E : gk_E) (dd : Nat) (o : Nat) (x1 : Int32) (h : gk_H) (K : gk_H → Prop) : Prop := gk_G E mX5_readDue (dd + 1, 0, 0) 2 [(0, .ref o), (1, .int x1)] [] h (fun o h1 => o = none ∧ K h1)
set_option maxHeartbeats 4000000 in
theorem vX5_readDue_0 {E : gk_E} {dd : Nat} {o : Nat}  {h : gk_H} {K : gk_H → Prop} (hv : pX5_readDue_2 E dd o (nI 0) h K) : RnV E mX5_readDue (dd + 1, 0, 0) [.ref o] h K := by
  show gk_G E mX5_readDue (dd + 1, 0, 0) 0 [(0, .ref o)] [] h (fun o h1 => o = none ∧ K h1)
  refine gk_iconst (pc := 0) (nI 0) (DX5_readDue_0.at 0 rfl) ci_0 ?_
  refine gk_istore_n (pc := 1) [(1, .int (nI 0)), (0, .ref o)] (DX5_readDue_0.at 1 rfl) rfl (Nat.le_of_ble_eq_true rfl) rfl ?_
  exact gk_pick (pc := 2) [(0, .ref o), (1, .int (nI 0))] [1, 0] rfl hv
set_option maxHeartbeats 4000000 in
theorem vX5_readDue_2 {E : gk_E} {dd : Nat} {o : Nat} {x1 : Int32}  {h : gk_H} {K : gk_H → Prop} (hv : LdR h o 5 4 fun v1 => LdI h v1 8 0 fun v2 => (v2 ≤ x1 → K h) ∧ (¬ v2 ≤ x1 → LdR h o 5 7 fun v3 => LdR h o 5 4 fun v4 => (∃ fs, h[v4]? = some (.inr (8, fs))) ∧ RnI E mX8_pairsInto (dd, 0, 0) [.ref v4, .int x1] h (fun v5 h5 => AsI h5 v3 x1 v5 fun h6 => pX5_readDue_2 E dd o (x1 + nI 1) h6 K))) : pX5_readDue_2 E dd o x1 h K := by
  show gk_G E mX5_readDue (dd + 1, 0, 0) 2 [(0, .ref o), (1, .int x1)] [] h (fun o h1 => o = none ∧ K h1)
  refine gk_iload_n (pc := 2) (DX5_readDue_0.at 2 rfl) 1 rfl rfl ?_
  refine gk_aload_n (pc := 3) (DX5_readDue_0.at 3 rfl) 0 rfl rfl ?_
  obtain ⟨fs1, v1, q1, r1, hv⟩ := hv
  refine gk_get (pc := 4) (.ref v1) (DX5_readDue_0.at 4 rfl) fX5_22_5 q1 r1 ?_
  obtain ⟨fs2, v2, q2, r2, hv⟩ := hv
  refine gk_get (pc := 7) (.int v2) (DX5_readDue_0.at 5 rfl) fX5_26_8 q2 r2 ?_
  refine gk_icmp_ge (pc := 10) 33 (DX5_readDue_0.at 6 rfl) (by decide) (fun c => ?_) (fun c => ?_)
  · replace hv := hv.1 c
    exact gk_return (pc := 33) (DX5_readDue_0.at 17 rfl) rfl ⟨rfl, hv⟩
  · replace hv := hv.2 c
    refine gk_aload_n (pc := 13) (DX5_readDue_0.at 7 rfl) 0 rfl rfl ?_
    obtain ⟨fs3, v3, q3, r3, hv⟩ := hv
    refine gk_get (pc := 14) (.ref v3) (DX5_readDue_0.at 8 rfl) fX5_19_5 q3 r3 ?_
    refine gk_iload_n (pc := 17) (DX5_readDue_0.at 9 rfl) 1 rfl rfl ?_
    refine gk_aload_n (pc := 18) (DX5_readDue_0.at 10 rfl) 0 rfl rfl ?_
    obtain ⟨fs4, v4, q4, r4, hv⟩ := hv
    refine gk_get (pc := 19) (.ref v4) (DX5_readDue_0.at 11 rfl) fX5_22_5 q4 r4 ?_
    refine gk_iload_n (pc := 22) (DX5_readDue_0.at 12 rfl) 1 rfl rfl ?_
    obtain ⟨⟨fs5, q5⟩, hv⟩ := hv
    refine gk_vV (pc := 23) [.int x1] [.int x1, .ref v3] (DX5_readDue_0.at 13 rfl) cvX5_48 q5 rfl rfl (Nat.le_of_ble_eq_true rfl) (Nat.le_of_ble_eq_true rfl) (gk_Run.post (fun o h5 z => ?_) hv)
    obtain ⟨v5, rfl, hv⟩ := z
    obtain ⟨n6, f6, q6, r6, hv⟩ := hv
    refine gk_iast (pc := 26) (DX5_readDue_0.at 14 rfl) q6 r6 ?_
    generalize h5.set _ _ = h6 at hv ⊢
    refine gk_iinc (pc := 27) (x1 + nI 1) [(1, .int (x1 + nI 1)), (0, .ref o)] 1 (DX5_readDue_0.at 15 rfl) rfl (by rw [ci_1]) (Nat.le_of_ble_eq_true rfl) rfl ?_
    refine gk_goto (pc := 30) 2 (DX5_readDue_0.at 16 rfl) (by decide) ?_
    exact gk_pick (pc := 2) [(0, .ref o), (1, .int (x1 + nI 1))] [1, 0] rfl hv
abbrev pX5_search_22 (E : gk_E) (dd : Nat) (o : Nat) (x1 : Int32) (h : gk_H) (K : Int32 → gk_H → Prop) : Prop := gk_G E mX5_search (dd + 1, 0, 0) 22 [(0, .ref o), (1, .int x1)] [] h (fun o h1 => ∃ v, o = some (.int v) ∧ K v h1)
abbrev pX5_search_57 (E : gk_E) (dd : Nat) (o : Nat) (x1 : Int32) (x2 : Int32) (x3 : Int32) (h : gk_H) (K : Int32 → gk_H → Prop) : Prop := gk_G E mX5_search (dd + 1, 0, 0) 57 [(0, .ref o), (1, .int x1), (2, .int x2), (3, .int x3)] [] h (fun o h1 => ∃ v, o = some (.int v) ∧ K v h1)
set_option maxHeartbeats 4000000 in
theorem vX5_search_0 {E : gk_E} {dd : Nat} {o : Nat}  {h : gk_H} {K : Int32 → gk_H → Prop} (hv : LdR h o 5 4 fun v1 => (∃ fs, h[v1]? = some (.inr (8, fs))) ∧ RnI E mX8_unbalanced (dd, 0, 0) [.ref v1, .int (nI 0)] h (fun v2 h2 => (v2 = ((-5)) → (∃ fs, h2[o]? = some (.inr (5, fs))) ∧ RnV E mX5_readDue (dd, 0, 0) [.ref o] h2 (fun h3 => pX5_search_22 E dd o (nI 2) h3 K)) ∧ (¬ v2 = ((-5)) → K ((-5)) h2))) : RnI E mX5_search (dd + 1, 0, 0) [.ref o] h K := by
  show gk_G E mX5_search (dd + 1, 0, 0) 0 [(0, .ref o)] [] h (fun o h1 => ∃ v, o = some (.int v) ∧ K v h1)
  refine gk_aload_n (pc := 0) (DX5_search_0.at 0 rfl) 0 rfl rfl ?_
  obtain ⟨fs1, v1, q1, r1, hv⟩ := hv
  refine gk_get (pc := 1) (.ref v1) (DX5_search_0.at 1 rfl) fX5_22_5 q1 r1 ?_
  refine gk_iconst (pc := 4) (nI 0) (DX5_search_0.at 2 rfl) ci_0 ?_
  obtain ⟨⟨fs2, q2⟩, hv⟩ := hv
  refine gk_vV (pc := 5) [.int (nI 0)] [] (DX5_search_0.at 3 rfl) cvX5_52 q2 rfl rfl (Nat.le_of_ble_eq_true rfl) (Nat.le_of_ble_eq_true rfl) (gk_Run.post (fun o h2 z => ?_) hv)
  obtain ⟨v2, rfl, hv⟩ := z
  refine gk_bipush (pc := 8) ((-5)) (DX5_search_0.at 4 rfl) cb_m5 ?_
  refine gk_icmp_eq (pc := 10) 16 (DX5_search_0.at 5 rfl) (by decide) (fun c => ?_) (fun c => ?_)
  · replace hv := hv.1 c
    refine gk_aload_n (pc := 16) (DX5_search_0.at 8 rfl) 0 rfl rfl ?_
    obtain ⟨⟨fs3, q3⟩, hv⟩ := hv
    refine gk_vV (pc := 17) [] [] (DX5_search_0.at 9 rfl) cvX5_38 q3 rfl rfl (Nat.le_of_ble_eq_true rfl) (Nat.le_of_ble_eq_true rfl) (gk_Run.post (fun o h3 z => ?_) hv)
    obtain ⟨rfl, hv⟩ := z
    refine gk_iconst (pc := 20) (nI 2) (DX5_search_0.at 10 rfl) ci_2 ?_
    refine gk_istore_n (pc := 21) [(1, .int (nI 2)), (0, .ref o)] (DX5_search_0.at 11 rfl) rfl (Nat.le_of_ble_eq_true rfl) rfl ?_
    exact gk_pick (pc := 22) [(0, .ref o), (1, .int (nI 2))] [1, 0] rfl hv
  · replace hv := hv.2 c
    refine gk_bipush (pc := 13) ((-5)) (DX5_search_0.at 6 rfl) cb_m5 ?_
    exact gk_ireturn (pc := 15) .int (DX5_search_0.at 7 rfl) rfl rfl ⟨_, rfl, hv⟩
set_option maxHeartbeats 4000000 in
theorem vX5_search_22 {E : gk_E} {dd : Nat} {o : Nat} {x1 : Int32}  {h : gk_H} {K : Int32 → gk_H → Prop} (hv : ((nI 13) < x1 → K ((-5)) h) ∧ (¬ (nI 13) < x1 → StI h o 5 5 x1 fun h1 => LdR h1 o 5 4 fun v2 => LdI h1 v2 8 0 fun v3 => (∃ fs, h1[o]? = some (.inr (5, fs))) ∧ RnV E mX10_span (dd, 0, 0) [.ref o, .int (x1 / (nI 2)), .int (nI 1), .int (v3 - (nI 1))] h1 (fun h4 => (∃ fs, h4[o]? = some (.inr (5, fs))) ∧ RnI E mX10_first (dd, 0, 0) [.ref o] h4 (fun v5 h5 => pX5_search_57 E dd o x1 v5 (nI 0) h5 K)))) : pX5_search_22 E dd o x1 h K := by
  show gk_G E mX5_search (dd + 1, 0, 0) 22 [(0, .ref o), (1, .int x1)] [] h (fun o h1 => ∃ v, o = some (.int v) ∧ K v h1)
  refine gk_iload_n (pc := 22) (DX5_search_0.at 12 rfl) 1 rfl rfl ?_
  refine gk_bipush (pc := 23) (nI 13) (DX5_search_0.at 13 rfl) cb_13 ?_
  refine gk_icmp_gt (pc := 25) 100 (DX5_search_0.at 14 rfl) (by decide) (fun c => ?_) (fun c => ?_)
  · replace hv := hv.1 c
    refine gk_bipush (pc := 100) ((-5)) (DX5_search_0.at 54 rfl) cb_m5 ?_
    exact gk_ireturn (pc := 102) .int (DX5_search_0.at 55 rfl) rfl rfl ⟨_, rfl, hv⟩
  · replace hv := hv.2 c
    refine gk_aload_n (pc := 28) (DX5_search_0.at 15 rfl) 0 rfl rfl ?_
    refine gk_iload_n (pc := 29) (DX5_search_0.at 16 rfl) 1 rfl rfl ?_
    obtain ⟨fs1, q1, r1, hv⟩ := hv
    refine gk_put (pc := 30) (DX5_search_0.at 17 rfl) fX5_9_5w q1 r1 rfl rfl ?_
    generalize h.set _ _ = h1 at hv ⊢
    refine gk_aload_n (pc := 33) (DX5_search_0.at 18 rfl) 0 rfl rfl ?_
    refine gk_iload_n (pc := 34) (DX5_search_0.at 19 rfl) 1 rfl rfl ?_
    refine gk_iconst (pc := 35) (nI 2) (DX5_search_0.at 20 rfl) ci_2 ?_
    refine gk_idiv (pc := 36) (DX5_search_0.at 21 rfl) (by decide) ?_
    refine gk_iconst (pc := 37) (nI 1) (DX5_search_0.at 22 rfl) ci_1 ?_
    refine gk_aload_n (pc := 38) (DX5_search_0.at 23 rfl) 0 rfl rfl ?_
    obtain ⟨fs2, v2, q2, r2, hv⟩ := hv
    refine gk_get (pc := 39) (.ref v2) (DX5_search_0.at 24 rfl) fX5_22_5 q2 r2 ?_
    obtain ⟨fs3, v3, q3, r3, hv⟩ := hv
    refine gk_get (pc := 42) (.int v3) (DX5_search_0.at 25 rfl) fX5_26_8 q3 r3 ?_
    refine gk_iconst (pc := 45) (nI 1) (DX5_search_0.at 26 rfl) ci_1 ?_
    refine gk_isub (pc := 46) (DX5_search_0.at 27 rfl) ?_
    obtain ⟨⟨fs4, q4⟩, hv⟩ := hv
    refine gk_vU (pc := 47) [.int (x1 / (nI 2)), .int (nI 1), .int (v3 - (nI 1))] [] (DX5_search_0.at 28 rfl) cuX5_56_5 q4 rfl rfl (Nat.le_of_ble_eq_true rfl) (Nat.le_of_ble_eq_true rfl) (gk_Run.post (fun o h4 z => ?_) hv)
    obtain ⟨rfl, hv⟩ := z
    refine gk_aload_n (pc := 50) (DX5_search_0.at 29 rfl) 0 rfl rfl ?_
    obtain ⟨⟨fs5, q5⟩, hv⟩ := hv
    refine gk_vU (pc := 51) [] [] (DX5_search_0.at 30 rfl) cuX5_60_5 q5 rfl rfl (Nat.le_of_ble_eq_true rfl) (Nat.le_of_ble_eq_true rfl) (gk_Run.post (fun o h5 z => ?_) hv)
    obtain ⟨v5, rfl, hv⟩ := z
    refine gk_istore_n (pc := 54) [(2, .int v5), (0, .ref o), (1, .int x1)] (DX5_search_0.at 31 rfl) rfl (Nat.le_of_ble_eq_true rfl) rfl ?_
    refine gk_iconst (pc := 55) (nI 0) (DX5_search_0.at 32 rfl) ci_0 ?_
    refine gk_istore_n (pc := 56) [(3, .int (nI 0)), (2, .int v5), (0, .ref o), (1, .int x1)] (DX5_search_0.at 33 rfl) rfl (Nat.le_of_ble_eq_true rfl) rfl ?_
    exact gk_pick (pc := 57) [(0, .ref o), (1, .int x1), (2, .int v5), (3, .int (nI 0))] [2, 3, 1, 0] rfl hv
set_option maxHeartbeats 4000000 in
theorem vX5_search_57 {E : gk_E} {dd : Nat} {o : Nat} {x1 : Int32} {x2 : Int32} {x3 : Int32}  {h : gk_H} {K : Int32 → gk_H → Prop} (hv : ((nI 1000000) ≤ x3 → pX5_search_22 E dd o (x1 + nI 1) h K) ∧ (¬ (nI 1000000) ≤ x3 → (x2 = 0 → pX5_search_22 E dd o (x1 + nI 1) h K) ∧ (¬ x2 = 0 → (∃ fs, h[o]? = some (.inr (5, fs))) ∧ RnI E mX5_isFull (dd, 0, 0) [.ref o] h (fun v1 h1 => (v1 = 0 → (∃ fs, h1[o]? = some (.inr (5, fs))) ∧ RnI E mX10_next (dd, 0, 0) [.ref o] h1 (fun v2 h2 => pX5_search_57 E dd o x1 v2 (x3 + nI 1) h2 K)) ∧ (¬ v1 = 0 → (∃ fs, h1[o]? = some (.inr (5, fs))) ∧ RnI E mX5_misfit (dd, 0, 0) [.ref o] h1 (fun v3 h3 => (0 ≤ v3 → (∃ fs, h3[o]? = some (.inr (5, fs))) ∧ RnI E mX10_next (dd, 0, 0) [.ref o] h3 (fun v4 h4 => pX5_search_57 E dd o x1 v4 (x3 + nI 1) h4 K)) ∧ (¬ 0 ≤ v3 → K x1 h3))))))) : pX5_search_57 E dd o x1 x2 x3 h K := by
  show gk_G E mX5_search (dd + 1, 0, 0) 57 [(0, .ref o), (1, .int x1), (2, .int x2), (3, .int x3)] [] h (fun o h1 => ∃ v, o = some (.int v) ∧ K v h1)
  refine gk_iload_n (pc := 57) (DX5_search_0.at 34 rfl) 3 rfl rfl ?_
  refine gk_ldc (pc := 58) (nI 1000000) (DX5_search_0.at 35 rfl) kcX5_63 ?_
  refine gk_icmp_ge (pc := 60) 94 (DX5_search_0.at 36 rfl) (by decide) (fun c => ?_) (fun c => ?_)
  · replace hv := hv.1 c
    refine gk_iinc (pc := 94) (x1 + nI 1) [(1, .int (x1 + nI 1)), (0, .ref o), (2, .int x2), (3, .int x3)] 1 (DX5_search_0.at 52 rfl) rfl (by rw [ci_1]) (Nat.le_of_ble_eq_true rfl) rfl ?_
    refine gk_goto (pc := 97) 22 (DX5_search_0.at 53 rfl) (by decide) ?_
    exact gk_pick (pc := 22) [(0, .ref o), (1, .int (x1 + nI 1))] [1, 0] rfl hv
  · replace hv := hv.2 c
    refine gk_iload_n (pc := 63) (DX5_search_0.at 37 rfl) 2 rfl rfl ?_
    refine gk_if_eq (pc := 64) 94 (DX5_search_0.at 38 rfl) (by decide) (fun c => ?_) (fun c => ?_)
    · replace hv := hv.1 c
      refine gk_iinc (pc := 94) (x1 + nI 1) [(1, .int (x1 + nI 1)), (0, .ref o), (2, .int x2), (3, .int x3)] 1 (DX5_search_0.at 52 rfl) rfl (by rw [ci_1]) (Nat.le_of_ble_eq_true rfl) rfl ?_
      refine gk_goto (pc := 97) 22 (DX5_search_0.at 53 rfl) (by decide) ?_
      exact gk_pick (pc := 22) [(0, .ref o), (1, .int (x1 + nI 1))] [1, 0] rfl hv
    · replace hv := hv.2 c
      refine gk_aload_n (pc := 67) (DX5_search_0.at 39 rfl) 0 rfl rfl ?_
      obtain ⟨⟨fs1, q1⟩, hv⟩ := hv
      refine gk_vV (pc := 68) [] [] (DX5_search_0.at 40 rfl) cvX5_34 q1 rfl rfl (Nat.le_of_ble_eq_true rfl) (Nat.le_of_ble_eq_true rfl) (gk_Run.post (fun o h1 z => ?_) hv)
      obtain ⟨v1, rfl, hv⟩ := z
      refine gk_if_eq (pc := 71) 83 (DX5_search_0.at 41 rfl) (by decide) (fun c => ?_) (fun c => ?_)
      · replace hv := hv.1 c
        refine gk_aload_n (pc := 83) (DX5_search_0.at 47 rfl) 0 rfl rfl ?_
        obtain ⟨⟨fs2, q2⟩, hv⟩ := hv
        refine gk_vU (pc := 84) [] [] (DX5_search_0.at 48 rfl) cuX5_64_5 q2 rfl rfl (Nat.le_of_ble_eq_true rfl) (Nat.le_of_ble_eq_true rfl) (gk_Run.post (fun o h2 z => ?_) hv)
        obtain ⟨v2, rfl, hv⟩ := z
        refine gk_istore_n (pc := 87) [(2, .int v2), (0, .ref o), (1, .int x1), (3, .int x3)] (DX5_search_0.at 49 rfl) rfl (Nat.le_of_ble_eq_true rfl) rfl ?_
        refine gk_iinc (pc := 88) (x3 + nI 1) [(3, .int (x3 + nI 1)), (2, .int v2), (0, .ref o), (1, .int x1)] 3 (DX5_search_0.at 50 rfl) rfl (by rw [ci_1]) (Nat.le_of_ble_eq_true rfl) rfl ?_
        refine gk_goto (pc := 91) 57 (DX5_search_0.at 51 rfl) (by decide) ?_
        exact gk_pick (pc := 57) [(0, .ref o), (1, .int x1), (2, .int v2), (3, .int (x3 + nI 1))] [2, 3, 1, 0] rfl hv
      · replace hv := hv.2 c
        refine gk_aload_n (pc := 74) (DX5_search_0.at 42 rfl) 0 rfl rfl ?_
        obtain ⟨⟨fs3, q3⟩, hv⟩ := hv
        refine gk_vV (pc := 75) [] [] (DX5_search_0.at 43 rfl) cvX5_41 q3 rfl rfl (Nat.le_of_ble_eq_true rfl) (Nat.le_of_ble_eq_true rfl) (gk_Run.post (fun o h3 z => ?_) hv)
        obtain ⟨v3, rfl, hv⟩ := z
        refine gk_if_ge (pc := 78) 83 (DX5_search_0.at 44 rfl) (by decide) (fun c => ?_) (fun c => ?_)
        · replace hv := hv.1 c
          refine gk_aload_n (pc := 83) (DX5_search_0.at 47 rfl) 0 rfl rfl ?_
          obtain ⟨⟨fs4, q4⟩, hv⟩ := hv
          refine gk_vU (pc := 84) [] [] (DX5_search_0.at 48 rfl) cuX5_64_5 q4 rfl rfl (Nat.le_of_ble_eq_true rfl) (Nat.le_of_ble_eq_true rfl) (gk_Run.post (fun o h4 z => ?_) hv)
          obtain ⟨v4, rfl, hv⟩ := z
          refine gk_istore_n (pc := 87) [(2, .int v4), (0, .ref o), (1, .int x1), (3, .int x3)] (DX5_search_0.at 49 rfl) rfl (Nat.le_of_ble_eq_true rfl) rfl ?_
          refine gk_iinc (pc := 88) (x3 + nI 1) [(3, .int (x3 + nI 1)), (2, .int v4), (0, .ref o), (1, .int x1)] 3 (DX5_search_0.at 50 rfl) rfl (by rw [ci_1]) (Nat.le_of_ble_eq_true rfl) rfl ?_
          refine gk_goto (pc := 91) 57 (DX5_search_0.at 51 rfl) (by decide) ?_
          exact gk_pick (pc := 57) [(0, .ref o), (1, .int x1), (2, .int v4), (3, .int (x3 + nI 1))] [2, 3, 1, 0] rfl hv
        · replace hv := hv.2 c
          refine gk_iload_n (pc := 81) (DX5_search_0.at 45 rfl) 1 rfl rfl ?_
          exact gk_ireturn (pc := 82) .int (DX5_search_0.at 46 rfl) rfl rfl ⟨_, rfl, hv⟩
abbrev pX5_verdict_3 (E : gk_E) (dd : Nat) (o : Nat) (x1 : Nat) (x2 : Int32) (x3 : Int32) (x4 : Int32) (h : gk_H) (K : Int32 → gk_H → Prop) : Prop := gk_G E mX5_verdict (dd + 1, 0, 0) 3 [(0, .ref o), (1, .ref x1), (2, .int x2), (3, .int x3), (4, .int x4)] [] h (fun o h1 => ∃ v, o = some (.int v) ∧ K v h1)
set_option maxHeartbeats 4000000 in
theorem vX5_verdict_0 {E : gk_E} {dd : Nat} {o : Nat} {x1 : Nat} {x2 : Int32} {x3 : Int32}  {h : gk_H} {K : Int32 → gk_H → Prop} (hv : pX5_verdict_3 E dd o x1 x2 x3 (nI 0) h K) : RnI E mX5_verdict (dd + 1, 0, 0) [.ref o, .ref x1, .int x2, .int x3] h K := by
  show gk_G E mX5_verdict (dd + 1, 0, 0) 0 [(0, .ref o), (1, .ref x1), (2, .int x2), (3, .int x3)] [] h (fun o h1 => ∃ v, o = some (.int v) ∧ K v h1)
  refine gk_iconst (pc := 0) (nI 0) (DX5_verdict_0.at 0 rfl) ci_0 ?_
  refine gk_istore (pc := 1) [(4, .int (nI 0)), (0, .ref o), (1, .ref x1), (2, .int x2), (3, .int x3)] (DX5_verdict_0.at 1 rfl) (Nat.le_of_ble_eq_true rfl) rfl ?_
  exact gk_pick (pc := 3) [(0, .ref o), (1, .ref x1), (2, .int x2), (3, .int x3), (4, .int (nI 0))] [1, 2, 3, 4, 0] rfl hv
set_option maxHeartbeats 4000000 in
theorem vX5_verdict_3 {E : gk_E} {dd : Nat} {o : Nat} {x1 : Nat} {x2 : Int32} {x3 : Int32} {x4 : Int32}  {h : gk_H} {K : Int32 → gk_H → Prop} (hv : (x3 ≤ x4 → StI h o 5 5 (x3 + (nI 1)) fun h1 => (∃ fs, h1[o]? = some (.inr (5, fs))) ∧ RnI E mX5_isFull (dd, 0, 0) [.ref o] h1 (fun v2 h2 => (¬ v2 = 0 → (∃ fs, h2[o]? = some (.inr (5, fs))) ∧ RnV E mX5_readDue (dd, 0, 0) [.ref o] h2 (fun h3 => (∃ fs, h3[o]? = some (.inr (5, fs))) ∧ RnI E mX5_misfit (dd, 0, 0) [.ref o] h3 (fun v4 h4 => (0 ≤ v4 → K ((nI 100) + v4) h4) ∧ (¬ 0 ≤ v4 → K ((-5)) h4)))) ∧ (v2 = 0 → K (nI 200) h2))) ∧ (¬ x3 ≤ x4 → AlL h x1 (x2 + x4) fun v5 => ((lg_cmp v5 (lN 1)) < 0 → K x4 h) ∧ (¬ (lg_cmp v5 (lN 1)) < 0 → LdR h o 5 4 fun v6 => LdI h v6 8 0 fun v7 => ((lg_cmp v5 v7.toInt64) < 0 → LdR h o 5 6 fun v8 => AsI h v8 (x4 + (nI 1)) v5.toInt32 fun h9 => AlL h9 x1 (((x2 + x3) - (nI 1)) - x4) fun v10 => LdR h9 o 5 4 fun v11 => LdR h9 v11 8 1 fun v12 => LdR h9 o 5 6 fun v13 => AlI h9 v13 (x4 + (nI 1)) fun v14 => AlI h9 v12 v14 fun v15 => ((lg_cmp v10 v15.toInt64) = 0 → pX5_verdict_3 E dd o x1 x2 x3 (x4 + nI 1) h9 K) ∧ (¬ (lg_cmp v10 v15.toInt64) = 0 → K x4 h9)) ∧ (¬ (lg_cmp v5 v7.toInt64) < 0 → K x4 h)))) : pX5_verdict_3 E dd o x1 x2 x3 x4 h K := by
  show gk_G E mX5_verdict (dd + 1, 0, 0) 3 [(0, .ref o), (1, .ref x1), (2, .int x2), (3, .int x3), (4, .int x4)] [] h (fun o h1 => ∃ v, o = some (.int v) ∧ K v h1)
  refine gk_iload (pc := 3) (DX5_verdict_0.at 2 rfl) 4 rfl ?_
  refine gk_iload_n (pc := 5) (DX5_verdict_0.at 3 rfl) 3 rfl rfl ?_
  refine gk_icmp_ge (pc := 6) 94 (DX5_verdict_0.at 4 rfl) (by decide) (fun c => ?_) (fun c => ?_)
  · replace hv := hv.1 c
    refine gk_aload_n (pc := 94) (DX5_verdict_0.at 58 rfl) 0 rfl rfl ?_
    refine gk_iload_n (pc := 95) (DX5_verdict_0.at 59 rfl) 3 rfl rfl ?_
    refine gk_iconst (pc := 96) (nI 1) (DX5_verdict_1.at 0 rfl) ci_1 ?_
    refine gk_iadd (pc := 97) (DX5_verdict_1.at 1 rfl) ?_
    obtain ⟨fs1, q1, r1, hv⟩ := hv
    refine gk_put (pc := 98) (DX5_verdict_1.at 2 rfl) fX5_9_5w q1 r1 rfl rfl ?_
    generalize h.set _ _ = h1 at hv ⊢
    refine gk_aload_n (pc := 101) (DX5_verdict_1.at 3 rfl) 0 rfl rfl ?_
    obtain ⟨⟨fs2, q2⟩, hv⟩ := hv
    refine gk_vV (pc := 102) [] [] (DX5_verdict_1.at 4 rfl) cvX5_34 q2 rfl rfl (Nat.le_of_ble_eq_true rfl) (Nat.le_of_ble_eq_true rfl) (gk_Run.post (fun o h2 z => ?_) hv)
    obtain ⟨v2, rfl, hv⟩ := z
    refine gk_if_ne (pc := 105) 112 (DX5_verdict_1.at 5 rfl) (by decide) (fun c => ?_) (fun c => ?_)
    · replace hv := hv.1 c
      refine gk_aload_n (pc := 112) (DX5_verdict_1.at 8 rfl) 0 rfl rfl ?_
      obtain ⟨⟨fs3, q3⟩, hv⟩ := hv
      refine gk_vV (pc := 113) [] [] (DX5_verdict_1.at 9 rfl) cvX5_38 q3 rfl rfl (Nat.le_of_ble_eq_true rfl) (Nat.le_of_ble_eq_true rfl) (gk_Run.post (fun o h3 z => ?_) hv)
      obtain ⟨rfl, hv⟩ := z
      refine gk_aload_n (pc := 116) (DX5_verdict_1.at 10 rfl) 0 rfl rfl ?_
      obtain ⟨⟨fs4, q4⟩, hv⟩ := hv
      refine gk_vV (pc := 117) [] [] (DX5_verdict_1.at 11 rfl) cvX5_41 q4 rfl rfl (Nat.le_of_ble_eq_true rfl) (Nat.le_of_ble_eq_true rfl) (gk_Run.post (fun o h4 z => ?_) hv)
      obtain ⟨v4, rfl, hv⟩ := z
      refine gk_istore (pc := 120) [(4, .int v4), (0, .ref o), (1, .ref x1), (2, .int x2), (3, .int x3)] (DX5_verdict_1.at 12 rfl) (Nat.le_of_ble_eq_true rfl) rfl ?_
      refine gk_iload (pc := 122) (DX5_verdict_1.at 13 rfl) 0 rfl ?_
      refine gk_if_ge (pc := 124) 132 (DX5_verdict_1.at 14 rfl) (by decide) (fun c => ?_) (fun c => ?_)
      · replace hv := hv.1 c
        refine gk_bipush (pc := 132) (nI 100) (DX5_verdict_1.at 17 rfl) cb_100 ?_
        refine gk_iload (pc := 134) (DX5_verdict_1.at 18 rfl) 0 rfl ?_
        refine gk_iadd (pc := 136) (DX5_verdict_1.at 19 rfl) ?_
        exact gk_ireturn (pc := 137) .int (DX5_verdict_1.at 20 rfl) rfl rfl ⟨_, rfl, hv⟩
      · replace hv := hv.2 c
        refine gk_bipush (pc := 127) ((-5)) (DX5_verdict_1.at 15 rfl) cb_m5 ?_
        refine gk_goto (pc := 129) 137 (DX5_verdict_1.at 16 rfl) (by decide) ?_
        exact gk_ireturn (pc := 137) .int (DX5_verdict_1.at 20 rfl) rfl rfl ⟨_, rfl, hv⟩
    · replace hv := hv.2 c
      refine gk_sipush (pc := 108) (nI 200) (DX5_verdict_1.at 6 rfl) cs_200 ?_
      exact gk_ireturn (pc := 111) .int (DX5_verdict_1.at 7 rfl) rfl rfl ⟨_, rfl, hv⟩
  · replace hv := hv.2 c
    refine gk_aload_n (pc := 9) (DX5_verdict_0.at 5 rfl) 1 rfl rfl ?_
    refine gk_iload_n (pc := 10) (DX5_verdict_0.at 6 rfl) 2 rfl rfl ?_
    refine gk_iload (pc := 11) (DX5_verdict_0.at 7 rfl) 4 rfl ?_
    refine gk_iadd (pc := 13) (DX5_verdict_0.at 8 rfl) ?_
    obtain ⟨n5, f5, q5, r5, hv⟩ := hv
    refine gk_lald (pc := 14) (DX5_verdict_0.at 9 rfl) q5 r5 ?_
    generalize f5 _ = v5 at hv ⊢
    refine gk_lstore (pc := 15) [(5, .long v5), (0, .ref o), (1, .ref x1), (2, .int x2), (3, .int x3), (4, .int x4)] (DX5_verdict_0.at 10 rfl) (Nat.le_of_ble_eq_true rfl) rfl ?_
    refine gk_lload (pc := 17) (DX5_verdict_0.at 11 rfl) 0 rfl ?_
    refine gk_lconst (pc := 19) (lN 1) (DX5_verdict_0.at 12 rfl) rfl ?_
    refine gk_lcmp (pc := 20) (DX5_verdict_0.at 13 rfl) ?_
    refine gk_if_lt (pc := 21) 38 (DX5_verdict_0.at 14 rfl) (by decide) (fun c => ?_) (fun c => ?_)
    · replace hv := hv.1 c
      refine gk_iload (pc := 38) (DX5_verdict_0.at 22 rfl) 5 rfl ?_
      exact gk_ireturn (pc := 40) .int (DX5_verdict_0.at 23 rfl) rfl rfl ⟨_, rfl, hv⟩
    · replace hv := hv.2 c
      refine gk_lload (pc := 24) (DX5_verdict_0.at 15 rfl) 0 rfl ?_
      refine gk_aload_n (pc := 26) (DX5_verdict_0.at 16 rfl) 1 rfl rfl ?_
      obtain ⟨fs6, v6, q6, r6, hv⟩ := hv
      refine gk_get (pc := 27) (.ref v6) (DX5_verdict_0.at 17 rfl) fX5_22_5 q6 r6 ?_
      obtain ⟨fs7, v7, q7, r7, hv⟩ := hv
      refine gk_get (pc := 30) (.int v7) (DX5_verdict_0.at 18 rfl) fX5_26_8 q7 r7 ?_
      refine gk_i2l (pc := 33) (DX5_verdict_0.at 19 rfl) ?_
      refine gk_lcmp (pc := 34) (DX5_verdict_0.at 20 rfl) ?_
      refine gk_if_lt (pc := 35) 41 (DX5_verdict_0.at 21 rfl) (by decide) (fun c => ?_) (fun c => ?_)
      · replace hv := hv.1 c
        refine gk_aload_n (pc := 41) (DX5_verdict_0.at 24 rfl) 1 rfl rfl ?_
        obtain ⟨fs8, v8, q8, r8, hv⟩ := hv
        refine gk_get (pc := 42) (.ref v8) (DX5_verdict_0.at 25 rfl) fX5_15_5 q8 r8 ?_
        refine gk_iload (pc := 45) (DX5_verdict_0.at 26 rfl) 5 rfl ?_
        refine gk_iconst (pc := 47) (nI 1) (DX5_verdict_0.at 27 rfl) ci_1 ?_
        refine gk_iadd (pc := 48) (DX5_verdict_0.at 28 rfl) ?_
        refine gk_lload (pc := 49) (DX5_verdict_0.at 29 rfl) 0 rfl ?_
        refine gk_l2i (pc := 51) (DX5_verdict_0.at 30 rfl) ?_
        obtain ⟨n9, f9, q9, r9, hv⟩ := hv
        refine gk_iast (pc := 52) (DX5_verdict_0.at 31 rfl) q9 r9 ?_
        generalize h.set _ _ = h9 at hv ⊢
        refine gk_aload_n (pc := 53) (DX5_verdict_0.at 32 rfl) 2 rfl rfl ?_
        refine gk_iload_n (pc := 54) (DX5_verdict_0.at 33 rfl) 3 rfl rfl ?_
        refine gk_iload_n (pc := 55) (DX5_verdict_0.at 34 rfl) 4 rfl rfl ?_
        refine gk_iadd (pc := 56) (DX5_verdict_0.at 35 rfl) ?_
        refine gk_iconst (pc := 57) (nI 1) (DX5_verdict_0.at 36 rfl) ci_1 ?_
        refine gk_isub (pc := 58) (DX5_verdict_0.at 37 rfl) ?_
        refine gk_iload (pc := 59) (DX5_verdict_0.at 38 rfl) 5 rfl ?_
        refine gk_isub (pc := 61) (DX5_verdict_0.at 39 rfl) ?_
        obtain ⟨n10, f10, q10, r10, hv⟩ := hv
        refine gk_lald (pc := 62) (DX5_verdict_0.at 40 rfl) q10 r10 ?_
        generalize f10 _ = v10 at hv ⊢
        refine gk_aload_n (pc := 63) (DX5_verdict_0.at 41 rfl) 1 rfl rfl ?_
        obtain ⟨fs11, v11, q11, r11, hv⟩ := hv
        refine gk_get (pc := 64) (.ref v11) (DX5_verdict_0.at 42 rfl) fX5_22_5 q11 r11 ?_
        obtain ⟨fs12, v12, q12, r12, hv⟩ := hv
        refine gk_get (pc := 67) (.ref v12) (DX5_verdict_0.at 43 rfl) fX5_31_8 q12 r12 ?_
        refine gk_aload_n (pc := 70) (DX5_verdict_0.at 44 rfl) 1 rfl rfl ?_
        obtain ⟨fs13, v13, q13, r13, hv⟩ := hv
        refine gk_get (pc := 71) (.ref v13) (DX5_verdict_0.at 45 rfl) fX5_15_5 q13 r13 ?_
        refine gk_iload (pc := 74) (DX5_verdict_0.at 46 rfl) 5 rfl ?_
        refine gk_iconst (pc := 76) (nI 1) (DX5_verdict_0.at 47 rfl) ci_1 ?_
        refine gk_iadd (pc := 77) (DX5_verdict_0.at 48 rfl) ?_
        obtain ⟨n14, f14, q14, r14, hv⟩ := hv
        refine gk_iald (pc := 78) (DX5_verdict_0.at 49 rfl) q14 r14 ?_
        generalize f14 _ = v14 at hv ⊢
        obtain ⟨n15, f15, q15, r15, hv⟩ := hv
        refine gk_iald (pc := 79) (DX5_verdict_0.at 50 rfl) q15 r15 ?_
        generalize f15 _ = v15 at hv ⊢
        refine gk_i2l (pc := 80) (DX5_verdict_0.at 51 rfl) ?_
        refine gk_lcmp (pc := 81) (DX5_verdict_0.at 52 rfl) ?_
        refine gk_if_eq (pc := 82) 88 (DX5_verdict_0.at 53 rfl) (by decide) (fun c => ?_) (fun c => ?_)
        · replace hv := hv.1 c
          refine gk_iinc (pc := 88) (x4 + nI 1) [(4, .int (x4 + nI 1)), (5, .long v5), (0, .ref o), (1, .ref x1), (2, .int x2), (3, .int x3)] 5 (DX5_verdict_0.at 56 rfl) rfl (by rw [ci_1]) (Nat.le_of_ble_eq_true rfl) rfl ?_
          refine gk_goto (pc := 91) 3 (DX5_verdict_0.at 57 rfl) (by decide) ?_
          exact gk_pick (pc := 3) [(0, .ref o), (1, .ref x1), (2, .int x2), (3, .int x3), (4, .int (x4 + nI 1))] [2, 3, 4, 5, 0] rfl hv
        · replace hv := hv.2 c
          refine gk_iload (pc := 85) (DX5_verdict_0.at 54 rfl) 5 rfl ?_
          exact gk_ireturn (pc := 87) .int (DX5_verdict_0.at 55 rfl) rfl rfl ⟨_, rfl, hv⟩
      · replace hv := hv.2 c
        refine gk_iload (pc := 38) (DX5_verdict_0.at 22 rfl) 5 rfl ?_
        exact gk_ireturn (pc := 40) .int (DX5_verdict_0.at 23 rfl) rfl rfl ⟨_, rfl, hv⟩
set_option maxHeartbeats 4000000 in
theorem vX9_append_0 {E : gk_E} {dd : Nat} {o : Nat} {x1 : Int32}  {h : gk_H} {K : gk_H → Prop} (hv : LdI h o 9 0 fun v1 => ((nI 100) ≤ v1 → K h) ∧ (¬ (nI 100) ≤ v1 → LdR h o 9 1 fun v2 => LdI h o 9 0 fun v3 => AsB h v2 v3 x1.toInt8.toInt32 fun h4 => LdI h4 o 9 0 fun v5 => StI h4 o 9 0 (v5 + (nI 1)) fun h6 => K h6)) : RnV E mX9_append (dd, 0, 0) [.ref o, .int x1] h K := by
  show gk_G E mX9_append (dd, 0, 0) 0 [(0, .ref o), (1, .int x1)] [] h (fun o h1 => o = none ∧ K h1)
  refine gk_aload_n (pc := 0) (DX9_append_0.at 0 rfl) 0 rfl rfl ?_
  obtain ⟨fs1, v1, q1, r1, hv⟩ := hv
  refine gk_get (pc := 1) (.int v1) (DX9_append_0.at 1 rfl) fX9_9_9 q1 r1 ?_
  refine gk_bipush (pc := 4) (nI 100) (DX9_append_0.at 2 rfl) cb_100 ?_
  refine gk_icmp_ge (pc := 6) 30 (DX9_append_0.at 3 rfl) (by decide) (fun c => ?_) (fun c => ?_)
  · replace hv := hv.1 c
    exact gk_return (pc := 30) (DX9_append_0.at 17 rfl) rfl ⟨rfl, hv⟩
  · replace hv := hv.2 c
    refine gk_aload_n (pc := 9) (DX9_append_0.at 4 rfl) 0 rfl rfl ?_
    obtain ⟨fs2, v2, q2, r2, hv⟩ := hv
    refine gk_get (pc := 10) (.ref v2) (DX9_append_0.at 5 rfl) fX9_15_9 q2 r2 ?_
    refine gk_aload_n (pc := 13) (DX9_append_0.at 6 rfl) 0 rfl rfl ?_
    obtain ⟨fs3, v3, q3, r3, hv⟩ := hv
    refine gk_get (pc := 14) (.int v3) (DX9_append_0.at 7 rfl) fX9_9_9 q3 r3 ?_
    refine gk_iload_n (pc := 17) (DX9_append_0.at 8 rfl) 1 rfl rfl ?_
    refine gk_i2b (pc := 18) (DX9_append_0.at 9 rfl) ?_
    obtain ⟨n4, f4, q4, r4, hv⟩ := hv
    refine gk_bast (pc := 19) (DX9_append_0.at 10 rfl) q4 r4 ?_
    generalize h.set _ _ = h4 at hv ⊢
    refine gk_aload_n (pc := 20) (DX9_append_0.at 11 rfl) 0 rfl rfl ?_
    refine gk_dup (pc := 21) (DX9_append_0.at 12 rfl) rfl ?_
    obtain ⟨fs5, v5, q5, r5, hv⟩ := hv
    refine gk_get (pc := 22) (.int v5) (DX9_append_0.at 13 rfl) fX9_9_9 q5 r5 ?_
    refine gk_iconst (pc := 25) (nI 1) (DX9_append_0.at 14 rfl) ci_1 ?_
    refine gk_iadd (pc := 26) (DX9_append_0.at 15 rfl) ?_
    obtain ⟨fs6, q6, r6, hv⟩ := hv
    refine gk_put (pc := 27) (DX9_append_0.at 16 rfl) fX9_9_9w q6 r6 rfl rfl ?_
    generalize h4.set _ _ = h6 at hv ⊢
    exact gk_return (pc := 30) (DX9_append_0.at 17 rfl) rfl ⟨rfl, hv⟩
abbrev pX9_faultPlace_4 (E : gk_E) (dd : Nat) (o : Nat) (x1 : Int32) (x2 : Int32) (h : gk_H) (K : Int32 → gk_H → Prop) : Prop := gk_G E mX9_faultPlace (dd + 1, 0, 0) 4 [(0, .ref o), (1, .int x1), (2, .int x2)] [] h (fun o h1 => ∃ v, o = some (.int v) ∧ K v h1)
set_option maxHeartbeats 4000000 in
theorem vX9_faultPlace_0 {E : gk_E} {dd : Nat} {o : Nat}  {h : gk_H} {K : Int32 → gk_H → Prop} (hv : pX9_faultPlace_4 E dd o (nI 0) (nI 0) h K) : RnI E mX9_faultPlace (dd + 1, 0, 0) [.ref o] h K := by
  show gk_G E mX9_faultPlace (dd + 1, 0, 0) 0 [(0, .ref o)] [] h (fun o h1 => ∃ v, o = some (.int v) ∧ K v h1)
  refine gk_iconst (pc := 0) (nI 0) (DX9_faultPlace_0.at 0 rfl) ci_0 ?_
  refine gk_istore_n (pc := 1) [(1, .int (nI 0)), (0, .ref o)] (DX9_faultPlace_0.at 1 rfl) rfl (Nat.le_of_ble_eq_true rfl) rfl ?_
  refine gk_iconst (pc := 2) (nI 0) (DX9_faultPlace_0.at 2 rfl) ci_0 ?_
  refine gk_istore_n (pc := 3) [(2, .int (nI 0)), (1, .int (nI 0)), (0, .ref o)] (DX9_faultPlace_0.at 3 rfl) rfl (Nat.le_of_ble_eq_true rfl) rfl ?_
  exact gk_pick (pc := 4) [(0, .ref o), (1, .int (nI 0)), (2, .int (nI 0))] [2, 1, 0] rfl hv
set_option maxHeartbeats 4000000 in
theorem vX9_faultPlace_4 {E : gk_E} {dd : Nat} {o : Nat} {x1 : Int32} {x2 : Int32}  {h : gk_H} {K : Int32 → gk_H → Prop} (hv : ((nI 100) < x2 → K x1 h) ∧ (¬ (nI 100) < x2 → (∃ fs, h[o]? = some (.inr (9, fs))) ∧ RnI E mX9_wordEnd (dd, 0, 0) [.ref o, .int x1] h (fun v1 h1 => (∃ fs, h1[o]? = some (.inr (9, fs))) ∧ RnI E mX9_wordKind (dd, 0, 0) [.ref o, .int x1, .int v1] h1 (fun v2 h2 => (0 ≤ v2 → (∃ fs, h2[o]? = some (.inr (9, fs))) ∧ RnI E mX9_figuresOf (dd, 0, 0) [.ref o, .int v2] h2 (fun v3 h3 => (∃ fs, h3[o]? = some (.inr (9, fs))) ∧ RnI E mX9_goodFigures (dd, 0, 0) [.ref o, .int v1, .int v3] h3 (fun v4 h4 => (((nI 2) * v3) ≤ v4 → LdI h4 o 9 0 fun v5 => (¬ (v1 + v4) = v5 → LdR h4 o 9 1 fun v6 => AlB h4 v6 (v1 + v4) fun v7 => (v7 = (nI 59) → pX9_faultPlace_4 E dd o ((v1 + v4) + nI 1) (x2 + nI 1) h4 K) ∧ (¬ v7 = (nI 59) → K (v1 + v4) h4)) ∧ ((v1 + v4) = v5 → K ((-5)) h4)) ∧ (¬ ((nI 2) * v3) ≤ v4 → K (v1 + v4) h4)))) ∧ (¬ 0 ≤ v2 → K x1 h2))))) : pX9_faultPlace_4 E dd o x1 x2 h K := by
  show gk_G E mX9_faultPlace (dd + 1, 0, 0) 4 [(0, .ref o), (1, .int x1), (2, .int x2)] [] h (fun o h1 => ∃ v, o = some (.int v) ∧ K v h1)
  refine gk_iload_n (pc := 4) (DX9_faultPlace_0.at 4 rfl) 2 rfl rfl ?_
  refine gk_bipush (pc := 5) (nI 100) (DX9_faultPlace_0.at 5 rfl) cb_100 ?_
  refine gk_icmp_gt (pc := 7) 97 (DX9_faultPlace_0.at 6 rfl) (by decide) (fun c => ?_) (fun c => ?_)
  · replace hv := hv.1 c
    refine gk_iload_n (pc := 97) (DX9_faultPlace_0.at 57 rfl) 1 rfl rfl ?_
    exact gk_ireturn (pc := 98) .int (DX9_faultPlace_0.at 58 rfl) rfl rfl ⟨_, rfl, hv⟩
  · replace hv := hv.2 c
    refine gk_aload_n (pc := 10) (DX9_faultPlace_0.at 7 rfl) 0 rfl rfl ?_
    refine gk_iload_n (pc := 11) (DX9_faultPlace_0.at 8 rfl) 1 rfl rfl ?_
    obtain ⟨⟨fs1, q1⟩, hv⟩ := hv
    refine gk_vV (pc := 12) [.int x1] [] (DX9_faultPlace_0.at 9 rfl) cvX9_19 q1 rfl rfl (Nat.le_of_ble_eq_true rfl) (Nat.le_of_ble_eq_true rfl) (gk_Run.post (fun o h1 z => ?_) hv)
    obtain ⟨v1, rfl, hv⟩ := z
    refine gk_istore_n (pc := 15) [(3, .int v1), (0, .ref o), (1, .int x1), (2, .int x2)] (DX9_faultPlace_0.at 10 rfl) rfl (Nat.le_of_ble_eq_true rfl) rfl ?_
    refine gk_aload_n (pc := 16) (DX9_faultPlace_0.at 11 rfl) 1 rfl rfl ?_
    refine gk_iload_n (pc := 17) (DX9_faultPlace_0.at 12 rfl) 2 rfl rfl ?_
    refine gk_iload_n (pc := 18) (DX9_faultPlace_0.at 13 rfl) 0 rfl rfl ?_
    obtain ⟨⟨fs2, q2⟩, hv⟩ := hv
    refine gk_vV (pc := 19) [.int x1, .int v1] [] (DX9_faultPlace_0.at 14 rfl) cvX9_23 q2 rfl rfl (Nat.le_of_ble_eq_true rfl) (Nat.le_of_ble_eq_true rfl) (gk_Run.post (fun o h2 z => ?_) hv)
    obtain ⟨v2, rfl, hv⟩ := z
    refine gk_istore (pc := 22) [(4, .int v2), (3, .int v1), (0, .ref o), (1, .int x1), (2, .int x2)] (DX9_faultPlace_0.at 15 rfl) (Nat.le_of_ble_eq_true rfl) rfl ?_
    refine gk_iload (pc := 24) (DX9_faultPlace_0.at 16 rfl) 0 rfl ?_
    refine gk_if_ge (pc := 26) 31 (DX9_faultPlace_0.at 17 rfl) (by decide) (fun c => ?_) (fun c => ?_)
    · replace hv := hv.1 c
      refine gk_aload_n (pc := 31) (DX9_faultPlace_0.at 20 rfl) 2 rfl rfl ?_
      refine gk_iload (pc := 32) (DX9_faultPlace_0.at 21 rfl) 0 rfl ?_
      obtain ⟨⟨fs3, q3⟩, hv⟩ := hv
      refine gk_vV (pc := 34) [.int v2] [] (DX9_faultPlace_0.at 22 rfl) cvX9_27 q3 rfl rfl (Nat.le_of_ble_eq_true rfl) (Nat.le_of_ble_eq_true rfl) (gk_Run.post (fun o h3 z => ?_) hv)
      obtain ⟨v3, rfl, hv⟩ := z
      refine gk_istore (pc := 37) [(5, .int v3), (4, .int v2), (3, .int v1), (0, .ref o), (1, .int x1), (2, .int x2)] (DX9_faultPlace_0.at 23 rfl) (Nat.le_of_ble_eq_true rfl) rfl ?_
      refine gk_aload_n (pc := 39) (DX9_faultPlace_0.at 24 rfl) 3 rfl rfl ?_
      refine gk_iload_n (pc := 40) (DX9_faultPlace_0.at 25 rfl) 2 rfl rfl ?_
      refine gk_iload (pc := 41) (DX9_faultPlace_0.at 26 rfl) 0 rfl ?_
      obtain ⟨⟨fs4, q4⟩, hv⟩ := hv
      refine gk_vV (pc := 43) [.int v1, .int v3] [] (DX9_faultPlace_0.at 27 rfl) cvX9_30 q4 rfl rfl (Nat.le_of_ble_eq_true rfl) (Nat.le_of_ble_eq_true rfl) (gk_Run.post (fun o h4 z => ?_) hv)
      obtain ⟨v4, rfl, hv⟩ := z
      refine gk_istore (pc := 46) [(6, .int v4), (5, .int v3), (4, .int v2), (3, .int v1), (0, .ref o), (1, .int x1), (2, .int x2)] (DX9_faultPlace_0.at 28 rfl) (Nat.le_of_ble_eq_true rfl) rfl ?_
      refine gk_iload_n (pc := 48) (DX9_faultPlace_0.at 29 rfl) 3 rfl rfl ?_
      refine gk_iload (pc := 49) (DX9_faultPlace_0.at 30 rfl) 0 rfl ?_
      refine gk_iadd (pc := 51) (DX9_faultPlace_0.at 31 rfl) ?_
      refine gk_istore_n (pc := 52) [(1, .int (v1 + v4)), (6, .int v4), (5, .int v3), (4, .int v2), (3, .int v1), (0, .ref o), (2, .int x2)] (DX9_faultPlace_0.at 32 rfl) rfl (Nat.le_of_ble_eq_true rfl) rfl ?_
      refine gk_iload (pc := 53) (DX9_faultPlace_0.at 33 rfl) 1 rfl ?_
      refine gk_iconst (pc := 55) (nI 2) (DX9_faultPlace_0.at 34 rfl) ci_2 ?_
      refine gk_iload (pc := 56) (DX9_faultPlace_0.at 35 rfl) 2 rfl ?_
      refine gk_imul (pc := 58) (DX9_faultPlace_0.at 36 rfl) ?_
      refine gk_icmp_ge (pc := 59) 64 (DX9_faultPlace_0.at 37 rfl) (by decide) (fun c => ?_) (fun c => ?_)
      · replace hv := hv.1 c
        refine gk_iload_n (pc := 64) (DX9_faultPlace_0.at 40 rfl) 0 rfl rfl ?_
        refine gk_aload_n (pc := 65) (DX9_faultPlace_0.at 41 rfl) 5 rfl rfl ?_
        obtain ⟨fs5, v5, q5, r5, hv⟩ := hv
        refine gk_get (pc := 66) (.int v5) (DX9_faultPlace_0.at 42 rfl) fX9_9_9 q5 r5 ?_
        refine gk_icmp_ne (pc := 69) 75 (DX9_faultPlace_0.at 43 rfl) (by decide) (fun c => ?_) (fun c => ?_)
        · replace hv := hv.1 c
          refine gk_aload_n (pc := 75) (DX9_faultPlace_0.at 46 rfl) 5 rfl rfl ?_
          obtain ⟨fs6, v6, q6, r6, hv⟩ := hv
          refine gk_get (pc := 76) (.ref v6) (DX9_faultPlace_0.at 47 rfl) fX9_15_9 q6 r6 ?_
          refine gk_iload_n (pc := 79) (DX9_faultPlace_0.at 48 rfl) 0 rfl rfl ?_
          obtain ⟨n7, f7, q7, r7, hv⟩ := hv
          refine gk_bald (pc := 80) (DX9_faultPlace_0.at 49 rfl) q7 r7 ?_
          generalize f7 _ = v7 at hv ⊢
          refine gk_bipush (pc := 81) (nI 59) (DX9_faultPlace_0.at 50 rfl) cb_59 ?_
          refine gk_icmp_eq (pc := 83) 88 (DX9_faultPlace_0.at 51 rfl) (by decide) (fun c => ?_) (fun c => ?_)
          · replace hv := hv.1 c
            refine gk_iinc (pc := 88) ((v1 + v4) + nI 1) [(1, .int ((v1 + v4) + nI 1)), (6, .int v4), (5, .int v3), (4, .int v2), (3, .int v1), (0, .ref o), (2, .int x2)] 0 (DX9_faultPlace_0.at 54 rfl) rfl (by rw [ci_1]) (Nat.le_of_ble_eq_true rfl) rfl ?_
            refine gk_iinc (pc := 91) (x2 + nI 1) [(2, .int (x2 + nI 1)), (1, .int ((v1 + v4) + nI 1)), (6, .int v4), (5, .int v3), (4, .int v2), (3, .int v1), (0, .ref o)] 6 (DX9_faultPlace_0.at 55 rfl) rfl (by rw [ci_1]) (Nat.le_of_ble_eq_true rfl) rfl ?_
            refine gk_goto (pc := 94) 4 (DX9_faultPlace_0.at 56 rfl) (by decide) ?_
            exact gk_pick (pc := 4) [(0, .ref o), (1, .int ((v1 + v4) + nI 1)), (2, .int (x2 + nI 1))] [6, 1, 0] rfl hv
          · replace hv := hv.2 c
            refine gk_iload_n (pc := 86) (DX9_faultPlace_0.at 52 rfl) 0 rfl rfl ?_
            exact gk_ireturn (pc := 87) .int (DX9_faultPlace_0.at 53 rfl) rfl rfl ⟨_, rfl, hv⟩
        · replace hv := hv.2 c
          refine gk_bipush (pc := 72) ((-5)) (DX9_faultPlace_0.at 44 rfl) cb_m5 ?_
          exact gk_ireturn (pc := 74) .int (DX9_faultPlace_0.at 45 rfl) rfl rfl ⟨_, rfl, hv⟩
      · replace hv := hv.2 c
        refine gk_iload_n (pc := 62) (DX9_faultPlace_0.at 38 rfl) 0 rfl rfl ?_
        exact gk_ireturn (pc := 63) .int (DX9_faultPlace_0.at 39 rfl) rfl rfl ⟨_, rfl, hv⟩
    · replace hv := hv.2 c
      refine gk_iload_n (pc := 29) (DX9_faultPlace_0.at 18 rfl) 3 rfl rfl ?_
      exact gk_ireturn (pc := 30) .int (DX9_faultPlace_0.at 19 rfl) rfl rfl ⟨_, rfl, hv⟩
set_option maxHeartbeats 4000000 in
theorem vX9_figure_0 {E : gk_E} {dd : Nat} {o : Nat} {x1 : Int32}  {h : gk_H} {K : Int32 → gk_H → Prop} (hv : LdI h o 9 0 fun v1 => (v1 ≤ x1 → K ((-1)) h) ∧ (¬ v1 ≤ x1 → LdR h o 9 1 fun v2 => AlB h v2 x1 fun v3 => K (v3 - (nI 48)) h)) : RnI E mX9_figure (dd, 0, 0) [.ref o, .int x1] h K := by
  show gk_G E mX9_figure (dd, 0, 0) 0 [(0, .ref o), (1, .int x1)] [] h (fun o h1 => ∃ v, o = some (.int v) ∧ K v h1)
  refine gk_iload_n (pc := 0) (DX9_figure_0.at 0 rfl) 1 rfl rfl ?_
  refine gk_aload_n (pc := 1) (DX9_figure_0.at 1 rfl) 0 rfl rfl ?_
  obtain ⟨fs1, v1, q1, r1, hv⟩ := hv
  refine gk_get (pc := 2) (.int v1) (DX9_figure_0.at 2 rfl) fX9_9_9 q1 r1 ?_
  refine gk_icmp_ge (pc := 5) 20 (DX9_figure_0.at 3 rfl) (by decide) (fun c => ?_) (fun c => ?_)
  · replace hv := hv.1 c
    refine gk_iconst (pc := 20) ((-1)) (DX9_figure_0.at 11 rfl) ci_m1 ?_
    exact gk_ireturn (pc := 21) .int (DX9_figure_0.at 12 rfl) rfl rfl ⟨_, rfl, hv⟩
  · replace hv := hv.2 c
    refine gk_aload_n (pc := 8) (DX9_figure_0.at 4 rfl) 0 rfl rfl ?_
    obtain ⟨fs2, v2, q2, r2, hv⟩ := hv
    refine gk_get (pc := 9) (.ref v2) (DX9_figure_0.at 5 rfl) fX9_15_9 q2 r2 ?_
    refine gk_iload_n (pc := 12) (DX9_figure_0.at 6 rfl) 1 rfl rfl ?_
    obtain ⟨n3, f3, q3, r3, hv⟩ := hv
    refine gk_bald (pc := 13) (DX9_figure_0.at 7 rfl) q3 r3 ?_
    generalize f3 _ = v3 at hv ⊢
    refine gk_bipush (pc := 14) (nI 48) (DX9_figure_0.at 8 rfl) cb_48 ?_
    refine gk_isub (pc := 16) (DX9_figure_0.at 9 rfl) ?_
    refine gk_goto (pc := 17) 21 (DX9_figure_0.at 10 rfl) (by decide) ?_
    exact gk_ireturn (pc := 21) .int (DX9_figure_0.at 12 rfl) rfl rfl ⟨_, rfl, hv⟩
set_option maxHeartbeats 4000000 in
theorem vX9_figuresOf_0 {E : gk_E} {dd : Nat} {o : Nat} {x1 : Int32}  {h : gk_H} {K : Int32 → gk_H → Prop} (hv : (¬ x1 = 0 → (¬ x1 = (nI 1) → K (nI 3) h) ∧ (x1 = (nI 1) → K (nI 2) h)) ∧ (x1 = 0 → K (nI 1) h)) : RnI E mX9_figuresOf (dd, 0, 0) [.ref o, .int x1] h K := by
  show gk_G E mX9_figuresOf (dd, 0, 0) 0 [(0, .ref o), (1, .int x1)] [] h (fun o h1 => ∃ v, o = some (.int v) ∧ K v h1)
  refine gk_iload_n (pc := 0) (DX9_figuresOf_0.at 0 rfl) 1 rfl rfl ?_
  refine gk_if_ne (pc := 1) 8 (DX9_figuresOf_0.at 1 rfl) (by decide) (fun c => ?_) (fun c => ?_)
  · replace hv := hv.1 c
    refine gk_iload_n (pc := 8) (DX9_figuresOf_0.at 4 rfl) 1 rfl rfl ?_
    refine gk_iconst (pc := 9) (nI 1) (DX9_figuresOf_0.at 5 rfl) ci_1 ?_
    refine gk_icmp_ne (pc := 10) 17 (DX9_figuresOf_0.at 6 rfl) (by decide) (fun c => ?_) (fun c => ?_)
    · replace hv := hv.1 c
      refine gk_iconst (pc := 17) (nI 3) (DX9_figuresOf_0.at 9 rfl) ci_3 ?_
      exact gk_ireturn (pc := 18) .int (DX9_figuresOf_0.at 10 rfl) rfl rfl ⟨_, rfl, hv⟩
    · replace hv := hv.2 c
      refine gk_iconst (pc := 13) (nI 2) (DX9_figuresOf_0.at 7 rfl) ci_2 ?_
      refine gk_goto (pc := 14) 18 (DX9_figuresOf_0.at 8 rfl) (by decide) ?_
      exact gk_ireturn (pc := 18) .int (DX9_figuresOf_0.at 10 rfl) rfl rfl ⟨_, rfl, hv⟩
  · replace hv := hv.2 c
    refine gk_iconst (pc := 4) (nI 1) (DX9_figuresOf_0.at 2 rfl) ci_1 ?_
    refine gk_goto (pc := 5) 18 (DX9_figuresOf_0.at 3 rfl) (by decide) ?_
    exact gk_ireturn (pc := 18) .int (DX9_figuresOf_0.at 10 rfl) rfl rfl ⟨_, rfl, hv⟩
abbrev pX9_goodFigures_2 (E : gk_E) (dd : Nat) (o : Nat) (x1 : Int32) (x2 : Int32) (x3 : Int32) (h : gk_H) (K : Int32 → gk_H → Prop) : Prop := gk_G E mX9_goodFigures (dd + 1, 0, 0) 2 [(0, .ref o), (1, .int x1), (2, .int x2), (3, .int x3)] [] h (fun o h1 => ∃ v, o = some (.int v) ∧ K v h1)
set_option maxHeartbeats 4000000 in
theorem vX9_goodFigures_0 {E : gk_E} {dd : Nat} {o : Nat} {x1 : Int32} {x2 : Int32}  {h : gk_H} {K : Int32 → gk_H → Prop} (hv : pX9_goodFigures_2 E dd o x1 x2 (nI 0) h K) : RnI E mX9_goodFigures (dd + 1, 0, 0) [.ref o, .int x1, .int x2] h K := by
  show gk_G E mX9_goodFigures (dd + 1, 0, 0) 0 [(0, .ref o), (1, .int x1), (2, .int x2)] [] h (fun o h1 => ∃ v, o = some (.int v) ∧ K v h1)
  refine gk_iconst (pc := 0) (nI 0) (DX9_goodFigures_0.at 0 rfl) ci_0 ?_
  refine gk_istore_n (pc := 1) [(3, .int (nI 0)), (0, .ref o), (1, .int x1), (2, .int x2)] (DX9_goodFigures_0.at 1 rfl) rfl (Nat.le_of_ble_eq_true rfl) rfl ?_
  exact gk_pick (pc := 2) [(0, .ref o), (1, .int x1), (2, .int x2), (3, .int (nI 0))] [1, 2, 3, 0] rfl hv
set_option maxHeartbeats 4000000 in
theorem vX9_goodFigures_2 {E : gk_E} {dd : Nat} {o : Nat} {x1 : Int32} {x2 : Int32} {x3 : Int32}  {h : gk_H} {K : Int32 → gk_H → Prop} (hv : (((nI 2) * x2) ≤ x3 → K x3 h) ∧ (¬ ((nI 2) * x2) ≤ x3 → LdI h o 9 0 fun v1 => (v1 ≤ (x1 + x3) → K x3 h) ∧ (¬ v1 ≤ (x1 + x3) → (¬ (x3 - x3 / (nI 2) * (nI 2)) = (nI 1) → (∃ fs, h[o]? = some (.inr (9, fs))) ∧ RnI E mX9_isDue (dd, 0, 0) [.ref o, .int (x1 + x3), .int (nI 0)] h (fun v2 h2 => (v2 = 0 → K x3 h2) ∧ (¬ v2 = 0 → pX9_goodFigures_2 E dd o x1 x2 (x3 + nI 1) h2 K))) ∧ ((x3 - x3 / (nI 2) * (nI 2)) = (nI 1) → (∃ fs, h[o]? = some (.inr (9, fs))) ∧ RnI E mX9_isDue (dd, 0, 0) [.ref o, .int (x1 + x3), .int (nI 1)] h (fun v3 h3 => (v3 = 0 → K x3 h3) ∧ (¬ v3 = 0 → pX9_goodFigures_2 E dd o x1 x2 (x3 + nI 1) h3 K)))))) : pX9_goodFigures_2 E dd o x1 x2 x3 h K := by
  show gk_G E mX9_goodFigures (dd + 1, 0, 0) 2 [(0, .ref o), (1, .int x1), (2, .int x2), (3, .int x3)] [] h (fun o h1 => ∃ v, o = some (.int v) ∧ K v h1)
  refine gk_iload_n (pc := 2) (DX9_goodFigures_0.at 2 rfl) 3 rfl rfl ?_
  refine gk_iconst (pc := 3) (nI 2) (DX9_goodFigures_0.at 3 rfl) ci_2 ?_
  refine gk_iload_n (pc := 4) (DX9_goodFigures_0.at 4 rfl) 2 rfl rfl ?_
  refine gk_imul (pc := 5) (DX9_goodFigures_0.at 5 rfl) ?_
  refine gk_icmp_ge (pc := 6) 47 (DX9_goodFigures_0.at 6 rfl) (by decide) (fun c => ?_) (fun c => ?_)
  · replace hv := hv.1 c
    refine gk_iload_n (pc := 47) (DX9_goodFigures_0.at 29 rfl) 3 rfl rfl ?_
    exact gk_ireturn (pc := 48) .int (DX9_goodFigures_0.at 30 rfl) rfl rfl ⟨_, rfl, hv⟩
  · replace hv := hv.2 c
    refine gk_iload_n (pc := 9) (DX9_goodFigures_0.at 7 rfl) 1 rfl rfl ?_
    refine gk_iload_n (pc := 10) (DX9_goodFigures_0.at 8 rfl) 3 rfl rfl ?_
    refine gk_iadd (pc := 11) (DX9_goodFigures_0.at 9 rfl) ?_
    refine gk_aload_n (pc := 12) (DX9_goodFigures_0.at 10 rfl) 0 rfl rfl ?_
    obtain ⟨fs1, v1, q1, r1, hv⟩ := hv
    refine gk_get (pc := 13) (.int v1) (DX9_goodFigures_0.at 11 rfl) fX9_9_9 q1 r1 ?_
    refine gk_icmp_ge (pc := 16) 47 (DX9_goodFigures_0.at 12 rfl) (by decide) (fun c => ?_) (fun c => ?_)
    · replace hv := hv.1 c
      refine gk_iload_n (pc := 47) (DX9_goodFigures_0.at 29 rfl) 3 rfl rfl ?_
      exact gk_ireturn (pc := 48) .int (DX9_goodFigures_0.at 30 rfl) rfl rfl ⟨_, rfl, hv⟩
    · replace hv := hv.2 c
      refine gk_aload_n (pc := 19) (DX9_goodFigures_0.at 13 rfl) 0 rfl rfl ?_
      refine gk_iload_n (pc := 20) (DX9_goodFigures_0.at 14 rfl) 1 rfl rfl ?_
      refine gk_iload_n (pc := 21) (DX9_goodFigures_0.at 15 rfl) 3 rfl rfl ?_
      refine gk_iadd (pc := 22) (DX9_goodFigures_0.at 16 rfl) ?_
      refine gk_iload_n (pc := 23) (DX9_goodFigures_0.at 17 rfl) 3 rfl rfl ?_
      refine gk_iconst (pc := 24) (nI 2) (DX9_goodFigures_0.at 18 rfl) ci_2 ?_
      refine gk_irem (pc := 25) (DX9_goodFigures_0.at 19 rfl) (by decide) ?_
      refine gk_iconst (pc := 26) (nI 1) (DX9_goodFigures_0.at 20 rfl) ci_1 ?_
      refine gk_icmp_ne (pc := 27) 34 (DX9_goodFigures_0.at 21 rfl) (by decide) (fun c => ?_) (fun c => ?_)
      · replace hv := hv.1 c
        refine gk_iconst (pc := 34) (nI 0) (DX9_goodFigures_0.at 24 rfl) ci_0 ?_
        obtain ⟨⟨fs2, q2⟩, hv⟩ := hv
        refine gk_vV (pc := 35) [.int (x1 + x3), .int (nI 0)] [] (DX9_goodFigures_0.at 25 rfl) cvX9_33 q2 rfl rfl (Nat.le_of_ble_eq_true rfl) (Nat.le_of_ble_eq_true rfl) (gk_Run.post (fun o h2 z => ?_) hv)
        obtain ⟨v2, rfl, hv⟩ := z
        refine gk_if_eq (pc := 38) 47 (DX9_goodFigures_0.at 26 rfl) (by decide) (fun c => ?_) (fun c => ?_)
        · replace hv := hv.1 c
          refine gk_iload_n (pc := 47) (DX9_goodFigures_0.at 29 rfl) 3 rfl rfl ?_
          exact gk_ireturn (pc := 48) .int (DX9_goodFigures_0.at 30 rfl) rfl rfl ⟨_, rfl, hv⟩
        · replace hv := hv.2 c
          refine gk_iinc (pc := 41) (x3 + nI 1) [(3, .int (x3 + nI 1)), (0, .ref o), (1, .int x1), (2, .int x2)] 3 (DX9_goodFigures_0.at 27 rfl) rfl (by rw [ci_1]) (Nat.le_of_ble_eq_true rfl) rfl ?_
          refine gk_goto (pc := 44) 2 (DX9_goodFigures_0.at 28 rfl) (by decide) ?_
          exact gk_pick (pc := 2) [(0, .ref o), (1, .int x1), (2, .int x2), (3, .int (x3 + nI 1))] [1, 2, 3, 0] rfl hv
      · replace hv := hv.2 c
        refine gk_iconst (pc := 30) (nI 1) (DX9_goodFigures_0.at 22 rfl) ci_1 ?_
        refine gk_goto (pc := 31) 35 (DX9_goodFigures_0.at 23 rfl) (by decide) ?_
        obtain ⟨⟨fs3, q3⟩, hv⟩ := hv
        refine gk_vV (pc := 35) [.int (x1 + x3), .int (nI 1)] [] (DX9_goodFigures_0.at 25 rfl) cvX9_33 q3 rfl rfl (Nat.le_of_ble_eq_true rfl) (Nat.le_of_ble_eq_true rfl) (gk_Run.post (fun o h3 z => ?_) hv)
        obtain ⟨v3, rfl, hv⟩ := z
        refine gk_if_eq (pc := 38) 47 (DX9_goodFigures_0.at 26 rfl) (by decide) (fun c => ?_) (fun c => ?_)
        · replace hv := hv.1 c
          refine gk_iload_n (pc := 47) (DX9_goodFigures_0.at 29 rfl) 3 rfl rfl ?_
          exact gk_ireturn (pc := 48) .int (DX9_goodFigures_0.at 30 rfl) rfl rfl ⟨_, rfl, hv⟩
        · replace hv := hv.2 c
          refine gk_iinc (pc := 41) (x3 + nI 1) [(3, .int (x3 + nI 1)), (0, .ref o), (1, .int x1), (2, .int x2)] 3 (DX9_goodFigures_0.at 27 rfl) rfl (by rw [ci_1]) (Nat.le_of_ble_eq_true rfl) rfl ?_
          refine gk_goto (pc := 44) 2 (DX9_goodFigures_0.at 28 rfl) (by decide) ?_
          exact gk_pick (pc := 2) [(0, .ref o), (1, .int x1), (2, .int x2), (3, .int (x3 + nI 1))] [1, 2, 3, 0] rfl hv
set_option maxHeartbeats 4000000 in
theorem vX9_isDue_0 {E : gk_E} {dd : Nat} {o : Nat} {x1 : Int32} {x2 : Int32}  {h : gk_H} {K : Int32 → gk_H → Prop} (hv : LdR h o 9 1 fun v1 => AlB h v1 x1 fun v2 => (x2 = 0 → (¬ v2 = (nI 32) → K (nI 0) h) ∧ (v2 = (nI 32) → K (nI 1) h)) ∧ (¬ x2 = 0 → (v2 < (nI 48) → K (nI 0) h) ∧ (¬ v2 < (nI 48) → ((nI 57) < v2 → K (nI 0) h) ∧ (¬ (nI 57) < v2 → K (nI 1) h)))) : RnI E mX9_isDue (dd, 0, 0) [.ref o, .int x1, .int x2] h K := by
  show gk_G E mX9_isDue (dd, 0, 0) 0 [(0, .ref o), (1, .int x1), (2, .int x2)] [] h (fun o h1 => ∃ v, o = some (.int v) ∧ K v h1)
  refine gk_aload_n (pc := 0) (DX9_isDue_0.at 0 rfl) 0 rfl rfl ?_
  obtain ⟨fs1, v1, q1, r1, hv⟩ := hv
  refine gk_get (pc := 1) (.ref v1) (DX9_isDue_0.at 1 rfl) fX9_15_9 q1 r1 ?_
  refine gk_iload_n (pc := 4) (DX9_isDue_0.at 2 rfl) 1 rfl rfl ?_
  obtain ⟨n2, f2, q2, r2, hv⟩ := hv
  refine gk_bald (pc := 5) (DX9_isDue_0.at 3 rfl) q2 r2 ?_
  generalize f2 _ = v2 at hv ⊢
  refine gk_istore_n (pc := 6) [(3, .int v2), (0, .ref o), (1, .int x1), (2, .int x2)] (DX9_isDue_0.at 4 rfl) rfl (Nat.le_of_ble_eq_true rfl) rfl ?_
  refine gk_iload_n (pc := 7) (DX9_isDue_0.at 5 rfl) 3 rfl rfl ?_
  refine gk_if_eq (pc := 8) 31 (DX9_isDue_0.at 6 rfl) (by decide) (fun c => ?_) (fun c => ?_)
  · replace hv := hv.1 c
    refine gk_iload_n (pc := 31) (DX9_isDue_0.at 17 rfl) 0 rfl rfl ?_
    refine gk_bipush (pc := 32) (nI 32) (DX9_isDue_0.at 18 rfl) cb_32 ?_
    refine gk_icmp_ne (pc := 34) 41 (DX9_isDue_0.at 19 rfl) (by decide) (fun c => ?_) (fun c => ?_)
    · replace hv := hv.1 c
      refine gk_iconst (pc := 41) (nI 0) (DX9_isDue_0.at 22 rfl) ci_0 ?_
      exact gk_ireturn (pc := 42) .boolean (DX9_isDue_0.at 23 rfl) rfl rfl ⟨_, rfl, hv⟩
    · replace hv := hv.2 c
      refine gk_iconst (pc := 37) (nI 1) (DX9_isDue_0.at 20 rfl) ci_1 ?_
      refine gk_goto (pc := 38) 42 (DX9_isDue_0.at 21 rfl) (by decide) ?_
      exact gk_ireturn (pc := 42) .boolean (DX9_isDue_0.at 23 rfl) rfl rfl ⟨_, rfl, hv⟩
  · replace hv := hv.2 c
    refine gk_iload_n (pc := 11) (DX9_isDue_0.at 7 rfl) 0 rfl rfl ?_
    refine gk_bipush (pc := 12) (nI 48) (DX9_isDue_0.at 8 rfl) cb_48 ?_
    refine gk_icmp_lt (pc := 14) 27 (DX9_isDue_0.at 9 rfl) (by decide) (fun c => ?_) (fun c => ?_)
    · replace hv := hv.1 c
      refine gk_iconst (pc := 27) (nI 0) (DX9_isDue_0.at 15 rfl) ci_0 ?_
      refine gk_goto (pc := 28) 42 (DX9_isDue_0.at 16 rfl) (by decide) ?_
      exact gk_ireturn (pc := 42) .boolean (DX9_isDue_0.at 23 rfl) rfl rfl ⟨_, rfl, hv⟩
    · replace hv := hv.2 c
      refine gk_iload_n (pc := 17) (DX9_isDue_0.at 10 rfl) 0 rfl rfl ?_
      refine gk_bipush (pc := 18) (nI 57) (DX9_isDue_0.at 11 rfl) cb_57 ?_
      refine gk_icmp_gt (pc := 20) 27 (DX9_isDue_0.at 12 rfl) (by decide) (fun c => ?_) (fun c => ?_)
      · replace hv := hv.1 c
        refine gk_iconst (pc := 27) (nI 0) (DX9_isDue_0.at 15 rfl) ci_0 ?_
        refine gk_goto (pc := 28) 42 (DX9_isDue_0.at 16 rfl) (by decide) ?_
        exact gk_ireturn (pc := 42) .boolean (DX9_isDue_0.at 23 rfl) rfl rfl ⟨_, rfl, hv⟩
      · replace hv := hv.2 c
        refine gk_iconst (pc := 23) (nI 1) (DX9_isDue_0.at 13 rfl) ci_1 ?_
        refine gk_goto (pc := 24) 42 (DX9_isDue_0.at 14 rfl) (by decide) ?_
        exact gk_ireturn (pc := 42) .boolean (DX9_isDue_0.at 23 rfl) rfl rfl ⟨_, rfl, hv⟩
abbrev pX9_spell_21 (E : gk_E) (dd : Nat) (o : Nat) (x1 : Nat) (x2 : Int32) (h : gk_H) (K : gk_H → Prop) : Prop := gk_G E mX9_spell (dd + 1, 0, 0) 21 [(0, .ref o), (1, .ref x1), (2, .int x2)] [] h (fun o h1 => o = none ∧ K h1)
abbrev pX9_spell_68 (E : gk_E) (dd : Nat) (o : Nat) (x1 : Nat) (x2 : Int32) (h : gk_H) (K : gk_H → Prop) : Prop := gk_G E mX9_spell (dd + 1, 0, 0) 68 [(0, .ref o), (1, .ref x1), (2, .int x2)] [] h (fun o h1 => o = none ∧ K h1)
abbrev pX9_spell_78 (E : gk_E) (dd : Nat) (o : Nat) (x1 : Nat) (x2 : Int32) (x3 : Int32) (h : gk_H) (K : gk_H → Prop) : Prop := gk_G E mX9_spell (dd + 1, 0, 0) 78 [(0, .ref o), (1, .ref x1), (2, .int x2), (3, .int x3)] [] h (fun o h1 => o = none ∧ K h1)
abbrev pX9_spell_89 (E : gk_E) (dd : Nat) (o : Nat) (x1 : Nat) (x2 : Int32) (x3 : Int32) (x4 : Int32) (h : gk_H) (K : gk_H → Prop) : Prop := gk_G E mX9_spell (dd + 1, 0, 0) 89 [(0, .ref o), (1, .ref x1), (2, .int x2), (3, .int x3), (4, .int x4)] [] h (fun o h1 => o = none ∧ K h1)
set_option maxHeartbeats 4000000 in
theorem vX9_spell_0 {E : gk_E} {dd : Nat} {o : Nat} {x1 : Nat}  {h : gk_H} {K : gk_H → Prop} (hv : StI h o 9 0 (nI 0) fun h1 => (∃ fs, h1[o]? = some (.inr (9, fs))) ∧ RnV E mX9_writeWord (dd, 0, 0) [.ref o, .ref 1000001] h1 (fun h2 => LdI h2 x1 8 0 fun v3 => (∃ fs, h2[o]? = some (.inr (9, fs))) ∧ RnV E mX9_writeFigure (dd, 0, 0) [.ref o, .int v3] h2 (fun h4 => pX9_spell_21 E dd o x1 (nI 1) h4 K))) : RnV E mX9_spell (dd + 1, 0, 0) [.ref o, .ref x1] h K := by
  show gk_G E mX9_spell (dd + 1, 0, 0) 0 [(0, .ref o), (1, .ref x1)] [] h (fun o h1 => o = none ∧ K h1)
  refine gk_aload_n (pc := 0) (DX9_spell_0.at 0 rfl) 0 rfl rfl ?_
  refine gk_iconst (pc := 1) (nI 0) (DX9_spell_0.at 1 rfl) ci_0 ?_
  obtain ⟨fs1, q1, r1, hv⟩ := hv
  refine gk_put (pc := 2) (DX9_spell_0.at 2 rfl) fX9_9_9w q1 r1 rfl rfl ?_
  generalize h.set _ _ = h1 at hv ⊢
  refine gk_aload_n (pc := 5) (DX9_spell_0.at 3 rfl) 0 rfl rfl ?_
  refine gk_ldcS (pc := 6) 0 (DX9_spell_0.at 4 rfl) rfl rfl rfl (by decide) ?_
  obtain ⟨⟨fs2, q2⟩, hv⟩ := hv
  refine gk_vV (pc := 8) [.ref 1000001] [] (DX9_spell_0.at 5 rfl) cvX9_59 q2 rfl rfl (Nat.le_of_ble_eq_true rfl) (Nat.le_of_ble_eq_true rfl) (gk_Run.post (fun o h2 z => ?_) hv)
  obtain ⟨rfl, hv⟩ := z
  refine gk_aload_n (pc := 11) (DX9_spell_0.at 6 rfl) 0 rfl rfl ?_
  refine gk_aload_n (pc := 12) (DX9_spell_0.at 7 rfl) 1 rfl rfl ?_
  obtain ⟨fs3, v3, q3, r3, hv⟩ := hv
  refine gk_get (pc := 13) (.int v3) (DX9_spell_0.at 8 rfl) fX9_63_8 q3 r3 ?_
  obtain ⟨⟨fs4, q4⟩, hv⟩ := hv
  refine gk_vV (pc := 16) [.int v3] [] (DX9_spell_0.at 9 rfl) cvX9_66 q4 rfl rfl (Nat.le_of_ble_eq_true rfl) (Nat.le_of_ble_eq_true rfl) (gk_Run.post (fun o h4 z => ?_) hv)
  obtain ⟨rfl, hv⟩ := z
  refine gk_iconst (pc := 19) (nI 1) (DX9_spell_0.at 10 rfl) ci_1 ?_
  refine gk_istore_n (pc := 20) [(2, .int (nI 1)), (0, .ref o), (1, .ref x1)] (DX9_spell_0.at 11 rfl) rfl (Nat.le_of_ble_eq_true rfl) rfl ?_
  exact gk_pick (pc := 21) [(0, .ref o), (1, .ref x1), (2, .int (nI 1))] [1, 2, 0] rfl hv
set_option maxHeartbeats 4000000 in
theorem vX9_spell_21 {E : gk_E} {dd : Nat} {o : Nat} {x1 : Nat} {x2 : Int32}  {h : gk_H} {K : gk_H → Prop} (hv : LdI h x1 8 0 fun v1 => (v1 ≤ x2 → pX9_spell_68 E dd o x1 (nI 1) h K) ∧ (¬ v1 ≤ x2 → LdR h x1 8 1 fun v2 => AlI h v2 x2 fun v3 => (v3 ≤ x2 → pX9_spell_21 E dd o x1 (x2 + nI 1) h K) ∧ (¬ v3 ≤ x2 → (∃ fs, h[o]? = some (.inr (9, fs))) ∧ RnV E mX9_writeWord (dd, 0, 0) [.ref o, .ref 1000005] h (fun h4 => (∃ fs, h4[o]? = some (.inr (9, fs))) ∧ RnV E mX9_writeFigure (dd, 0, 0) [.ref o, .int x2] h4 (fun h5 => LdR h5 x1 8 1 fun v6 => AlI h5 v6 x2 fun v7 => (∃ fs, h5[o]? = some (.inr (9, fs))) ∧ RnV E mX9_writeFigure (dd, 0, 0) [.ref o, .int v7] h5 (fun h8 => pX9_spell_21 E dd o x1 (x2 + nI 1) h8 K)))))) : pX9_spell_21 E dd o x1 x2 h K := by
  show gk_G E mX9_spell (dd + 1, 0, 0) 21 [(0, .ref o), (1, .ref x1), (2, .int x2)] [] h (fun o h1 => o = none ∧ K h1)
  refine gk_iload_n (pc := 21) (DX9_spell_0.at 12 rfl) 2 rfl rfl ?_
  refine gk_aload_n (pc := 22) (DX9_spell_0.at 13 rfl) 1 rfl rfl ?_
  obtain ⟨fs1, v1, q1, r1, hv⟩ := hv
  refine gk_get (pc := 23) (.int v1) (DX9_spell_0.at 14 rfl) fX9_63_8 q1 r1 ?_
  refine gk_icmp_ge (pc := 26) 66 (DX9_spell_0.at 15 rfl) (by decide) (fun c => ?_) (fun c => ?_)
  · replace hv := hv.1 c
    refine gk_iconst (pc := 66) (nI 1) (DX9_spell_0.at 36 rfl) ci_1 ?_
    refine gk_istore_n (pc := 67) [(2, .int (nI 1)), (0, .ref o), (1, .ref x1)] (DX9_spell_0.at 37 rfl) rfl (Nat.le_of_ble_eq_true rfl) rfl ?_
    exact gk_pick (pc := 68) [(0, .ref o), (1, .ref x1), (2, .int (nI 1))] [1, 2, 0] rfl hv
  · replace hv := hv.2 c
    refine gk_iload_n (pc := 29) (DX9_spell_0.at 16 rfl) 2 rfl rfl ?_
    refine gk_aload_n (pc := 30) (DX9_spell_0.at 17 rfl) 1 rfl rfl ?_
    obtain ⟨fs2, v2, q2, r2, hv⟩ := hv
    refine gk_get (pc := 31) (.ref v2) (DX9_spell_0.at 18 rfl) fX9_70_8 q2 r2 ?_
    refine gk_iload_n (pc := 34) (DX9_spell_0.at 19 rfl) 2 rfl rfl ?_
    obtain ⟨n3, f3, q3, r3, hv⟩ := hv
    refine gk_iald (pc := 35) (DX9_spell_0.at 20 rfl) q3 r3 ?_
    generalize f3 _ = v3 at hv ⊢
    refine gk_icmp_ge (pc := 36) 60 (DX9_spell_0.at 21 rfl) (by decide) (fun c => ?_) (fun c => ?_)
    · replace hv := hv.1 c
      refine gk_iinc (pc := 60) (x2 + nI 1) [(2, .int (x2 + nI 1)), (0, .ref o), (1, .ref x1)] 2 (DX9_spell_0.at 34 rfl) rfl (by rw [ci_1]) (Nat.le_of_ble_eq_true rfl) rfl ?_
      refine gk_goto (pc := 63) 21 (DX9_spell_0.at 35 rfl) (by decide) ?_
      exact gk_pick (pc := 21) [(0, .ref o), (1, .ref x1), (2, .int (x2 + nI 1))] [1, 2, 0] rfl hv
    · replace hv := hv.2 c
      refine gk_aload_n (pc := 39) (DX9_spell_0.at 22 rfl) 0 rfl rfl ?_
      refine gk_ldcS (pc := 40) 4 (DX9_spell_0.at 23 rfl) rfl rfl rfl (by decide) ?_
      obtain ⟨⟨fs4, q4⟩, hv⟩ := hv
      refine gk_vV (pc := 42) [.ref 1000005] [] (DX9_spell_0.at 24 rfl) cvX9_59 q4 rfl rfl (Nat.le_of_ble_eq_true rfl) (Nat.le_of_ble_eq_true rfl) (gk_Run.post (fun o h4 z => ?_) hv)
      obtain ⟨rfl, hv⟩ := z
      refine gk_aload_n (pc := 45) (DX9_spell_0.at 25 rfl) 0 rfl rfl ?_
      refine gk_iload_n (pc := 46) (DX9_spell_0.at 26 rfl) 2 rfl rfl ?_
      obtain ⟨⟨fs5, q5⟩, hv⟩ := hv
      refine gk_vV (pc := 47) [.int x2] [] (DX9_spell_0.at 27 rfl) cvX9_66 q5 rfl rfl (Nat.le_of_ble_eq_true rfl) (Nat.le_of_ble_eq_true rfl) (gk_Run.post (fun o h5 z => ?_) hv)
      obtain ⟨rfl, hv⟩ := z
      refine gk_aload_n (pc := 50) (DX9_spell_0.at 28 rfl) 0 rfl rfl ?_
      refine gk_aload_n (pc := 51) (DX9_spell_0.at 29 rfl) 1 rfl rfl ?_
      obtain ⟨fs6, v6, q6, r6, hv⟩ := hv
      refine gk_get (pc := 52) (.ref v6) (DX9_spell_0.at 30 rfl) fX9_70_8 q6 r6 ?_
      refine gk_iload_n (pc := 55) (DX9_spell_0.at 31 rfl) 2 rfl rfl ?_
      obtain ⟨n7, f7, q7, r7, hv⟩ := hv
      refine gk_iald (pc := 56) (DX9_spell_0.at 32 rfl) q7 r7 ?_
      generalize f7 _ = v7 at hv ⊢
      obtain ⟨⟨fs8, q8⟩, hv⟩ := hv
      refine gk_vV (pc := 57) [.int v7] [] (DX9_spell_0.at 33 rfl) cvX9_66 q8 rfl rfl (Nat.le_of_ble_eq_true rfl) (Nat.le_of_ble_eq_true rfl) (gk_Run.post (fun o h8 z => ?_) hv)
      obtain ⟨rfl, hv⟩ := z
      refine gk_iinc (pc := 60) (x2 + nI 1) [(2, .int (x2 + nI 1)), (0, .ref o), (1, .ref x1)] 2 (DX9_spell_0.at 34 rfl) rfl (by rw [ci_1]) (Nat.le_of_ble_eq_true rfl) rfl ?_
      refine gk_goto (pc := 63) 21 (DX9_spell_0.at 35 rfl) (by decide) ?_
      exact gk_pick (pc := 21) [(0, .ref o), (1, .ref x1), (2, .int (x2 + nI 1))] [1, 2, 0] rfl hv
set_option maxHeartbeats 4000000 in
theorem vX9_spell_68 {E : gk_E} {dd : Nat} {o : Nat} {x1 : Nat} {x2 : Int32}  {h : gk_H} {K : gk_H → Prop} (hv : LdI h x1 8 0 fun v1 => (v1 ≤ x2 → K h) ∧ (¬ v1 ≤ x2 → pX9_spell_78 E dd o x1 x2 (nI 1) h K)) : pX9_spell_68 E dd o x1 x2 h K := by
  show gk_G E mX9_spell (dd + 1, 0, 0) 68 [(0, .ref o), (1, .ref x1), (2, .int x2)] [] h (fun o h1 => o = none ∧ K h1)
  refine gk_iload_n (pc := 68) (DX9_spell_0.at 38 rfl) 2 rfl rfl ?_
  refine gk_aload_n (pc := 69) (DX9_spell_0.at 39 rfl) 1 rfl rfl ?_
  obtain ⟨fs1, v1, q1, r1, hv⟩ := hv
  refine gk_get (pc := 70) (.int v1) (DX9_spell_0.at 40 rfl) fX9_63_8 q1 r1 ?_
  refine gk_icmp_ge (pc := 73) 146 (DX9_spell_0.at 41 rfl) (by decide) (fun c => ?_) (fun c => ?_)
  · replace hv := hv.1 c
    exact gk_return (pc := 146) (DX9_spell_1.at 17 rfl) rfl ⟨rfl, hv⟩
  · replace hv := hv.2 c
    refine gk_iconst (pc := 76) (nI 1) (DX9_spell_0.at 42 rfl) ci_1 ?_
    refine gk_istore_n (pc := 77) [(3, .int (nI 1)), (0, .ref o), (1, .ref x1), (2, .int x2)] (DX9_spell_0.at 43 rfl) rfl (Nat.le_of_ble_eq_true rfl) rfl ?_
    exact gk_pick (pc := 78) [(0, .ref o), (1, .ref x1), (2, .int x2), (3, .int (nI 1))] [1, 2, 3, 0] rfl hv
set_option maxHeartbeats 4000000 in
theorem vX9_spell_78 {E : gk_E} {dd : Nat} {o : Nat} {x1 : Nat} {x2 : Int32} {x3 : Int32}  {h : gk_H} {K : gk_H → Prop} (hv : LdI h x1 8 0 fun v1 => (v1 ≤ x3 → pX9_spell_68 E dd o x1 (x2 + nI 1) h K) ∧ (¬ v1 ≤ x3 → pX9_spell_89 E dd o x1 x2 x3 (nI 1) h K)) : pX9_spell_78 E dd o x1 x2 x3 h K := by
  show gk_G E mX9_spell (dd + 1, 0, 0) 78 [(0, .ref o), (1, .ref x1), (2, .int x2), (3, .int x3)] [] h (fun o h1 => o = none ∧ K h1)
  refine gk_iload_n (pc := 78) (DX9_spell_0.at 44 rfl) 3 rfl rfl ?_
  refine gk_aload_n (pc := 79) (DX9_spell_0.at 45 rfl) 1 rfl rfl ?_
  obtain ⟨fs1, v1, q1, r1, hv⟩ := hv
  refine gk_get (pc := 80) (.int v1) (DX9_spell_0.at 46 rfl) fX9_63_8 q1 r1 ?_
  refine gk_icmp_ge (pc := 83) 140 (DX9_spell_0.at 47 rfl) (by decide) (fun c => ?_) (fun c => ?_)
  · replace hv := hv.1 c
    refine gk_iinc (pc := 140) (x2 + nI 1) [(2, .int (x2 + nI 1)), (0, .ref o), (1, .ref x1), (3, .int x3)] 2 (DX9_spell_1.at 15 rfl) rfl (by rw [ci_1]) (Nat.le_of_ble_eq_true rfl) rfl ?_
    refine gk_goto (pc := 143) 68 (DX9_spell_1.at 16 rfl) (by decide) ?_
    exact gk_pick (pc := 68) [(0, .ref o), (1, .ref x1), (2, .int (x2 + nI 1))] [1, 2, 0] rfl hv
  · replace hv := hv.2 c
    refine gk_iconst (pc := 86) (nI 1) (DX9_spell_0.at 48 rfl) ci_1 ?_
    refine gk_istore (pc := 87) [(4, .int (nI 1)), (0, .ref o), (1, .ref x1), (2, .int x2), (3, .int x3)] (DX9_spell_0.at 49 rfl) (Nat.le_of_ble_eq_true rfl) rfl ?_
    exact gk_pick (pc := 89) [(0, .ref o), (1, .ref x1), (2, .int x2), (3, .int x3), (4, .int (nI 1))] [1, 2, 3, 4, 0] rfl hv
set_option maxHeartbeats 4000000 in
theorem vX9_spell_89 {E : gk_E} {dd : Nat} {o : Nat} {x1 : Nat} {x2 : Int32} {x3 : Int32} {x4 : Int32}  {h : gk_H} {K : gk_H → Prop} (hv : LdI h x1 8 0 fun v1 => (v1 ≤ x4 → pX9_spell_78 E dd o x1 x2 (x3 + nI 1) h K) ∧ (¬ v1 ≤ x4 → (∃ fs, h[x1]? = some (.inr (8, fs))) ∧ RnI E mX8_has (dd, 0, 0) [.ref x1, .int x2, .int x3, .int x4] h (fun v2 h2 => (v2 = 0 → pX9_spell_89 E dd o x1 x2 x3 (x4 + nI 1) h2 K) ∧ (¬ v2 = 0 → (∃ fs, h2[x1]? = some (.inr (8, fs))) ∧ RnI E mX8_isLeastTurn (dd, 0, 0) [.ref x1, .int x2, .int x3, .int x4] h2 (fun v3 h3 => (v3 = 0 → pX9_spell_89 E dd o x1 x2 x3 (x4 + nI 1) h3 K) ∧ (¬ v3 = 0 → (∃ fs, h3[o]? = some (.inr (9, fs))) ∧ RnV E mX9_writeThree (dd, 0, 0) [.ref o, .int x2, .int x3, .int x4] h3 (fun h4 => pX9_spell_89 E dd o x1 x2 x3 (x4 + nI 1) h4 K))))))) : pX9_spell_89 E dd o x1 x2 x3 x4 h K := by
  show gk_G E mX9_spell (dd + 1, 0, 0) 89 [(0, .ref o), (1, .ref x1), (2, .int x2), (3, .int x3), (4, .int x4)] [] h (fun o h1 => o = none ∧ K h1)
  refine gk_iload (pc := 89) (DX9_spell_0.at 50 rfl) 4 rfl ?_
  refine gk_aload_n (pc := 91) (DX9_spell_0.at 51 rfl) 1 rfl rfl ?_
  obtain ⟨fs1, v1, q1, r1, hv⟩ := hv
  refine gk_get (pc := 92) (.int v1) (DX9_spell_0.at 52 rfl) fX9_63_8 q1 r1 ?_
  refine gk_icmp_ge (pc := 95) 134 (DX9_spell_0.at 53 rfl) (by decide) (fun c => ?_) (fun c => ?_)
  · replace hv := hv.1 c
    refine gk_iinc (pc := 134) (x3 + nI 1) [(3, .int (x3 + nI 1)), (0, .ref o), (1, .ref x1), (2, .int x2), (4, .int x4)] 3 (DX9_spell_1.at 13 rfl) rfl (by rw [ci_1]) (Nat.le_of_ble_eq_true rfl) rfl ?_
    refine gk_goto (pc := 137) 78 (DX9_spell_1.at 14 rfl) (by decide) ?_
    exact gk_pick (pc := 78) [(0, .ref o), (1, .ref x1), (2, .int x2), (3, .int (x3 + nI 1))] [1, 2, 3, 0] rfl hv
  · replace hv := hv.2 c
    refine gk_aload_n (pc := 98) (DX9_spell_0.at 54 rfl) 1 rfl rfl ?_
    refine gk_iload_n (pc := 99) (DX9_spell_0.at 55 rfl) 2 rfl rfl ?_
    refine gk_iload_n (pc := 100) (DX9_spell_0.at 56 rfl) 3 rfl rfl ?_
    refine gk_iload (pc := 101) (DX9_spell_0.at 57 rfl) 4 rfl ?_
    obtain ⟨⟨fs2, q2⟩, hv⟩ := hv
    refine gk_vV (pc := 103) [.int x2, .int x3, .int x4] [] (DX9_spell_0.at 58 rfl) cvX9_76 q2 rfl rfl (Nat.le_of_ble_eq_true rfl) (Nat.le_of_ble_eq_true rfl) (gk_Run.post (fun o h2 z => ?_) hv)
    obtain ⟨v2, rfl, hv⟩ := z
    refine gk_if_eq (pc := 106) 128 (DX9_spell_0.at 59 rfl) (by decide) (fun c => ?_) (fun c => ?_)
    · replace hv := hv.1 c
      refine gk_iinc (pc := 128) (x4 + nI 1) [(4, .int (x4 + nI 1)), (0, .ref o), (1, .ref x1), (2, .int x2), (3, .int x3)] 4 (DX9_spell_1.at 11 rfl) rfl (by rw [ci_1]) (Nat.le_of_ble_eq_true rfl) rfl ?_
      refine gk_goto (pc := 131) 89 (DX9_spell_1.at 12 rfl) (by decide) ?_
      exact gk_pick (pc := 89) [(0, .ref o), (1, .ref x1), (2, .int x2), (3, .int x3), (4, .int (x4 + nI 1))] [1, 2, 3, 4, 0] rfl hv
    · replace hv := hv.2 c
      refine gk_aload_n (pc := 109) (DX9_spell_1.at 0 rfl) 1 rfl rfl ?_
      refine gk_iload_n (pc := 110) (DX9_spell_1.at 1 rfl) 2 rfl rfl ?_
      refine gk_iload_n (pc := 111) (DX9_spell_1.at 2 rfl) 3 rfl rfl ?_
      refine gk_iload (pc := 112) (DX9_spell_1.at 3 rfl) 4 rfl ?_
      obtain ⟨⟨fs3, q3⟩, hv⟩ := hv
      refine gk_vV (pc := 114) [.int x2, .int x3, .int x4] [] (DX9_spell_1.at 4 rfl) cvX9_80 q3 rfl rfl (Nat.le_of_ble_eq_true rfl) (Nat.le_of_ble_eq_true rfl) (gk_Run.post (fun o h3 z => ?_) hv)
      obtain ⟨v3, rfl, hv⟩ := z
      refine gk_if_eq (pc := 117) 128 (DX9_spell_1.at 5 rfl) (by decide) (fun c => ?_) (fun c => ?_)
      · replace hv := hv.1 c
        refine gk_iinc (pc := 128) (x4 + nI 1) [(4, .int (x4 + nI 1)), (0, .ref o), (1, .ref x1), (2, .int x2), (3, .int x3)] 4 (DX9_spell_1.at 11 rfl) rfl (by rw [ci_1]) (Nat.le_of_ble_eq_true rfl) rfl ?_
        refine gk_goto (pc := 131) 89 (DX9_spell_1.at 12 rfl) (by decide) ?_
        exact gk_pick (pc := 89) [(0, .ref o), (1, .ref x1), (2, .int x2), (3, .int x3), (4, .int (x4 + nI 1))] [1, 2, 3, 4, 0] rfl hv
      · replace hv := hv.2 c
        refine gk_aload_n (pc := 120) (DX9_spell_1.at 6 rfl) 0 rfl rfl ?_
        refine gk_iload_n (pc := 121) (DX9_spell_1.at 7 rfl) 2 rfl rfl ?_
        refine gk_iload_n (pc := 122) (DX9_spell_1.at 8 rfl) 3 rfl rfl ?_
        refine gk_iload (pc := 123) (DX9_spell_1.at 9 rfl) 4 rfl ?_
        obtain ⟨⟨fs4, q4⟩, hv⟩ := hv
        refine gk_vV (pc := 125) [.int x2, .int x3, .int x4] [] (DX9_spell_1.at 10 rfl) cvX9_83 q4 rfl rfl (Nat.le_of_ble_eq_true rfl) (Nat.le_of_ble_eq_true rfl) (gk_Run.post (fun o h4 z => ?_) hv)
        obtain ⟨rfl, hv⟩ := z
        refine gk_iinc (pc := 128) (x4 + nI 1) [(4, .int (x4 + nI 1)), (0, .ref o), (1, .ref x1), (2, .int x2), (3, .int x3)] 4 (DX9_spell_1.at 11 rfl) rfl (by rw [ci_1]) (Nat.le_of_ble_eq_true rfl) rfl ?_
        refine gk_goto (pc := 131) 89 (DX9_spell_1.at 12 rfl) (by decide) ?_
        exact gk_pick (pc := 89) [(0, .ref o), (1, .ref x1), (2, .int x2), (3, .int x3), (4, .int (x4 + nI 1))] [1, 2, 3, 4, 0] rfl hv
abbrev pX9_wordEnd_2 (E : gk_E) (dd : Nat) (o : Nat) (x1 : Int32) (x2 : Int32) (h : gk_H) (K : Int32 → gk_H → Prop) : Prop := gk_G E mX9_wordEnd (dd, 0, 0) 2 [(0, .ref o), (1, .int x1), (2, .int x2)] [] h (fun o h1 => ∃ v, o = some (.int v) ∧ K v h1)
set_option maxHeartbeats 4000000 in
theorem vX9_wordEnd_0 {E : gk_E} {dd : Nat} {o : Nat} {x1 : Int32}  {h : gk_H} {K : Int32 → gk_H → Prop} (hv : pX9_wordEnd_2 E dd o x1 x1 h K) : RnI E mX9_wordEnd (dd, 0, 0) [.ref o, .int x1] h K := by
  show gk_G E mX9_wordEnd (dd, 0, 0) 0 [(0, .ref o), (1, .int x1)] [] h (fun o h1 => ∃ v, o = some (.int v) ∧ K v h1)
  refine gk_iload_n (pc := 0) (DX9_wordEnd_0.at 0 rfl) 1 rfl rfl ?_
  refine gk_istore_n (pc := 1) [(2, .int x1), (0, .ref o), (1, .int x1)] (DX9_wordEnd_0.at 1 rfl) rfl (Nat.le_of_ble_eq_true rfl) rfl ?_
  exact gk_pick (pc := 2) [(0, .ref o), (1, .int x1), (2, .int x1)] [1, 2, 0] rfl hv
set_option maxHeartbeats 4000000 in
theorem vX9_wordEnd_2 {E : gk_E} {dd : Nat} {o : Nat} {x1 : Int32} {x2 : Int32}  {h : gk_H} {K : Int32 → gk_H → Prop} (hv : LdI h o 9 0 fun v1 => (v1 ≤ x2 → K x2 h) ∧ (¬ v1 ≤ x2 → LdR h o 9 1 fun v2 => AlB h v2 x2 fun v3 => (v3 < (nI 97) → K x2 h) ∧ (¬ v3 < (nI 97) → LdR h o 9 1 fun v4 => AlB h v4 x2 fun v5 => ((nI 122) < v5 → K x2 h) ∧ (¬ (nI 122) < v5 → pX9_wordEnd_2 E dd o x1 (x2 + nI 1) h K)))) : pX9_wordEnd_2 E dd o x1 x2 h K := by
  show gk_G E mX9_wordEnd (dd, 0, 0) 2 [(0, .ref o), (1, .int x1), (2, .int x2)] [] h (fun o h1 => ∃ v, o = some (.int v) ∧ K v h1)
  refine gk_iload_n (pc := 2) (DX9_wordEnd_0.at 2 rfl) 2 rfl rfl ?_
  refine gk_aload_n (pc := 3) (DX9_wordEnd_0.at 3 rfl) 0 rfl rfl ?_
  obtain ⟨fs1, v1, q1, r1, hv⟩ := hv
  refine gk_get (pc := 4) (.int v1) (DX9_wordEnd_0.at 4 rfl) fX9_9_9 q1 r1 ?_
  refine gk_icmp_ge (pc := 7) 38 (DX9_wordEnd_0.at 5 rfl) (by decide) (fun c => ?_) (fun c => ?_)
  · replace hv := hv.1 c
    refine gk_iload_n (pc := 38) (DX9_wordEnd_0.at 20 rfl) 2 rfl rfl ?_
    exact gk_ireturn (pc := 39) .int (DX9_wordEnd_0.at 21 rfl) rfl rfl ⟨_, rfl, hv⟩
  · replace hv := hv.2 c
    refine gk_aload_n (pc := 10) (DX9_wordEnd_0.at 6 rfl) 0 rfl rfl ?_
    obtain ⟨fs2, v2, q2, r2, hv⟩ := hv
    refine gk_get (pc := 11) (.ref v2) (DX9_wordEnd_0.at 7 rfl) fX9_15_9 q2 r2 ?_
    refine gk_iload_n (pc := 14) (DX9_wordEnd_0.at 8 rfl) 2 rfl rfl ?_
    obtain ⟨n3, f3, q3, r3, hv⟩ := hv
    refine gk_bald (pc := 15) (DX9_wordEnd_0.at 9 rfl) q3 r3 ?_
    generalize f3 _ = v3 at hv ⊢
    refine gk_bipush (pc := 16) (nI 97) (DX9_wordEnd_0.at 10 rfl) cb_97 ?_
    refine gk_icmp_lt (pc := 18) 38 (DX9_wordEnd_0.at 11 rfl) (by decide) (fun c => ?_) (fun c => ?_)
    · replace hv := hv.1 c
      refine gk_iload_n (pc := 38) (DX9_wordEnd_0.at 20 rfl) 2 rfl rfl ?_
      exact gk_ireturn (pc := 39) .int (DX9_wordEnd_0.at 21 rfl) rfl rfl ⟨_, rfl, hv⟩
    · replace hv := hv.2 c
      refine gk_aload_n (pc := 21) (DX9_wordEnd_0.at 12 rfl) 0 rfl rfl ?_
      obtain ⟨fs4, v4, q4, r4, hv⟩ := hv
      refine gk_get (pc := 22) (.ref v4) (DX9_wordEnd_0.at 13 rfl) fX9_15_9 q4 r4 ?_
      refine gk_iload_n (pc := 25) (DX9_wordEnd_0.at 14 rfl) 2 rfl rfl ?_
      obtain ⟨n5, f5, q5, r5, hv⟩ := hv
      refine gk_bald (pc := 26) (DX9_wordEnd_0.at 15 rfl) q5 r5 ?_
      generalize f5 _ = v5 at hv ⊢
      refine gk_bipush (pc := 27) (nI 122) (DX9_wordEnd_0.at 16 rfl) cb_122 ?_
      refine gk_icmp_gt (pc := 29) 38 (DX9_wordEnd_0.at 17 rfl) (by decide) (fun c => ?_) (fun c => ?_)
      · replace hv := hv.1 c
        refine gk_iload_n (pc := 38) (DX9_wordEnd_0.at 20 rfl) 2 rfl rfl ?_
        exact gk_ireturn (pc := 39) .int (DX9_wordEnd_0.at 21 rfl) rfl rfl ⟨_, rfl, hv⟩
      · replace hv := hv.2 c
        refine gk_iinc (pc := 32) (x2 + nI 1) [(2, .int (x2 + nI 1)), (0, .ref o), (1, .int x1)] 2 (DX9_wordEnd_0.at 18 rfl) rfl (by rw [ci_1]) (Nat.le_of_ble_eq_true rfl) rfl ?_
        refine gk_goto (pc := 35) 2 (DX9_wordEnd_0.at 19 rfl) (by decide) ?_
        exact gk_pick (pc := 2) [(0, .ref o), (1, .int x1), (2, .int (x2 + nI 1))] [1, 2, 0] rfl hv
set_option maxHeartbeats 4000000 in
theorem vX9_wordKind_0 {E : gk_E} {dd : Nat} {o : Nat} {x1 : Int32} {x2 : Int32}  {h : gk_H} {K : Int32 → gk_H → Prop} (hv : (∃ fs, h[o]? = some (.inr (9, fs))) ∧ RnI E mX9_isWord (dd, 0, 0) [.ref o, .int x1, .int x2, .ref 1000001] h (fun v1 h1 => (v1 = 0 → (∃ fs, h1[o]? = some (.inr (9, fs))) ∧ RnI E mX9_isWord (dd, 0, 0) [.ref o, .int x1, .int x2, .ref 1000002] h1 (fun v2 h2 => (v2 = 0 → (∃ fs, h2[o]? = some (.inr (9, fs))) ∧ RnI E mX9_isWord (dd, 0, 0) [.ref o, .int x1, .int x2, .ref 1000003] h2 (fun v3 h3 => (v3 = 0 → (∃ fs, h3[o]? = some (.inr (9, fs))) ∧ RnI E mX9_isWord (dd, 0, 0) [.ref o, .int x1, .int x2, .ref 1000004] h3 (fun v4 h4 => (v4 = 0 → K ((-1)) h4) ∧ (¬ v4 = 0 → K (nI 3) h4))) ∧ (¬ v3 = 0 → K (nI 2) h3))) ∧ (¬ v2 = 0 → K (nI 1) h2))) ∧ (¬ v1 = 0 → K (nI 0) h1))) : RnI E mX9_wordKind (dd + 1, 0, 0) [.ref o, .int x1, .int x2] h K := by
  show gk_G E mX9_wordKind (dd + 1, 0, 0) 0 [(0, .ref o), (1, .int x1), (2, .int x2)] [] h (fun o h1 => ∃ v, o = some (.int v) ∧ K v h1)
  refine gk_aload_n (pc := 0) (DX9_wordKind_0.at 0 rfl) 0 rfl rfl ?_
  refine gk_iload_n (pc := 1) (DX9_wordKind_0.at 1 rfl) 1 rfl rfl ?_
  refine gk_iload_n (pc := 2) (DX9_wordKind_0.at 2 rfl) 2 rfl rfl ?_
  refine gk_ldcS (pc := 3) 0 (DX9_wordKind_0.at 3 rfl) rfl rfl rfl (by decide) ?_
  obtain ⟨⟨fs1, q1⟩, hv⟩ := hv
  refine gk_vV (pc := 5) [.int x1, .int x2, .ref 1000001] [] (DX9_wordKind_0.at 4 rfl) cvX9_39 q1 rfl rfl (Nat.le_of_ble_eq_true rfl) (Nat.le_of_ble_eq_true rfl) (gk_Run.post (fun o h1 z => ?_) hv)
  obtain ⟨v1, rfl, hv⟩ := z
  refine gk_if_eq (pc := 8) 13 (DX9_wordKind_0.at 5 rfl) (by decide) (fun c => ?_) (fun c => ?_)
  · replace hv := hv.1 c
    refine gk_aload_n (pc := 13) (DX9_wordKind_0.at 8 rfl) 0 rfl rfl ?_
    refine gk_iload_n (pc := 14) (DX9_wordKind_0.at 9 rfl) 1 rfl rfl ?_
    refine gk_iload_n (pc := 15) (DX9_wordKind_0.at 10 rfl) 2 rfl rfl ?_
    refine gk_ldcS (pc := 16) 1 (DX9_wordKind_0.at 11 rfl) rfl rfl rfl (by decide) ?_
    obtain ⟨⟨fs2, q2⟩, hv⟩ := hv
    refine gk_vV (pc := 18) [.int x1, .int x2, .ref 1000002] [] (DX9_wordKind_0.at 12 rfl) cvX9_39 q2 rfl rfl (Nat.le_of_ble_eq_true rfl) (Nat.le_of_ble_eq_true rfl) (gk_Run.post (fun o h2 z => ?_) hv)
    obtain ⟨v2, rfl, hv⟩ := z
    refine gk_if_eq (pc := 21) 26 (DX9_wordKind_0.at 13 rfl) (by decide) (fun c => ?_) (fun c => ?_)
    · replace hv := hv.1 c
      refine gk_aload_n (pc := 26) (DX9_wordKind_0.at 16 rfl) 0 rfl rfl ?_
      refine gk_iload_n (pc := 27) (DX9_wordKind_0.at 17 rfl) 1 rfl rfl ?_
      refine gk_iload_n (pc := 28) (DX9_wordKind_0.at 18 rfl) 2 rfl rfl ?_
      refine gk_ldcS (pc := 29) 2 (DX9_wordKind_0.at 19 rfl) rfl rfl rfl (by decide) ?_
      obtain ⟨⟨fs3, q3⟩, hv⟩ := hv
      refine gk_vV (pc := 31) [.int x1, .int x2, .ref 1000003] [] (DX9_wordKind_0.at 20 rfl) cvX9_39 q3 rfl rfl (Nat.le_of_ble_eq_true rfl) (Nat.le_of_ble_eq_true rfl) (gk_Run.post (fun o h3 z => ?_) hv)
      obtain ⟨v3, rfl, hv⟩ := z
      refine gk_if_eq (pc := 34) 39 (DX9_wordKind_0.at 21 rfl) (by decide) (fun c => ?_) (fun c => ?_)
      · replace hv := hv.1 c
        refine gk_aload_n (pc := 39) (DX9_wordKind_0.at 24 rfl) 0 rfl rfl ?_
        refine gk_iload_n (pc := 40) (DX9_wordKind_0.at 25 rfl) 1 rfl rfl ?_
        refine gk_iload_n (pc := 41) (DX9_wordKind_0.at 26 rfl) 2 rfl rfl ?_
        refine gk_ldcS (pc := 42) 3 (DX9_wordKind_0.at 27 rfl) rfl rfl rfl (by decide) ?_
        obtain ⟨⟨fs4, q4⟩, hv⟩ := hv
        refine gk_vV (pc := 44) [.int x1, .int x2, .ref 1000004] [] (DX9_wordKind_0.at 28 rfl) cvX9_39 q4 rfl rfl (Nat.le_of_ble_eq_true rfl) (Nat.le_of_ble_eq_true rfl) (gk_Run.post (fun o h4 z => ?_) hv)
        obtain ⟨v4, rfl, hv⟩ := z
        refine gk_if_eq (pc := 47) 54 (DX9_wordKind_0.at 29 rfl) (by decide) (fun c => ?_) (fun c => ?_)
        · replace hv := hv.1 c
          refine gk_iconst (pc := 54) ((-1)) (DX9_wordKind_0.at 32 rfl) ci_m1 ?_
          exact gk_ireturn (pc := 55) .int (DX9_wordKind_0.at 33 rfl) rfl rfl ⟨_, rfl, hv⟩
        · replace hv := hv.2 c
          refine gk_iconst (pc := 50) (nI 3) (DX9_wordKind_0.at 30 rfl) ci_3 ?_
          refine gk_goto (pc := 51) 55 (DX9_wordKind_0.at 31 rfl) (by decide) ?_
          exact gk_ireturn (pc := 55) .int (DX9_wordKind_0.at 33 rfl) rfl rfl ⟨_, rfl, hv⟩
      · replace hv := hv.2 c
        refine gk_iconst (pc := 37) (nI 2) (DX9_wordKind_0.at 22 rfl) ci_2 ?_
        exact gk_ireturn (pc := 38) .int (DX9_wordKind_0.at 23 rfl) rfl rfl ⟨_, rfl, hv⟩
    · replace hv := hv.2 c
      refine gk_iconst (pc := 24) (nI 1) (DX9_wordKind_0.at 14 rfl) ci_1 ?_
      exact gk_ireturn (pc := 25) .int (DX9_wordKind_0.at 15 rfl) rfl rfl ⟨_, rfl, hv⟩
  · replace hv := hv.2 c
    refine gk_iconst (pc := 11) (nI 0) (DX9_wordKind_0.at 6 rfl) ci_0 ?_
    exact gk_ireturn (pc := 12) .int (DX9_wordKind_0.at 7 rfl) rfl rfl ⟨_, rfl, hv⟩
set_option maxHeartbeats 4000000 in
theorem vX9_writeFigure_0 {E : gk_E} {dd : Nat} {o : Nat} {x1 : Int32}  {h : gk_H} {K : gk_H → Prop} (hv : (∃ fs, h[o]? = some (.inr (9, fs))) ∧ RnV E mX9_append (dd, 0, 0) [.ref o, .int (nI 32)] h (fun h1 => (∃ fs, h1[o]? = some (.inr (9, fs))) ∧ RnV E mX9_append (dd, 0, 0) [.ref o, .int ((nI 48) + x1)] h1 (fun h2 => K h2))) : RnV E mX9_writeFigure (dd + 1, 0, 0) [.ref o, .int x1] h K := by
  show gk_G E mX9_writeFigure (dd + 1, 0, 0) 0 [(0, .ref o), (1, .int x1)] [] h (fun o h1 => o = none ∧ K h1)
  refine gk_aload_n (pc := 0) (DX9_writeFigure_0.at 0 rfl) 0 rfl rfl ?_
  refine gk_bipush (pc := 1) (nI 32) (DX9_writeFigure_0.at 1 rfl) cb_32 ?_
  obtain ⟨⟨fs1, q1⟩, hv⟩ := hv
  refine gk_vV (pc := 3) [.int (nI 32)] [] (DX9_writeFigure_0.at 2 rfl) cvX9_89 q1 rfl rfl (Nat.le_of_ble_eq_true rfl) (Nat.le_of_ble_eq_true rfl) (gk_Run.post (fun o h1 z => ?_) hv)
  obtain ⟨rfl, hv⟩ := z
  refine gk_aload_n (pc := 6) (DX9_writeFigure_0.at 3 rfl) 0 rfl rfl ?_
  refine gk_bipush (pc := 7) (nI 48) (DX9_writeFigure_0.at 4 rfl) cb_48 ?_
  refine gk_iload_n (pc := 9) (DX9_writeFigure_0.at 5 rfl) 1 rfl rfl ?_
  refine gk_iadd (pc := 10) (DX9_writeFigure_0.at 6 rfl) ?_
  obtain ⟨⟨fs2, q2⟩, hv⟩ := hv
  refine gk_vV (pc := 11) [.int ((nI 48) + x1)] [] (DX9_writeFigure_0.at 7 rfl) cvX9_89 q2 rfl rfl (Nat.le_of_ble_eq_true rfl) (Nat.le_of_ble_eq_true rfl) (gk_Run.post (fun o h2 z => ?_) hv)
  obtain ⟨rfl, hv⟩ := z
  exact gk_return (pc := 14) (DX9_writeFigure_0.at 8 rfl) rfl ⟨rfl, hv⟩
set_option maxHeartbeats 4000000 in
theorem vX9_writeThree_0 {E : gk_E} {dd : Nat} {o : Nat} {x1 : Int32} {x2 : Int32} {x3 : Int32}  {h : gk_H} {K : gk_H → Prop} (hv : (∃ fs, h[o]? = some (.inr (9, fs))) ∧ RnV E mX9_writeWord (dd, 0, 0) [.ref o, .ref 1000006] h (fun h1 => (∃ fs, h1[o]? = some (.inr (9, fs))) ∧ RnV E mX9_writeFigure (dd, 0, 0) [.ref o, .int x1] h1 (fun h2 => (∃ fs, h2[o]? = some (.inr (9, fs))) ∧ RnV E mX9_writeFigure (dd, 0, 0) [.ref o, .int x2] h2 (fun h3 => (∃ fs, h3[o]? = some (.inr (9, fs))) ∧ RnV E mX9_writeFigure (dd, 0, 0) [.ref o, .int x3] h3 (fun h4 => K h4))))) : RnV E mX9_writeThree (dd + 1, 0, 0) [.ref o, .int x1, .int x2, .int x3] h K := by
  show gk_G E mX9_writeThree (dd + 1, 0, 0) 0 [(0, .ref o), (1, .int x1), (2, .int x2), (3, .int x3)] [] h (fun o h1 => o = none ∧ K h1)
  refine gk_aload_n (pc := 0) (DX9_writeThree_0.at 0 rfl) 0 rfl rfl ?_
  refine gk_ldcS (pc := 1) 5 (DX9_writeThree_0.at 1 rfl) rfl rfl rfl (by decide) ?_
  obtain ⟨⟨fs1, q1⟩, hv⟩ := hv
  refine gk_vV (pc := 3) [.ref 1000006] [] (DX9_writeThree_0.at 2 rfl) cvX9_59 q1 rfl rfl (Nat.le_of_ble_eq_true rfl) (Nat.le_of_ble_eq_true rfl) (gk_Run.post (fun o h1 z => ?_) hv)
  obtain ⟨rfl, hv⟩ := z
  refine gk_aload_n (pc := 6) (DX9_writeThree_0.at 3 rfl) 0 rfl rfl ?_
  refine gk_iload_n (pc := 7) (DX9_writeThree_0.at 4 rfl) 1 rfl rfl ?_
  obtain ⟨⟨fs2, q2⟩, hv⟩ := hv
  refine gk_vV (pc := 8) [.int x1] [] (DX9_writeThree_0.at 5 rfl) cvX9_66 q2 rfl rfl (Nat.le_of_ble_eq_true rfl) (Nat.le_of_ble_eq_true rfl) (gk_Run.post (fun o h2 z => ?_) hv)
  obtain ⟨rfl, hv⟩ := z
  refine gk_aload_n (pc := 11) (DX9_writeThree_0.at 6 rfl) 0 rfl rfl ?_
  refine gk_iload_n (pc := 12) (DX9_writeThree_0.at 7 rfl) 2 rfl rfl ?_
  obtain ⟨⟨fs3, q3⟩, hv⟩ := hv
  refine gk_vV (pc := 13) [.int x2] [] (DX9_writeThree_0.at 8 rfl) cvX9_66 q3 rfl rfl (Nat.le_of_ble_eq_true rfl) (Nat.le_of_ble_eq_true rfl) (gk_Run.post (fun o h3 z => ?_) hv)
  obtain ⟨rfl, hv⟩ := z
  refine gk_aload_n (pc := 16) (DX9_writeThree_0.at 9 rfl) 0 rfl rfl ?_
  refine gk_iload_n (pc := 17) (DX9_writeThree_0.at 10 rfl) 3 rfl rfl ?_
  obtain ⟨⟨fs4, q4⟩, hv⟩ := hv
  refine gk_vV (pc := 18) [.int x3] [] (DX9_writeThree_0.at 11 rfl) cvX9_66 q4 rfl rfl (Nat.le_of_ble_eq_true rfl) (Nat.le_of_ble_eq_true rfl) (gk_Run.post (fun o h4 z => ?_) hv)
  obtain ⟨rfl, hv⟩ := z
  exact gk_return (pc := 21) (DX9_writeThree_0.at 12 rfl) rfl ⟨rfl, hv⟩
abbrev pX7_become_13 (E : gk_E) (dd : Nat) (o : Nat) (x1 : Nat) (x2 : Int32) (h : gk_H) (K : gk_H → Prop) : Prop := gk_G E mX7_become (dd + 1, 0, 0) 13 [(0, .ref o), (1, .ref x1), (2, .int x2)] [] h (fun o h1 => o = none ∧ K h1)
set_option maxHeartbeats 4000000 in
theorem vX7_become_0 {E : gk_E} {dd : Nat} {o : Nat} {x1 : Nat}  {h : gk_H} {K : gk_H → Prop} (hv : LdR h o 7 0 fun v1 => LdR h x1 7 0 fun v2 => (∃ fs, h[v1]? = some (.inr (8, fs))) ∧ RnV E mX8_become (dd, 0, 0) [.ref v1, .ref v2] h (fun h3 => pX7_become_13 E dd o x1 (nI 0) h3 K)) : RnV E mX7_become (dd + 1, 0, 0) [.ref o, .ref x1] h K := by
  show gk_G E mX7_become (dd + 1, 0, 0) 0 [(0, .ref o), (1, .ref x1)] [] h (fun o h1 => o = none ∧ K h1)
  refine gk_aload_n (pc := 0) (DX7_become_0.at 0 rfl) 0 rfl rfl ?_
  obtain ⟨fs1, v1, q1, r1, hv⟩ := hv
  refine gk_get (pc := 1) (.ref v1) (DX7_become_0.at 1 rfl) fX7_12_7 q1 r1 ?_
  refine gk_aload_n (pc := 4) (DX7_become_0.at 2 rfl) 1 rfl rfl ?_
  obtain ⟨fs2, v2, q2, r2, hv⟩ := hv
  refine gk_get (pc := 5) (.ref v2) (DX7_become_0.at 3 rfl) fX7_12_7 q2 r2 ?_
  obtain ⟨⟨fs3, q3⟩, hv⟩ := hv
  refine gk_vV (pc := 8) [.ref v2] [] (DX7_become_0.at 4 rfl) cvX7_37 q3 rfl rfl (Nat.le_of_ble_eq_true rfl) (Nat.le_of_ble_eq_true rfl) (gk_Run.post (fun o h3 z => ?_) hv)
  obtain ⟨rfl, hv⟩ := z
  refine gk_iconst (pc := 11) (nI 0) (DX7_become_0.at 5 rfl) ci_0 ?_
  refine gk_istore_n (pc := 12) [(2, .int (nI 0)), (0, .ref o), (1, .ref x1)] (DX7_become_0.at 6 rfl) rfl (Nat.le_of_ble_eq_true rfl) rfl ?_
  exact gk_pick (pc := 13) [(0, .ref o), (1, .ref x1), (2, .int (nI 0))] [1, 2, 0] rfl hv
set_option maxHeartbeats 4000000 in
theorem vX7_become_13 {E : gk_E} {dd : Nat} {o : Nat} {x1 : Nat} {x2 : Int32}  {h : gk_H} {K : gk_H → Prop} (hv : ((nI 3) ≤ x2 → LdR h o 7 2 fun v1 => LdR h x1 7 2 fun v2 => (∃ fs, h[v1]? = some (.inr (3, fs))) ∧ RnV E mX3_become (dd, 0, 0) [.ref v1, .ref v2] h (fun h3 => LdI h3 x1 7 3 fun v4 => StZ h3 o 7 3 v4 fun h5 => K h5)) ∧ (¬ (nI 3) ≤ x2 → LdR h o 7 1 fun v6 => AlR 5 h v6 x2 fun v7 => LdR h x1 7 1 fun v8 => AlR 5 h v8 x2 fun v9 => (∃ fs, h[v7]? = some (.inr (3, fs))) ∧ RnV E mX3_become (dd, 0, 0) [.ref v7, .ref v9] h (fun h10 => pX7_become_13 E dd o x1 (x2 + nI 1) h10 K))) : pX7_become_13 E dd o x1 x2 h K := by
  show gk_G E mX7_become (dd + 1, 0, 0) 13 [(0, .ref o), (1, .ref x1), (2, .int x2)] [] h (fun o h1 => o = none ∧ K h1)
  refine gk_iload_n (pc := 13) (DX7_become_0.at 7 rfl) 2 rfl rfl ?_
  refine gk_iconst (pc := 14) (nI 3) (DX7_become_0.at 8 rfl) ci_3 ?_
  refine gk_icmp_ge (pc := 15) 39 (DX7_become_0.at 9 rfl) (by decide) (fun c => ?_) (fun c => ?_)
  · replace hv := hv.1 c
    refine gk_aload_n (pc := 39) (DX7_become_0.at 21 rfl) 0 rfl rfl ?_
    obtain ⟨fs1, v1, q1, r1, hv⟩ := hv
    refine gk_get (pc := 40) (.ref v1) (DX7_become_0.at 22 rfl) fX7_25_7 q1 r1 ?_
    refine gk_aload_n (pc := 43) (DX7_become_0.at 23 rfl) 1 rfl rfl ?_
    obtain ⟨fs2, v2, q2, r2, hv⟩ := hv
    refine gk_get (pc := 44) (.ref v2) (DX7_become_0.at 24 rfl) fX7_25_7 q2 r2 ?_
    obtain ⟨⟨fs3, q3⟩, hv⟩ := hv
    refine gk_vV (pc := 47) [.ref v2] [] (DX7_become_0.at 25 rfl) cvX7_41 q3 rfl rfl (Nat.le_of_ble_eq_true rfl) (Nat.le_of_ble_eq_true rfl) (gk_Run.post (fun o h3 z => ?_) hv)
    obtain ⟨rfl, hv⟩ := z
    refine gk_aload_n (pc := 50) (DX7_become_0.at 26 rfl) 0 rfl rfl ?_
    refine gk_aload_n (pc := 51) (DX7_become_0.at 27 rfl) 1 rfl rfl ?_
    obtain ⟨fs4, v4, q4, r4, hv⟩ := hv
    refine gk_get (pc := 52) (.int v4) (DX7_become_0.at 28 rfl) fX7_29_7 q4 r4 ?_
    obtain ⟨b5, fs5, q5, r5, hv⟩ := hv
    refine gk_put (pc := 55) (DX7_become_0.at 29 rfl) fX7_29_7w q5 r5 (bz_n b5) (bz_f b5) ?_
    generalize h3.set _ _ = h5 at hv ⊢
    exact gk_return (pc := 58) (DX7_become_0.at 30 rfl) rfl ⟨rfl, hv⟩
  · replace hv := hv.2 c
    refine gk_aload_n (pc := 18) (DX7_become_0.at 10 rfl) 0 rfl rfl ?_
    obtain ⟨fs6, v6, q6, r6, hv⟩ := hv
    refine gk_get (pc := 19) (.ref v6) (DX7_become_0.at 11 rfl) fX7_20_7 q6 r6 ?_
    refine gk_iload_n (pc := 22) (DX7_become_0.at 12 rfl) 2 rfl rfl ?_
    obtain ⟨n7, f7, v7, q7, r7, e7, hv⟩ := hv
    refine gk_aald5 (pc := 23) v7 (DX7_become_0.at 13 rfl) q7 r7 e7 ?_
    refine gk_aload_n (pc := 24) (DX7_become_0.at 14 rfl) 1 rfl rfl ?_
    obtain ⟨fs8, v8, q8, r8, hv⟩ := hv
    refine gk_get (pc := 25) (.ref v8) (DX7_become_0.at 15 rfl) fX7_20_7 q8 r8 ?_
    refine gk_iload_n (pc := 28) (DX7_become_0.at 16 rfl) 2 rfl rfl ?_
    obtain ⟨n9, f9, v9, q9, r9, e9, hv⟩ := hv
    refine gk_aald5 (pc := 29) v9 (DX7_become_0.at 17 rfl) q9 r9 e9 ?_
    obtain ⟨⟨fs10, q10⟩, hv⟩ := hv
    refine gk_vV (pc := 30) [.ref v9] [] (DX7_become_0.at 18 rfl) cvX7_41 q10 rfl rfl (Nat.le_of_ble_eq_true rfl) (Nat.le_of_ble_eq_true rfl) (gk_Run.post (fun o h10 z => ?_) hv)
    obtain ⟨rfl, hv⟩ := z
    refine gk_iinc (pc := 33) (x2 + nI 1) [(2, .int (x2 + nI 1)), (0, .ref o), (1, .ref x1)] 2 (DX7_become_0.at 19 rfl) rfl (by rw [ci_1]) (Nat.le_of_ble_eq_true rfl) rfl ?_
    refine gk_goto (pc := 36) 13 (DX7_become_0.at 20 rfl) (by decide) ?_
    exact gk_pick (pc := 13) [(0, .ref o), (1, .ref x1), (2, .int (x2 + nI 1))] [1, 2, 0] rfl hv
abbrev pX7_clearNets_2 (E : gk_E) (dd : Nat) (o : Nat) (x1 : Int32) (h : gk_H) (K : gk_H → Prop) : Prop := gk_G E mX7_clearNets (dd, 0, 0) 2 [(0, .ref o), (1, .int x1)] [] h (fun o h1 => o = none ∧ K h1)
set_option maxHeartbeats 4000000 in
theorem vX7_clearNets_0 {E : gk_E} {dd : Nat} {o : Nat}  {h : gk_H} {K : gk_H → Prop} (hv : pX7_clearNets_2 E dd o (nI 0) h K) : RnV E mX7_clearNets (dd, 0, 0) [.ref o] h K := by
  show gk_G E mX7_clearNets (dd, 0, 0) 0 [(0, .ref o)] [] h (fun o h1 => o = none ∧ K h1)
  refine gk_iconst (pc := 0) (nI 0) (DX7_clearNets_0.at 0 rfl) ci_0 ?_
  refine gk_istore_n (pc := 1) [(1, .int (nI 0)), (0, .ref o)] (DX7_clearNets_0.at 1 rfl) rfl (Nat.le_of_ble_eq_true rfl) rfl ?_
  exact gk_pick (pc := 2) [(0, .ref o), (1, .int (nI 0))] [1, 0] rfl hv
set_option maxHeartbeats 4000000 in
theorem vX7_clearNets_2 {E : gk_E} {dd : Nat} {o : Nat} {x1 : Int32}  {h : gk_H} {K : gk_H → Prop} (hv : ((nI 3) ≤ x1 → StI h o 7 3 (nI 0) fun h1 => K h1) ∧ (¬ (nI 3) ≤ x1 → LdR h o 7 1 fun v2 => AlR 5 h v2 x1 fun v3 => StI h v3 3 0 (nI 0) fun h4 => pX7_clearNets_2 E dd o (x1 + nI 1) h4 K)) : pX7_clearNets_2 E dd o x1 h K := by
  show gk_G E mX7_clearNets (dd, 0, 0) 2 [(0, .ref o), (1, .int x1)] [] h (fun o h1 => o = none ∧ K h1)
  refine gk_iload_n (pc := 2) (DX7_clearNets_0.at 2 rfl) 1 rfl rfl ?_
  refine gk_iconst (pc := 3) (nI 3) (DX7_clearNets_0.at 3 rfl) ci_3 ?_
  refine gk_icmp_ge (pc := 4) 23 (DX7_clearNets_0.at 4 rfl) (by decide) (fun c => ?_) (fun c => ?_)
  · replace hv := hv.1 c
    refine gk_aload_n (pc := 23) (DX7_clearNets_0.at 13 rfl) 0 rfl rfl ?_
    refine gk_iconst (pc := 24) (nI 0) (DX7_clearNets_0.at 14 rfl) ci_0 ?_
    obtain ⟨fs1, q1, r1, hv⟩ := hv
    refine gk_put (pc := 25) (DX7_clearNets_0.at 15 rfl) fX7_29_7w q1 r1 rfl rfl ?_
    generalize h.set _ _ = h1 at hv ⊢
    exact gk_return (pc := 28) (DX7_clearNets_0.at 16 rfl) rfl ⟨rfl, hv⟩
  · replace hv := hv.2 c
    refine gk_aload_n (pc := 7) (DX7_clearNets_0.at 5 rfl) 0 rfl rfl ?_
    obtain ⟨fs2, v2, q2, r2, hv⟩ := hv
    refine gk_get (pc := 8) (.ref v2) (DX7_clearNets_0.at 6 rfl) fX7_20_7 q2 r2 ?_
    refine gk_iload_n (pc := 11) (DX7_clearNets_0.at 7 rfl) 1 rfl rfl ?_
    obtain ⟨n3, f3, v3, q3, r3, e3, hv⟩ := hv
    refine gk_aald5 (pc := 12) v3 (DX7_clearNets_0.at 8 rfl) q3 r3 e3 ?_
    refine gk_iconst (pc := 13) (nI 0) (DX7_clearNets_0.at 9 rfl) ci_0 ?_
    obtain ⟨fs4, q4, r4, hv⟩ := hv
    refine gk_put (pc := 14) (DX7_clearNets_0.at 10 rfl) fX7_33_3w q4 r4 rfl rfl ?_
    generalize h.set _ _ = h4 at hv ⊢
    refine gk_iinc (pc := 17) (x1 + nI 1) [(1, .int (x1 + nI 1)), (0, .ref o)] 1 (DX7_clearNets_0.at 11 rfl) rfl (by rw [ci_1]) (Nat.le_of_ble_eq_true rfl) rfl ?_
    refine gk_goto (pc := 20) 2 (DX7_clearNets_0.at 12 rfl) (by decide) ?_
    exact gk_pick (pc := 2) [(0, .ref o), (1, .int (x1 + nI 1))] [1, 0] rfl hv
abbrev pX0_append_17 (E : gk_E) (dd : Nat) (o : Nat) (x1 : Int32) (x2 : Int32) (x3 : Int32) (x4 : Int32) (h : gk_H) (K : gk_H → Prop) : Prop := gk_G E mX0_append (dd + 1, 0, 0) 17 [(0, .ref o), (1, .int x1), (2, .int x2), (3, .int x3), (4, .int x4)] [] h (fun o h1 => o = none ∧ K h1)
set_option maxHeartbeats 4000000 in
theorem vX0_append_0 {E : gk_E} {dd : Nat} {o : Nat} {x1 : Int32} {x2 : Int32}  {h : gk_H} {K : gk_H → Prop} (hv : LdR h o 0 2 fun v1 => LdR h o 0 0 fun v2 => (∃ fs, h[v1]? = some (.inr (3, fs))) ∧ RnI E mX3_open (dd, 0, 0) [.ref v1, .ref v2, .int x1, .int x2] h (fun v3 h3 => pX0_append_17 E dd o x1 x2 v3 (nI 0) h3 K)) : RnV E mX0_append (dd + 1, 0, 0) [.ref o, .int x1, .int x2] h K := by
  show gk_G E mX0_append (dd + 1, 0, 0) 0 [(0, .ref o), (1, .int x1), (2, .int x2)] [] h (fun o h1 => o = none ∧ K h1)
  refine gk_aload_n (pc := 0) (DX0_append_0.at 0 rfl) 0 rfl rfl ?_
  obtain ⟨fs1, v1, q1, r1, hv⟩ := hv
  refine gk_get (pc := 1) (.ref v1) (DX0_append_0.at 1 rfl) fX0_18_0 q1 r1 ?_
  refine gk_aload_n (pc := 4) (DX0_append_0.at 2 rfl) 0 rfl rfl ?_
  obtain ⟨fs2, v2, q2, r2, hv⟩ := hv
  refine gk_get (pc := 5) (.ref v2) (DX0_append_0.at 3 rfl) fX0_33_0 q2 r2 ?_
  refine gk_iload_n (pc := 8) (DX0_append_0.at 4 rfl) 1 rfl rfl ?_
  refine gk_iload_n (pc := 9) (DX0_append_0.at 5 rfl) 2 rfl rfl ?_
  obtain ⟨⟨fs3, q3⟩, hv⟩ := hv
  refine gk_vV (pc := 10) [.ref v2, .int x1, .int x2] [] (DX0_append_0.at 6 rfl) cvX0_48 q3 rfl rfl (Nat.le_of_ble_eq_true rfl) (Nat.le_of_ble_eq_true rfl) (gk_Run.post (fun o h3 z => ?_) hv)
  obtain ⟨v3, rfl, hv⟩ := z
  refine gk_istore_n (pc := 13) [(3, .int v3), (0, .ref o), (1, .int x1), (2, .int x2)] (DX0_append_0.at 7 rfl) rfl (Nat.le_of_ble_eq_true rfl) rfl ?_
  refine gk_iconst (pc := 14) (nI 0) (DX0_append_0.at 8 rfl) ci_0 ?_
  refine gk_istore (pc := 15) [(4, .int (nI 0)), (3, .int v3), (0, .ref o), (1, .int x1), (2, .int x2)] (DX0_append_0.at 9 rfl) (Nat.le_of_ble_eq_true rfl) rfl ?_
  exact gk_pick (pc := 17) [(0, .ref o), (1, .int x1), (2, .int x2), (3, .int v3), (4, .int (nI 0))] [2, 3, 4, 1, 0] rfl hv
set_option maxHeartbeats 4000000 in
theorem vX0_append_17 {E : gk_E} {dd : Nat} {o : Nat} {x1 : Int32} {x2 : Int32} {x3 : Int32} {x4 : Int32}  {h : gk_H} {K : gk_H → Prop} (hv : ((nI 16) ≤ x4 → K h) ∧ (¬ (nI 16) ≤ x4 → LdI h o 0 4 fun v1 => ((nI 153) ≤ v1 → K h) ∧ (¬ (nI 153) ≤ v1 → (¬ ((x3 >>> (x4 &&& 31)) &&& (nI 1)) = (nI 1) → pX0_append_17 E dd o x1 x2 x3 (x4 + nI 1) h K) ∧ (((x3 >>> (x4 &&& 31)) &&& (nI 1)) = (nI 1) → LdR h o 0 3 fun v2 => LdI h o 0 4 fun v3 => RnI E mX3_gapNumber (dd, 0, 0) [.int x1, .int x2, .int x4] h (fun v4 h4 => AsI h4 v2 v3 v4 fun h5 => LdI h5 o 0 4 fun v6 => StI h5 o 0 4 (v6 + (nI 1)) fun h7 => pX0_append_17 E dd o x1 x2 x3 (x4 + nI 1) h7 K))))) : pX0_append_17 E dd o x1 x2 x3 x4 h K := by
  show gk_G E mX0_append (dd + 1, 0, 0) 17 [(0, .ref o), (1, .int x1), (2, .int x2), (3, .int x3), (4, .int x4)] [] h (fun o h1 => o = none ∧ K h1)
  refine gk_iload (pc := 17) (DX0_append_0.at 10 rfl) 4 rfl ?_
  refine gk_bipush (pc := 19) (nI 16) (DX0_append_0.at 11 rfl) cb_16 ?_
  refine gk_icmp_ge (pc := 21) 76 (DX0_append_0.at 12 rfl) (by decide) (fun c => ?_) (fun c => ?_)
  · replace hv := hv.1 c
    exact gk_return (pc := 76) (DX0_append_0.at 41 rfl) rfl ⟨rfl, hv⟩
  · replace hv := hv.2 c
    refine gk_aload_n (pc := 24) (DX0_append_0.at 13 rfl) 0 rfl rfl ?_
    obtain ⟨fs1, v1, q1, r1, hv⟩ := hv
    refine gk_get (pc := 25) (.int v1) (DX0_append_0.at 14 rfl) fX0_26_0 q1 r1 ?_
    refine gk_sipush (pc := 28) (nI 153) (DX0_append_0.at 15 rfl) cs_153 ?_
    refine gk_icmp_ge (pc := 31) 76 (DX0_append_0.at 16 rfl) (by decide) (fun c => ?_) (fun c => ?_)
    · replace hv := hv.1 c
      exact gk_return (pc := 76) (DX0_append_0.at 41 rfl) rfl ⟨rfl, hv⟩
    · replace hv := hv.2 c
      refine gk_iload_n (pc := 34) (DX0_append_0.at 17 rfl) 3 rfl rfl ?_
      refine gk_iload (pc := 35) (DX0_append_0.at 18 rfl) 4 rfl ?_
      refine gk_ishr (pc := 37) (DX0_append_0.at 19 rfl) ?_
      refine gk_iconst (pc := 38) (nI 1) (DX0_append_0.at 20 rfl) ci_1 ?_
      refine gk_iand (pc := 39) (DX0_append_0.at 21 rfl) ?_
      refine gk_iconst (pc := 40) (nI 1) (DX0_append_0.at 22 rfl) ci_1 ?_
      refine gk_icmp_ne (pc := 41) 70 (DX0_append_0.at 23 rfl) (by decide) (fun c => ?_) (fun c => ?_)
      · replace hv := hv.1 c
        refine gk_iinc (pc := 70) (x4 + nI 1) [(4, .int (x4 + nI 1)), (0, .ref o), (1, .int x1), (2, .int x2), (3, .int x3)] 4 (DX0_append_0.at 39 rfl) rfl (by rw [ci_1]) (Nat.le_of_ble_eq_true rfl) rfl ?_
        refine gk_goto (pc := 73) 17 (DX0_append_0.at 40 rfl) (by decide) ?_
        exact gk_pick (pc := 17) [(0, .ref o), (1, .int x1), (2, .int x2), (3, .int x3), (4, .int (x4 + nI 1))] [1, 2, 3, 4, 0] rfl hv
      · replace hv := hv.2 c
        refine gk_aload_n (pc := 44) (DX0_append_0.at 24 rfl) 0 rfl rfl ?_
        obtain ⟨fs2, v2, q2, r2, hv⟩ := hv
        refine gk_get (pc := 45) (.ref v2) (DX0_append_0.at 25 rfl) fX0_22_0 q2 r2 ?_
        refine gk_aload_n (pc := 48) (DX0_append_0.at 26 rfl) 0 rfl rfl ?_
        obtain ⟨fs3, v3, q3, r3, hv⟩ := hv
        refine gk_get (pc := 49) (.int v3) (DX0_append_0.at 27 rfl) fX0_26_0 q3 r3 ?_
        refine gk_iload_n (pc := 52) (DX0_append_0.at 28 rfl) 1 rfl rfl ?_
        refine gk_iload_n (pc := 53) (DX0_append_0.at 29 rfl) 2 rfl rfl ?_
        refine gk_iload (pc := 54) (DX0_append_0.at 30 rfl) 4 rfl ?_
        refine gk_vS (pc := 56) [.int x1, .int x2, .int x4] [.int v3, .ref v2] (DX0_append_0.at 31 rfl) csX0_52 rfl rfl (Nat.le_of_ble_eq_true rfl) (Nat.le_of_ble_eq_true rfl) (gk_Run.post (fun o h4 z => ?_) hv)
        obtain ⟨v4, rfl, hv⟩ := z
        obtain ⟨n5, f5, q5, r5, hv⟩ := hv
        refine gk_iast (pc := 59) (DX0_append_0.at 32 rfl) q5 r5 ?_
        generalize h4.set _ _ = h5 at hv ⊢
        refine gk_aload_n (pc := 60) (DX0_append_0.at 33 rfl) 0 rfl rfl ?_
        refine gk_dup (pc := 61) (DX0_append_0.at 34 rfl) rfl ?_
        obtain ⟨fs6, v6, q6, r6, hv⟩ := hv
        refine gk_get (pc := 62) (.int v6) (DX0_append_0.at 35 rfl) fX0_26_0 q6 r6 ?_
        refine gk_iconst (pc := 65) (nI 1) (DX0_append_0.at 36 rfl) ci_1 ?_
        refine gk_iadd (pc := 66) (DX0_append_0.at 37 rfl) ?_
        obtain ⟨fs7, q7, r7, hv⟩ := hv
        refine gk_put (pc := 67) (DX0_append_0.at 38 rfl) fX0_26_0w q7 r7 rfl rfl ?_
        generalize h5.set _ _ = h7 at hv ⊢
        refine gk_iinc (pc := 70) (x4 + nI 1) [(4, .int (x4 + nI 1)), (0, .ref o), (1, .int x1), (2, .int x2), (3, .int x3)] 4 (DX0_append_0.at 39 rfl) rfl (by rw [ci_1]) (Nat.le_of_ble_eq_true rfl) rfl ?_
        refine gk_goto (pc := 73) 17 (DX0_append_0.at 40 rfl) (by decide) ?_
        exact gk_pick (pc := 17) [(0, .ref o), (1, .int x1), (2, .int x2), (3, .int x3), (4, .int (x4 + nI 1))] [1, 2, 3, 4, 0] rfl hv
abbrev pX0_dropClosed_4 (E : gk_E) (dd : Nat) (o : Nat) (x1 : Int32) (x2 : Int32) (h : gk_H) (K : gk_H → Prop) : Prop := gk_G E mX0_dropClosed (dd + 1, 0, 0) 4 [(0, .ref o), (1, .int x1), (2, .int x2)] [] h (fun o h1 => o = none ∧ K h1)
set_option maxHeartbeats 4000000 in
theorem vX0_dropClosed_0 {E : gk_E} {dd : Nat} {o : Nat}  {h : gk_H} {K : gk_H → Prop} (hv : pX0_dropClosed_4 E dd o (nI 0) (nI 0) h K) : RnV E mX0_dropClosed (dd + 1, 0, 0) [.ref o] h K := by
  show gk_G E mX0_dropClosed (dd + 1, 0, 0) 0 [(0, .ref o)] [] h (fun o h1 => o = none ∧ K h1)
  refine gk_iconst (pc := 0) (nI 0) (DX0_dropClosed_0.at 0 rfl) ci_0 ?_
  refine gk_istore_n (pc := 1) [(1, .int (nI 0)), (0, .ref o)] (DX0_dropClosed_0.at 1 rfl) rfl (Nat.le_of_ble_eq_true rfl) rfl ?_
  refine gk_iconst (pc := 2) (nI 0) (DX0_dropClosed_0.at 2 rfl) ci_0 ?_
  refine gk_istore_n (pc := 3) [(2, .int (nI 0)), (1, .int (nI 0)), (0, .ref o)] (DX0_dropClosed_0.at 3 rfl) rfl (Nat.le_of_ble_eq_true rfl) rfl ?_
  exact gk_pick (pc := 4) [(0, .ref o), (1, .int (nI 0)), (2, .int (nI 0))] [2, 1, 0] rfl hv
set_option maxHeartbeats 4000000 in
theorem vX0_dropClosed_4 {E : gk_E} {dd : Nat} {o : Nat} {x1 : Int32} {x2 : Int32}  {h : gk_H} {K : gk_H → Prop} (hv : LdI h o 0 4 fun v1 => (v1 ≤ x2 → StI h o 0 4 x1 fun h2 => K h2) ∧ (¬ v1 ≤ x2 → LdR h o 0 2 fun v3 => LdR h o 0 0 fun v4 => LdR h o 0 3 fun v5 => AlI h v5 x2 fun v6 => (∃ fs, h[v3]? = some (.inr (3, fs))) ∧ RnI E mX3_lacks (dd, 0, 0) [.ref v3, .ref v4, .int v6] h (fun v7 h7 => (v7 = 0 → pX0_dropClosed_4 E dd o x1 (x2 + nI 1) h7 K) ∧ (¬ v7 = 0 → LdR h7 o 0 3 fun v8 => LdR h7 o 0 3 fun v9 => AlI h7 v9 x2 fun v10 => AsI h7 v8 x1 v10 fun h11 => pX0_dropClosed_4 E dd o (x1 + nI 1) (x2 + nI 1) h11 K)))) : pX0_dropClosed_4 E dd o x1 x2 h K := by
  show gk_G E mX0_dropClosed (dd + 1, 0, 0) 4 [(0, .ref o), (1, .int x1), (2, .int x2)] [] h (fun o h1 => o = none ∧ K h1)
  refine gk_iload_n (pc := 4) (DX0_dropClosed_0.at 4 rfl) 2 rfl rfl ?_
  refine gk_aload_n (pc := 5) (DX0_dropClosed_0.at 5 rfl) 0 rfl rfl ?_
  obtain ⟨fs1, v1, q1, r1, hv⟩ := hv
  refine gk_get (pc := 6) (.int v1) (DX0_dropClosed_0.at 6 rfl) fX0_26_0 q1 r1 ?_
  refine gk_icmp_ge (pc := 9) 53 (DX0_dropClosed_0.at 7 rfl) (by decide) (fun c => ?_) (fun c => ?_)
  · replace hv := hv.1 c
    refine gk_aload_n (pc := 53) (DX0_dropClosed_0.at 29 rfl) 0 rfl rfl ?_
    refine gk_iload_n (pc := 54) (DX0_dropClosed_0.at 30 rfl) 1 rfl rfl ?_
    obtain ⟨fs2, q2, r2, hv⟩ := hv
    refine gk_put (pc := 55) (DX0_dropClosed_0.at 31 rfl) fX0_26_0w q2 r2 rfl rfl ?_
    generalize h.set _ _ = h2 at hv ⊢
    exact gk_return (pc := 58) (DX0_dropClosed_0.at 32 rfl) rfl ⟨rfl, hv⟩
  · replace hv := hv.2 c
    refine gk_aload_n (pc := 12) (DX0_dropClosed_0.at 8 rfl) 0 rfl rfl ?_
    obtain ⟨fs3, v3, q3, r3, hv⟩ := hv
    refine gk_get (pc := 13) (.ref v3) (DX0_dropClosed_0.at 9 rfl) fX0_18_0 q3 r3 ?_
    refine gk_aload_n (pc := 16) (DX0_dropClosed_0.at 10 rfl) 0 rfl rfl ?_
    obtain ⟨fs4, v4, q4, r4, hv⟩ := hv
    refine gk_get (pc := 17) (.ref v4) (DX0_dropClosed_0.at 11 rfl) fX0_33_0 q4 r4 ?_
    refine gk_aload_n (pc := 20) (DX0_dropClosed_0.at 12 rfl) 0 rfl rfl ?_
    obtain ⟨fs5, v5, q5, r5, hv⟩ := hv
    refine gk_get (pc := 21) (.ref v5) (DX0_dropClosed_0.at 13 rfl) fX0_22_0 q5 r5 ?_
    refine gk_iload_n (pc := 24) (DX0_dropClosed_0.at 14 rfl) 2 rfl rfl ?_
    obtain ⟨n6, f6, q6, r6, hv⟩ := hv
    refine gk_iald (pc := 25) (DX0_dropClosed_0.at 15 rfl) q6 r6 ?_
    generalize f6 _ = v6 at hv ⊢
    obtain ⟨⟨fs7, q7⟩, hv⟩ := hv
    refine gk_vV (pc := 26) [.ref v4, .int v6] [] (DX0_dropClosed_0.at 16 rfl) cvX0_63 q7 rfl rfl (Nat.le_of_ble_eq_true rfl) (Nat.le_of_ble_eq_true rfl) (gk_Run.post (fun o h7 z => ?_) hv)
    obtain ⟨v7, rfl, hv⟩ := z
    refine gk_if_eq (pc := 29) 47 (DX0_dropClosed_0.at 17 rfl) (by decide) (fun c => ?_) (fun c => ?_)
    · replace hv := hv.1 c
      refine gk_iinc (pc := 47) (x2 + nI 1) [(2, .int (x2 + nI 1)), (0, .ref o), (1, .int x1)] 2 (DX0_dropClosed_0.at 27 rfl) rfl (by rw [ci_1]) (Nat.le_of_ble_eq_true rfl) rfl ?_
      refine gk_goto (pc := 50) 4 (DX0_dropClosed_0.at 28 rfl) (by decide) ?_
      exact gk_pick (pc := 4) [(0, .ref o), (1, .int x1), (2, .int (x2 + nI 1))] [1, 2, 0] rfl hv
    · replace hv := hv.2 c
      refine gk_aload_n (pc := 32) (DX0_dropClosed_0.at 18 rfl) 0 rfl rfl ?_
      obtain ⟨fs8, v8, q8, r8, hv⟩ := hv
      refine gk_get (pc := 33) (.ref v8) (DX0_dropClosed_0.at 19 rfl) fX0_22_0 q8 r8 ?_
      refine gk_iload_n (pc := 36) (DX0_dropClosed_0.at 20 rfl) 1 rfl rfl ?_
      refine gk_aload_n (pc := 37) (DX0_dropClosed_0.at 21 rfl) 0 rfl rfl ?_
      obtain ⟨fs9, v9, q9, r9, hv⟩ := hv
      refine gk_get (pc := 38) (.ref v9) (DX0_dropClosed_0.at 22 rfl) fX0_22_0 q9 r9 ?_
      refine gk_iload_n (pc := 41) (DX0_dropClosed_0.at 23 rfl) 2 rfl rfl ?_
      obtain ⟨n10, f10, q10, r10, hv⟩ := hv
      refine gk_iald (pc := 42) (DX0_dropClosed_0.at 24 rfl) q10 r10 ?_
      generalize f10 _ = v10 at hv ⊢
      obtain ⟨n11, f11, q11, r11, hv⟩ := hv
      refine gk_iast (pc := 43) (DX0_dropClosed_0.at 25 rfl) q11 r11 ?_
      generalize h7.set _ _ = h11 at hv ⊢
      refine gk_iinc (pc := 44) (x1 + nI 1) [(1, .int (x1 + nI 1)), (0, .ref o), (2, .int x2)] 1 (DX0_dropClosed_0.at 26 rfl) rfl (by rw [ci_1]) (Nat.le_of_ble_eq_true rfl) rfl ?_
      refine gk_iinc (pc := 47) (x2 + nI 1) [(2, .int (x2 + nI 1)), (1, .int (x1 + nI 1)), (0, .ref o)] 2 (DX0_dropClosed_0.at 27 rfl) rfl (by rw [ci_1]) (Nat.le_of_ble_eq_true rfl) rfl ?_
      refine gk_goto (pc := 50) 4 (DX0_dropClosed_0.at 28 rfl) (by decide) ?_
      exact gk_pick (pc := 4) [(0, .ref o), (1, .int (x1 + nI 1)), (2, .int (x2 + nI 1))] [2, 1, 0] rfl hv
abbrev pX0_extend_38 (E : gk_E) (dd : Nat) (o : Nat) (x1 : Nat) (x2 : Int32) (x3 : Int32) (h : gk_H) (K : gk_H → Prop) : Prop := gk_G E mX0_extend (dd + 1, 0, 0) 38 [(0, .ref o), (1, .ref x1), (2, .int x2), (3, .int x3)] [] h (fun o h1 => o = none ∧ K h1)
set_option maxHeartbeats 4000000 in
theorem vX0_extend_0 {E : gk_E} {dd : Nat} {o : Nat} {x1 : Nat}  {h : gk_H} {K : gk_H → Prop} (hv : LdR h o 0 2 fun v1 => LdR h o 0 0 fun v2 => (∃ fs, h[v1]? = some (.inr (3, fs))) ∧ RnV E mX3_grow (dd, 0, 0) [.ref v1, .ref x1, .ref v2] h (fun h3 => LdI h3 o 0 5 fun v4 => StI h3 o 0 5 (v4 + (nI 1)) fun h5 => (∃ fs, h5[o]? = some (.inr (0, fs))) ∧ RnV E mX0_dropClosed (dd, 0, 0) [.ref o] h5 (fun h6 => LdR h6 o 0 2 fun v7 => LdI h6 v7 3 0 fun v8 => pX0_extend_38 E dd o x1 (v8 - (nI 1)) (nI 0) h6 K))) : RnV E mX0_extend (dd + 1, 0, 0) [.ref o, .ref x1] h K := by
  show gk_G E mX0_extend (dd + 1, 0, 0) 0 [(0, .ref o), (1, .ref x1)] [] h (fun o h1 => o = none ∧ K h1)
  refine gk_aload_n (pc := 0) (DX0_extend_0.at 0 rfl) 0 rfl rfl ?_
  obtain ⟨fs1, v1, q1, r1, hv⟩ := hv
  refine gk_get (pc := 1) (.ref v1) (DX0_extend_0.at 1 rfl) fX0_18_0 q1 r1 ?_
  refine gk_aload_n (pc := 4) (DX0_extend_0.at 2 rfl) 1 rfl rfl ?_
  refine gk_aload_n (pc := 5) (DX0_extend_0.at 3 rfl) 0 rfl rfl ?_
  obtain ⟨fs2, v2, q2, r2, hv⟩ := hv
  refine gk_get (pc := 6) (.ref v2) (DX0_extend_0.at 4 rfl) fX0_33_0 q2 r2 ?_
  obtain ⟨⟨fs3, q3⟩, hv⟩ := hv
  refine gk_vV (pc := 9) [.ref x1, .ref v2] [] (DX0_extend_0.at 5 rfl) cvX0_56 q3 rfl rfl (Nat.le_of_ble_eq_true rfl) (Nat.le_of_ble_eq_true rfl) (gk_Run.post (fun o h3 z => ?_) hv)
  obtain ⟨rfl, hv⟩ := z
  refine gk_aload_n (pc := 12) (DX0_extend_0.at 6 rfl) 0 rfl rfl ?_
  refine gk_dup (pc := 13) (DX0_extend_0.at 7 rfl) rfl ?_
  obtain ⟨fs4, v4, q4, r4, hv⟩ := hv
  refine gk_get (pc := 14) (.int v4) (DX0_extend_0.at 8 rfl) fX0_30_0 q4 r4 ?_
  refine gk_iconst (pc := 17) (nI 1) (DX0_extend_0.at 9 rfl) ci_1 ?_
  refine gk_iadd (pc := 18) (DX0_extend_0.at 10 rfl) ?_
  obtain ⟨fs5, q5, r5, hv⟩ := hv
  refine gk_put (pc := 19) (DX0_extend_0.at 11 rfl) fX0_30_0w q5 r5 rfl rfl ?_
  generalize h3.set _ _ = h5 at hv ⊢
  refine gk_aload_n (pc := 22) (DX0_extend_0.at 12 rfl) 0 rfl rfl ?_
  obtain ⟨⟨fs6, q6⟩, hv⟩ := hv
  refine gk_vV (pc := 23) [] [] (DX0_extend_0.at 13 rfl) cvX0_60 q6 rfl rfl (Nat.le_of_ble_eq_true rfl) (Nat.le_of_ble_eq_true rfl) (gk_Run.post (fun o h6 z => ?_) hv)
  obtain ⟨rfl, hv⟩ := z
  refine gk_aload_n (pc := 26) (DX0_extend_0.at 14 rfl) 0 rfl rfl ?_
  obtain ⟨fs7, v7, q7, r7, hv⟩ := hv
  refine gk_get (pc := 27) (.ref v7) (DX0_extend_0.at 15 rfl) fX0_18_0 q7 r7 ?_
  obtain ⟨fs8, v8, q8, r8, hv⟩ := hv
  refine gk_get (pc := 30) (.int v8) (DX0_extend_0.at 16 rfl) fX0_41_3 q8 r8 ?_
  refine gk_iconst (pc := 33) (nI 1) (DX0_extend_0.at 17 rfl) ci_1 ?_
  refine gk_isub (pc := 34) (DX0_extend_0.at 18 rfl) ?_
  refine gk_istore_n (pc := 35) [(2, .int (v8 - (nI 1))), (0, .ref o), (1, .ref x1)] (DX0_extend_0.at 19 rfl) rfl (Nat.le_of_ble_eq_true rfl) rfl ?_
  refine gk_iconst (pc := 36) (nI 0) (DX0_extend_0.at 20 rfl) ci_0 ?_
  refine gk_istore_n (pc := 37) [(3, .int (nI 0)), (2, .int (v8 - (nI 1))), (0, .ref o), (1, .ref x1)] (DX0_extend_0.at 21 rfl) rfl (Nat.le_of_ble_eq_true rfl) rfl ?_
  exact gk_pick (pc := 38) [(0, .ref o), (1, .ref x1), (2, .int (v8 - (nI 1))), (3, .int (nI 0))] [2, 3, 1, 0] rfl hv
set_option maxHeartbeats 4000000 in
theorem vX0_extend_38 {E : gk_E} {dd : Nat} {o : Nat} {x1 : Nat} {x2 : Int32} {x3 : Int32}  {h : gk_H} {K : gk_H → Prop} (hv : (x2 < x3 → K h) ∧ (¬ x2 < x3 → (∃ fs, h[o]? = some (.inr (0, fs))) ∧ RnV E mX0_append (dd, 0, 0) [.ref o, .int x3, .int x2] h (fun h1 => pX0_extend_38 E dd o x1 x2 (x3 + nI 1) h1 K))) : pX0_extend_38 E dd o x1 x2 x3 h K := by
  show gk_G E mX0_extend (dd + 1, 0, 0) 38 [(0, .ref o), (1, .ref x1), (2, .int x2), (3, .int x3)] [] h (fun o h1 => o = none ∧ K h1)
  refine gk_iload_n (pc := 38) (DX0_extend_0.at 22 rfl) 3 rfl rfl ?_
  refine gk_iload_n (pc := 39) (DX0_extend_0.at 23 rfl) 2 rfl rfl ?_
  refine gk_icmp_gt (pc := 40) 55 (DX0_extend_0.at 24 rfl) (by decide) (fun c => ?_) (fun c => ?_)
  · replace hv := hv.1 c
    exact gk_return (pc := 55) (DX0_extend_0.at 31 rfl) rfl ⟨rfl, hv⟩
  · replace hv := hv.2 c
    refine gk_aload_n (pc := 43) (DX0_extend_0.at 25 rfl) 0 rfl rfl ?_
    refine gk_iload_n (pc := 44) (DX0_extend_0.at 26 rfl) 3 rfl rfl ?_
    refine gk_iload_n (pc := 45) (DX0_extend_0.at 27 rfl) 2 rfl rfl ?_
    obtain ⟨⟨fs1, q1⟩, hv⟩ := hv
    refine gk_vV (pc := 46) [.int x3, .int x2] [] (DX0_extend_0.at 28 rfl) cvX0_44 q1 rfl rfl (Nat.le_of_ble_eq_true rfl) (Nat.le_of_ble_eq_true rfl) (gk_Run.post (fun o h1 z => ?_) hv)
    obtain ⟨rfl, hv⟩ := z
    refine gk_iinc (pc := 49) (x3 + nI 1) [(3, .int (x3 + nI 1)), (0, .ref o), (1, .ref x1), (2, .int x2)] 3 (DX0_extend_0.at 29 rfl) rfl (by rw [ci_1]) (Nat.le_of_ble_eq_true rfl) rfl ?_
    refine gk_goto (pc := 52) 38 (DX0_extend_0.at 30 rfl) (by decide) ?_
    exact gk_pick (pc := 38) [(0, .ref o), (1, .ref x1), (2, .int x2), (3, .int (x3 + nI 1))] [1, 2, 3, 0] rfl hv
abbrev pX0_lay_25 (E : gk_E) (dd : Nat) (o : Nat) (x1 : Nat) (x2 : Int32) (h : gk_H) (K : gk_H → Prop) : Prop := gk_G E mX0_lay (dd + 1, 0, 0) 25 [(0, .ref o), (1, .ref x1), (2, .int x2)] [] h (fun o h1 => o = none ∧ K h1)
abbrev pX0_lay_38 (E : gk_E) (dd : Nat) (o : Nat) (x1 : Nat) (x2 : Int32) (x3 : Int32) (h : gk_H) (K : gk_H → Prop) : Prop := gk_G E mX0_lay (dd + 1, 0, 0) 38 [(0, .ref o), (1, .ref x1), (2, .int x2), (3, .int x3)] [] h (fun o h1 => o = none ∧ K h1)
set_option maxHeartbeats 4000000 in
theorem vX0_lay_0 {E : gk_E} {dd : Nat} {o : Nat} {x1 : Nat}  {h : gk_H} {K : gk_H → Prop} (hv : LdR h o 0 2 fun v1 => (∃ fs, h[v1]? = some (.inr (3, fs))) ∧ RnV E mX3_become (dd, 0, 0) [.ref v1, .ref x1] h (fun h2 => StI h2 o 0 1 (nI 1) fun h3 => StI h3 o 0 4 (nI 0) fun h4 => StI h4 o 0 5 (nI 0) fun h5 => pX0_lay_25 E dd o x1 (nI 0) h5 K)) : RnV E mX0_lay (dd + 1, 0, 0) [.ref o, .ref x1] h K := by
  show gk_G E mX0_lay (dd + 1, 0, 0) 0 [(0, .ref o), (1, .ref x1)] [] h (fun o h1 => o = none ∧ K h1)
  refine gk_aload_n (pc := 0) (DX0_lay_0.at 0 rfl) 0 rfl rfl ?_
  obtain ⟨fs1, v1, q1, r1, hv⟩ := hv
  refine gk_get (pc := 1) (.ref v1) (DX0_lay_0.at 1 rfl) fX0_18_0 q1 r1 ?_
  refine gk_aload_n (pc := 4) (DX0_lay_0.at 2 rfl) 1 rfl rfl ?_
  obtain ⟨⟨fs2, q2⟩, hv⟩ := hv
  refine gk_vV (pc := 5) [.ref x1] [] (DX0_lay_0.at 3 rfl) cvX0_37 q2 rfl rfl (Nat.le_of_ble_eq_true rfl) (Nat.le_of_ble_eq_true rfl) (gk_Run.post (fun o h2 z => ?_) hv)
  obtain ⟨rfl, hv⟩ := z
  refine gk_aload_n (pc := 8) (DX0_lay_0.at 4 rfl) 0 rfl rfl ?_
  refine gk_iconst (pc := 9) (nI 1) (DX0_lay_0.at 5 rfl) ci_1 ?_
  obtain ⟨fs3, q3, r3, hv⟩ := hv
  refine gk_put (pc := 10) (DX0_lay_0.at 6 rfl) fX0_9_0w q3 r3 rfl rfl ?_
  generalize h2.set _ _ = h3 at hv ⊢
  refine gk_aload_n (pc := 13) (DX0_lay_0.at 7 rfl) 0 rfl rfl ?_
  refine gk_iconst (pc := 14) (nI 0) (DX0_lay_0.at 8 rfl) ci_0 ?_
  obtain ⟨fs4, q4, r4, hv⟩ := hv
  refine gk_put (pc := 15) (DX0_lay_0.at 9 rfl) fX0_26_0w q4 r4 rfl rfl ?_
  generalize h3.set _ _ = h4 at hv ⊢
  refine gk_aload_n (pc := 18) (DX0_lay_0.at 10 rfl) 0 rfl rfl ?_
  refine gk_iconst (pc := 19) (nI 0) (DX0_lay_0.at 11 rfl) ci_0 ?_
  obtain ⟨fs5, q5, r5, hv⟩ := hv
  refine gk_put (pc := 20) (DX0_lay_0.at 12 rfl) fX0_30_0w q5 r5 rfl rfl ?_
  generalize h4.set _ _ = h5 at hv ⊢
  refine gk_iconst (pc := 23) (nI 0) (DX0_lay_0.at 13 rfl) ci_0 ?_
  refine gk_istore_n (pc := 24) [(2, .int (nI 0)), (0, .ref o), (1, .ref x1)] (DX0_lay_0.at 14 rfl) rfl (Nat.le_of_ble_eq_true rfl) rfl ?_
  exact gk_pick (pc := 25) [(0, .ref o), (1, .ref x1), (2, .int (nI 0))] [1, 2, 0] rfl hv
set_option maxHeartbeats 4000000 in
theorem vX0_lay_25 {E : gk_E} {dd : Nat} {o : Nat} {x1 : Nat} {x2 : Int32}  {h : gk_H} {K : gk_H → Prop} (hv : LdR h o 0 2 fun v1 => LdI h v1 3 0 fun v2 => (v2 ≤ x2 → K h) ∧ (¬ v2 ≤ x2 → pX0_lay_38 E dd o x1 x2 x2 h K)) : pX0_lay_25 E dd o x1 x2 h K := by
  show gk_G E mX0_lay (dd + 1, 0, 0) 25 [(0, .ref o), (1, .ref x1), (2, .int x2)] [] h (fun o h1 => o = none ∧ K h1)
  refine gk_iload_n (pc := 25) (DX0_lay_0.at 15 rfl) 2 rfl rfl ?_
  refine gk_aload_n (pc := 26) (DX0_lay_0.at 16 rfl) 0 rfl rfl ?_
  obtain ⟨fs1, v1, q1, r1, hv⟩ := hv
  refine gk_get (pc := 27) (.ref v1) (DX0_lay_0.at 17 rfl) fX0_18_0 q1 r1 ?_
  obtain ⟨fs2, v2, q2, r2, hv⟩ := hv
  refine gk_get (pc := 30) (.int v2) (DX0_lay_0.at 18 rfl) fX0_41_3 q2 r2 ?_
  refine gk_icmp_ge (pc := 33) 67 (DX0_lay_0.at 19 rfl) (by decide) (fun c => ?_) (fun c => ?_)
  · replace hv := hv.1 c
    exact gk_return (pc := 67) (DX0_lay_0.at 35 rfl) rfl ⟨rfl, hv⟩
  · replace hv := hv.2 c
    refine gk_iload_n (pc := 36) (DX0_lay_0.at 20 rfl) 2 rfl rfl ?_
    refine gk_istore_n (pc := 37) [(3, .int x2), (0, .ref o), (1, .ref x1), (2, .int x2)] (DX0_lay_0.at 21 rfl) rfl (Nat.le_of_ble_eq_true rfl) rfl ?_
    exact gk_pick (pc := 38) [(0, .ref o), (1, .ref x1), (2, .int x2), (3, .int x2)] [1, 2, 3, 0] rfl hv
set_option maxHeartbeats 4000000 in
theorem vX0_lay_38 {E : gk_E} {dd : Nat} {o : Nat} {x1 : Nat} {x2 : Int32} {x3 : Int32}  {h : gk_H} {K : gk_H → Prop} (hv : LdR h o 0 2 fun v1 => LdI h v1 3 0 fun v2 => (v2 ≤ x3 → pX0_lay_25 E dd o x1 (x2 + nI 1) h K) ∧ (¬ v2 ≤ x3 → (∃ fs, h[o]? = some (.inr (0, fs))) ∧ RnV E mX0_append (dd, 0, 0) [.ref o, .int x2, .int x3] h (fun h3 => pX0_lay_38 E dd o x1 x2 (x3 + nI 1) h3 K))) : pX0_lay_38 E dd o x1 x2 x3 h K := by
  show gk_G E mX0_lay (dd + 1, 0, 0) 38 [(0, .ref o), (1, .ref x1), (2, .int x2), (3, .int x3)] [] h (fun o h1 => o = none ∧ K h1)
  refine gk_iload_n (pc := 38) (DX0_lay_0.at 22 rfl) 3 rfl rfl ?_
  refine gk_aload_n (pc := 39) (DX0_lay_0.at 23 rfl) 0 rfl rfl ?_
  obtain ⟨fs1, v1, q1, r1, hv⟩ := hv
  refine gk_get (pc := 40) (.ref v1) (DX0_lay_0.at 24 rfl) fX0_18_0 q1 r1 ?_
  obtain ⟨fs2, v2, q2, r2, hv⟩ := hv
  refine gk_get (pc := 43) (.int v2) (DX0_lay_0.at 25 rfl) fX0_41_3 q2 r2 ?_
  refine gk_icmp_ge (pc := 46) 61 (DX0_lay_0.at 26 rfl) (by decide) (fun c => ?_) (fun c => ?_)
  · replace hv := hv.1 c
    refine gk_iinc (pc := 61) (x2 + nI 1) [(2, .int (x2 + nI 1)), (0, .ref o), (1, .ref x1), (3, .int x3)] 2 (DX0_lay_0.at 33 rfl) rfl (by rw [ci_1]) (Nat.le_of_ble_eq_true rfl) rfl ?_
    refine gk_goto (pc := 64) 25 (DX0_lay_0.at 34 rfl) (by decide) ?_
    exact gk_pick (pc := 25) [(0, .ref o), (1, .ref x1), (2, .int (x2 + nI 1))] [1, 2, 0] rfl hv
  · replace hv := hv.2 c
    refine gk_aload_n (pc := 49) (DX0_lay_0.at 27 rfl) 0 rfl rfl ?_
    refine gk_iload_n (pc := 50) (DX0_lay_0.at 28 rfl) 2 rfl rfl ?_
    refine gk_iload_n (pc := 51) (DX0_lay_0.at 29 rfl) 3 rfl rfl ?_
    obtain ⟨⟨fs3, q3⟩, hv⟩ := hv
    refine gk_vV (pc := 52) [.int x2, .int x3] [] (DX0_lay_0.at 30 rfl) cvX0_44 q3 rfl rfl (Nat.le_of_ble_eq_true rfl) (Nat.le_of_ble_eq_true rfl) (gk_Run.post (fun o h3 z => ?_) hv)
    obtain ⟨rfl, hv⟩ := z
    refine gk_iinc (pc := 55) (x3 + nI 1) [(3, .int (x3 + nI 1)), (0, .ref o), (1, .ref x1), (2, .int x2)] 3 (DX0_lay_0.at 31 rfl) rfl (by rw [ci_1]) (Nat.le_of_ble_eq_true rfl) rfl ?_
    refine gk_goto (pc := 58) 38 (DX0_lay_0.at 32 rfl) (by decide) ?_
    exact gk_pick (pc := 38) [(0, .ref o), (1, .ref x1), (2, .int x2), (3, .int (x3 + nI 1))] [1, 2, 3, 0] rfl hv
abbrev pX0_rotate_9 (E : gk_E) (dd : Nat) (o : Nat) (x1 : Int32) (x2 : Int32) (h : gk_H) (K : gk_H → Prop) : Prop := gk_G E mX0_rotate (dd, 0, 0) 9 [(0, .ref o), (1, .int x1), (2, .int x2)] [] h (fun o h1 => o = none ∧ K h1)
set_option maxHeartbeats 4000000 in
theorem vX0_rotate_0 {E : gk_E} {dd : Nat} {o : Nat}  {h : gk_H} {K : gk_H → Prop} (hv : LdR h o 0 3 fun v1 => AlI h v1 (nI 0) fun v2 => pX0_rotate_9 E dd o v2 (nI 1) h K) : RnV E mX0_rotate (dd, 0, 0) [.ref o] h K := by
  show gk_G E mX0_rotate (dd, 0, 0) 0 [(0, .ref o)] [] h (fun o h1 => o = none ∧ K h1)
  refine gk_aload_n (pc := 0) (DX0_rotate_0.at 0 rfl) 0 rfl rfl ?_
  obtain ⟨fs1, v1, q1, r1, hv⟩ := hv
  refine gk_get (pc := 1) (.ref v1) (DX0_rotate_0.at 1 rfl) fX0_22_0 q1 r1 ?_
  refine gk_iconst (pc := 4) (nI 0) (DX0_rotate_0.at 2 rfl) ci_0 ?_
  obtain ⟨n2, f2, q2, r2, hv⟩ := hv
  refine gk_iald (pc := 5) (DX0_rotate_0.at 3 rfl) q2 r2 ?_
  generalize f2 _ = v2 at hv ⊢
  refine gk_istore_n (pc := 6) [(1, .int v2), (0, .ref o)] (DX0_rotate_0.at 4 rfl) rfl (Nat.le_of_ble_eq_true rfl) rfl ?_
  refine gk_iconst (pc := 7) (nI 1) (DX0_rotate_0.at 5 rfl) ci_1 ?_
  refine gk_istore_n (pc := 8) [(2, .int (nI 1)), (1, .int v2), (0, .ref o)] (DX0_rotate_0.at 6 rfl) rfl (Nat.le_of_ble_eq_true rfl) rfl ?_
  exact gk_pick (pc := 9) [(0, .ref o), (1, .int v2), (2, .int (nI 1))] [2, 1, 0] rfl hv
set_option maxHeartbeats 4000000 in
theorem vX0_rotate_9 {E : gk_E} {dd : Nat} {o : Nat} {x1 : Int32} {x2 : Int32}  {h : gk_H} {K : gk_H → Prop} (hv : LdI h o 0 4 fun v1 => (v1 ≤ x2 → LdR h o 0 3 fun v2 => LdI h o 0 4 fun v3 => AsI h v2 (v3 - (nI 1)) x1 fun h4 => K h4) ∧ (¬ v1 ≤ x2 → LdR h o 0 3 fun v5 => LdR h o 0 3 fun v6 => AlI h v6 x2 fun v7 => AsI h v5 (x2 - (nI 1)) v7 fun h8 => pX0_rotate_9 E dd o x1 (x2 + nI 1) h8 K)) : pX0_rotate_9 E dd o x1 x2 h K := by
  show gk_G E mX0_rotate (dd, 0, 0) 9 [(0, .ref o), (1, .int x1), (2, .int x2)] [] h (fun o h1 => o = none ∧ K h1)
  refine gk_iload_n (pc := 9) (DX0_rotate_0.at 7 rfl) 2 rfl rfl ?_
  refine gk_aload_n (pc := 10) (DX0_rotate_0.at 8 rfl) 0 rfl rfl ?_
  obtain ⟨fs1, v1, q1, r1, hv⟩ := hv
  refine gk_get (pc := 11) (.int v1) (DX0_rotate_0.at 9 rfl) fX0_26_0 q1 r1 ?_
  refine gk_icmp_ge (pc := 14) 37 (DX0_rotate_0.at 10 rfl) (by decide) (fun c => ?_) (fun c => ?_)
  · replace hv := hv.1 c
    refine gk_aload_n (pc := 37) (DX0_rotate_0.at 23 rfl) 0 rfl rfl ?_
    obtain ⟨fs2, v2, q2, r2, hv⟩ := hv
    refine gk_get (pc := 38) (.ref v2) (DX0_rotate_0.at 24 rfl) fX0_22_0 q2 r2 ?_
    refine gk_aload_n (pc := 41) (DX0_rotate_0.at 25 rfl) 0 rfl rfl ?_
    obtain ⟨fs3, v3, q3, r3, hv⟩ := hv
    refine gk_get (pc := 42) (.int v3) (DX0_rotate_0.at 26 rfl) fX0_26_0 q3 r3 ?_
    refine gk_iconst (pc := 45) (nI 1) (DX0_rotate_0.at 27 rfl) ci_1 ?_
    refine gk_isub (pc := 46) (DX0_rotate_0.at 28 rfl) ?_
    refine gk_iload_n (pc := 47) (DX0_rotate_0.at 29 rfl) 1 rfl rfl ?_
    obtain ⟨n4, f4, q4, r4, hv⟩ := hv
    refine gk_iast (pc := 48) (DX0_rotate_0.at 30 rfl) q4 r4 ?_
    generalize h.set _ _ = h4 at hv ⊢
    exact gk_return (pc := 49) (DX0_rotate_0.at 31 rfl) rfl ⟨rfl, hv⟩
  · replace hv := hv.2 c
    refine gk_aload_n (pc := 17) (DX0_rotate_0.at 11 rfl) 0 rfl rfl ?_
    obtain ⟨fs5, v5, q5, r5, hv⟩ := hv
    refine gk_get (pc := 18) (.ref v5) (DX0_rotate_0.at 12 rfl) fX0_22_0 q5 r5 ?_
    refine gk_iload_n (pc := 21) (DX0_rotate_0.at 13 rfl) 2 rfl rfl ?_
    refine gk_iconst (pc := 22) (nI 1) (DX0_rotate_0.at 14 rfl) ci_1 ?_
    refine gk_isub (pc := 23) (DX0_rotate_0.at 15 rfl) ?_
    refine gk_aload_n (pc := 24) (DX0_rotate_0.at 16 rfl) 0 rfl rfl ?_
    obtain ⟨fs6, v6, q6, r6, hv⟩ := hv
    refine gk_get (pc := 25) (.ref v6) (DX0_rotate_0.at 17 rfl) fX0_22_0 q6 r6 ?_
    refine gk_iload_n (pc := 28) (DX0_rotate_0.at 18 rfl) 2 rfl rfl ?_
    obtain ⟨n7, f7, q7, r7, hv⟩ := hv
    refine gk_iald (pc := 29) (DX0_rotate_0.at 19 rfl) q7 r7 ?_
    generalize f7 _ = v7 at hv ⊢
    obtain ⟨n8, f8, q8, r8, hv⟩ := hv
    refine gk_iast (pc := 30) (DX0_rotate_0.at 20 rfl) q8 r8 ?_
    generalize h.set _ _ = h8 at hv ⊢
    refine gk_iinc (pc := 31) (x2 + nI 1) [(2, .int (x2 + nI 1)), (0, .ref o), (1, .int x1)] 2 (DX0_rotate_0.at 21 rfl) rfl (by rw [ci_1]) (Nat.le_of_ble_eq_true rfl) rfl ?_
    refine gk_goto (pc := 34) 9 (DX0_rotate_0.at 22 rfl) (by decide) ?_
    exact gk_pick (pc := 9) [(0, .ref o), (1, .int x1), (2, .int (x2 + nI 1))] [1, 2, 0] rfl hv
