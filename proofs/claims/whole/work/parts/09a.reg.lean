abbrev pX8_become_10 (E : gk_E) (dd : Nat) (o : Nat) (x1 : Nat) (x2 : Int32) (h : gk_H) (K : gk_H → Prop) : Prop := gk_G E mX8_become (dd, 0, 0) 10 [(0, .ref o), (1, .ref x1), (2, .int x2)] [] h (fun o h1 => o = none ∧ K h1)
set_option maxHeartbeats 4000000 in
theorem vX8_become_0 {E : gk_E} {dd : Nat} {o : Nat} {x1 : Nat}  {h : gk_H} {K : gk_H → Prop} (hv : LdI h x1 8 0 fun v1 => StI h o 8 0 v1 fun h2 => pX8_become_10 E dd o x1 (nI 0) h2 K) : RnV E mX8_become (dd, 0, 0) [.ref o, .ref x1] h K := by
  show gk_G E mX8_become (dd, 0, 0) 0 [(0, .ref o), (1, .ref x1)] [] h (fun o h1 => o = none ∧ K h1)
  refine gk_aload_n (pc := 0) dX8_become_0 0 rfl rfl ?_
  refine gk_aload_n (pc := 1) dX8_become_1 1 rfl rfl ?_
  obtain ⟨fs1, v1, q1, r1, hv⟩ := hv
  refine gk_get (pc := 2) (.int v1) dX8_become_2 fX8_9_8 q1 r1 ?_
  obtain ⟨fs2, q2, r2, hv⟩ := hv
  refine gk_put (pc := 5) dX8_become_5 fX8_9_8w q2 r2 rfl rfl ?_
  generalize h.set _ _ = h2 at hv ⊢
  refine gk_iconst (pc := 8) (nI 0) dX8_become_8 ci_0 ?_
  refine gk_istore_n (pc := 9) [(2, .int (nI 0)), (0, .ref o), (1, .ref x1)] dX8_become_9 rfl (Nat.le_of_ble_eq_true rfl) rfl ?_
  exact gk_pick (pc := 10) [(0, .ref o), (1, .ref x1), (2, .int (nI 0))] [1, 2, 0] rfl hv
set_option maxHeartbeats 4000000 in
theorem vX8_become_10 {E : gk_E} {dd : Nat} {o : Nat} {x1 : Nat} {x2 : Int32}  {h : gk_H} {K : gk_H → Prop} (hv : ((nI 4) ≤ x2 → LdL h x1 8 2 fun v1 => StL h o 8 2 v1 fun h2 => K h2) ∧ (¬ (nI 4) ≤ x2 → LdR h o 8 1 fun v3 => LdR h x1 8 1 fun v4 => AlI h v4 x2 fun v5 => AsI h v3 x2 v5 fun h6 => pX8_become_10 E dd o x1 (x2 + nI 1) h6 K)) : pX8_become_10 E dd o x1 x2 h K := by
  show gk_G E mX8_become (dd, 0, 0) 10 [(0, .ref o), (1, .ref x1), (2, .int x2)] [] h (fun o h1 => o = none ∧ K h1)
  refine gk_iload_n (pc := 10) dX8_become_10 2 rfl rfl ?_
  refine gk_iconst (pc := 11) (nI 4) dX8_become_11 ci_4 ?_
  refine gk_icmp_ge (pc := 12) 33 dX8_become_12 (by decide) (fun c => ?_) (fun c => ?_)
  · replace hv := hv.1 c
    refine gk_aload_n (pc := 33) dX8_become_33 0 rfl rfl ?_
    refine gk_aload_n (pc := 34) dX8_become_34 1 rfl rfl ?_
    obtain ⟨fs1, v1, q1, r1, hv⟩ := hv
    refine gk_get (pc := 35) (.long v1) dX8_become_35 fX8_19_8 q1 r1 ?_
    obtain ⟨fs2, q2, r2, hv⟩ := hv
    refine gk_put (pc := 38) dX8_become_38 fX8_19_8w q2 r2 rfl rfl ?_
    generalize h.set _ _ = h2 at hv ⊢
    exact gk_return (pc := 41) dX8_become_41 rfl ⟨rfl, hv⟩
  · replace hv := hv.2 c
    refine gk_aload_n (pc := 15) dX8_become_15 0 rfl rfl ?_
    obtain ⟨fs3, v3, q3, r3, hv⟩ := hv
    refine gk_get (pc := 16) (.ref v3) dX8_become_16 fX8_15_8 q3 r3 ?_
    refine gk_iload_n (pc := 19) dX8_become_19 2 rfl rfl ?_
    refine gk_aload_n (pc := 20) dX8_become_20 1 rfl rfl ?_
    obtain ⟨fs4, v4, q4, r4, hv⟩ := hv
    refine gk_get (pc := 21) (.ref v4) dX8_become_21 fX8_15_8 q4 r4 ?_
    refine gk_iload_n (pc := 24) dX8_become_24 2 rfl rfl ?_
    obtain ⟨n5, f5, q5, r5, hv⟩ := hv
    refine gk_iald (pc := 25) dX8_become_25 q5 r5 ?_
    generalize f5 _ = v5 at hv ⊢
    obtain ⟨n6, f6, q6, r6, hv⟩ := hv
    refine gk_iast (pc := 26) dX8_become_26 q6 r6 ?_
    generalize h.set _ _ = h6 at hv ⊢
    refine gk_iinc (pc := 27) (x2 + nI 1) [(2, .int (x2 + nI 1)), (0, .ref o), (1, .ref x1)] 2 dX8_become_27 rfl (by rw [ci_1]) (Nat.le_of_ble_eq_true rfl) rfl ?_
    refine gk_goto (pc := 30) 10 dX8_become_30 (by decide) ?_
    exact gk_pick (pc := 10) [(0, .ref o), (1, .ref x1), (2, .int (x2 + nI 1))] [1, 2, 0] rfl hv
set_option maxHeartbeats 4000000 in
theorem vX8_bit_0 {E : gk_E} {dd : Nat} {x0 : Int32} {x1 : Int32} {x2 : Int32}  {h : gk_H} {K : Int64 → gk_H → Prop} (hv : K ((lN 1) <<< (((((nI 16) * x0) + ((nI 4) * x1)) + x2).toInt64 &&& 63)) h) : RnL E mX8_bit (dd, 0, 0) [.int x0, .int x1, .int x2] h K := by
  show gk_G E mX8_bit (dd, 0, 0) 0 [(0, .int x0), (1, .int x1), (2, .int x2)] [] h (fun o h1 => ∃ v, o = some (.long v) ∧ K v h1)
  refine gk_lconst (pc := 0) (lN 1) dX8_bit_0 rfl ?_
  refine gk_bipush (pc := 1) (nI 16) dX8_bit_1 cb_16 ?_
  refine gk_iload_n (pc := 3) dX8_bit_3 0 rfl rfl ?_
  refine gk_imul (pc := 4) dX8_bit_4 ?_
  refine gk_iconst (pc := 5) (nI 4) dX8_bit_5 ci_4 ?_
  refine gk_iload_n (pc := 6) dX8_bit_6 1 rfl rfl ?_
  refine gk_imul (pc := 7) dX8_bit_7 ?_
  refine gk_iadd (pc := 8) dX8_bit_8 ?_
  refine gk_iload_n (pc := 9) dX8_bit_9 2 rfl rfl ?_
  refine gk_iadd (pc := 10) dX8_bit_10 ?_
  refine gk_lshl (pc := 11) dX8_bit_11 ?_
  exact gk_lreturn (pc := 12) dX8_bit_12 rfl ⟨_, rfl, hv⟩
set_option maxHeartbeats 4000000 in
theorem vX8_couple_0 {E : gk_E} {dd : Nat} {o : Nat} {x1 : Int32} {x2 : Int32}  {h : gk_H} {K : gk_H → Prop} (hv : (∃ fs, h[o]? = some (.inr (8, fs))) ∧ RnV E mX8_free (dd, 0, 0) [.ref o, .int x1] h (fun h1 => (∃ fs, h1[o]? = some (.inr (8, fs))) ∧ RnV E mX8_free (dd, 0, 0) [.ref o, .int x2] h1 (fun h2 => LdR h2 o 8 1 fun v3 => AsI h2 v3 x1 x2 fun h4 => LdR h4 o 8 1 fun v5 => AsI h4 v5 x2 x1 fun h6 => (∃ fs, h6[o]? = some (.inr (8, fs))) ∧ RnV E mX8_keepFixed (dd, 0, 0) [.ref o] h6 (fun h7 => K h7)))) : RnV E mX8_couple (dd + 1, 0, 0) [.ref o, .int x1, .int x2] h K := by
  show gk_G E mX8_couple (dd + 1, 0, 0) 0 [(0, .ref o), (1, .int x1), (2, .int x2)] [] h (fun o h1 => o = none ∧ K h1)
  refine gk_aload_n (pc := 0) dX8_couple_0 0 rfl rfl ?_
  refine gk_iload_n (pc := 1) dX8_couple_1 1 rfl rfl ?_
  obtain ⟨⟨fs1, q1⟩, hv⟩ := hv
  refine gk_vV (pc := 2) [.int x1] [] dX8_couple_2 cvX8_30 q1 rfl rfl (Nat.le_of_ble_eq_true rfl) (Nat.le_of_ble_eq_true rfl) (gk_Run.post (fun o h1 z => ?_) hv)
  obtain ⟨rfl, hv⟩ := z
  refine gk_aload_n (pc := 5) dX8_couple_5 0 rfl rfl ?_
  refine gk_iload_n (pc := 6) dX8_couple_6 2 rfl rfl ?_
  obtain ⟨⟨fs2, q2⟩, hv⟩ := hv
  refine gk_vV (pc := 7) [.int x2] [] dX8_couple_7 cvX8_30 q2 rfl rfl (Nat.le_of_ble_eq_true rfl) (Nat.le_of_ble_eq_true rfl) (gk_Run.post (fun o h2 z => ?_) hv)
  obtain ⟨rfl, hv⟩ := z
  refine gk_aload_n (pc := 10) dX8_couple_10 0 rfl rfl ?_
  obtain ⟨fs3, v3, q3, r3, hv⟩ := hv
  refine gk_get (pc := 11) (.ref v3) dX8_couple_11 fX8_15_8 q3 r3 ?_
  refine gk_iload_n (pc := 14) dX8_couple_14 1 rfl rfl ?_
  refine gk_iload_n (pc := 15) dX8_couple_15 2 rfl rfl ?_
  obtain ⟨n4, f4, q4, r4, hv⟩ := hv
  refine gk_iast (pc := 16) dX8_couple_16 q4 r4 ?_
  generalize h2.set _ _ = h4 at hv ⊢
  refine gk_aload_n (pc := 17) dX8_couple_17 0 rfl rfl ?_
  obtain ⟨fs5, v5, q5, r5, hv⟩ := hv
  refine gk_get (pc := 18) (.ref v5) dX8_couple_18 fX8_15_8 q5 r5 ?_
  refine gk_iload_n (pc := 21) dX8_couple_21 2 rfl rfl ?_
  refine gk_iload_n (pc := 22) dX8_couple_22 1 rfl rfl ?_
  obtain ⟨n6, f6, q6, r6, hv⟩ := hv
  refine gk_iast (pc := 23) dX8_couple_23 q6 r6 ?_
  generalize h4.set _ _ = h6 at hv ⊢
  refine gk_aload_n (pc := 24) dX8_couple_24 0 rfl rfl ?_
  obtain ⟨⟨fs7, q7⟩, hv⟩ := hv
  refine gk_vV (pc := 25) [] [] dX8_couple_25 cvX8_27 q7 rfl rfl (Nat.le_of_ble_eq_true rfl) (Nat.le_of_ble_eq_true rfl) (gk_Run.post (fun o h7 z => ?_) hv)
  obtain ⟨rfl, hv⟩ := z
  exact gk_return (pc := 28) dX8_couple_28 rfl ⟨rfl, hv⟩
abbrev pX8_coupled_4 (E : gk_E) (dd : Nat) (o : Nat) (x1 : Int32) (x2 : Int32) (h : gk_H) (K : Int32 → gk_H → Prop) : Prop := gk_G E mX8_coupled (dd, 0, 0) 4 [(0, .ref o), (1, .int x1), (2, .int x2)] [] h (fun o h1 => ∃ v, o = some (.int v) ∧ K v h1)
set_option maxHeartbeats 4000000 in
theorem vX8_coupled_0 {E : gk_E} {dd : Nat} {o : Nat}  {h : gk_H} {K : Int32 → gk_H → Prop} (hv : pX8_coupled_4 E dd o (nI 0) (nI 0) h K) : RnI E mX8_coupled (dd, 0, 0) [.ref o] h K := by
  show gk_G E mX8_coupled (dd, 0, 0) 0 [(0, .ref o)] [] h (fun o h1 => ∃ v, o = some (.int v) ∧ K v h1)
  refine gk_iconst (pc := 0) (nI 0) dX8_coupled_0 ci_0 ?_
  refine gk_istore_n (pc := 1) [(1, .int (nI 0)), (0, .ref o)] dX8_coupled_1 rfl (Nat.le_of_ble_eq_true rfl) rfl ?_
  refine gk_iconst (pc := 2) (nI 0) dX8_coupled_2 ci_0 ?_
  refine gk_istore_n (pc := 3) [(2, .int (nI 0)), (1, .int (nI 0)), (0, .ref o)] dX8_coupled_3 rfl (Nat.le_of_ble_eq_true rfl) rfl ?_
  exact gk_pick (pc := 4) [(0, .ref o), (1, .int (nI 0)), (2, .int (nI 0))] [2, 1, 0] rfl hv
set_option maxHeartbeats 4000000 in
theorem vX8_coupled_4 {E : gk_E} {dd : Nat} {o : Nat} {x1 : Int32} {x2 : Int32}  {h : gk_H} {K : Int32 → gk_H → Prop} (hv : LdI h o 8 0 fun v1 => (v1 ≤ x2 → K x1 h) ∧ (¬ v1 ≤ x2 → LdR h o 8 1 fun v2 => AlI h v2 x2 fun v3 => (v3 = x2 → pX8_coupled_4 E dd o x1 (x2 + nI 1) h K) ∧ (¬ v3 = x2 → pX8_coupled_4 E dd o (x1 + nI 1) (x2 + nI 1) h K))) : pX8_coupled_4 E dd o x1 x2 h K := by
  show gk_G E mX8_coupled (dd, 0, 0) 4 [(0, .ref o), (1, .int x1), (2, .int x2)] [] h (fun o h1 => ∃ v, o = some (.int v) ∧ K v h1)
  refine gk_iload_n (pc := 4) dX8_coupled_4 2 rfl rfl ?_
  refine gk_aload_n (pc := 5) dX8_coupled_5 0 rfl rfl ?_
  obtain ⟨fs1, v1, q1, r1, hv⟩ := hv
  refine gk_get (pc := 6) (.int v1) dX8_coupled_6 fX8_9_8 q1 r1 ?_
  refine gk_icmp_ge (pc := 9) 31 dX8_coupled_9 (by decide) (fun c => ?_) (fun c => ?_)
  · replace hv := hv.1 c
    refine gk_iload_n (pc := 31) dX8_coupled_31 1 rfl rfl ?_
    exact gk_ireturn (pc := 32) .int dX8_coupled_32 rfl rfl ⟨_, rfl, hv⟩
  · replace hv := hv.2 c
    refine gk_aload_n (pc := 12) dX8_coupled_12 0 rfl rfl ?_
    obtain ⟨fs2, v2, q2, r2, hv⟩ := hv
    refine gk_get (pc := 13) (.ref v2) dX8_coupled_13 fX8_15_8 q2 r2 ?_
    refine gk_iload_n (pc := 16) dX8_coupled_16 2 rfl rfl ?_
    obtain ⟨n3, f3, q3, r3, hv⟩ := hv
    refine gk_iald (pc := 17) dX8_coupled_17 q3 r3 ?_
    generalize f3 _ = v3 at hv ⊢
    refine gk_iload_n (pc := 18) dX8_coupled_18 2 rfl rfl ?_
    refine gk_icmp_eq (pc := 19) 25 dX8_coupled_19 (by decide) (fun c => ?_) (fun c => ?_)
    · replace hv := hv.1 c
      refine gk_iinc (pc := 25) (x2 + nI 1) [(2, .int (x2 + nI 1)), (0, .ref o), (1, .int x1)] 2 dX8_coupled_25 rfl (by rw [ci_1]) (Nat.le_of_ble_eq_true rfl) rfl ?_
      refine gk_goto (pc := 28) 4 dX8_coupled_28 (by decide) ?_
      exact gk_pick (pc := 4) [(0, .ref o), (1, .int x1), (2, .int (x2 + nI 1))] [1, 2, 0] rfl hv
    · replace hv := hv.2 c
      refine gk_iinc (pc := 22) (x1 + nI 1) [(1, .int (x1 + nI 1)), (0, .ref o), (2, .int x2)] 1 dX8_coupled_22 rfl (by rw [ci_1]) (Nat.le_of_ble_eq_true rfl) rfl ?_
      refine gk_iinc (pc := 25) (x2 + nI 1) [(2, .int (x2 + nI 1)), (1, .int (x1 + nI 1)), (0, .ref o)] 2 dX8_coupled_25 rfl (by rw [ci_1]) (Nat.le_of_ble_eq_true rfl) rfl ?_
      refine gk_goto (pc := 28) 4 dX8_coupled_28 (by decide) ?_
      exact gk_pick (pc := 4) [(0, .ref o), (1, .int (x1 + nI 1)), (2, .int (x2 + nI 1))] [2, 1, 0] rfl hv
abbrev pX8_cycleFacts_10 (E : gk_E) (dd : Nat) (o : Nat) (x1 : Int32) (x2 : Int32) (x3 : Int32) (x4 : Int32) (x5 : Int32) (h : gk_H) (K : Int32 → gk_H → Prop) : Prop := gk_G E mX8_cycleFacts (dd + 1, 0, 0) 10 [(0, .ref o), (1, .int x1), (2, .int x2), (3, .int x3), (4, .int x4), (5, .int x5)] [] h (fun o h1 => ∃ v, o = some (.int v) ∧ K v h1)
abbrev pX8_cycleFacts_22 (E : gk_E) (dd : Nat) (o : Nat) (x1 : Int32) (x2 : Int32) (x3 : Int32) (x4 : Int32) (x5 : Int32) (x6 : Int32) (h : gk_H) (K : Int32 → gk_H → Prop) : Prop := gk_G E mX8_cycleFacts (dd + 1, 0, 0) 22 [(0, .ref o), (1, .int x1), (2, .int x2), (3, .int x3), (4, .int x4), (5, .int x5), (6, .int x6)] [] h (fun o h1 => ∃ v, o = some (.int v) ∧ K v h1)
abbrev pX8_cycleFacts_34 (E : gk_E) (dd : Nat) (o : Nat) (x1 : Int32) (x2 : Int32) (x3 : Int32) (x4 : Int32) (x5 : Int32) (x6 : Int32) (x7 : Int32) (h : gk_H) (K : Int32 → gk_H → Prop) : Prop := gk_G E mX8_cycleFacts (dd + 1, 0, 0) 34 [(0, .ref o), (1, .int x1), (2, .int x2), (3, .int x3), (4, .int x4), (5, .int x5), (6, .int x6), (7, .int x7)] [] h (fun o h1 => ∃ v, o = some (.int v) ∧ K v h1)
set_option maxHeartbeats 4000000 in
theorem vX8_cycleFacts_0 {E : gk_E} {dd : Nat} {o : Nat} {x1 : Int32}  {h : gk_H} {K : Int32 → gk_H → Prop} (hv : pX8_cycleFacts_10 E dd o x1 (nI 0) (nI 0) (nI 0) (nI 1) h K) : RnI E mX8_cycleFacts (dd + 1, 0, 0) [.ref o, .int x1] h K := by
  show gk_G E mX8_cycleFacts (dd + 1, 0, 0) 0 [(0, .ref o), (1, .int x1)] [] h (fun o h1 => ∃ v, o = some (.int v) ∧ K v h1)
  refine gk_iconst (pc := 0) (nI 0) dX8_cycleFacts_0 ci_0 ?_
  refine gk_istore_n (pc := 1) [(2, .int (nI 0)), (0, .ref o), (1, .int x1)] dX8_cycleFacts_1 rfl (Nat.le_of_ble_eq_true rfl) rfl ?_
  refine gk_iconst (pc := 2) (nI 0) dX8_cycleFacts_2 ci_0 ?_
  refine gk_istore_n (pc := 3) [(3, .int (nI 0)), (2, .int (nI 0)), (0, .ref o), (1, .int x1)] dX8_cycleFacts_3 rfl (Nat.le_of_ble_eq_true rfl) rfl ?_
  refine gk_iconst (pc := 4) (nI 0) dX8_cycleFacts_4 ci_0 ?_
  refine gk_istore (pc := 5) [(4, .int (nI 0)), (3, .int (nI 0)), (2, .int (nI 0)), (0, .ref o), (1, .int x1)] dX8_cycleFacts_5 (Nat.le_of_ble_eq_true rfl) rfl ?_
  refine gk_iconst (pc := 7) (nI 1) dX8_cycleFacts_7 ci_1 ?_
  refine gk_istore (pc := 8) [(5, .int (nI 1)), (4, .int (nI 0)), (3, .int (nI 0)), (2, .int (nI 0)), (0, .ref o), (1, .int x1)] dX8_cycleFacts_8 (Nat.le_of_ble_eq_true rfl) rfl ?_
  exact gk_pick (pc := 10) [(0, .ref o), (1, .int x1), (2, .int (nI 0)), (3, .int (nI 0)), (4, .int (nI 0)), (5, .int (nI 1))] [4, 5, 3, 2, 1, 0] rfl hv
set_option maxHeartbeats 4000000 in
theorem vX8_cycleFacts_10 {E : gk_E} {dd : Nat} {o : Nat} {x1 : Int32} {x2 : Int32} {x3 : Int32} {x4 : Int32} {x5 : Int32}  {h : gk_H} {K : Int32 → gk_H → Prop} (hv : LdI h o 8 0 fun v1 => (v1 ≤ x5 → (¬ x1 = 0 → (¬ x1 = (nI 1) → K x4 h) ∧ (x1 = (nI 1) → K x3 h)) ∧ (x1 = 0 → K x2 h)) ∧ (¬ v1 ≤ x5 → pX8_cycleFacts_22 E dd o x1 x2 x3 x4 x5 (nI 1) h K)) : pX8_cycleFacts_10 E dd o x1 x2 x3 x4 x5 h K := by
  show gk_G E mX8_cycleFacts (dd + 1, 0, 0) 10 [(0, .ref o), (1, .int x1), (2, .int x2), (3, .int x3), (4, .int x4), (5, .int x5)] [] h (fun o h1 => ∃ v, o = some (.int v) ∧ K v h1)
  refine gk_iload (pc := 10) dX8_cycleFacts_10 5 rfl ?_
  refine gk_aload_n (pc := 12) dX8_cycleFacts_12 0 rfl rfl ?_
  obtain ⟨fs1, v1, q1, r1, hv⟩ := hv
  refine gk_get (pc := 13) (.int v1) dX8_cycleFacts_13 fX8_9_8 q1 r1 ?_
  refine gk_icmp_ge (pc := 16) 113 dX8_cycleFacts_16 (by decide) (fun c => ?_) (fun c => ?_)
  · replace hv := hv.1 c
    refine gk_iload_n (pc := 113) dX8_cycleFacts_113 1 rfl rfl ?_
    refine gk_if_ne (pc := 114) 119 dX8_cycleFacts_114 (by decide) (fun c => ?_) (fun c => ?_)
    · replace hv := hv.1 c
      refine gk_iload_n (pc := 119) dX8_cycleFacts_119 1 rfl rfl ?_
      refine gk_iconst (pc := 120) (nI 1) dX8_cycleFacts_120 ci_1 ?_
      refine gk_icmp_ne (pc := 121) 128 dX8_cycleFacts_121 (by decide) (fun c => ?_) (fun c => ?_)
      · replace hv := hv.1 c
        refine gk_iload (pc := 128) dX8_cycleFacts_128 4 rfl ?_
        exact gk_ireturn (pc := 130) .int dX8_cycleFacts_130 rfl rfl ⟨_, rfl, hv⟩
      · replace hv := hv.2 c
        refine gk_iload_n (pc := 124) dX8_cycleFacts_124 3 rfl rfl ?_
        refine gk_goto (pc := 125) 130 dX8_cycleFacts_125 (by decide) ?_
        exact gk_ireturn (pc := 130) .int dX8_cycleFacts_130 rfl rfl ⟨_, rfl, hv⟩
    · replace hv := hv.2 c
      refine gk_iload_n (pc := 117) dX8_cycleFacts_117 2 rfl rfl ?_
      exact gk_ireturn (pc := 118) .int dX8_cycleFacts_118 rfl rfl ⟨_, rfl, hv⟩
  · replace hv := hv.2 c
    refine gk_iconst (pc := 19) (nI 1) dX8_cycleFacts_19 ci_1 ?_
    refine gk_istore (pc := 20) [(6, .int (nI 1)), (0, .ref o), (1, .int x1), (2, .int x2), (3, .int x3), (4, .int x4), (5, .int x5)] dX8_cycleFacts_20 (Nat.le_of_ble_eq_true rfl) rfl ?_
    exact gk_pick (pc := 22) [(0, .ref o), (1, .int x1), (2, .int x2), (3, .int x3), (4, .int x4), (5, .int x5), (6, .int (nI 1))] [1, 2, 3, 4, 5, 6, 0] rfl hv
set_option maxHeartbeats 4000000 in
theorem vX8_cycleFacts_22 {E : gk_E} {dd : Nat} {o : Nat} {x1 : Int32} {x2 : Int32} {x3 : Int32} {x4 : Int32} {x5 : Int32} {x6 : Int32}  {h : gk_H} {K : Int32 → gk_H → Prop} (hv : LdI h o 8 0 fun v1 => (v1 ≤ x6 → pX8_cycleFacts_10 E dd o x1 x2 x3 x4 (x5 + nI 1) h K) ∧ (¬ v1 ≤ x6 → pX8_cycleFacts_34 E dd o x1 x2 x3 x4 x5 x6 (nI 1) h K)) : pX8_cycleFacts_22 E dd o x1 x2 x3 x4 x5 x6 h K := by
  show gk_G E mX8_cycleFacts (dd + 1, 0, 0) 22 [(0, .ref o), (1, .int x1), (2, .int x2), (3, .int x3), (4, .int x4), (5, .int x5), (6, .int x6)] [] h (fun o h1 => ∃ v, o = some (.int v) ∧ K v h1)
  refine gk_iload (pc := 22) dX8_cycleFacts_22 6 rfl ?_
  refine gk_aload_n (pc := 24) dX8_cycleFacts_24 0 rfl rfl ?_
  obtain ⟨fs1, v1, q1, r1, hv⟩ := hv
  refine gk_get (pc := 25) (.int v1) dX8_cycleFacts_25 fX8_9_8 q1 r1 ?_
  refine gk_icmp_ge (pc := 28) 107 dX8_cycleFacts_28 (by decide) (fun c => ?_) (fun c => ?_)
  · replace hv := hv.1 c
    refine gk_iinc (pc := 107) (x5 + nI 1) [(5, .int (x5 + nI 1)), (0, .ref o), (1, .int x1), (2, .int x2), (3, .int x3), (4, .int x4), (6, .int x6)] 5 dX8_cycleFacts_107 rfl (by rw [ci_1]) (Nat.le_of_ble_eq_true rfl) rfl ?_
    refine gk_goto (pc := 110) 10 dX8_cycleFacts_110 (by decide) ?_
    exact gk_pick (pc := 10) [(0, .ref o), (1, .int x1), (2, .int x2), (3, .int x3), (4, .int x4), (5, .int (x5 + nI 1))] [1, 2, 3, 4, 5, 0] rfl hv
  · replace hv := hv.2 c
    refine gk_iconst (pc := 31) (nI 1) dX8_cycleFacts_31 ci_1 ?_
    refine gk_istore (pc := 32) [(7, .int (nI 1)), (0, .ref o), (1, .int x1), (2, .int x2), (3, .int x3), (4, .int x4), (5, .int x5), (6, .int x6)] dX8_cycleFacts_32 (Nat.le_of_ble_eq_true rfl) rfl ?_
    exact gk_pick (pc := 34) [(0, .ref o), (1, .int x1), (2, .int x2), (3, .int x3), (4, .int x4), (5, .int x5), (6, .int x6), (7, .int (nI 1))] [1, 2, 3, 4, 5, 6, 7, 0] rfl hv
set_option maxHeartbeats 4000000 in
theorem vX8_cycleFacts_34 {E : gk_E} {dd : Nat} {o : Nat} {x1 : Int32} {x2 : Int32} {x3 : Int32} {x4 : Int32} {x5 : Int32} {x6 : Int32} {x7 : Int32}  {h : gk_H} {K : Int32 → gk_H → Prop} (hv : LdI h o 8 0 fun v1 => (v1 ≤ x7 → pX8_cycleFacts_22 E dd o x1 x2 x3 x4 x5 (x6 + nI 1) h K) ∧ (¬ v1 ≤ x7 → (∃ fs, h[o]? = some (.inr (8, fs))) ∧ RnI E mX8_isLeastTurn (dd, 0, 0) [.ref o, .int x5, .int x6, .int x7] h (fun v2 h2 => (v2 = 0 → pX8_cycleFacts_34 E dd o x1 x2 x3 x4 x5 x6 (x7 + nI 1) h2 K) ∧ (¬ v2 = 0 → (∃ fs, h2[o]? = some (.inr (8, fs))) ∧ RnI E mX8_has (dd, 0, 0) [.ref o, .int x5, .int x6, .int x7] h2 (fun v3 h3 => (v3 = 0 → pX8_cycleFacts_34 E dd o x1 x2 (x3 + nI 1) x4 x5 x6 (x7 + nI 1) h3 K) ∧ (¬ v3 = 0 → (∃ fs, h3[o]? = some (.inr (8, fs))) ∧ RnL E mX8_turns (dd, 0, 0) [.ref o, .int x5, .int x6, .int x7] h3 (fun v4 h4 => RnI E J13_bitCount_95d88 (dd, 0, 0) [.long v4] h4 (fun v5 h5 => pX8_cycleFacts_34 E dd o x1 (x2 + nI 1) (x3 + nI 1) (if x4 < v5 then v5 else x4) x5 x6 (x7 + nI 1) h5 K)))))))) : pX8_cycleFacts_34 E dd o x1 x2 x3 x4 x5 x6 x7 h K := by
  show gk_G E mX8_cycleFacts (dd + 1, 0, 0) 34 [(0, .ref o), (1, .int x1), (2, .int x2), (3, .int x3), (4, .int x4), (5, .int x5), (6, .int x6), (7, .int x7)] [] h (fun o h1 => ∃ v, o = some (.int v) ∧ K v h1)
  refine gk_iload (pc := 34) dX8_cycleFacts_34 7 rfl ?_
  refine gk_aload_n (pc := 36) dX8_cycleFacts_36 0 rfl rfl ?_
  obtain ⟨fs1, v1, q1, r1, hv⟩ := hv
  refine gk_get (pc := 37) (.int v1) dX8_cycleFacts_37 fX8_9_8 q1 r1 ?_
  refine gk_icmp_ge (pc := 40) 101 dX8_cycleFacts_40 (by decide) (fun c => ?_) (fun c => ?_)
  · replace hv := hv.1 c
    refine gk_iinc (pc := 101) (x6 + nI 1) [(6, .int (x6 + nI 1)), (0, .ref o), (1, .int x1), (2, .int x2), (3, .int x3), (4, .int x4), (5, .int x5), (7, .int x7)] 6 dX8_cycleFacts_101 rfl (by rw [ci_1]) (Nat.le_of_ble_eq_true rfl) rfl ?_
    refine gk_goto (pc := 104) 22 dX8_cycleFacts_104 (by decide) ?_
    exact gk_pick (pc := 22) [(0, .ref o), (1, .int x1), (2, .int x2), (3, .int x3), (4, .int x4), (5, .int x5), (6, .int (x6 + nI 1))] [1, 2, 3, 4, 5, 6, 0] rfl hv
  · replace hv := hv.2 c
    refine gk_aload_n (pc := 43) dX8_cycleFacts_43 0 rfl rfl ?_
    refine gk_iload (pc := 44) dX8_cycleFacts_44 5 rfl ?_
    refine gk_iload (pc := 46) dX8_cycleFacts_46 6 rfl ?_
    refine gk_iload (pc := 48) dX8_cycleFacts_48 7 rfl ?_
    obtain ⟨⟨fs2, q2⟩, hv⟩ := hv
    refine gk_vV (pc := 50) [.int x5, .int x6, .int x7] [] dX8_cycleFacts_50 cvX8_68 q2 rfl rfl (Nat.le_of_ble_eq_true rfl) (Nat.le_of_ble_eq_true rfl) (gk_Run.post (fun o h2 z => ?_) hv)
    obtain ⟨v2, rfl, hv⟩ := z
    refine gk_if_eq (pc := 53) 95 dX8_cycleFacts_53 (by decide) (fun c => ?_) (fun c => ?_)
    · replace hv := hv.1 c
      refine gk_iinc (pc := 95) (x7 + nI 1) [(7, .int (x7 + nI 1)), (0, .ref o), (1, .int x1), (2, .int x2), (3, .int x3), (4, .int x4), (5, .int x5), (6, .int x6)] 7 dX8_cycleFacts_95 rfl (by rw [ci_1]) (Nat.le_of_ble_eq_true rfl) rfl ?_
      refine gk_goto (pc := 98) 34 dX8_cycleFacts_98 (by decide) ?_
      exact gk_pick (pc := 34) [(0, .ref o), (1, .int x1), (2, .int x2), (3, .int x3), (4, .int x4), (5, .int x5), (6, .int x6), (7, .int (x7 + nI 1))] [1, 2, 3, 4, 5, 6, 7, 0] rfl hv
    · replace hv := hv.2 c
      refine gk_iinc (pc := 56) (x3 + nI 1) [(3, .int (x3 + nI 1)), (0, .ref o), (1, .int x1), (2, .int x2), (4, .int x4), (5, .int x5), (6, .int x6), (7, .int x7)] 3 dX8_cycleFacts_56 rfl (by rw [ci_1]) (Nat.le_of_ble_eq_true rfl) rfl ?_
      refine gk_aload_n (pc := 59) dX8_cycleFacts_59 1 rfl rfl ?_
      refine gk_iload (pc := 60) dX8_cycleFacts_60 5 rfl ?_
      refine gk_iload (pc := 62) dX8_cycleFacts_62 6 rfl ?_
      refine gk_iload (pc := 64) dX8_cycleFacts_64 7 rfl ?_
      obtain ⟨⟨fs3, q3⟩, hv⟩ := hv
      refine gk_vV (pc := 66) [.int x5, .int x6, .int x7] [] dX8_cycleFacts_66 cvX8_71 q3 rfl rfl (Nat.le_of_ble_eq_true rfl) (Nat.le_of_ble_eq_true rfl) (gk_Run.post (fun o h3 z => ?_) hv)
      obtain ⟨v3, rfl, hv⟩ := z
      refine gk_if_eq (pc := 69) 95 dX8_cycleFacts_69 (by decide) (fun c => ?_) (fun c => ?_)
      · replace hv := hv.1 c
        refine gk_iinc (pc := 95) (x7 + nI 1) [(7, .int (x7 + nI 1)), (3, .int (x3 + nI 1)), (0, .ref o), (1, .int x1), (2, .int x2), (4, .int x4), (5, .int x5), (6, .int x6)] 7 dX8_cycleFacts_95 rfl (by rw [ci_1]) (Nat.le_of_ble_eq_true rfl) rfl ?_
        refine gk_goto (pc := 98) 34 dX8_cycleFacts_98 (by decide) ?_
        exact gk_pick (pc := 34) [(0, .ref o), (1, .int x1), (2, .int x2), (3, .int (x3 + nI 1)), (4, .int x4), (5, .int x5), (6, .int x6), (7, .int (x7 + nI 1))] [2, 3, 4, 1, 5, 6, 7, 0] rfl hv
      · replace hv := hv.2 c
        refine gk_iinc (pc := 72) (x2 + nI 1) [(2, .int (x2 + nI 1)), (3, .int (x3 + nI 1)), (0, .ref o), (1, .int x1), (4, .int x4), (5, .int x5), (6, .int x6), (7, .int x7)] 3 dX8_cycleFacts_72 rfl (by rw [ci_1]) (Nat.le_of_ble_eq_true rfl) rfl ?_
        refine gk_iload (pc := 75) dX8_cycleFacts_75 4 rfl ?_
        refine gk_aload_n (pc := 77) dX8_cycleFacts_77 2 rfl rfl ?_
        refine gk_iload (pc := 78) dX8_cycleFacts_78 5 rfl ?_
        refine gk_iload (pc := 80) dX8_cycleFacts_80 6 rfl ?_
        refine gk_iload (pc := 82) dX8_cycleFacts_82 7 rfl ?_
        obtain ⟨⟨fs4, q4⟩, hv⟩ := hv
        refine gk_vV (pc := 84) [.int x5, .int x6, .int x7] [.int x4] dX8_cycleFacts_84 cvX8_37 q4 rfl rfl (Nat.le_of_ble_eq_true rfl) (Nat.le_of_ble_eq_true rfl) (gk_Run.post (fun o h4 z => ?_) hv)
        obtain ⟨v4, rfl, hv⟩ := z
        refine gk_vS (pc := 87) [.long v4] [.int x4] dX8_cycleFacts_87 csX8_42 rfl rfl (Nat.le_of_ble_eq_true rfl) (Nat.le_of_ble_eq_true rfl) (gk_Run.post (fun o h5 z => ?_) hv)
        obtain ⟨v5, rfl, hv⟩ := z
        refine gk_max (pc := 90) dX8_cycleFacts_90 kw_587 kw_588 kw_98 kw_589 (Nat.le_of_ble_eq_true rfl) ?_
        refine gk_istore (pc := 93) [(4, .int (if x4 < v5 then v5 else x4)), (2, .int (x2 + nI 1)), (3, .int (x3 + nI 1)), (0, .ref o), (1, .int x1), (5, .int x5), (6, .int x6), (7, .int x7)] dX8_cycleFacts_93 (Nat.le_of_ble_eq_true rfl) rfl ?_
        refine gk_iinc (pc := 95) (x7 + nI 1) [(7, .int (x7 + nI 1)), (4, .int (if x4 < v5 then v5 else x4)), (2, .int (x2 + nI 1)), (3, .int (x3 + nI 1)), (0, .ref o), (1, .int x1), (5, .int x5), (6, .int x6)] 7 dX8_cycleFacts_95 rfl (by rw [ci_1]) (Nat.le_of_ble_eq_true rfl) rfl ?_
        refine gk_goto (pc := 98) 34 dX8_cycleFacts_98 (by decide) ?_
        exact gk_pick (pc := 34) [(0, .ref o), (1, .int x1), (2, .int (x2 + nI 1)), (3, .int (x3 + nI 1)), (4, .int (if x4 < v5 then v5 else x4)), (5, .int x5), (6, .int x6), (7, .int (x7 + nI 1))] [4, 5, 2, 3, 1, 6, 7, 0] rfl hv
set_option maxHeartbeats 4000000 in
theorem vX8_free_0 {E : gk_E} {dd : Nat} {o : Nat} {x1 : Int32}  {h : gk_H} {K : gk_H → Prop} (hv : LdR h o 8 1 fun v1 => AlI h v1 x1 fun v2 => LdR h o 8 1 fun v3 => AsI h v3 v2 v2 fun h4 => LdR h4 o 8 1 fun v5 => AsI h4 v5 x1 x1 fun h6 => K h6) : RnV E mX8_free (dd, 0, 0) [.ref o, .int x1] h K := by
  show gk_G E mX8_free (dd, 0, 0) 0 [(0, .ref o), (1, .int x1)] [] h (fun o h1 => o = none ∧ K h1)
  refine gk_aload_n (pc := 0) dX8_free_0 0 rfl rfl ?_
  obtain ⟨fs1, v1, q1, r1, hv⟩ := hv
  refine gk_get (pc := 1) (.ref v1) dX8_free_1 fX8_15_8 q1 r1 ?_
  refine gk_iload_n (pc := 4) dX8_free_4 1 rfl rfl ?_
  obtain ⟨n2, f2, q2, r2, hv⟩ := hv
  refine gk_iald (pc := 5) dX8_free_5 q2 r2 ?_
  generalize f2 _ = v2 at hv ⊢
  refine gk_istore_n (pc := 6) [(2, .int v2), (0, .ref o), (1, .int x1)] dX8_free_6 rfl (Nat.le_of_ble_eq_true rfl) rfl ?_
  refine gk_aload_n (pc := 7) dX8_free_7 1 rfl rfl ?_
  obtain ⟨fs3, v3, q3, r3, hv⟩ := hv
  refine gk_get (pc := 8) (.ref v3) dX8_free_8 fX8_15_8 q3 r3 ?_
  refine gk_iload_n (pc := 11) dX8_free_11 0 rfl rfl ?_
  refine gk_iload_n (pc := 12) dX8_free_12 0 rfl rfl ?_
  obtain ⟨n4, f4, q4, r4, hv⟩ := hv
  refine gk_iast (pc := 13) dX8_free_13 q4 r4 ?_
  generalize h.set _ _ = h4 at hv ⊢
  refine gk_aload_n (pc := 14) dX8_free_14 1 rfl rfl ?_
  obtain ⟨fs5, v5, q5, r5, hv⟩ := hv
  refine gk_get (pc := 15) (.ref v5) dX8_free_15 fX8_15_8 q5 r5 ?_
  refine gk_iload_n (pc := 18) dX8_free_18 2 rfl rfl ?_
  refine gk_iload_n (pc := 19) dX8_free_19 2 rfl rfl ?_
  obtain ⟨n6, f6, q6, r6, hv⟩ := hv
  refine gk_iast (pc := 20) dX8_free_20 q6 r6 ?_
  generalize h4.set _ _ = h6 at hv ⊢
  exact gk_return (pc := 21) dX8_free_21 rfl ⟨rfl, hv⟩
set_option maxHeartbeats 4000000 in
theorem vX8_has_0 {E : gk_E} {dd : Nat} {o : Nat} {x1 : Int32} {x2 : Int32} {x3 : Int32}  {h : gk_H} {K : Int32 → gk_H → Prop} (hv : LdL h o 8 2 fun v1 => (¬ (lg_cmp (((v1.toUInt64 >>> (((((nI 16) * x1) + ((nI 4) * x2)) + x3).toInt64.toUInt64 &&& Int64.toUInt64 63)).toInt64) &&& (lN 1)) (lN 1)) = 0 → K (nI 0) h) ∧ ((lg_cmp (((v1.toUInt64 >>> (((((nI 16) * x1) + ((nI 4) * x2)) + x3).toInt64.toUInt64 &&& Int64.toUInt64 63)).toInt64) &&& (lN 1)) (lN 1)) = 0 → K (nI 1) h)) : RnI E mX8_has (dd, 0, 0) [.ref o, .int x1, .int x2, .int x3] h K := by
  show gk_G E mX8_has (dd, 0, 0) 0 [(0, .ref o), (1, .int x1), (2, .int x2), (3, .int x3)] [] h (fun o h1 => ∃ v, o = some (.int v) ∧ K v h1)
  refine gk_aload_n (pc := 0) dX8_has_0 0 rfl rfl ?_
  obtain ⟨fs1, v1, q1, r1, hv⟩ := hv
  refine gk_get (pc := 1) (.long v1) dX8_has_1 fX8_19_8 q1 r1 ?_
  refine gk_bipush (pc := 4) (nI 16) dX8_has_4 cb_16 ?_
  refine gk_iload_n (pc := 6) dX8_has_6 1 rfl rfl ?_
  refine gk_imul (pc := 7) dX8_has_7 ?_
  refine gk_iconst (pc := 8) (nI 4) dX8_has_8 ci_4 ?_
  refine gk_iload_n (pc := 9) dX8_has_9 2 rfl rfl ?_
  refine gk_imul (pc := 10) dX8_has_10 ?_
  refine gk_iadd (pc := 11) dX8_has_11 ?_
  refine gk_iload_n (pc := 12) dX8_has_12 3 rfl rfl ?_
  refine gk_iadd (pc := 13) dX8_has_13 ?_
  refine gk_lushr (pc := 14) dX8_has_14 ?_
  refine gk_lconst (pc := 15) (lN 1) dX8_has_15 rfl ?_
  refine gk_land (pc := 16) dX8_has_16 ?_
  refine gk_lconst (pc := 17) (lN 1) dX8_has_17 rfl ?_
  refine gk_lcmp (pc := 18) dX8_has_18 ?_
  refine gk_if_ne (pc := 19) 26 dX8_has_19 (by decide) (fun c => ?_) (fun c => ?_)
  · replace hv := hv.1 c
    refine gk_iconst (pc := 26) (nI 0) dX8_has_26 ci_0 ?_
    exact gk_ireturn (pc := 27) .boolean dX8_has_27 rfl rfl ⟨_, rfl, hv⟩
  · replace hv := hv.2 c
    refine gk_iconst (pc := 22) (nI 1) dX8_has_22 ci_1 ?_
    refine gk_goto (pc := 23) 27 dX8_has_23 (by decide) ?_
    exact gk_ireturn (pc := 27) .boolean dX8_has_27 rfl rfl ⟨_, rfl, hv⟩
set_option maxHeartbeats 4000000 in
theorem vX8_isEquivalence_0 {E : gk_E} {dd : Nat} {o : Nat} {x1 : Int32}  {h : gk_H} {K : Int32 → gk_H → Prop} (hv : (¬ (x1 &&& (nI 1)) = (nI 1) → K (nI 0) h) ∧ ((x1 &&& (nI 1)) = (nI 1) → (∃ fs, h[o]? = some (.inr (8, fs))) ∧ RnI E mX8_mirrored (dd, 0, 0) [.ref o, .int x1] h (fun v1 h1 => (¬ v1 = x1 → K (nI 0) h1) ∧ (v1 = x1 → (∃ fs, h1[o]? = some (.inr (8, fs))) ∧ RnI E mX8_product (dd, 0, 0) [.ref o, .int x1, .int x1] h1 (fun v2 h2 => (¬ (v2 &&& (x1 ^^^ ((-1)))) = 0 → K (nI 0) h2) ∧ ((v2 &&& (x1 ^^^ ((-1)))) = 0 → K (nI 1) h2)))))) : RnI E mX8_isEquivalence (dd + 1, 0, 0) [.ref o, .int x1] h K := by
  show gk_G E mX8_isEquivalence (dd + 1, 0, 0) 0 [(0, .ref o), (1, .int x1)] [] h (fun o h1 => ∃ v, o = some (.int v) ∧ K v h1)
  refine gk_iload_n (pc := 0) dX8_isEquivalence_0 1 rfl rfl ?_
  refine gk_iconst (pc := 1) (nI 1) dX8_isEquivalence_1 ci_1 ?_
  refine gk_iand (pc := 2) dX8_isEquivalence_2 ?_
  refine gk_iconst (pc := 3) (nI 1) dX8_isEquivalence_3 ci_1 ?_
  refine gk_icmp_ne (pc := 4) 33 dX8_isEquivalence_4 (by decide) (fun c => ?_) (fun c => ?_)
  · replace hv := hv.1 c
    refine gk_iconst (pc := 33) (nI 0) dX8_isEquivalence_33 ci_0 ?_
    exact gk_ireturn (pc := 34) .boolean dX8_isEquivalence_34 rfl rfl ⟨_, rfl, hv⟩
  · replace hv := hv.2 c
    refine gk_aload_n (pc := 7) dX8_isEquivalence_7 0 rfl rfl ?_
    refine gk_iload_n (pc := 8) dX8_isEquivalence_8 1 rfl rfl ?_
    obtain ⟨⟨fs1, q1⟩, hv⟩ := hv
    refine gk_vV (pc := 9) [.int x1] [] dX8_isEquivalence_9 cvX8_60 q1 rfl rfl (Nat.le_of_ble_eq_true rfl) (Nat.le_of_ble_eq_true rfl) (gk_Run.post (fun o h1 z => ?_) hv)
    obtain ⟨v1, rfl, hv⟩ := z
    refine gk_iload_n (pc := 12) dX8_isEquivalence_12 1 rfl rfl ?_
    refine gk_icmp_ne (pc := 13) 33 dX8_isEquivalence_13 (by decide) (fun c => ?_) (fun c => ?_)
    · replace hv := hv.1 c
      refine gk_iconst (pc := 33) (nI 0) dX8_isEquivalence_33 ci_0 ?_
      exact gk_ireturn (pc := 34) .boolean dX8_isEquivalence_34 rfl rfl ⟨_, rfl, hv⟩
    · replace hv := hv.2 c
      refine gk_aload_n (pc := 16) dX8_isEquivalence_16 0 rfl rfl ?_
      refine gk_iload_n (pc := 17) dX8_isEquivalence_17 1 rfl rfl ?_
      refine gk_iload_n (pc := 18) dX8_isEquivalence_18 1 rfl rfl ?_
      obtain ⟨⟨fs2, q2⟩, hv⟩ := hv
      refine gk_vV (pc := 19) [.int x1, .int x1] [] dX8_isEquivalence_19 cvX8_48 q2 rfl rfl (Nat.le_of_ble_eq_true rfl) (Nat.le_of_ble_eq_true rfl) (gk_Run.post (fun o h2 z => ?_) hv)
      obtain ⟨v2, rfl, hv⟩ := z
      refine gk_iload_n (pc := 22) dX8_isEquivalence_22 1 rfl rfl ?_
      refine gk_iconst (pc := 23) ((-1)) dX8_isEquivalence_23 ci_m1 ?_
      refine gk_ixor (pc := 24) dX8_isEquivalence_24 ?_
      refine gk_iand (pc := 25) dX8_isEquivalence_25 ?_
      refine gk_if_ne (pc := 26) 33 dX8_isEquivalence_26 (by decide) (fun c => ?_) (fun c => ?_)
      · replace hv := hv.1 c
        refine gk_iconst (pc := 33) (nI 0) dX8_isEquivalence_33 ci_0 ?_
        exact gk_ireturn (pc := 34) .boolean dX8_isEquivalence_34 rfl rfl ⟨_, rfl, hv⟩
      · replace hv := hv.2 c
        refine gk_iconst (pc := 29) (nI 1) dX8_isEquivalence_29 ci_1 ?_
        refine gk_goto (pc := 30) 34 dX8_isEquivalence_30 (by decide) ?_
        exact gk_ireturn (pc := 34) .boolean dX8_isEquivalence_34 rfl rfl ⟨_, rfl, hv⟩
set_option maxHeartbeats 4000000 in
theorem vX8_isLeastTurn_0 {E : gk_E} {dd : Nat} {o : Nat} {x1 : Int32} {x2 : Int32} {x3 : Int32}  {h : gk_H} {K : Int32 → gk_H → Prop} (hv : (∃ fs, h[o]? = some (.inr (8, fs))) ∧ RnL E mX8_turns (dd, 0, 0) [.ref o, .int x1, .int x2, .int x3] h (fun v1 h1 => RnL E X8_bit (dd, 0, 0) [.int x1, .int x2, .int x3] h1 (fun v2 h2 => (¬ (lg_cmp (v1 &&& (-v1)) v2) = 0 → K (nI 0) h2) ∧ ((lg_cmp (v1 &&& (-v1)) v2) = 0 → K (nI 1) h2)))) : RnI E mX8_isLeastTurn (dd + 1, 0, 0) [.ref o, .int x1, .int x2, .int x3] h K := by
  show gk_G E mX8_isLeastTurn (dd + 1, 0, 0) 0 [(0, .ref o), (1, .int x1), (2, .int x2), (3, .int x3)] [] h (fun o h1 => ∃ v, o = some (.int v) ∧ K v h1)
  refine gk_aload_n (pc := 0) dX8_isLeastTurn_0 0 rfl rfl ?_
  refine gk_iload_n (pc := 1) dX8_isLeastTurn_1 1 rfl rfl ?_
  refine gk_iload_n (pc := 2) dX8_isLeastTurn_2 2 rfl rfl ?_
  refine gk_iload_n (pc := 3) dX8_isLeastTurn_3 3 rfl rfl ?_
  obtain ⟨⟨fs1, q1⟩, hv⟩ := hv
  refine gk_vV (pc := 4) [.int x1, .int x2, .int x3] [] dX8_isLeastTurn_4 cvX8_37 q1 rfl rfl (Nat.le_of_ble_eq_true rfl) (Nat.le_of_ble_eq_true rfl) (gk_Run.post (fun o h1 z => ?_) hv)
  obtain ⟨v1, rfl, hv⟩ := z
  refine gk_lstore (pc := 7) [(4, .long v1), (0, .ref o), (1, .int x1), (2, .int x2), (3, .int x3)] dX8_isLeastTurn_7 (Nat.le_of_ble_eq_true rfl) rfl ?_
  refine gk_lload (pc := 9) dX8_isLeastTurn_9 0 rfl ?_
  refine gk_lload (pc := 11) dX8_isLeastTurn_11 0 rfl ?_
  refine gk_lneg (pc := 13) dX8_isLeastTurn_13 ?_
  refine gk_land (pc := 14) dX8_isLeastTurn_14 ?_
  refine gk_iload_n (pc := 15) dX8_isLeastTurn_15 2 rfl rfl ?_
  refine gk_iload_n (pc := 16) dX8_isLeastTurn_16 3 rfl rfl ?_
  refine gk_iload_n (pc := 17) dX8_isLeastTurn_17 4 rfl rfl ?_
  refine gk_vS (pc := 18) [.int x1, .int x2, .int x3] [.long (v1 &&& (-v1))] dX8_isLeastTurn_18 csX8_33 rfl rfl (Nat.le_of_ble_eq_true rfl) (Nat.le_of_ble_eq_true rfl) (gk_Run.post (fun o h2 z => ?_) hv)
  obtain ⟨v2, rfl, hv⟩ := z
  refine gk_lcmp (pc := 21) dX8_isLeastTurn_21 ?_
  refine gk_if_ne (pc := 22) 29 dX8_isLeastTurn_22 (by decide) (fun c => ?_) (fun c => ?_)
  · replace hv := hv.1 c
    refine gk_iconst (pc := 29) (nI 0) dX8_isLeastTurn_29 ci_0 ?_
    exact gk_ireturn (pc := 30) .boolean dX8_isLeastTurn_30 rfl rfl ⟨_, rfl, hv⟩
  · replace hv := hv.2 c
    refine gk_iconst (pc := 25) (nI 1) dX8_isLeastTurn_25 ci_1 ?_
    refine gk_goto (pc := 26) 30 dX8_isLeastTurn_26 (by decide) ?_
    exact gk_ireturn (pc := 30) .boolean dX8_isLeastTurn_30 rfl rfl ⟨_, rfl, hv⟩
set_option maxHeartbeats 4000000 in
theorem vX8_isUnbalanced_0 {E : gk_E} {dd : Nat} {o : Nat} {x1 : Int32} {x2 : Int32} {x3 : Int32}  {h : gk_H} {K : Int32 → gk_H → Prop} (hv : (∃ fs, h[o]? = some (.inr (8, fs))) ∧ RnI E mX8_product (dd, 0, 0) [.ref o, .int ((nI 1) <<< (x1 &&& 31)), .int ((nI 1) <<< (x2 &&& 31))] h (fun v1 h1 => (∃ fs, h1[o]? = some (.inr (8, fs))) ∧ RnI E mX8_product (dd, 0, 0) [.ref o, .int v1, .int ((nI 1) <<< (x3 &&& 31))] h1 (fun v2 h2 => (∃ fs, h2[o]? = some (.inr (8, fs))) ∧ RnI E mX8_product (dd, 0, 0) [.ref o, .int ((nI 1) <<< (x2 &&& 31)), .int ((nI 1) <<< (x3 &&& 31))] h2 (fun v3 h3 => (∃ fs, h3[o]? = some (.inr (8, fs))) ∧ RnI E mX8_product (dd, 0, 0) [.ref o, .int ((nI 1) <<< (x1 &&& 31)), .int v3] h3 (fun v4 h4 => (v2 = v4 → K (nI 0) h4) ∧ (¬ v2 = v4 → K (nI 1) h4)))))) : RnI E mX8_isUnbalanced (dd + 1, 0, 0) [.ref o, .int x1, .int x2, .int x3] h K := by
  show gk_G E mX8_isUnbalanced (dd + 1, 0, 0) 0 [(0, .ref o), (1, .int x1), (2, .int x2), (3, .int x3)] [] h (fun o h1 => ∃ v, o = some (.int v) ∧ K v h1)
  refine gk_aload_n (pc := 0) dX8_isUnbalanced_0 0 rfl rfl ?_
  refine gk_aload_n (pc := 1) dX8_isUnbalanced_1 0 rfl rfl ?_
  refine gk_iconst (pc := 2) (nI 1) dX8_isUnbalanced_2 ci_1 ?_
  refine gk_iload_n (pc := 3) dX8_isUnbalanced_3 1 rfl rfl ?_
  refine gk_ishl (pc := 4) dX8_isUnbalanced_4 ?_
  refine gk_iconst (pc := 5) (nI 1) dX8_isUnbalanced_5 ci_1 ?_
  refine gk_iload_n (pc := 6) dX8_isUnbalanced_6 2 rfl rfl ?_
  refine gk_ishl (pc := 7) dX8_isUnbalanced_7 ?_
  obtain ⟨⟨fs1, q1⟩, hv⟩ := hv
  refine gk_vV (pc := 8) [.int ((nI 1) <<< (x1 &&& 31)), .int ((nI 1) <<< (x2 &&& 31))] [.ref o] dX8_isUnbalanced_8 cvX8_48 q1 rfl rfl (Nat.le_of_ble_eq_true rfl) (Nat.le_of_ble_eq_true rfl) (gk_Run.post (fun o h1 z => ?_) hv)
  obtain ⟨v1, rfl, hv⟩ := z
  refine gk_iconst (pc := 11) (nI 1) dX8_isUnbalanced_11 ci_1 ?_
  refine gk_iload_n (pc := 12) dX8_isUnbalanced_12 3 rfl rfl ?_
  refine gk_ishl (pc := 13) dX8_isUnbalanced_13 ?_
  obtain ⟨⟨fs2, q2⟩, hv⟩ := hv
  refine gk_vV (pc := 14) [.int v1, .int ((nI 1) <<< (x3 &&& 31))] [] dX8_isUnbalanced_14 cvX8_48 q2 rfl rfl (Nat.le_of_ble_eq_true rfl) (Nat.le_of_ble_eq_true rfl) (gk_Run.post (fun o h2 z => ?_) hv)
  obtain ⟨v2, rfl, hv⟩ := z
  refine gk_istore (pc := 17) [(4, .int v2), (0, .ref o), (1, .int x1), (2, .int x2), (3, .int x3)] dX8_isUnbalanced_17 (Nat.le_of_ble_eq_true rfl) rfl ?_
  refine gk_iload (pc := 19) dX8_isUnbalanced_19 0 rfl ?_
  refine gk_aload_n (pc := 21) dX8_isUnbalanced_21 1 rfl rfl ?_
  refine gk_iconst (pc := 22) (nI 1) dX8_isUnbalanced_22 ci_1 ?_
  refine gk_iload_n (pc := 23) dX8_isUnbalanced_23 2 rfl rfl ?_
  refine gk_ishl (pc := 24) dX8_isUnbalanced_24 ?_
  refine gk_aload_n (pc := 25) dX8_isUnbalanced_25 1 rfl rfl ?_
  refine gk_iconst (pc := 26) (nI 1) dX8_isUnbalanced_26 ci_1 ?_
  refine gk_iload_n (pc := 27) dX8_isUnbalanced_27 3 rfl rfl ?_
  refine gk_ishl (pc := 28) dX8_isUnbalanced_28 ?_
  refine gk_iconst (pc := 29) (nI 1) dX8_isUnbalanced_29 ci_1 ?_
  refine gk_iload_n (pc := 30) dX8_isUnbalanced_30 4 rfl rfl ?_
  refine gk_ishl (pc := 31) dX8_isUnbalanced_31 ?_
  obtain ⟨⟨fs3, q3⟩, hv⟩ := hv
  refine gk_vV (pc := 32) [.int ((nI 1) <<< (x2 &&& 31)), .int ((nI 1) <<< (x3 &&& 31))] [.int ((nI 1) <<< (x1 &&& 31)), .ref o, .int v2] dX8_isUnbalanced_32 cvX8_48 q3 rfl rfl (Nat.le_of_ble_eq_true rfl) (Nat.le_of_ble_eq_true rfl) (gk_Run.post (fun o h3 z => ?_) hv)
  obtain ⟨v3, rfl, hv⟩ := z
  obtain ⟨⟨fs4, q4⟩, hv⟩ := hv
  refine gk_vV (pc := 35) [.int ((nI 1) <<< (x1 &&& 31)), .int v3] [.int v2] dX8_isUnbalanced_35 cvX8_48 q4 rfl rfl (Nat.le_of_ble_eq_true rfl) (Nat.le_of_ble_eq_true rfl) (gk_Run.post (fun o h4 z => ?_) hv)
  obtain ⟨v4, rfl, hv⟩ := z
  refine gk_icmp_eq (pc := 38) 45 dX8_isUnbalanced_38 (by decide) (fun c => ?_) (fun c => ?_)
  · replace hv := hv.1 c
    refine gk_iconst (pc := 45) (nI 0) dX8_isUnbalanced_45 ci_0 ?_
    exact gk_ireturn (pc := 46) .boolean dX8_isUnbalanced_46 rfl rfl ⟨_, rfl, hv⟩
  · replace hv := hv.2 c
    refine gk_iconst (pc := 41) (nI 1) dX8_isUnbalanced_41 ci_1 ?_
    refine gk_goto (pc := 42) 46 dX8_isUnbalanced_42 (by decide) ?_
    exact gk_ireturn (pc := 46) .boolean dX8_isUnbalanced_46 rfl rfl ⟨_, rfl, hv⟩
abbrev pX8_keepFixed_7 (E : gk_E) (dd : Nat) (o : Nat) (x1 : Int32) (h : gk_H) (K : gk_H → Prop) : Prop := gk_G E mX8_keepFixed (dd + 1, 0, 0) 7 [(0, .ref o), (1, .int x1)] [] h (fun o h1 => o = none ∧ K h1)
set_option maxHeartbeats 4000000 in
theorem vX8_keepFixed_0 {E : gk_E} {dd : Nat} {o : Nat}  {h : gk_H} {K : gk_H → Prop} (hv : StL h o 8 2 (lN 0) fun h1 => pX8_keepFixed_7 E dd o (nI 0) h1 K) : RnV E mX8_keepFixed (dd + 1, 0, 0) [.ref o] h K := by
  show gk_G E mX8_keepFixed (dd + 1, 0, 0) 0 [(0, .ref o)] [] h (fun o h1 => o = none ∧ K h1)
  refine gk_aload_n (pc := 0) dX8_keepFixed_0 0 rfl rfl ?_
  refine gk_lconst (pc := 1) (lN 0) dX8_keepFixed_1 rfl ?_
  obtain ⟨fs1, q1, r1, hv⟩ := hv
  refine gk_put (pc := 2) dX8_keepFixed_2 fX8_19_8w q1 r1 rfl rfl ?_
  generalize h.set _ _ = h1 at hv ⊢
  refine gk_iconst (pc := 5) (nI 0) dX8_keepFixed_5 ci_0 ?_
  refine gk_istore_n (pc := 6) [(1, .int (nI 0)), (0, .ref o)] dX8_keepFixed_6 rfl (Nat.le_of_ble_eq_true rfl) rfl ?_
  exact gk_pick (pc := 7) [(0, .ref o), (1, .int (nI 0))] [1, 0] rfl hv
set_option maxHeartbeats 4000000 in
theorem vX8_keepFixed_7 {E : gk_E} {dd : Nat} {o : Nat} {x1 : Int32}  {h : gk_H} {K : gk_H → Prop} (hv : LdI h o 8 0 fun v1 => (v1 ≤ x1 → K h) ∧ (¬ v1 ≤ x1 → LdL h o 8 2 fun v2 => RnL E X8_bit (dd, 0, 0) [.int (nI 0), .int x1, .int x1] h (fun v3 h3 => RnL E X8_bit (dd, 0, 0) [.int x1, .int (nI 0), .int x1] h3 (fun v4 h4 => LdR h4 o 8 1 fun v5 => AlI h4 v5 x1 fun v6 => RnL E X8_bit (dd, 0, 0) [.int x1, .int v6, .int (nI 0)] h4 (fun v7 h7 => StL h7 o 8 2 (v2 ||| ((v3 ||| v4) ||| v7)) fun h8 => pX8_keepFixed_7 E dd o (x1 + nI 1) h8 K))))) : pX8_keepFixed_7 E dd o x1 h K := by
  show gk_G E mX8_keepFixed (dd + 1, 0, 0) 7 [(0, .ref o), (1, .int x1)] [] h (fun o h1 => o = none ∧ K h1)
  refine gk_iload_n (pc := 7) dX8_keepFixed_7 1 rfl rfl ?_
  refine gk_aload_n (pc := 8) dX8_keepFixed_8 0 rfl rfl ?_
  obtain ⟨fs1, v1, q1, r1, hv⟩ := hv
  refine gk_get (pc := 9) (.int v1) dX8_keepFixed_9 fX8_9_8 q1 r1 ?_
  refine gk_icmp_ge (pc := 12) 55 dX8_keepFixed_12 (by decide) (fun c => ?_) (fun c => ?_)
  · replace hv := hv.1 c
    exact gk_return (pc := 55) dX8_keepFixed_55 rfl ⟨rfl, hv⟩
  · replace hv := hv.2 c
    refine gk_aload_n (pc := 15) dX8_keepFixed_15 0 rfl rfl ?_
    refine gk_dup (pc := 16) dX8_keepFixed_16 rfl ?_
    obtain ⟨fs2, v2, q2, r2, hv⟩ := hv
    refine gk_get (pc := 17) (.long v2) dX8_keepFixed_17 fX8_19_8 q2 r2 ?_
    refine gk_iconst (pc := 20) (nI 0) dX8_keepFixed_20 ci_0 ?_
    refine gk_iload_n (pc := 21) dX8_keepFixed_21 1 rfl rfl ?_
    refine gk_iload_n (pc := 22) dX8_keepFixed_22 1 rfl rfl ?_
    refine gk_vS (pc := 23) [.int (nI 0), .int x1, .int x1] [.long v2, .ref o] dX8_keepFixed_23 csX8_33 rfl rfl (Nat.le_of_ble_eq_true rfl) (Nat.le_of_ble_eq_true rfl) (gk_Run.post (fun o h3 z => ?_) hv)
    obtain ⟨v3, rfl, hv⟩ := z
    refine gk_iload_n (pc := 26) dX8_keepFixed_26 1 rfl rfl ?_
    refine gk_iconst (pc := 27) (nI 0) dX8_keepFixed_27 ci_0 ?_
    refine gk_iload_n (pc := 28) dX8_keepFixed_28 1 rfl rfl ?_
    refine gk_vS (pc := 29) [.int x1, .int (nI 0), .int x1] [.long v3, .long v2, .ref o] dX8_keepFixed_29 csX8_33 rfl rfl (Nat.le_of_ble_eq_true rfl) (Nat.le_of_ble_eq_true rfl) (gk_Run.post (fun o h4 z => ?_) hv)
    obtain ⟨v4, rfl, hv⟩ := z
    refine gk_lor (pc := 32) dX8_keepFixed_32 ?_
    refine gk_iload_n (pc := 33) dX8_keepFixed_33 1 rfl rfl ?_
    refine gk_aload_n (pc := 34) dX8_keepFixed_34 0 rfl rfl ?_
    obtain ⟨fs5, v5, q5, r5, hv⟩ := hv
    refine gk_get (pc := 35) (.ref v5) dX8_keepFixed_35 fX8_15_8 q5 r5 ?_
    refine gk_iload_n (pc := 38) dX8_keepFixed_38 1 rfl rfl ?_
    obtain ⟨n6, f6, q6, r6, hv⟩ := hv
    refine gk_iald (pc := 39) dX8_keepFixed_39 q6 r6 ?_
    generalize f6 _ = v6 at hv ⊢
    refine gk_iconst (pc := 40) (nI 0) dX8_keepFixed_40 ci_0 ?_
    refine gk_vS (pc := 41) [.int x1, .int v6, .int (nI 0)] [.long (v3 ||| v4), .long v2, .ref o] dX8_keepFixed_41 csX8_33 rfl rfl (Nat.le_of_ble_eq_true rfl) (Nat.le_of_ble_eq_true rfl) (gk_Run.post (fun o h7 z => ?_) hv)
    obtain ⟨v7, rfl, hv⟩ := z
    refine gk_lor (pc := 44) dX8_keepFixed_44 ?_
    refine gk_lor (pc := 45) dX8_keepFixed_45 ?_
    obtain ⟨fs8, q8, r8, hv⟩ := hv
    refine gk_put (pc := 46) dX8_keepFixed_46 fX8_19_8w q8 r8 rfl rfl ?_
    generalize h7.set _ _ = h8 at hv ⊢
    refine gk_iinc (pc := 49) (x1 + nI 1) [(1, .int (x1 + nI 1)), (0, .ref o)] 1 dX8_keepFixed_49 rfl (by rw [ci_1]) (Nat.le_of_ble_eq_true rfl) rfl ?_
    refine gk_goto (pc := 52) 7 dX8_keepFixed_52 (by decide) ?_
    exact gk_pick (pc := 7) [(0, .ref o), (1, .int (x1 + nI 1))] [1, 0] rfl hv
set_option maxHeartbeats 4000000 in
theorem vX8_mark_0 {E : gk_E} {dd : Nat} {o : Nat} {x1 : Int32} {x2 : Int32} {x3 : Int32} {x4 : Int32}  {h : gk_H} {K : Int32 → gk_H → Prop} (hv : (∃ fs, h[o]? = some (.inr (8, fs))) ∧ RnL E mX8_turns (dd, 0, 0) [.ref o, .int x1, .int x2, .int x3] h (fun v1 h1 => LdL h1 o 8 2 fun v2 => (x4 = 0 → LdL h1 o 8 2 fun v3 => StL h1 o 8 2 (v3 &&& (v1 ^^^ ((-1)))) fun h4 => LdL h4 o 8 2 fun v5 => RnI E J13_bitCount_95d88 (dd, 0, 0) [.long (v2 ^^^ v5)] h4 (fun v6 h6 => K v6 h6)) ∧ (¬ x4 = 0 → LdL h1 o 8 2 fun v7 => StL h1 o 8 2 (v7 ||| v1) fun h8 => LdL h8 o 8 2 fun v9 => RnI E J13_bitCount_95d88 (dd, 0, 0) [.long (v2 ^^^ v9)] h8 (fun v10 h10 => K v10 h10)))) : RnI E mX8_mark (dd + 1, 0, 0) [.ref o, .int x1, .int x2, .int x3, .int x4] h K := by
  show gk_G E mX8_mark (dd + 1, 0, 0) 0 [(0, .ref o), (1, .int x1), (2, .int x2), (3, .int x3), (4, .int x4)] [] h (fun o h1 => ∃ v, o = some (.int v) ∧ K v h1)
  refine gk_aload_n (pc := 0) dX8_mark_0 0 rfl rfl ?_
  refine gk_iload_n (pc := 1) dX8_mark_1 1 rfl rfl ?_
  refine gk_iload_n (pc := 2) dX8_mark_2 2 rfl rfl ?_
  refine gk_iload_n (pc := 3) dX8_mark_3 3 rfl rfl ?_
  obtain ⟨⟨fs1, q1⟩, hv⟩ := hv
  refine gk_vV (pc := 4) [.int x1, .int x2, .int x3] [] dX8_mark_4 cvX8_37 q1 rfl rfl (Nat.le_of_ble_eq_true rfl) (Nat.le_of_ble_eq_true rfl) (gk_Run.post (fun o h1 z => ?_) hv)
  obtain ⟨v1, rfl, hv⟩ := z
  refine gk_lstore (pc := 7) [(5, .long v1), (0, .ref o), (1, .int x1), (2, .int x2), (3, .int x3), (4, .int x4)] dX8_mark_7 (Nat.le_of_ble_eq_true rfl) rfl ?_
  refine gk_aload_n (pc := 9) dX8_mark_9 1 rfl rfl ?_
  obtain ⟨fs2, v2, q2, r2, hv⟩ := hv
  refine gk_get (pc := 10) (.long v2) dX8_mark_10 fX8_19_8 q2 r2 ?_
  refine gk_lstore (pc := 13) [(7, .long v2), (5, .long v1), (0, .ref o), (1, .int x1), (2, .int x2), (3, .int x3), (4, .int x4)] dX8_mark_13 (Nat.le_of_ble_eq_true rfl) rfl ?_
  refine gk_aload_n (pc := 15) dX8_mark_15 2 rfl rfl ?_
  refine gk_iload (pc := 16) dX8_mark_16 6 rfl ?_
  refine gk_if_eq (pc := 18) 31 dX8_mark_18 (by decide) (fun c => ?_) (fun c => ?_)
  · replace hv := hv.1 c
    refine gk_aload_n (pc := 31) dX8_mark_31 2 rfl rfl ?_
    obtain ⟨fs3, v3, q3, r3, hv⟩ := hv
    refine gk_get (pc := 32) (.long v3) dX8_mark_32 fX8_19_8 q3 r3 ?_
    refine gk_lload (pc := 35) dX8_mark_35 1 rfl ?_
    refine gk_ldc2 (pc := 37) ((-1)) dX8_mark_37 klX8_40 ?_
    refine gk_lxor (pc := 40) dX8_mark_40 ?_
    refine gk_land (pc := 41) dX8_mark_41 ?_
    obtain ⟨fs4, q4, r4, hv⟩ := hv
    refine gk_put (pc := 42) dX8_mark_42 fX8_19_8w q4 r4 rfl rfl ?_
    generalize h1.set _ _ = h4 at hv ⊢
    refine gk_lload (pc := 45) dX8_mark_45 0 rfl ?_
    refine gk_aload_n (pc := 47) dX8_mark_47 2 rfl rfl ?_
    obtain ⟨fs5, v5, q5, r5, hv⟩ := hv
    refine gk_get (pc := 48) (.long v5) dX8_mark_48 fX8_19_8 q5 r5 ?_
    refine gk_lxor (pc := 51) dX8_mark_51 ?_
    refine gk_vS (pc := 52) [.long (v2 ^^^ v5)] [] dX8_mark_52 csX8_42 rfl rfl (Nat.le_of_ble_eq_true rfl) (Nat.le_of_ble_eq_true rfl) (gk_Run.post (fun o h6 z => ?_) hv)
    obtain ⟨v6, rfl, hv⟩ := z
    exact gk_ireturn (pc := 55) .int dX8_mark_55 rfl rfl ⟨_, rfl, hv⟩
  · replace hv := hv.2 c
    refine gk_aload_n (pc := 21) dX8_mark_21 2 rfl rfl ?_
    obtain ⟨fs7, v7, q7, r7, hv⟩ := hv
    refine gk_get (pc := 22) (.long v7) dX8_mark_22 fX8_19_8 q7 r7 ?_
    refine gk_lload (pc := 25) dX8_mark_25 1 rfl ?_
    refine gk_lor (pc := 27) dX8_mark_27 ?_
    refine gk_goto (pc := 28) 42 dX8_mark_28 (by decide) ?_
    obtain ⟨fs8, q8, r8, hv⟩ := hv
    refine gk_put (pc := 42) dX8_mark_42 fX8_19_8w q8 r8 rfl rfl ?_
    generalize h1.set _ _ = h8 at hv ⊢
    refine gk_lload (pc := 45) dX8_mark_45 0 rfl ?_
    refine gk_aload_n (pc := 47) dX8_mark_47 2 rfl rfl ?_
    obtain ⟨fs9, v9, q9, r9, hv⟩ := hv
    refine gk_get (pc := 48) (.long v9) dX8_mark_48 fX8_19_8 q9 r9 ?_
    refine gk_lxor (pc := 51) dX8_mark_51 ?_
    refine gk_vS (pc := 52) [.long (v2 ^^^ v9)] [] dX8_mark_52 csX8_42 rfl rfl (Nat.le_of_ble_eq_true rfl) (Nat.le_of_ble_eq_true rfl) (gk_Run.post (fun o h10 z => ?_) hv)
    obtain ⟨v10, rfl, hv⟩ := z
    exact gk_ireturn (pc := 55) .int dX8_mark_55 rfl rfl ⟨_, rfl, hv⟩
abbrev pX8_mirrored_4 (E : gk_E) (dd : Nat) (o : Nat) (x1 : Int32) (x2 : Int32) (x3 : Int32) (h : gk_H) (K : Int32 → gk_H → Prop) : Prop := gk_G E mX8_mirrored (dd, 0, 0) 4 [(0, .ref o), (1, .int x1), (2, .int x2), (3, .int x3)] [] h (fun o h1 => ∃ v, o = some (.int v) ∧ K v h1)
set_option maxHeartbeats 4000000 in
theorem vX8_mirrored_0 {E : gk_E} {dd : Nat} {o : Nat} {x1 : Int32}  {h : gk_H} {K : Int32 → gk_H → Prop} (hv : pX8_mirrored_4 E dd o x1 (nI 0) (nI 0) h K) : RnI E mX8_mirrored (dd, 0, 0) [.ref o, .int x1] h K := by
  show gk_G E mX8_mirrored (dd, 0, 0) 0 [(0, .ref o), (1, .int x1)] [] h (fun o h1 => ∃ v, o = some (.int v) ∧ K v h1)
  refine gk_iconst (pc := 0) (nI 0) dX8_mirrored_0 ci_0 ?_
  refine gk_istore_n (pc := 1) [(2, .int (nI 0)), (0, .ref o), (1, .int x1)] dX8_mirrored_1 rfl (Nat.le_of_ble_eq_true rfl) rfl ?_
  refine gk_iconst (pc := 2) (nI 0) dX8_mirrored_2 ci_0 ?_
  refine gk_istore_n (pc := 3) [(3, .int (nI 0)), (2, .int (nI 0)), (0, .ref o), (1, .int x1)] dX8_mirrored_3 rfl (Nat.le_of_ble_eq_true rfl) rfl ?_
  exact gk_pick (pc := 4) [(0, .ref o), (1, .int x1), (2, .int (nI 0)), (3, .int (nI 0))] [2, 3, 1, 0] rfl hv
set_option maxHeartbeats 4000000 in
theorem vX8_mirrored_4 {E : gk_E} {dd : Nat} {o : Nat} {x1 : Int32} {x2 : Int32} {x3 : Int32}  {h : gk_H} {K : Int32 → gk_H → Prop} (hv : LdI h o 8 0 fun v1 => (v1 ≤ x3 → K x2 h) ∧ (¬ v1 ≤ x3 → (¬ ((x1 >>> (x3 &&& 31)) &&& (nI 1)) = (nI 1) → pX8_mirrored_4 E dd o x1 x2 (x3 + nI 1) h K) ∧ (((x1 >>> (x3 &&& 31)) &&& (nI 1)) = (nI 1) → LdR h o 8 1 fun v2 => AlI h v2 x3 fun v3 => pX8_mirrored_4 E dd o x1 (x2 ||| ((nI 1) <<< (v3 &&& 31))) (x3 + nI 1) h K))) : pX8_mirrored_4 E dd o x1 x2 x3 h K := by
  show gk_G E mX8_mirrored (dd, 0, 0) 4 [(0, .ref o), (1, .int x1), (2, .int x2), (3, .int x3)] [] h (fun o h1 => ∃ v, o = some (.int v) ∧ K v h1)
  refine gk_iload_n (pc := 4) dX8_mirrored_4 3 rfl rfl ?_
  refine gk_aload_n (pc := 5) dX8_mirrored_5 0 rfl rfl ?_
  obtain ⟨fs1, v1, q1, r1, hv⟩ := hv
  refine gk_get (pc := 6) (.int v1) dX8_mirrored_6 fX8_9_8 q1 r1 ?_
  refine gk_icmp_ge (pc := 9) 38 dX8_mirrored_9 (by decide) (fun c => ?_) (fun c => ?_)
  · replace hv := hv.1 c
    refine gk_iload_n (pc := 38) dX8_mirrored_38 2 rfl rfl ?_
    exact gk_ireturn (pc := 39) .int dX8_mirrored_39 rfl rfl ⟨_, rfl, hv⟩
  · replace hv := hv.2 c
    refine gk_iload_n (pc := 12) dX8_mirrored_12 1 rfl rfl ?_
    refine gk_iload_n (pc := 13) dX8_mirrored_13 3 rfl rfl ?_
    refine gk_ishr (pc := 14) dX8_mirrored_14 ?_
    refine gk_iconst (pc := 15) (nI 1) dX8_mirrored_15 ci_1 ?_
    refine gk_iand (pc := 16) dX8_mirrored_16 ?_
    refine gk_iconst (pc := 17) (nI 1) dX8_mirrored_17 ci_1 ?_
    refine gk_icmp_ne (pc := 18) 32 dX8_mirrored_18 (by decide) (fun c => ?_) (fun c => ?_)
    · replace hv := hv.1 c
      refine gk_iinc (pc := 32) (x3 + nI 1) [(3, .int (x3 + nI 1)), (0, .ref o), (1, .int x1), (2, .int x2)] 3 dX8_mirrored_32 rfl (by rw [ci_1]) (Nat.le_of_ble_eq_true rfl) rfl ?_
      refine gk_goto (pc := 35) 4 dX8_mirrored_35 (by decide) ?_
      exact gk_pick (pc := 4) [(0, .ref o), (1, .int x1), (2, .int x2), (3, .int (x3 + nI 1))] [1, 2, 3, 0] rfl hv
    · replace hv := hv.2 c
      refine gk_iload_n (pc := 21) dX8_mirrored_21 2 rfl rfl ?_
      refine gk_iconst (pc := 22) (nI 1) dX8_mirrored_22 ci_1 ?_
      refine gk_aload_n (pc := 23) dX8_mirrored_23 0 rfl rfl ?_
      obtain ⟨fs2, v2, q2, r2, hv⟩ := hv
      refine gk_get (pc := 24) (.ref v2) dX8_mirrored_24 fX8_15_8 q2 r2 ?_
      refine gk_iload_n (pc := 27) dX8_mirrored_27 3 rfl rfl ?_
      obtain ⟨n3, f3, q3, r3, hv⟩ := hv
      refine gk_iald (pc := 28) dX8_mirrored_28 q3 r3 ?_
      generalize f3 _ = v3 at hv ⊢
      refine gk_ishl (pc := 29) dX8_mirrored_29 ?_
      refine gk_ior (pc := 30) dX8_mirrored_30 ?_
      refine gk_istore_n (pc := 31) [(2, .int (x2 ||| ((nI 1) <<< (v3 &&& 31)))), (0, .ref o), (1, .int x1), (3, .int x3)] dX8_mirrored_31 rfl (Nat.le_of_ble_eq_true rfl) rfl ?_
      refine gk_iinc (pc := 32) (x3 + nI 1) [(3, .int (x3 + nI 1)), (2, .int (x2 ||| ((nI 1) <<< (v3 &&& 31)))), (0, .ref o), (1, .int x1)] 3 dX8_mirrored_32 rfl (by rw [ci_1]) (Nat.le_of_ble_eq_true rfl) rfl ?_
      refine gk_goto (pc := 35) 4 dX8_mirrored_35 (by decide) ?_
      exact gk_pick (pc := 4) [(0, .ref o), (1, .int x1), (2, .int (x2 ||| ((nI 1) <<< (v3 &&& 31)))), (3, .int (x3 + nI 1))] [2, 3, 1, 0] rfl hv
abbrev pX8_pairsInto_4 (E : gk_E) (dd : Nat) (o : Nat) (x1 : Int32) (x2 : Int32) (x3 : Int32) (h : gk_H) (K : Int32 → gk_H → Prop) : Prop := gk_G E mX8_pairsInto (dd + 1, 0, 0) 4 [(0, .ref o), (1, .int x1), (2, .int x2), (3, .int x3)] [] h (fun o h1 => ∃ v, o = some (.int v) ∧ K v h1)
abbrev pX8_pairsInto_15 (E : gk_E) (dd : Nat) (o : Nat) (x1 : Int32) (x2 : Int32) (x3 : Int32) (x4 : Int32) (h : gk_H) (K : Int32 → gk_H → Prop) : Prop := gk_G E mX8_pairsInto (dd + 1, 0, 0) 15 [(0, .ref o), (1, .int x1), (2, .int x2), (3, .int x3), (4, .int x4)] [] h (fun o h1 => ∃ v, o = some (.int v) ∧ K v h1)
set_option maxHeartbeats 4000000 in
theorem vX8_pairsInto_0 {E : gk_E} {dd : Nat} {o : Nat} {x1 : Int32}  {h : gk_H} {K : Int32 → gk_H → Prop} (hv : pX8_pairsInto_4 E dd o x1 (nI 0) (nI 0) h K) : RnI E mX8_pairsInto (dd + 1, 0, 0) [.ref o, .int x1] h K := by
  show gk_G E mX8_pairsInto (dd + 1, 0, 0) 0 [(0, .ref o), (1, .int x1)] [] h (fun o h1 => ∃ v, o = some (.int v) ∧ K v h1)
  refine gk_iconst (pc := 0) (nI 0) dX8_pairsInto_0 ci_0 ?_
  refine gk_istore_n (pc := 1) [(2, .int (nI 0)), (0, .ref o), (1, .int x1)] dX8_pairsInto_1 rfl (Nat.le_of_ble_eq_true rfl) rfl ?_
  refine gk_iconst (pc := 2) (nI 0) dX8_pairsInto_2 ci_0 ?_
  refine gk_istore_n (pc := 3) [(3, .int (nI 0)), (2, .int (nI 0)), (0, .ref o), (1, .int x1)] dX8_pairsInto_3 rfl (Nat.le_of_ble_eq_true rfl) rfl ?_
  exact gk_pick (pc := 4) [(0, .ref o), (1, .int x1), (2, .int (nI 0)), (3, .int (nI 0))] [2, 3, 1, 0] rfl hv
set_option maxHeartbeats 4000000 in
theorem vX8_pairsInto_4 {E : gk_E} {dd : Nat} {o : Nat} {x1 : Int32} {x2 : Int32} {x3 : Int32}  {h : gk_H} {K : Int32 → gk_H → Prop} (hv : LdI h o 8 0 fun v1 => (v1 ≤ x3 → K x2 h) ∧ (¬ v1 ≤ x3 → pX8_pairsInto_15 E dd o x1 x2 x3 (nI 0) h K)) : pX8_pairsInto_4 E dd o x1 x2 x3 h K := by
  show gk_G E mX8_pairsInto (dd + 1, 0, 0) 4 [(0, .ref o), (1, .int x1), (2, .int x2), (3, .int x3)] [] h (fun o h1 => ∃ v, o = some (.int v) ∧ K v h1)
  refine gk_iload_n (pc := 4) dX8_pairsInto_4 3 rfl rfl ?_
  refine gk_aload_n (pc := 5) dX8_pairsInto_5 0 rfl rfl ?_
  obtain ⟨fs1, v1, q1, r1, hv⟩ := hv
  refine gk_get (pc := 6) (.int v1) dX8_pairsInto_6 fX8_9_8 q1 r1 ?_
  refine gk_icmp_ge (pc := 9) 58 dX8_pairsInto_9 (by decide) (fun c => ?_) (fun c => ?_)
  · replace hv := hv.1 c
    refine gk_iload_n (pc := 58) dX8_pairsInto_58 2 rfl rfl ?_
    exact gk_ireturn (pc := 59) .int dX8_pairsInto_59 rfl rfl ⟨_, rfl, hv⟩
  · replace hv := hv.2 c
    refine gk_iconst (pc := 12) (nI 0) dX8_pairsInto_12 ci_0 ?_
    refine gk_istore (pc := 13) [(4, .int (nI 0)), (0, .ref o), (1, .int x1), (2, .int x2), (3, .int x3)] dX8_pairsInto_13 (Nat.le_of_ble_eq_true rfl) rfl ?_
    exact gk_pick (pc := 15) [(0, .ref o), (1, .int x1), (2, .int x2), (3, .int x3), (4, .int (nI 0))] [1, 2, 3, 4, 0] rfl hv
set_option maxHeartbeats 4000000 in
theorem vX8_pairsInto_15 {E : gk_E} {dd : Nat} {o : Nat} {x1 : Int32} {x2 : Int32} {x3 : Int32} {x4 : Int32}  {h : gk_H} {K : Int32 → gk_H → Prop} (hv : LdI h o 8 0 fun v1 => (v1 ≤ x4 → pX8_pairsInto_4 E dd o x1 x2 (x3 + nI 1) h K) ∧ (¬ v1 ≤ x4 → (∃ fs, h[o]? = some (.inr (8, fs))) ∧ RnI E mX8_has (dd, 0, 0) [.ref o, .int x3, .int x4, .int x1] h (fun v2 h2 => (v2 = 0 → pX8_pairsInto_15 E dd o x1 x2 x3 (x4 + nI 1) h2 K) ∧ (¬ v2 = 0 → pX8_pairsInto_15 E dd o x1 (x2 ||| ((nI 1) <<< ((((nI 4) * x3) + x4) &&& 31))) x3 (x4 + nI 1) h2 K)))) : pX8_pairsInto_15 E dd o x1 x2 x3 x4 h K := by
  show gk_G E mX8_pairsInto (dd + 1, 0, 0) 15 [(0, .ref o), (1, .int x1), (2, .int x2), (3, .int x3), (4, .int x4)] [] h (fun o h1 => ∃ v, o = some (.int v) ∧ K v h1)
  refine gk_iload (pc := 15) dX8_pairsInto_15 4 rfl ?_
  refine gk_aload_n (pc := 17) dX8_pairsInto_17 0 rfl rfl ?_
  obtain ⟨fs1, v1, q1, r1, hv⟩ := hv
  refine gk_get (pc := 18) (.int v1) dX8_pairsInto_18 fX8_9_8 q1 r1 ?_
  refine gk_icmp_ge (pc := 21) 52 dX8_pairsInto_21 (by decide) (fun c => ?_) (fun c => ?_)
  · replace hv := hv.1 c
    refine gk_iinc (pc := 52) (x3 + nI 1) [(3, .int (x3 + nI 1)), (0, .ref o), (1, .int x1), (2, .int x2), (4, .int x4)] 3 dX8_pairsInto_52 rfl (by rw [ci_1]) (Nat.le_of_ble_eq_true rfl) rfl ?_
    refine gk_goto (pc := 55) 4 dX8_pairsInto_55 (by decide) ?_
    exact gk_pick (pc := 4) [(0, .ref o), (1, .int x1), (2, .int x2), (3, .int (x3 + nI 1))] [1, 2, 3, 0] rfl hv
  · replace hv := hv.2 c
    refine gk_aload_n (pc := 24) dX8_pairsInto_24 0 rfl rfl ?_
    refine gk_iload_n (pc := 25) dX8_pairsInto_25 3 rfl rfl ?_
    refine gk_iload (pc := 26) dX8_pairsInto_26 4 rfl ?_
    refine gk_iload_n (pc := 28) dX8_pairsInto_28 1 rfl rfl ?_
    obtain ⟨⟨fs2, q2⟩, hv⟩ := hv
    refine gk_vV (pc := 29) [.int x3, .int x4, .int x1] [] dX8_pairsInto_29 cvX8_71 q2 rfl rfl (Nat.le_of_ble_eq_true rfl) (Nat.le_of_ble_eq_true rfl) (gk_Run.post (fun o h2 z => ?_) hv)
    obtain ⟨v2, rfl, hv⟩ := z
    refine gk_if_eq (pc := 32) 46 dX8_pairsInto_32 (by decide) (fun c => ?_) (fun c => ?_)
    · replace hv := hv.1 c
      refine gk_iinc (pc := 46) (x4 + nI 1) [(4, .int (x4 + nI 1)), (0, .ref o), (1, .int x1), (2, .int x2), (3, .int x3)] 4 dX8_pairsInto_46 rfl (by rw [ci_1]) (Nat.le_of_ble_eq_true rfl) rfl ?_
      refine gk_goto (pc := 49) 15 dX8_pairsInto_49 (by decide) ?_
      exact gk_pick (pc := 15) [(0, .ref o), (1, .int x1), (2, .int x2), (3, .int x3), (4, .int (x4 + nI 1))] [1, 2, 3, 4, 0] rfl hv
    · replace hv := hv.2 c
      refine gk_iload_n (pc := 35) dX8_pairsInto_35 2 rfl rfl ?_
      refine gk_iconst (pc := 36) (nI 1) dX8_pairsInto_36 ci_1 ?_
      refine gk_iconst (pc := 37) (nI 4) dX8_pairsInto_37 ci_4 ?_
      refine gk_iload_n (pc := 38) dX8_pairsInto_38 3 rfl rfl ?_
      refine gk_imul (pc := 39) dX8_pairsInto_39 ?_
      refine gk_iload (pc := 40) dX8_pairsInto_40 4 rfl ?_
      refine gk_iadd (pc := 42) dX8_pairsInto_42 ?_
      refine gk_ishl (pc := 43) dX8_pairsInto_43 ?_
      refine gk_ior (pc := 44) dX8_pairsInto_44 ?_
      refine gk_istore_n (pc := 45) [(2, .int (x2 ||| ((nI 1) <<< ((((nI 4) * x3) + x4) &&& 31)))), (0, .ref o), (1, .int x1), (3, .int x3), (4, .int x4)] dX8_pairsInto_45 rfl (Nat.le_of_ble_eq_true rfl) rfl ?_
      refine gk_iinc (pc := 46) (x4 + nI 1) [(4, .int (x4 + nI 1)), (2, .int (x2 ||| ((nI 1) <<< ((((nI 4) * x3) + x4) &&& 31)))), (0, .ref o), (1, .int x1), (3, .int x3)] 4 dX8_pairsInto_46 rfl (by rw [ci_1]) (Nat.le_of_ble_eq_true rfl) rfl ?_
      refine gk_goto (pc := 49) 15 dX8_pairsInto_49 (by decide) ?_
      exact gk_pick (pc := 15) [(0, .ref o), (1, .int x1), (2, .int (x2 ||| ((nI 1) <<< ((((nI 4) * x3) + x4) &&& 31)))), (3, .int x3), (4, .int (x4 + nI 1))] [2, 3, 1, 4, 0] rfl hv
abbrev pX8_powers_8 (E : gk_E) (dd : Nat) (o : Nat) (x1 : Int32) (x2 : Int32) (x3 : Int32) (x4 : Int32) (x5 : Int32) (h : gk_H) (K : Int32 → gk_H → Prop) : Prop := gk_G E mX8_powers (dd + 1, 0, 0) 8 [(0, .ref o), (1, .int x1), (2, .int x2), (3, .int x3), (4, .int x4), (5, .int x5)] [] h (fun o h1 => ∃ v, o = some (.int v) ∧ K v h1)
abbrev pX8_powers_54 (E : gk_E) (dd : Nat) (o : Nat) (x1 : Int32) (x2 : Int32) (x3 : Int32) (x4 : Int32) (x5 : Int32) (x6 : Int32) (x7 : Int32) (h : gk_H) (K : Int32 → gk_H → Prop) : Prop := gk_G E mX8_powers (dd + 1, 0, 0) 54 [(0, .ref o), (1, .int x1), (2, .int x2), (3, .int x3), (4, .int x4), (5, .int x5), (6, .int x6), (7, .int x7)] [] h (fun o h1 => ∃ v, o = some (.int v) ∧ K v h1)
set_option maxHeartbeats 4000000 in
theorem vX8_powers_0 {E : gk_E} {dd : Nat} {o : Nat} {x1 : Int32} {x2 : Int32}  {h : gk_H} {K : Int32 → gk_H → Prop} (hv : pX8_powers_8 E dd o x1 x2 (nI 0) x1 (nI 0) h K) : RnI E mX8_powers (dd + 1, 0, 0) [.ref o, .int x1, .int x2] h K := by
  show gk_G E mX8_powers (dd + 1, 0, 0) 0 [(0, .ref o), (1, .int x1), (2, .int x2)] [] h (fun o h1 => ∃ v, o = some (.int v) ∧ K v h1)
  refine gk_iconst (pc := 0) (nI 0) dX8_powers_0 ci_0 ?_
  refine gk_istore_n (pc := 1) [(3, .int (nI 0)), (0, .ref o), (1, .int x1), (2, .int x2)] dX8_powers_1 rfl (Nat.le_of_ble_eq_true rfl) rfl ?_
  refine gk_iload_n (pc := 2) dX8_powers_2 2 rfl rfl ?_
  refine gk_istore (pc := 3) [(4, .int x1), (3, .int (nI 0)), (0, .ref o), (1, .int x1), (2, .int x2)] dX8_powers_3 (Nat.le_of_ble_eq_true rfl) rfl ?_
  refine gk_iconst (pc := 5) (nI 0) dX8_powers_5 ci_0 ?_
  refine gk_istore (pc := 6) [(5, .int (nI 0)), (4, .int x1), (3, .int (nI 0)), (0, .ref o), (1, .int x1), (2, .int x2)] dX8_powers_6 (Nat.le_of_ble_eq_true rfl) rfl ?_
  exact gk_pick (pc := 8) [(0, .ref o), (1, .int x1), (2, .int x2), (3, .int (nI 0)), (4, .int x1), (5, .int (nI 0))] [3, 4, 5, 2, 1, 0] rfl hv
set_option maxHeartbeats 4000000 in
theorem vX8_powers_8 {E : gk_E} {dd : Nat} {o : Nat} {x1 : Int32} {x2 : Int32} {x3 : Int32} {x4 : Int32} {x5 : Int32}  {h : gk_H} {K : Int32 → gk_H → Prop} (hv : (∃ fs, h[o]? = some (.inr (8, fs))) ∧ RnI E mX8_relations (dd, 0, 0) [.ref o] h (fun v1 h1 => (v1 ≤ x5 → pX8_powers_54 E dd o x1 x2 x3 x4 x5 (nI 0) x1 h1 K) ∧ (¬ v1 ≤ x5 → (¬ ((x3 >>> (x4 &&& 31)) &&& (nI 1)) = 0 → pX8_powers_54 E dd o x1 x2 x3 x4 x5 (nI 0) x1 h1 K) ∧ (((x3 >>> (x4 &&& 31)) &&& (nI 1)) = 0 → (∃ fs, h1[o]? = some (.inr (8, fs))) ∧ RnI E mX8_product (dd, 0, 0) [.ref o, .int x4, .int x1] h1 (fun v2 h2 => pX8_powers_8 E dd o x1 x2 (x3 ||| ((nI 1) <<< (x4 &&& 31))) v2 (x5 + nI 1) h2 K))))) : pX8_powers_8 E dd o x1 x2 x3 x4 x5 h K := by
  show gk_G E mX8_powers (dd + 1, 0, 0) 8 [(0, .ref o), (1, .int x1), (2, .int x2), (3, .int x3), (4, .int x4), (5, .int x5)] [] h (fun o h1 => ∃ v, o = some (.int v) ∧ K v h1)
  refine gk_iload (pc := 8) dX8_powers_8 5 rfl ?_
  refine gk_aload_n (pc := 10) dX8_powers_10 0 rfl rfl ?_
  obtain ⟨⟨fs1, q1⟩, hv⟩ := hv
  refine gk_vV (pc := 11) [] [.int x5] dX8_powers_11 cvX8_56 q1 rfl rfl (Nat.le_of_ble_eq_true rfl) (Nat.le_of_ble_eq_true rfl) (gk_Run.post (fun o h1 z => ?_) hv)
  obtain ⟨v1, rfl, hv⟩ := z
  refine gk_icmp_ge (pc := 14) 48 dX8_powers_14 (by decide) (fun c => ?_) (fun c => ?_)
  · replace hv := hv.1 c
    refine gk_iconst (pc := 48) (nI 0) dX8_powers_48 ci_0 ?_
    refine gk_istore (pc := 49) [(6, .int (nI 0)), (0, .ref o), (1, .int x1), (2, .int x2), (3, .int x3), (4, .int x4), (5, .int x5)] dX8_powers_49 (Nat.le_of_ble_eq_true rfl) rfl ?_
    refine gk_iload_n (pc := 51) dX8_powers_51 2 rfl rfl ?_
    refine gk_istore (pc := 52) [(7, .int x1), (6, .int (nI 0)), (0, .ref o), (1, .int x1), (2, .int x2), (3, .int x3), (4, .int x4), (5, .int x5)] dX8_powers_52 (Nat.le_of_ble_eq_true rfl) rfl ?_
    exact gk_pick (pc := 54) [(0, .ref o), (1, .int x1), (2, .int x2), (3, .int x3), (4, .int x4), (5, .int x5), (6, .int (nI 0)), (7, .int x1)] [2, 3, 4, 5, 6, 7, 1, 0] rfl hv
  · replace hv := hv.2 c
    refine gk_iload_n (pc := 17) dX8_powers_17 3 rfl rfl ?_
    refine gk_iload (pc := 18) dX8_powers_18 4 rfl ?_
    refine gk_ishr (pc := 20) dX8_powers_20 ?_
    refine gk_iconst (pc := 21) (nI 1) dX8_powers_21 ci_1 ?_
    refine gk_iand (pc := 22) dX8_powers_22 ?_
    refine gk_if_ne (pc := 23) 48 dX8_powers_23 (by decide) (fun c => ?_) (fun c => ?_)
    · replace hv := hv.1 c
      refine gk_iconst (pc := 48) (nI 0) dX8_powers_48 ci_0 ?_
      refine gk_istore (pc := 49) [(6, .int (nI 0)), (0, .ref o), (1, .int x1), (2, .int x2), (3, .int x3), (4, .int x4), (5, .int x5)] dX8_powers_49 (Nat.le_of_ble_eq_true rfl) rfl ?_
      refine gk_iload_n (pc := 51) dX8_powers_51 2 rfl rfl ?_
      refine gk_istore (pc := 52) [(7, .int x1), (6, .int (nI 0)), (0, .ref o), (1, .int x1), (2, .int x2), (3, .int x3), (4, .int x4), (5, .int x5)] dX8_powers_52 (Nat.le_of_ble_eq_true rfl) rfl ?_
      exact gk_pick (pc := 54) [(0, .ref o), (1, .int x1), (2, .int x2), (3, .int x3), (4, .int x4), (5, .int x5), (6, .int (nI 0)), (7, .int x1)] [2, 3, 4, 5, 6, 7, 1, 0] rfl hv
    · replace hv := hv.2 c
      refine gk_iload_n (pc := 26) dX8_powers_26 3 rfl rfl ?_
      refine gk_iconst (pc := 27) (nI 1) dX8_powers_27 ci_1 ?_
      refine gk_iload (pc := 28) dX8_powers_28 4 rfl ?_
      refine gk_ishl (pc := 30) dX8_powers_30 ?_
      refine gk_ior (pc := 31) dX8_powers_31 ?_
      refine gk_istore_n (pc := 32) [(3, .int (x3 ||| ((nI 1) <<< (x4 &&& 31)))), (0, .ref o), (1, .int x1), (2, .int x2), (4, .int x4), (5, .int x5)] dX8_powers_32 rfl (Nat.le_of_ble_eq_true rfl) rfl ?_
      refine gk_aload_n (pc := 33) dX8_powers_33 1 rfl rfl ?_
      refine gk_iload (pc := 34) dX8_powers_34 4 rfl ?_
      refine gk_iload_n (pc := 36) dX8_powers_36 2 rfl rfl ?_
      obtain ⟨⟨fs2, q2⟩, hv⟩ := hv
      refine gk_vV (pc := 37) [.int x4, .int x1] [] dX8_powers_37 cvX8_48 q2 rfl rfl (Nat.le_of_ble_eq_true rfl) (Nat.le_of_ble_eq_true rfl) (gk_Run.post (fun o h2 z => ?_) hv)
      obtain ⟨v2, rfl, hv⟩ := z
      refine gk_istore (pc := 40) [(4, .int v2), (3, .int (x3 ||| ((nI 1) <<< (x4 &&& 31)))), (0, .ref o), (1, .int x1), (2, .int x2), (5, .int x5)] dX8_powers_40 (Nat.le_of_ble_eq_true rfl) rfl ?_
      refine gk_iinc (pc := 42) (x5 + nI 1) [(5, .int (x5 + nI 1)), (4, .int v2), (3, .int (x3 ||| ((nI 1) <<< (x4 &&& 31)))), (0, .ref o), (1, .int x1), (2, .int x2)] 5 dX8_powers_42 rfl (by rw [ci_1]) (Nat.le_of_ble_eq_true rfl) rfl ?_
      refine gk_goto (pc := 45) 8 dX8_powers_45 (by decide) ?_
      exact gk_pick (pc := 8) [(0, .ref o), (1, .int x1), (2, .int x2), (3, .int (x3 ||| ((nI 1) <<< (x4 &&& 31)))), (4, .int v2), (5, .int (x5 + nI 1))] [3, 4, 5, 2, 1, 0] rfl hv
set_option maxHeartbeats 4000000 in
theorem vX8_powers_54 {E : gk_E} {dd : Nat} {o : Nat} {x1 : Int32} {x2 : Int32} {x3 : Int32} {x4 : Int32} {x5 : Int32} {x6 : Int32} {x7 : Int32}  {h : gk_H} {K : Int32 → gk_H → Prop} (hv : (x5 ≤ x6 → (x2 = 0 → K (x5 - x6) h) ∧ (¬ x2 = 0 → K x6 h)) ∧ (¬ x5 ≤ x6 → (x7 = x4 → (x2 = 0 → K (x5 - x6) h) ∧ (¬ x2 = 0 → K x6 h)) ∧ (¬ x7 = x4 → (∃ fs, h[o]? = some (.inr (8, fs))) ∧ RnI E mX8_product (dd, 0, 0) [.ref o, .int x7, .int x1] h (fun v1 h1 => pX8_powers_54 E dd o x1 x2 x3 x4 x5 (x6 + nI 1) v1 h1 K)))) : pX8_powers_54 E dd o x1 x2 x3 x4 x5 x6 x7 h K := by
  show gk_G E mX8_powers (dd + 1, 0, 0) 54 [(0, .ref o), (1, .int x1), (2, .int x2), (3, .int x3), (4, .int x4), (5, .int x5), (6, .int x6), (7, .int x7)] [] h (fun o h1 => ∃ v, o = some (.int v) ∧ K v h1)
  refine gk_iload (pc := 54) dX8_powers_54 6 rfl ?_
  refine gk_iload (pc := 56) dX8_powers_56 5 rfl ?_
  refine gk_icmp_ge (pc := 58) 83 dX8_powers_58 (by decide) (fun c => ?_) (fun c => ?_)
  · replace hv := hv.1 c
    refine gk_iload_n (pc := 83) dX8_powers_83 2 rfl rfl ?_
    refine gk_if_eq (pc := 84) 92 dX8_powers_84 (by decide) (fun c => ?_) (fun c => ?_)
    · replace hv := hv.1 c
      refine gk_iload (pc := 92) dX8_powers_92 5 rfl ?_
      refine gk_iload (pc := 94) dX8_powers_94 6 rfl ?_
      refine gk_isub (pc := 96) dX8_powers_96 ?_
      exact gk_ireturn (pc := 97) .int dX8_powers_97 rfl rfl ⟨_, rfl, hv⟩
    · replace hv := hv.2 c
      refine gk_iload (pc := 87) dX8_powers_87 6 rfl ?_
      refine gk_goto (pc := 89) 97 dX8_powers_89 (by decide) ?_
      exact gk_ireturn (pc := 97) .int dX8_powers_97 rfl rfl ⟨_, rfl, hv⟩
  · replace hv := hv.2 c
    refine gk_iload (pc := 61) dX8_powers_61 7 rfl ?_
    refine gk_iload (pc := 63) dX8_powers_63 4 rfl ?_
    refine gk_icmp_eq (pc := 65) 83 dX8_powers_65 (by decide) (fun c => ?_) (fun c => ?_)
    · replace hv := hv.1 c
      refine gk_iload_n (pc := 83) dX8_powers_83 2 rfl rfl ?_
      refine gk_if_eq (pc := 84) 92 dX8_powers_84 (by decide) (fun c => ?_) (fun c => ?_)
      · replace hv := hv.1 c
        refine gk_iload (pc := 92) dX8_powers_92 5 rfl ?_
        refine gk_iload (pc := 94) dX8_powers_94 6 rfl ?_
        refine gk_isub (pc := 96) dX8_powers_96 ?_
        exact gk_ireturn (pc := 97) .int dX8_powers_97 rfl rfl ⟨_, rfl, hv⟩
      · replace hv := hv.2 c
        refine gk_iload (pc := 87) dX8_powers_87 6 rfl ?_
        refine gk_goto (pc := 89) 97 dX8_powers_89 (by decide) ?_
        exact gk_ireturn (pc := 97) .int dX8_powers_97 rfl rfl ⟨_, rfl, hv⟩
    · replace hv := hv.2 c
      refine gk_aload_n (pc := 68) dX8_powers_68 0 rfl rfl ?_
      refine gk_iload (pc := 69) dX8_powers_69 7 rfl ?_
      refine gk_iload_n (pc := 71) dX8_powers_71 1 rfl rfl ?_
      obtain ⟨⟨fs1, q1⟩, hv⟩ := hv
      refine gk_vV (pc := 72) [.int x7, .int x1] [] dX8_powers_72 cvX8_48 q1 rfl rfl (Nat.le_of_ble_eq_true rfl) (Nat.le_of_ble_eq_true rfl) (gk_Run.post (fun o h1 z => ?_) hv)
      obtain ⟨v1, rfl, hv⟩ := z
      refine gk_istore (pc := 75) [(7, .int v1), (0, .ref o), (1, .int x1), (2, .int x2), (3, .int x3), (4, .int x4), (5, .int x5), (6, .int x6)] dX8_powers_75 (Nat.le_of_ble_eq_true rfl) rfl ?_
      refine gk_iinc (pc := 77) (x6 + nI 1) [(6, .int (x6 + nI 1)), (7, .int v1), (0, .ref o), (1, .int x1), (2, .int x2), (3, .int x3), (4, .int x4), (5, .int x5)] 7 dX8_powers_77 rfl (by rw [ci_1]) (Nat.le_of_ble_eq_true rfl) rfl ?_
      refine gk_goto (pc := 80) 54 dX8_powers_80 (by decide) ?_
      exact gk_pick (pc := 54) [(0, .ref o), (1, .int x1), (2, .int x2), (3, .int x3), (4, .int x4), (5, .int x5), (6, .int (x6 + nI 1)), (7, .int v1)] [2, 3, 4, 5, 6, 7, 0, 1] rfl hv
abbrev pX8_product_5 (E : gk_E) (dd : Nat) (o : Nat) (x1 : Int32) (x2 : Int32) (x3 : Int32) (x4 : Int32) (h : gk_H) (K : Int32 → gk_H → Prop) : Prop := gk_G E mX8_product (dd, 0, 0) 5 [(0, .ref o), (1, .int x1), (2, .int x2), (3, .int x3), (4, .int x4)] [] h (fun o h1 => ∃ v, o = some (.int v) ∧ K v h1)
abbrev pX8_product_17 (E : gk_E) (dd : Nat) (o : Nat) (x1 : Int32) (x2 : Int32) (x3 : Int32) (x4 : Int32) (x5 : Int32) (h : gk_H) (K : Int32 → gk_H → Prop) : Prop := gk_G E mX8_product (dd, 0, 0) 17 [(0, .ref o), (1, .int x1), (2, .int x2), (3, .int x3), (4, .int x4), (5, .int x5)] [] h (fun o h1 => ∃ v, o = some (.int v) ∧ K v h1)
set_option maxHeartbeats 4000000 in
theorem vX8_product_0 {E : gk_E} {dd : Nat} {o : Nat} {x1 : Int32} {x2 : Int32}  {h : gk_H} {K : Int32 → gk_H → Prop} (hv : pX8_product_5 E dd o x1 x2 (nI 0) (nI 0) h K) : RnI E mX8_product (dd, 0, 0) [.ref o, .int x1, .int x2] h K := by
  show gk_G E mX8_product (dd, 0, 0) 0 [(0, .ref o), (1, .int x1), (2, .int x2)] [] h (fun o h1 => ∃ v, o = some (.int v) ∧ K v h1)
  refine gk_iconst (pc := 0) (nI 0) dX8_product_0 ci_0 ?_
  refine gk_istore_n (pc := 1) [(3, .int (nI 0)), (0, .ref o), (1, .int x1), (2, .int x2)] dX8_product_1 rfl (Nat.le_of_ble_eq_true rfl) rfl ?_
  refine gk_iconst (pc := 2) (nI 0) dX8_product_2 ci_0 ?_
  refine gk_istore (pc := 3) [(4, .int (nI 0)), (3, .int (nI 0)), (0, .ref o), (1, .int x1), (2, .int x2)] dX8_product_3 (Nat.le_of_ble_eq_true rfl) rfl ?_
  exact gk_pick (pc := 5) [(0, .ref o), (1, .int x1), (2, .int x2), (3, .int (nI 0)), (4, .int (nI 0))] [2, 3, 4, 1, 0] rfl hv
set_option maxHeartbeats 4000000 in
theorem vX8_product_5 {E : gk_E} {dd : Nat} {o : Nat} {x1 : Int32} {x2 : Int32} {x3 : Int32} {x4 : Int32}  {h : gk_H} {K : Int32 → gk_H → Prop} (hv : LdI h o 8 0 fun v1 => (v1 ≤ x4 → K x3 h) ∧ (¬ v1 ≤ x4 → pX8_product_17 E dd o x1 x2 x3 x4 (nI 0) h K)) : pX8_product_5 E dd o x1 x2 x3 x4 h K := by
  show gk_G E mX8_product (dd, 0, 0) 5 [(0, .ref o), (1, .int x1), (2, .int x2), (3, .int x3), (4, .int x4)] [] h (fun o h1 => ∃ v, o = some (.int v) ∧ K v h1)
  refine gk_iload (pc := 5) dX8_product_5 4 rfl ?_
  refine gk_aload_n (pc := 7) dX8_product_7 0 rfl rfl ?_
  obtain ⟨fs1, v1, q1, r1, hv⟩ := hv
  refine gk_get (pc := 8) (.int v1) dX8_product_8 fX8_9_8 q1 r1 ?_
  refine gk_icmp_ge (pc := 11) 80 dX8_product_11 (by decide) (fun c => ?_) (fun c => ?_)
  · replace hv := hv.1 c
    refine gk_iload_n (pc := 80) dX8_product_80 3 rfl rfl ?_
    exact gk_ireturn (pc := 81) .int dX8_product_81 rfl rfl ⟨_, rfl, hv⟩
  · replace hv := hv.2 c
    refine gk_iconst (pc := 14) (nI 0) dX8_product_14 ci_0 ?_
    refine gk_istore (pc := 15) [(5, .int (nI 0)), (0, .ref o), (1, .int x1), (2, .int x2), (3, .int x3), (4, .int x4)] dX8_product_15 (Nat.le_of_ble_eq_true rfl) rfl ?_
    exact gk_pick (pc := 17) [(0, .ref o), (1, .int x1), (2, .int x2), (3, .int x3), (4, .int x4), (5, .int (nI 0))] [1, 2, 3, 4, 5, 0] rfl hv
set_option maxHeartbeats 4000000 in
theorem vX8_product_17 {E : gk_E} {dd : Nat} {o : Nat} {x1 : Int32} {x2 : Int32} {x3 : Int32} {x4 : Int32} {x5 : Int32}  {h : gk_H} {K : Int32 → gk_H → Prop} (hv : LdI h o 8 0 fun v1 => (v1 ≤ x5 → pX8_product_5 E dd o x1 x2 x3 (x4 + nI 1) h K) ∧ (¬ v1 ≤ x5 → (¬ ((x1 >>> (x4 &&& 31)) &&& (nI 1)) = (nI 1) → pX8_product_17 E dd o x1 x2 x3 x4 (x5 + nI 1) h K) ∧ (((x1 >>> (x4 &&& 31)) &&& (nI 1)) = (nI 1) → (¬ ((x2 >>> (x5 &&& 31)) &&& (nI 1)) = (nI 1) → pX8_product_17 E dd o x1 x2 x3 x4 (x5 + nI 1) h K) ∧ (((x2 >>> (x5 &&& 31)) &&& (nI 1)) = (nI 1) → LdL h o 8 2 fun v2 => pX8_product_17 E dd o x1 x2 (x3 ||| ((((v2.toUInt64 >>> ((((nI 16) * x4) + ((nI 4) * x5)).toInt64.toUInt64 &&& Int64.toUInt64 63)).toInt64).toInt32) &&& (nI 15))) x4 (x5 + nI 1) h K)))) : pX8_product_17 E dd o x1 x2 x3 x4 x5 h K := by
  show gk_G E mX8_product (dd, 0, 0) 17 [(0, .ref o), (1, .int x1), (2, .int x2), (3, .int x3), (4, .int x4), (5, .int x5)] [] h (fun o h1 => ∃ v, o = some (.int v) ∧ K v h1)
  refine gk_iload (pc := 17) dX8_product_17 5 rfl ?_
  refine gk_aload_n (pc := 19) dX8_product_19 0 rfl rfl ?_
  obtain ⟨fs1, v1, q1, r1, hv⟩ := hv
  refine gk_get (pc := 20) (.int v1) dX8_product_20 fX8_9_8 q1 r1 ?_
  refine gk_icmp_ge (pc := 23) 74 dX8_product_23 (by decide) (fun c => ?_) (fun c => ?_)
  · replace hv := hv.1 c
    refine gk_iinc (pc := 74) (x4 + nI 1) [(4, .int (x4 + nI 1)), (0, .ref o), (1, .int x1), (2, .int x2), (3, .int x3), (5, .int x5)] 4 dX8_product_74 rfl (by rw [ci_1]) (Nat.le_of_ble_eq_true rfl) rfl ?_
    refine gk_goto (pc := 77) 5 dX8_product_77 (by decide) ?_
    exact gk_pick (pc := 5) [(0, .ref o), (1, .int x1), (2, .int x2), (3, .int x3), (4, .int (x4 + nI 1))] [1, 2, 3, 4, 0] rfl hv
  · replace hv := hv.2 c
    refine gk_iload_n (pc := 26) dX8_product_26 1 rfl rfl ?_
    refine gk_iload (pc := 27) dX8_product_27 4 rfl ?_
    refine gk_ishr (pc := 29) dX8_product_29 ?_
    refine gk_iconst (pc := 30) (nI 1) dX8_product_30 ci_1 ?_
    refine gk_iand (pc := 31) dX8_product_31 ?_
    refine gk_iconst (pc := 32) (nI 1) dX8_product_32 ci_1 ?_
    refine gk_icmp_ne (pc := 33) 68 dX8_product_33 (by decide) (fun c => ?_) (fun c => ?_)
    · replace hv := hv.1 c
      refine gk_iinc (pc := 68) (x5 + nI 1) [(5, .int (x5 + nI 1)), (0, .ref o), (1, .int x1), (2, .int x2), (3, .int x3), (4, .int x4)] 5 dX8_product_68 rfl (by rw [ci_1]) (Nat.le_of_ble_eq_true rfl) rfl ?_
      refine gk_goto (pc := 71) 17 dX8_product_71 (by decide) ?_
      exact gk_pick (pc := 17) [(0, .ref o), (1, .int x1), (2, .int x2), (3, .int x3), (4, .int x4), (5, .int (x5 + nI 1))] [1, 2, 3, 4, 5, 0] rfl hv
    · replace hv := hv.2 c
      refine gk_iload_n (pc := 36) dX8_product_36 2 rfl rfl ?_
      refine gk_iload (pc := 37) dX8_product_37 5 rfl ?_
      refine gk_ishr (pc := 39) dX8_product_39 ?_
      refine gk_iconst (pc := 40) (nI 1) dX8_product_40 ci_1 ?_
      refine gk_iand (pc := 41) dX8_product_41 ?_
      refine gk_iconst (pc := 42) (nI 1) dX8_product_42 ci_1 ?_
      refine gk_icmp_ne (pc := 43) 68 dX8_product_43 (by decide) (fun c => ?_) (fun c => ?_)
      · replace hv := hv.1 c
        refine gk_iinc (pc := 68) (x5 + nI 1) [(5, .int (x5 + nI 1)), (0, .ref o), (1, .int x1), (2, .int x2), (3, .int x3), (4, .int x4)] 5 dX8_product_68 rfl (by rw [ci_1]) (Nat.le_of_ble_eq_true rfl) rfl ?_
        refine gk_goto (pc := 71) 17 dX8_product_71 (by decide) ?_
        exact gk_pick (pc := 17) [(0, .ref o), (1, .int x1), (2, .int x2), (3, .int x3), (4, .int x4), (5, .int (x5 + nI 1))] [1, 2, 3, 4, 5, 0] rfl hv
      · replace hv := hv.2 c
        refine gk_iload_n (pc := 46) dX8_product_46 3 rfl rfl ?_
        refine gk_aload_n (pc := 47) dX8_product_47 0 rfl rfl ?_
        obtain ⟨fs2, v2, q2, r2, hv⟩ := hv
        refine gk_get (pc := 48) (.long v2) dX8_product_48 fX8_19_8 q2 r2 ?_
        refine gk_bipush (pc := 51) (nI 16) dX8_product_51 cb_16 ?_
        refine gk_iload (pc := 53) dX8_product_53 4 rfl ?_
        refine gk_imul (pc := 55) dX8_product_55 ?_
        refine gk_iconst (pc := 56) (nI 4) dX8_product_56 ci_4 ?_
        refine gk_iload (pc := 57) dX8_product_57 5 rfl ?_
        refine gk_imul (pc := 59) dX8_product_59 ?_
        refine gk_iadd (pc := 60) dX8_product_60 ?_
        refine gk_lushr (pc := 61) dX8_product_61 ?_
        refine gk_l2i (pc := 62) dX8_product_62 ?_
        refine gk_bipush (pc := 63) (nI 15) dX8_product_63 cb_15 ?_
        refine gk_iand (pc := 65) dX8_product_65 ?_
        refine gk_ior (pc := 66) dX8_product_66 ?_
        refine gk_istore_n (pc := 67) [(3, .int (x3 ||| ((((v2.toUInt64 >>> ((((nI 16) * x4) + ((nI 4) * x5)).toInt64.toUInt64 &&& Int64.toUInt64 63)).toInt64).toInt32) &&& (nI 15)))), (0, .ref o), (1, .int x1), (2, .int x2), (4, .int x4), (5, .int x5)] dX8_product_67 rfl (Nat.le_of_ble_eq_true rfl) rfl ?_
        refine gk_iinc (pc := 68) (x5 + nI 1) [(5, .int (x5 + nI 1)), (3, .int (x3 ||| ((((v2.toUInt64 >>> ((((nI 16) * x4) + ((nI 4) * x5)).toInt64.toUInt64 &&& Int64.toUInt64 63)).toInt64).toInt32) &&& (nI 15)))), (0, .ref o), (1, .int x1), (2, .int x2), (4, .int x4)] 5 dX8_product_68 rfl (by rw [ci_1]) (Nat.le_of_ble_eq_true rfl) rfl ?_
        refine gk_goto (pc := 71) 17 dX8_product_71 (by decide) ?_
        exact gk_pick (pc := 17) [(0, .ref o), (1, .int x1), (2, .int x2), (3, .int (x3 ||| ((((v2.toUInt64 >>> ((((nI 16) * x4) + ((nI 4) * x5)).toInt64.toUInt64 &&& Int64.toUInt64 63)).toInt64).toInt32) &&& (nI 15)))), (4, .int x4), (5, .int (x5 + nI 1))] [2, 3, 4, 1, 5, 0] rfl hv
set_option maxHeartbeats 4000000 in
theorem vX8_relations_0 {E : gk_E} {dd : Nat} {o : Nat}  {h : gk_H} {K : Int32 → gk_H → Prop} (hv : LdI h o 8 0 fun v1 => K ((nI 1) <<< (v1 &&& 31)) h) : RnI E mX8_relations (dd, 0, 0) [.ref o] h K := by
  show gk_G E mX8_relations (dd, 0, 0) 0 [(0, .ref o)] [] h (fun o h1 => ∃ v, o = some (.int v) ∧ K v h1)
  refine gk_iconst (pc := 0) (nI 1) dX8_relations_0 ci_1 ?_
  refine gk_aload_n (pc := 1) dX8_relations_1 0 rfl rfl ?_
  obtain ⟨fs1, v1, q1, r1, hv⟩ := hv
  refine gk_get (pc := 2) (.int v1) dX8_relations_2 fX8_9_8 q1 r1 ?_
  refine gk_ishl (pc := 5) dX8_relations_5 ?_
  exact gk_ireturn (pc := 6) .int dX8_relations_6 rfl rfl ⟨_, rfl, hv⟩
abbrev pX8_residual_6 (E : gk_E) (dd : Nat) (o : Nat) (x1 : Int32) (x2 : Int32) (x3 : Int32) (x4 : Int32) (x5 : Int32) (h : gk_H) (K : Int32 → gk_H → Prop) : Prop := gk_G E mX8_residual (dd + 1, 0, 0) 6 [(0, .ref o), (1, .int x1), (2, .int x2), (3, .int x3), (4, .int x4), (5, .int x5)] [] h (fun o h1 => ∃ v, o = some (.int v) ∧ K v h1)
set_option maxHeartbeats 4000000 in
theorem vX8_residual_0 {E : gk_E} {dd : Nat} {o : Nat} {x1 : Int32} {x2 : Int32} {x3 : Int32}  {h : gk_H} {K : Int32 → gk_H → Prop} (hv : pX8_residual_6 E dd o x1 x2 x3 (nI 0) (nI 0) h K) : RnI E mX8_residual (dd + 1, 0, 0) [.ref o, .int x1, .int x2, .int x3] h K := by
  show gk_G E mX8_residual (dd + 1, 0, 0) 0 [(0, .ref o), (1, .int x1), (2, .int x2), (3, .int x3)] [] h (fun o h1 => ∃ v, o = some (.int v) ∧ K v h1)
  refine gk_iconst (pc := 0) (nI 0) dX8_residual_0 ci_0 ?_
  refine gk_istore (pc := 1) [(4, .int (nI 0)), (0, .ref o), (1, .int x1), (2, .int x2), (3, .int x3)] dX8_residual_1 (Nat.le_of_ble_eq_true rfl) rfl ?_
  refine gk_iconst (pc := 3) (nI 0) dX8_residual_3 ci_0 ?_
  refine gk_istore (pc := 4) [(5, .int (nI 0)), (4, .int (nI 0)), (0, .ref o), (1, .int x1), (2, .int x2), (3, .int x3)] dX8_residual_4 (Nat.le_of_ble_eq_true rfl) rfl ?_
  exact gk_pick (pc := 6) [(0, .ref o), (1, .int x1), (2, .int x2), (3, .int x3), (4, .int (nI 0)), (5, .int (nI 0))] [2, 3, 4, 5, 1, 0] rfl hv
set_option maxHeartbeats 4000000 in
theorem vX8_residual_6 {E : gk_E} {dd : Nat} {o : Nat} {x1 : Int32} {x2 : Int32} {x3 : Int32} {x4 : Int32} {x5 : Int32}  {h : gk_H} {K : Int32 → gk_H → Prop} (hv : LdI h o 8 0 fun v1 => (v1 ≤ x5 → K x4 h) ∧ (¬ v1 ≤ x5 → (∃ fs, h[o]? = some (.inr (8, fs))) ∧ RnI E mX8_sided (dd, 0, 0) [.ref o, .int ((nI 1) <<< (x5 &&& 31)), .int x2, .int x3] h (fun v2 h2 => (¬ (v2 &&& (x1 ^^^ ((-1)))) = 0 → pX8_residual_6 E dd o x1 x2 x3 x4 (x5 + nI 1) h2 K) ∧ ((v2 &&& (x1 ^^^ ((-1)))) = 0 → pX8_residual_6 E dd o x1 x2 x3 (x4 ||| ((nI 1) <<< (x5 &&& 31))) (x5 + nI 1) h2 K)))) : pX8_residual_6 E dd o x1 x2 x3 x4 x5 h K := by
  show gk_G E mX8_residual (dd + 1, 0, 0) 6 [(0, .ref o), (1, .int x1), (2, .int x2), (3, .int x3), (4, .int x4), (5, .int x5)] [] h (fun o h1 => ∃ v, o = some (.int v) ∧ K v h1)
  refine gk_iload (pc := 6) dX8_residual_6 5 rfl ?_
  refine gk_aload_n (pc := 8) dX8_residual_8 0 rfl rfl ?_
  obtain ⟨fs1, v1, q1, r1, hv⟩ := hv
  refine gk_get (pc := 9) (.int v1) dX8_residual_9 fX8_9_8 q1 r1 ?_
  refine gk_icmp_ge (pc := 12) 47 dX8_residual_12 (by decide) (fun c => ?_) (fun c => ?_)
  · replace hv := hv.1 c
    refine gk_iload (pc := 47) dX8_residual_47 4 rfl ?_
    exact gk_ireturn (pc := 49) .int dX8_residual_49 rfl rfl ⟨_, rfl, hv⟩
  · replace hv := hv.2 c
    refine gk_aload_n (pc := 15) dX8_residual_15 0 rfl rfl ?_
    refine gk_iconst (pc := 16) (nI 1) dX8_residual_16 ci_1 ?_
    refine gk_iload (pc := 17) dX8_residual_17 5 rfl ?_
    refine gk_ishl (pc := 19) dX8_residual_19 ?_
    refine gk_iload_n (pc := 20) dX8_residual_20 2 rfl rfl ?_
    refine gk_iload_n (pc := 21) dX8_residual_21 3 rfl rfl ?_
    obtain ⟨⟨fs2, q2⟩, hv⟩ := hv
    refine gk_vV (pc := 22) [.int ((nI 1) <<< (x5 &&& 31)), .int x2, .int x3] [] dX8_residual_22 cvX8_52 q2 rfl rfl (Nat.le_of_ble_eq_true rfl) (Nat.le_of_ble_eq_true rfl) (gk_Run.post (fun o h2 z => ?_) hv)
    obtain ⟨v2, rfl, hv⟩ := z
    refine gk_iload_n (pc := 25) dX8_residual_25 1 rfl rfl ?_
    refine gk_iconst (pc := 26) ((-1)) dX8_residual_26 ci_m1 ?_
    refine gk_ixor (pc := 27) dX8_residual_27 ?_
    refine gk_iand (pc := 28) dX8_residual_28 ?_
    refine gk_if_ne (pc := 29) 41 dX8_residual_29 (by decide) (fun c => ?_) (fun c => ?_)
    · replace hv := hv.1 c
      refine gk_iinc (pc := 41) (x5 + nI 1) [(5, .int (x5 + nI 1)), (0, .ref o), (1, .int x1), (2, .int x2), (3, .int x3), (4, .int x4)] 5 dX8_residual_41 rfl (by rw [ci_1]) (Nat.le_of_ble_eq_true rfl) rfl ?_
      refine gk_goto (pc := 44) 6 dX8_residual_44 (by decide) ?_
      exact gk_pick (pc := 6) [(0, .ref o), (1, .int x1), (2, .int x2), (3, .int x3), (4, .int x4), (5, .int (x5 + nI 1))] [1, 2, 3, 4, 5, 0] rfl hv
    · replace hv := hv.2 c
      refine gk_iload (pc := 32) dX8_residual_32 4 rfl ?_
      refine gk_iconst (pc := 34) (nI 1) dX8_residual_34 ci_1 ?_
      refine gk_iload (pc := 35) dX8_residual_35 5 rfl ?_
      refine gk_ishl (pc := 37) dX8_residual_37 ?_
      refine gk_ior (pc := 38) dX8_residual_38 ?_
      refine gk_istore (pc := 39) [(4, .int (x4 ||| ((nI 1) <<< (x5 &&& 31)))), (0, .ref o), (1, .int x1), (2, .int x2), (3, .int x3), (5, .int x5)] dX8_residual_39 (Nat.le_of_ble_eq_true rfl) rfl ?_
      refine gk_iinc (pc := 41) (x5 + nI 1) [(5, .int (x5 + nI 1)), (4, .int (x4 ||| ((nI 1) <<< (x5 &&& 31)))), (0, .ref o), (1, .int x1), (2, .int x2), (3, .int x3)] 5 dX8_residual_41 rfl (by rw [ci_1]) (Nat.le_of_ble_eq_true rfl) rfl ?_
      refine gk_goto (pc := 44) 6 dX8_residual_44 (by decide) ?_
      exact gk_pick (pc := 6) [(0, .ref o), (1, .int x1), (2, .int x2), (3, .int x3), (4, .int (x4 ||| ((nI 1) <<< (x5 &&& 31)))), (5, .int (x5 + nI 1))] [2, 3, 4, 5, 1, 0] rfl hv
abbrev pX8_restart_7 (E : gk_E) (dd : Nat) (o : Nat) (x1 : Int32) (x2 : Int32) (h : gk_H) (K : gk_H → Prop) : Prop := gk_G E mX8_restart (dd + 1, 0, 0) 7 [(0, .ref o), (1, .int x1), (2, .int x2)] [] h (fun o h1 => o = none ∧ K h1)
set_option maxHeartbeats 4000000 in
theorem vX8_restart_0 {E : gk_E} {dd : Nat} {o : Nat} {x1 : Int32}  {h : gk_H} {K : gk_H → Prop} (hv : StI h o 8 0 x1 fun h1 => pX8_restart_7 E dd o x1 (nI 0) h1 K) : RnV E mX8_restart (dd + 1, 0, 0) [.ref o, .int x1] h K := by
  show gk_G E mX8_restart (dd + 1, 0, 0) 0 [(0, .ref o), (1, .int x1)] [] h (fun o h1 => o = none ∧ K h1)
  refine gk_aload_n (pc := 0) dX8_restart_0 0 rfl rfl ?_
  refine gk_iload_n (pc := 1) dX8_restart_1 1 rfl rfl ?_
  obtain ⟨fs1, q1, r1, hv⟩ := hv
  refine gk_put (pc := 2) dX8_restart_2 fX8_9_8w q1 r1 rfl rfl ?_
  generalize h.set _ _ = h1 at hv ⊢
  refine gk_iconst (pc := 5) (nI 0) dX8_restart_5 ci_0 ?_
  refine gk_istore_n (pc := 6) [(2, .int (nI 0)), (0, .ref o), (1, .int x1)] dX8_restart_6 rfl (Nat.le_of_ble_eq_true rfl) rfl ?_
  exact gk_pick (pc := 7) [(0, .ref o), (1, .int x1), (2, .int (nI 0))] [1, 2, 0] rfl hv
set_option maxHeartbeats 4000000 in
theorem vX8_restart_7 {E : gk_E} {dd : Nat} {o : Nat} {x1 : Int32} {x2 : Int32}  {h : gk_H} {K : gk_H → Prop} (hv : ((nI 4) ≤ x2 → (∃ fs, h[o]? = some (.inr (8, fs))) ∧ RnV E mX8_keepFixed (dd, 0, 0) [.ref o] h (fun h1 => K h1)) ∧ (¬ (nI 4) ≤ x2 → LdR h o 8 1 fun v2 => AsI h v2 x2 x2 fun h3 => pX8_restart_7 E dd o x1 (x2 + nI 1) h3 K)) : pX8_restart_7 E dd o x1 x2 h K := by
  show gk_G E mX8_restart (dd + 1, 0, 0) 7 [(0, .ref o), (1, .int x1), (2, .int x2)] [] h (fun o h1 => o = none ∧ K h1)
  refine gk_iload_n (pc := 7) dX8_restart_7 2 rfl rfl ?_
  refine gk_iconst (pc := 8) (nI 4) dX8_restart_8 ci_4 ?_
  refine gk_icmp_ge (pc := 9) 25 dX8_restart_9 (by decide) (fun c => ?_) (fun c => ?_)
  · replace hv := hv.1 c
    refine gk_aload_n (pc := 25) dX8_restart_25 0 rfl rfl ?_
    obtain ⟨⟨fs1, q1⟩, hv⟩ := hv
    refine gk_vV (pc := 26) [] [] dX8_restart_26 cvX8_27 q1 rfl rfl (Nat.le_of_ble_eq_true rfl) (Nat.le_of_ble_eq_true rfl) (gk_Run.post (fun o h1 z => ?_) hv)
    obtain ⟨rfl, hv⟩ := z
    exact gk_return (pc := 29) dX8_restart_29 rfl ⟨rfl, hv⟩
  · replace hv := hv.2 c
    refine gk_aload_n (pc := 12) dX8_restart_12 0 rfl rfl ?_
    obtain ⟨fs2, v2, q2, r2, hv⟩ := hv
    refine gk_get (pc := 13) (.ref v2) dX8_restart_13 fX8_15_8 q2 r2 ?_
    refine gk_iload_n (pc := 16) dX8_restart_16 2 rfl rfl ?_
    refine gk_iload_n (pc := 17) dX8_restart_17 2 rfl rfl ?_
    obtain ⟨n3, f3, q3, r3, hv⟩ := hv
    refine gk_iast (pc := 18) dX8_restart_18 q3 r3 ?_
    generalize h.set _ _ = h3 at hv ⊢
    refine gk_iinc (pc := 19) (x2 + nI 1) [(2, .int (x2 + nI 1)), (0, .ref o), (1, .int x1)] 2 dX8_restart_19 rfl (by rw [ci_1]) (Nat.le_of_ble_eq_true rfl) rfl ?_
    refine gk_goto (pc := 22) 7 dX8_restart_22 (by decide) ?_
    exact gk_pick (pc := 7) [(0, .ref o), (1, .int x1), (2, .int (x2 + nI 1))] [1, 2, 0] rfl hv
set_option maxHeartbeats 4000000 in
theorem vX8_sided_0 {E : gk_E} {dd : Nat} {o : Nat} {x1 : Int32} {x2 : Int32} {x3 : Int32}  {h : gk_H} {K : Int32 → gk_H → Prop} (hv : (¬ x3 = 0 → (∃ fs, h[o]? = some (.inr (8, fs))) ∧ RnI E mX8_product (dd, 0, 0) [.ref o, .int x2, .int x1] h (fun v1 h1 => K v1 h1)) ∧ (x3 = 0 → (∃ fs, h[o]? = some (.inr (8, fs))) ∧ RnI E mX8_product (dd, 0, 0) [.ref o, .int x1, .int x2] h (fun v2 h2 => K v2 h2))) : RnI E mX8_sided (dd + 1, 0, 0) [.ref o, .int x1, .int x2, .int x3] h K := by
  show gk_G E mX8_sided (dd + 1, 0, 0) 0 [(0, .ref o), (1, .int x1), (2, .int x2), (3, .int x3)] [] h (fun o h1 => ∃ v, o = some (.int v) ∧ K v h1)
  refine gk_iload_n (pc := 0) dX8_sided_0 3 rfl rfl ?_
  refine gk_if_ne (pc := 1) 13 dX8_sided_1 (by decide) (fun c => ?_) (fun c => ?_)
  · replace hv := hv.1 c
    refine gk_aload_n (pc := 13) dX8_sided_13 0 rfl rfl ?_
    refine gk_iload_n (pc := 14) dX8_sided_14 2 rfl rfl ?_
    refine gk_iload_n (pc := 15) dX8_sided_15 1 rfl rfl ?_
    obtain ⟨⟨fs1, q1⟩, hv⟩ := hv
    refine gk_vV (pc := 16) [.int x2, .int x1] [] dX8_sided_16 cvX8_48 q1 rfl rfl (Nat.le_of_ble_eq_true rfl) (Nat.le_of_ble_eq_true rfl) (gk_Run.post (fun o h1 z => ?_) hv)
    obtain ⟨v1, rfl, hv⟩ := z
    exact gk_ireturn (pc := 19) .int dX8_sided_19 rfl rfl ⟨_, rfl, hv⟩
  · replace hv := hv.2 c
    refine gk_aload_n (pc := 4) dX8_sided_4 0 rfl rfl ?_
    refine gk_iload_n (pc := 5) dX8_sided_5 1 rfl rfl ?_
    refine gk_iload_n (pc := 6) dX8_sided_6 2 rfl rfl ?_
    obtain ⟨⟨fs2, q2⟩, hv⟩ := hv
    refine gk_vV (pc := 7) [.int x1, .int x2] [] dX8_sided_7 cvX8_48 q2 rfl rfl (Nat.le_of_ble_eq_true rfl) (Nat.le_of_ble_eq_true rfl) (gk_Run.post (fun o h2 z => ?_) hv)
    obtain ⟨v2, rfl, hv⟩ := z
    refine gk_goto (pc := 10) 19 dX8_sided_10 (by decide) ?_
    exact gk_ireturn (pc := 19) .int dX8_sided_19 rfl rfl ⟨_, rfl, hv⟩
abbrev pX8_solutions_13 (E : gk_E) (dd : Nat) (o : Nat) (x1 : Int32) (x2 : Int32) (x3 : Int32) (x4 : Int32) (x5 : Int32) (x6 : Int32) (x7 : Int32) (x8 : Int32) (h : gk_H) (K : Int32 → gk_H → Prop) : Prop := gk_G E mX8_solutions (dd + 1, 0, 0) 13 [(0, .ref o), (1, .int x1), (2, .int x2), (3, .int x3), (4, .int x4), (5, .int x5), (6, .int x6), (7, .int x7), (8, .int x8)] [] h (fun o h1 => ∃ v, o = some (.int v) ∧ K v h1)
set_option maxHeartbeats 4000000 in
theorem vX8_solutions_0 {E : gk_E} {dd : Nat} {o : Nat} {x1 : Int32} {x2 : Int32} {x3 : Int32} {x4 : Int32}  {h : gk_H} {K : Int32 → gk_H → Prop} (hv : pX8_solutions_13 E dd o x1 x2 x3 x4 (nI 0) ((-5)) (nI 0) (nI 0) h K) : RnI E mX8_solutions (dd + 1, 0, 0) [.ref o, .int x1, .int x2, .int x3, .int x4] h K := by
  show gk_G E mX8_solutions (dd + 1, 0, 0) 0 [(0, .ref o), (1, .int x1), (2, .int x2), (3, .int x3), (4, .int x4)] [] h (fun o h1 => ∃ v, o = some (.int v) ∧ K v h1)
  refine gk_iconst (pc := 0) (nI 0) dX8_solutions_0 ci_0 ?_
  refine gk_istore (pc := 1) [(5, .int (nI 0)), (0, .ref o), (1, .int x1), (2, .int x2), (3, .int x3), (4, .int x4)] dX8_solutions_1 (Nat.le_of_ble_eq_true rfl) rfl ?_
  refine gk_bipush (pc := 3) ((-5)) dX8_solutions_3 cb_m5 ?_
  refine gk_istore (pc := 5) [(6, .int ((-5))), (5, .int (nI 0)), (0, .ref o), (1, .int x1), (2, .int x2), (3, .int x3), (4, .int x4)] dX8_solutions_5 (Nat.le_of_ble_eq_true rfl) rfl ?_
  refine gk_iconst (pc := 7) (nI 0) dX8_solutions_7 ci_0 ?_
  refine gk_istore (pc := 8) [(7, .int (nI 0)), (6, .int ((-5))), (5, .int (nI 0)), (0, .ref o), (1, .int x1), (2, .int x2), (3, .int x3), (4, .int x4)] dX8_solutions_8 (Nat.le_of_ble_eq_true rfl) rfl ?_
  refine gk_iconst (pc := 10) (nI 0) dX8_solutions_10 ci_0 ?_
  refine gk_istore (pc := 11) [(8, .int (nI 0)), (7, .int (nI 0)), (6, .int ((-5))), (5, .int (nI 0)), (0, .ref o), (1, .int x1), (2, .int x2), (3, .int x3), (4, .int x4)] dX8_solutions_11 (Nat.le_of_ble_eq_true rfl) rfl ?_
  exact gk_pick (pc := 13) [(0, .ref o), (1, .int x1), (2, .int x2), (3, .int x3), (4, .int x4), (5, .int (nI 0)), (6, .int ((-5))), (7, .int (nI 0)), (8, .int (nI 0))] [4, 5, 6, 7, 8, 3, 2, 1, 0] rfl hv
set_option maxHeartbeats 4000000 in
theorem vX8_solutions_13 {E : gk_E} {dd : Nat} {o : Nat} {x1 : Int32} {x2 : Int32} {x3 : Int32} {x4 : Int32} {x5 : Int32} {x6 : Int32} {x7 : Int32} {x8 : Int32}  {h : gk_H} {K : Int32 → gk_H → Prop} (hv : (∃ fs, h[o]? = some (.inr (8, fs))) ∧ RnI E mX8_relations (dd, 0, 0) [.ref o] h (fun v1 h1 => (v1 ≤ x8 → (¬ x4 = 0 → (x4 = (nI 1) → K x6 h1) ∧ (¬ x4 = (nI 1) → (¬ x5 = 0 → K x7 h1) ∧ (x5 = 0 → K x6 h1))) ∧ (x4 = 0 → K x5 h1)) ∧ (¬ v1 ≤ x8 → (∃ fs, h1[o]? = some (.inr (8, fs))) ∧ RnI E mX8_sided (dd, 0, 0) [.ref o, .int x8, .int x1, .int x3] h1 (fun v2 h2 => (¬ v2 = x2 → pX8_solutions_13 E dd o x1 x2 x3 x4 x5 x6 x7 (x8 + nI 1) h2 K) ∧ (v2 = x2 → (¬ x5 = 0 → pX8_solutions_13 E dd o x1 x2 x3 x4 (x5 + nI 1) x6 (x7 ||| x8) (x8 + nI 1) h2 K) ∧ (x5 = 0 → pX8_solutions_13 E dd o x1 x2 x3 x4 (x5 + nI 1) x8 (x7 ||| x8) (x8 + nI 1) h2 K)))))) : pX8_solutions_13 E dd o x1 x2 x3 x4 x5 x6 x7 x8 h K := by
  show gk_G E mX8_solutions (dd + 1, 0, 0) 13 [(0, .ref o), (1, .int x1), (2, .int x2), (3, .int x3), (4, .int x4), (5, .int x5), (6, .int x6), (7, .int x7), (8, .int x8)] [] h (fun o h1 => ∃ v, o = some (.int v) ∧ K v h1)
  refine gk_iload (pc := 13) dX8_solutions_13 8 rfl ?_
  refine gk_aload_n (pc := 15) dX8_solutions_15 0 rfl rfl ?_
  obtain ⟨⟨fs1, q1⟩, hv⟩ := hv
  refine gk_vV (pc := 16) [] [.int x8] dX8_solutions_16 cvX8_56 q1 rfl rfl (Nat.le_of_ble_eq_true rfl) (Nat.le_of_ble_eq_true rfl) (gk_Run.post (fun o h1 z => ?_) hv)
  obtain ⟨v1, rfl, hv⟩ := z
  refine gk_icmp_ge (pc := 19) 64 dX8_solutions_19 (by decide) (fun c => ?_) (fun c => ?_)
  · replace hv := hv.1 c
    refine gk_iload (pc := 64) dX8_solutions_64 4 rfl ?_
    refine gk_if_ne (pc := 66) 72 dX8_solutions_66 (by decide) (fun c => ?_) (fun c => ?_)
    · replace hv := hv.1 c
      refine gk_iload (pc := 72) dX8_solutions_72 4 rfl ?_
      refine gk_iconst (pc := 74) (nI 1) dX8_solutions_74 ci_1 ?_
      refine gk_icmp_eq (pc := 75) 83 dX8_solutions_75 (by decide) (fun c => ?_) (fun c => ?_)
      · replace hv := hv.1 c
        refine gk_iload (pc := 83) dX8_solutions_83 6 rfl ?_
        refine gk_goto (pc := 85) 90 dX8_solutions_85 (by decide) ?_
        exact gk_ireturn (pc := 90) .int dX8_solutions_90 rfl rfl ⟨_, rfl, hv⟩
      · replace hv := hv.2 c
        refine gk_iload (pc := 78) dX8_solutions_78 5 rfl ?_
        refine gk_if_ne (pc := 80) 88 dX8_solutions_80 (by decide) (fun c => ?_) (fun c => ?_)
        · replace hv := hv.1 c
          refine gk_iload (pc := 88) dX8_solutions_88 7 rfl ?_
          exact gk_ireturn (pc := 90) .int dX8_solutions_90 rfl rfl ⟨_, rfl, hv⟩
        · replace hv := hv.2 c
          refine gk_iload (pc := 83) dX8_solutions_83 6 rfl ?_
          refine gk_goto (pc := 85) 90 dX8_solutions_85 (by decide) ?_
          exact gk_ireturn (pc := 90) .int dX8_solutions_90 rfl rfl ⟨_, rfl, hv⟩
    · replace hv := hv.2 c
      refine gk_iload (pc := 69) dX8_solutions_69 5 rfl ?_
      exact gk_ireturn (pc := 71) .int dX8_solutions_71 rfl rfl ⟨_, rfl, hv⟩
  · replace hv := hv.2 c
    refine gk_aload_n (pc := 22) dX8_solutions_22 0 rfl rfl ?_
    refine gk_iload (pc := 23) dX8_solutions_23 8 rfl ?_
    refine gk_iload_n (pc := 25) dX8_solutions_25 1 rfl rfl ?_
    refine gk_iload_n (pc := 26) dX8_solutions_26 3 rfl rfl ?_
    obtain ⟨⟨fs2, q2⟩, hv⟩ := hv
    refine gk_vV (pc := 27) [.int x8, .int x1, .int x3] [] dX8_solutions_27 cvX8_52 q2 rfl rfl (Nat.le_of_ble_eq_true rfl) (Nat.le_of_ble_eq_true rfl) (gk_Run.post (fun o h2 z => ?_) hv)
    obtain ⟨v2, rfl, hv⟩ := z
    refine gk_iload_n (pc := 30) dX8_solutions_30 2 rfl rfl ?_
    refine gk_icmp_ne (pc := 31) 58 dX8_solutions_31 (by decide) (fun c => ?_) (fun c => ?_)
    · replace hv := hv.1 c
      refine gk_iinc (pc := 58) (x8 + nI 1) [(8, .int (x8 + nI 1)), (0, .ref o), (1, .int x1), (2, .int x2), (3, .int x3), (4, .int x4), (5, .int x5), (6, .int x6), (7, .int x7)] 8 dX8_solutions_58 rfl (by rw [ci_1]) (Nat.le_of_ble_eq_true rfl) rfl ?_
      refine gk_goto (pc := 61) 13 dX8_solutions_61 (by decide) ?_
      exact gk_pick (pc := 13) [(0, .ref o), (1, .int x1), (2, .int x2), (3, .int x3), (4, .int x4), (5, .int x5), (6, .int x6), (7, .int x7), (8, .int (x8 + nI 1))] [1, 2, 3, 4, 5, 6, 7, 8, 0] rfl hv
    · replace hv := hv.2 c
      refine gk_iload (pc := 34) dX8_solutions_34 5 rfl ?_
      refine gk_if_ne (pc := 36) 44 dX8_solutions_36 (by decide) (fun c => ?_) (fun c => ?_)
      · replace hv := hv.1 c
        refine gk_iload (pc := 44) dX8_solutions_44 6 rfl ?_
        refine gk_istore (pc := 46) [(6, .int x6), (0, .ref o), (1, .int x1), (2, .int x2), (3, .int x3), (4, .int x4), (5, .int x5), (7, .int x7), (8, .int x8)] dX8_solutions_46 (Nat.le_of_ble_eq_true rfl) rfl ?_
        refine gk_iinc (pc := 48) (x5 + nI 1) [(5, .int (x5 + nI 1)), (6, .int x6), (0, .ref o), (1, .int x1), (2, .int x2), (3, .int x3), (4, .int x4), (7, .int x7), (8, .int x8)] 6 dX8_solutions_48 rfl (by rw [ci_1]) (Nat.le_of_ble_eq_true rfl) rfl ?_
        refine gk_iload (pc := 51) dX8_solutions_51 7 rfl ?_
        refine gk_iload (pc := 53) dX8_solutions_53 8 rfl ?_
        refine gk_ior (pc := 55) dX8_solutions_55 ?_
        refine gk_istore (pc := 56) [(7, .int (x7 ||| x8)), (5, .int (x5 + nI 1)), (6, .int x6), (0, .ref o), (1, .int x1), (2, .int x2), (3, .int x3), (4, .int x4), (8, .int x8)] dX8_solutions_56 (Nat.le_of_ble_eq_true rfl) rfl ?_
        refine gk_iinc (pc := 58) (x8 + nI 1) [(8, .int (x8 + nI 1)), (7, .int (x7 ||| x8)), (5, .int (x5 + nI 1)), (6, .int x6), (0, .ref o), (1, .int x1), (2, .int x2), (3, .int x3), (4, .int x4)] 8 dX8_solutions_58 rfl (by rw [ci_1]) (Nat.le_of_ble_eq_true rfl) rfl ?_
        refine gk_goto (pc := 61) 13 dX8_solutions_61 (by decide) ?_
        exact gk_pick (pc := 13) [(0, .ref o), (1, .int x1), (2, .int x2), (3, .int x3), (4, .int x4), (5, .int (x5 + nI 1)), (6, .int x6), (7, .int (x7 ||| x8)), (8, .int (x8 + nI 1))] [4, 5, 6, 7, 8, 2, 3, 1, 0] rfl hv
      · replace hv := hv.2 c
        refine gk_iload (pc := 39) dX8_solutions_39 8 rfl ?_
        refine gk_goto (pc := 41) 46 dX8_solutions_41 (by decide) ?_
        refine gk_istore (pc := 46) [(6, .int x8), (0, .ref o), (1, .int x1), (2, .int x2), (3, .int x3), (4, .int x4), (5, .int x5), (7, .int x7), (8, .int x8)] dX8_solutions_46 (Nat.le_of_ble_eq_true rfl) rfl ?_
        refine gk_iinc (pc := 48) (x5 + nI 1) [(5, .int (x5 + nI 1)), (6, .int x8), (0, .ref o), (1, .int x1), (2, .int x2), (3, .int x3), (4, .int x4), (7, .int x7), (8, .int x8)] 6 dX8_solutions_48 rfl (by rw [ci_1]) (Nat.le_of_ble_eq_true rfl) rfl ?_
        refine gk_iload (pc := 51) dX8_solutions_51 7 rfl ?_
        refine gk_iload (pc := 53) dX8_solutions_53 8 rfl ?_
        refine gk_ior (pc := 55) dX8_solutions_55 ?_
        refine gk_istore (pc := 56) [(7, .int (x7 ||| x8)), (5, .int (x5 + nI 1)), (6, .int x8), (0, .ref o), (1, .int x1), (2, .int x2), (3, .int x3), (4, .int x4), (8, .int x8)] dX8_solutions_56 (Nat.le_of_ble_eq_true rfl) rfl ?_
        refine gk_iinc (pc := 58) (x8 + nI 1) [(8, .int (x8 + nI 1)), (7, .int (x7 ||| x8)), (5, .int (x5 + nI 1)), (6, .int x8), (0, .ref o), (1, .int x1), (2, .int x2), (3, .int x3), (4, .int x4)] 8 dX8_solutions_58 rfl (by rw [ci_1]) (Nat.le_of_ble_eq_true rfl) rfl ?_
        refine gk_goto (pc := 61) 13 dX8_solutions_61 (by decide) ?_
        exact gk_pick (pc := 13) [(0, .ref o), (1, .int x1), (2, .int x2), (3, .int x3), (4, .int x4), (5, .int (x5 + nI 1)), (6, .int x8), (7, .int (x7 ||| x8)), (8, .int (x8 + nI 1))] [4, 5, 6, 7, 8, 2, 3, 1, 0] rfl hv
abbrev pX8_thin_4 (E : gk_E) (dd : Nat) (o : Nat) (x1 : Int32) (x2 : Int32) (x3 : Int32) (h : gk_H) (K : Int32 → gk_H → Prop) : Prop := gk_G E mX8_thin (dd + 1, 0, 0) 4 [(0, .ref o), (1, .int x1), (2, .int x2), (3, .int x3)] [] h (fun o h1 => ∃ v, o = some (.int v) ∧ K v h1)
abbrev pX8_thin_15 (E : gk_E) (dd : Nat) (o : Nat) (x1 : Int32) (x2 : Int32) (x3 : Int32) (x4 : Int32) (h : gk_H) (K : Int32 → gk_H → Prop) : Prop := gk_G E mX8_thin (dd + 1, 0, 0) 15 [(0, .ref o), (1, .int x1), (2, .int x2), (3, .int x3), (4, .int x4)] [] h (fun o h1 => ∃ v, o = some (.int v) ∧ K v h1)
set_option maxHeartbeats 4000000 in
theorem vX8_thin_0 {E : gk_E} {dd : Nat} {o : Nat} {x1 : Int32}  {h : gk_H} {K : Int32 → gk_H → Prop} (hv : pX8_thin_4 E dd o x1 (nI 0) (nI 0) h K) : RnI E mX8_thin (dd + 1, 0, 0) [.ref o, .int x1] h K := by
  show gk_G E mX8_thin (dd + 1, 0, 0) 0 [(0, .ref o), (1, .int x1)] [] h (fun o h1 => ∃ v, o = some (.int v) ∧ K v h1)
  refine gk_iconst (pc := 0) (nI 0) dX8_thin_0 ci_0 ?_
  refine gk_istore_n (pc := 1) [(2, .int (nI 0)), (0, .ref o), (1, .int x1)] dX8_thin_1 rfl (Nat.le_of_ble_eq_true rfl) rfl ?_
  refine gk_iconst (pc := 2) (nI 0) dX8_thin_2 ci_0 ?_
  refine gk_istore_n (pc := 3) [(3, .int (nI 0)), (2, .int (nI 0)), (0, .ref o), (1, .int x1)] dX8_thin_3 rfl (Nat.le_of_ble_eq_true rfl) rfl ?_
  exact gk_pick (pc := 4) [(0, .ref o), (1, .int x1), (2, .int (nI 0)), (3, .int (nI 0))] [2, 3, 1, 0] rfl hv
set_option maxHeartbeats 4000000 in
theorem vX8_thin_4 {E : gk_E} {dd : Nat} {o : Nat} {x1 : Int32} {x2 : Int32} {x3 : Int32}  {h : gk_H} {K : Int32 → gk_H → Prop} (hv : LdI h o 8 0 fun v1 => (v1 ≤ x3 → (x1 = 0 → K ((-5)) h) ∧ (¬ x1 = 0 → K x2 h)) ∧ (¬ v1 ≤ x3 → pX8_thin_15 E dd o x1 x2 x3 (nI 0) h K)) : pX8_thin_4 E dd o x1 x2 x3 h K := by
  show gk_G E mX8_thin (dd + 1, 0, 0) 4 [(0, .ref o), (1, .int x1), (2, .int x2), (3, .int x3)] [] h (fun o h1 => ∃ v, o = some (.int v) ∧ K v h1)
  refine gk_iload_n (pc := 4) dX8_thin_4 3 rfl rfl ?_
  refine gk_aload_n (pc := 5) dX8_thin_5 0 rfl rfl ?_
  obtain ⟨fs1, v1, q1, r1, hv⟩ := hv
  refine gk_get (pc := 6) (.int v1) dX8_thin_6 fX8_9_8 q1 r1 ?_
  refine gk_icmp_ge (pc := 9) 65 dX8_thin_9 (by decide) (fun c => ?_) (fun c => ?_)
  · replace hv := hv.1 c
    refine gk_iload_n (pc := 65) dX8_thin_65 1 rfl rfl ?_
    refine gk_if_eq (pc := 66) 73 dX8_thin_66 (by decide) (fun c => ?_) (fun c => ?_)
    · replace hv := hv.1 c
      refine gk_bipush (pc := 73) ((-5)) dX8_thin_73 cb_m5 ?_
      exact gk_ireturn (pc := 75) .int dX8_thin_75 rfl rfl ⟨_, rfl, hv⟩
    · replace hv := hv.2 c
      refine gk_iload_n (pc := 69) dX8_thin_69 2 rfl rfl ?_
      refine gk_goto (pc := 70) 75 dX8_thin_70 (by decide) ?_
      exact gk_ireturn (pc := 75) .int dX8_thin_75 rfl rfl ⟨_, rfl, hv⟩
  · replace hv := hv.2 c
    refine gk_iconst (pc := 12) (nI 0) dX8_thin_12 ci_0 ?_
    refine gk_istore (pc := 13) [(4, .int (nI 0)), (0, .ref o), (1, .int x1), (2, .int x2), (3, .int x3)] dX8_thin_13 (Nat.le_of_ble_eq_true rfl) rfl ?_
    exact gk_pick (pc := 15) [(0, .ref o), (1, .int x1), (2, .int x2), (3, .int x3), (4, .int (nI 0))] [1, 2, 3, 4, 0] rfl hv
set_option maxHeartbeats 4000000 in
theorem vX8_thin_15 {E : gk_E} {dd : Nat} {o : Nat} {x1 : Int32} {x2 : Int32} {x3 : Int32} {x4 : Int32}  {h : gk_H} {K : Int32 → gk_H → Prop} (hv : LdI h o 8 0 fun v1 => (v1 ≤ x4 → pX8_thin_4 E dd o x1 x2 (x3 + nI 1) h K) ∧ (¬ v1 ≤ x4 → (∃ fs, h[o]? = some (.inr (8, fs))) ∧ RnI E mX8_product (dd, 0, 0) [.ref o, .int ((nI 1) <<< (x3 &&& 31)), .int ((nI 1) <<< (x4 &&& 31))] h (fun v2 h2 => (¬ v2 = 0 → pX8_thin_15 E dd o x1 x2 x3 (x4 + nI 1) h2 K) ∧ (v2 = 0 → (¬ x1 = 0 → pX8_thin_15 E dd o x1 (x2 + nI 1) x3 (x4 + nI 1) h2 K) ∧ (x1 = 0 → K (((nI 10) * x3) + x4) h2))))) : pX8_thin_15 E dd o x1 x2 x3 x4 h K := by
  show gk_G E mX8_thin (dd + 1, 0, 0) 15 [(0, .ref o), (1, .int x1), (2, .int x2), (3, .int x3), (4, .int x4)] [] h (fun o h1 => ∃ v, o = some (.int v) ∧ K v h1)
  refine gk_iload (pc := 15) dX8_thin_15 4 rfl ?_
  refine gk_aload_n (pc := 17) dX8_thin_17 0 rfl rfl ?_
  obtain ⟨fs1, v1, q1, r1, hv⟩ := hv
  refine gk_get (pc := 18) (.int v1) dX8_thin_18 fX8_9_8 q1 r1 ?_
  refine gk_icmp_ge (pc := 21) 59 dX8_thin_21 (by decide) (fun c => ?_) (fun c => ?_)
  · replace hv := hv.1 c
    refine gk_iinc (pc := 59) (x3 + nI 1) [(3, .int (x3 + nI 1)), (0, .ref o), (1, .int x1), (2, .int x2), (4, .int x4)] 3 dX8_thin_59 rfl (by rw [ci_1]) (Nat.le_of_ble_eq_true rfl) rfl ?_
    refine gk_goto (pc := 62) 4 dX8_thin_62 (by decide) ?_
    exact gk_pick (pc := 4) [(0, .ref o), (1, .int x1), (2, .int x2), (3, .int (x3 + nI 1))] [1, 2, 3, 0] rfl hv
  · replace hv := hv.2 c
    refine gk_aload_n (pc := 24) dX8_thin_24 0 rfl rfl ?_
    refine gk_iconst (pc := 25) (nI 1) dX8_thin_25 ci_1 ?_
    refine gk_iload_n (pc := 26) dX8_thin_26 3 rfl rfl ?_
    refine gk_ishl (pc := 27) dX8_thin_27 ?_
    refine gk_iconst (pc := 28) (nI 1) dX8_thin_28 ci_1 ?_
    refine gk_iload (pc := 29) dX8_thin_29 4 rfl ?_
    refine gk_ishl (pc := 31) dX8_thin_31 ?_
    obtain ⟨⟨fs2, q2⟩, hv⟩ := hv
    refine gk_vV (pc := 32) [.int ((nI 1) <<< (x3 &&& 31)), .int ((nI 1) <<< (x4 &&& 31))] [] dX8_thin_32 cvX8_48 q2 rfl rfl (Nat.le_of_ble_eq_true rfl) (Nat.le_of_ble_eq_true rfl) (gk_Run.post (fun o h2 z => ?_) hv)
    obtain ⟨v2, rfl, hv⟩ := z
    refine gk_if_ne (pc := 35) 53 dX8_thin_35 (by decide) (fun c => ?_) (fun c => ?_)
    · replace hv := hv.1 c
      refine gk_iinc (pc := 53) (x4 + nI 1) [(4, .int (x4 + nI 1)), (0, .ref o), (1, .int x1), (2, .int x2), (3, .int x3)] 4 dX8_thin_53 rfl (by rw [ci_1]) (Nat.le_of_ble_eq_true rfl) rfl ?_
      refine gk_goto (pc := 56) 15 dX8_thin_56 (by decide) ?_
      exact gk_pick (pc := 15) [(0, .ref o), (1, .int x1), (2, .int x2), (3, .int x3), (4, .int (x4 + nI 1))] [1, 2, 3, 4, 0] rfl hv
    · replace hv := hv.2 c
      refine gk_iload_n (pc := 38) dX8_thin_38 1 rfl rfl ?_
      refine gk_if_ne (pc := 39) 50 dX8_thin_39 (by decide) (fun c => ?_) (fun c => ?_)
      · replace hv := hv.1 c
        refine gk_iinc (pc := 50) (x2 + nI 1) [(2, .int (x2 + nI 1)), (0, .ref o), (1, .int x1), (3, .int x3), (4, .int x4)] 2 dX8_thin_50 rfl (by rw [ci_1]) (Nat.le_of_ble_eq_true rfl) rfl ?_
        refine gk_iinc (pc := 53) (x4 + nI 1) [(4, .int (x4 + nI 1)), (2, .int (x2 + nI 1)), (0, .ref o), (1, .int x1), (3, .int x3)] 4 dX8_thin_53 rfl (by rw [ci_1]) (Nat.le_of_ble_eq_true rfl) rfl ?_
        refine gk_goto (pc := 56) 15 dX8_thin_56 (by decide) ?_
        exact gk_pick (pc := 15) [(0, .ref o), (1, .int x1), (2, .int (x2 + nI 1)), (3, .int x3), (4, .int (x4 + nI 1))] [2, 3, 1, 4, 0] rfl hv
      · replace hv := hv.2 c
        refine gk_bipush (pc := 42) (nI 10) dX8_thin_42 cb_10 ?_
        refine gk_iload_n (pc := 44) dX8_thin_44 3 rfl rfl ?_
        refine gk_imul (pc := 45) dX8_thin_45 ?_
        refine gk_iload (pc := 46) dX8_thin_46 4 rfl ?_
        refine gk_iadd (pc := 48) dX8_thin_48 ?_
        exact gk_ireturn (pc := 49) .int dX8_thin_49 rfl rfl ⟨_, rfl, hv⟩
set_option maxHeartbeats 4000000 in
theorem vX8_turns_0 {E : gk_E} {dd : Nat} {o : Nat} {x1 : Int32} {x2 : Int32} {x3 : Int32}  {h : gk_H} {K : Int64 → gk_H → Prop} (hv : LdR h o 8 1 fun v1 => AlI h v1 x1 fun v2 => LdR h o 8 1 fun v3 => AlI h v3 x2 fun v4 => LdR h o 8 1 fun v5 => AlI h v5 x3 fun v6 => RnL E X8_bit (dd, 0, 0) [.int x1, .int x2, .int x3] h (fun v7 h7 => RnL E X8_bit (dd, 0, 0) [.int v2, .int x3, .int x2] h7 (fun v8 h8 => RnL E X8_bit (dd, 0, 0) [.int x3, .int v4, .int x1] h8 (fun v9 h9 => RnL E X8_bit (dd, 0, 0) [.int v4, .int v2, .int v6] h9 (fun v10 h10 => RnL E X8_bit (dd, 0, 0) [.int x2, .int v6, .int v2] h10 (fun v11 h11 => RnL E X8_bit (dd, 0, 0) [.int v6, .int x1, .int v4] h11 (fun v12 h12 => K (((((v7 ||| v8) ||| v9) ||| v10) ||| v11) ||| v12) h12))))))) : RnL E mX8_turns (dd + 1, 0, 0) [.ref o, .int x1, .int x2, .int x3] h K := by
  show gk_G E mX8_turns (dd + 1, 0, 0) 0 [(0, .ref o), (1, .int x1), (2, .int x2), (3, .int x3)] [] h (fun o h1 => ∃ v, o = some (.long v) ∧ K v h1)
  refine gk_aload_n (pc := 0) dX8_turns_0 0 rfl rfl ?_
  obtain ⟨fs1, v1, q1, r1, hv⟩ := hv
  refine gk_get (pc := 1) (.ref v1) dX8_turns_1 fX8_15_8 q1 r1 ?_
  refine gk_iload_n (pc := 4) dX8_turns_4 1 rfl rfl ?_
  obtain ⟨n2, f2, q2, r2, hv⟩ := hv
  refine gk_iald (pc := 5) dX8_turns_5 q2 r2 ?_
  generalize f2 _ = v2 at hv ⊢
  refine gk_istore (pc := 6) [(4, .int v2), (0, .ref o), (1, .int x1), (2, .int x2), (3, .int x3)] dX8_turns_6 (Nat.le_of_ble_eq_true rfl) rfl ?_
  refine gk_aload_n (pc := 8) dX8_turns_8 1 rfl rfl ?_
  obtain ⟨fs3, v3, q3, r3, hv⟩ := hv
  refine gk_get (pc := 9) (.ref v3) dX8_turns_9 fX8_15_8 q3 r3 ?_
  refine gk_iload_n (pc := 12) dX8_turns_12 3 rfl rfl ?_
  obtain ⟨n4, f4, q4, r4, hv⟩ := hv
  refine gk_iald (pc := 13) dX8_turns_13 q4 r4 ?_
  generalize f4 _ = v4 at hv ⊢
  refine gk_istore (pc := 14) [(5, .int v4), (4, .int v2), (0, .ref o), (1, .int x1), (2, .int x2), (3, .int x3)] dX8_turns_14 (Nat.le_of_ble_eq_true rfl) rfl ?_
  refine gk_aload_n (pc := 16) dX8_turns_16 2 rfl rfl ?_
  obtain ⟨fs5, v5, q5, r5, hv⟩ := hv
  refine gk_get (pc := 17) (.ref v5) dX8_turns_17 fX8_15_8 q5 r5 ?_
  refine gk_iload_n (pc := 20) dX8_turns_20 5 rfl rfl ?_
  obtain ⟨n6, f6, q6, r6, hv⟩ := hv
  refine gk_iald (pc := 21) dX8_turns_21 q6 r6 ?_
  generalize f6 _ = v6 at hv ⊢
  refine gk_istore (pc := 22) [(6, .int v6), (5, .int v4), (4, .int v2), (0, .ref o), (1, .int x1), (2, .int x2), (3, .int x3)] dX8_turns_22 (Nat.le_of_ble_eq_true rfl) rfl ?_
  refine gk_iload_n (pc := 24) dX8_turns_24 4 rfl rfl ?_
  refine gk_iload_n (pc := 25) dX8_turns_25 5 rfl rfl ?_
  refine gk_iload_n (pc := 26) dX8_turns_26 6 rfl rfl ?_
  refine gk_vS (pc := 27) [.int x1, .int x2, .int x3] [] dX8_turns_27 csX8_33 rfl rfl (Nat.le_of_ble_eq_true rfl) (Nat.le_of_ble_eq_true rfl) (gk_Run.post (fun o h7 z => ?_) hv)
  obtain ⟨v7, rfl, hv⟩ := z
  refine gk_iload (pc := 30) dX8_turns_30 2 rfl ?_
  refine gk_iload_n (pc := 32) dX8_turns_32 6 rfl rfl ?_
  refine gk_iload_n (pc := 33) dX8_turns_33 5 rfl rfl ?_
  refine gk_vS (pc := 34) [.int v2, .int x3, .int x2] [.long v7] dX8_turns_34 csX8_33 rfl rfl (Nat.le_of_ble_eq_true rfl) (Nat.le_of_ble_eq_true rfl) (gk_Run.post (fun o h8 z => ?_) hv)
  obtain ⟨v8, rfl, hv⟩ := z
  refine gk_lor (pc := 37) dX8_turns_37 ?_
  refine gk_iload_n (pc := 38) dX8_turns_38 6 rfl rfl ?_
  refine gk_iload (pc := 39) dX8_turns_39 1 rfl ?_
  refine gk_iload_n (pc := 41) dX8_turns_41 4 rfl rfl ?_
  refine gk_vS (pc := 42) [.int x3, .int v4, .int x1] [.long (v7 ||| v8)] dX8_turns_42 csX8_33 rfl rfl (Nat.le_of_ble_eq_true rfl) (Nat.le_of_ble_eq_true rfl) (gk_Run.post (fun o h9 z => ?_) hv)
  obtain ⟨v9, rfl, hv⟩ := z
  refine gk_lor (pc := 45) dX8_turns_45 ?_
  refine gk_iload (pc := 46) dX8_turns_46 1 rfl ?_
  refine gk_iload (pc := 48) dX8_turns_48 2 rfl ?_
  refine gk_iload (pc := 50) dX8_turns_50 0 rfl ?_
  refine gk_vS (pc := 52) [.int v4, .int v2, .int v6] [.long ((v7 ||| v8) ||| v9)] dX8_turns_52 csX8_33 rfl rfl (Nat.le_of_ble_eq_true rfl) (Nat.le_of_ble_eq_true rfl) (gk_Run.post (fun o h10 z => ?_) hv)
  obtain ⟨v10, rfl, hv⟩ := z
  refine gk_lor (pc := 55) dX8_turns_55 ?_
  refine gk_iload_n (pc := 56) dX8_turns_56 5 rfl rfl ?_
  refine gk_iload (pc := 57) dX8_turns_57 0 rfl ?_
  refine gk_iload (pc := 59) dX8_turns_59 2 rfl ?_
  refine gk_vS (pc := 61) [.int x2, .int v6, .int v2] [.long (((v7 ||| v8) ||| v9) ||| v10)] dX8_turns_61 csX8_33 rfl rfl (Nat.le_of_ble_eq_true rfl) (Nat.le_of_ble_eq_true rfl) (gk_Run.post (fun o h11 z => ?_) hv)
  obtain ⟨v11, rfl, hv⟩ := z
  refine gk_lor (pc := 64) dX8_turns_64 ?_
  refine gk_iload (pc := 65) dX8_turns_65 0 rfl ?_
  refine gk_iload_n (pc := 67) dX8_turns_67 4 rfl rfl ?_
  refine gk_iload (pc := 68) dX8_turns_68 1 rfl ?_
  refine gk_vS (pc := 70) [.int v6, .int x1, .int v4] [.long ((((v7 ||| v8) ||| v9) ||| v10) ||| v11)] dX8_turns_70 csX8_33 rfl rfl (Nat.le_of_ble_eq_true rfl) (Nat.le_of_ble_eq_true rfl) (gk_Run.post (fun o h12 z => ?_) hv)
  obtain ⟨v12, rfl, hv⟩ := z
  refine gk_lor (pc := 73) dX8_turns_73 ?_
  exact gk_lreturn (pc := 74) dX8_turns_74 rfl ⟨_, rfl, hv⟩
abbrev pX8_unbalanced_4 (E : gk_E) (dd : Nat) (o : Nat) (x1 : Int32) (x2 : Int32) (x3 : Int32) (h : gk_H) (K : Int32 → gk_H → Prop) : Prop := gk_G E mX8_unbalanced (dd + 1, 0, 0) 4 [(0, .ref o), (1, .int x1), (2, .int x2), (3, .int x3)] [] h (fun o h1 => ∃ v, o = some (.int v) ∧ K v h1)
abbrev pX8_unbalanced_15 (E : gk_E) (dd : Nat) (o : Nat) (x1 : Int32) (x2 : Int32) (x3 : Int32) (x4 : Int32) (h : gk_H) (K : Int32 → gk_H → Prop) : Prop := gk_G E mX8_unbalanced (dd + 1, 0, 0) 15 [(0, .ref o), (1, .int x1), (2, .int x2), (3, .int x3), (4, .int x4)] [] h (fun o h1 => ∃ v, o = some (.int v) ∧ K v h1)
abbrev pX8_unbalanced_27 (E : gk_E) (dd : Nat) (o : Nat) (x1 : Int32) (x2 : Int32) (x3 : Int32) (x4 : Int32) (x5 : Int32) (h : gk_H) (K : Int32 → gk_H → Prop) : Prop := gk_G E mX8_unbalanced (dd + 1, 0, 0) 27 [(0, .ref o), (1, .int x1), (2, .int x2), (3, .int x3), (4, .int x4), (5, .int x5)] [] h (fun o h1 => ∃ v, o = some (.int v) ∧ K v h1)
set_option maxHeartbeats 4000000 in
theorem vX8_unbalanced_0 {E : gk_E} {dd : Nat} {o : Nat} {x1 : Int32}  {h : gk_H} {K : Int32 → gk_H → Prop} (hv : pX8_unbalanced_4 E dd o x1 (nI 0) (nI 0) h K) : RnI E mX8_unbalanced (dd + 1, 0, 0) [.ref o, .int x1] h K := by
  show gk_G E mX8_unbalanced (dd + 1, 0, 0) 0 [(0, .ref o), (1, .int x1)] [] h (fun o h1 => ∃ v, o = some (.int v) ∧ K v h1)
  refine gk_iconst (pc := 0) (nI 0) dX8_unbalanced_0 ci_0 ?_
  refine gk_istore_n (pc := 1) [(2, .int (nI 0)), (0, .ref o), (1, .int x1)] dX8_unbalanced_1 rfl (Nat.le_of_ble_eq_true rfl) rfl ?_
  refine gk_iconst (pc := 2) (nI 0) dX8_unbalanced_2 ci_0 ?_
  refine gk_istore_n (pc := 3) [(3, .int (nI 0)), (2, .int (nI 0)), (0, .ref o), (1, .int x1)] dX8_unbalanced_3 rfl (Nat.le_of_ble_eq_true rfl) rfl ?_
  exact gk_pick (pc := 4) [(0, .ref o), (1, .int x1), (2, .int (nI 0)), (3, .int (nI 0))] [2, 3, 1, 0] rfl hv
set_option maxHeartbeats 4000000 in
theorem vX8_unbalanced_4 {E : gk_E} {dd : Nat} {o : Nat} {x1 : Int32} {x2 : Int32} {x3 : Int32}  {h : gk_H} {K : Int32 → gk_H → Prop} (hv : LdI h o 8 0 fun v1 => (v1 ≤ x3 → (x1 = 0 → K ((-5)) h) ∧ (¬ x1 = 0 → K x2 h)) ∧ (¬ v1 ≤ x3 → pX8_unbalanced_15 E dd o x1 x2 x3 (nI 0) h K)) : pX8_unbalanced_4 E dd o x1 x2 x3 h K := by
  show gk_G E mX8_unbalanced (dd + 1, 0, 0) 4 [(0, .ref o), (1, .int x1), (2, .int x2), (3, .int x3)] [] h (fun o h1 => ∃ v, o = some (.int v) ∧ K v h1)
  refine gk_iload_n (pc := 4) dX8_unbalanced_4 3 rfl rfl ?_
  refine gk_aload_n (pc := 5) dX8_unbalanced_5 0 rfl rfl ?_
  obtain ⟨fs1, v1, q1, r1, hv⟩ := hv
  refine gk_get (pc := 6) (.int v1) dX8_unbalanced_6 fX8_9_8 q1 r1 ?_
  refine gk_icmp_ge (pc := 9) 87 dX8_unbalanced_9 (by decide) (fun c => ?_) (fun c => ?_)
  · replace hv := hv.1 c
    refine gk_iload_n (pc := 87) dX8_unbalanced_87 1 rfl rfl ?_
    refine gk_if_eq (pc := 88) 95 dX8_unbalanced_88 (by decide) (fun c => ?_) (fun c => ?_)
    · replace hv := hv.1 c
      refine gk_bipush (pc := 95) ((-5)) dX8_unbalanced_95 cb_m5 ?_
      exact gk_ireturn (pc := 97) .int dX8_unbalanced_97 rfl rfl ⟨_, rfl, hv⟩
    · replace hv := hv.2 c
      refine gk_iload_n (pc := 91) dX8_unbalanced_91 2 rfl rfl ?_
      refine gk_goto (pc := 92) 97 dX8_unbalanced_92 (by decide) ?_
      exact gk_ireturn (pc := 97) .int dX8_unbalanced_97 rfl rfl ⟨_, rfl, hv⟩
  · replace hv := hv.2 c
    refine gk_iconst (pc := 12) (nI 0) dX8_unbalanced_12 ci_0 ?_
    refine gk_istore (pc := 13) [(4, .int (nI 0)), (0, .ref o), (1, .int x1), (2, .int x2), (3, .int x3)] dX8_unbalanced_13 (Nat.le_of_ble_eq_true rfl) rfl ?_
    exact gk_pick (pc := 15) [(0, .ref o), (1, .int x1), (2, .int x2), (3, .int x3), (4, .int (nI 0))] [1, 2, 3, 4, 0] rfl hv
set_option maxHeartbeats 4000000 in
theorem vX8_unbalanced_15 {E : gk_E} {dd : Nat} {o : Nat} {x1 : Int32} {x2 : Int32} {x3 : Int32} {x4 : Int32}  {h : gk_H} {K : Int32 → gk_H → Prop} (hv : LdI h o 8 0 fun v1 => (v1 ≤ x4 → pX8_unbalanced_4 E dd o x1 x2 (x3 + nI 1) h K) ∧ (¬ v1 ≤ x4 → pX8_unbalanced_27 E dd o x1 x2 x3 x4 (nI 0) h K)) : pX8_unbalanced_15 E dd o x1 x2 x3 x4 h K := by
  show gk_G E mX8_unbalanced (dd + 1, 0, 0) 15 [(0, .ref o), (1, .int x1), (2, .int x2), (3, .int x3), (4, .int x4)] [] h (fun o h1 => ∃ v, o = some (.int v) ∧ K v h1)
  refine gk_iload (pc := 15) dX8_unbalanced_15 4 rfl ?_
  refine gk_aload_n (pc := 17) dX8_unbalanced_17 0 rfl rfl ?_
  obtain ⟨fs1, v1, q1, r1, hv⟩ := hv
  refine gk_get (pc := 18) (.int v1) dX8_unbalanced_18 fX8_9_8 q1 r1 ?_
  refine gk_icmp_ge (pc := 21) 81 dX8_unbalanced_21 (by decide) (fun c => ?_) (fun c => ?_)
  · replace hv := hv.1 c
    refine gk_iinc (pc := 81) (x3 + nI 1) [(3, .int (x3 + nI 1)), (0, .ref o), (1, .int x1), (2, .int x2), (4, .int x4)] 3 dX8_unbalanced_81 rfl (by rw [ci_1]) (Nat.le_of_ble_eq_true rfl) rfl ?_
    refine gk_goto (pc := 84) 4 dX8_unbalanced_84 (by decide) ?_
    exact gk_pick (pc := 4) [(0, .ref o), (1, .int x1), (2, .int x2), (3, .int (x3 + nI 1))] [1, 2, 3, 0] rfl hv
  · replace hv := hv.2 c
    refine gk_iconst (pc := 24) (nI 0) dX8_unbalanced_24 ci_0 ?_
    refine gk_istore (pc := 25) [(5, .int (nI 0)), (0, .ref o), (1, .int x1), (2, .int x2), (3, .int x3), (4, .int x4)] dX8_unbalanced_25 (Nat.le_of_ble_eq_true rfl) rfl ?_
    exact gk_pick (pc := 27) [(0, .ref o), (1, .int x1), (2, .int x2), (3, .int x3), (4, .int x4), (5, .int (nI 0))] [1, 2, 3, 4, 5, 0] rfl hv
set_option maxHeartbeats 4000000 in
theorem vX8_unbalanced_27 {E : gk_E} {dd : Nat} {o : Nat} {x1 : Int32} {x2 : Int32} {x3 : Int32} {x4 : Int32} {x5 : Int32}  {h : gk_H} {K : Int32 → gk_H → Prop} (hv : LdI h o 8 0 fun v1 => (v1 ≤ x5 → pX8_unbalanced_15 E dd o x1 x2 x3 (x4 + nI 1) h K) ∧ (¬ v1 ≤ x5 → (∃ fs, h[o]? = some (.inr (8, fs))) ∧ RnI E mX8_isUnbalanced (dd, 0, 0) [.ref o, .int x3, .int x4, .int x5] h (fun v2 h2 => (v2 = 0 → pX8_unbalanced_27 E dd o x1 x2 x3 x4 (x5 + nI 1) h2 K) ∧ (¬ v2 = 0 → (¬ x1 = 0 → pX8_unbalanced_27 E dd o x1 (x2 + nI 1) x3 x4 (x5 + nI 1) h2 K) ∧ (x1 = 0 → K ((((nI 100) * x3) + ((nI 10) * x4)) + x5) h2))))) : pX8_unbalanced_27 E dd o x1 x2 x3 x4 x5 h K := by
  show gk_G E mX8_unbalanced (dd + 1, 0, 0) 27 [(0, .ref o), (1, .int x1), (2, .int x2), (3, .int x3), (4, .int x4), (5, .int x5)] [] h (fun o h1 => ∃ v, o = some (.int v) ∧ K v h1)
  refine gk_iload (pc := 27) dX8_unbalanced_27 5 rfl ?_
  refine gk_aload_n (pc := 29) dX8_unbalanced_29 0 rfl rfl ?_
  obtain ⟨fs1, v1, q1, r1, hv⟩ := hv
  refine gk_get (pc := 30) (.int v1) dX8_unbalanced_30 fX8_9_8 q1 r1 ?_
  refine gk_icmp_ge (pc := 33) 75 dX8_unbalanced_33 (by decide) (fun c => ?_) (fun c => ?_)
  · replace hv := hv.1 c
    refine gk_iinc (pc := 75) (x4 + nI 1) [(4, .int (x4 + nI 1)), (0, .ref o), (1, .int x1), (2, .int x2), (3, .int x3), (5, .int x5)] 4 dX8_unbalanced_75 rfl (by rw [ci_1]) (Nat.le_of_ble_eq_true rfl) rfl ?_
    refine gk_goto (pc := 78) 15 dX8_unbalanced_78 (by decide) ?_
    exact gk_pick (pc := 15) [(0, .ref o), (1, .int x1), (2, .int x2), (3, .int x3), (4, .int (x4 + nI 1))] [1, 2, 3, 4, 0] rfl hv
  · replace hv := hv.2 c
    refine gk_aload_n (pc := 36) dX8_unbalanced_36 0 rfl rfl ?_
    refine gk_iload_n (pc := 37) dX8_unbalanced_37 3 rfl rfl ?_
    refine gk_iload (pc := 38) dX8_unbalanced_38 4 rfl ?_
    refine gk_iload (pc := 40) dX8_unbalanced_40 5 rfl ?_
    obtain ⟨⟨fs2, q2⟩, hv⟩ := hv
    refine gk_vV (pc := 42) [.int x3, .int x4, .int x5] [] dX8_unbalanced_42 cvX8_64 q2 rfl rfl (Nat.le_of_ble_eq_true rfl) (Nat.le_of_ble_eq_true rfl) (gk_Run.post (fun o h2 z => ?_) hv)
    obtain ⟨v2, rfl, hv⟩ := z
    refine gk_if_eq (pc := 45) 69 dX8_unbalanced_45 (by decide) (fun c => ?_) (fun c => ?_)
    · replace hv := hv.1 c
      refine gk_iinc (pc := 69) (x5 + nI 1) [(5, .int (x5 + nI 1)), (0, .ref o), (1, .int x1), (2, .int x2), (3, .int x3), (4, .int x4)] 5 dX8_unbalanced_69 rfl (by rw [ci_1]) (Nat.le_of_ble_eq_true rfl) rfl ?_
      refine gk_goto (pc := 72) 27 dX8_unbalanced_72 (by decide) ?_
      exact gk_pick (pc := 27) [(0, .ref o), (1, .int x1), (2, .int x2), (3, .int x3), (4, .int x4), (5, .int (x5 + nI 1))] [1, 2, 3, 4, 5, 0] rfl hv
    · replace hv := hv.2 c
      refine gk_iload_n (pc := 48) dX8_unbalanced_48 1 rfl rfl ?_
      refine gk_if_ne (pc := 49) 66 dX8_unbalanced_49 (by decide) (fun c => ?_) (fun c => ?_)
      · replace hv := hv.1 c
        refine gk_iinc (pc := 66) (x2 + nI 1) [(2, .int (x2 + nI 1)), (0, .ref o), (1, .int x1), (3, .int x3), (4, .int x4), (5, .int x5)] 2 dX8_unbalanced_66 rfl (by rw [ci_1]) (Nat.le_of_ble_eq_true rfl) rfl ?_
        refine gk_iinc (pc := 69) (x5 + nI 1) [(5, .int (x5 + nI 1)), (2, .int (x2 + nI 1)), (0, .ref o), (1, .int x1), (3, .int x3), (4, .int x4)] 5 dX8_unbalanced_69 rfl (by rw [ci_1]) (Nat.le_of_ble_eq_true rfl) rfl ?_
        refine gk_goto (pc := 72) 27 dX8_unbalanced_72 (by decide) ?_
        exact gk_pick (pc := 27) [(0, .ref o), (1, .int x1), (2, .int (x2 + nI 1)), (3, .int x3), (4, .int x4), (5, .int (x5 + nI 1))] [2, 3, 1, 4, 5, 0] rfl hv
      · replace hv := hv.2 c
        refine gk_bipush (pc := 52) (nI 100) dX8_unbalanced_52 cb_100 ?_
        refine gk_iload_n (pc := 54) dX8_unbalanced_54 3 rfl rfl ?_
        refine gk_imul (pc := 55) dX8_unbalanced_55 ?_
        refine gk_bipush (pc := 56) (nI 10) dX8_unbalanced_56 cb_10 ?_
        refine gk_iload (pc := 58) dX8_unbalanced_58 4 rfl ?_
        refine gk_imul (pc := 60) dX8_unbalanced_60 ?_
        refine gk_iadd (pc := 61) dX8_unbalanced_61 ?_
        refine gk_iload (pc := 62) dX8_unbalanced_62 5 rfl ?_
        refine gk_iadd (pc := 64) dX8_unbalanced_64 ?_
        exact gk_ireturn (pc := 65) .int dX8_unbalanced_65 rfl rfl ⟨_, rfl, hv⟩
set_option maxHeartbeats 4000000 in
theorem vJ13_bitCount_95d88_0 {E : gk_E} {dd : Nat} {x0 : Int64}  {h : gk_H} {K : Int32 → gk_H → Prop} (hv : K ((((((((((x0 - (((x0.toUInt64 >>> ((nI 1).toInt64.toUInt64 &&& Int64.toUInt64 63)).toInt64) &&& (lN 6148914691236517205))) &&& (lN 3689348814741910323)) + ((((x0 - (((x0.toUInt64 >>> ((nI 1).toInt64.toUInt64 &&& Int64.toUInt64 63)).toInt64) &&& (lN 6148914691236517205))).toUInt64 >>> ((nI 2).toInt64.toUInt64 &&& Int64.toUInt64 63)).toInt64) &&& (lN 3689348814741910323))) + (((((x0 - (((x0.toUInt64 >>> ((nI 1).toInt64.toUInt64 &&& Int64.toUInt64 63)).toInt64) &&& (lN 6148914691236517205))) &&& (lN 3689348814741910323)) + ((((x0 - (((x0.toUInt64 >>> ((nI 1).toInt64.toUInt64 &&& Int64.toUInt64 63)).toInt64) &&& (lN 6148914691236517205))).toUInt64 >>> ((nI 2).toInt64.toUInt64 &&& Int64.toUInt64 63)).toInt64) &&& (lN 3689348814741910323))).toUInt64 >>> ((nI 4).toInt64.toUInt64 &&& Int64.toUInt64 63)).toInt64)) &&& (lN 1085102592571150095)) + (((((((x0 - (((x0.toUInt64 >>> ((nI 1).toInt64.toUInt64 &&& Int64.toUInt64 63)).toInt64) &&& (lN 6148914691236517205))) &&& (lN 3689348814741910323)) + ((((x0 - (((x0.toUInt64 >>> ((nI 1).toInt64.toUInt64 &&& Int64.toUInt64 63)).toInt64) &&& (lN 6148914691236517205))).toUInt64 >>> ((nI 2).toInt64.toUInt64 &&& Int64.toUInt64 63)).toInt64) &&& (lN 3689348814741910323))) + (((((x0 - (((x0.toUInt64 >>> ((nI 1).toInt64.toUInt64 &&& Int64.toUInt64 63)).toInt64) &&& (lN 6148914691236517205))) &&& (lN 3689348814741910323)) + ((((x0 - (((x0.toUInt64 >>> ((nI 1).toInt64.toUInt64 &&& Int64.toUInt64 63)).toInt64) &&& (lN 6148914691236517205))).toUInt64 >>> ((nI 2).toInt64.toUInt64 &&& Int64.toUInt64 63)).toInt64) &&& (lN 3689348814741910323))).toUInt64 >>> ((nI 4).toInt64.toUInt64 &&& Int64.toUInt64 63)).toInt64)) &&& (lN 1085102592571150095)).toUInt64 >>> ((nI 8).toInt64.toUInt64 &&& Int64.toUInt64 63)).toInt64)) + ((((((((x0 - (((x0.toUInt64 >>> ((nI 1).toInt64.toUInt64 &&& Int64.toUInt64 63)).toInt64) &&& (lN 6148914691236517205))) &&& (lN 3689348814741910323)) + ((((x0 - (((x0.toUInt64 >>> ((nI 1).toInt64.toUInt64 &&& Int64.toUInt64 63)).toInt64) &&& (lN 6148914691236517205))).toUInt64 >>> ((nI 2).toInt64.toUInt64 &&& Int64.toUInt64 63)).toInt64) &&& (lN 3689348814741910323))) + (((((x0 - (((x0.toUInt64 >>> ((nI 1).toInt64.toUInt64 &&& Int64.toUInt64 63)).toInt64) &&& (lN 6148914691236517205))) &&& (lN 3689348814741910323)) + ((((x0 - (((x0.toUInt64 >>> ((nI 1).toInt64.toUInt64 &&& Int64.toUInt64 63)).toInt64) &&& (lN 6148914691236517205))).toUInt64 >>> ((nI 2).toInt64.toUInt64 &&& Int64.toUInt64 63)).toInt64) &&& (lN 3689348814741910323))).toUInt64 >>> ((nI 4).toInt64.toUInt64 &&& Int64.toUInt64 63)).toInt64)) &&& (lN 1085102592571150095)) + (((((((x0 - (((x0.toUInt64 >>> ((nI 1).toInt64.toUInt64 &&& Int64.toUInt64 63)).toInt64) &&& (lN 6148914691236517205))) &&& (lN 3689348814741910323)) + ((((x0 - (((x0.toUInt64 >>> ((nI 1).toInt64.toUInt64 &&& Int64.toUInt64 63)).toInt64) &&& (lN 6148914691236517205))).toUInt64 >>> ((nI 2).toInt64.toUInt64 &&& Int64.toUInt64 63)).toInt64) &&& (lN 3689348814741910323))) + (((((x0 - (((x0.toUInt64 >>> ((nI 1).toInt64.toUInt64 &&& Int64.toUInt64 63)).toInt64) &&& (lN 6148914691236517205))) &&& (lN 3689348814741910323)) + ((((x0 - (((x0.toUInt64 >>> ((nI 1).toInt64.toUInt64 &&& Int64.toUInt64 63)).toInt64) &&& (lN 6148914691236517205))).toUInt64 >>> ((nI 2).toInt64.toUInt64 &&& Int64.toUInt64 63)).toInt64) &&& (lN 3689348814741910323))).toUInt64 >>> ((nI 4).toInt64.toUInt64 &&& Int64.toUInt64 63)).toInt64)) &&& (lN 1085102592571150095)).toUInt64 >>> ((nI 8).toInt64.toUInt64 &&& Int64.toUInt64 63)).toInt64)).toUInt64 >>> ((nI 16).toInt64.toUInt64 &&& Int64.toUInt64 63)).toInt64)) + (((((((((x0 - (((x0.toUInt64 >>> ((nI 1).toInt64.toUInt64 &&& Int64.toUInt64 63)).toInt64) &&& (lN 6148914691236517205))) &&& (lN 3689348814741910323)) + ((((x0 - (((x0.toUInt64 >>> ((nI 1).toInt64.toUInt64 &&& Int64.toUInt64 63)).toInt64) &&& (lN 6148914691236517205))).toUInt64 >>> ((nI 2).toInt64.toUInt64 &&& Int64.toUInt64 63)).toInt64) &&& (lN 3689348814741910323))) + (((((x0 - (((x0.toUInt64 >>> ((nI 1).toInt64.toUInt64 &&& Int64.toUInt64 63)).toInt64) &&& (lN 6148914691236517205))) &&& (lN 3689348814741910323)) + ((((x0 - (((x0.toUInt64 >>> ((nI 1).toInt64.toUInt64 &&& Int64.toUInt64 63)).toInt64) &&& (lN 6148914691236517205))).toUInt64 >>> ((nI 2).toInt64.toUInt64 &&& Int64.toUInt64 63)).toInt64) &&& (lN 3689348814741910323))).toUInt64 >>> ((nI 4).toInt64.toUInt64 &&& Int64.toUInt64 63)).toInt64)) &&& (lN 1085102592571150095)) + (((((((x0 - (((x0.toUInt64 >>> ((nI 1).toInt64.toUInt64 &&& Int64.toUInt64 63)).toInt64) &&& (lN 6148914691236517205))) &&& (lN 3689348814741910323)) + ((((x0 - (((x0.toUInt64 >>> ((nI 1).toInt64.toUInt64 &&& Int64.toUInt64 63)).toInt64) &&& (lN 6148914691236517205))).toUInt64 >>> ((nI 2).toInt64.toUInt64 &&& Int64.toUInt64 63)).toInt64) &&& (lN 3689348814741910323))) + (((((x0 - (((x0.toUInt64 >>> ((nI 1).toInt64.toUInt64 &&& Int64.toUInt64 63)).toInt64) &&& (lN 6148914691236517205))) &&& (lN 3689348814741910323)) + ((((x0 - (((x0.toUInt64 >>> ((nI 1).toInt64.toUInt64 &&& Int64.toUInt64 63)).toInt64) &&& (lN 6148914691236517205))).toUInt64 >>> ((nI 2).toInt64.toUInt64 &&& Int64.toUInt64 63)).toInt64) &&& (lN 3689348814741910323))).toUInt64 >>> ((nI 4).toInt64.toUInt64 &&& Int64.toUInt64 63)).toInt64)) &&& (lN 1085102592571150095)).toUInt64 >>> ((nI 8).toInt64.toUInt64 &&& Int64.toUInt64 63)).toInt64)) + ((((((((x0 - (((x0.toUInt64 >>> ((nI 1).toInt64.toUInt64 &&& Int64.toUInt64 63)).toInt64) &&& (lN 6148914691236517205))) &&& (lN 3689348814741910323)) + ((((x0 - (((x0.toUInt64 >>> ((nI 1).toInt64.toUInt64 &&& Int64.toUInt64 63)).toInt64) &&& (lN 6148914691236517205))).toUInt64 >>> ((nI 2).toInt64.toUInt64 &&& Int64.toUInt64 63)).toInt64) &&& (lN 3689348814741910323))) + (((((x0 - (((x0.toUInt64 >>> ((nI 1).toInt64.toUInt64 &&& Int64.toUInt64 63)).toInt64) &&& (lN 6148914691236517205))) &&& (lN 3689348814741910323)) + ((((x0 - (((x0.toUInt64 >>> ((nI 1).toInt64.toUInt64 &&& Int64.toUInt64 63)).toInt64) &&& (lN 6148914691236517205))).toUInt64 >>> ((nI 2).toInt64.toUInt64 &&& Int64.toUInt64 63)).toInt64) &&& (lN 3689348814741910323))).toUInt64 >>> ((nI 4).toInt64.toUInt64 &&& Int64.toUInt64 63)).toInt64)) &&& (lN 1085102592571150095)) + (((((((x0 - (((x0.toUInt64 >>> ((nI 1).toInt64.toUInt64 &&& Int64.toUInt64 63)).toInt64) &&& (lN 6148914691236517205))) &&& (lN 3689348814741910323)) + ((((x0 - (((x0.toUInt64 >>> ((nI 1).toInt64.toUInt64 &&& Int64.toUInt64 63)).toInt64) &&& (lN 6148914691236517205))).toUInt64 >>> ((nI 2).toInt64.toUInt64 &&& Int64.toUInt64 63)).toInt64) &&& (lN 3689348814741910323))) + (((((x0 - (((x0.toUInt64 >>> ((nI 1).toInt64.toUInt64 &&& Int64.toUInt64 63)).toInt64) &&& (lN 6148914691236517205))) &&& (lN 3689348814741910323)) + ((((x0 - (((x0.toUInt64 >>> ((nI 1).toInt64.toUInt64 &&& Int64.toUInt64 63)).toInt64) &&& (lN 6148914691236517205))).toUInt64 >>> ((nI 2).toInt64.toUInt64 &&& Int64.toUInt64 63)).toInt64) &&& (lN 3689348814741910323))).toUInt64 >>> ((nI 4).toInt64.toUInt64 &&& Int64.toUInt64 63)).toInt64)) &&& (lN 1085102592571150095)).toUInt64 >>> ((nI 8).toInt64.toUInt64 &&& Int64.toUInt64 63)).toInt64)).toUInt64 >>> ((nI 16).toInt64.toUInt64 &&& Int64.toUInt64 63)).toInt64)).toUInt64 >>> ((nI 32).toInt64.toUInt64 &&& Int64.toUInt64 63)).toInt64)).toInt32) &&& (nI 127)) h) : RnI E mJ13_bitCount_95d88 (dd, 0, 0) [.long x0] h K := by
  show gk_G E mJ13_bitCount_95d88 (dd, 0, 0) 0 [(0, .long x0)] [] h (fun o h1 => ∃ v, o = some (.int v) ∧ K v h1)
  refine gk_lload_n (pc := 0) dJ13_bitCount_95d88_0 0 rfl rfl ?_
  refine gk_lload_n (pc := 1) dJ13_bitCount_95d88_1 0 rfl rfl ?_
  refine gk_iconst (pc := 2) (nI 1) dJ13_bitCount_95d88_2 ci_1 ?_
  refine gk_lushr (pc := 3) dJ13_bitCount_95d88_3 ?_
  refine gk_ldc2 (pc := 4) (lN 6148914691236517205) dJ13_bitCount_95d88_4 klJ13_314 ?_
  refine gk_land (pc := 7) dJ13_bitCount_95d88_7 ?_
  refine gk_lsub (pc := 8) dJ13_bitCount_95d88_8 ?_
  refine gk_lstore_n (pc := 9) [(0, .long (x0 - (((x0.toUInt64 >>> ((nI 1).toInt64.toUInt64 &&& Int64.toUInt64 63)).toInt64) &&& (lN 6148914691236517205))))] dJ13_bitCount_95d88_9 rfl (Nat.le_of_ble_eq_true rfl) rfl ?_
  refine gk_lload_n (pc := 10) dJ13_bitCount_95d88_10 0 rfl rfl ?_
  refine gk_ldc2 (pc := 11) (lN 3689348814741910323) dJ13_bitCount_95d88_11 klJ13_316 ?_
  refine gk_land (pc := 14) dJ13_bitCount_95d88_14 ?_
  refine gk_lload_n (pc := 15) dJ13_bitCount_95d88_15 0 rfl rfl ?_
  refine gk_iconst (pc := 16) (nI 2) dJ13_bitCount_95d88_16 ci_2 ?_
  refine gk_lushr (pc := 17) dJ13_bitCount_95d88_17 ?_
  refine gk_ldc2 (pc := 18) (lN 3689348814741910323) dJ13_bitCount_95d88_18 klJ13_316 ?_
  refine gk_land (pc := 21) dJ13_bitCount_95d88_21 ?_
  refine gk_ladd (pc := 22) dJ13_bitCount_95d88_22 ?_
  refine gk_lstore_n (pc := 23) [(0, .long (((x0 - (((x0.toUInt64 >>> ((nI 1).toInt64.toUInt64 &&& Int64.toUInt64 63)).toInt64) &&& (lN 6148914691236517205))) &&& (lN 3689348814741910323)) + ((((x0 - (((x0.toUInt64 >>> ((nI 1).toInt64.toUInt64 &&& Int64.toUInt64 63)).toInt64) &&& (lN 6148914691236517205))).toUInt64 >>> ((nI 2).toInt64.toUInt64 &&& Int64.toUInt64 63)).toInt64) &&& (lN 3689348814741910323))))] dJ13_bitCount_95d88_23 rfl (Nat.le_of_ble_eq_true rfl) rfl ?_
  refine gk_lload_n (pc := 24) dJ13_bitCount_95d88_24 0 rfl rfl ?_
  refine gk_lload_n (pc := 25) dJ13_bitCount_95d88_25 0 rfl rfl ?_
  refine gk_iconst (pc := 26) (nI 4) dJ13_bitCount_95d88_26 ci_4 ?_
  refine gk_lushr (pc := 27) dJ13_bitCount_95d88_27 ?_
  refine gk_ladd (pc := 28) dJ13_bitCount_95d88_28 ?_
  refine gk_ldc2 (pc := 29) (lN 1085102592571150095) dJ13_bitCount_95d88_29 klJ13_318 ?_
  refine gk_land (pc := 32) dJ13_bitCount_95d88_32 ?_
  refine gk_lstore_n (pc := 33) [(0, .long (((((x0 - (((x0.toUInt64 >>> ((nI 1).toInt64.toUInt64 &&& Int64.toUInt64 63)).toInt64) &&& (lN 6148914691236517205))) &&& (lN 3689348814741910323)) + ((((x0 - (((x0.toUInt64 >>> ((nI 1).toInt64.toUInt64 &&& Int64.toUInt64 63)).toInt64) &&& (lN 6148914691236517205))).toUInt64 >>> ((nI 2).toInt64.toUInt64 &&& Int64.toUInt64 63)).toInt64) &&& (lN 3689348814741910323))) + (((((x0 - (((x0.toUInt64 >>> ((nI 1).toInt64.toUInt64 &&& Int64.toUInt64 63)).toInt64) &&& (lN 6148914691236517205))) &&& (lN 3689348814741910323)) + ((((x0 - (((x0.toUInt64 >>> ((nI 1).toInt64.toUInt64 &&& Int64.toUInt64 63)).toInt64) &&& (lN 6148914691236517205))).toUInt64 >>> ((nI 2).toInt64.toUInt64 &&& Int64.toUInt64 63)).toInt64) &&& (lN 3689348814741910323))).toUInt64 >>> ((nI 4).toInt64.toUInt64 &&& Int64.toUInt64 63)).toInt64)) &&& (lN 1085102592571150095)))] dJ13_bitCount_95d88_33 rfl (Nat.le_of_ble_eq_true rfl) rfl ?_
  refine gk_lload_n (pc := 34) dJ13_bitCount_95d88_34 0 rfl rfl ?_
  refine gk_lload_n (pc := 35) dJ13_bitCount_95d88_35 0 rfl rfl ?_
  refine gk_bipush (pc := 36) (nI 8) dJ13_bitCount_95d88_36 cb_8 ?_
  refine gk_lushr (pc := 38) dJ13_bitCount_95d88_38 ?_
  refine gk_ladd (pc := 39) dJ13_bitCount_95d88_39 ?_
  refine gk_lstore_n (pc := 40) [(0, .long ((((((x0 - (((x0.toUInt64 >>> ((nI 1).toInt64.toUInt64 &&& Int64.toUInt64 63)).toInt64) &&& (lN 6148914691236517205))) &&& (lN 3689348814741910323)) + ((((x0 - (((x0.toUInt64 >>> ((nI 1).toInt64.toUInt64 &&& Int64.toUInt64 63)).toInt64) &&& (lN 6148914691236517205))).toUInt64 >>> ((nI 2).toInt64.toUInt64 &&& Int64.toUInt64 63)).toInt64) &&& (lN 3689348814741910323))) + (((((x0 - (((x0.toUInt64 >>> ((nI 1).toInt64.toUInt64 &&& Int64.toUInt64 63)).toInt64) &&& (lN 6148914691236517205))) &&& (lN 3689348814741910323)) + ((((x0 - (((x0.toUInt64 >>> ((nI 1).toInt64.toUInt64 &&& Int64.toUInt64 63)).toInt64) &&& (lN 6148914691236517205))).toUInt64 >>> ((nI 2).toInt64.toUInt64 &&& Int64.toUInt64 63)).toInt64) &&& (lN 3689348814741910323))).toUInt64 >>> ((nI 4).toInt64.toUInt64 &&& Int64.toUInt64 63)).toInt64)) &&& (lN 1085102592571150095)) + (((((((x0 - (((x0.toUInt64 >>> ((nI 1).toInt64.toUInt64 &&& Int64.toUInt64 63)).toInt64) &&& (lN 6148914691236517205))) &&& (lN 3689348814741910323)) + ((((x0 - (((x0.toUInt64 >>> ((nI 1).toInt64.toUInt64 &&& Int64.toUInt64 63)).toInt64) &&& (lN 6148914691236517205))).toUInt64 >>> ((nI 2).toInt64.toUInt64 &&& Int64.toUInt64 63)).toInt64) &&& (lN 3689348814741910323))) + (((((x0 - (((x0.toUInt64 >>> ((nI 1).toInt64.toUInt64 &&& Int64.toUInt64 63)).toInt64) &&& (lN 6148914691236517205))) &&& (lN 3689348814741910323)) + ((((x0 - (((x0.toUInt64 >>> ((nI 1).toInt64.toUInt64 &&& Int64.toUInt64 63)).toInt64) &&& (lN 6148914691236517205))).toUInt64 >>> ((nI 2).toInt64.toUInt64 &&& Int64.toUInt64 63)).toInt64) &&& (lN 3689348814741910323))).toUInt64 >>> ((nI 4).toInt64.toUInt64 &&& Int64.toUInt64 63)).toInt64)) &&& (lN 1085102592571150095)).toUInt64 >>> ((nI 8).toInt64.toUInt64 &&& Int64.toUInt64 63)).toInt64)))] dJ13_bitCount_95d88_40 rfl (Nat.le_of_ble_eq_true rfl) rfl ?_
  refine gk_lload_n (pc := 41) dJ13_bitCount_95d88_41 0 rfl rfl ?_
  refine gk_lload_n (pc := 42) dJ13_bitCount_95d88_42 0 rfl rfl ?_
  refine gk_bipush (pc := 43) (nI 16) dJ13_bitCount_95d88_43 cb_16 ?_
  refine gk_lushr (pc := 45) dJ13_bitCount_95d88_45 ?_
  refine gk_ladd (pc := 46) dJ13_bitCount_95d88_46 ?_
  refine gk_lstore_n (pc := 47) [(0, .long (((((((x0 - (((x0.toUInt64 >>> ((nI 1).toInt64.toUInt64 &&& Int64.toUInt64 63)).toInt64) &&& (lN 6148914691236517205))) &&& (lN 3689348814741910323)) + ((((x0 - (((x0.toUInt64 >>> ((nI 1).toInt64.toUInt64 &&& Int64.toUInt64 63)).toInt64) &&& (lN 6148914691236517205))).toUInt64 >>> ((nI 2).toInt64.toUInt64 &&& Int64.toUInt64 63)).toInt64) &&& (lN 3689348814741910323))) + (((((x0 - (((x0.toUInt64 >>> ((nI 1).toInt64.toUInt64 &&& Int64.toUInt64 63)).toInt64) &&& (lN 6148914691236517205))) &&& (lN 3689348814741910323)) + ((((x0 - (((x0.toUInt64 >>> ((nI 1).toInt64.toUInt64 &&& Int64.toUInt64 63)).toInt64) &&& (lN 6148914691236517205))).toUInt64 >>> ((nI 2).toInt64.toUInt64 &&& Int64.toUInt64 63)).toInt64) &&& (lN 3689348814741910323))).toUInt64 >>> ((nI 4).toInt64.toUInt64 &&& Int64.toUInt64 63)).toInt64)) &&& (lN 1085102592571150095)) + (((((((x0 - (((x0.toUInt64 >>> ((nI 1).toInt64.toUInt64 &&& Int64.toUInt64 63)).toInt64) &&& (lN 6148914691236517205))) &&& (lN 3689348814741910323)) + ((((x0 - (((x0.toUInt64 >>> ((nI 1).toInt64.toUInt64 &&& Int64.toUInt64 63)).toInt64) &&& (lN 6148914691236517205))).toUInt64 >>> ((nI 2).toInt64.toUInt64 &&& Int64.toUInt64 63)).toInt64) &&& (lN 3689348814741910323))) + (((((x0 - (((x0.toUInt64 >>> ((nI 1).toInt64.toUInt64 &&& Int64.toUInt64 63)).toInt64) &&& (lN 6148914691236517205))) &&& (lN 3689348814741910323)) + ((((x0 - (((x0.toUInt64 >>> ((nI 1).toInt64.toUInt64 &&& Int64.toUInt64 63)).toInt64) &&& (lN 6148914691236517205))).toUInt64 >>> ((nI 2).toInt64.toUInt64 &&& Int64.toUInt64 63)).toInt64) &&& (lN 3689348814741910323))).toUInt64 >>> ((nI 4).toInt64.toUInt64 &&& Int64.toUInt64 63)).toInt64)) &&& (lN 1085102592571150095)).toUInt64 >>> ((nI 8).toInt64.toUInt64 &&& Int64.toUInt64 63)).toInt64)) + ((((((((x0 - (((x0.toUInt64 >>> ((nI 1).toInt64.toUInt64 &&& Int64.toUInt64 63)).toInt64) &&& (lN 6148914691236517205))) &&& (lN 3689348814741910323)) + ((((x0 - (((x0.toUInt64 >>> ((nI 1).toInt64.toUInt64 &&& Int64.toUInt64 63)).toInt64) &&& (lN 6148914691236517205))).toUInt64 >>> ((nI 2).toInt64.toUInt64 &&& Int64.toUInt64 63)).toInt64) &&& (lN 3689348814741910323))) + (((((x0 - (((x0.toUInt64 >>> ((nI 1).toInt64.toUInt64 &&& Int64.toUInt64 63)).toInt64) &&& (lN 6148914691236517205))) &&& (lN 3689348814741910323)) + ((((x0 - (((x0.toUInt64 >>> ((nI 1).toInt64.toUInt64 &&& Int64.toUInt64 63)).toInt64) &&& (lN 6148914691236517205))).toUInt64 >>> ((nI 2).toInt64.toUInt64 &&& Int64.toUInt64 63)).toInt64) &&& (lN 3689348814741910323))).toUInt64 >>> ((nI 4).toInt64.toUInt64 &&& Int64.toUInt64 63)).toInt64)) &&& (lN 1085102592571150095)) + (((((((x0 - (((x0.toUInt64 >>> ((nI 1).toInt64.toUInt64 &&& Int64.toUInt64 63)).toInt64) &&& (lN 6148914691236517205))) &&& (lN 3689348814741910323)) + ((((x0 - (((x0.toUInt64 >>> ((nI 1).toInt64.toUInt64 &&& Int64.toUInt64 63)).toInt64) &&& (lN 6148914691236517205))).toUInt64 >>> ((nI 2).toInt64.toUInt64 &&& Int64.toUInt64 63)).toInt64) &&& (lN 3689348814741910323))) + (((((x0 - (((x0.toUInt64 >>> ((nI 1).toInt64.toUInt64 &&& Int64.toUInt64 63)).toInt64) &&& (lN 6148914691236517205))) &&& (lN 3689348814741910323)) + ((((x0 - (((x0.toUInt64 >>> ((nI 1).toInt64.toUInt64 &&& Int64.toUInt64 63)).toInt64) &&& (lN 6148914691236517205))).toUInt64 >>> ((nI 2).toInt64.toUInt64 &&& Int64.toUInt64 63)).toInt64) &&& (lN 3689348814741910323))).toUInt64 >>> ((nI 4).toInt64.toUInt64 &&& Int64.toUInt64 63)).toInt64)) &&& (lN 1085102592571150095)).toUInt64 >>> ((nI 8).toInt64.toUInt64 &&& Int64.toUInt64 63)).toInt64)).toUInt64 >>> ((nI 16).toInt64.toUInt64 &&& Int64.toUInt64 63)).toInt64)))] dJ13_bitCount_95d88_47 rfl (Nat.le_of_ble_eq_true rfl) rfl ?_
  refine gk_lload_n (pc := 48) dJ13_bitCount_95d88_48 0 rfl rfl ?_
  refine gk_lload_n (pc := 49) dJ13_bitCount_95d88_49 0 rfl rfl ?_
  refine gk_bipush (pc := 50) (nI 32) dJ13_bitCount_95d88_50 cb_32 ?_
  refine gk_lushr (pc := 52) dJ13_bitCount_95d88_52 ?_
  refine gk_ladd (pc := 53) dJ13_bitCount_95d88_53 ?_
  refine gk_lstore_n (pc := 54) [(0, .long ((((((((x0 - (((x0.toUInt64 >>> ((nI 1).toInt64.toUInt64 &&& Int64.toUInt64 63)).toInt64) &&& (lN 6148914691236517205))) &&& (lN 3689348814741910323)) + ((((x0 - (((x0.toUInt64 >>> ((nI 1).toInt64.toUInt64 &&& Int64.toUInt64 63)).toInt64) &&& (lN 6148914691236517205))).toUInt64 >>> ((nI 2).toInt64.toUInt64 &&& Int64.toUInt64 63)).toInt64) &&& (lN 3689348814741910323))) + (((((x0 - (((x0.toUInt64 >>> ((nI 1).toInt64.toUInt64 &&& Int64.toUInt64 63)).toInt64) &&& (lN 6148914691236517205))) &&& (lN 3689348814741910323)) + ((((x0 - (((x0.toUInt64 >>> ((nI 1).toInt64.toUInt64 &&& Int64.toUInt64 63)).toInt64) &&& (lN 6148914691236517205))).toUInt64 >>> ((nI 2).toInt64.toUInt64 &&& Int64.toUInt64 63)).toInt64) &&& (lN 3689348814741910323))).toUInt64 >>> ((nI 4).toInt64.toUInt64 &&& Int64.toUInt64 63)).toInt64)) &&& (lN 1085102592571150095)) + (((((((x0 - (((x0.toUInt64 >>> ((nI 1).toInt64.toUInt64 &&& Int64.toUInt64 63)).toInt64) &&& (lN 6148914691236517205))) &&& (lN 3689348814741910323)) + ((((x0 - (((x0.toUInt64 >>> ((nI 1).toInt64.toUInt64 &&& Int64.toUInt64 63)).toInt64) &&& (lN 6148914691236517205))).toUInt64 >>> ((nI 2).toInt64.toUInt64 &&& Int64.toUInt64 63)).toInt64) &&& (lN 3689348814741910323))) + (((((x0 - (((x0.toUInt64 >>> ((nI 1).toInt64.toUInt64 &&& Int64.toUInt64 63)).toInt64) &&& (lN 6148914691236517205))) &&& (lN 3689348814741910323)) + ((((x0 - (((x0.toUInt64 >>> ((nI 1).toInt64.toUInt64 &&& Int64.toUInt64 63)).toInt64) &&& (lN 6148914691236517205))).toUInt64 >>> ((nI 2).toInt64.toUInt64 &&& Int64.toUInt64 63)).toInt64) &&& (lN 3689348814741910323))).toUInt64 >>> ((nI 4).toInt64.toUInt64 &&& Int64.toUInt64 63)).toInt64)) &&& (lN 1085102592571150095)).toUInt64 >>> ((nI 8).toInt64.toUInt64 &&& Int64.toUInt64 63)).toInt64)) + ((((((((x0 - (((x0.toUInt64 >>> ((nI 1).toInt64.toUInt64 &&& Int64.toUInt64 63)).toInt64) &&& (lN 6148914691236517205))) &&& (lN 3689348814741910323)) + ((((x0 - (((x0.toUInt64 >>> ((nI 1).toInt64.toUInt64 &&& Int64.toUInt64 63)).toInt64) &&& (lN 6148914691236517205))).toUInt64 >>> ((nI 2).toInt64.toUInt64 &&& Int64.toUInt64 63)).toInt64) &&& (lN 3689348814741910323))) + (((((x0 - (((x0.toUInt64 >>> ((nI 1).toInt64.toUInt64 &&& Int64.toUInt64 63)).toInt64) &&& (lN 6148914691236517205))) &&& (lN 3689348814741910323)) + ((((x0 - (((x0.toUInt64 >>> ((nI 1).toInt64.toUInt64 &&& Int64.toUInt64 63)).toInt64) &&& (lN 6148914691236517205))).toUInt64 >>> ((nI 2).toInt64.toUInt64 &&& Int64.toUInt64 63)).toInt64) &&& (lN 3689348814741910323))).toUInt64 >>> ((nI 4).toInt64.toUInt64 &&& Int64.toUInt64 63)).toInt64)) &&& (lN 1085102592571150095)) + (((((((x0 - (((x0.toUInt64 >>> ((nI 1).toInt64.toUInt64 &&& Int64.toUInt64 63)).toInt64) &&& (lN 6148914691236517205))) &&& (lN 3689348814741910323)) + ((((x0 - (((x0.toUInt64 >>> ((nI 1).toInt64.toUInt64 &&& Int64.toUInt64 63)).toInt64) &&& (lN 6148914691236517205))).toUInt64 >>> ((nI 2).toInt64.toUInt64 &&& Int64.toUInt64 63)).toInt64) &&& (lN 3689348814741910323))) + (((((x0 - (((x0.toUInt64 >>> ((nI 1).toInt64.toUInt64 &&& Int64.toUInt64 63)).toInt64) &&& (lN 6148914691236517205))) &&& (lN 3689348814741910323)) + ((((x0 - (((x0.toUInt64 >>> ((nI 1).toInt64.toUInt64 &&& Int64.toUInt64 63)).toInt64) &&& (lN 6148914691236517205))).toUInt64 >>> ((nI 2).toInt64.toUInt64 &&& Int64.toUInt64 63)).toInt64) &&& (lN 3689348814741910323))).toUInt64 >>> ((nI 4).toInt64.toUInt64 &&& Int64.toUInt64 63)).toInt64)) &&& (lN 1085102592571150095)).toUInt64 >>> ((nI 8).toInt64.toUInt64 &&& Int64.toUInt64 63)).toInt64)).toUInt64 >>> ((nI 16).toInt64.toUInt64 &&& Int64.toUInt64 63)).toInt64)) + (((((((((x0 - (((x0.toUInt64 >>> ((nI 1).toInt64.toUInt64 &&& Int64.toUInt64 63)).toInt64) &&& (lN 6148914691236517205))) &&& (lN 3689348814741910323)) + ((((x0 - (((x0.toUInt64 >>> ((nI 1).toInt64.toUInt64 &&& Int64.toUInt64 63)).toInt64) &&& (lN 6148914691236517205))).toUInt64 >>> ((nI 2).toInt64.toUInt64 &&& Int64.toUInt64 63)).toInt64) &&& (lN 3689348814741910323))) + (((((x0 - (((x0.toUInt64 >>> ((nI 1).toInt64.toUInt64 &&& Int64.toUInt64 63)).toInt64) &&& (lN 6148914691236517205))) &&& (lN 3689348814741910323)) + ((((x0 - (((x0.toUInt64 >>> ((nI 1).toInt64.toUInt64 &&& Int64.toUInt64 63)).toInt64) &&& (lN 6148914691236517205))).toUInt64 >>> ((nI 2).toInt64.toUInt64 &&& Int64.toUInt64 63)).toInt64) &&& (lN 3689348814741910323))).toUInt64 >>> ((nI 4).toInt64.toUInt64 &&& Int64.toUInt64 63)).toInt64)) &&& (lN 1085102592571150095)) + (((((((x0 - (((x0.toUInt64 >>> ((nI 1).toInt64.toUInt64 &&& Int64.toUInt64 63)).toInt64) &&& (lN 6148914691236517205))) &&& (lN 3689348814741910323)) + ((((x0 - (((x0.toUInt64 >>> ((nI 1).toInt64.toUInt64 &&& Int64.toUInt64 63)).toInt64) &&& (lN 6148914691236517205))).toUInt64 >>> ((nI 2).toInt64.toUInt64 &&& Int64.toUInt64 63)).toInt64) &&& (lN 3689348814741910323))) + (((((x0 - (((x0.toUInt64 >>> ((nI 1).toInt64.toUInt64 &&& Int64.toUInt64 63)).toInt64) &&& (lN 6148914691236517205))) &&& (lN 3689348814741910323)) + ((((x0 - (((x0.toUInt64 >>> ((nI 1).toInt64.toUInt64 &&& Int64.toUInt64 63)).toInt64) &&& (lN 6148914691236517205))).toUInt64 >>> ((nI 2).toInt64.toUInt64 &&& Int64.toUInt64 63)).toInt64) &&& (lN 3689348814741910323))).toUInt64 >>> ((nI 4).toInt64.toUInt64 &&& Int64.toUInt64 63)).toInt64)) &&& (lN 1085102592571150095)).toUInt64 >>> ((nI 8).toInt64.toUInt64 &&& Int64.toUInt64 63)).toInt64)) + ((((((((x0 - (((x0.toUInt64 >>> ((nI 1).toInt64.toUInt64 &&& Int64.toUInt64 63)).toInt64) &&& (lN 6148914691236517205))) &&& (lN 3689348814741910323)) + ((((x0 - (((x0.toUInt64 >>> ((nI 1).toInt64.toUInt64 &&& Int64.toUInt64 63)).toInt64) &&& (lN 6148914691236517205))).toUInt64 >>> ((nI 2).toInt64.toUInt64 &&& Int64.toUInt64 63)).toInt64) &&& (lN 3689348814741910323))) + (((((x0 - (((x0.toUInt64 >>> ((nI 1).toInt64.toUInt64 &&& Int64.toUInt64 63)).toInt64) &&& (lN 6148914691236517205))) &&& (lN 3689348814741910323)) + ((((x0 - (((x0.toUInt64 >>> ((nI 1).toInt64.toUInt64 &&& Int64.toUInt64 63)).toInt64) &&& (lN 6148914691236517205))).toUInt64 >>> ((nI 2).toInt64.toUInt64 &&& Int64.toUInt64 63)).toInt64) &&& (lN 3689348814741910323))).toUInt64 >>> ((nI 4).toInt64.toUInt64 &&& Int64.toUInt64 63)).toInt64)) &&& (lN 1085102592571150095)) + (((((((x0 - (((x0.toUInt64 >>> ((nI 1).toInt64.toUInt64 &&& Int64.toUInt64 63)).toInt64) &&& (lN 6148914691236517205))) &&& (lN 3689348814741910323)) + ((((x0 - (((x0.toUInt64 >>> ((nI 1).toInt64.toUInt64 &&& Int64.toUInt64 63)).toInt64) &&& (lN 6148914691236517205))).toUInt64 >>> ((nI 2).toInt64.toUInt64 &&& Int64.toUInt64 63)).toInt64) &&& (lN 3689348814741910323))) + (((((x0 - (((x0.toUInt64 >>> ((nI 1).toInt64.toUInt64 &&& Int64.toUInt64 63)).toInt64) &&& (lN 6148914691236517205))) &&& (lN 3689348814741910323)) + ((((x0 - (((x0.toUInt64 >>> ((nI 1).toInt64.toUInt64 &&& Int64.toUInt64 63)).toInt64) &&& (lN 6148914691236517205))).toUInt64 >>> ((nI 2).toInt64.toUInt64 &&& Int64.toUInt64 63)).toInt64) &&& (lN 3689348814741910323))).toUInt64 >>> ((nI 4).toInt64.toUInt64 &&& Int64.toUInt64 63)).toInt64)) &&& (lN 1085102592571150095)).toUInt64 >>> ((nI 8).toInt64.toUInt64 &&& Int64.toUInt64 63)).toInt64)).toUInt64 >>> ((nI 16).toInt64.toUInt64 &&& Int64.toUInt64 63)).toInt64)).toUInt64 >>> ((nI 32).toInt64.toUInt64 &&& Int64.toUInt64 63)).toInt64)))] dJ13_bitCount_95d88_54 rfl (Nat.le_of_ble_eq_true rfl) rfl ?_
  refine gk_lload_n (pc := 55) dJ13_bitCount_95d88_55 0 rfl rfl ?_
  refine gk_l2i (pc := 56) dJ13_bitCount_95d88_56 ?_
  refine gk_bipush (pc := 57) (nI 127) dJ13_bitCount_95d88_57 cb_127 ?_
  refine gk_iand (pc := 59) dJ13_bitCount_95d88_59 ?_
  exact gk_ireturn (pc := 60) .int dJ13_bitCount_95d88_60 rfl rfl ⟨_, rfl, hv⟩
set_option maxHeartbeats 4000000 in
theorem vJ6_bitCount_0f7a4_0 {E : gk_E} {dd : Nat} {x0 : Int32}  {h : gk_H} {K : Int32 → gk_H → Prop} (hv : K ((((((((x0 - (((x0.toUInt32 >>> ((nI 1).toUInt32 &&& Int32.toUInt32 31)).toInt32) &&& (nI 1431655765))) &&& (nI 858993459)) + ((((x0 - (((x0.toUInt32 >>> ((nI 1).toUInt32 &&& Int32.toUInt32 31)).toInt32) &&& (nI 1431655765))).toUInt32 >>> ((nI 2).toUInt32 &&& Int32.toUInt32 31)).toInt32) &&& (nI 858993459))) + (((((x0 - (((x0.toUInt32 >>> ((nI 1).toUInt32 &&& Int32.toUInt32 31)).toInt32) &&& (nI 1431655765))) &&& (nI 858993459)) + ((((x0 - (((x0.toUInt32 >>> ((nI 1).toUInt32 &&& Int32.toUInt32 31)).toInt32) &&& (nI 1431655765))).toUInt32 >>> ((nI 2).toUInt32 &&& Int32.toUInt32 31)).toInt32) &&& (nI 858993459))).toUInt32 >>> ((nI 4).toUInt32 &&& Int32.toUInt32 31)).toInt32)) &&& (nI 252645135)) + (((((((x0 - (((x0.toUInt32 >>> ((nI 1).toUInt32 &&& Int32.toUInt32 31)).toInt32) &&& (nI 1431655765))) &&& (nI 858993459)) + ((((x0 - (((x0.toUInt32 >>> ((nI 1).toUInt32 &&& Int32.toUInt32 31)).toInt32) &&& (nI 1431655765))).toUInt32 >>> ((nI 2).toUInt32 &&& Int32.toUInt32 31)).toInt32) &&& (nI 858993459))) + (((((x0 - (((x0.toUInt32 >>> ((nI 1).toUInt32 &&& Int32.toUInt32 31)).toInt32) &&& (nI 1431655765))) &&& (nI 858993459)) + ((((x0 - (((x0.toUInt32 >>> ((nI 1).toUInt32 &&& Int32.toUInt32 31)).toInt32) &&& (nI 1431655765))).toUInt32 >>> ((nI 2).toUInt32 &&& Int32.toUInt32 31)).toInt32) &&& (nI 858993459))).toUInt32 >>> ((nI 4).toUInt32 &&& Int32.toUInt32 31)).toInt32)) &&& (nI 252645135)).toUInt32 >>> ((nI 8).toUInt32 &&& Int32.toUInt32 31)).toInt32)) + ((((((((x0 - (((x0.toUInt32 >>> ((nI 1).toUInt32 &&& Int32.toUInt32 31)).toInt32) &&& (nI 1431655765))) &&& (nI 858993459)) + ((((x0 - (((x0.toUInt32 >>> ((nI 1).toUInt32 &&& Int32.toUInt32 31)).toInt32) &&& (nI 1431655765))).toUInt32 >>> ((nI 2).toUInt32 &&& Int32.toUInt32 31)).toInt32) &&& (nI 858993459))) + (((((x0 - (((x0.toUInt32 >>> ((nI 1).toUInt32 &&& Int32.toUInt32 31)).toInt32) &&& (nI 1431655765))) &&& (nI 858993459)) + ((((x0 - (((x0.toUInt32 >>> ((nI 1).toUInt32 &&& Int32.toUInt32 31)).toInt32) &&& (nI 1431655765))).toUInt32 >>> ((nI 2).toUInt32 &&& Int32.toUInt32 31)).toInt32) &&& (nI 858993459))).toUInt32 >>> ((nI 4).toUInt32 &&& Int32.toUInt32 31)).toInt32)) &&& (nI 252645135)) + (((((((x0 - (((x0.toUInt32 >>> ((nI 1).toUInt32 &&& Int32.toUInt32 31)).toInt32) &&& (nI 1431655765))) &&& (nI 858993459)) + ((((x0 - (((x0.toUInt32 >>> ((nI 1).toUInt32 &&& Int32.toUInt32 31)).toInt32) &&& (nI 1431655765))).toUInt32 >>> ((nI 2).toUInt32 &&& Int32.toUInt32 31)).toInt32) &&& (nI 858993459))) + (((((x0 - (((x0.toUInt32 >>> ((nI 1).toUInt32 &&& Int32.toUInt32 31)).toInt32) &&& (nI 1431655765))) &&& (nI 858993459)) + ((((x0 - (((x0.toUInt32 >>> ((nI 1).toUInt32 &&& Int32.toUInt32 31)).toInt32) &&& (nI 1431655765))).toUInt32 >>> ((nI 2).toUInt32 &&& Int32.toUInt32 31)).toInt32) &&& (nI 858993459))).toUInt32 >>> ((nI 4).toUInt32 &&& Int32.toUInt32 31)).toInt32)) &&& (nI 252645135)).toUInt32 >>> ((nI 8).toUInt32 &&& Int32.toUInt32 31)).toInt32)).toUInt32 >>> ((nI 16).toUInt32 &&& Int32.toUInt32 31)).toInt32)) &&& (nI 63)) h) : RnI E mJ6_bitCount_0f7a4 (dd, 0, 0) [.int x0] h K := by
  show gk_G E mJ6_bitCount_0f7a4 (dd, 0, 0) 0 [(0, .int x0)] [] h (fun o h1 => ∃ v, o = some (.int v) ∧ K v h1)
  refine gk_iload_n (pc := 0) dJ6_bitCount_0f7a4_0 0 rfl rfl ?_
  refine gk_iload_n (pc := 1) dJ6_bitCount_0f7a4_1 0 rfl rfl ?_
  refine gk_iconst (pc := 2) (nI 1) dJ6_bitCount_0f7a4_2 ci_1 ?_
  refine gk_iushr (pc := 3) dJ6_bitCount_0f7a4_3 ?_
  refine gk_ldc_w (pc := 4) (nI 1431655765) dJ6_bitCount_0f7a4_4 kcJ6_265 ?_
  refine gk_iand (pc := 7) dJ6_bitCount_0f7a4_7 ?_
  refine gk_isub (pc := 8) dJ6_bitCount_0f7a4_8 ?_
  refine gk_istore_n (pc := 9) [(0, .int (x0 - (((x0.toUInt32 >>> ((nI 1).toUInt32 &&& Int32.toUInt32 31)).toInt32) &&& (nI 1431655765))))] dJ6_bitCount_0f7a4_9 rfl (Nat.le_of_ble_eq_true rfl) rfl ?_
  refine gk_iload_n (pc := 10) dJ6_bitCount_0f7a4_10 0 rfl rfl ?_
  refine gk_ldc_w (pc := 11) (nI 858993459) dJ6_bitCount_0f7a4_11 kcJ6_266 ?_
  refine gk_iand (pc := 14) dJ6_bitCount_0f7a4_14 ?_
  refine gk_iload_n (pc := 15) dJ6_bitCount_0f7a4_15 0 rfl rfl ?_
  refine gk_iconst (pc := 16) (nI 2) dJ6_bitCount_0f7a4_16 ci_2 ?_
  refine gk_iushr (pc := 17) dJ6_bitCount_0f7a4_17 ?_
  refine gk_ldc_w (pc := 18) (nI 858993459) dJ6_bitCount_0f7a4_18 kcJ6_266 ?_
  refine gk_iand (pc := 21) dJ6_bitCount_0f7a4_21 ?_
  refine gk_iadd (pc := 22) dJ6_bitCount_0f7a4_22 ?_
  refine gk_istore_n (pc := 23) [(0, .int (((x0 - (((x0.toUInt32 >>> ((nI 1).toUInt32 &&& Int32.toUInt32 31)).toInt32) &&& (nI 1431655765))) &&& (nI 858993459)) + ((((x0 - (((x0.toUInt32 >>> ((nI 1).toUInt32 &&& Int32.toUInt32 31)).toInt32) &&& (nI 1431655765))).toUInt32 >>> ((nI 2).toUInt32 &&& Int32.toUInt32 31)).toInt32) &&& (nI 858993459))))] dJ6_bitCount_0f7a4_23 rfl (Nat.le_of_ble_eq_true rfl) rfl ?_
  refine gk_iload_n (pc := 24) dJ6_bitCount_0f7a4_24 0 rfl rfl ?_
  refine gk_iload_n (pc := 25) dJ6_bitCount_0f7a4_25 0 rfl rfl ?_
  refine gk_iconst (pc := 26) (nI 4) dJ6_bitCount_0f7a4_26 ci_4 ?_
  refine gk_iushr (pc := 27) dJ6_bitCount_0f7a4_27 ?_
  refine gk_iadd (pc := 28) dJ6_bitCount_0f7a4_28 ?_
  refine gk_ldc_w (pc := 29) (nI 252645135) dJ6_bitCount_0f7a4_29 kcJ6_267 ?_
  refine gk_iand (pc := 32) dJ6_bitCount_0f7a4_32 ?_
  refine gk_istore_n (pc := 33) [(0, .int (((((x0 - (((x0.toUInt32 >>> ((nI 1).toUInt32 &&& Int32.toUInt32 31)).toInt32) &&& (nI 1431655765))) &&& (nI 858993459)) + ((((x0 - (((x0.toUInt32 >>> ((nI 1).toUInt32 &&& Int32.toUInt32 31)).toInt32) &&& (nI 1431655765))).toUInt32 >>> ((nI 2).toUInt32 &&& Int32.toUInt32 31)).toInt32) &&& (nI 858993459))) + (((((x0 - (((x0.toUInt32 >>> ((nI 1).toUInt32 &&& Int32.toUInt32 31)).toInt32) &&& (nI 1431655765))) &&& (nI 858993459)) + ((((x0 - (((x0.toUInt32 >>> ((nI 1).toUInt32 &&& Int32.toUInt32 31)).toInt32) &&& (nI 1431655765))).toUInt32 >>> ((nI 2).toUInt32 &&& Int32.toUInt32 31)).toInt32) &&& (nI 858993459))).toUInt32 >>> ((nI 4).toUInt32 &&& Int32.toUInt32 31)).toInt32)) &&& (nI 252645135)))] dJ6_bitCount_0f7a4_33 rfl (Nat.le_of_ble_eq_true rfl) rfl ?_
  refine gk_iload_n (pc := 34) dJ6_bitCount_0f7a4_34 0 rfl rfl ?_
  refine gk_iload_n (pc := 35) dJ6_bitCount_0f7a4_35 0 rfl rfl ?_
  refine gk_bipush (pc := 36) (nI 8) dJ6_bitCount_0f7a4_36 cb_8 ?_
  refine gk_iushr (pc := 38) dJ6_bitCount_0f7a4_38 ?_
  refine gk_iadd (pc := 39) dJ6_bitCount_0f7a4_39 ?_
  refine gk_istore_n (pc := 40) [(0, .int ((((((x0 - (((x0.toUInt32 >>> ((nI 1).toUInt32 &&& Int32.toUInt32 31)).toInt32) &&& (nI 1431655765))) &&& (nI 858993459)) + ((((x0 - (((x0.toUInt32 >>> ((nI 1).toUInt32 &&& Int32.toUInt32 31)).toInt32) &&& (nI 1431655765))).toUInt32 >>> ((nI 2).toUInt32 &&& Int32.toUInt32 31)).toInt32) &&& (nI 858993459))) + (((((x0 - (((x0.toUInt32 >>> ((nI 1).toUInt32 &&& Int32.toUInt32 31)).toInt32) &&& (nI 1431655765))) &&& (nI 858993459)) + ((((x0 - (((x0.toUInt32 >>> ((nI 1).toUInt32 &&& Int32.toUInt32 31)).toInt32) &&& (nI 1431655765))).toUInt32 >>> ((nI 2).toUInt32 &&& Int32.toUInt32 31)).toInt32) &&& (nI 858993459))).toUInt32 >>> ((nI 4).toUInt32 &&& Int32.toUInt32 31)).toInt32)) &&& (nI 252645135)) + (((((((x0 - (((x0.toUInt32 >>> ((nI 1).toUInt32 &&& Int32.toUInt32 31)).toInt32) &&& (nI 1431655765))) &&& (nI 858993459)) + ((((x0 - (((x0.toUInt32 >>> ((nI 1).toUInt32 &&& Int32.toUInt32 31)).toInt32) &&& (nI 1431655765))).toUInt32 >>> ((nI 2).toUInt32 &&& Int32.toUInt32 31)).toInt32) &&& (nI 858993459))) + (((((x0 - (((x0.toUInt32 >>> ((nI 1).toUInt32 &&& Int32.toUInt32 31)).toInt32) &&& (nI 1431655765))) &&& (nI 858993459)) + ((((x0 - (((x0.toUInt32 >>> ((nI 1).toUInt32 &&& Int32.toUInt32 31)).toInt32) &&& (nI 1431655765))).toUInt32 >>> ((nI 2).toUInt32 &&& Int32.toUInt32 31)).toInt32) &&& (nI 858993459))).toUInt32 >>> ((nI 4).toUInt32 &&& Int32.toUInt32 31)).toInt32)) &&& (nI 252645135)).toUInt32 >>> ((nI 8).toUInt32 &&& Int32.toUInt32 31)).toInt32)))] dJ6_bitCount_0f7a4_40 rfl (Nat.le_of_ble_eq_true rfl) rfl ?_
  refine gk_iload_n (pc := 41) dJ6_bitCount_0f7a4_41 0 rfl rfl ?_
  refine gk_iload_n (pc := 42) dJ6_bitCount_0f7a4_42 0 rfl rfl ?_
  refine gk_bipush (pc := 43) (nI 16) dJ6_bitCount_0f7a4_43 cb_16 ?_
  refine gk_iushr (pc := 45) dJ6_bitCount_0f7a4_45 ?_
  refine gk_iadd (pc := 46) dJ6_bitCount_0f7a4_46 ?_
  refine gk_istore_n (pc := 47) [(0, .int (((((((x0 - (((x0.toUInt32 >>> ((nI 1).toUInt32 &&& Int32.toUInt32 31)).toInt32) &&& (nI 1431655765))) &&& (nI 858993459)) + ((((x0 - (((x0.toUInt32 >>> ((nI 1).toUInt32 &&& Int32.toUInt32 31)).toInt32) &&& (nI 1431655765))).toUInt32 >>> ((nI 2).toUInt32 &&& Int32.toUInt32 31)).toInt32) &&& (nI 858993459))) + (((((x0 - (((x0.toUInt32 >>> ((nI 1).toUInt32 &&& Int32.toUInt32 31)).toInt32) &&& (nI 1431655765))) &&& (nI 858993459)) + ((((x0 - (((x0.toUInt32 >>> ((nI 1).toUInt32 &&& Int32.toUInt32 31)).toInt32) &&& (nI 1431655765))).toUInt32 >>> ((nI 2).toUInt32 &&& Int32.toUInt32 31)).toInt32) &&& (nI 858993459))).toUInt32 >>> ((nI 4).toUInt32 &&& Int32.toUInt32 31)).toInt32)) &&& (nI 252645135)) + (((((((x0 - (((x0.toUInt32 >>> ((nI 1).toUInt32 &&& Int32.toUInt32 31)).toInt32) &&& (nI 1431655765))) &&& (nI 858993459)) + ((((x0 - (((x0.toUInt32 >>> ((nI 1).toUInt32 &&& Int32.toUInt32 31)).toInt32) &&& (nI 1431655765))).toUInt32 >>> ((nI 2).toUInt32 &&& Int32.toUInt32 31)).toInt32) &&& (nI 858993459))) + (((((x0 - (((x0.toUInt32 >>> ((nI 1).toUInt32 &&& Int32.toUInt32 31)).toInt32) &&& (nI 1431655765))) &&& (nI 858993459)) + ((((x0 - (((x0.toUInt32 >>> ((nI 1).toUInt32 &&& Int32.toUInt32 31)).toInt32) &&& (nI 1431655765))).toUInt32 >>> ((nI 2).toUInt32 &&& Int32.toUInt32 31)).toInt32) &&& (nI 858993459))).toUInt32 >>> ((nI 4).toUInt32 &&& Int32.toUInt32 31)).toInt32)) &&& (nI 252645135)).toUInt32 >>> ((nI 8).toUInt32 &&& Int32.toUInt32 31)).toInt32)) + ((((((((x0 - (((x0.toUInt32 >>> ((nI 1).toUInt32 &&& Int32.toUInt32 31)).toInt32) &&& (nI 1431655765))) &&& (nI 858993459)) + ((((x0 - (((x0.toUInt32 >>> ((nI 1).toUInt32 &&& Int32.toUInt32 31)).toInt32) &&& (nI 1431655765))).toUInt32 >>> ((nI 2).toUInt32 &&& Int32.toUInt32 31)).toInt32) &&& (nI 858993459))) + (((((x0 - (((x0.toUInt32 >>> ((nI 1).toUInt32 &&& Int32.toUInt32 31)).toInt32) &&& (nI 1431655765))) &&& (nI 858993459)) + ((((x0 - (((x0.toUInt32 >>> ((nI 1).toUInt32 &&& Int32.toUInt32 31)).toInt32) &&& (nI 1431655765))).toUInt32 >>> ((nI 2).toUInt32 &&& Int32.toUInt32 31)).toInt32) &&& (nI 858993459))).toUInt32 >>> ((nI 4).toUInt32 &&& Int32.toUInt32 31)).toInt32)) &&& (nI 252645135)) + (((((((x0 - (((x0.toUInt32 >>> ((nI 1).toUInt32 &&& Int32.toUInt32 31)).toInt32) &&& (nI 1431655765))) &&& (nI 858993459)) + ((((x0 - (((x0.toUInt32 >>> ((nI 1).toUInt32 &&& Int32.toUInt32 31)).toInt32) &&& (nI 1431655765))).toUInt32 >>> ((nI 2).toUInt32 &&& Int32.toUInt32 31)).toInt32) &&& (nI 858993459))) + (((((x0 - (((x0.toUInt32 >>> ((nI 1).toUInt32 &&& Int32.toUInt32 31)).toInt32) &&& (nI 1431655765))) &&& (nI 858993459)) + ((((x0 - (((x0.toUInt32 >>> ((nI 1).toUInt32 &&& Int32.toUInt32 31)).toInt32) &&& (nI 1431655765))).toUInt32 >>> ((nI 2).toUInt32 &&& Int32.toUInt32 31)).toInt32) &&& (nI 858993459))).toUInt32 >>> ((nI 4).toUInt32 &&& Int32.toUInt32 31)).toInt32)) &&& (nI 252645135)).toUInt32 >>> ((nI 8).toUInt32 &&& Int32.toUInt32 31)).toInt32)).toUInt32 >>> ((nI 16).toUInt32 &&& Int32.toUInt32 31)).toInt32)))] dJ6_bitCount_0f7a4_47 rfl (Nat.le_of_ble_eq_true rfl) rfl ?_
  refine gk_iload_n (pc := 48) dJ6_bitCount_0f7a4_48 0 rfl rfl ?_
  refine gk_bipush (pc := 49) (nI 63) dJ6_bitCount_0f7a4_49 cb_63 ?_
  refine gk_iand (pc := 51) dJ6_bitCount_0f7a4_51 ?_
  exact gk_ireturn (pc := 52) .int dJ6_bitCount_0f7a4_52 rfl rfl ⟨_, rfl, hv⟩
