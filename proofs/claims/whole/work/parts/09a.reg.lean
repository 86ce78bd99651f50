abbrev pX8_become_10 (E : gk_E) (dd : Nat) (o : Nat) (x1 : Nat) (x2 : Int32) (h : gk_H) (K : gk_H → Prop) : Prop := gk_G E mX8_become (dd, 0, 0) 10 [(0, .ref o), (1, .ref x1), (2, .int x2)] [] h (fun o h1 => o = none ∧ K h1)
set_option maxHeartbeats 4000000 in
theorem vX8_become_0 {E : gk_E} {dd : Nat} {o : Nat} {x1 : Nat}  {h : gk_H} {K : gk_H → Prop} (hv : LdI h x1 8 0 fun v1 => StI h o 8 0 v1 fun h2 => pX8_become_10 E dd o x1 (nI 0) h2 K) : RnV E mX8_become (dd, 0, 0) [.ref o, .ref x1] h K := by
  show gk_G E mX8_become (dd, 0, 0) 0 [(0, .ref o), (1, .ref x1)] [] h (fun o h1 => o = none ∧ K h1)
  refine gk_aload_n (pc := 0) (DX8_become_0.at 0 rfl) 0 rfl rfl ?_
  refine gk_aload_n (pc := 1) (DX8_become_0.at 1 rfl) 1 rfl rfl ?_
  obtain ⟨fs1, v1, q1, r1, hv⟩ := hv
  refine gk_get (pc := 2) (.int v1) (DX8_become_0.at 2 rfl) fX8_9_8 q1 r1 ?_
  obtain ⟨fs2, q2, r2, hv⟩ := hv
  refine gk_put (pc := 5) (DX8_become_0.at 3 rfl) fX8_9_8w q2 r2 rfl rfl ?_
  generalize h.set _ _ = h2 at hv ⊢
  refine gk_iconst (pc := 8) (nI 0) (DX8_become_0.at 4 rfl) ci_0 ?_
  refine gk_istore_n (pc := 9) [(2, .int (nI 0)), (0, .ref o), (1, .ref x1)] (DX8_become_0.at 5 rfl) rfl (Nat.le_of_ble_eq_true rfl) rfl ?_
  exact gk_pick (pc := 10) [(0, .ref o), (1, .ref x1), (2, .int (nI 0))] [1, 2, 0] rfl hv
set_option maxHeartbeats 4000000 in
theorem vX8_become_10 {E : gk_E} {dd : Nat} {o : Nat} {x1 : Nat} {x2 : Int32}  {h : gk_H} {K : gk_H → Prop} (hv : ((nI 4) ≤ x2 → LdL h x1 8 2 fun v1 => StL h o 8 2 v1 fun h2 => K h2) ∧ (¬ (nI 4) ≤ x2 → LdR h o 8 1 fun v3 => LdR h x1 8 1 fun v4 => AlI h v4 x2 fun v5 => AsI h v3 x2 v5 fun h6 => pX8_become_10 E dd o x1 (x2 + nI 1) h6 K)) : pX8_become_10 E dd o x1 x2 h K := by
  show gk_G E mX8_become (dd, 0, 0) 10 [(0, .ref o), (1, .ref x1), (2, .int x2)] [] h (fun o h1 => o = none ∧ K h1)
  refine gk_iload_n (pc := 10) (DX8_become_0.at 6 rfl) 2 rfl rfl ?_
  refine gk_iconst (pc := 11) (nI 4) (DX8_become_0.at 7 rfl) ci_4 ?_
  refine gk_icmp_ge (pc := 12) 33 (DX8_become_0.at 8 rfl) (by decide) (fun c => ?_) (fun c => ?_)
  · replace hv := hv.1 c
    refine gk_aload_n (pc := 33) (DX8_become_0.at 19 rfl) 0 rfl rfl ?_
    refine gk_aload_n (pc := 34) (DX8_become_0.at 20 rfl) 1 rfl rfl ?_
    obtain ⟨fs1, v1, q1, r1, hv⟩ := hv
    refine gk_get (pc := 35) (.long v1) (DX8_become_0.at 21 rfl) fX8_19_8 q1 r1 ?_
    obtain ⟨fs2, q2, r2, hv⟩ := hv
    refine gk_put (pc := 38) (DX8_become_0.at 22 rfl) fX8_19_8w q2 r2 rfl rfl ?_
    generalize h.set _ _ = h2 at hv ⊢
    exact gk_return (pc := 41) (DX8_become_0.at 23 rfl) rfl ⟨rfl, hv⟩
  · replace hv := hv.2 c
    refine gk_aload_n (pc := 15) (DX8_become_0.at 9 rfl) 0 rfl rfl ?_
    obtain ⟨fs3, v3, q3, r3, hv⟩ := hv
    refine gk_get (pc := 16) (.ref v3) (DX8_become_0.at 10 rfl) fX8_15_8 q3 r3 ?_
    refine gk_iload_n (pc := 19) (DX8_become_0.at 11 rfl) 2 rfl rfl ?_
    refine gk_aload_n (pc := 20) (DX8_become_0.at 12 rfl) 1 rfl rfl ?_
    obtain ⟨fs4, v4, q4, r4, hv⟩ := hv
    refine gk_get (pc := 21) (.ref v4) (DX8_become_0.at 13 rfl) fX8_15_8 q4 r4 ?_
    refine gk_iload_n (pc := 24) (DX8_become_0.at 14 rfl) 2 rfl rfl ?_
    obtain ⟨n5, f5, q5, r5, hv⟩ := hv
    refine gk_iald (pc := 25) (DX8_become_0.at 15 rfl) q5 r5 ?_
    generalize f5 _ = v5 at hv ⊢
    obtain ⟨n6, f6, q6, r6, hv⟩ := hv
    refine gk_iast (pc := 26) (DX8_become_0.at 16 rfl) q6 r6 ?_
    generalize h.set _ _ = h6 at hv ⊢
    refine gk_iinc (pc := 27) (x2 + nI 1) [(2, .int (x2 + nI 1)), (0, .ref o), (1, .ref x1)] 2 (DX8_become_0.at 17 rfl) rfl (by rw [ci_1]) (Nat.le_of_ble_eq_true rfl) rfl ?_
    refine gk_goto (pc := 30) 10 (DX8_become_0.at 18 rfl) (by decide) ?_
    exact gk_pick (pc := 10) [(0, .ref o), (1, .ref x1), (2, .int (x2 + nI 1))] [1, 2, 0] rfl hv
set_option maxHeartbeats 4000000 in
theorem vX8_bit_0 {E : gk_E} {dd : Nat} {x0 : Int32} {x1 : Int32} {x2 : Int32}  {h : gk_H} {K : Int64 → gk_H → Prop} (hv : K ((lN 1) <<< (((((nI 16) * x0) + ((nI 4) * x1)) + x2).toInt64 &&& 63)) h) : RnL E mX8_bit (dd, 0, 0) [.int x0, .int x1, .int x2] h K := by
  show gk_G E mX8_bit (dd, 0, 0) 0 [(0, .int x0), (1, .int x1), (2, .int x2)] [] h (fun o h1 => ∃ v, o = some (.long v) ∧ K v h1)
  refine gk_lconst (pc := 0) (lN 1) (DX8_bit_0.at 0 rfl) rfl ?_
  refine gk_bipush (pc := 1) (nI 16) (DX8_bit_0.at 1 rfl) cb_16 ?_
  refine gk_iload_n (pc := 3) (DX8_bit_0.at 2 rfl) 0 rfl rfl ?_
  refine gk_imul (pc := 4) (DX8_bit_0.at 3 rfl) ?_
  refine gk_iconst (pc := 5) (nI 4) (DX8_bit_0.at 4 rfl) ci_4 ?_
  refine gk_iload_n (pc := 6) (DX8_bit_0.at 5 rfl) 1 rfl rfl ?_
  refine gk_imul (pc := 7) (DX8_bit_0.at 6 rfl) ?_
  refine gk_iadd (pc := 8) (DX8_bit_0.at 7 rfl) ?_
  refine gk_iload_n (pc := 9) (DX8_bit_0.at 8 rfl) 2 rfl rfl ?_
  refine gk_iadd (pc := 10) (DX8_bit_0.at 9 rfl) ?_
  refine gk_lshl (pc := 11) (DX8_bit_0.at 10 rfl) ?_
  exact gk_lreturn (pc := 12) (DX8_bit_0.at 11 rfl) rfl ⟨_, rfl, hv⟩
set_option maxHeartbeats 4000000 in
theorem vX8_couple_0 {E : gk_E} {dd : Nat} {o : Nat} {x1 : Int32} {x2 : Int32}  {h : gk_H} {K : gk_H → Prop} (hv : (∃ fs, h[o]? = some (.inr (8, fs))) ∧ RnV E mX8_free (dd, 0, 0) [.ref o, .int x1] h (fun h1 => (∃ fs, h1[o]? = some (.inr (8, fs))) ∧ RnV E mX8_free (dd, 0, 0) [.ref o, .int x2] h1 (fun h2 => LdR h2 o 8 1 fun v3 => AsI h2 v3 x1 x2 fun h4 => LdR h4 o 8 1 fun v5 => AsI h4 v5 x2 x1 fun h6 => (∃ fs, h6[o]? = some (.inr (8, fs))) ∧ RnV E mX8_keepFixed (dd, 0, 0) [.ref o] h6 (fun h7 => K h7)))) : RnV E mX8_couple (dd + 1, 0, 0) [.ref o, .int x1, .int x2] h K := by
  show gk_G E mX8_couple (dd + 1, 0, 0) 0 [(0, .ref o), (1, .int x1), (2, .int x2)] [] h (fun o h1 => o = none ∧ K h1)
  refine gk_aload_n (pc := 0) (DX8_couple_0.at 0 rfl) 0 rfl rfl ?_
  refine gk_iload_n (pc := 1) (DX8_couple_0.at 1 rfl) 1 rfl rfl ?_
  obtain ⟨⟨fs1, q1⟩, hv⟩ := hv
  refine gk_vV (pc := 2) [.int x1] [] (DX8_couple_0.at 2 rfl) cvX8_30 q1 rfl rfl (Nat.le_of_ble_eq_true rfl) (Nat.le_of_ble_eq_true rfl) (gk_Run.post (fun o h1 z => ?_) hv)
  obtain ⟨rfl, hv⟩ := z
  refine gk_aload_n (pc := 5) (DX8_couple_0.at 3 rfl) 0 rfl rfl ?_
  refine gk_iload_n (pc := 6) (DX8_couple_0.at 4 rfl) 2 rfl rfl ?_
  obtain ⟨⟨fs2, q2⟩, hv⟩ := hv
  refine gk_vV (pc := 7) [.int x2] [] (DX8_couple_0.at 5 rfl) cvX8_30 q2 rfl rfl (Nat.le_of_ble_eq_true rfl) (Nat.le_of_ble_eq_true rfl) (gk_Run.post (fun o h2 z => ?_) hv)
  obtain ⟨rfl, hv⟩ := z
  refine gk_aload_n (pc := 10) (DX8_couple_0.at 6 rfl) 0 rfl rfl ?_
  obtain ⟨fs3, v3, q3, r3, hv⟩ := hv
  refine gk_get (pc := 11) (.ref v3) (DX8_couple_0.at 7 rfl) fX8_15_8 q3 r3 ?_
  refine gk_iload_n (pc := 14) (DX8_couple_0.at 8 rfl) 1 rfl rfl ?_
  refine gk_iload_n (pc := 15) (DX8_couple_0.at 9 rfl) 2 rfl rfl ?_
  obtain ⟨n4, f4, q4, r4, hv⟩ := hv
  refine gk_iast (pc := 16) (DX8_couple_0.at 10 rfl) q4 r4 ?_
  generalize h2.set _ _ = h4 at hv ⊢
  refine gk_aload_n (pc := 17) (DX8_couple_0.at 11 rfl) 0 rfl rfl ?_
  obtain ⟨fs5, v5, q5, r5, hv⟩ := hv
  refine gk_get (pc := 18) (.ref v5) (DX8_couple_0.at 12 rfl) fX8_15_8 q5 r5 ?_
  refine gk_iload_n (pc := 21) (DX8_couple_0.at 13 rfl) 2 rfl rfl ?_
  refine gk_iload_n (pc := 22) (DX8_couple_0.at 14 rfl) 1 rfl rfl ?_
  obtain ⟨n6, f6, q6, r6, hv⟩ := hv
  refine gk_iast (pc := 23) (DX8_couple_0.at 15 rfl) q6 r6 ?_
  generalize h4.set _ _ = h6 at hv ⊢
  refine gk_aload_n (pc := 24) (DX8_couple_0.at 16 rfl) 0 rfl rfl ?_
  obtain ⟨⟨fs7, q7⟩, hv⟩ := hv
  refine gk_vV (pc := 25) [] [] (DX8_couple_0.at 17 rfl) cvX8_27 q7 rfl rfl (Nat.le_of_ble_eq_true rfl) (Nat.le_of_ble_eq_true rfl) (gk_Run.post (fun o h7 z => ?_) hv)
  obtain ⟨rfl, hv⟩ := z
  exact gk_return (pc := 28) (DX8_couple_0.at 18 rfl) rfl ⟨rfl, hv⟩
abbrev pX8_coupled_4 (E : gk_E) (dd : Nat) (o : Nat) (x1 : Int32) (x2 : Int32) (h : gk_H) (K : Int32 → gk_H → Prop) : Prop := gk_G E mX8_coupled (dd, 0, 0) 4 [(0, .ref o), (1, .int x1), (2, .int x2)] [] h (fun o h1 => ∃ v, o = some (.int v) ∧ K v h1)
set_option maxHeartbeats 4000000 in
theorem vX8_coupled_0 {E : gk_E} {dd : Nat} {o : Nat}  {h : gk_H} {K : Int32 → gk_H → Prop} (hv : pX8_coupled_4 E dd o (nI 0) (nI 0) h K) : RnI E mX8_coupled (dd, 0, 0) [.ref o] h K := by
  show gk_G E mX8_coupled (dd, 0, 0) 0 [(0, .ref o)] [] h (fun o h1 => ∃ v, o = some (.int v) ∧ K v h1)
  refine gk_iconst (pc := 0) (nI 0) (DX8_coupled_0.at 0 rfl) ci_0 ?_
  refine gk_istore_n (pc := 1) [(1, .int (nI 0)), (0, .ref o)] (DX8_coupled_0.at 1 rfl) rfl (Nat.le_of_ble_eq_true rfl) rfl ?_
  refine gk_iconst (pc := 2) (nI 0) (DX8_coupled_0.at 2 rfl) ci_0 ?_
  refine gk_istore_n (pc := 3) [(2, .int (nI 0)), (1, .int (nI 0)), (0, .ref o)] (DX8_coupled_0.at 3 rfl) rfl (Nat.le_of_ble_eq_true rfl) rfl ?_
  exact gk_pick (pc := 4) [(0, .ref o), (1, .int (nI 0)), (2, .int (nI 0))] [2, 1, 0] rfl hv
set_option maxHeartbeats 4000000 in
theorem vX8_coupled_4 {E : gk_E} {dd : Nat} {o : Nat} {x1 : Int32} {x2 : Int32}  {h : gk_H} {K : Int32 → gk_H → Prop} (hv : LdI h o 8 0 fun v1 => (v1 ≤ x2 → K x1 h) ∧ (¬ v1 ≤ x2 → LdR h o 8 1 fun v2 => AlI h v2 x2 fun v3 => (v3 = x2 → pX8_coupled_4 E dd o x1 (x2 + nI 1) h K) ∧ (¬ v3 = x2 → pX8_coupled_4 E dd o (x1 + nI 1) (x2 + nI 1) h K))) : pX8_coupled_4 E dd o x1 x2 h K := by
  show gk_G E mX8_coupled (dd, 0, 0) 4 [(0, .ref o), (1, .int x1), (2, .int x2)] [] h (fun o h1 => ∃ v, o = some (.int v) ∧ K v h1)
  refine gk_iload_n (pc := 4) (DX8_coupled_0.at 4 rfl) 2 rfl rfl ?_
  refine gk_aload_n (pc := 5) (DX8_coupled_0.at 5 rfl) 0 rfl rfl ?_
  obtain ⟨fs1, v1, q1, r1, hv⟩ := hv
  refine gk_get (pc := 6) (.int v1) (DX8_coupled_0.at 6 rfl) fX8_9_8 q1 r1 ?_
  refine gk_icmp_ge (pc := 9) 31 (DX8_coupled_0.at 7 rfl) (by decide) (fun c => ?_) (fun c => ?_)
  · replace hv := hv.1 c
    refine gk_iload_n (pc := 31) (DX8_coupled_0.at 17 rfl) 1 rfl rfl ?_
    exact gk_ireturn (pc := 32) .int (DX8_coupled_0.at 18 rfl) rfl rfl ⟨_, rfl, hv⟩
  · replace hv := hv.2 c
    refine gk_aload_n (pc := 12) (DX8_coupled_0.at 8 rfl) 0 rfl rfl ?_
    obtain ⟨fs2, v2, q2, r2, hv⟩ := hv
    refine gk_get (pc := 13) (.ref v2) (DX8_coupled_0.at 9 rfl) fX8_15_8 q2 r2 ?_
    refine gk_iload_n (pc := 16) (DX8_coupled_0.at 10 rfl) 2 rfl rfl ?_
    obtain ⟨n3, f3, q3, r3, hv⟩ := hv
    refine gk_iald (pc := 17) (DX8_coupled_0.at 11 rfl) q3 r3 ?_
    generalize f3 _ = v3 at hv ⊢
    refine gk_iload_n (pc := 18) (DX8_coupled_0.at 12 rfl) 2 rfl rfl ?_
    refine gk_icmp_eq (pc := 19) 25 (DX8_coupled_0.at 13 rfl) (by decide) (fun c => ?_) (fun c => ?_)
    · replace hv := hv.1 c
      refine gk_iinc (pc := 25) (x2 + nI 1) [(2, .int (x2 + nI 1)), (0, .ref o), (1, .int x1)] 2 (DX8_coupled_0.at 15 rfl) rfl (by rw [ci_1]) (Nat.le_of_ble_eq_true rfl) rfl ?_
      refine gk_goto (pc := 28) 4 (DX8_coupled_0.at 16 rfl) (by decide) ?_
      exact gk_pick (pc := 4) [(0, .ref o), (1, .int x1), (2, .int (x2 + nI 1))] [1, 2, 0] rfl hv
    · replace hv := hv.2 c
      refine gk_iinc (pc := 22) (x1 + nI 1) [(1, .int (x1 + nI 1)), (0, .ref o), (2, .int x2)] 1 (DX8_coupled_0.at 14 rfl) rfl (by rw [ci_1]) (Nat.le_of_ble_eq_true rfl) rfl ?_
      refine gk_iinc (pc := 25) (x2 + nI 1) [(2, .int (x2 + nI 1)), (1, .int (x1 + nI 1)), (0, .ref o)] 2 (DX8_coupled_0.at 15 rfl) rfl (by rw [ci_1]) (Nat.le_of_ble_eq_true rfl) rfl ?_
      refine gk_goto (pc := 28) 4 (DX8_coupled_0.at 16 rfl) (by decide) ?_
      exact gk_pick (pc := 4) [(0, .ref o), (1, .int (x1 + nI 1)), (2, .int (x2 + nI 1))] [2, 1, 0] rfl hv
abbrev pX8_cycleFacts_10 (E : gk_E) (dd : Nat) (o : Nat) (x1 : Int32) (x2 : Int32) (x3 : Int32) (x4 : Int32) (x5 : Int32) (h : gk_H) (K : Int32 → gk_H → Prop) : Prop := gk_G E mX8_cycleFacts (dd + 1, 0, 0) 10 [(0, .ref o), (1, .int x1), (2, .int x2), (3, .int x3), (4, .int x4), (5, .int x5)] [] h (fun o h1 => ∃ v, o = some (.int v) ∧ K v h1)
abbrev pX8_cycleFacts_22 (E : gk_E) (dd : Nat) (o : Nat) (x1 : Int32) (x2 : Int32) (x3 : Int32) (x4 : Int32) (x5 : Int32) (x6 : Int32) (h : gk_H) (K : Int32 → gk_H → Prop) : Prop := gk_G E mX8_cycleFacts (dd + 1, 0, 0) 22 [(0, .ref o), (1, .int x1), (2, .int x2), (3, .int x3), (4, .int x4), (5, .int x5), (6, .int x6)] [] h (fun o h1 => ∃ v, o = some (.int v) ∧ K v h1)
abbrev pX8_cycleFacts_34 (E : gk_E) (dd : Nat) (o : Nat) (x1 : Int32) (x2 : Int32) (x3 : Int32) (x4 : Int32) (x5 : Int32) (x6 : Int32) (x7 : Int32) (h : gk_H) (K : Int32 → gk_H → Prop) : Prop := gk_G E mX8_cycleFacts (dd + 1, 0, 0) 34 [(0, .ref o), (1, .int x1), (2, .int x2), (3, .int x3), (4, .int x4), (5, .int x5), (6, .int x6), (7, .int x7)] [] h (fun o h1 => ∃ v, o = some (.int v) ∧ K v h1)
set_option maxHeartbeats 4000000 in
theorem vX8_cycleFacts_0 {E : gk_E} {dd : Nat} {o : Nat} {x1 : Int32}  {h : gk_H} {K : Int32 → gk_H → Prop} (hv : pX8_cycleFacts_10 E dd o x1 (nI 0) (nI 0) (nI 0) (nI 1) h K) : RnI E mX8_cycleFacts (dd + 1, 0, 0) [.ref o, .int x1] h K := by
  show gk_G E mX8_cycleFacts (dd + 1, 0, 0) 0 [(0, .ref o), (1, .int x1)] [] h (fun o h1 => ∃ v, o = some (.int v) ∧ K v h1)
  refine gk_iconst (pc := 0) (nI 0) (DX8_cycleFacts_0.at 0 rfl) ci_0 ?_
  refine gk_istore_n (pc := 1) [(2, .int (nI 0)), (0, .ref o), (1, .int x1)] (DX8_cycleFacts_0.at 1 rfl) rfl (Nat.le_of_ble_eq_true rfl) rfl ?_
  refine gk_iconst (pc := 2) (nI 0) (DX8_cycleFacts_0.at 2 rfl) ci_0 ?_
  refine gk_istore_n (pc := 3) [(3, .int (nI 0)), (2, .int (nI 0)), (0, .ref o), (1, .int x1)] (DX8_cycleFacts_0.at 3 rfl) rfl (Nat.le_of_ble_eq_true rfl) rfl ?_
  refine gk_iconst (pc := 4) (nI 0) (DX8_cycleFacts_0.at 4 rfl) ci_0 ?_
  refine gk_istore (pc := 5) [(4, .int (nI 0)), (3, .int (nI 0)), (2, .int (nI 0)), (0, .ref o), (1, .int x1)] (DX8_cycleFacts_0.at 5 rfl) (Nat.le_of_ble_eq_true rfl) rfl ?_
  refine gk_iconst (pc := 7) (nI 1) (DX8_cycleFacts_0.at 6 rfl) ci_1 ?_
  refine gk_istore (pc := 8) [(5, .int (nI 1)), (4, .int (nI 0)), (3, .int (nI 0)), (2, .int (nI 0)), (0, .ref o), (1, .int x1)] (DX8_cycleFacts_0.at 7 rfl) (Nat.le_of_ble_eq_true rfl) rfl ?_
  exact gk_pick (pc := 10) [(0, .ref o), (1, .int x1), (2, .int (nI 0)), (3, .int (nI 0)), (4, .int (nI 0)), (5, .int (nI 1))] [4, 5, 3, 2, 1, 0] rfl hv
set_option maxHeartbeats 4000000 in
theorem vX8_cycleFacts_10 {E : gk_E} {dd : Nat} {o : Nat} {x1 : Int32} {x2 : Int32} {x3 : Int32} {x4 : Int32} {x5 : Int32}  {h : gk_H} {K : Int32 → gk_H → Prop} (hv : LdI h o 8 0 fun v1 => (v1 ≤ x5 → (¬ x1 = 0 → (¬ x1 = (nI 1) → K x4 h) ∧ (x1 = (nI 1) → K x3 h)) ∧ (x1 = 0 → K x2 h)) ∧ (¬ v1 ≤ x5 → pX8_cycleFacts_22 E dd o x1 x2 x3 x4 x5 (nI 1) h K)) : pX8_cycleFacts_10 E dd o x1 x2 x3 x4 x5 h K := by
  show gk_G E mX8_cycleFacts (dd + 1, 0, 0) 10 [(0, .ref o), (1, .int x1), (2, .int x2), (3, .int x3), (4, .int x4), (5, .int x5)] [] h (fun o h1 => ∃ v, o = some (.int v) ∧ K v h1)
  refine gk_iload (pc := 10) (DX8_cycleFacts_0.at 8 rfl) 5 rfl ?_
  refine gk_aload_n (pc := 12) (DX8_cycleFacts_0.at 9 rfl) 0 rfl rfl ?_
  obtain ⟨fs1, v1, q1, r1, hv⟩ := hv
  refine gk_get (pc := 13) (.int v1) (DX8_cycleFacts_0.at 10 rfl) fX8_9_8 q1 r1 ?_
  refine gk_icmp_ge (pc := 16) 113 (DX8_cycleFacts_0.at 11 rfl) (by decide) (fun c => ?_) (fun c => ?_)
  · replace hv := hv.1 c
    refine gk_iload_n (pc := 113) (DX8_cycleFacts_0.at 53 rfl) 1 rfl rfl ?_
    refine gk_if_ne (pc := 114) 119 (DX8_cycleFacts_0.at 54 rfl) (by decide) (fun c => ?_) (fun c => ?_)
    · replace hv := hv.1 c
      refine gk_iload_n (pc := 119) (DX8_cycleFacts_0.at 57 rfl) 1 rfl rfl ?_
      refine gk_iconst (pc := 120) (nI 1) (DX8_cycleFacts_0.at 58 rfl) ci_1 ?_
      refine gk_icmp_ne (pc := 121) 128 (DX8_cycleFacts_0.at 59 rfl) (by decide) (fun c => ?_) (fun c => ?_)
      · replace hv := hv.1 c
        refine gk_iload (pc := 128) (DX8_cycleFacts_1.at 2 rfl) 4 rfl ?_
        exact gk_ireturn (pc := 130) .int (DX8_cycleFacts_1.at 3 rfl) rfl rfl ⟨_, rfl, hv⟩
      · replace hv := hv.2 c
        refine gk_iload_n (pc := 124) (DX8_cycleFacts_1.at 0 rfl) 3 rfl rfl ?_
        refine gk_goto (pc := 125) 130 (DX8_cycleFacts_1.at 1 rfl) (by decide) ?_
        exact gk_ireturn (pc := 130) .int (DX8_cycleFacts_1.at 3 rfl) rfl rfl ⟨_, rfl, hv⟩
    · replace hv := hv.2 c
      refine gk_iload_n (pc := 117) (DX8_cycleFacts_0.at 55 rfl) 2 rfl rfl ?_
      exact gk_ireturn (pc := 118) .int (DX8_cycleFacts_0.at 56 rfl) rfl rfl ⟨_, rfl, hv⟩
  · replace hv := hv.2 c
    refine gk_iconst (pc := 19) (nI 1) (DX8_cycleFacts_0.at 12 rfl) ci_1 ?_
    refine gk_istore (pc := 20) [(6, .int (nI 1)), (0, .ref o), (1, .int x1), (2, .int x2), (3, .int x3), (4, .int x4), (5, .int x5)] (DX8_cycleFacts_0.at 13 rfl) (Nat.le_of_ble_eq_true rfl) rfl ?_
    exact gk_pick (pc := 22) [(0, .ref o), (1, .int x1), (2, .int x2), (3, .int x3), (4, .int x4), (5, .int x5), (6, .int (nI 1))] [1, 2, 3, 4, 5, 6, 0] rfl hv
set_option maxHeartbeats 4000000 in
theorem vX8_cycleFacts_22 {E : gk_E} {dd : Nat} {o : Nat} {x1 : Int32} {x2 : Int32} {x3 : Int32} {x4 : Int32} {x5 : Int32} {x6 : Int32}  {h : gk_H} {K : Int32 → gk_H → Prop} (hv : LdI h o 8 0 fun v1 => (v1 ≤ x6 → pX8_cycleFacts_10 E dd o x1 x2 x3 x4 (x5 + nI 1) h K) ∧ (¬ v1 ≤ x6 → pX8_cycleFacts_34 E dd o x1 x2 x3 x4 x5 x6 (nI 1) h K)) : pX8_cycleFacts_22 E dd o x1 x2 x3 x4 x5 x6 h K := by
  show gk_G E mX8_cycleFacts (dd + 1, 0, 0) 22 [(0, .ref o), (1, .int x1), (2, .int x2), (3, .int x3), (4, .int x4), (5, .int x5), (6, .int x6)] [] h (fun o h1 => ∃ v, o = some (.int v) ∧ K v h1)
  refine gk_iload (pc := 22) (DX8_cycleFacts_0.at 14 rfl) 6 rfl ?_
  refine gk_aload_n (pc := 24) (DX8_cycleFacts_0.at 15 rfl) 0 rfl rfl ?_
  obtain ⟨fs1, v1, q1, r1, hv⟩ := hv
  refine gk_get (pc := 25) (.int v1) (DX8_cycleFacts_0.at 16 rfl) fX8_9_8 q1 r1 ?_
  refine gk_icmp_ge (pc := 28) 107 (DX8_cycleFacts_0.at 17 rfl) (by decide) (fun c => ?_) (fun c => ?_)
  · replace hv := hv.1 c
    refine gk_iinc (pc := 107) (x5 + nI 1) [(5, .int (x5 + nI 1)), (0, .ref o), (1, .int x1), (2, .int x2), (3, .int x3), (4, .int x4), (6, .int x6)] 5 (DX8_cycleFacts_0.at 51 rfl) rfl (by rw [ci_1]) (Nat.le_of_ble_eq_true rfl) rfl ?_
    refine gk_goto (pc := 110) 10 (DX8_cycleFacts_0.at 52 rfl) (by decide) ?_
    exact gk_pick (pc := 10) [(0, .ref o), (1, .int x1), (2, .int x2), (3, .int x3), (4, .int x4), (5, .int (x5 + nI 1))] [1, 2, 3, 4, 5, 0] rfl hv
  · replace hv := hv.2 c
    refine gk_iconst (pc := 31) (nI 1) (DX8_cycleFacts_0.at 18 rfl) ci_1 ?_
    refine gk_istore (pc := 32) [(7, .int (nI 1)), (0, .ref o), (1, .int x1), (2, .int x2), (3, .int x3), (4, .int x4), (5, .int x5), (6, .int x6)] (DX8_cycleFacts_0.at 19 rfl) (Nat.le_of_ble_eq_true rfl) rfl ?_
    exact gk_pick (pc := 34) [(0, .ref o), (1, .int x1), (2, .int x2), (3, .int x3), (4, .int x4), (5, .int x5), (6, .int x6), (7, .int (nI 1))] [1, 2, 3, 4, 5, 6, 7, 0] rfl hv
set_option maxHeartbeats 4000000 in
theorem vX8_cycleFacts_34 {E : gk_E} {dd : Nat} {o : Nat} {x1 : Int32} {x2 : Int32} {x3 : Int32} {x4 : Int32} {x5 : Int32} {x6 : Int32} {x7 : Int32}  {h : gk_H} {K : Int32 → gk_H → Prop} (hv : LdI h o 8 0 fun v1 => (v1 ≤ x7 → pX8_cycleFacts_22 E dd o x1 x2 x3 x4 x5 (x6 + nI 1) h K) ∧ (¬ v1 ≤ x7 → (∃ fs, h[o]? = some (.inr (8, fs))) ∧ RnI E mX8_isLeastTurn (dd, 0, 0) [.ref o, .int x5, .int x6, .int x7] h (fun v2 h2 => (v2 = 0 → pX8_cycleFacts_34 E dd o x1 x2 x3 x4 x5 x6 (x7 + nI 1) h2 K) ∧ (¬ v2 = 0 → (∃ fs, h2[o]? = some (.inr (8, fs))) ∧ RnI E mX8_has (dd, 0, 0) [.ref o, .int x5, .int x6, .int x7] h2 (fun v3 h3 => (v3 = 0 → pX8_cycleFacts_34 E dd o x1 x2 (x3 + nI 1) x4 x5 x6 (x7 + nI 1) h3 K) ∧ (¬ v3 = 0 → (∃ fs, h3[o]? = some (.inr (8, fs))) ∧ RnL E mX8_turns (dd, 0, 0) [.ref o, .int x5, .int x6, .int x7] h3 (fun v4 h4 => RnI E mJ13_bitCount_95d88 (dd, 0, 0) [.long v4] h4 (fun v5 h5 => pX8_cycleFacts_34 E dd o x1 (x2 + nI 1) (x3 + nI 1) (if x4 < v5 then v5 else x4) x5 x6 (x7 + nI 1) h5 K)))))))) : pX8_cycleFacts_34 E dd o x1 x2 x3 x4 x5 x6 x7 h K := by
  show gk_G E mX8_cycleFacts (dd + 1, 0, 0) 34 [(0, .ref o), (1, .int x1), (2, .int x2), (3, .int x3), (4, .int x4), (5, .int x5), (6, .int x6), (7, .int x7)] [] h (fun o h1 => ∃ v, o = some (.int v) ∧ K v h1)
  refine gk_iload (pc := 34) (DX8_cycleFacts_0.at 20 rfl) 7 rfl ?_
  refine gk_aload_n (pc := 36) (DX8_cycleFacts_0.at 21 rfl) 0 rfl rfl ?_
  obtain ⟨fs1, v1, q1, r1, hv⟩ := hv
  refine gk_get (pc := 37) (.int v1) (DX8_cycleFacts_0.at 22 rfl) fX8_9_8 q1 r1 ?_
  refine gk_icmp_ge (pc := 40) 101 (DX8_cycleFacts_0.at 23 rfl) (by decide) (fun c => ?_) (fun c => ?_)
  · replace hv := hv.1 c
    refine gk_iinc (pc := 101) (x6 + nI 1) [(6, .int (x6 + nI 1)), (0, .ref o), (1, .int x1), (2, .int x2), (3, .int x3), (4, .int x4), (5, .int x5), (7, .int x7)] 6 (DX8_cycleFacts_0.at 49 rfl) rfl (by rw [ci_1]) (Nat.le_of_ble_eq_true rfl) rfl ?_
    refine gk_goto (pc := 104) 22 (DX8_cycleFacts_0.at 50 rfl) (by decide) ?_
    exact gk_pick (pc := 22) [(0, .ref o), (1, .int x1), (2, .int x2), (3, .int x3), (4, .int x4), (5, .int x5), (6, .int (x6 + nI 1))] [1, 2, 3, 4, 5, 6, 0] rfl hv
  · replace hv := hv.2 c
    refine gk_aload_n (pc := 43) (DX8_cycleFacts_0.at 24 rfl) 0 rfl rfl ?_
    refine gk_iload (pc := 44) (DX8_cycleFacts_0.at 25 rfl) 5 rfl ?_
    refine gk_iload (pc := 46) (DX8_cycleFacts_0.at 26 rfl) 6 rfl ?_
    refine gk_iload (pc := 48) (DX8_cycleFacts_0.at 27 rfl) 7 rfl ?_
    obtain ⟨⟨fs2, q2⟩, hv⟩ := hv
    refine gk_vV (pc := 50) [.int x5, .int x6, .int x7] [] (DX8_cycleFacts_0.at 28 rfl) cvX8_68 q2 rfl rfl (Nat.le_of_ble_eq_true rfl) (Nat.le_of_ble_eq_true rfl) (gk_Run.post (fun o h2 z => ?_) hv)
    obtain ⟨v2, rfl, hv⟩ := z
    refine gk_if_eq (pc := 53) 95 (DX8_cycleFacts_0.at 29 rfl) (by decide) (fun c => ?_) (fun c => ?_)
    · replace hv := hv.1 c
      refine gk_iinc (pc := 95) (x7 + nI 1) [(7, .int (x7 + nI 1)), (0, .ref o), (1, .int x1), (2, .int x2), (3, .int x3), (4, .int x4), (5, .int x5), (6, .int x6)] 7 (DX8_cycleFacts_0.at 47 rfl) rfl (by rw [ci_1]) (Nat.le_of_ble_eq_true rfl) rfl ?_
      refine gk_goto (pc := 98) 34 (DX8_cycleFacts_0.at 48 rfl) (by decide) ?_
      exact gk_pick (pc := 34) [(0, .ref o), (1, .int x1), (2, .int x2), (3, .int x3), (4, .int x4), (5, .int x5), (6, .int x6), (7, .int (x7 + nI 1))] [1, 2, 3, 4, 5, 6, 7, 0] rfl hv
    · replace hv := hv.2 c
      refine gk_iinc (pc := 56) (x3 + nI 1) [(3, .int (x3 + nI 1)), (0, .ref o), (1, .int x1), (2, .int x2), (4, .int x4), (5, .int x5), (6, .int x6), (7, .int x7)] 3 (DX8_cycleFacts_0.at 30 rfl) rfl (by rw [ci_1]) (Nat.le_of_ble_eq_true rfl) rfl ?_
      refine gk_aload_n (pc := 59) (DX8_cycleFacts_0.at 31 rfl) 1 rfl rfl ?_
      refine gk_iload (pc := 60) (DX8_cycleFacts_0.at 32 rfl) 5 rfl ?_
      refine gk_iload (pc := 62) (DX8_cycleFacts_0.at 33 rfl) 6 rfl ?_
      refine gk_iload (pc := 64) (DX8_cycleFacts_0.at 34 rfl) 7 rfl ?_
      obtain ⟨⟨fs3, q3⟩, hv⟩ := hv
      refine gk_vV (pc := 66) [.int x5, .int x6, .int x7] [] (DX8_cycleFacts_0.at 35 rfl) cvX8_71 q3 rfl rfl (Nat.le_of_ble_eq_true rfl) (Nat.le_of_ble_eq_true rfl) (gk_Run.post (fun o h3 z => ?_) hv)
      obtain ⟨v3, rfl, hv⟩ := z
      refine gk_if_eq (pc := 69) 95 (DX8_cycleFacts_0.at 36 rfl) (by decide) (fun c => ?_) (fun c => ?_)
      · replace hv := hv.1 c
        refine gk_iinc (pc := 95) (x7 + nI 1) [(7, .int (x7 + nI 1)), (3, .int (x3 + nI 1)), (0, .ref o), (1, .int x1), (2, .int x2), (4, .int x4), (5, .int x5), (6, .int x6)] 7 (DX8_cycleFacts_0.at 47 rfl) rfl (by rw [ci_1]) (Nat.le_of_ble_eq_true rfl) rfl ?_
        refine gk_goto (pc := 98) 34 (DX8_cycleFacts_0.at 48 rfl) (by decide) ?_
        exact gk_pick (pc := 34) [(0, .ref o), (1, .int x1), (2, .int x2), (3, .int (x3 + nI 1)), (4, .int x4), (5, .int x5), (6, .int x6), (7, .int (x7 + nI 1))] [2, 3, 4, 1, 5, 6, 7, 0] rfl hv
      · replace hv := hv.2 c
        refine gk_iinc (pc := 72) (x2 + nI 1) [(2, .int (x2 + nI 1)), (3, .int (x3 + nI 1)), (0, .ref o), (1, .int x1), (4, .int x4), (5, .int x5), (6, .int x6), (7, .int x7)] 3 (DX8_cycleFacts_0.at 37 rfl) rfl (by rw [ci_1]) (Nat.le_of_ble_eq_true rfl) rfl ?_
        refine gk_iload (pc := 75) (DX8_cycleFacts_0.at 38 rfl) 4 rfl ?_
        refine gk_aload_n (pc := 77) (DX8_cycleFacts_0.at 39 rfl) 2 rfl rfl ?_
        refine gk_iload (pc := 78) (DX8_cycleFacts_0.at 40 rfl) 5 rfl ?_
        refine gk_iload (pc := 80) (DX8_cycleFacts_0.at 41 rfl) 6 rfl ?_
        refine gk_iload (pc := 82) (DX8_cycleFacts_0.at 42 rfl) 7 rfl ?_
        obtain ⟨⟨fs4, q4⟩, hv⟩ := hv
        refine gk_vV (pc := 84) [.int x5, .int x6, .int x7] [.int x4] (DX8_cycleFacts_0.at 43 rfl) cvX8_37 q4 rfl rfl (Nat.le_of_ble_eq_true rfl) (Nat.le_of_ble_eq_true rfl) (gk_Run.post (fun o h4 z => ?_) hv)
        obtain ⟨v4, rfl, hv⟩ := z
        refine gk_vS (pc := 87) [.long v4] [.int x4] (DX8_cycleFacts_0.at 44 rfl) csX8_42 rfl rfl (Nat.le_of_ble_eq_true rfl) (Nat.le_of_ble_eq_true rfl) (gk_Run.post (fun o h5 z => ?_) hv)
        obtain ⟨v5, rfl, hv⟩ := z
        refine gk_max (pc := 90) (DX8_cycleFacts_0.at 45 rfl) kw_587 kw_588 kw_98 kw_589 (Nat.le_of_ble_eq_true rfl) ?_
        refine gk_istore (pc := 93) [(4, .int (if x4 < v5 then v5 else x4)), (2, .int (x2 + nI 1)), (3, .int (x3 + nI 1)), (0, .ref o), (1, .int x1), (5, .int x5), (6, .int x6), (7, .int x7)] (DX8_cycleFacts_0.at 46 rfl) (Nat.le_of_ble_eq_true rfl) rfl ?_
        refine gk_iinc (pc := 95) (x7 + nI 1) [(7, .int (x7 + nI 1)), (4, .int (if x4 < v5 then v5 else x4)), (2, .int (x2 + nI 1)), (3, .int (x3 + nI 1)), (0, .ref o), (1, .int x1), (5, .int x5), (6, .int x6)] 7 (DX8_cycleFacts_0.at 47 rfl) rfl (by rw [ci_1]) (Nat.le_of_ble_eq_true rfl) rfl ?_
        refine gk_goto (pc := 98) 34 (DX8_cycleFacts_0.at 48 rfl) (by decide) ?_
        exact gk_pick (pc := 34) [(0, .ref o), (1, .int x1), (2, .int (x2 + nI 1)), (3, .int (x3 + nI 1)), (4, .int (if x4 < v5 then v5 else x4)), (5, .int x5), (6, .int x6), (7, .int (x7 + nI 1))] [4, 5, 2, 3, 1, 6, 7, 0] rfl hv
set_option maxHeartbeats 4000000 in
theorem vX8_free_0 {E : gk_E} {dd : Nat} {o : Nat} {x1 : Int32}  {h : gk_H} {K : gk_H → Prop} (hv : LdR h o 8 1 fun v1 => AlI h v1 x1 fun v2 => LdR h o 8 1 fun v3 => AsI h v3 v2 v2 fun h4 => LdR h4 o 8 1 fun v5 => AsI h4 v5 x1 x1 fun h6 => K h6) : RnV E mX8_free (dd, 0, 0) [.ref o, .int x1] h K := by
  show gk_G E mX8_free (dd, 0, 0) 0 [(0, .ref o), (1, .int x1)] [] h (fun o h1 => o = none ∧ K h1)
  refine gk_aload_n (pc := 0) (DX8_free_0.at 0 rfl) 0 rfl rfl ?_
  obtain ⟨fs1, v1, q1, r1, hv⟩ := hv
  refine gk_get (pc := 1) (.ref v1) (DX8_free_0.at 1 rfl) fX8_15_8 q1 r1 ?_
  refine gk_iload_n (pc := 4) (DX8_free_0.at 2 rfl) 1 rfl rfl ?_
  obtain ⟨n2, f2, q2, r2, hv⟩ := hv
  refine gk_iald (pc := 5) (DX8_free_0.at 3 rfl) q2 r2 ?_
  generalize f2 _ = v2 at hv ⊢
  refine gk_istore_n (pc := 6) [(2, .int v2), (0, .ref o), (1, .int x1)] (DX8_free_0.at 4 rfl) rfl (Nat.le_of_ble_eq_true rfl) rfl ?_
  refine gk_aload_n (pc := 7) (DX8_free_0.at 5 rfl) 1 rfl rfl ?_
  obtain ⟨fs3, v3, q3, r3, hv⟩ := hv
  refine gk_get (pc := 8) (.ref v3) (DX8_free_0.at 6 rfl) fX8_15_8 q3 r3 ?_
  refine gk_iload_n (pc := 11) (DX8_free_0.at 7 rfl) 0 rfl rfl ?_
  refine gk_iload_n (pc := 12) (DX8_free_0.at 8 rfl) 0 rfl rfl ?_
  obtain ⟨n4, f4, q4, r4, hv⟩ := hv
  refine gk_iast (pc := 13) (DX8_free_0.at 9 rfl) q4 r4 ?_
  generalize h.set _ _ = h4 at hv ⊢
  refine gk_aload_n (pc := 14) (DX8_free_0.at 10 rfl) 1 rfl rfl ?_
  obtain ⟨fs5, v5, q5, r5, hv⟩ := hv
  refine gk_get (pc := 15) (.ref v5) (DX8_free_0.at 11 rfl) fX8_15_8 q5 r5 ?_
  refine gk_iload_n (pc := 18) (DX8_free_0.at 12 rfl) 2 rfl rfl ?_
  refine gk_iload_n (pc := 19) (DX8_free_0.at 13 rfl) 2 rfl rfl ?_
  obtain ⟨n6, f6, q6, r6, hv⟩ := hv
  refine gk_iast (pc := 20) (DX8_free_0.at 14 rfl) q6 r6 ?_
  generalize h4.set _ _ = h6 at hv ⊢
  exact gk_return (pc := 21) (DX8_free_0.at 15 rfl) rfl ⟨rfl, hv⟩
set_option maxHeartbeats 4000000 in
theorem vX8_has_0 {E : gk_E} {dd : Nat} {o : Nat} {x1 : Int32} {x2 : Int32} {x3 : Int32}  {h : gk_H} {K : Int32 → gk_H → Prop} (hv : LdL h o 8 2 fun v1 => (¬ (lg_cmp (((v1.toUInt64 >>> (((((nI 16) * x1) + ((nI 4) * x2)) + x3).toInt64.toUInt64 &&& Int64.toUInt64 63)).toInt64) &&& (lN 1)) (lN 1)) = 0 → K (nI 0) h) ∧ ((lg_cmp (((v1.toUInt64 >>> (((((nI 16) * x1) + ((nI 4) * x2)) + x3).toInt64.toUInt64 &&& Int64.toUInt64 63)).toInt64) &&& (lN 1)) (lN 1)) = 0 → K (nI 1) h)) : RnI E mX8_has (dd, 0, 0) [.ref o, .int x1, .int x2, .int x3] h K := by
  show gk_G E mX8_has (dd, 0, 0) 0 [(0, .ref o), (1, .int x1), (2, .int x2), (3, .int x3)] [] h (fun o h1 => ∃ v, o = some (.int v) ∧ K v h1)
  refine gk_aload_n (pc := 0) (DX8_has_0.at 0 rfl) 0 rfl rfl ?_
  obtain ⟨fs1, v1, q1, r1, hv⟩ := hv
  refine gk_get (pc := 1) (.long v1) (DX8_has_0.at 1 rfl) fX8_19_8 q1 r1 ?_
  refine gk_bipush (pc := 4) (nI 16) (DX8_has_0.at 2 rfl) cb_16 ?_
  refine gk_iload_n (pc := 6) (DX8_has_0.at 3 rfl) 1 rfl rfl ?_
  refine gk_imul (pc := 7) (DX8_has_0.at 4 rfl) ?_
  refine gk_iconst (pc := 8) (nI 4) (DX8_has_0.at 5 rfl) ci_4 ?_
  refine gk_iload_n (pc := 9) (DX8_has_0.at 6 rfl) 2 rfl rfl ?_
  refine gk_imul (pc := 10) (DX8_has_0.at 7 rfl) ?_
  refine gk_iadd (pc := 11) (DX8_has_0.at 8 rfl) ?_
  refine gk_iload_n (pc := 12) (DX8_has_0.at 9 rfl) 3 rfl rfl ?_
  refine gk_iadd (pc := 13) (DX8_has_0.at 10 rfl) ?_
  refine gk_lushr (pc := 14) (DX8_has_0.at 11 rfl) ?_
  refine gk_lconst (pc := 15) (lN 1) (DX8_has_0.at 12 rfl) rfl ?_
  refine gk_land (pc := 16) (DX8_has_0.at 13 rfl) ?_
  refine gk_lconst (pc := 17) (lN 1) (DX8_has_0.at 14 rfl) rfl ?_
  refine gk_lcmp (pc := 18) (DX8_has_0.at 15 rfl) ?_
  refine gk_if_ne (pc := 19) 26 (DX8_has_0.at 16 rfl) (by decide) (fun c => ?_) (fun c => ?_)
  · replace hv := hv.1 c
    refine gk_iconst (pc := 26) (nI 0) (DX8_has_0.at 19 rfl) ci_0 ?_
    exact gk_ireturn (pc := 27) .boolean (DX8_has_0.at 20 rfl) rfl rfl ⟨_, rfl, hv⟩
  · replace hv := hv.2 c
    refine gk_iconst (pc := 22) (nI 1) (DX8_has_0.at 17 rfl) ci_1 ?_
    refine gk_goto (pc := 23) 27 (DX8_has_0.at 18 rfl) (by decide) ?_
    exact gk_ireturn (pc := 27) .boolean (DX8_has_0.at 20 rfl) rfl rfl ⟨_, rfl, hv⟩
set_option maxHeartbeats 4000000 in
theorem vX8_isEquivalence_0 {E : gk_E} {dd : Nat} {o : Nat} {x1 : Int32}  {h : gk_H} {K : Int32 → gk_H → Prop} (hv : (¬ (x1 &&& (nI 1)) = (nI 1) → K (nI 0) h) ∧ ((x1 &&& (nI 1)) = (nI 1) → (∃ fs, h[o]? = some (.inr (8, fs))) ∧ RnI E mX8_mirrored (dd, 0, 0) [.ref o, .int x1] h (fun v1 h1 => (¬ v1 = x1 → K (nI 0) h1) ∧ (v1 = x1 → (∃ fs, h1[o]? = some (.inr (8, fs))) ∧ RnI E mX8_product (dd, 0, 0) [.ref o, .int x1, .int x1] h1 (fun v2 h2 => (¬ (v2 &&& (x1 ^^^ ((-1)))) = 0 → K (nI 0) h2) ∧ ((v2 &&& (x1 ^^^ ((-1)))) = 0 → K (nI 1) h2)))))) : RnI E mX8_isEquivalence (dd + 1, 0, 0) [.ref o, .int x1] h K := by
  show gk_G E mX8_isEquivalence (dd + 1, 0, 0) 0 [(0, .ref o), (1, .int x1)] [] h (fun o h1 => ∃ v, o = some (.int v) ∧ K v h1)
  refine gk_iload_n (pc := 0) (DX8_isEquivalence_0.at 0 rfl) 1 rfl rfl ?_
  refine gk_iconst (pc := 1) (nI 1) (DX8_isEquivalence_0.at 1 rfl) ci_1 ?_
  refine gk_iand (pc := 2) (DX8_isEquivalence_0.at 2 rfl) ?_
  refine gk_iconst (pc := 3) (nI 1) (DX8_isEquivalence_0.at 3 rfl) ci_1 ?_
  refine gk_icmp_ne (pc := 4) 33 (DX8_isEquivalence_0.at 4 rfl) (by decide) (fun c => ?_) (fun c => ?_)
  · replace hv := hv.1 c
    refine gk_iconst (pc := 33) (nI 0) (DX8_isEquivalence_0.at 21 rfl) ci_0 ?_
    exact gk_ireturn (pc := 34) .boolean (DX8_isEquivalence_0.at 22 rfl) rfl rfl ⟨_, rfl, hv⟩
  · replace hv := hv.2 c
    refine gk_aload_n (pc := 7) (DX8_isEquivalence_0.at 5 rfl) 0 rfl rfl ?_
    refine gk_iload_n (pc := 8) (DX8_isEquivalence_0.at 6 rfl) 1 rfl rfl ?_
    obtain ⟨⟨fs1, q1⟩, hv⟩ := hv
    refine gk_vV (pc := 9) [.int x1] [] (DX8_isEquivalence_0.at 7 rfl) cvX8_60 q1 rfl rfl (Nat.le_of_ble_eq_true rfl) (Nat.le_of_ble_eq_true rfl) (gk_Run.post (fun o h1 z => ?_) hv)
    obtain ⟨v1, rfl, hv⟩ := z
    refine gk_iload_n (pc := 12) (DX8_isEquivalence_0.at 8 rfl) 1 rfl rfl ?_
    refine gk_icmp_ne (pc := 13) 33 (DX8_isEquivalence_0.at 9 rfl) (by decide) (fun c => ?_) (fun c => ?_)
    · replace hv := hv.1 c
      refine gk_iconst (pc := 33) (nI 0) (DX8_isEquivalence_0.at 21 rfl) ci_0 ?_
      exact gk_ireturn (pc := 34) .boolean (DX8_isEquivalence_0.at 22 rfl) rfl rfl ⟨_, rfl, hv⟩
    · replace hv := hv.2 c
      refine gk_aload_n (pc := 16) (DX8_isEquivalence_0.at 10 rfl) 0 rfl rfl ?_
      refine gk_iload_n (pc := 17) (DX8_isEquivalence_0.at 11 rfl) 1 rfl rfl ?_
      refine gk_iload_n (pc := 18) (DX8_isEquivalence_0.at 12 rfl) 1 rfl rfl ?_
      obtain ⟨⟨fs2, q2⟩, hv⟩ := hv
      refine gk_vV (pc := 19) [.int x1, .int x1] [] (DX8_isEquivalence_0.at 13 rfl) cvX8_48 q2 rfl rfl (Nat.le_of_ble_eq_true rfl) (Nat.le_of_ble_eq_true rfl) (gk_Run.post (fun o h2 z => ?_) hv)
      obtain ⟨v2, rfl, hv⟩ := z
      refine gk_iload_n (pc := 22) (DX8_isEquivalence_0.at 14 rfl) 1 rfl rfl ?_
      refine gk_iconst (pc := 23) ((-1)) (DX8_isEquivalence_0.at 15 rfl) ci_m1 ?_
      refine gk_ixor (pc := 24) (DX8_isEquivalence_0.at 16 rfl) ?_
      refine gk_iand (pc := 25) (DX8_isEquivalence_0.at 17 rfl) ?_
      refine gk_if_ne (pc := 26) 33 (DX8_isEquivalence_0.at 18 rfl) (by decide) (fun c => ?_) (fun c => ?_)
      · replace hv := hv.1 c
        refine gk_iconst (pc := 33) (nI 0) (DX8_isEquivalence_0.at 21 rfl) ci_0 ?_
        exact gk_ireturn (pc := 34) .boolean (DX8_isEquivalence_0.at 22 rfl) rfl rfl ⟨_, rfl, hv⟩
      · replace hv := hv.2 c
        refine gk_iconst (pc := 29) (nI 1) (DX8_isEquivalence_0.at 19 rfl) ci_1 ?_
        refine gk_goto (pc := 30) 34 (DX8_isEquivalence_0.at 20 rfl) (by decide) ?_
        exact gk_ireturn (pc := 34) .boolean (DX8_isEquivalence_0.at 22 rfl) rfl rfl ⟨_, rfl, hv⟩
set_option maxHeartbeats 4000000 in
theorem vX8_isLeastTurn_0 {E : gk_E} {dd : Nat} {o : Nat} {x1 : Int32} {x2 : Int32} {x3 : Int32}  {h : gk_H} {K : Int32 → gk_H → Prop} (hv : (∃ fs, h[o]? = some (.inr (8, fs))) ∧ RnL E mX8_turns (dd, 0, 0) [.ref o, .int x1, .int x2, .int x3] h (fun v1 h1 => RnL E mX8_bit (dd, 0, 0) [.int x1, .int x2, .int x3] h1 (fun v2 h2 => (¬ (lg_cmp (v1 &&& (-v1)) v2) = 0 → K (nI 0) h2) ∧ ((lg_cmp (v1 &&& (-v1)) v2) = 0 → K (nI 1) h2)))) : RnI E mX8_isLeastTurn (dd + 1, 0, 0) [.ref o, .int x1, .int x2, .int x3] h K := by
  show gk_G E mX8_isLeastTurn (dd + 1, 0, 0) 0 [(0, .ref o), (1, .int x1), (2, .int x2), (3, .int x3)] [] h (fun o h1 => ∃ v, o = some (.int v) ∧ K v h1)
  refine gk_aload_n (pc := 0) (DX8_isLeastTurn_0.at 0 rfl) 0 rfl rfl ?_
  refine gk_iload_n (pc := 1) (DX8_isLeastTurn_0.at 1 rfl) 1 rfl rfl ?_
  refine gk_iload_n (pc := 2) (DX8_isLeastTurn_0.at 2 rfl) 2 rfl rfl ?_
  refine gk_iload_n (pc := 3) (DX8_isLeastTurn_0.at 3 rfl) 3 rfl rfl ?_
  obtain ⟨⟨fs1, q1⟩, hv⟩ := hv
  refine gk_vV (pc := 4) [.int x1, .int x2, .int x3] [] (DX8_isLeastTurn_0.at 4 rfl) cvX8_37 q1 rfl rfl (Nat.le_of_ble_eq_true rfl) (Nat.le_of_ble_eq_true rfl) (gk_Run.post (fun o h1 z => ?_) hv)
  obtain ⟨v1, rfl, hv⟩ := z
  refine gk_lstore (pc := 7) [(4, .long v1), (0, .ref o), (1, .int x1), (2, .int x2), (3, .int x3)] (DX8_isLeastTurn_0.at 5 rfl) (Nat.le_of_ble_eq_true rfl) rfl ?_
  refine gk_lload (pc := 9) (DX8_isLeastTurn_0.at 6 rfl) 0 rfl ?_
  refine gk_lload (pc := 11) (DX8_isLeastTurn_0.at 7 rfl) 0 rfl ?_
  refine gk_lneg (pc := 13) (DX8_isLeastTurn_0.at 8 rfl) ?_
  refine gk_land (pc := 14) (DX8_isLeastTurn_0.at 9 rfl) ?_
  refine gk_iload_n (pc := 15) (DX8_isLeastTurn_0.at 10 rfl) 2 rfl rfl ?_
  refine gk_iload_n (pc := 16) (DX8_isLeastTurn_0.at 11 rfl) 3 rfl rfl ?_
  refine gk_iload_n (pc := 17) (DX8_isLeastTurn_0.at 12 rfl) 4 rfl rfl ?_
  refine gk_vS (pc := 18) [.int x1, .int x2, .int x3] [.long (v1 &&& (-v1))] (DX8_isLeastTurn_0.at 13 rfl) csX8_33 rfl rfl (Nat.le_of_ble_eq_true rfl) (Nat.le_of_ble_eq_true rfl) (gk_Run.post (fun o h2 z => ?_) hv)
  obtain ⟨v2, rfl, hv⟩ := z
  refine gk_lcmp (pc := 21) (DX8_isLeastTurn_0.at 14 rfl) ?_
  refine gk_if_ne (pc := 22) 29 (DX8_isLeastTurn_0.at 15 rfl) (by decide) (fun c => ?_) (fun c => ?_)
  · replace hv := hv.1 c
    refine gk_iconst (pc := 29) (nI 0) (DX8_isLeastTurn_0.at 18 rfl) ci_0 ?_
    exact gk_ireturn (pc := 30) .boolean (DX8_isLeastTurn_0.at 19 rfl) rfl rfl ⟨_, rfl, hv⟩
  · replace hv := hv.2 c
    refine gk_iconst (pc := 25) (nI 1) (DX8_isLeastTurn_0.at 16 rfl) ci_1 ?_
    refine gk_goto (pc := 26) 30 (DX8_isLeastTurn_0.at 17 rfl) (by decide) ?_
    exact gk_ireturn (pc := 30) .boolean (DX8_isLeastTurn_0.at 19 rfl) rfl rfl ⟨_, rfl, hv⟩
set_option maxHeartbeats 4000000 in
theorem vX8_isUnbalanced_0 {E : gk_E} {dd : Nat} {o : Nat} {x1 : Int32} {x2 : Int32} {x3 : Int32}  {h : gk_H} {K : Int32 → gk_H → Prop} (hv : (∃ fs, h[o]? = some (.inr (8, fs))) ∧ RnI E mX8_product (dd, 0, 0) [.ref o, .int ((nI 1) <<< (x1 &&& 31)), .int ((nI 1) <<< (x2 &&& 31))] h (fun v1 h1 => (∃ fs, h1[o]? = some (.inr (8, fs))) ∧ RnI E mX8_product (dd, 0, 0) [.ref o, .int v1, .int ((nI 1) <<< (x3 &&& 31))] h1 (fun v2 h2 => (∃ fs, h2[o]? = some (.inr (8, fs))) ∧ RnI E mX8_product (dd, 0, 0) [.ref o, .int ((nI 1) <<< (x2 &&& 31)), .int ((nI 1) <<< (x3 &&& 31))] h2 (fun v3 h3 => (∃ fs, h3[o]? = some (.inr (8, fs))) ∧ RnI E mX8_product (dd, 0, 0) [.ref o, .int ((nI 1) <<< (x1 &&& 31)), .int v3] h3 (fun v4 h4 => (v2 = v4 → K (nI 0) h4) ∧ (¬ v2 = v4 → K (nI 1) h4)))))) : RnI E mX8_isUnbalanced (dd + 1, 0, 0) [.ref o, .int x1, .int x2, .int x3] h K := by
  show gk_G E mX8_isUnbalanced (dd + 1, 0, 0) 0 [(0, .ref o), (1, .int x1), (2, .int x2), (3, .int x3)] [] h (fun o h1 => ∃ v, o = some (.int v) ∧ K v h1)
  refine gk_aload_n (pc := 0) (DX8_isUnbalanced_0.at 0 rfl) 0 rfl rfl ?_
  refine gk_aload_n (pc := 1) (DX8_isUnbalanced_0.at 1 rfl) 0 rfl rfl ?_
  refine gk_iconst (pc := 2) (nI 1) (DX8_isUnbalanced_0.at 2 rfl) ci_1 ?_
  refine gk_iload_n (pc := 3) (DX8_isUnbalanced_0.at 3 rfl) 1 rfl rfl ?_
  refine gk_ishl (pc := 4) (DX8_isUnbalanced_0.at 4 rfl) ?_
  refine gk_iconst (pc := 5) (nI 1) (DX8_isUnbalanced_0.at 5 rfl) ci_1 ?_
  refine gk_iload_n (pc := 6) (DX8_isUnbalanced_0.at 6 rfl) 2 rfl rfl ?_
  refine gk_ishl (pc := 7) (DX8_isUnbalanced_0.at 7 rfl) ?_
  obtain ⟨⟨fs1, q1⟩, hv⟩ := hv
  refine gk_vV (pc := 8) [.int ((nI 1) <<< (x1 &&& 31)), .int ((nI 1) <<< (x2 &&& 31))] [.ref o] (DX8_isUnbalanced_0.at 8 rfl) cvX8_48 q1 rfl rfl (Nat.le_of_ble_eq_true rfl) (Nat.le_of_ble_eq_true rfl) (gk_Run.post (fun o h1 z => ?_) hv)
  obtain ⟨v1, rfl, hv⟩ := z
  refine gk_iconst (pc := 11) (nI 1) (DX8_isUnbalanced_0.at 9 rfl) ci_1 ?_
  refine gk_iload_n (pc := 12) (DX8_isUnbalanced_0.at 10 rfl) 3 rfl rfl ?_
  refine gk_ishl (pc := 13) (DX8_isUnbalanced_0.at 11 rfl) ?_
  obtain ⟨⟨fs2, q2⟩, hv⟩ := hv
  refine gk_vV (pc := 14) [.int v1, .int ((nI 1) <<< (x3 &&& 31))] [] (DX8_isUnbalanced_0.at 12 rfl) cvX8_48 q2 rfl rfl (Nat.le_of_ble_eq_true rfl) (Nat.le_of_ble_eq_true rfl) (gk_Run.post (fun o h2 z => ?_) hv)
  obtain ⟨v2, rfl, hv⟩ := z
  refine gk_istore (pc := 17) [(4, .int v2), (0, .ref o), (1, .int x1), (2, .int x2), (3, .int x3)] (DX8_isUnbalanced_0.at 13 rfl) (Nat.le_of_ble_eq_true rfl) rfl ?_
  refine gk_iload (pc := 19) (DX8_isUnbalanced_0.at 14 rfl) 0 rfl ?_
  refine gk_aload_n (pc := 21) (DX8_isUnbalanced_0.at 15 rfl) 1 rfl rfl ?_
  refine gk_iconst (pc := 22) (nI 1) (DX8_isUnbalanced_0.at 16 rfl) ci_1 ?_
  refine gk_iload_n (pc := 23) (DX8_isUnbalanced_0.at 17 rfl) 2 rfl rfl ?_
  refine gk_ishl (pc := 24) (DX8_isUnbalanced_0.at 18 rfl) ?_
  refine gk_aload_n (pc := 25) (DX8_isUnbalanced_0.at 19 rfl) 1 rfl rfl ?_
  refine gk_iconst (pc := 26) (nI 1) (DX8_isUnbalanced_0.at 20 rfl) ci_1 ?_
  refine gk_iload_n (pc := 27) (DX8_isUnbalanced_0.at 21 rfl) 3 rfl rfl ?_
  refine gk_ishl (pc := 28) (DX8_isUnbalanced_0.at 22 rfl) ?_
  refine gk_iconst (pc := 29) (nI 1) (DX8_isUnbalanced_0.at 23 rfl) ci_1 ?_
  refine gk_iload_n (pc := 30) (DX8_isUnbalanced_0.at 24 rfl) 4 rfl rfl ?_
  refine gk_ishl (pc := 31) (DX8_isUnbalanced_0.at 25 rfl) ?_
  obtain ⟨⟨fs3, q3⟩, hv⟩ := hv
  refine gk_vV (pc := 32) [.int ((nI 1) <<< (x2 &&& 31)), .int ((nI 1) <<< (x3 &&& 31))] [.int ((nI 1) <<< (x1 &&& 31)), .ref o, .int v2] (DX8_isUnbalanced_0.at 26 rfl) cvX8_48 q3 rfl rfl (Nat.le_of_ble_eq_true rfl) (Nat.le_of_ble_eq_true rfl) (gk_Run.post (fun o h3 z => ?_) hv)
  obtain ⟨v3, rfl, hv⟩ := z
  obtain ⟨⟨fs4, q4⟩, hv⟩ := hv
  refine gk_vV (pc := 35) [.int ((nI 1) <<< (x1 &&& 31)), .int v3] [.int v2] (DX8_isUnbalanced_0.at 27 rfl) cvX8_48 q4 rfl rfl (Nat.le_of_ble_eq_true rfl) (Nat.le_of_ble_eq_true rfl) (gk_Run.post (fun o h4 z => ?_) hv)
  obtain ⟨v4, rfl, hv⟩ := z
  refine gk_icmp_eq (pc := 38) 45 (DX8_isUnbalanced_0.at 28 rfl) (by decide) (fun c => ?_) (fun c => ?_)
  · replace hv := hv.1 c
    refine gk_iconst (pc := 45) (nI 0) (DX8_isUnbalanced_0.at 31 rfl) ci_0 ?_
    exact gk_ireturn (pc := 46) .boolean (DX8_isUnbalanced_0.at 32 rfl) rfl rfl ⟨_, rfl, hv⟩
  · replace hv := hv.2 c
    refine gk_iconst (pc := 41) (nI 1) (DX8_isUnbalanced_0.at 29 rfl) ci_1 ?_
    refine gk_goto (pc := 42) 46 (DX8_isUnbalanced_0.at 30 rfl) (by decide) ?_
    exact gk_ireturn (pc := 46) .boolean (DX8_isUnbalanced_0.at 32 rfl) rfl rfl ⟨_, rfl, hv⟩
abbrev pX8_keepFixed_7 (E : gk_E) (dd : Nat) (o : Nat) (x1 : Int32) (h : gk_H) (K : gk_H → Prop) : Prop := gk_G E mX8_keepFixed (dd + 1, 0, 0) 7 [(0, .ref o), (1, .int x1)] [] h (fun o h1 => o = none ∧ K h1)
set_option maxHeartbeats 4000000 in
theorem vX8_keepFixed_0 {E : gk_E} {dd : Nat} {o : Nat}  {h : gk_H} {K : gk_H → Prop} (hv : StL h o 8 2 (lN 0) fun h1 => pX8_keepFixed_7 E dd o (nI 0) h1 K) : RnV E mX8_keepFixed (dd + 1, 0, 0) [.ref o] h K := by
  show gk_G E mX8_keepFixed (dd + 1, 0, 0) 0 [(0, .ref o)] [] h (fun o h1 => o = none ∧ K h1)
  refine gk_aload_n (pc := 0) (DX8_keepFixed_0.at 0 rfl) 0 rfl rfl ?_
  refine gk_lconst (pc := 1) (lN 0) (DX8_keepFixed_0.at 1 rfl) rfl ?_
  obtain ⟨fs1, q1, r1, hv⟩ := hv
  refine gk_put (pc := 2) (DX8_keepFixed_0.at 2 rfl) fX8_19_8w q1 r1 rfl rfl ?_
  generalize h.set _ _ = h1 at hv ⊢
  refine gk_iconst (pc := 5) (nI 0) (DX8_keepFixed_0.at 3 rfl) ci_0 ?_
  refine gk_istore_n (pc := 6) [(1, .int (nI 0)), (0, .ref o)] (DX8_keepFixed_0.at 4 rfl) rfl (Nat.le_of_ble_eq_true rfl) rfl ?_
  exact gk_pick (pc := 7) [(0, .ref o), (1, .int (nI 0))] [1, 0] rfl hv
set_option maxHeartbeats 4000000 in
theorem vX8_keepFixed_7 {E : gk_E} {dd : Nat} {o : Nat} {x1 : Int32}  {h : gk_H} {K : gk_H → Prop} (hv : LdI h o 8 0 fun v1 => (v1 ≤ x1 → K h) ∧ (¬ v1 ≤ x1 → LdL h o 8 2 fun v2 => RnL E mX8_bit (dd, 0, 0) [.int (nI 0), .int x1, .int x1] h (fun v3 h3 => RnL E mX8_bit (dd, 0, 0) [.int x1, .int (nI 0), .int x1] h3 (fun v4 h4 => LdR h4 o 8 1 fun v5 => AlI h4 v5 x1 fun v6 => RnL E mX8_bit (dd, 0, 0) [.int x1, .int v6, .int (nI 0)] h4 (fun v7 h7 => StL h7 o 8 2 (v2 ||| ((v3 ||| v4) ||| v7)) fun h8 => pX8_keepFixed_7 E dd o (x1 + nI 1) h8 K))))) : pX8_keepFixed_7 E dd o x1 h K := by
  show gk_G E mX8_keepFixed (dd + 1, 0, 0) 7 [(0, .ref o), (1, .int x1)] [] h (fun o h1 => o = none ∧ K h1)
  refine gk_iload_n (pc := 7) (DX8_keepFixed_0.at 5 rfl) 1 rfl rfl ?_
  refine gk_aload_n (pc := 8) (DX8_keepFixed_0.at 6 rfl) 0 rfl rfl ?_
  obtain ⟨fs1, v1, q1, r1, hv⟩ := hv
  refine gk_get (pc := 9) (.int v1) (DX8_keepFixed_0.at 7 rfl) fX8_9_8 q1 r1 ?_
  refine gk_icmp_ge (pc := 12) 55 (DX8_keepFixed_0.at 8 rfl) (by decide) (fun c => ?_) (fun c => ?_)
  · replace hv := hv.1 c
    exact gk_return (pc := 55) (DX8_keepFixed_0.at 33 rfl) rfl ⟨rfl, hv⟩
  · replace hv := hv.2 c
    refine gk_aload_n (pc := 15) (DX8_keepFixed_0.at 9 rfl) 0 rfl rfl ?_
    refine gk_dup (pc := 16) (DX8_keepFixed_0.at 10 rfl) rfl ?_
    obtain ⟨fs2, v2, q2, r2, hv⟩ := hv
    refine gk_get (pc := 17) (.long v2) (DX8_keepFixed_0.at 11 rfl) fX8_19_8 q2 r2 ?_
    refine gk_iconst (pc := 20) (nI 0) (DX8_keepFixed_0.at 12 rfl) ci_0 ?_
    refine gk_iload_n (pc := 21) (DX8_keepFixed_0.at 13 rfl) 1 rfl rfl ?_
    refine gk_iload_n (pc := 22) (DX8_keepFixed_0.at 14 rfl) 1 rfl rfl ?_
    refine gk_vS (pc := 23) [.int (nI 0), .int x1, .int x1] [.long v2, .ref o] (DX8_keepFixed_0.at 15 rfl) csX8_33 rfl rfl (Nat.le_of_ble_eq_true rfl) (Nat.le_of_ble_eq_true rfl) (gk_Run.post (fun o h3 z => ?_) hv)
    obtain ⟨v3, rfl, hv⟩ := z
    refine gk_iload_n (pc := 26) (DX8_keepFixed_0.at 16 rfl) 1 rfl rfl ?_
    refine gk_iconst (pc := 27) (nI 0) (DX8_keepFixed_0.at 17 rfl) ci_0 ?_
    refine gk_iload_n (pc := 28) (DX8_keepFixed_0.at 18 rfl) 1 rfl rfl ?_
    refine gk_vS (pc := 29) [.int x1, .int (nI 0), .int x1] [.long v3, .long v2, .ref o] (DX8_keepFixed_0.at 19 rfl) csX8_33 rfl rfl (Nat.le_of_ble_eq_true rfl) (Nat.le_of_ble_eq_true rfl) (gk_Run.post (fun o h4 z => ?_) hv)
    obtain ⟨v4, rfl, hv⟩ := z
    refine gk_lor (pc := 32) (DX8_keepFixed_0.at 20 rfl) ?_
    refine gk_iload_n (pc := 33) (DX8_keepFixed_0.at 21 rfl) 1 rfl rfl ?_
    refine gk_aload_n (pc := 34) (DX8_keepFixed_0.at 22 rfl) 0 rfl rfl ?_
    obtain ⟨fs5, v5, q5, r5, hv⟩ := hv
    refine gk_get (pc := 35) (.ref v5) (DX8_keepFixed_0.at 23 rfl) fX8_15_8 q5 r5 ?_
    refine gk_iload_n (pc := 38) (DX8_keepFixed_0.at 24 rfl) 1 rfl rfl ?_
    obtain ⟨n6, f6, q6, r6, hv⟩ := hv
    refine gk_iald (pc := 39) (DX8_keepFixed_0.at 25 rfl) q6 r6 ?_
    generalize f6 _ = v6 at hv ⊢
    refine gk_iconst (pc := 40) (nI 0) (DX8_keepFixed_0.at 26 rfl) ci_0 ?_
    refine gk_vS (pc := 41) [.int x1, .int v6, .int (nI 0)] [.long (v3 ||| v4), .long v2, .ref o] (DX8_keepFixed_0.at 27 rfl) csX8_33 rfl rfl (Nat.le_of_ble_eq_true rfl) (Nat.le_of_ble_eq_true rfl) (gk_Run.post (fun o h7 z => ?_) hv)
    obtain ⟨v7, rfl, hv⟩ := z
    refine gk_lor (pc := 44) (DX8_keepFixed_0.at 28 rfl) ?_
    refine gk_lor (pc := 45) (DX8_keepFixed_0.at 29 rfl) ?_
    obtain ⟨fs8, q8, r8, hv⟩ := hv
    refine gk_put (pc := 46) (DX8_keepFixed_0.at 30 rfl) fX8_19_8w q8 r8 rfl rfl ?_
    generalize h7.set _ _ = h8 at hv ⊢
    refine gk_iinc (pc := 49) (x1 + nI 1) [(1, .int (x1 + nI 1)), (0, .ref o)] 1 (DX8_keepFixed_0.at 31 rfl) rfl (by rw [ci_1]) (Nat.le_of_ble_eq_true rfl) rfl ?_
    refine gk_goto (pc := 52) 7 (DX8_keepFixed_0.at 32 rfl) (by decide) ?_
    exact gk_pick (pc := 7) [(0, .ref o), (1, .int (x1 + nI 1))] [1, 0] rfl hv
set_option maxHeartbeats 4000000 in
theorem vX8_mark_0 {E : gk_E} {dd : Nat} {o : Nat} {x1 : Int32} {x2 : Int32} {x3 : Int32} {x4 : Int32}  {h : gk_H} {K : Int32 → gk_H → Prop} (hv : (∃ fs, h[o]? = some (.inr (8, fs))) ∧ RnL E mX8_turns (dd, 0, 0) [.ref o, .int x1, .int x2, .int x3] h (fun v1 h1 => LdL h1 o 8 2 fun v2 => (x4 = 0 → LdL h1 o 8 2 fun v3 => StL h1 o 8 2 (v3 &&& (v1 ^^^ ((-1)))) fun h4 => LdL h4 o 8 2 fun v5 => RnI E mJ13_bitCount_95d88 (dd, 0, 0) [.long (v2 ^^^ v5)] h4 (fun v6 h6 => K v6 h6)) ∧ (¬ x4 = 0 → LdL h1 o 8 2 fun v7 => StL h1 o 8 2 (v7 ||| v1) fun h8 => LdL h8 o 8 2 fun v9 => RnI E mJ13_bitCount_95d88 (dd, 0, 0) [.long (v2 ^^^ v9)] h8 (fun v10 h10 => K v10 h10)))) : RnI E mX8_mark (dd + 1, 0, 0) [.ref o, .int x1, .int x2, .int x3, .int x4] h K := by
  show gk_G E mX8_mark (dd + 1, 0, 0) 0 [(0, .ref o), (1, .int x1), (2, .int x2), (3, .int x3), (4, .int x4)] [] h (fun o h1 => ∃ v, o = some (.int v) ∧ K v h1)
  refine gk_aload_n (pc := 0) (DX8_mark_0.at 0 rfl) 0 rfl rfl ?_
  refine gk_iload_n (pc := 1) (DX8_mark_0.at 1 rfl) 1 rfl rfl ?_
  refine gk_iload_n (pc := 2) (DX8_mark_0.at 2 rfl) 2 rfl rfl ?_
  refine gk_iload_n (pc := 3) (DX8_mark_0.at 3 rfl) 3 rfl rfl ?_
  obtain ⟨⟨fs1, q1⟩, hv⟩ := hv
  refine gk_vV (pc := 4) [.int x1, .int x2, .int x3] [] (DX8_mark_0.at 4 rfl) cvX8_37 q1 rfl rfl (Nat.le_of_ble_eq_true rfl) (Nat.le_of_ble_eq_true rfl) (gk_Run.post (fun o h1 z => ?_) hv)
  obtain ⟨v1, rfl, hv⟩ := z
  refine gk_lstore (pc := 7) [(5, .long v1), (0, .ref o), (1, .int x1), (2, .int x2), (3, .int x3), (4, .int x4)] (DX8_mark_0.at 5 rfl) (Nat.le_of_ble_eq_true rfl) rfl ?_
  refine gk_aload_n (pc := 9) (DX8_mark_0.at 6 rfl) 1 rfl rfl ?_
  obtain ⟨fs2, v2, q2, r2, hv⟩ := hv
  refine gk_get (pc := 10) (.long v2) (DX8_mark_0.at 7 rfl) fX8_19_8 q2 r2 ?_
  refine gk_lstore (pc := 13) [(7, .long v2), (5, .long v1), (0, .ref o), (1, .int x1), (2, .int x2), (3, .int x3), (4, .int x4)] (DX8_mark_0.at 8 rfl) (Nat.le_of_ble_eq_true rfl) rfl ?_
  refine gk_aload_n (pc := 15) (DX8_mark_0.at 9 rfl) 2 rfl rfl ?_
  refine gk_iload (pc := 16) (DX8_mark_0.at 10 rfl) 6 rfl ?_
  refine gk_if_eq (pc := 18) 31 (DX8_mark_0.at 11 rfl) (by decide) (fun c => ?_) (fun c => ?_)
  · replace hv := hv.1 c
    refine gk_aload_n (pc := 31) (DX8_mark_0.at 17 rfl) 2 rfl rfl ?_
    obtain ⟨fs3, v3, q3, r3, hv⟩ := hv
    refine gk_get (pc := 32) (.long v3) (DX8_mark_0.at 18 rfl) fX8_19_8 q3 r3 ?_
    refine gk_lload (pc := 35) (DX8_mark_0.at 19 rfl) 1 rfl ?_
    refine gk_ldc2 (pc := 37) ((-1)) (DX8_mark_0.at 20 rfl) klX8_40 ?_
    refine gk_lxor (pc := 40) (DX8_mark_0.at 21 rfl) ?_
    refine gk_land (pc := 41) (DX8_mark_0.at 22 rfl) ?_
    obtain ⟨fs4, q4, r4, hv⟩ := hv
    refine gk_put (pc := 42) (DX8_mark_0.at 23 rfl) fX8_19_8w q4 r4 rfl rfl ?_
    generalize h1.set _ _ = h4 at hv ⊢
    refine gk_lload (pc := 45) (DX8_mark_0.at 24 rfl) 0 rfl ?_
    refine gk_aload_n (pc := 47) (DX8_mark_0.at 25 rfl) 2 rfl rfl ?_
    obtain ⟨fs5, v5, q5, r5, hv⟩ := hv
    refine gk_get (pc := 48) (.long v5) (DX8_mark_0.at 26 rfl) fX8_19_8 q5 r5 ?_
    refine gk_lxor (pc := 51) (DX8_mark_0.at 27 rfl) ?_
    refine gk_vS (pc := 52) [.long (v2 ^^^ v5)] [] (DX8_mark_0.at 28 rfl) csX8_42 rfl rfl (Nat.le_of_ble_eq_true rfl) (Nat.le_of_ble_eq_true rfl) (gk_Run.post (fun o h6 z => ?_) hv)
    obtain ⟨v6, rfl, hv⟩ := z
    exact gk_ireturn (pc := 55) .int (DX8_mark_0.at 29 rfl) rfl rfl ⟨_, rfl, hv⟩
  · replace hv := hv.2 c
    refine gk_aload_n (pc := 21) (DX8_mark_0.at 12 rfl) 2 rfl rfl ?_
    obtain ⟨fs7, v7, q7, r7, hv⟩ := hv
    refine gk_get (pc := 22) (.long v7) (DX8_mark_0.at 13 rfl) fX8_19_8 q7 r7 ?_
    refine gk_lload (pc := 25) (DX8_mark_0.at 14 rfl) 1 rfl ?_
    refine gk_lor (pc := 27) (DX8_mark_0.at 15 rfl) ?_
    refine gk_goto (pc := 28) 42 (DX8_mark_0.at 16 rfl) (by decide) ?_
    obtain ⟨fs8, q8, r8, hv⟩ := hv
    refine gk_put (pc := 42) (DX8_mark_0.at 23 rfl) fX8_19_8w q8 r8 rfl rfl ?_
    generalize h1.set _ _ = h8 at hv ⊢
    refine gk_lload (pc := 45) (DX8_mark_0.at 24 rfl) 0 rfl ?_
    refine gk_aload_n (pc := 47) (DX8_mark_0.at 25 rfl) 2 rfl rfl ?_
    obtain ⟨fs9, v9, q9, r9, hv⟩ := hv
    refine gk_get (pc := 48) (.long v9) (DX8_mark_0.at 26 rfl) fX8_19_8 q9 r9 ?_
    refine gk_lxor (pc := 51) (DX8_mark_0.at 27 rfl) ?_
    refine gk_vS (pc := 52) [.long (v2 ^^^ v9)] [] (DX8_mark_0.at 28 rfl) csX8_42 rfl rfl (Nat.le_of_ble_eq_true rfl) (Nat.le_of_ble_eq_true rfl) (gk_Run.post (fun o h10 z => ?_) hv)
    obtain ⟨v10, rfl, hv⟩ := z
    exact gk_ireturn (pc := 55) .int (DX8_mark_0.at 29 rfl) rfl rfl ⟨_, rfl, hv⟩
abbrev pX8_mirrored_4 (E : gk_E) (dd : Nat) (o : Nat) (x1 : Int32) (x2 : Int32) (x3 : Int32) (h : gk_H) (K : Int32 → gk_H → Prop) : Prop := gk_G E mX8_mirrored (dd, 0, 0) 4 [(0, .ref o), (1, .int x1), (2, .int x2), (3, .int x3)] [] h (fun o h1 => ∃ v, o = some (.int v) ∧ K v h1)
set_option maxHeartbeats 4000000 in
theorem vX8_mirrored_0 {E : gk_E} {dd : Nat} {o : Nat} {x1 : Int32}  {h : gk_H} {K : Int32 → gk_H → Prop} (hv : pX8_mirrored_4 E dd o x1 (nI 0) (nI 0) h K) : RnI E mX8_mirrored (dd, 0, 0) [.ref o, .int x1] h K := by
  show gk_G E mX8_mirrored (dd, 0, 0) 0 [(0, .ref o), (1, .int x1)] [] h (fun o h1 => ∃ v, o = some (.int v) ∧ K v h1)
  refine gk_iconst (pc := 0) (nI 0) (DX8_mirrored_0.at 0 rfl) ci_0 ?_
  refine gk_istore_n (pc := 1) [(2, .int (nI 0)), (0, .ref o), (1, .int x1)] (DX8_mirrored_0.at 1 rfl) rfl (Nat.le_of_ble_eq_true rfl) rfl ?_
  refine gk_iconst (pc := 2) (nI 0) (DX8_mirrored_0.at 2 rfl) ci_0 ?_
  refine gk_istore_n (pc := 3) [(3, .int (nI 0)), (2, .int (nI 0)), (0, .ref o), (1, .int x1)] (DX8_mirrored_0.at 3 rfl) rfl (Nat.le_of_ble_eq_true rfl) rfl ?_
  exact gk_pick (pc := 4) [(0, .ref o), (1, .int x1), (2, .int (nI 0)), (3, .int (nI 0))] [2, 3, 1, 0] rfl hv
set_option maxHeartbeats 4000000 in
theorem vX8_mirrored_4 {E : gk_E} {dd : Nat} {o : Nat} {x1 : Int32} {x2 : Int32} {x3 : Int32}  {h : gk_H} {K : Int32 → gk_H → Prop} (hv : LdI h o 8 0 fun v1 => (v1 ≤ x3 → K x2 h) ∧ (¬ v1 ≤ x3 → (¬ ((x1 >>> (x3 &&& 31)) &&& (nI 1)) = (nI 1) → pX8_mirrored_4 E dd o x1 x2 (x3 + nI 1) h K) ∧ (((x1 >>> (x3 &&& 31)) &&& (nI 1)) = (nI 1) → LdR h o 8 1 fun v2 => AlI h v2 x3 fun v3 => pX8_mirrored_4 E dd o x1 (x2 ||| ((nI 1) <<< (v3 &&& 31))) (x3 + nI 1) h K))) : pX8_mirrored_4 E dd o x1 x2 x3 h K := by
  show gk_G E mX8_mirrored (dd, 0, 0) 4 [(0, .ref o), (1, .int x1), (2, .int x2), (3, .int x3)] [] h (fun o h1 => ∃ v, o = some (.int v) ∧ K v h1)
  refine gk_iload_n (pc := 4) (DX8_mirrored_0.at 4 rfl) 3 rfl rfl ?_
  refine gk_aload_n (pc := 5) (DX8_mirrored_0.at 5 rfl) 0 rfl rfl ?_
  obtain ⟨fs1, v1, q1, r1, hv⟩ := hv
  refine gk_get (pc := 6) (.int v1) (DX8_mirrored_0.at 6 rfl) fX8_9_8 q1 r1 ?_
  refine gk_icmp_ge (pc := 9) 38 (DX8_mirrored_0.at 7 rfl) (by decide) (fun c => ?_) (fun c => ?_)
  · replace hv := hv.1 c
    refine gk_iload_n (pc := 38) (DX8_mirrored_0.at 26 rfl) 2 rfl rfl ?_
    exact gk_ireturn (pc := 39) .int (DX8_mirrored_0.at 27 rfl) rfl rfl ⟨_, rfl, hv⟩
  · replace hv := hv.2 c
    refine gk_iload_n (pc := 12) (DX8_mirrored_0.at 8 rfl) 1 rfl rfl ?_
    refine gk_iload_n (pc := 13) (DX8_mirrored_0.at 9 rfl) 3 rfl rfl ?_
    refine gk_ishr (pc := 14) (DX8_mirrored_0.at 10 rfl) ?_
    refine gk_iconst (pc := 15) (nI 1) (DX8_mirrored_0.at 11 rfl) ci_1 ?_
    refine gk_iand (pc := 16) (DX8_mirrored_0.at 12 rfl) ?_
    refine gk_iconst (pc := 17) (nI 1) (DX8_mirrored_0.at 13 rfl) ci_1 ?_
    refine gk_icmp_ne (pc := 18) 32 (DX8_mirrored_0.at 14 rfl) (by decide) (fun c => ?_) (fun c => ?_)
    · replace hv := hv.1 c
      refine gk_iinc (pc := 32) (x3 + nI 1) [(3, .int (x3 + nI 1)), (0, .ref o), (1, .int x1), (2, .int x2)] 3 (DX8_mirrored_0.at 24 rfl) rfl (by rw [ci_1]) (Nat.le_of_ble_eq_true rfl) rfl ?_
      refine gk_goto (pc := 35) 4 (DX8_mirrored_0.at 25 rfl) (by decide) ?_
      exact gk_pick (pc := 4) [(0, .ref o), (1, .int x1), (2, .int x2), (3, .int (x3 + nI 1))] [1, 2, 3, 0] rfl hv
    · replace hv := hv.2 c
      refine gk_iload_n (pc := 21) (DX8_mirrored_0.at 15 rfl) 2 rfl rfl ?_
      refine gk_iconst (pc := 22) (nI 1) (DX8_mirrored_0.at 16 rfl) ci_1 ?_
      refine gk_aload_n (pc := 23) (DX8_mirrored_0.at 17 rfl) 0 rfl rfl ?_
      obtain ⟨fs2, v2, q2, r2, hv⟩ := hv
      refine gk_get (pc := 24) (.ref v2) (DX8_mirrored_0.at 18 rfl) fX8_15_8 q2 r2 ?_
      refine gk_iload_n (pc := 27) (DX8_mirrored_0.at 19 rfl) 3 rfl rfl ?_
      obtain ⟨n3, f3, q3, r3, hv⟩ := hv
      refine gk_iald (pc := 28) (DX8_mirrored_0.at 20 rfl) q3 r3 ?_
      generalize f3 _ = v3 at hv ⊢
      refine gk_ishl (pc := 29) (DX8_mirrored_0.at 21 rfl) ?_
      refine gk_ior (pc := 30) (DX8_mirrored_0.at 22 rfl) ?_
      refine gk_istore_n (pc := 31) [(2, .int (x2 ||| ((nI 1) <<< (v3 &&& 31)))), (0, .ref o), (1, .int x1), (3, .int x3)] (DX8_mirrored_0.at 23 rfl) rfl (Nat.le_of_ble_eq_true rfl) rfl ?_
      refine gk_iinc (pc := 32) (x3 + nI 1) [(3, .int (x3 + nI 1)), (2, .int (x2 ||| ((nI 1) <<< (v3 &&& 31)))), (0, .ref o), (1, .int x1)] 3 (DX8_mirrored_0.at 24 rfl) rfl (by rw [ci_1]) (Nat.le_of_ble_eq_true rfl) rfl ?_
      refine gk_goto (pc := 35) 4 (DX8_mirrored_0.at 25 rfl) (by decide) ?_
      exact gk_pick (pc := 4) [(0, .ref o), (1, .int x1), (2, .int (x2 ||| ((nI 1) <<< (v3 &&& 31)))), (3, .int (x3 + nI 1))] [2, 3, 1, 0] rfl hv
abbrev pX8_pairsInto_4 (E : gk_E) (dd : Nat) (o : Nat) (x1 : Int32) (x2 : Int32) (x3 : Int32) (h : gk_H) (K : Int32 → gk_H → Prop) : Prop := gk_G E mX8_pairsInto (dd + 1, 0, 0) 4 [(0, .ref o), (1, .int x1), (2, .int x2), (3, .int x3)] [] h (fun o h1 => ∃ v, o = some (.int v) ∧ K v h1)
abbrev pX8_pairsInto_15 (E : gk_E) (dd : Nat) (o : Nat) (x1 : Int32) (x2 : Int32) (x3 : Int32) (x4 : Int32) (h : gk_H) (K : Int32 → gk_H → Prop) : Prop := gk_G E mX8_pairsInto (dd + 1, 0, 0) 15 [(0, .ref o), (1, .int x1), (2, .int x2), (3, .int x3), (4, .int x4)] [] h (fun o h1 => ∃ v, o = some (.int v) ∧ K v h1)
set_option maxHeartbeats 4000000 in
theorem vX8_pairsInto_0 {E : gk_E} {dd : Nat} {o : Nat} {x1 : Int32}  {h : gk_H} {K : Int32 → gk_H → Prop} (hv : pX8_pairsInto_4 E dd o x1 (nI 0) (nI 0) h K) : RnI E mX8_pairsInto (dd + 1, 0, 0) [.ref o, .int x1] h K := by
  show gk_G E mX8_pairsInto (dd + 1, 0, 0) 0 [(0, .ref o), (1, .int x1)] [] h (fun o h1 => ∃ v, o = some (.int v) ∧ K v h1)
  refine gk_iconst (pc := 0) (nI 0) (DX8_pairsInto_0.at 0 rfl) ci_0 ?_
  refine gk_istore_n (pc := 1) [(2, .int (nI 0)), (0, .ref o), (1, .int x1)] (DX8_pairsInto_0.at 1 rfl) rfl (Nat.le_of_ble_eq_true rfl) rfl ?_
  refine gk_iconst (pc := 2) (nI 0) (DX8_pairsInto_0.at 2 rfl) ci_0 ?_
  refine gk_istore_n (pc := 3) [(3, .int (nI 0)), (2, .int (nI 0)), (0, .ref o), (1, .int x1)] (DX8_pairsInto_0.at 3 rfl) rfl (Nat.le_of_ble_eq_true rfl) rfl ?_
  exact gk_pick (pc := 4) [(0, .ref o), (1, .int x1), (2, .int (nI 0)), (3, .int (nI 0))] [2, 3, 1, 0] rfl hv
set_option maxHeartbeats 4000000 in
theorem vX8_pairsInto_4 {E : gk_E} {dd : Nat} {o : Nat} {x1 : Int32} {x2 : Int32} {x3 : Int32}  {h : gk_H} {K : Int32 → gk_H → Prop} (hv : LdI h o 8 0 fun v1 => (v1 ≤ x3 → K x2 h) ∧ (¬ v1 ≤ x3 → pX8_pairsInto_15 E dd o x1 x2 x3 (nI 0) h K)) : pX8_pairsInto_4 E dd o x1 x2 x3 h K := by
  show gk_G E mX8_pairsInto (dd + 1, 0, 0) 4 [(0, .ref o), (1, .int x1), (2, .int x2), (3, .int x3)] [] h (fun o h1 => ∃ v, o = some (.int v) ∧ K v h1)
  refine gk_iload_n (pc := 4) (DX8_pairsInto_0.at 4 rfl) 3 rfl rfl ?_
  refine gk_aload_n (pc := 5) (DX8_pairsInto_0.at 5 rfl) 0 rfl rfl ?_
  obtain ⟨fs1, v1, q1, r1, hv⟩ := hv
  refine gk_get (pc := 6) (.int v1) (DX8_pairsInto_0.at 6 rfl) fX8_9_8 q1 r1 ?_
  refine gk_icmp_ge (pc := 9) 58 (DX8_pairsInto_0.at 7 rfl) (by decide) (fun c => ?_) (fun c => ?_)
  · replace hv := hv.1 c
    refine gk_iload_n (pc := 58) (DX8_pairsInto_0.at 34 rfl) 2 rfl rfl ?_
    exact gk_ireturn (pc := 59) .int (DX8_pairsInto_0.at 35 rfl) rfl rfl ⟨_, rfl, hv⟩
  · replace hv := hv.2 c
    refine gk_iconst (pc := 12) (nI 0) (DX8_pairsInto_0.at 8 rfl) ci_0 ?_
    refine gk_istore (pc := 13) [(4, .int (nI 0)), (0, .ref o), (1, .int x1), (2, .int x2), (3, .int x3)] (DX8_pairsInto_0.at 9 rfl) (Nat.le_of_ble_eq_true rfl) rfl ?_
    exact gk_pick (pc := 15) [(0, .ref o), (1, .int x1), (2, .int x2), (3, .int x3), (4, .int (nI 0))] [1, 2, 3, 4, 0] rfl hv
set_option maxHeartbeats 4000000 in
theorem vX8_pairsInto_15 {E : gk_E} {dd : Nat} {o : Nat} {x1 : Int32} {x2 : Int32} {x3 : Int32} {x4 : Int32}  {h : gk_H} {K : Int32 → gk_H → Prop} (hv : LdI h o 8 0 fun v1 => (v1 ≤ x4 → pX8_pairsInto_4 E dd o x1 x2 (x3 + nI 1) h K) ∧ (¬ v1 ≤ x4 → (∃ fs, h[o]? = some (.inr (8, fs))) ∧ RnI E mX8_has (dd, 0, 0) [.ref o, .int x3, .int x4, .int x1] h (fun v2 h2 => (v2 = 0 → pX8_pairsInto_15 E dd o x1 x2 x3 (x4 + nI 1) h2 K) ∧ (¬ v2 = 0 → pX8_pairsInto_15 E dd o x1 (x2 ||| ((nI 1) <<< ((((nI 4) * x3) + x4) &&& 31))) x3 (x4 + nI 1) h2 K)))) : pX8_pairsInto_15 E dd o x1 x2 x3 x4 h K := by
  show gk_G E mX8_pairsInto (dd + 1, 0, 0) 15 [(0, .ref o), (1, .int x1), (2, .int x2), (3, .int x3), (4, .int x4)] [] h (fun o h1 => ∃ v, o = some (.int v) ∧ K v h1)
  refine gk_iload (pc := 15) (DX8_pairsInto_0.at 10 rfl) 4 rfl ?_
  refine gk_aload_n (pc := 17) (DX8_pairsInto_0.at 11 rfl) 0 rfl rfl ?_
  obtain ⟨fs1, v1, q1, r1, hv⟩ := hv
  refine gk_get (pc := 18) (.int v1) (DX8_pairsInto_0.at 12 rfl) fX8_9_8 q1 r1 ?_
  refine gk_icmp_ge (pc := 21) 52 (DX8_pairsInto_0.at 13 rfl) (by decide) (fun c => ?_) (fun c => ?_)
  · replace hv := hv.1 c
    refine gk_iinc (pc := 52) (x3 + nI 1) [(3, .int (x3 + nI 1)), (0, .ref o), (1, .int x1), (2, .int x2), (4, .int x4)] 3 (DX8_pairsInto_0.at 32 rfl) rfl (by rw [ci_1]) (Nat.le_of_ble_eq_true rfl) rfl ?_
    refine gk_goto (pc := 55) 4 (DX8_pairsInto_0.at 33 rfl) (by decide) ?_
    exact gk_pick (pc := 4) [(0, .ref o), (1, .int x1), (2, .int x2), (3, .int (x3 + nI 1))] [1, 2, 3, 0] rfl hv
  · replace hv := hv.2 c
    refine gk_aload_n (pc := 24) (DX8_pairsInto_0.at 14 rfl) 0 rfl rfl ?_
    refine gk_iload_n (pc := 25) (DX8_pairsInto_0.at 15 rfl) 3 rfl rfl ?_
    refine gk_iload (pc := 26) (DX8_pairsInto_0.at 16 rfl) 4 rfl ?_
    refine gk_iload_n (pc := 28) (DX8_pairsInto_0.at 17 rfl) 1 rfl rfl ?_
    obtain ⟨⟨fs2, q2⟩, hv⟩ := hv
    refine gk_vV (pc := 29) [.int x3, .int x4, .int x1] [] (DX8_pairsInto_0.at 18 rfl) cvX8_71 q2 rfl rfl (Nat.le_of_ble_eq_true rfl) (Nat.le_of_ble_eq_true rfl) (gk_Run.post (fun o h2 z => ?_) hv)
    obtain ⟨v2, rfl, hv⟩ := z
    refine gk_if_eq (pc := 32) 46 (DX8_pairsInto_0.at 19 rfl) (by decide) (fun c => ?_) (fun c => ?_)
    · replace hv := hv.1 c
      refine gk_iinc (pc := 46) (x4 + nI 1) [(4, .int (x4 + nI 1)), (0, .ref o), (1, .int x1), (2, .int x2), (3, .int x3)] 4 (DX8_pairsInto_0.at 30 rfl) rfl (by rw [ci_1]) (Nat.le_of_ble_eq_true rfl) rfl ?_
      refine gk_goto (pc := 49) 15 (DX8_pairsInto_0.at 31 rfl) (by decide) ?_
      exact gk_pick (pc := 15) [(0, .ref o), (1, .int x1), (2, .int x2), (3, .int x3), (4, .int (x4 + nI 1))] [1, 2, 3, 4, 0] rfl hv
    · replace hv := hv.2 c
      refine gk_iload_n (pc := 35) (DX8_pairsInto_0.at 20 rfl) 2 rfl rfl ?_
      refine gk_iconst (pc := 36) (nI 1) (DX8_pairsInto_0.at 21 rfl) ci_1 ?_
      refine gk_iconst (pc := 37) (nI 4) (DX8_pairsInto_0.at 22 rfl) ci_4 ?_
      refine gk_iload_n (pc := 38) (DX8_pairsInto_0.at 23 rfl) 3 rfl rfl ?_
      refine gk_imul (pc := 39) (DX8_pairsInto_0.at 24 rfl) ?_
      refine gk_iload (pc := 40) (DX8_pairsInto_0.at 25 rfl) 4 rfl ?_
      refine gk_iadd (pc := 42) (DX8_pairsInto_0.at 26 rfl) ?_
      refine gk_ishl (pc := 43) (DX8_pairsInto_0.at 27 rfl) ?_
      refine gk_ior (pc := 44) (DX8_pairsInto_0.at 28 rfl) ?_
      refine gk_istore_n (pc := 45) [(2, .int (x2 ||| ((nI 1) <<< ((((nI 4) * x3) + x4) &&& 31)))), (0, .ref o), (1, .int x1), (3, .int x3), (4, .int x4)] (DX8_pairsInto_0.at 29 rfl) rfl (Nat.le_of_ble_eq_true rfl) rfl ?_
      refine gk_iinc (pc := 46) (x4 + nI 1) [(4, .int (x4 + nI 1)), (2, .int (x2 ||| ((nI 1) <<< ((((nI 4) * x3) + x4) &&& 31)))), (0, .ref o), (1, .int x1), (3, .int x3)] 4 (DX8_pairsInto_0.at 30 rfl) rfl (by rw [ci_1]) (Nat.le_of_ble_eq_true rfl) rfl ?_
      refine gk_goto (pc := 49) 15 (DX8_pairsInto_0.at 31 rfl) (by decide) ?_
      exact gk_pick (pc := 15) [(0, .ref o), (1, .int x1), (2, .int (x2 ||| ((nI 1) <<< ((((nI 4) * x3) + x4) &&& 31)))), (3, .int x3), (4, .int (x4 + nI 1))] [2, 3, 1, 4, 0] rfl hv
abbrev pX8_powers_8 (E : gk_E) (dd : Nat) (o : Nat) (x1 : Int32) (x2 : Int32) (x3 : Int32) (x4 : Int32) (x5 : Int32) (h : gk_H) (K : Int32 → gk_H → Prop) : Prop := gk_G E mX8_powers (dd + 1, 0, 0) 8 [(0, .ref o), (1, .int x1), (2, .int x2), (3, .int x3), (4, .int x4), (5, .int x5)] [] h (fun o h1 => ∃ v, o = some (.int v) ∧ K v h1)
abbrev pX8_powers_54 (E : gk_E) (dd : Nat) (o : Nat) (x1 : Int32) (x2 : Int32) (x3 : Int32) (x4 : Int32) (x5 : Int32) (x6 : Int32) (x7 : Int32) (h : gk_H) (K : Int32 → gk_H → Prop) : Prop := gk_G E mX8_powers (dd + 1, 0, 0) 54 [(0, .ref o), (1, .int x1), (2, .int x2), (3, .int x3), (4, .int x4), (5, .int x5), (6, .int x6), (7, .int x7)] [] h (fun o h1 => ∃ v, o = some (.int v) ∧ K v h1)
set_option maxHeartbeats 4000000 in
theorem vX8_powers_0 {E : gk_E} {dd : Nat} {o : Nat} {x1 : Int32} {x2 : Int32}  {h : gk_H} {K : Int32 → gk_H → Prop} (hv : pX8_powers_8 E dd o x1 x2 (nI 0) x1 (nI 0) h K) : RnI E mX8_powers (dd + 1, 0, 0) [.ref o, .int x1, .int x2] h K := by
  show gk_G E mX8_powers (dd + 1, 0, 0) 0 [(0, .ref o), (1, .int x1), (2, .int x2)] [] h (fun o h1 => ∃ v, o = some (.int v) ∧ K v h1)
  refine gk_iconst (pc := 0) (nI 0) (DX8_powers_0.at 0 rfl) ci_0 ?_
  refine gk_istore_n (pc := 1) [(3, .int (nI 0)), (0, .ref o), (1, .int x1), (2, .int x2)] (DX8_powers_0.at 1 rfl) rfl (Nat.le_of_ble_eq_true rfl) rfl ?_
  refine gk_iload_n (pc := 2) (DX8_powers_0.at 2 rfl) 2 rfl rfl ?_
  refine gk_istore (pc := 3) [(4, .int x1), (3, .int (nI 0)), (0, .ref o), (1, .int x1), (2, .int x2)] (DX8_powers_0.at 3 rfl) (Nat.le_of_ble_eq_true rfl) rfl ?_
  refine gk_iconst (pc := 5) (nI 0) (DX8_powers_0.at 4 rfl) ci_0 ?_
  refine gk_istore (pc := 6) [(5, .int (nI 0)), (4, .int x1), (3, .int (nI 0)), (0, .ref o), (1, .int x1), (2, .int x2)] (DX8_powers_0.at 5 rfl) (Nat.le_of_ble_eq_true rfl) rfl ?_
  exact gk_pick (pc := 8) [(0, .ref o), (1, .int x1), (2, .int x2), (3, .int (nI 0)), (4, .int x1), (5, .int (nI 0))] [3, 4, 5, 2, 1, 0] rfl hv
set_option maxHeartbeats 4000000 in
theorem vX8_powers_8 {E : gk_E} {dd : Nat} {o : Nat} {x1 : Int32} {x2 : Int32} {x3 : Int32} {x4 : Int32} {x5 : Int32}  {h : gk_H} {K : Int32 → gk_H → Prop} (hv : (∃ fs, h[o]? = some (.inr (8, fs))) ∧ RnI E mX8_relations (dd, 0, 0) [.ref o] h (fun v1 h1 => (v1 ≤ x5 → pX8_powers_54 E dd o x1 x2 x3 x4 x5 (nI 0) x1 h1 K) ∧ (¬ v1 ≤ x5 → (¬ ((x3 >>> (x4 &&& 31)) &&& (nI 1)) = 0 → pX8_powers_54 E dd o x1 x2 x3 x4 x5 (nI 0) x1 h1 K) ∧ (((x3 >>> (x4 &&& 31)) &&& (nI 1)) = 0 → (∃ fs, h1[o]? = some (.inr (8, fs))) ∧ RnI E mX8_product (dd, 0, 0) [.ref o, .int x4, .int x1] h1 (fun v2 h2 => pX8_powers_8 E dd o x1 x2 (x3 ||| ((nI 1) <<< (x4 &&& 31))) v2 (x5 + nI 1) h2 K))))) : pX8_powers_8 E dd o x1 x2 x3 x4 x5 h K := by
  show gk_G E mX8_powers (dd + 1, 0, 0) 8 [(0, .ref o), (1, .int x1), (2, .int x2), (3, .int x3), (4, .int x4), (5, .int x5)] [] h (fun o h1 => ∃ v, o = some (.int v) ∧ K v h1)
  refine gk_iload (pc := 8) (DX8_powers_0.at 6 rfl) 5 rfl ?_
  refine gk_aload_n (pc := 10) (DX8_powers_0.at 7 rfl) 0 rfl rfl ?_
  obtain ⟨⟨fs1, q1⟩, hv⟩ := hv
  refine gk_vV (pc := 11) [] [.int x5] (DX8_powers_0.at 8 rfl) cvX8_56 q1 rfl rfl (Nat.le_of_ble_eq_true rfl) (Nat.le_of_ble_eq_true rfl) (gk_Run.post (fun o h1 z => ?_) hv)
  obtain ⟨v1, rfl, hv⟩ := z
  refine gk_icmp_ge (pc := 14) 48 (DX8_powers_0.at 9 rfl) (by decide) (fun c => ?_) (fun c => ?_)
  · replace hv := hv.1 c
    refine gk_iconst (pc := 48) (nI 0) (DX8_powers_0.at 29 rfl) ci_0 ?_
    refine gk_istore (pc := 49) [(6, .int (nI 0)), (0, .ref o), (1, .int x1), (2, .int x2), (3, .int x3), (4, .int x4), (5, .int x5)] (DX8_powers_0.at 30 rfl) (Nat.le_of_ble_eq_true rfl) rfl ?_
    refine gk_iload_n (pc := 51) (DX8_powers_0.at 31 rfl) 2 rfl rfl ?_
    refine gk_istore (pc := 52) [(7, .int x1), (6, .int (nI 0)), (0, .ref o), (1, .int x1), (2, .int x2), (3, .int x3), (4, .int x4), (5, .int x5)] (DX8_powers_0.at 32 rfl) (Nat.le_of_ble_eq_true rfl) rfl ?_
    exact gk_pick (pc := 54) [(0, .ref o), (1, .int x1), (2, .int x2), (3, .int x3), (4, .int x4), (5, .int x5), (6, .int (nI 0)), (7, .int x1)] [2, 3, 4, 5, 6, 7, 1, 0] rfl hv
  · replace hv := hv.2 c
    refine gk_iload_n (pc := 17) (DX8_powers_0.at 10 rfl) 3 rfl rfl ?_
    refine gk_iload (pc := 18) (DX8_powers_0.at 11 rfl) 4 rfl ?_
    refine gk_ishr (pc := 20) (DX8_powers_0.at 12 rfl) ?_
    refine gk_iconst (pc := 21) (nI 1) (DX8_powers_0.at 13 rfl) ci_1 ?_
    refine gk_iand (pc := 22) (DX8_powers_0.at 14 rfl) ?_
    refine gk_if_ne (pc := 23) 48 (DX8_powers_0.at 15 rfl) (by decide) (fun c => ?_) (fun c => ?_)
    · replace hv := hv.1 c
      refine gk_iconst (pc := 48) (nI 0) (DX8_powers_0.at 29 rfl) ci_0 ?_
      refine gk_istore (pc := 49) [(6, .int (nI 0)), (0, .ref o), (1, .int x1), (2, .int x2), (3, .int x3), (4, .int x4), (5, .int x5)] (DX8_powers_0.at 30 rfl) (Nat.le_of_ble_eq_true rfl) rfl ?_
      refine gk_iload_n (pc := 51) (DX8_powers_0.at 31 rfl) 2 rfl rfl ?_
      refine gk_istore (pc := 52) [(7, .int x1), (6, .int (nI 0)), (0, .ref o), (1, .int x1), (2, .int x2), (3, .int x3), (4, .int x4), (5, .int x5)] (DX8_powers_0.at 32 rfl) (Nat.le_of_ble_eq_true rfl) rfl ?_
      exact gk_pick (pc := 54) [(0, .ref o), (1, .int x1), (2, .int x2), (3, .int x3), (4, .int x4), (5, .int x5), (6, .int (nI 0)), (7, .int x1)] [2, 3, 4, 5, 6, 7, 1, 0] rfl hv
    · replace hv := hv.2 c
      refine gk_iload_n (pc := 26) (DX8_powers_0.at 16 rfl) 3 rfl rfl ?_
      refine gk_iconst (pc := 27) (nI 1) (DX8_powers_0.at 17 rfl) ci_1 ?_
      refine gk_iload (pc := 28) (DX8_powers_0.at 18 rfl) 4 rfl ?_
      refine gk_ishl (pc := 30) (DX8_powers_0.at 19 rfl) ?_
      refine gk_ior (pc := 31) (DX8_powers_0.at 20 rfl) ?_
      refine gk_istore_n (pc := 32) [(3, .int (x3 ||| ((nI 1) <<< (x4 &&& 31)))), (0, .ref o), (1, .int x1), (2, .int x2), (4, .int x4), (5, .int x5)] (DX8_powers_0.at 21 rfl) rfl (Nat.le_of_ble_eq_true rfl) rfl ?_
      refine gk_aload_n (pc := 33) (DX8_powers_0.at 22 rfl) 1 rfl rfl ?_
      refine gk_iload (pc := 34) (DX8_powers_0.at 23 rfl) 4 rfl ?_
      refine gk_iload_n (pc := 36) (DX8_powers_0.at 24 rfl) 2 rfl rfl ?_
      obtain ⟨⟨fs2, q2⟩, hv⟩ := hv
      refine gk_vV (pc := 37) [.int x4, .int x1] [] (DX8_powers_0.at 25 rfl) cvX8_48 q2 rfl rfl (Nat.le_of_ble_eq_true rfl) (Nat.le_of_ble_eq_true rfl) (gk_Run.post (fun o h2 z => ?_) hv)
      obtain ⟨v2, rfl, hv⟩ := z
      refine gk_istore (pc := 40) [(4, .int v2), (3, .int (x3 ||| ((nI 1) <<< (x4 &&& 31)))), (0, .ref o), (1, .int x1), (2, .int x2), (5, .int x5)] (DX8_powers_0.at 26 rfl) (Nat.le_of_ble_eq_true rfl) rfl ?_
      refine gk_iinc (pc := 42) (x5 + nI 1) [(5, .int (x5 + nI 1)), (4, .int v2), (3, .int (x3 ||| ((nI 1) <<< (x4 &&& 31)))), (0, .ref o), (1, .int x1), (2, .int x2)] 5 (DX8_powers_0.at 27 rfl) rfl (by rw [ci_1]) (Nat.le_of_ble_eq_true rfl) rfl ?_
      refine gk_goto (pc := 45) 8 (DX8_powers_0.at 28 rfl) (by decide) ?_
      exact gk_pick (pc := 8) [(0, .ref o), (1, .int x1), (2, .int x2), (3, .int (x3 ||| ((nI 1) <<< (x4 &&& 31)))), (4, .int v2), (5, .int (x5 + nI 1))] [3, 4, 5, 2, 1, 0] rfl hv
set_option maxHeartbeats 4000000 in
theorem vX8_powers_54 {E : gk_E} {dd : Nat} {o : Nat} {x1 : Int32} {x2 : Int32} {x3 : Int32} {x4 : Int32} {x5 : Int32} {x6 : Int32} {x7 : Int32}  {h : gk_H} {K : Int32 → gk_H → Prop} (hv : (x5 ≤ x6 → (x2 = 0 → K (x5 - x6) h) ∧ (¬ x2 = 0 → K x6 h)) ∧ (¬ x5 ≤ x6 → (x7 = x4 → (x2 = 0 → K (x5 - x6) h) ∧ (¬ x2 = 0 → K x6 h)) ∧ (¬ x7 = x4 → (∃ fs, h[o]? = some (.inr (8, fs))) ∧ RnI E mX8_product (dd, 0, 0) [.ref o, .int x7, .int x1] h (fun v1 h1 => pX8_powers_54 E dd o x1 x2 x3 x4 x5 (x6 + nI 1) v1 h1 K)))) : pX8_powers_54 E dd o x1 x2 x3 x4 x5 x6 x7 h K := by
  show gk_G E mX8_powers (dd + 1, 0, 0) 54 [(0, .ref o), (1, .int x1), (2, .int x2), (3, .int x3), (4, .int x4), (5, .int x5), (6, .int x6), (7, .int x7)] [] h (fun o h1 => ∃ v, o = some (.int v) ∧ K v h1)
  refine gk_iload (pc := 54) (DX8_powers_0.at 33 rfl) 6 rfl ?_
  refine gk_iload (pc := 56) (DX8_powers_0.at 34 rfl) 5 rfl ?_
  refine gk_icmp_ge (pc := 58) 83 (DX8_powers_0.at 35 rfl) (by decide) (fun c => ?_) (fun c => ?_)
  · replace hv := hv.1 c
    refine gk_iload_n (pc := 83) (DX8_powers_0.at 46 rfl) 2 rfl rfl ?_
    refine gk_if_eq (pc := 84) 92 (DX8_powers_0.at 47 rfl) (by decide) (fun c => ?_) (fun c => ?_)
    · replace hv := hv.1 c
      refine gk_iload (pc := 92) (DX8_powers_0.at 50 rfl) 5 rfl ?_
      refine gk_iload (pc := 94) (DX8_powers_0.at 51 rfl) 6 rfl ?_
      refine gk_isub (pc := 96) (DX8_powers_0.at 52 rfl) ?_
      exact gk_ireturn (pc := 97) .int (DX8_powers_0.at 53 rfl) rfl rfl ⟨_, rfl, hv⟩
    · replace hv := hv.2 c
      refine gk_iload (pc := 87) (DX8_powers_0.at 48 rfl) 6 rfl ?_
      refine gk_goto (pc := 89) 97 (DX8_powers_0.at 49 rfl) (by decide) ?_
      exact gk_ireturn (pc := 97) .int (DX8_powers_0.at 53 rfl) rfl rfl ⟨_, rfl, hv⟩
  · replace hv := hv.2 c
    refine gk_iload (pc := 61) (DX8_powers_0.at 36 rfl) 7 rfl ?_
    refine gk_iload (pc := 63) (DX8_powers_0.at 37 rfl) 4 rfl ?_
    refine gk_icmp_eq (pc := 65) 83 (DX8_powers_0.at 38 rfl) (by decide) (fun c => ?_) (fun c => ?_)
    · replace hv := hv.1 c
      refine gk_iload_n (pc := 83) (DX8_powers_0.at 46 rfl) 2 rfl rfl ?_
      refine gk_if_eq (pc := 84) 92 (DX8_powers_0.at 47 rfl) (by decide) (fun c => ?_) (fun c => ?_)
      · replace hv := hv.1 c
        refine gk_iload (pc := 92) (DX8_powers_0.at 50 rfl) 5 rfl ?_
        refine gk_iload (pc := 94) (DX8_powers_0.at 51 rfl) 6 rfl ?_
        refine gk_isub (pc := 96) (DX8_powers_0.at 52 rfl) ?_
        exact gk_ireturn (pc := 97) .int (DX8_powers_0.at 53 rfl) rfl rfl ⟨_, rfl, hv⟩
      · replace hv := hv.2 c
        refine gk_iload (pc := 87) (DX8_powers_0.at 48 rfl) 6 rfl ?_
        refine gk_goto (pc := 89) 97 (DX8_powers_0.at 49 rfl) (by decide) ?_
        exact gk_ireturn (pc := 97) .int (DX8_powers_0.at 53 rfl) rfl rfl ⟨_, rfl, hv⟩
    · replace hv := hv.2 c
      refine gk_aload_n (pc := 68) (DX8_powers_0.at 39 rfl) 0 rfl rfl ?_
      refine gk_iload (pc := 69) (DX8_powers_0.at 40 rfl) 7 rfl ?_
      refine gk_iload_n (pc := 71) (DX8_powers_0.at 41 rfl) 1 rfl rfl ?_
      obtain ⟨⟨fs1, q1⟩, hv⟩ := hv
      refine gk_vV (pc := 72) [.int x7, .int x1] [] (DX8_powers_0.at 42 rfl) cvX8_48 q1 rfl rfl (Nat.le_of_ble_eq_true rfl) (Nat.le_of_ble_eq_true rfl) (gk_Run.post (fun o h1 z => ?_) hv)
      obtain ⟨v1, rfl, hv⟩ := z
      refine gk_istore (pc := 75) [(7, .int v1), (0, .ref o), (1, .int x1), (2, .int x2), (3, .int x3), (4, .int x4), (5, .int x5), (6, .int x6)] (DX8_powers_0.at 43 rfl) (Nat.le_of_ble_eq_true rfl) rfl ?_
      refine gk_iinc (pc := 77) (x6 + nI 1) [(6, .int (x6 + nI 1)), (7, .int v1), (0, .ref o), (1, .int x1), (2, .int x2), (3, .int x3), (4, .int x4), (5, .int x5)] 7 (DX8_powers_0.at 44 rfl) rfl (by rw [ci_1]) (Nat.le_of_ble_eq_true rfl) rfl ?_
      refine gk_goto (pc := 80) 54 (DX8_powers_0.at 45 rfl) (by decide) ?_
      exact gk_pick (pc := 54) [(0, .ref o), (1, .int x1), (2, .int x2), (3, .int x3), (4, .int x4), (5, .int x5), (6, .int (x6 + nI 1)), (7, .int v1)] [2, 3, 4, 5, 6, 7, 0, 1] rfl hv
abbrev pX8_product_5 (E : gk_E) (dd : Nat) (o : Nat) (x1 : Int32) (x2 : Int32) (x3 : Int32) (x4 : Int32) (h : gk_H) (K : Int32 → gk_H → Prop) : Prop := gk_G E mX8_product (dd, 0, 0) 5 [(0, .ref o), (1, .int x1), (2, .int x2), (3, .int x3), (4, .int x4)] [] h (fun o h1 => ∃ v, o = some (.int v) ∧ K v h1)
abbrev pX8_product_17 (E : gk_E) (dd : Nat) (o : Nat) (x1 : Int32) (x2 : Int32) (x3 : Int32) (x4 : Int32) (x5 : Int32) (h : gk_H) (K : Int32 → gk_H → Prop) : Prop := gk_G E mX8_product (dd, 0, 0) 17 [(0, .ref o), (1, .int x1), (2, .int x2), (3, .int x3), (4, .int x4), (5, .int x5)] [] h (fun o h1 => ∃ v, o = some (.int v) ∧ K v h1)
set_option maxHeartbeats 4000000 in
theorem vX8_product_0 {E : gk_E} {dd : Nat} {o : Nat} {x1 : Int32} {x2 : Int32}  {h : gk_H} {K : Int32 → gk_H → Prop} (hv : pX8_product_5 E dd o x1 x2 (nI 0) (nI 0) h K) : RnI E mX8_product (dd, 0, 0) [.ref o, .int x1, .int x2] h K := by
  show gk_G E mX8_product (dd, 0, 0) 0 [(0, .ref o), (1, .int x1), (2, .int x2)] [] h (fun o h1 => ∃ v, o = some (.int v) ∧ K v h1)
  refine gk_iconst (pc := 0) (nI 0) (DX8_product_0.at 0 rfl) ci_0 ?_
  refine gk_istore_n (pc := 1) [(3, .int (nI 0)), (0, .ref o), (1, .int x1), (2, .int x2)] (DX8_product_0.at 1 rfl) rfl (Nat.le_of_ble_eq_true rfl) rfl ?_
  refine gk_iconst (pc := 2) (nI 0) (DX8_product_0.at 2 rfl) ci_0 ?_
  refine gk_istore (pc := 3) [(4, .int (nI 0)), (3, .int (nI 0)), (0, .ref o), (1, .int x1), (2, .int x2)] (DX8_product_0.at 3 rfl) (Nat.le_of_ble_eq_true rfl) rfl ?_
  exact gk_pick (pc := 5) [(0, .ref o), (1, .int x1), (2, .int x2), (3, .int (nI 0)), (4, .int (nI 0))] [2, 3, 4, 1, 0] rfl hv
set_option maxHeartbeats 4000000 in
theorem vX8_product_5 {E : gk_E} {dd : Nat} {o : Nat} {x1 : Int32} {x2 : Int32} {x3 : Int32} {x4 : Int32}  {h : gk_H} {K : Int32 → gk_H → Prop} (hv : LdI h o 8 0 fun v1 => (v1 ≤ x4 → K x3 h) ∧ (¬ v1 ≤ x4 → pX8_product_17 E dd o x1 x2 x3 x4 (nI 0) h K)) : pX8_product_5 E dd o x1 x2 x3 x4 h K := by
  show gk_G E mX8_product (dd, 0, 0) 5 [(0, .ref o), (1, .int x1), (2, .int x2), (3, .int x3), (4, .int x4)] [] h (fun o h1 => ∃ v, o = some (.int v) ∧ K v h1)
  refine gk_iload (pc := 5) (DX8_product_0.at 4 rfl) 4 rfl ?_
  refine gk_aload_n (pc := 7) (DX8_product_0.at 5 rfl) 0 rfl rfl ?_
  obtain ⟨fs1, v1, q1, r1, hv⟩ := hv
  refine gk_get (pc := 8) (.int v1) (DX8_product_0.at 6 rfl) fX8_9_8 q1 r1 ?_
  refine gk_icmp_ge (pc := 11) 80 (DX8_product_0.at 7 rfl) (by decide) (fun c => ?_) (fun c => ?_)
  · replace hv := hv.1 c
    refine gk_iload_n (pc := 80) (DX8_product_0.at 48 rfl) 3 rfl rfl ?_
    exact gk_ireturn (pc := 81) .int (DX8_product_0.at 49 rfl) rfl rfl ⟨_, rfl, hv⟩
  · replace hv := hv.2 c
    refine gk_iconst (pc := 14) (nI 0) (DX8_product_0.at 8 rfl) ci_0 ?_
    refine gk_istore (pc := 15) [(5, .int (nI 0)), (0, .ref o), (1, .int x1), (2, .int x2), (3, .int x3), (4, .int x4)] (DX8_product_0.at 9 rfl) (Nat.le_of_ble_eq_true rfl) rfl ?_
    exact gk_pick (pc := 17) [(0, .ref o), (1, .int x1), (2, .int x2), (3, .int x3), (4, .int x4), (5, .int (nI 0))] [1, 2, 3, 4, 5, 0] rfl hv
set_option maxHeartbeats 4000000 in
theorem vX8_product_17 {E : gk_E} {dd : Nat} {o : Nat} {x1 : Int32} {x2 : Int32} {x3 : Int32} {x4 : Int32} {x5 : Int32}  {h : gk_H} {K : Int32 → gk_H → Prop} (hv : LdI h o 8 0 fun v1 => (v1 ≤ x5 → pX8_product_5 E dd o x1 x2 x3 (x4 + nI 1) h K) ∧ (¬ v1 ≤ x5 → (¬ ((x1 >>> (x4 &&& 31)) &&& (nI 1)) = (nI 1) → pX8_product_17 E dd o x1 x2 x3 x4 (x5 + nI 1) h K) ∧ (((x1 >>> (x4 &&& 31)) &&& (nI 1)) = (nI 1) → (¬ ((x2 >>> (x5 &&& 31)) &&& (nI 1)) = (nI 1) → pX8_product_17 E dd o x1 x2 x3 x4 (x5 + nI 1) h K) ∧ (((x2 >>> (x5 &&& 31)) &&& (nI 1)) = (nI 1) → LdL h o 8 2 fun v2 => ∀ w3, w3 = x3 ||| ((((v2.toUInt64 >>> ((((nI 16) * x4) + ((nI 4) * x5)).toInt64.toUInt64 &&& Int64.toUInt64 63)).toInt64).toInt32) &&& (nI 15)) → pX8_product_17 E dd o x1 x2 w3 x4 (x5 + nI 1) h K)))) : pX8_product_17 E dd o x1 x2 x3 x4 x5 h K := by
  show gk_G E mX8_product (dd, 0, 0) 17 [(0, .ref o), (1, .int x1), (2, .int x2), (3, .int x3), (4, .int x4), (5, .int x5)] [] h (fun o h1 => ∃ v, o = some (.int v) ∧ K v h1)
  refine gk_iload (pc := 17) (DX8_product_0.at 10 rfl) 5 rfl ?_
  refine gk_aload_n (pc := 19) (DX8_product_0.at 11 rfl) 0 rfl rfl ?_
  obtain ⟨fs1, v1, q1, r1, hv⟩ := hv
  refine gk_get (pc := 20) (.int v1) (DX8_product_0.at 12 rfl) fX8_9_8 q1 r1 ?_
  refine gk_icmp_ge (pc := 23) 74 (DX8_product_0.at 13 rfl) (by decide) (fun c => ?_) (fun c => ?_)
  · replace hv := hv.1 c
    refine gk_iinc (pc := 74) (x4 + nI 1) [(4, .int (x4 + nI 1)), (0, .ref o), (1, .int x1), (2, .int x2), (3, .int x3), (5, .int x5)] 4 (DX8_product_0.at 46 rfl) rfl (by rw [ci_1]) (Nat.le_of_ble_eq_true rfl) rfl ?_
    refine gk_goto (pc := 77) 5 (DX8_product_0.at 47 rfl) (by decide) ?_
    exact gk_pick (pc := 5) [(0, .ref o), (1, .int x1), (2, .int x2), (3, .int x3), (4, .int (x4 + nI 1))] [1, 2, 3, 4, 0] rfl hv
  · replace hv := hv.2 c
    refine gk_iload_n (pc := 26) (DX8_product_0.at 14 rfl) 1 rfl rfl ?_
    refine gk_iload (pc := 27) (DX8_product_0.at 15 rfl) 4 rfl ?_
    refine gk_ishr (pc := 29) (DX8_product_0.at 16 rfl) ?_
    refine gk_iconst (pc := 30) (nI 1) (DX8_product_0.at 17 rfl) ci_1 ?_
    refine gk_iand (pc := 31) (DX8_product_0.at 18 rfl) ?_
    refine gk_iconst (pc := 32) (nI 1) (DX8_product_0.at 19 rfl) ci_1 ?_
    refine gk_icmp_ne (pc := 33) 68 (DX8_product_0.at 20 rfl) (by decide) (fun c => ?_) (fun c => ?_)
    · replace hv := hv.1 c
      refine gk_iinc (pc := 68) (x5 + nI 1) [(5, .int (x5 + nI 1)), (0, .ref o), (1, .int x1), (2, .int x2), (3, .int x3), (4, .int x4)] 5 (DX8_product_0.at 44 rfl) rfl (by rw [ci_1]) (Nat.le_of_ble_eq_true rfl) rfl ?_
      refine gk_goto (pc := 71) 17 (DX8_product_0.at 45 rfl) (by decide) ?_
      exact gk_pick (pc := 17) [(0, .ref o), (1, .int x1), (2, .int x2), (3, .int x3), (4, .int x4), (5, .int (x5 + nI 1))] [1, 2, 3, 4, 5, 0] rfl hv
    · replace hv := hv.2 c
      refine gk_iload_n (pc := 36) (DX8_product_0.at 21 rfl) 2 rfl rfl ?_
      refine gk_iload (pc := 37) (DX8_product_0.at 22 rfl) 5 rfl ?_
      refine gk_ishr (pc := 39) (DX8_product_0.at 23 rfl) ?_
      refine gk_iconst (pc := 40) (nI 1) (DX8_product_0.at 24 rfl) ci_1 ?_
      refine gk_iand (pc := 41) (DX8_product_0.at 25 rfl) ?_
      refine gk_iconst (pc := 42) (nI 1) (DX8_product_0.at 26 rfl) ci_1 ?_
      refine gk_icmp_ne (pc := 43) 68 (DX8_product_0.at 27 rfl) (by decide) (fun c => ?_) (fun c => ?_)
      · replace hv := hv.1 c
        refine gk_iinc (pc := 68) (x5 + nI 1) [(5, .int (x5 + nI 1)), (0, .ref o), (1, .int x1), (2, .int x2), (3, .int x3), (4, .int x4)] 5 (DX8_product_0.at 44 rfl) rfl (by rw [ci_1]) (Nat.le_of_ble_eq_true rfl) rfl ?_
        refine gk_goto (pc := 71) 17 (DX8_product_0.at 45 rfl) (by decide) ?_
        exact gk_pick (pc := 17) [(0, .ref o), (1, .int x1), (2, .int x2), (3, .int x3), (4, .int x4), (5, .int (x5 + nI 1))] [1, 2, 3, 4, 5, 0] rfl hv
      · replace hv := hv.2 c
        refine gk_iload_n (pc := 46) (DX8_product_0.at 28 rfl) 3 rfl rfl ?_
        refine gk_aload_n (pc := 47) (DX8_product_0.at 29 rfl) 0 rfl rfl ?_
        obtain ⟨fs2, v2, q2, r2, hv⟩ := hv
        refine gk_get (pc := 48) (.long v2) (DX8_product_0.at 30 rfl) fX8_19_8 q2 r2 ?_
        refine gk_bipush (pc := 51) (nI 16) (DX8_product_0.at 31 rfl) cb_16 ?_
        refine gk_iload (pc := 53) (DX8_product_0.at 32 rfl) 4 rfl ?_
        refine gk_imul (pc := 55) (DX8_product_0.at 33 rfl) ?_
        refine gk_iconst (pc := 56) (nI 4) (DX8_product_0.at 34 rfl) ci_4 ?_
        refine gk_iload (pc := 57) (DX8_product_0.at 35 rfl) 5 rfl ?_
        refine gk_imul (pc := 59) (DX8_product_0.at 36 rfl) ?_
        refine gk_iadd (pc := 60) (DX8_product_0.at 37 rfl) ?_
        refine gk_lushr (pc := 61) (DX8_product_0.at 38 rfl) ?_
        refine gk_l2i (pc := 62) (DX8_product_0.at 39 rfl) ?_
        refine gk_bipush (pc := 63) (nI 15) (DX8_product_0.at 40 rfl) cb_15 ?_
        refine gk_iand (pc := 65) (DX8_product_0.at 41 rfl) ?_
        refine gk_ior (pc := 66) (DX8_product_0.at 42 rfl) ?_
        refine gk_topi (fun w3 e3 => ?_)
        replace hv := hv w3 e3
        refine gk_istore_n (pc := 67) [(3, .int w3), (0, .ref o), (1, .int x1), (2, .int x2), (4, .int x4), (5, .int x5)] (DX8_product_0.at 43 rfl) rfl (Nat.le_of_ble_eq_true rfl) rfl ?_
        refine gk_iinc (pc := 68) (x5 + nI 1) [(5, .int (x5 + nI 1)), (3, .int w3), (0, .ref o), (1, .int x1), (2, .int x2), (4, .int x4)] 5 (DX8_product_0.at 44 rfl) rfl (by rw [ci_1]) (Nat.le_of_ble_eq_true rfl) rfl ?_
        refine gk_goto (pc := 71) 17 (DX8_product_0.at 45 rfl) (by decide) ?_
        exact gk_pick (pc := 17) [(0, .ref o), (1, .int x1), (2, .int x2), (3, .int w3), (4, .int x4), (5, .int (x5 + nI 1))] [2, 3, 4, 1, 5, 0] rfl hv
set_option maxHeartbeats 4000000 in
theorem vX8_relations_0 {E : gk_E} {dd : Nat} {o : Nat}  {h : gk_H} {K : Int32 → gk_H → Prop} (hv : LdI h o 8 0 fun v1 => K ((nI 1) <<< (v1 &&& 31)) h) : RnI E mX8_relations (dd, 0, 0) [.ref o] h K := by
  show gk_G E mX8_relations (dd, 0, 0) 0 [(0, .ref o)] [] h (fun o h1 => ∃ v, o = some (.int v) ∧ K v h1)
  refine gk_iconst (pc := 0) (nI 1) (DX8_relations_0.at 0 rfl) ci_1 ?_
  refine gk_aload_n (pc := 1) (DX8_relations_0.at 1 rfl) 0 rfl rfl ?_
  obtain ⟨fs1, v1, q1, r1, hv⟩ := hv
  refine gk_get (pc := 2) (.int v1) (DX8_relations_0.at 2 rfl) fX8_9_8 q1 r1 ?_
  refine gk_ishl (pc := 5) (DX8_relations_0.at 3 rfl) ?_
  exact gk_ireturn (pc := 6) .int (DX8_relations_0.at 4 rfl) rfl rfl ⟨_, rfl, hv⟩
abbrev pX8_residual_6 (E : gk_E) (dd : Nat) (o : Nat) (x1 : Int32) (x2 : Int32) (x3 : Int32) (x4 : Int32) (x5 : Int32) (h : gk_H) (K : Int32 → gk_H → Prop) : Prop := gk_G E mX8_residual (dd + 1, 0, 0) 6 [(0, .ref o), (1, .int x1), (2, .int x2), (3, .int x3), (4, .int x4), (5, .int x5)] [] h (fun o h1 => ∃ v, o = some (.int v) ∧ K v h1)
set_option maxHeartbeats 4000000 in
theorem vX8_residual_0 {E : gk_E} {dd : Nat} {o : Nat} {x1 : Int32} {x2 : Int32} {x3 : Int32}  {h : gk_H} {K : Int32 → gk_H → Prop} (hv : pX8_residual_6 E dd o x1 x2 x3 (nI 0) (nI 0) h K) : RnI E mX8_residual (dd + 1, 0, 0) [.ref o, .int x1, .int x2, .int x3] h K := by
  show gk_G E mX8_residual (dd + 1, 0, 0) 0 [(0, .ref o), (1, .int x1), (2, .int x2), (3, .int x3)] [] h (fun o h1 => ∃ v, o = some (.int v) ∧ K v h1)
  refine gk_iconst (pc := 0) (nI 0) (DX8_residual_0.at 0 rfl) ci_0 ?_
  refine gk_istore (pc := 1) [(4, .int (nI 0)), (0, .ref o), (1, .int x1), (2, .int x2), (3, .int x3)] (DX8_residual_0.at 1 rfl) (Nat.le_of_ble_eq_true rfl) rfl ?_
  refine gk_iconst (pc := 3) (nI 0) (DX8_residual_0.at 2 rfl) ci_0 ?_
  refine gk_istore (pc := 4) [(5, .int (nI 0)), (4, .int (nI 0)), (0, .ref o), (1, .int x1), (2, .int x2), (3, .int x3)] (DX8_residual_0.at 3 rfl) (Nat.le_of_ble_eq_true rfl) rfl ?_
  exact gk_pick (pc := 6) [(0, .ref o), (1, .int x1), (2, .int x2), (3, .int x3), (4, .int (nI 0)), (5, .int (nI 0))] [2, 3, 4, 5, 1, 0] rfl hv
set_option maxHeartbeats 4000000 in
theorem vX8_residual_6 {E : gk_E} {dd : Nat} {o : Nat} {x1 : Int32} {x2 : Int32} {x3 : Int32} {x4 : Int32} {x5 : Int32}  {h : gk_H} {K : Int32 → gk_H → Prop} (hv : LdI h o 8 0 fun v1 => (v1 ≤ x5 → K x4 h) ∧ (¬ v1 ≤ x5 → (∃ fs, h[o]? = some (.inr (8, fs))) ∧ RnI E mX8_sided (dd, 0, 0) [.ref o, .int ((nI 1) <<< (x5 &&& 31)), .int x2, .int x3] h (fun v2 h2 => (¬ (v2 &&& (x1 ^^^ ((-1)))) = 0 → pX8_residual_6 E dd o x1 x2 x3 x4 (x5 + nI 1) h2 K) ∧ ((v2 &&& (x1 ^^^ ((-1)))) = 0 → pX8_residual_6 E dd o x1 x2 x3 (x4 ||| ((nI 1) <<< (x5 &&& 31))) (x5 + nI 1) h2 K)))) : pX8_residual_6 E dd o x1 x2 x3 x4 x5 h K := by
  show gk_G E mX8_residual (dd + 1, 0, 0) 6 [(0, .ref o), (1, .int x1), (2, .int x2), (3, .int x3), (4, .int x4), (5, .int x5)] [] h (fun o h1 => ∃ v, o = some (.int v) ∧ K v h1)
  refine gk_iload (pc := 6) (DX8_residual_0.at 4 rfl) 5 rfl ?_
  refine gk_aload_n (pc := 8) (DX8_residual_0.at 5 rfl) 0 rfl rfl ?_
  obtain ⟨fs1, v1, q1, r1, hv⟩ := hv
  refine gk_get (pc := 9) (.int v1) (DX8_residual_0.at 6 rfl) fX8_9_8 q1 r1 ?_
  refine gk_icmp_ge (pc := 12) 47 (DX8_residual_0.at 7 rfl) (by decide) (fun c => ?_) (fun c => ?_)
  · replace hv := hv.1 c
    refine gk_iload (pc := 47) (DX8_residual_0.at 28 rfl) 4 rfl ?_
    exact gk_ireturn (pc := 49) .int (DX8_residual_0.at 29 rfl) rfl rfl ⟨_, rfl, hv⟩
  · replace hv := hv.2 c
    refine gk_aload_n (pc := 15) (DX8_residual_0.at 8 rfl) 0 rfl rfl ?_
    refine gk_iconst (pc := 16) (nI 1) (DX8_residual_0.at 9 rfl) ci_1 ?_
    refine gk_iload (pc := 17) (DX8_residual_0.at 10 rfl) 5 rfl ?_
    refine gk_ishl (pc := 19) (DX8_residual_0.at 11 rfl) ?_
    refine gk_iload_n (pc := 20) (DX8_residual_0.at 12 rfl) 2 rfl rfl ?_
    refine gk_iload_n (pc := 21) (DX8_residual_0.at 13 rfl) 3 rfl rfl ?_
    obtain ⟨⟨fs2, q2⟩, hv⟩ := hv
    refine gk_vV (pc := 22) [.int ((nI 1) <<< (x5 &&& 31)), .int x2, .int x3] [] (DX8_residual_0.at 14 rfl) cvX8_52 q2 rfl rfl (Nat.le_of_ble_eq_true rfl) (Nat.le_of_ble_eq_true rfl) (gk_Run.post (fun o h2 z => ?_) hv)
    obtain ⟨v2, rfl, hv⟩ := z
    refine gk_iload_n (pc := 25) (DX8_residual_0.at 15 rfl) 1 rfl rfl ?_
    refine gk_iconst (pc := 26) ((-1)) (DX8_residual_0.at 16 rfl) ci_m1 ?_
    refine gk_ixor (pc := 27) (DX8_residual_0.at 17 rfl) ?_
    refine gk_iand (pc := 28) (DX8_residual_0.at 18 rfl) ?_
    refine gk_if_ne (pc := 29) 41 (DX8_residual_0.at 19 rfl) (by decide) (fun c => ?_) (fun c => ?_)
    · replace hv := hv.1 c
      refine gk_iinc (pc := 41) (x5 + nI 1) [(5, .int (x5 + nI 1)), (0, .ref o), (1, .int x1), (2, .int x2), (3, .int x3), (4, .int x4)] 5 (DX8_residual_0.at 26 rfl) rfl (by rw [ci_1]) (Nat.le_of_ble_eq_true rfl) rfl ?_
      refine gk_goto (pc := 44) 6 (DX8_residual_0.at 27 rfl) (by decide) ?_
      exact gk_pick (pc := 6) [(0, .ref o), (1, .int x1), (2, .int x2), (3, .int x3), (4, .int x4), (5, .int (x5 + nI 1))] [1, 2, 3, 4, 5, 0] rfl hv
    · replace hv := hv.2 c
      refine gk_iload (pc := 32) (DX8_residual_0.at 20 rfl) 4 rfl ?_
      refine gk_iconst (pc := 34) (nI 1) (DX8_residual_0.at 21 rfl) ci_1 ?_
      refine gk_iload (pc := 35) (DX8_residual_0.at 22 rfl) 5 rfl ?_
      refine gk_ishl (pc := 37) (DX8_residual_0.at 23 rfl) ?_
      refine gk_ior (pc := 38) (DX8_residual_0.at 24 rfl) ?_
      refine gk_istore (pc := 39) [(4, .int (x4 ||| ((nI 1) <<< (x5 &&& 31)))), (0, .ref o), (1, .int x1), (2, .int x2), (3, .int x3), (5, .int x5)] (DX8_residual_0.at 25 rfl) (Nat.le_of_ble_eq_true rfl) rfl ?_
      refine gk_iinc (pc := 41) (x5 + nI 1) [(5, .int (x5 + nI 1)), (4, .int (x4 ||| ((nI 1) <<< (x5 &&& 31)))), (0, .ref o), (1, .int x1), (2, .int x2), (3, .int x3)] 5 (DX8_residual_0.at 26 rfl) rfl (by rw [ci_1]) (Nat.le_of_ble_eq_true rfl) rfl ?_
      refine gk_goto (pc := 44) 6 (DX8_residual_0.at 27 rfl) (by decide) ?_
      exact gk_pick (pc := 6) [(0, .ref o), (1, .int x1), (2, .int x2), (3, .int x3), (4, .int (x4 ||| ((nI 1) <<< (x5 &&& 31)))), (5, .int (x5 + nI 1))] [2, 3, 4, 5, 1, 0] rfl hv
abbrev pX8_restart_7 (E : gk_E) (dd : Nat) (o : Nat) (x1 : Int32) (x2 : Int32) (h : gk_H) (K : gk_H → Prop) : Prop := gk_G E mX8_restart (dd + 1, 0, 0) 7 [(0, .ref o), (1, .int x1), (2, .int x2)] [] h (fun o h1 => o = none ∧ K h1)
set_option maxHeartbeats 4000000 in
theorem vX8_restart_0 {E : gk_E} {dd : Nat} {o : Nat} {x1 : Int32}  {h : gk_H} {K : gk_H → Prop} (hv : StI h o 8 0 x1 fun h1 => pX8_restart_7 E dd o x1 (nI 0) h1 K) : RnV E mX8_restart (dd + 1, 0, 0) [.ref o, .int x1] h K := by
  show gk_G E mX8_restart (dd + 1, 0, 0) 0 [(0, .ref o), (1, .int x1)] [] h (fun o h1 => o = none ∧ K h1)
  refine gk_aload_n (pc := 0) (DX8_restart_0.at 0 rfl) 0 rfl rfl ?_
  refine gk_iload_n (pc := 1) (DX8_restart_0.at 1 rfl) 1 rfl rfl ?_
  obtain ⟨fs1, q1, r1, hv⟩ := hv
  refine gk_put (pc := 2) (DX8_restart_0.at 2 rfl) fX8_9_8w q1 r1 rfl rfl ?_
  generalize h.set _ _ = h1 at hv ⊢
  refine gk_iconst (pc := 5) (nI 0) (DX8_restart_0.at 3 rfl) ci_0 ?_
  refine gk_istore_n (pc := 6) [(2, .int (nI 0)), (0, .ref o), (1, .int x1)] (DX8_restart_0.at 4 rfl) rfl (Nat.le_of_ble_eq_true rfl) rfl ?_
  exact gk_pick (pc := 7) [(0, .ref o), (1, .int x1), (2, .int (nI 0))] [1, 2, 0] rfl hv
set_option maxHeartbeats 4000000 in
theorem vX8_restart_7 {E : gk_E} {dd : Nat} {o : Nat} {x1 : Int32} {x2 : Int32}  {h : gk_H} {K : gk_H → Prop} (hv : ((nI 4) ≤ x2 → (∃ fs, h[o]? = some (.inr (8, fs))) ∧ RnV E mX8_keepFixed (dd, 0, 0) [.ref o] h (fun h1 => K h1)) ∧ (¬ (nI 4) ≤ x2 → LdR h o 8 1 fun v2 => AsI h v2 x2 x2 fun h3 => pX8_restart_7 E dd o x1 (x2 + nI 1) h3 K)) : pX8_restart_7 E dd o x1 x2 h K := by
  show gk_G E mX8_restart (dd + 1, 0, 0) 7 [(0, .ref o), (1, .int x1), (2, .int x2)] [] h (fun o h1 => o = none ∧ K h1)
  refine gk_iload_n (pc := 7) (DX8_restart_0.at 5 rfl) 2 rfl rfl ?_
  refine gk_iconst (pc := 8) (nI 4) (DX8_restart_0.at 6 rfl) ci_4 ?_
  refine gk_icmp_ge (pc := 9) 25 (DX8_restart_0.at 7 rfl) (by decide) (fun c => ?_) (fun c => ?_)
  · replace hv := hv.1 c
    refine gk_aload_n (pc := 25) (DX8_restart_0.at 15 rfl) 0 rfl rfl ?_
    obtain ⟨⟨fs1, q1⟩, hv⟩ := hv
    refine gk_vV (pc := 26) [] [] (DX8_restart_0.at 16 rfl) cvX8_27 q1 rfl rfl (Nat.le_of_ble_eq_true rfl) (Nat.le_of_ble_eq_true rfl) (gk_Run.post (fun o h1 z => ?_) hv)
    obtain ⟨rfl, hv⟩ := z
    exact gk_return (pc := 29) (DX8_restart_0.at 17 rfl) rfl ⟨rfl, hv⟩
  · replace hv := hv.2 c
    refine gk_aload_n (pc := 12) (DX8_restart_0.at 8 rfl) 0 rfl rfl ?_
    obtain ⟨fs2, v2, q2, r2, hv⟩ := hv
    refine gk_get (pc := 13) (.ref v2) (DX8_restart_0.at 9 rfl) fX8_15_8 q2 r2 ?_
    refine gk_iload_n (pc := 16) (DX8_restart_0.at 10 rfl) 2 rfl rfl ?_
    refine gk_iload_n (pc := 17) (DX8_restart_0.at 11 rfl) 2 rfl rfl ?_
    obtain ⟨n3, f3, q3, r3, hv⟩ := hv
    refine gk_iast (pc := 18) (DX8_restart_0.at 12 rfl) q3 r3 ?_
    generalize h.set _ _ = h3 at hv ⊢
    refine gk_iinc (pc := 19) (x2 + nI 1) [(2, .int (x2 + nI 1)), (0, .ref o), (1, .int x1)] 2 (DX8_restart_0.at 13 rfl) rfl (by rw [ci_1]) (Nat.le_of_ble_eq_true rfl) rfl ?_
    refine gk_goto (pc := 22) 7 (DX8_restart_0.at 14 rfl) (by decide) ?_
    exact gk_pick (pc := 7) [(0, .ref o), (1, .int x1), (2, .int (x2 + nI 1))] [1, 2, 0] rfl hv
set_option maxHeartbeats 4000000 in
theorem vX8_sided_0 {E : gk_E} {dd : Nat} {o : Nat} {x1 : Int32} {x2 : Int32} {x3 : Int32}  {h : gk_H} {K : Int32 → gk_H → Prop} (hv : (¬ x3 = 0 → (∃ fs, h[o]? = some (.inr (8, fs))) ∧ RnI E mX8_product (dd, 0, 0) [.ref o, .int x2, .int x1] h (fun v1 h1 => K v1 h1)) ∧ (x3 = 0 → (∃ fs, h[o]? = some (.inr (8, fs))) ∧ RnI E mX8_product (dd, 0, 0) [.ref o, .int x1, .int x2] h (fun v2 h2 => K v2 h2))) : RnI E mX8_sided (dd + 1, 0, 0) [.ref o, .int x1, .int x2, .int x3] h K := by
  show gk_G E mX8_sided (dd + 1, 0, 0) 0 [(0, .ref o), (1, .int x1), (2, .int x2), (3, .int x3)] [] h (fun o h1 => ∃ v, o = some (.int v) ∧ K v h1)
  refine gk_iload_n (pc := 0) (DX8_sided_0.at 0 rfl) 3 rfl rfl ?_
  refine gk_if_ne (pc := 1) 13 (DX8_sided_0.at 1 rfl) (by decide) (fun c => ?_) (fun c => ?_)
  · replace hv := hv.1 c
    refine gk_aload_n (pc := 13) (DX8_sided_0.at 7 rfl) 0 rfl rfl ?_
    refine gk_iload_n (pc := 14) (DX8_sided_0.at 8 rfl) 2 rfl rfl ?_
    refine gk_iload_n (pc := 15) (DX8_sided_0.at 9 rfl) 1 rfl rfl ?_
    obtain ⟨⟨fs1, q1⟩, hv⟩ := hv
    refine gk_vV (pc := 16) [.int x2, .int x1] [] (DX8_sided_0.at 10 rfl) cvX8_48 q1 rfl rfl (Nat.le_of_ble_eq_true rfl) (Nat.le_of_ble_eq_true rfl) (gk_Run.post (fun o h1 z => ?_) hv)
    obtain ⟨v1, rfl, hv⟩ := z
    exact gk_ireturn (pc := 19) .int (DX8_sided_0.at 11 rfl) rfl rfl ⟨_, rfl, hv⟩
  · replace hv := hv.2 c
    refine gk_aload_n (pc := 4) (DX8_sided_0.at 2 rfl) 0 rfl rfl ?_
    refine gk_iload_n (pc := 5) (DX8_sided_0.at 3 rfl) 1 rfl rfl ?_
    refine gk_iload_n (pc := 6) (DX8_sided_0.at 4 rfl) 2 rfl rfl ?_
    obtain ⟨⟨fs2, q2⟩, hv⟩ := hv
    refine gk_vV (pc := 7) [.int x1, .int x2] [] (DX8_sided_0.at 5 rfl) cvX8_48 q2 rfl rfl (Nat.le_of_ble_eq_true rfl) (Nat.le_of_ble_eq_true rfl) (gk_Run.post (fun o h2 z => ?_) hv)
    obtain ⟨v2, rfl, hv⟩ := z
    refine gk_goto (pc := 10) 19 (DX8_sided_0.at 6 rfl) (by decide) ?_
    exact gk_ireturn (pc := 19) .int (DX8_sided_0.at 11 rfl) rfl rfl ⟨_, rfl, hv⟩
abbrev pX8_solutions_13 (E : gk_E) (dd : Nat) (o : Nat) (x1 : Int32) (x2 : Int32) (x3 : Int32) (x4 : Int32) (x5 : Int32) (x6 : Int32) (x7 : Int32) (x8 : Int32) (h : gk_H) (K : Int32 → gk_H → Prop) : Prop := gk_G E mX8_solutions (dd + 1, 0, 0) 13 [(0, .ref o), (1, .int x1), (2, .int x2), (3, .int x3), (4, .int x4), (5, .int x5), (6, .int x6), (7, .int x7), (8, .int x8)] [] h (fun o h1 => ∃ v, o = some (.int v) ∧ K v h1)
set_option maxHeartbeats 4000000 in
theorem vX8_solutions_0 {E : gk_E} {dd : Nat} {o : Nat} {x1 : Int32} {x2 : Int32} {x3 : Int32} {x4 : Int32}  {h : gk_H} {K : Int32 → gk_H → Prop} (hv : pX8_solutions_13 E dd o x1 x2 x3 x4 (nI 0) ((-5)) (nI 0) (nI 0) h K) : RnI E mX8_solutions (dd + 1, 0, 0) [.ref o, .int x1, .int x2, .int x3, .int x4] h K := by
  show gk_G E mX8_solutions (dd + 1, 0, 0) 0 [(0, .ref o), (1, .int x1), (2, .int x2), (3, .int x3), (4, .int x4)] [] h (fun o h1 => ∃ v, o = some (.int v) ∧ K v h1)
  refine gk_iconst (pc := 0) (nI 0) (DX8_solutions_0.at 0 rfl) ci_0 ?_
  refine gk_istore (pc := 1) [(5, .int (nI 0)), (0, .ref o), (1, .int x1), (2, .int x2), (3, .int x3), (4, .int x4)] (DX8_solutions_0.at 1 rfl) (Nat.le_of_ble_eq_true rfl) rfl ?_
  refine gk_bipush (pc := 3) ((-5)) (DX8_solutions_0.at 2 rfl) cb_m5 ?_
  refine gk_istore (pc := 5) [(6, .int ((-5))), (5, .int (nI 0)), (0, .ref o), (1, .int x1), (2, .int x2), (3, .int x3), (4, .int x4)] (DX8_solutions_0.at 3 rfl) (Nat.le_of_ble_eq_true rfl) rfl ?_
  refine gk_iconst (pc := 7) (nI 0) (DX8_solutions_0.at 4 rfl) ci_0 ?_
  refine gk_istore (pc := 8) [(7, .int (nI 0)), (6, .int ((-5))), (5, .int (nI 0)), (0, .ref o), (1, .int x1), (2, .int x2), (3, .int x3), (4, .int x4)] (DX8_solutions_0.at 5 rfl) (Nat.le_of_ble_eq_true rfl) rfl ?_
  refine gk_iconst (pc := 10) (nI 0) (DX8_solutions_0.at 6 rfl) ci_0 ?_
  refine gk_istore (pc := 11) [(8, .int (nI 0)), (7, .int (nI 0)), (6, .int ((-5))), (5, .int (nI 0)), (0, .ref o), (1, .int x1), (2, .int x2), (3, .int x3), (4, .int x4)] (DX8_solutions_0.at 7 rfl) (Nat.le_of_ble_eq_true rfl) rfl ?_
  exact gk_pick (pc := 13) [(0, .ref o), (1, .int x1), (2, .int x2), (3, .int x3), (4, .int x4), (5, .int (nI 0)), (6, .int ((-5))), (7, .int (nI 0)), (8, .int (nI 0))] [4, 5, 6, 7, 8, 3, 2, 1, 0] rfl hv
set_option maxHeartbeats 4000000 in
theorem vX8_solutions_13 {E : gk_E} {dd : Nat} {o : Nat} {x1 : Int32} {x2 : Int32} {x3 : Int32} {x4 : Int32} {x5 : Int32} {x6 : Int32} {x7 : Int32} {x8 : Int32}  {h : gk_H} {K : Int32 → gk_H → Prop} (hv : (∃ fs, h[o]? = some (.inr (8, fs))) ∧ RnI E mX8_relations (dd, 0, 0) [.ref o] h (fun v1 h1 => (v1 ≤ x8 → (¬ x4 = 0 → (x4 = (nI 1) → K x6 h1) ∧ (¬ x4 = (nI 1) → (¬ x5 = 0 → K x7 h1) ∧ (x5 = 0 → K x6 h1))) ∧ (x4 = 0 → K x5 h1)) ∧ (¬ v1 ≤ x8 → (∃ fs, h1[o]? = some (.inr (8, fs))) ∧ RnI E mX8_sided (dd, 0, 0) [.ref o, .int x8, .int x1, .int x3] h1 (fun v2 h2 => (¬ v2 = x2 → pX8_solutions_13 E dd o x1 x2 x3 x4 x5 x6 x7 (x8 + nI 1) h2 K) ∧ (v2 = x2 → (¬ x5 = 0 → pX8_solutions_13 E dd o x1 x2 x3 x4 (x5 + nI 1) x6 (x7 ||| x8) (x8 + nI 1) h2 K) ∧ (x5 = 0 → pX8_solutions_13 E dd o x1 x2 x3 x4 (x5 + nI 1) x8 (x7 ||| x8) (x8 + nI 1) h2 K)))))) : pX8_solutions_13 E dd o x1 x2 x3 x4 x5 x6 x7 x8 h K := by
  show gk_G E mX8_solutions (dd + 1, 0, 0) 13 [(0, .ref o), (1, .int x1), (2, .int x2), (3, .int x3), (4, .int x4), (5, .int x5), (6, .int x6), (7, .int x7), (8, .int x8)] [] h (fun o h1 => ∃ v, o = some (.int v) ∧ K v h1)
  refine gk_iload (pc := 13) (DX8_solutions_0.at 8 rfl) 8 rfl ?_
  refine gk_aload_n (pc := 15) (DX8_solutions_0.at 9 rfl) 0 rfl rfl ?_
  obtain ⟨⟨fs1, q1⟩, hv⟩ := hv
  refine gk_vV (pc := 16) [] [.int x8] (DX8_solutions_0.at 10 rfl) cvX8_56 q1 rfl rfl (Nat.le_of_ble_eq_true rfl) (Nat.le_of_ble_eq_true rfl) (gk_Run.post (fun o h1 z => ?_) hv)
  obtain ⟨v1, rfl, hv⟩ := z
  refine gk_icmp_ge (pc := 19) 64 (DX8_solutions_0.at 11 rfl) (by decide) (fun c => ?_) (fun c => ?_)
  · replace hv := hv.1 c
    refine gk_iload (pc := 64) (DX8_solutions_0.at 32 rfl) 4 rfl ?_
    refine gk_if_ne (pc := 66) 72 (DX8_solutions_0.at 33 rfl) (by decide) (fun c => ?_) (fun c => ?_)
    · replace hv := hv.1 c
      refine gk_iload (pc := 72) (DX8_solutions_0.at 36 rfl) 4 rfl ?_
      refine gk_iconst (pc := 74) (nI 1) (DX8_solutions_0.at 37 rfl) ci_1 ?_
      refine gk_icmp_eq (pc := 75) 83 (DX8_solutions_0.at 38 rfl) (by decide) (fun c => ?_) (fun c => ?_)
      · replace hv := hv.1 c
        refine gk_iload (pc := 83) (DX8_solutions_0.at 41 rfl) 6 rfl ?_
        refine gk_goto (pc := 85) 90 (DX8_solutions_0.at 42 rfl) (by decide) ?_
        exact gk_ireturn (pc := 90) .int (DX8_solutions_0.at 44 rfl) rfl rfl ⟨_, rfl, hv⟩
      · replace hv := hv.2 c
        refine gk_iload (pc := 78) (DX8_solutions_0.at 39 rfl) 5 rfl ?_
        refine gk_if_ne (pc := 80) 88 (DX8_solutions_0.at 40 rfl) (by decide) (fun c => ?_) (fun c => ?_)
        · replace hv := hv.1 c
          refine gk_iload (pc := 88) (DX8_solutions_0.at 43 rfl) 7 rfl ?_
          exact gk_ireturn (pc := 90) .int (DX8_solutions_0.at 44 rfl) rfl rfl ⟨_, rfl, hv⟩
        · replace hv := hv.2 c
          refine gk_iload (pc := 83) (DX8_solutions_0.at 41 rfl) 6 rfl ?_
          refine gk_goto (pc := 85) 90 (DX8_solutions_0.at 42 rfl) (by decide) ?_
          exact gk_ireturn (pc := 90) .int (DX8_solutions_0.at 44 rfl) rfl rfl ⟨_, rfl, hv⟩
    · replace hv := hv.2 c
      refine gk_iload (pc := 69) (DX8_solutions_0.at 34 rfl) 5 rfl ?_
      exact gk_ireturn (pc := 71) .int (DX8_solutions_0.at 35 rfl) rfl rfl ⟨_, rfl, hv⟩
  · replace hv := hv.2 c
    refine gk_aload_n (pc := 22) (DX8_solutions_0.at 12 rfl) 0 rfl rfl ?_
    refine gk_iload (pc := 23) (DX8_solutions_0.at 13 rfl) 8 rfl ?_
    refine gk_iload_n (pc := 25) (DX8_solutions_0.at 14 rfl) 1 rfl rfl ?_
    refine gk_iload_n (pc := 26) (DX8_solutions_0.at 15 rfl) 3 rfl rfl ?_
    obtain ⟨⟨fs2, q2⟩, hv⟩ := hv
    refine gk_vV (pc := 27) [.int x8, .int x1, .int x3] [] (DX8_solutions_0.at 16 rfl) cvX8_52 q2 rfl rfl (Nat.le_of_ble_eq_true rfl) (Nat.le_of_ble_eq_true rfl) (gk_Run.post (fun o h2 z => ?_) hv)
    obtain ⟨v2, rfl, hv⟩ := z
    refine gk_iload_n (pc := 30) (DX8_solutions_0.at 17 rfl) 2 rfl rfl ?_
    refine gk_icmp_ne (pc := 31) 58 (DX8_solutions_0.at 18 rfl) (by decide) (fun c => ?_) (fun c => ?_)
    · replace hv := hv.1 c
      refine gk_iinc (pc := 58) (x8 + nI 1) [(8, .int (x8 + nI 1)), (0, .ref o), (1, .int x1), (2, .int x2), (3, .int x3), (4, .int x4), (5, .int x5), (6, .int x6), (7, .int x7)] 8 (DX8_solutions_0.at 30 rfl) rfl (by rw [ci_1]) (Nat.le_of_ble_eq_true rfl) rfl ?_
      refine gk_goto (pc := 61) 13 (DX8_solutions_0.at 31 rfl) (by decide) ?_
      exact gk_pick (pc := 13) [(0, .ref o), (1, .int x1), (2, .int x2), (3, .int x3), (4, .int x4), (5, .int x5), (6, .int x6), (7, .int x7), (8, .int (x8 + nI 1))] [1, 2, 3, 4, 5, 6, 7, 8, 0] rfl hv
    · replace hv := hv.2 c
      refine gk_iload (pc := 34) (DX8_solutions_0.at 19 rfl) 5 rfl ?_
      refine gk_if_ne (pc := 36) 44 (DX8_solutions_0.at 20 rfl) (by decide) (fun c => ?_) (fun c => ?_)
      · replace hv := hv.1 c
        refine gk_iload (pc := 44) (DX8_solutions_0.at 23 rfl) 6 rfl ?_
        refine gk_istore (pc := 46) [(6, .int x6), (0, .ref o), (1, .int x1), (2, .int x2), (3, .int x3), (4, .int x4), (5, .int x5), (7, .int x7), (8, .int x8)] (DX8_solutions_0.at 24 rfl) (Nat.le_of_ble_eq_true rfl) rfl ?_
        refine gk_iinc (pc := 48) (x5 + nI 1) [(5, .int (x5 + nI 1)), (6, .int x6), (0, .ref o), (1, .int x1), (2, .int x2), (3, .int x3), (4, .int x4), (7, .int x7), (8, .int x8)] 6 (DX8_solutions_0.at 25 rfl) rfl (by rw [ci_1]) (Nat.le_of_ble_eq_true rfl) rfl ?_
        refine gk_iload (pc := 51) (DX8_solutions_0.at 26 rfl) 7 rfl ?_
        refine gk_iload (pc := 53) (DX8_solutions_0.at 27 rfl) 8 rfl ?_
        refine gk_ior (pc := 55) (DX8_solutions_0.at 28 rfl) ?_
        refine gk_istore (pc := 56) [(7, .int (x7 ||| x8)), (5, .int (x5 + nI 1)), (6, .int x6), (0, .ref o), (1, .int x1), (2, .int x2), (3, .int x3), (4, .int x4), (8, .int x8)] (DX8_solutions_0.at 29 rfl) (Nat.le_of_ble_eq_true rfl) rfl ?_
        refine gk_iinc (pc := 58) (x8 + nI 1) [(8, .int (x8 + nI 1)), (7, .int (x7 ||| x8)), (5, .int (x5 + nI 1)), (6, .int x6), (0, .ref o), (1, .int x1), (2, .int x2), (3, .int x3), (4, .int x4)] 8 (DX8_solutions_0.at 30 rfl) rfl (by rw [ci_1]) (Nat.le_of_ble_eq_true rfl) rfl ?_
        refine gk_goto (pc := 61) 13 (DX8_solutions_0.at 31 rfl) (by decide) ?_
        exact gk_pick (pc := 13) [(0, .ref o), (1, .int x1), (2, .int x2), (3, .int x3), (4, .int x4), (5, .int (x5 + nI 1)), (6, .int x6), (7, .int (x7 ||| x8)), (8, .int (x8 + nI 1))] [4, 5, 6, 7, 8, 2, 3, 1, 0] rfl hv
      · replace hv := hv.2 c
        refine gk_iload (pc := 39) (DX8_solutions_0.at 21 rfl) 8 rfl ?_
        refine gk_goto (pc := 41) 46 (DX8_solutions_0.at 22 rfl) (by decide) ?_
        refine gk_istore (pc := 46) [(6, .int x8), (0, .ref o), (1, .int x1), (2, .int x2), (3, .int x3), (4, .int x4), (5, .int x5), (7, .int x7), (8, .int x8)] (DX8_solutions_0.at 24 rfl) (Nat.le_of_ble_eq_true rfl) rfl ?_
        refine gk_iinc (pc := 48) (x5 + nI 1) [(5, .int (x5 + nI 1)), (6, .int x8), (0, .ref o), (1, .int x1), (2, .int x2), (3, .int x3), (4, .int x4), (7, .int x7), (8, .int x8)] 6 (DX8_solutions_0.at 25 rfl) rfl (by rw [ci_1]) (Nat.le_of_ble_eq_true rfl) rfl ?_
        refine gk_iload (pc := 51) (DX8_solutions_0.at 26 rfl) 7 rfl ?_
        refine gk_iload (pc := 53) (DX8_solutions_0.at 27 rfl) 8 rfl ?_
        refine gk_ior (pc := 55) (DX8_solutions_0.at 28 rfl) ?_
        refine gk_istore (pc := 56) [(7, .int (x7 ||| x8)), (5, .int (x5 + nI 1)), (6, .int x8), (0, .ref o), (1, .int x1), (2, .int x2), (3, .int x3), (4, .int x4), (8, .int x8)] (DX8_solutions_0.at 29 rfl) (Nat.le_of_ble_eq_true rfl) rfl ?_
        refine gk_iinc (pc := 58) (x8 + nI 1) [(8, .int (x8 + nI 1)), (7, .int (x7 ||| x8)), (5, .int (x5 + nI 1)), (6, .int x8), (0, .ref o), (1, .int x1), (2, .int x2), (3, .int x3), (4, .int x4)] 8 (DX8_solutions_0.at 30 rfl) rfl (by rw [ci_1]) (Nat.le_of_ble_eq_true rfl) rfl ?_
        refine gk_goto (pc := 61) 13 (DX8_solutions_0.at 31 rfl) (by decide) ?_
        exact gk_pick (pc := 13) [(0, .ref o), (1, .int x1), (2, .int x2), (3, .int x3), (4, .int x4), (5, .int (x5 + nI 1)), (6, .int x8), (7, .int (x7 ||| x8)), (8, .int (x8 + nI 1))] [4, 5, 6, 7, 8, 2, 3, 1, 0] rfl hv
abbrev pX8_thin_4 (E : gk_E) (dd : Nat) (o : Nat) (x1 : Int32) (x2 : Int32) (x3 : Int32) (h : gk_H) (K : Int32 → gk_H → Prop) : Prop := gk_G E mX8_thin (dd + 1, 0, 0) 4 [(0, .ref o), (1, .int x1), (2, .int x2), (3, .int x3)] [] h (fun o h1 => ∃ v, o = some (.int v) ∧ K v h1)
abbrev pX8_thin_15 (E : gk_E) (dd : Nat) (o : Nat) (x1 : Int32) (x2 : Int32) (x3 : Int32) (x4 : Int32) (h : gk_H) (K : Int32 → gk_H → Prop) : Prop := gk_G E mX8_thin (dd + 1, 0, 0) 15 [(0, .ref o), (1, .int x1), (2, .int x2), (3, .int x3), (4, .int x4)] [] h (fun o h1 => ∃ v, o = some (.int v) ∧ K v h1)
set_option maxHeartbeats 4000000 in
theorem vX8_thin_0 {E : gk_E} {dd : Nat} {o : Nat} {x1 : Int32}  {h : gk_H} {K : Int32 → gk_H → Prop} (hv : pX8_thin_4 E dd o x1 (nI 0) (nI 0) h K) : RnI E mX8_thin (dd + 1, 0, 0) [.ref o, .int x1] h K := by
  show gk_G E mX8_thin (dd + 1, 0, 0) 0 [(0, .ref o), (1, .int x1)] [] h (fun o h1 => ∃ v, o = some (.int v) ∧ K v h1)
  refine gk_iconst (pc := 0) (nI 0) (DX8_thin_0.at 0 rfl) ci_0 ?_
  refine gk_istore_n (pc := 1) [(2, .int (nI 0)), (0, .ref o), (1, .int x1)] (DX8_thin_0.at 1 rfl) rfl (Nat.le_of_ble_eq_true rfl) rfl ?_
  refine gk_iconst (pc := 2) (nI 0) (DX8_thin_0.at 2 rfl) ci_0 ?_
  refine gk_istore_n (pc := 3) [(3, .int (nI 0)), (2, .int (nI 0)), (0, .ref o), (1, .int x1)] (DX8_thin_0.at 3 rfl) rfl (Nat.le_of_ble_eq_true rfl) rfl ?_
  exact gk_pick (pc := 4) [(0, .ref o), (1, .int x1), (2, .int (nI 0)), (3, .int (nI 0))] [2, 3, 1, 0] rfl hv
set_option maxHeartbeats 4000000 in
theorem vX8_thin_4 {E : gk_E} {dd : Nat} {o : Nat} {x1 : Int32} {x2 : Int32} {x3 : Int32}  {h : gk_H} {K : Int32 → gk_H → Prop} (hv : LdI h o 8 0 fun v1 => (v1 ≤ x3 → (x1 = 0 → K ((-5)) h) ∧ (¬ x1 = 0 → K x2 h)) ∧ (¬ v1 ≤ x3 → pX8_thin_15 E dd o x1 x2 x3 (nI 0) h K)) : pX8_thin_4 E dd o x1 x2 x3 h K := by
  show gk_G E mX8_thin (dd + 1, 0, 0) 4 [(0, .ref o), (1, .int x1), (2, .int x2), (3, .int x3)] [] h (fun o h1 => ∃ v, o = some (.int v) ∧ K v h1)
  refine gk_iload_n (pc := 4) (DX8_thin_0.at 4 rfl) 3 rfl rfl ?_
  refine gk_aload_n (pc := 5) (DX8_thin_0.at 5 rfl) 0 rfl rfl ?_
  obtain ⟨fs1, v1, q1, r1, hv⟩ := hv
  refine gk_get (pc := 6) (.int v1) (DX8_thin_0.at 6 rfl) fX8_9_8 q1 r1 ?_
  refine gk_icmp_ge (pc := 9) 65 (DX8_thin_0.at 7 rfl) (by decide) (fun c => ?_) (fun c => ?_)
  · replace hv := hv.1 c
    refine gk_iload_n (pc := 65) (DX8_thin_0.at 36 rfl) 1 rfl rfl ?_
    refine gk_if_eq (pc := 66) 73 (DX8_thin_0.at 37 rfl) (by decide) (fun c => ?_) (fun c => ?_)
    · replace hv := hv.1 c
      refine gk_bipush (pc := 73) ((-5)) (DX8_thin_0.at 40 rfl) cb_m5 ?_
      exact gk_ireturn (pc := 75) .int (DX8_thin_0.at 41 rfl) rfl rfl ⟨_, rfl, hv⟩
    · replace hv := hv.2 c
      refine gk_iload_n (pc := 69) (DX8_thin_0.at 38 rfl) 2 rfl rfl ?_
      refine gk_goto (pc := 70) 75 (DX8_thin_0.at 39 rfl) (by decide) ?_
      exact gk_ireturn (pc := 75) .int (DX8_thin_0.at 41 rfl) rfl rfl ⟨_, rfl, hv⟩
  · replace hv := hv.2 c
    refine gk_iconst (pc := 12) (nI 0) (DX8_thin_0.at 8 rfl) ci_0 ?_
    refine gk_istore (pc := 13) [(4, .int (nI 0)), (0, .ref o), (1, .int x1), (2, .int x2), (3, .int x3)] (DX8_thin_0.at 9 rfl) (Nat.le_of_ble_eq_true rfl) rfl ?_
    exact gk_pick (pc := 15) [(0, .ref o), (1, .int x1), (2, .int x2), (3, .int x3), (4, .int (nI 0))] [1, 2, 3, 4, 0] rfl hv
set_option maxHeartbeats 4000000 in
theorem vX8_thin_15 {E : gk_E} {dd : Nat} {o : Nat} {x1 : Int32} {x2 : Int32} {x3 : Int32} {x4 : Int32}  {h : gk_H} {K : Int32 → gk_H → Prop} (hv : LdI h o 8 0 fun v1 => (v1 ≤ x4 → pX8_thin_4 E dd o x1 x2 (x3 + nI 1) h K) ∧ (¬ v1 ≤ x4 → (∃ fs, h[o]? = some (.inr (8, fs))) ∧ RnI E mX8_product (dd, 0, 0) [.ref o, .int ((nI 1) <<< (x3 &&& 31)), .int ((nI 1) <<< (x4 &&& 31))] h (fun v2 h2 => (¬ v2 = 0 → pX8_thin_15 E dd o x1 x2 x3 (x4 + nI 1) h2 K) ∧ (v2 = 0 → (¬ x1 = 0 → pX8_thin_15 E dd o x1 (x2 + nI 1) x3 (x4 + nI 1) h2 K) ∧ (x1 = 0 → K (((nI 10) * x3) + x4) h2))))) : pX8_thin_15 E dd o x1 x2 x3 x4 h K := by
  show gk_G E mX8_thin (dd + 1, 0, 0) 15 [(0, .ref o), (1, .int x1), (2, .int x2), (3, .int x3), (4, .int x4)] [] h (fun o h1 => ∃ v, o = some (.int v) ∧ K v h1)
  refine gk_iload (pc := 15) (DX8_thin_0.at 10 rfl) 4 rfl ?_
  refine gk_aload_n (pc := 17) (DX8_thin_0.at 11 rfl) 0 rfl rfl ?_
  obtain ⟨fs1, v1, q1, r1, hv⟩ := hv
  refine gk_get (pc := 18) (.int v1) (DX8_thin_0.at 12 rfl) fX8_9_8 q1 r1 ?_
  refine gk_icmp_ge (pc := 21) 59 (DX8_thin_0.at 13 rfl) (by decide) (fun c => ?_) (fun c => ?_)
  · replace hv := hv.1 c
    refine gk_iinc (pc := 59) (x3 + nI 1) [(3, .int (x3 + nI 1)), (0, .ref o), (1, .int x1), (2, .int x2), (4, .int x4)] 3 (DX8_thin_0.at 34 rfl) rfl (by rw [ci_1]) (Nat.le_of_ble_eq_true rfl) rfl ?_
    refine gk_goto (pc := 62) 4 (DX8_thin_0.at 35 rfl) (by decide) ?_
    exact gk_pick (pc := 4) [(0, .ref o), (1, .int x1), (2, .int x2), (3, .int (x3 + nI 1))] [1, 2, 3, 0] rfl hv
  · replace hv := hv.2 c
    refine gk_aload_n (pc := 24) (DX8_thin_0.at 14 rfl) 0 rfl rfl ?_
    refine gk_iconst (pc := 25) (nI 1) (DX8_thin_0.at 15 rfl) ci_1 ?_
    refine gk_iload_n (pc := 26) (DX8_thin_0.at 16 rfl) 3 rfl rfl ?_
    refine gk_ishl (pc := 27) (DX8_thin_0.at 17 rfl) ?_
    refine gk_iconst (pc := 28) (nI 1) (DX8_thin_0.at 18 rfl) ci_1 ?_
    refine gk_iload (pc := 29) (DX8_thin_0.at 19 rfl) 4 rfl ?_
    refine gk_ishl (pc := 31) (DX8_thin_0.at 20 rfl) ?_
    obtain ⟨⟨fs2, q2⟩, hv⟩ := hv
    refine gk_vV (pc := 32) [.int ((nI 1) <<< (x3 &&& 31)), .int ((nI 1) <<< (x4 &&& 31))] [] (DX8_thin_0.at 21 rfl) cvX8_48 q2 rfl rfl (Nat.le_of_ble_eq_true rfl) (Nat.le_of_ble_eq_true rfl) (gk_Run.post (fun o h2 z => ?_) hv)
    obtain ⟨v2, rfl, hv⟩ := z
    refine gk_if_ne (pc := 35) 53 (DX8_thin_0.at 22 rfl) (by decide) (fun c => ?_) (fun c => ?_)
    · replace hv := hv.1 c
      refine gk_iinc (pc := 53) (x4 + nI 1) [(4, .int (x4 + nI 1)), (0, .ref o), (1, .int x1), (2, .int x2), (3, .int x3)] 4 (DX8_thin_0.at 32 rfl) rfl (by rw [ci_1]) (Nat.le_of_ble_eq_true rfl) rfl ?_
      refine gk_goto (pc := 56) 15 (DX8_thin_0.at 33 rfl) (by decide) ?_
      exact gk_pick (pc := 15) [(0, .ref o), (1, .int x1), (2, .int x2), (3, .int x3), (4, .int (x4 + nI 1))] [1, 2, 3, 4, 0] rfl hv
    · replace hv := hv.2 c
      refine gk_iload_n (pc := 38) (DX8_thin_0.at 23 rfl) 1 rfl rfl ?_
      refine gk_if_ne (pc := 39) 50 (DX8_thin_0.at 24 rfl) (by decide) (fun c => ?_) (fun c => ?_)
      · replace hv := hv.1 c
        refine gk_iinc (pc := 50) (x2 + nI 1) [(2, .int (x2 + nI 1)), (0, .ref o), (1, .int x1), (3, .int x3), (4, .int x4)] 2 (DX8_thin_0.at 31 rfl) rfl (by rw [ci_1]) (Nat.le_of_ble_eq_true rfl) rfl ?_
        refine gk_iinc (pc := 53) (x4 + nI 1) [(4, .int (x4 + nI 1)), (2, .int (x2 + nI 1)), (0, .ref o), (1, .int x1), (3, .int x3)] 4 (DX8_thin_0.at 32 rfl) rfl (by rw [ci_1]) (Nat.le_of_ble_eq_true rfl) rfl ?_
        refine gk_goto (pc := 56) 15 (DX8_thin_0.at 33 rfl) (by decide) ?_
        exact gk_pick (pc := 15) [(0, .ref o), (1, .int x1), (2, .int (x2 + nI 1)), (3, .int x3), (4, .int (x4 + nI 1))] [2, 3, 1, 4, 0] rfl hv
      · replace hv := hv.2 c
        refine gk_bipush (pc := 42) (nI 10) (DX8_thin_0.at 25 rfl) cb_10 ?_
        refine gk_iload_n (pc := 44) (DX8_thin_0.at 26 rfl) 3 rfl rfl ?_
        refine gk_imul (pc := 45) (DX8_thin_0.at 27 rfl) ?_
        refine gk_iload (pc := 46) (DX8_thin_0.at 28 rfl) 4 rfl ?_
        refine gk_iadd (pc := 48) (DX8_thin_0.at 29 rfl) ?_
        exact gk_ireturn (pc := 49) .int (DX8_thin_0.at 30 rfl) rfl rfl ⟨_, rfl, hv⟩
set_option maxHeartbeats 4000000 in
theorem vX8_turns_0 {E : gk_E} {dd : Nat} {o : Nat} {x1 : Int32} {x2 : Int32} {x3 : Int32}  {h : gk_H} {K : Int64 → gk_H → Prop} (hv : LdR h o 8 1 fun v1 => AlI h v1 x1 fun v2 => LdR h o 8 1 fun v3 => AlI h v3 x2 fun v4 => LdR h o 8 1 fun v5 => AlI h v5 x3 fun v6 => RnL E mX8_bit (dd, 0, 0) [.int x1, .int x2, .int x3] h (fun v7 h7 => RnL E mX8_bit (dd, 0, 0) [.int v2, .int x3, .int x2] h7 (fun v8 h8 => RnL E mX8_bit (dd, 0, 0) [.int x3, .int v4, .int x1] h8 (fun v9 h9 => RnL E mX8_bit (dd, 0, 0) [.int v4, .int v2, .int v6] h9 (fun v10 h10 => RnL E mX8_bit (dd, 0, 0) [.int x2, .int v6, .int v2] h10 (fun v11 h11 => RnL E mX8_bit (dd, 0, 0) [.int v6, .int x1, .int v4] h11 (fun v12 h12 => K (((((v7 ||| v8) ||| v9) ||| v10) ||| v11) ||| v12) h12))))))) : RnL E mX8_turns (dd + 1, 0, 0) [.ref o, .int x1, .int x2, .int x3] h K := by
  show gk_G E mX8_turns (dd + 1, 0, 0) 0 [(0, .ref o), (1, .int x1), (2, .int x2), (3, .int x3)] [] h (fun o h1 => ∃ v, o = some (.long v) ∧ K v h1)
  refine gk_aload_n (pc := 0) (DX8_turns_0.at 0 rfl) 0 rfl rfl ?_
  obtain ⟨fs1, v1, q1, r1, hv⟩ := hv
  refine gk_get (pc := 1) (.ref v1) (DX8_turns_0.at 1 rfl) fX8_15_8 q1 r1 ?_
  refine gk_iload_n (pc := 4) (DX8_turns_0.at 2 rfl) 1 rfl rfl ?_
  obtain ⟨n2, f2, q2, r2, hv⟩ := hv
  refine gk_iald (pc := 5) (DX8_turns_0.at 3 rfl) q2 r2 ?_
  generalize f2 _ = v2 at hv ⊢
  refine gk_istore (pc := 6) [(4, .int v2), (0, .ref o), (1, .int x1), (2, .int x2), (3, .int x3)] (DX8_turns_0.at 4 rfl) (Nat.le_of_ble_eq_true rfl) rfl ?_
  refine gk_aload_n (pc := 8) (DX8_turns_0.at 5 rfl) 1 rfl rfl ?_
  obtain ⟨fs3, v3, q3, r3, hv⟩ := hv
  refine gk_get (pc := 9) (.ref v3) (DX8_turns_0.at 6 rfl) fX8_15_8 q3 r3 ?_
  refine gk_iload_n (pc := 12) (DX8_turns_0.at 7 rfl) 3 rfl rfl ?_
  obtain ⟨n4, f4, q4, r4, hv⟩ := hv
  refine gk_iald (pc := 13) (DX8_turns_0.at 8 rfl) q4 r4 ?_
  generalize f4 _ = v4 at hv ⊢
  refine gk_istore (pc := 14) [(5, .int v4), (4, .int v2), (0, .ref o), (1, .int x1), (2, .int x2), (3, .int x3)] (DX8_turns_0.at 9 rfl) (Nat.le_of_ble_eq_true rfl) rfl ?_
  refine gk_aload_n (pc := 16) (DX8_turns_0.at 10 rfl) 2 rfl rfl ?_
  obtain ⟨fs5, v5, q5, r5, hv⟩ := hv
  refine gk_get (pc := 17) (.ref v5) (DX8_turns_0.at 11 rfl) fX8_15_8 q5 r5 ?_
  refine gk_iload_n (pc := 20) (DX8_turns_0.at 12 rfl) 5 rfl rfl ?_
  obtain ⟨n6, f6, q6, r6, hv⟩ := hv
  refine gk_iald (pc := 21) (DX8_turns_0.at 13 rfl) q6 r6 ?_
  generalize f6 _ = v6 at hv ⊢
  refine gk_istore (pc := 22) [(6, .int v6), (5, .int v4), (4, .int v2), (0, .ref o), (1, .int x1), (2, .int x2), (3, .int x3)] (DX8_turns_0.at 14 rfl) (Nat.le_of_ble_eq_true rfl) rfl ?_
  refine gk_iload_n (pc := 24) (DX8_turns_0.at 15 rfl) 4 rfl rfl ?_
  refine gk_iload_n (pc := 25) (DX8_turns_0.at 16 rfl) 5 rfl rfl ?_
  refine gk_iload_n (pc := 26) (DX8_turns_0.at 17 rfl) 6 rfl rfl ?_
  refine gk_vS (pc := 27) [.int x1, .int x2, .int x3] [] (DX8_turns_0.at 18 rfl) csX8_33 rfl rfl (Nat.le_of_ble_eq_true rfl) (Nat.le_of_ble_eq_true rfl) (gk_Run.post (fun o h7 z => ?_) hv)
  obtain ⟨v7, rfl, hv⟩ := z
  refine gk_iload (pc := 30) (DX8_turns_0.at 19 rfl) 2 rfl ?_
  refine gk_iload_n (pc := 32) (DX8_turns_0.at 20 rfl) 6 rfl rfl ?_
  refine gk_iload_n (pc := 33) (DX8_turns_0.at 21 rfl) 5 rfl rfl ?_
  refine gk_vS (pc := 34) [.int v2, .int x3, .int x2] [.long v7] (DX8_turns_0.at 22 rfl) csX8_33 rfl rfl (Nat.le_of_ble_eq_true rfl) (Nat.le_of_ble_eq_true rfl) (gk_Run.post (fun o h8 z => ?_) hv)
  obtain ⟨v8, rfl, hv⟩ := z
  refine gk_lor (pc := 37) (DX8_turns_0.at 23 rfl) ?_
  refine gk_iload_n (pc := 38) (DX8_turns_0.at 24 rfl) 6 rfl rfl ?_
  refine gk_iload (pc := 39) (DX8_turns_0.at 25 rfl) 1 rfl ?_
  refine gk_iload_n (pc := 41) (DX8_turns_0.at 26 rfl) 4 rfl rfl ?_
  refine gk_vS (pc := 42) [.int x3, .int v4, .int x1] [.long (v7 ||| v8)] (DX8_turns_0.at 27 rfl) csX8_33 rfl rfl (Nat.le_of_ble_eq_true rfl) (Nat.le_of_ble_eq_true rfl) (gk_Run.post (fun o h9 z => ?_) hv)
  obtain ⟨v9, rfl, hv⟩ := z
  refine gk_lor (pc := 45) (DX8_turns_0.at 28 rfl) ?_
  refine gk_iload (pc := 46) (DX8_turns_0.at 29 rfl) 1 rfl ?_
  refine gk_iload (pc := 48) (DX8_turns_0.at 30 rfl) 2 rfl ?_
  refine gk_iload (pc := 50) (DX8_turns_0.at 31 rfl) 0 rfl ?_
  refine gk_vS (pc := 52) [.int v4, .int v2, .int v6] [.long ((v7 ||| v8) ||| v9)] (DX8_turns_0.at 32 rfl) csX8_33 rfl rfl (Nat.le_of_ble_eq_true rfl) (Nat.le_of_ble_eq_true rfl) (gk_Run.post (fun o h10 z => ?_) hv)
  obtain ⟨v10, rfl, hv⟩ := z
  refine gk_lor (pc := 55) (DX8_turns_0.at 33 rfl) ?_
  refine gk_iload_n (pc := 56) (DX8_turns_0.at 34 rfl) 5 rfl rfl ?_
  refine gk_iload (pc := 57) (DX8_turns_0.at 35 rfl) 0 rfl ?_
  refine gk_iload (pc := 59) (DX8_turns_0.at 36 rfl) 2 rfl ?_
  refine gk_vS (pc := 61) [.int x2, .int v6, .int v2] [.long (((v7 ||| v8) ||| v9) ||| v10)] (DX8_turns_0.at 37 rfl) csX8_33 rfl rfl (Nat.le_of_ble_eq_true rfl) (Nat.le_of_ble_eq_true rfl) (gk_Run.post (fun o h11 z => ?_) hv)
  obtain ⟨v11, rfl, hv⟩ := z
  refine gk_lor (pc := 64) (DX8_turns_0.at 38 rfl) ?_
  refine gk_iload (pc := 65) (DX8_turns_0.at 39 rfl) 0 rfl ?_
  refine gk_iload_n (pc := 67) (DX8_turns_0.at 40 rfl) 4 rfl rfl ?_
  refine gk_iload (pc := 68) (DX8_turns_0.at 41 rfl) 1 rfl ?_
  refine gk_vS (pc := 70) [.int v6, .int x1, .int v4] [.long ((((v7 ||| v8) ||| v9) ||| v10) ||| v11)] (DX8_turns_0.at 42 rfl) csX8_33 rfl rfl (Nat.le_of_ble_eq_true rfl) (Nat.le_of_ble_eq_true rfl) (gk_Run.post (fun o h12 z => ?_) hv)
  obtain ⟨v12, rfl, hv⟩ := z
  refine gk_lor (pc := 73) (DX8_turns_0.at 43 rfl) ?_
  exact gk_lreturn (pc := 74) (DX8_turns_0.at 44 rfl) rfl ⟨_, rfl, hv⟩
abbrev pX8_unbalanced_4 (E : gk_E) (dd : Nat) (o : Nat) (x1 : Int32) (x2 : Int32) (x3 : Int32) (h : gk_H) (K : Int32 → gk_H → Prop) : Prop := gk_G E mX8_unbalanced (dd + 1, 0, 0) 4 [(0, .ref o), (1, .int x1), (2, .int x2), (3, .int x3)] [] h (fun o h1 => ∃ v, o = some (.int v) ∧ K v h1)
abbrev pX8_unbalanced_15 (E : gk_E) (dd : Nat) (o : Nat) (x1 : Int32) (x2 : Int32) (x3 : Int32) (x4 : Int32) (h : gk_H) (K : Int32 → gk_H → Prop) : Prop := gk_G E mX8_unbalanced (dd + 1, 0, 0) 15 [(0, .ref o), (1, .int x1), (2, .int x2), (3, .int x3), (4, .int x4)] [] h (fun o h1 => ∃ v, o = some (.int v) ∧ K v h1)
abbrev pX8_unbalanced_27 (E : gk_E) (dd : Nat) (o : Nat) (x1 : Int32) (x2 : Int32) (x3 : Int32) (x4 : Int32) (x5 : Int32) (h : gk_H) (K : Int32 → gk_H → Prop) : Prop := gk_G E mX8_unbalanced (dd + 1, 0, 0) 27 [(0, .ref o), (1, .int x1), (2, .int x2), (3, .int x3), (4, .int x4), (5, .int x5)] [] h (fun o h1 => ∃ v, o = some (.int v) ∧ K v h1)
set_option maxHeartbeats 4000000 in
theorem vX8_unbalanced_0 {E : gk_E} {dd : Nat} {o : Nat} {x1 : Int32}  {h : gk_H} {K : Int32 → gk_H → Prop} (hv : pX8_unbalanced_4 E dd o x1 (nI 0) (nI 0) h K) : RnI E mX8_unbalanced (dd + 1, 0, 0) [.ref o, .int x1] h K := by
  show gk_G E mX8_unbalanced (dd + 1, 0, 0) 0 [(0, .ref o), (1, .int x1)] [] h (fun o h1 => ∃ v, o = some (.int v) ∧ K v h1)
  refine gk_iconst (pc := 0) (nI 0) (DX8_unbalanced_0.at 0 rfl) ci_0 ?_
  refine gk_istore_n (pc := 1) [(2, .int (nI 0)), (0, .ref o), (1, .int x1)] (DX8_unbalanced_0.at 1 rfl) rfl (Nat.le_of_ble_eq_true rfl) rfl ?_
  refine gk_iconst (pc := 2) (nI 0) (DX8_unbalanced_0.at 2 rfl) ci_0 ?_
  refine gk_istore_n (pc := 3) [(3, .int (nI 0)), (2, .int (nI 0)), (0, .ref o), (1, .int x1)] (DX8_unbalanced_0.at 3 rfl) rfl (Nat.le_of_ble_eq_true rfl) rfl ?_
  exact gk_pick (pc := 4) [(0, .ref o), (1, .int x1), (2, .int (nI 0)), (3, .int (nI 0))] [2, 3, 1, 0] rfl hv
set_option maxHeartbeats 4000000 in
theorem vX8_unbalanced_4 {E : gk_E} {dd : Nat} {o : Nat} {x1 : Int32} {x2 : Int32} {x3 : Int32}  {h : gk_H} {K : Int32 → gk_H → Prop} (hv : LdI h o 8 0 fun v1 => (v1 ≤ x3 → (x1 = 0 → K ((-5)) h) ∧ (¬ x1 = 0 → K x2 h)) ∧ (¬ v1 ≤ x3 → pX8_unbalanced_15 E dd o x1 x2 x3 (nI 0) h K)) : pX8_unbalanced_4 E dd o x1 x2 x3 h K := by
  show gk_G E mX8_unbalanced (dd + 1, 0, 0) 4 [(0, .ref o), (1, .int x1), (2, .int x2), (3, .int x3)] [] h (fun o h1 => ∃ v, o = some (.int v) ∧ K v h1)
  refine gk_iload_n (pc := 4) (DX8_unbalanced_0.at 4 rfl) 3 rfl rfl ?_
  refine gk_aload_n (pc := 5) (DX8_unbalanced_0.at 5 rfl) 0 rfl rfl ?_
  obtain ⟨fs1, v1, q1, r1, hv⟩ := hv
  refine gk_get (pc := 6) (.int v1) (DX8_unbalanced_0.at 6 rfl) fX8_9_8 q1 r1 ?_
  refine gk_icmp_ge (pc := 9) 87 (DX8_unbalanced_0.at 7 rfl) (by decide) (fun c => ?_) (fun c => ?_)
  · replace hv := hv.1 c
    refine gk_iload_n (pc := 87) (DX8_unbalanced_0.at 45 rfl) 1 rfl rfl ?_
    refine gk_if_eq (pc := 88) 95 (DX8_unbalanced_0.at 46 rfl) (by decide) (fun c => ?_) (fun c => ?_)
    · replace hv := hv.1 c
      refine gk_bipush (pc := 95) ((-5)) (DX8_unbalanced_0.at 49 rfl) cb_m5 ?_
      exact gk_ireturn (pc := 97) .int (DX8_unbalanced_0.at 50 rfl) rfl rfl ⟨_, rfl, hv⟩
    · replace hv := hv.2 c
      refine gk_iload_n (pc := 91) (DX8_unbalanced_0.at 47 rfl) 2 rfl rfl ?_
      refine gk_goto (pc := 92) 97 (DX8_unbalanced_0.at 48 rfl) (by decide) ?_
      exact gk_ireturn (pc := 97) .int (DX8_unbalanced_0.at 50 rfl) rfl rfl ⟨_, rfl, hv⟩
  · replace hv := hv.2 c
    refine gk_iconst (pc := 12) (nI 0) (DX8_unbalanced_0.at 8 rfl) ci_0 ?_
    refine gk_istore (pc := 13) [(4, .int (nI 0)), (0, .ref o), (1, .int x1), (2, .int x2), (3, .int x3)] (DX8_unbalanced_0.at 9 rfl) (Nat.le_of_ble_eq_true rfl) rfl ?_
    exact gk_pick (pc := 15) [(0, .ref o), (1, .int x1), (2, .int x2), (3, .int x3), (4, .int (nI 0))] [1, 2, 3, 4, 0] rfl hv
set_option maxHeartbeats 4000000 in
theorem vX8_unbalanced_15 {E : gk_E} {dd : Nat} {o : Nat} {x1 : Int32} {x2 : Int32} {x3 : Int32} {x4 : Int32}  {h : gk_H} {K : Int32 → gk_H → Prop} (hv : LdI h o 8 0 fun v1 => (v1 ≤ x4 → pX8_unbalanced_4 E dd o x1 x2 (x3 + nI 1) h K) ∧ (¬ v1 ≤ x4 → pX8_unbalanced_27 E dd o x1 x2 x3 x4 (nI 0) h K)) : pX8_unbalanced_15 E dd o x1 x2 x3 x4 h K := by
  show gk_G E mX8_unbalanced (dd + 1, 0, 0) 15 [(0, .ref o), (1, .int x1), (2, .int x2), (3, .int x3), (4, .int x4)] [] h (fun o h1 => ∃ v, o = some (.int v) ∧ K v h1)
  refine gk_iload (pc := 15) (DX8_unbalanced_0.at 10 rfl) 4 rfl ?_
  refine gk_aload_n (pc := 17) (DX8_unbalanced_0.at 11 rfl) 0 rfl rfl ?_
  obtain ⟨fs1, v1, q1, r1, hv⟩ := hv
  refine gk_get (pc := 18) (.int v1) (DX8_unbalanced_0.at 12 rfl) fX8_9_8 q1 r1 ?_
  refine gk_icmp_ge (pc := 21) 81 (DX8_unbalanced_0.at 13 rfl) (by decide) (fun c => ?_) (fun c => ?_)
  · replace hv := hv.1 c
    refine gk_iinc (pc := 81) (x3 + nI 1) [(3, .int (x3 + nI 1)), (0, .ref o), (1, .int x1), (2, .int x2), (4, .int x4)] 3 (DX8_unbalanced_0.at 43 rfl) rfl (by rw [ci_1]) (Nat.le_of_ble_eq_true rfl) rfl ?_
    refine gk_goto (pc := 84) 4 (DX8_unbalanced_0.at 44 rfl) (by decide) ?_
    exact gk_pick (pc := 4) [(0, .ref o), (1, .int x1), (2, .int x2), (3, .int (x3 + nI 1))] [1, 2, 3, 0] rfl hv
  · replace hv := hv.2 c
    refine gk_iconst (pc := 24) (nI 0) (DX8_unbalanced_0.at 14 rfl) ci_0 ?_
    refine gk_istore (pc := 25) [(5, .int (nI 0)), (0, .ref o), (1, .int x1), (2, .int x2), (3, .int x3), (4, .int x4)] (DX8_unbalanced_0.at 15 rfl) (Nat.le_of_ble_eq_true rfl) rfl ?_
    exact gk_pick (pc := 27) [(0, .ref o), (1, .int x1), (2, .int x2), (3, .int x3), (4, .int x4), (5, .int (nI 0))] [1, 2, 3, 4, 5, 0] rfl hv
set_option maxHeartbeats 4000000 in
theorem vX8_unbalanced_27 {E : gk_E} {dd : Nat} {o : Nat} {x1 : Int32} {x2 : Int32} {x3 : Int32} {x4 : Int32} {x5 : Int32}  {h : gk_H} {K : Int32 → gk_H → Prop} (hv : LdI h o 8 0 fun v1 => (v1 ≤ x5 → pX8_unbalanced_15 E dd o x1 x2 x3 (x4 + nI 1) h K) ∧ (¬ v1 ≤ x5 → (∃ fs, h[o]? = some (.inr (8, fs))) ∧ RnI E mX8_isUnbalanced (dd, 0, 0) [.ref o, .int x3, .int x4, .int x5] h (fun v2 h2 => (v2 = 0 → pX8_unbalanced_27 E dd o x1 x2 x3 x4 (x5 + nI 1) h2 K) ∧ (¬ v2 = 0 → (¬ x1 = 0 → pX8_unbalanced_27 E dd o x1 (x2 + nI 1) x3 x4 (x5 + nI 1) h2 K) ∧ (x1 = 0 → K ((((nI 100) * x3) + ((nI 10) * x4)) + x5) h2))))) : pX8_unbalanced_27 E dd o x1 x2 x3 x4 x5 h K := by
  show gk_G E mX8_unbalanced (dd + 1, 0, 0) 27 [(0, .ref o), (1, .int x1), (2, .int x2), (3, .int x3), (4, .int x4), (5, .int x5)] [] h (fun o h1 => ∃ v, o = some (.int v) ∧ K v h1)
  refine gk_iload (pc := 27) (DX8_unbalanced_0.at 16 rfl) 5 rfl ?_
  refine gk_aload_n (pc := 29) (DX8_unbalanced_0.at 17 rfl) 0 rfl rfl ?_
  obtain ⟨fs1, v1, q1, r1, hv⟩ := hv
  refine gk_get (pc := 30) (.int v1) (DX8_unbalanced_0.at 18 rfl) fX8_9_8 q1 r1 ?_
  refine gk_icmp_ge (pc := 33) 75 (DX8_unbalanced_0.at 19 rfl) (by decide) (fun c => ?_) (fun c => ?_)
  · replace hv := hv.1 c
    refine gk_iinc (pc := 75) (x4 + nI 1) [(4, .int (x4 + nI 1)), (0, .ref o), (1, .int x1), (2, .int x2), (3, .int x3), (5, .int x5)] 4 (DX8_unbalanced_0.at 41 rfl) rfl (by rw [ci_1]) (Nat.le_of_ble_eq_true rfl) rfl ?_
    refine gk_goto (pc := 78) 15 (DX8_unbalanced_0.at 42 rfl) (by decide) ?_
    exact gk_pick (pc := 15) [(0, .ref o), (1, .int x1), (2, .int x2), (3, .int x3), (4, .int (x4 + nI 1))] [1, 2, 3, 4, 0] rfl hv
  · replace hv := hv.2 c
    refine gk_aload_n (pc := 36) (DX8_unbalanced_0.at 20 rfl) 0 rfl rfl ?_
    refine gk_iload_n (pc := 37) (DX8_unbalanced_0.at 21 rfl) 3 rfl rfl ?_
    refine gk_iload (pc := 38) (DX8_unbalanced_0.at 22 rfl) 4 rfl ?_
    refine gk_iload (pc := 40) (DX8_unbalanced_0.at 23 rfl) 5 rfl ?_
    obtain ⟨⟨fs2, q2⟩, hv⟩ := hv
    refine gk_vV (pc := 42) [.int x3, .int x4, .int x5] [] (DX8_unbalanced_0.at 24 rfl) cvX8_64 q2 rfl rfl (Nat.le_of_ble_eq_true rfl) (Nat.le_of_ble_eq_true rfl) (gk_Run.post (fun o h2 z => ?_) hv)
    obtain ⟨v2, rfl, hv⟩ := z
    refine gk_if_eq (pc := 45) 69 (DX8_unbalanced_0.at 25 rfl) (by decide) (fun c => ?_) (fun c => ?_)
    · replace hv := hv.1 c
      refine gk_iinc (pc := 69) (x5 + nI 1) [(5, .int (x5 + nI 1)), (0, .ref o), (1, .int x1), (2, .int x2), (3, .int x3), (4, .int x4)] 5 (DX8_unbalanced_0.at 39 rfl) rfl (by rw [ci_1]) (Nat.le_of_ble_eq_true rfl) rfl ?_
      refine gk_goto (pc := 72) 27 (DX8_unbalanced_0.at 40 rfl) (by decide) ?_
      exact gk_pick (pc := 27) [(0, .ref o), (1, .int x1), (2, .int x2), (3, .int x3), (4, .int x4), (5, .int (x5 + nI 1))] [1, 2, 3, 4, 5, 0] rfl hv
    · replace hv := hv.2 c
      refine gk_iload_n (pc := 48) (DX8_unbalanced_0.at 26 rfl) 1 rfl rfl ?_
      refine gk_if_ne (pc := 49) 66 (DX8_unbalanced_0.at 27 rfl) (by decide) (fun c => ?_) (fun c => ?_)
      · replace hv := hv.1 c
        refine gk_iinc (pc := 66) (x2 + nI 1) [(2, .int (x2 + nI 1)), (0, .ref o), (1, .int x1), (3, .int x3), (4, .int x4), (5, .int x5)] 2 (DX8_unbalanced_0.at 38 rfl) rfl (by rw [ci_1]) (Nat.le_of_ble_eq_true rfl) rfl ?_
        refine gk_iinc (pc := 69) (x5 + nI 1) [(5, .int (x5 + nI 1)), (2, .int (x2 + nI 1)), (0, .ref o), (1, .int x1), (3, .int x3), (4, .int x4)] 5 (DX8_unbalanced_0.at 39 rfl) rfl (by rw [ci_1]) (Nat.le_of_ble_eq_true rfl) rfl ?_
        refine gk_goto (pc := 72) 27 (DX8_unbalanced_0.at 40 rfl) (by decide) ?_
        exact gk_pick (pc := 27) [(0, .ref o), (1, .int x1), (2, .int (x2 + nI 1)), (3, .int x3), (4, .int x4), (5, .int (x5 + nI 1))] [2, 3, 1, 4, 5, 0] rfl hv
      · replace hv := hv.2 c
        refine gk_bipush (pc := 52) (nI 100) (DX8_unbalanced_0.at 28 rfl) cb_100 ?_
        refine gk_iload_n (pc := 54) (DX8_unbalanced_0.at 29 rfl) 3 rfl rfl ?_
        refine gk_imul (pc := 55) (DX8_unbalanced_0.at 30 rfl) ?_
        refine gk_bipush (pc := 56) (nI 10) (DX8_unbalanced_0.at 31 rfl) cb_10 ?_
        refine gk_iload (pc := 58) (DX8_unbalanced_0.at 32 rfl) 4 rfl ?_
        refine gk_imul (pc := 60) (DX8_unbalanced_0.at 33 rfl) ?_
        refine gk_iadd (pc := 61) (DX8_unbalanced_0.at 34 rfl) ?_
        refine gk_iload (pc := 62) (DX8_unbalanced_0.at 35 rfl) 5 rfl ?_
        refine gk_iadd (pc := 64) (DX8_unbalanced_0.at 36 rfl) ?_
        exact gk_ireturn (pc := 65) .int (DX8_unbalanced_0.at 37 rfl) rfl rfl ⟨_, rfl, hv⟩
set_option maxHeartbeats 4000000 in
theorem vJ13_bitCount_95d88_0 {E : gk_E} {dd : Nat} {x0 : Int64}  {h : gk_H} {K : Int32 → gk_H → Prop} (hv : ∀ w1, w1 = x0 - (((x0.toUInt64 >>> ((nI 1).toInt64.toUInt64 &&& Int64.toUInt64 63)).toInt64) &&& (lN 6148914691236517205)) → ∀ w2, w2 = (w1 &&& (lN 3689348814741910323)) + (((w1.toUInt64 >>> ((nI 2).toInt64.toUInt64 &&& Int64.toUInt64 63)).toInt64) &&& (lN 3689348814741910323)) → ∀ w3, w3 = (w2 + ((w2.toUInt64 >>> ((nI 4).toInt64.toUInt64 &&& Int64.toUInt64 63)).toInt64)) &&& (lN 1085102592571150095) → ∀ w4, w4 = (w3 + ((w3.toUInt64 >>> ((nI 8).toInt64.toUInt64 &&& Int64.toUInt64 63)).toInt64)) + (((w3 + ((w3.toUInt64 >>> ((nI 8).toInt64.toUInt64 &&& Int64.toUInt64 63)).toInt64)).toUInt64 >>> ((nI 16).toInt64.toUInt64 &&& Int64.toUInt64 63)).toInt64) → K (((w4 + ((w4.toUInt64 >>> ((nI 32).toInt64.toUInt64 &&& Int64.toUInt64 63)).toInt64)).toInt32) &&& (nI 127)) h) : RnI E mJ13_bitCount_95d88 (dd, 0, 0) [.long x0] h K := by
  show gk_G E mJ13_bitCount_95d88 (dd, 0, 0) 0 [(0, .long x0)] [] h (fun o h1 => ∃ v, o = some (.int v) ∧ K v h1)
  refine gk_lload_n (pc := 0) (DJ13_bitCount_95d88_0.at 0 rfl) 0 rfl rfl ?_
  refine gk_lload_n (pc := 1) (DJ13_bitCount_95d88_0.at 1 rfl) 0 rfl rfl ?_
  refine gk_iconst (pc := 2) (nI 1) (DJ13_bitCount_95d88_0.at 2 rfl) ci_1 ?_
  refine gk_lushr (pc := 3) (DJ13_bitCount_95d88_0.at 3 rfl) ?_
  refine gk_ldc2 (pc := 4) (lN 6148914691236517205) (DJ13_bitCount_95d88_0.at 4 rfl) klJ13_314 ?_
  refine gk_land (pc := 7) (DJ13_bitCount_95d88_0.at 5 rfl) ?_
  refine gk_lsub (pc := 8) (DJ13_bitCount_95d88_0.at 6 rfl) ?_
  refine gk_topl (fun w1 e1 => ?_)
  replace hv := hv w1 e1
  refine gk_lstore_n (pc := 9) [(0, .long w1)] (DJ13_bitCount_95d88_0.at 7 rfl) rfl (Nat.le_of_ble_eq_true rfl) rfl ?_
  refine gk_lload_n (pc := 10) (DJ13_bitCount_95d88_0.at 8 rfl) 0 rfl rfl ?_
  refine gk_ldc2 (pc := 11) (lN 3689348814741910323) (DJ13_bitCount_95d88_0.at 9 rfl) klJ13_316 ?_
  refine gk_land (pc := 14) (DJ13_bitCount_95d88_0.at 10 rfl) ?_
  refine gk_lload_n (pc := 15) (DJ13_bitCount_95d88_0.at 11 rfl) 0 rfl rfl ?_
  refine gk_iconst (pc := 16) (nI 2) (DJ13_bitCount_95d88_0.at 12 rfl) ci_2 ?_
  refine gk_lushr (pc := 17) (DJ13_bitCount_95d88_0.at 13 rfl) ?_
  refine gk_ldc2 (pc := 18) (lN 3689348814741910323) (DJ13_bitCount_95d88_0.at 14 rfl) klJ13_316 ?_
  refine gk_land (pc := 21) (DJ13_bitCount_95d88_0.at 15 rfl) ?_
  refine gk_ladd (pc := 22) (DJ13_bitCount_95d88_0.at 16 rfl) ?_
  refine gk_topl (fun w2 e2 => ?_)
  replace hv := hv w2 e2
  refine gk_lstore_n (pc := 23) [(0, .long w2)] (DJ13_bitCount_95d88_0.at 17 rfl) rfl (Nat.le_of_ble_eq_true rfl) rfl ?_
  refine gk_lload_n (pc := 24) (DJ13_bitCount_95d88_0.at 18 rfl) 0 rfl rfl ?_
  refine gk_lload_n (pc := 25) (DJ13_bitCount_95d88_0.at 19 rfl) 0 rfl rfl ?_
  refine gk_iconst (pc := 26) (nI 4) (DJ13_bitCount_95d88_0.at 20 rfl) ci_4 ?_
  refine gk_lushr (pc := 27) (DJ13_bitCount_95d88_0.at 21 rfl) ?_
  refine gk_ladd (pc := 28) (DJ13_bitCount_95d88_0.at 22 rfl) ?_
  refine gk_ldc2 (pc := 29) (lN 1085102592571150095) (DJ13_bitCount_95d88_0.at 23 rfl) klJ13_318 ?_
  refine gk_land (pc := 32) (DJ13_bitCount_95d88_0.at 24 rfl) ?_
  refine gk_topl (fun w3 e3 => ?_)
  replace hv := hv w3 e3
  refine gk_lstore_n (pc := 33) [(0, .long w3)] (DJ13_bitCount_95d88_0.at 25 rfl) rfl (Nat.le_of_ble_eq_true rfl) rfl ?_
  refine gk_lload_n (pc := 34) (DJ13_bitCount_95d88_0.at 26 rfl) 0 rfl rfl ?_
  refine gk_lload_n (pc := 35) (DJ13_bitCount_95d88_0.at 27 rfl) 0 rfl rfl ?_
  refine gk_bipush (pc := 36) (nI 8) (DJ13_bitCount_95d88_0.at 28 rfl) cb_8 ?_
  refine gk_lushr (pc := 38) (DJ13_bitCount_95d88_0.at 29 rfl) ?_
  refine gk_ladd (pc := 39) (DJ13_bitCount_95d88_0.at 30 rfl) ?_
  refine gk_lstore_n (pc := 40) [(0, .long (w3 + ((w3.toUInt64 >>> ((nI 8).toInt64.toUInt64 &&& Int64.toUInt64 63)).toInt64)))] (DJ13_bitCount_95d88_0.at 31 rfl) rfl (Nat.le_of_ble_eq_true rfl) rfl ?_
  refine gk_lload_n (pc := 41) (DJ13_bitCount_95d88_0.at 32 rfl) 0 rfl rfl ?_
  refine gk_lload_n (pc := 42) (DJ13_bitCount_95d88_0.at 33 rfl) 0 rfl rfl ?_
  refine gk_bipush (pc := 43) (nI 16) (DJ13_bitCount_95d88_0.at 34 rfl) cb_16 ?_
  refine gk_lushr (pc := 45) (DJ13_bitCount_95d88_0.at 35 rfl) ?_
  refine gk_ladd (pc := 46) (DJ13_bitCount_95d88_0.at 36 rfl) ?_
  refine gk_topl (fun w4 e4 => ?_)
  replace hv := hv w4 e4
  refine gk_lstore_n (pc := 47) [(0, .long w4)] (DJ13_bitCount_95d88_0.at 37 rfl) rfl (Nat.le_of_ble_eq_true rfl) rfl ?_
  refine gk_lload_n (pc := 48) (DJ13_bitCount_95d88_0.at 38 rfl) 0 rfl rfl ?_
  refine gk_lload_n (pc := 49) (DJ13_bitCount_95d88_0.at 39 rfl) 0 rfl rfl ?_
  refine gk_bipush (pc := 50) (nI 32) (DJ13_bitCount_95d88_0.at 40 rfl) cb_32 ?_
  refine gk_lushr (pc := 52) (DJ13_bitCount_95d88_0.at 41 rfl) ?_
  refine gk_ladd (pc := 53) (DJ13_bitCount_95d88_0.at 42 rfl) ?_
  refine gk_lstore_n (pc := 54) [(0, .long (w4 + ((w4.toUInt64 >>> ((nI 32).toInt64.toUInt64 &&& Int64.toUInt64 63)).toInt64)))] (DJ13_bitCount_95d88_0.at 43 rfl) rfl (Nat.le_of_ble_eq_true rfl) rfl ?_
  refine gk_lload_n (pc := 55) (DJ13_bitCount_95d88_0.at 44 rfl) 0 rfl rfl ?_
  refine gk_l2i (pc := 56) (DJ13_bitCount_95d88_0.at 45 rfl) ?_
  refine gk_bipush (pc := 57) (nI 127) (DJ13_bitCount_95d88_0.at 46 rfl) cb_127 ?_
  refine gk_iand (pc := 59) (DJ13_bitCount_95d88_0.at 47 rfl) ?_
  exact gk_ireturn (pc := 60) .int (DJ13_bitCount_95d88_0.at 48 rfl) rfl rfl ⟨_, rfl, hv⟩
set_option maxHeartbeats 4000000 in
theorem vJ6_bitCount_0f7a4_0 {E : gk_E} {dd : Nat} {x0 : Int32}  {h : gk_H} {K : Int32 → gk_H → Prop} (hv : ∀ w1, w1 = x0 - (((x0.toUInt32 >>> ((nI 1).toUInt32 &&& Int32.toUInt32 31)).toInt32) &&& (nI 1431655765)) → ∀ w2, w2 = (w1 &&& (nI 858993459)) + (((w1.toUInt32 >>> ((nI 2).toUInt32 &&& Int32.toUInt32 31)).toInt32) &&& (nI 858993459)) → ∀ w3, w3 = (w2 + ((w2.toUInt32 >>> ((nI 4).toUInt32 &&& Int32.toUInt32 31)).toInt32)) &&& (nI 252645135) → ∀ w4, w4 = (w3 + ((w3.toUInt32 >>> ((nI 8).toUInt32 &&& Int32.toUInt32 31)).toInt32)) + (((w3 + ((w3.toUInt32 >>> ((nI 8).toUInt32 &&& Int32.toUInt32 31)).toInt32)).toUInt32 >>> ((nI 16).toUInt32 &&& Int32.toUInt32 31)).toInt32) → K (w4 &&& (nI 63)) h) : RnI E mJ6_bitCount_0f7a4 (dd, 0, 0) [.int x0] h K := by
  show gk_G E mJ6_bitCount_0f7a4 (dd, 0, 0) 0 [(0, .int x0)] [] h (fun o h1 => ∃ v, o = some (.int v) ∧ K v h1)
  refine gk_iload_n (pc := 0) (DJ6_bitCount_0f7a4_0.at 0 rfl) 0 rfl rfl ?_
  refine gk_iload_n (pc := 1) (DJ6_bitCount_0f7a4_0.at 1 rfl) 0 rfl rfl ?_
  refine gk_iconst (pc := 2) (nI 1) (DJ6_bitCount_0f7a4_0.at 2 rfl) ci_1 ?_
  refine gk_iushr (pc := 3) (DJ6_bitCount_0f7a4_0.at 3 rfl) ?_
  refine gk_ldc_w (pc := 4) (nI 1431655765) (DJ6_bitCount_0f7a4_0.at 4 rfl) kcJ6_265 ?_
  refine gk_iand (pc := 7) (DJ6_bitCount_0f7a4_0.at 5 rfl) ?_
  refine gk_isub (pc := 8) (DJ6_bitCount_0f7a4_0.at 6 rfl) ?_
  refine gk_topi (fun w1 e1 => ?_)
  replace hv := hv w1 e1
  refine gk_istore_n (pc := 9) [(0, .int w1)] (DJ6_bitCount_0f7a4_0.at 7 rfl) rfl (Nat.le_of_ble_eq_true rfl) rfl ?_
  refine gk_iload_n (pc := 10) (DJ6_bitCount_0f7a4_0.at 8 rfl) 0 rfl rfl ?_
  refine gk_ldc_w (pc := 11) (nI 858993459) (DJ6_bitCount_0f7a4_0.at 9 rfl) kcJ6_266 ?_
  refine gk_iand (pc := 14) (DJ6_bitCount_0f7a4_0.at 10 rfl) ?_
  refine gk_iload_n (pc := 15) (DJ6_bitCount_0f7a4_0.at 11 rfl) 0 rfl rfl ?_
  refine gk_iconst (pc := 16) (nI 2) (DJ6_bitCount_0f7a4_0.at 12 rfl) ci_2 ?_
  refine gk_iushr (pc := 17) (DJ6_bitCount_0f7a4_0.at 13 rfl) ?_
  refine gk_ldc_w (pc := 18) (nI 858993459) (DJ6_bitCount_0f7a4_0.at 14 rfl) kcJ6_266 ?_
  refine gk_iand (pc := 21) (DJ6_bitCount_0f7a4_0.at 15 rfl) ?_
  refine gk_iadd (pc := 22) (DJ6_bitCount_0f7a4_0.at 16 rfl) ?_
  refine gk_topi (fun w2 e2 => ?_)
  replace hv := hv w2 e2
  refine gk_istore_n (pc := 23) [(0, .int w2)] (DJ6_bitCount_0f7a4_0.at 17 rfl) rfl (Nat.le_of_ble_eq_true rfl) rfl ?_
  refine gk_iload_n (pc := 24) (DJ6_bitCount_0f7a4_0.at 18 rfl) 0 rfl rfl ?_
  refine gk_iload_n (pc := 25) (DJ6_bitCount_0f7a4_0.at 19 rfl) 0 rfl rfl ?_
  refine gk_iconst (pc := 26) (nI 4) (DJ6_bitCount_0f7a4_0.at 20 rfl) ci_4 ?_
  refine gk_iushr (pc := 27) (DJ6_bitCount_0f7a4_0.at 21 rfl) ?_
  refine gk_iadd (pc := 28) (DJ6_bitCount_0f7a4_0.at 22 rfl) ?_
  refine gk_ldc_w (pc := 29) (nI 252645135) (DJ6_bitCount_0f7a4_0.at 23 rfl) kcJ6_267 ?_
  refine gk_iand (pc := 32) (DJ6_bitCount_0f7a4_0.at 24 rfl) ?_
  refine gk_topi (fun w3 e3 => ?_)
  replace hv := hv w3 e3
  refine gk_istore_n (pc := 33) [(0, .int w3)] (DJ6_bitCount_0f7a4_0.at 25 rfl) rfl (Nat.le_of_ble_eq_true rfl) rfl ?_
  refine gk_iload_n (pc := 34) (DJ6_bitCount_0f7a4_0.at 26 rfl) 0 rfl rfl ?_
  refine gk_iload_n (pc := 35) (DJ6_bitCount_0f7a4_0.at 27 rfl) 0 rfl rfl ?_
  refine gk_bipush (pc := 36) (nI 8) (DJ6_bitCount_0f7a4_0.at 28 rfl) cb_8 ?_
  refine gk_iushr (pc := 38) (DJ6_bitCount_0f7a4_0.at 29 rfl) ?_
  refine gk_iadd (pc := 39) (DJ6_bitCount_0f7a4_0.at 30 rfl) ?_
  refine gk_istore_n (pc := 40) [(0, .int (w3 + ((w3.toUInt32 >>> ((nI 8).toUInt32 &&& Int32.toUInt32 31)).toInt32)))] (DJ6_bitCount_0f7a4_0.at 31 rfl) rfl (Nat.le_of_ble_eq_true rfl) rfl ?_
  refine gk_iload_n (pc := 41) (DJ6_bitCount_0f7a4_0.at 32 rfl) 0 rfl rfl ?_
  refine gk_iload_n (pc := 42) (DJ6_bitCount_0f7a4_0.at 33 rfl) 0 rfl rfl ?_
  refine gk_bipush (pc := 43) (nI 16) (DJ6_bitCount_0f7a4_0.at 34 rfl) cb_16 ?_
  refine gk_iushr (pc := 45) (DJ6_bitCount_0f7a4_0.at 35 rfl) ?_
  refine gk_iadd (pc := 46) (DJ6_bitCount_0f7a4_0.at 36 rfl) ?_
  refine gk_topi (fun w4 e4 => ?_)
  replace hv := hv w4 e4
  refine gk_istore_n (pc := 47) [(0, .int w4)] (DJ6_bitCount_0f7a4_0.at 37 rfl) rfl (Nat.le_of_ble_eq_true rfl) rfl ?_
  refine gk_iload_n (pc := 48) (DJ6_bitCount_0f7a4_0.at 38 rfl) 0 rfl rfl ?_
  refine gk_bipush (pc := 49) (nI 63) (DJ6_bitCount_0f7a4_0.at 39 rfl) cb_63 ?_
  refine gk_iand (pc := 51) (DJ6_bitCount_0f7a4_0.at 40 rfl) ?_
  exact gk_ireturn (pc := 52) .int (DJ6_bitCount_0f7a4_0.at 41 rfl) rfl rfl ⟨_, rfl, hv⟩
