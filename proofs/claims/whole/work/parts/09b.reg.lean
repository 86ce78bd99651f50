set_option maxHeartbeats 4000000 in
theorem vX3_at_0 {E : gk_E} {dd : Nat} {o : Nat} {x1 : Int32} {x2 : Int32}  {h : gk_H} {K : Int32 → gk_H → Prop} (hv : LdR h o 3 1 fun v1 => AlI h v1 (((nI 6) * x1) + x2) fun v2 => K v2 h) : RnI E mX3_at (dd, 0, 0) [.ref o, .int x1, .int x2] h K := by
  show gk_G E mX3_at (dd, 0, 0) 0 [(0, .ref o), (1, .int x1), (2, .int x2)] [] h (fun o h1 => ∃ v, o = some (.int v) ∧ K v h1)
  refine gk_aload_n (pc := 0) (DX3_at_0.at 0 rfl) 0 rfl rfl ?_
  obtain ⟨fs1, v1, q1, r1, hv⟩ := hv
  refine gk_get (pc := 1) (.ref v1) (DX3_at_0.at 1 rfl) fX3_15_3 q1 r1 ?_
  refine gk_bipush (pc := 4) (nI 6) (DX3_at_0.at 2 rfl) cb_6 ?_
  refine gk_iload_n (pc := 6) (DX3_at_0.at 3 rfl) 1 rfl rfl ?_
  refine gk_imul (pc := 7) (DX3_at_0.at 4 rfl) ?_
  refine gk_iload_n (pc := 8) (DX3_at_0.at 5 rfl) 2 rfl rfl ?_
  refine gk_iadd (pc := 9) (DX3_at_0.at 6 rfl) ?_
  obtain ⟨n2, f2, q2, r2, hv⟩ := hv
  refine gk_iald (pc := 10) (DX3_at_0.at 7 rfl) q2 r2 ?_
  generalize f2 _ = v2 at hv ⊢
  exact gk_ireturn (pc := 11) .int (DX3_at_0.at 8 rfl) rfl rfl ⟨_, rfl, hv⟩
abbrev pX3_become_10 (E : gk_E) (dd : Nat) (o : Nat) (x1 : Nat) (x2 : Int32) (h : gk_H) (K : gk_H → Prop) : Prop := gk_G E mX3_become (dd, 0, 0) 10 [(0, .ref o), (1, .ref x1), (2, .int x2)] [] h (fun o h1 => o = none ∧ K h1)
set_option maxHeartbeats 4000000 in
theorem vX3_become_0 {E : gk_E} {dd : Nat} {o : Nat} {x1 : Nat}  {h : gk_H} {K : gk_H → Prop} (hv : LdI h x1 3 0 fun v1 => StI h o 3 0 v1 fun h2 => pX3_become_10 E dd o x1 (nI 0) h2 K) : RnV E mX3_become (dd, 0, 0) [.ref o, .ref x1] h K := by
  show gk_G E mX3_become (dd, 0, 0) 0 [(0, .ref o), (1, .ref x1)] [] h (fun o h1 => o = none ∧ K h1)
  refine gk_aload_n (pc := 0) (DX3_become_0.at 0 rfl) 0 rfl rfl ?_
  refine gk_aload_n (pc := 1) (DX3_become_0.at 1 rfl) 1 rfl rfl ?_
  obtain ⟨fs1, v1, q1, r1, hv⟩ := hv
  refine gk_get (pc := 2) (.int v1) (DX3_become_0.at 2 rfl) fX3_9_3 q1 r1 ?_
  obtain ⟨fs2, q2, r2, hv⟩ := hv
  refine gk_put (pc := 5) (DX3_become_0.at 3 rfl) fX3_9_3w q2 r2 rfl rfl ?_
  generalize h.set _ _ = h2 at hv ⊢
  refine gk_iconst (pc := 8) (nI 0) (DX3_become_0.at 4 rfl) ci_0 ?_
  refine gk_istore_n (pc := 9) [(2, .int (nI 0)), (0, .ref o), (1, .ref x1)] (DX3_become_0.at 5 rfl) rfl (Nat.le_of_ble_eq_true rfl) rfl ?_
  exact gk_pick (pc := 10) [(0, .ref o), (1, .ref x1), (2, .int (nI 0))] [1, 2, 0] rfl hv
set_option maxHeartbeats 4000000 in
theorem vX3_become_10 {E : gk_E} {dd : Nat} {o : Nat} {x1 : Nat} {x2 : Int32}  {h : gk_H} {K : gk_H → Prop} (hv : LdR h o 3 1 fun v1 => Len h v1 fun v2 => (v2 ≤ x2 → K h) ∧ (¬ v2 ≤ x2 → LdR h o 3 1 fun v3 => LdR h x1 3 1 fun v4 => AlI h v4 x2 fun v5 => AsI h v3 x2 v5 fun h6 => pX3_become_10 E dd o x1 (x2 + nI 1) h6 K)) : pX3_become_10 E dd o x1 x2 h K := by
  show gk_G E mX3_become (dd, 0, 0) 10 [(0, .ref o), (1, .ref x1), (2, .int x2)] [] h (fun o h1 => o = none ∧ K h1)
  refine gk_iload_n (pc := 10) (DX3_become_0.at 6 rfl) 2 rfl rfl ?_
  refine gk_aload_n (pc := 11) (DX3_become_0.at 7 rfl) 0 rfl rfl ?_
  obtain ⟨fs1, v1, q1, r1, hv⟩ := hv
  refine gk_get (pc := 12) (.ref v1) (DX3_become_0.at 8 rfl) fX3_15_3 q1 r1 ?_
  obtain ⟨tt2, ar2, v2, q2, r2, e2, hv⟩ := hv
  refine gk_alen (pc := 15) v2 (DX3_become_0.at 9 rfl) q2 r2 e2 ?_
  refine gk_icmp_ge (pc := 16) 37 (DX3_become_0.at 10 rfl) (by decide) (fun c => ?_) (fun c => ?_)
  · replace hv := hv.1 c
    exact gk_return (pc := 37) (DX3_become_0.at 21 rfl) rfl ⟨rfl, hv⟩
  · replace hv := hv.2 c
    refine gk_aload_n (pc := 19) (DX3_become_0.at 11 rfl) 0 rfl rfl ?_
    obtain ⟨fs3, v3, q3, r3, hv⟩ := hv
    refine gk_get (pc := 20) (.ref v3) (DX3_become_0.at 12 rfl) fX3_15_3 q3 r3 ?_
    refine gk_iload_n (pc := 23) (DX3_become_0.at 13 rfl) 2 rfl rfl ?_
    refine gk_aload_n (pc := 24) (DX3_become_0.at 14 rfl) 1 rfl rfl ?_
    obtain ⟨fs4, v4, q4, r4, hv⟩ := hv
    refine gk_get (pc := 25) (.ref v4) (DX3_become_0.at 15 rfl) fX3_15_3 q4 r4 ?_
    refine gk_iload_n (pc := 28) (DX3_become_0.at 16 rfl) 2 rfl rfl ?_
    obtain ⟨n5, f5, q5, r5, hv⟩ := hv
    refine gk_iald (pc := 29) (DX3_become_0.at 17 rfl) q5 r5 ?_
    generalize f5 _ = v5 at hv ⊢
    obtain ⟨n6, f6, q6, r6, hv⟩ := hv
    refine gk_iast (pc := 30) (DX3_become_0.at 18 rfl) q6 r6 ?_
    generalize h.set _ _ = h6 at hv ⊢
    refine gk_iinc (pc := 31) (x2 + nI 1) [(2, .int (x2 + nI 1)), (0, .ref o), (1, .ref x1)] 2 (DX3_become_0.at 19 rfl) rfl (by rw [ci_1]) (Nat.le_of_ble_eq_true rfl) rfl ?_
    refine gk_goto (pc := 34) 10 (DX3_become_0.at 20 rfl) (by decide) ?_
    exact gk_pick (pc := 10) [(0, .ref o), (1, .ref x1), (2, .int (x2 + nI 1))] [1, 2, 0] rfl hv
abbrev pX3_gapAt_5 (E : gk_E) (dd : Nat) (o : Nat) (x1 : Nat) (x2 : Int32) (x3 : Int32) (x4 : Int32) (h : gk_H) (K : Int32 → gk_H → Prop) : Prop := gk_G E mX3_gapAt (dd + 1, 0, 0) 5 [(0, .ref o), (1, .ref x1), (2, .int x2), (3, .int x3), (4, .int x4)] [] h (fun o h1 => ∃ v, o = some (.int v) ∧ K v h1)
abbrev pX3_gapAt_18 (E : gk_E) (dd : Nat) (o : Nat) (x1 : Nat) (x2 : Int32) (x3 : Int32) (x4 : Int32) (x5 : Int32) (h : gk_H) (K : Int32 → gk_H → Prop) : Prop := gk_G E mX3_gapAt (dd + 1, 0, 0) 18 [(0, .ref o), (1, .ref x1), (2, .int x2), (3, .int x3), (4, .int x4), (5, .int x5)] [] h (fun o h1 => ∃ v, o = some (.int v) ∧ K v h1)
set_option maxHeartbeats 4000000 in
theorem vX3_gapAt_0 {E : gk_E} {dd : Nat} {o : Nat} {x1 : Nat} {x2 : Int32}  {h : gk_H} {K : Int32 → gk_H → Prop} (hv : pX3_gapAt_5 E dd o x1 x2 (nI 0) (nI 0) h K) : RnI E mX3_gapAt (dd + 1, 0, 0) [.ref o, .ref x1, .int x2] h K := by
  show gk_G E mX3_gapAt (dd + 1, 0, 0) 0 [(0, .ref o), (1, .ref x1), (2, .int x2)] [] h (fun o h1 => ∃ v, o = some (.int v) ∧ K v h1)
  refine gk_iconst (pc := 0) (nI 0) (DX3_gapAt_0.at 0 rfl) ci_0 ?_
  refine gk_istore_n (pc := 1) [(3, .int (nI 0)), (0, .ref o), (1, .ref x1), (2, .int x2)] (DX3_gapAt_0.at 1 rfl) rfl (Nat.le_of_ble_eq_true rfl) rfl ?_
  refine gk_iconst (pc := 2) (nI 0) (DX3_gapAt_0.at 2 rfl) ci_0 ?_
  refine gk_istore (pc := 3) [(4, .int (nI 0)), (3, .int (nI 0)), (0, .ref o), (1, .ref x1), (2, .int x2)] (DX3_gapAt_0.at 3 rfl) (Nat.le_of_ble_eq_true rfl) rfl ?_
  exact gk_pick (pc := 5) [(0, .ref o), (1, .ref x1), (2, .int x2), (3, .int (nI 0)), (4, .int (nI 0))] [2, 3, 4, 1, 0] rfl hv
set_option maxHeartbeats 4000000 in
theorem vX3_gapAt_5 {E : gk_E} {dd : Nat} {o : Nat} {x1 : Nat} {x2 : Int32} {x3 : Int32} {x4 : Int32}  {h : gk_H} {K : Int32 → gk_H → Prop} (hv : LdI h o 3 0 fun v1 => (v1 ≤ x4 → (¬ x2 = ((-1)) → K ((-1)) h) ∧ (x2 = ((-1)) → K x3 h)) ∧ (¬ v1 ≤ x4 → pX3_gapAt_18 E dd o x1 x2 x3 x4 x4 h K)) : pX3_gapAt_5 E dd o x1 x2 x3 x4 h K := by
  show gk_G E mX3_gapAt (dd + 1, 0, 0) 5 [(0, .ref o), (1, .ref x1), (2, .int x2), (3, .int x3), (4, .int x4)] [] h (fun o h1 => ∃ v, o = some (.int v) ∧ K v h1)
  refine gk_iload (pc := 5) (DX3_gapAt_0.at 4 rfl) 4 rfl ?_
  refine gk_aload_n (pc := 7) (DX3_gapAt_0.at 5 rfl) 0 rfl rfl ?_
  obtain ⟨fs1, v1, q1, r1, hv⟩ := hv
  refine gk_get (pc := 8) (.int v1) (DX3_gapAt_0.at 6 rfl) fX3_9_3 q1 r1 ?_
  refine gk_icmp_ge (pc := 11) 91 (DX3_gapAt_0.at 7 rfl) (by decide) (fun c => ?_) (fun c => ?_)
  · replace hv := hv.1 c
    refine gk_iload_n (pc := 91) (DX3_gapAt_0.at 48 rfl) 2 rfl rfl ?_
    refine gk_iconst (pc := 92) ((-1)) (DX3_gapAt_0.at 49 rfl) ci_m1 ?_
    refine gk_icmp_ne (pc := 93) 100 (DX3_gapAt_0.at 50 rfl) (by decide) (fun c => ?_) (fun c => ?_)
    · replace hv := hv.1 c
      refine gk_iconst (pc := 100) ((-1)) (DX3_gapAt_0.at 53 rfl) ci_m1 ?_
      exact gk_ireturn (pc := 101) .int (DX3_gapAt_0.at 54 rfl) rfl rfl ⟨_, rfl, hv⟩
    · replace hv := hv.2 c
      refine gk_iload_n (pc := 96) (DX3_gapAt_0.at 51 rfl) 3 rfl rfl ?_
      refine gk_goto (pc := 97) 101 (DX3_gapAt_0.at 52 rfl) (by decide) ?_
      exact gk_ireturn (pc := 101) .int (DX3_gapAt_0.at 54 rfl) rfl rfl ⟨_, rfl, hv⟩
  · replace hv := hv.2 c
    refine gk_iload (pc := 14) (DX3_gapAt_0.at 8 rfl) 4 rfl ?_
    refine gk_istore (pc := 16) [(5, .int x4), (0, .ref o), (1, .ref x1), (2, .int x2), (3, .int x3), (4, .int x4)] (DX3_gapAt_0.at 9 rfl) (Nat.le_of_ble_eq_true rfl) rfl ?_
    exact gk_pick (pc := 18) [(0, .ref o), (1, .ref x1), (2, .int x2), (3, .int x3), (4, .int x4), (5, .int x4)] [1, 2, 3, 4, 5, 0] rfl hv
set_option maxHeartbeats 4000000 in
theorem vX3_gapAt_18 {E : gk_E} {dd : Nat} {o : Nat} {x1 : Nat} {x2 : Int32} {x3 : Int32} {x4 : Int32} {x5 : Int32}  {h : gk_H} {K : Int32 → gk_H → Prop} (hv : LdI h o 3 0 fun v1 => (v1 ≤ x5 → pX3_gapAt_5 E dd o x1 x2 x3 (x4 + nI 1) h K) ∧ (¬ v1 ≤ x5 → (∃ fs, h[o]? = some (.inr (3, fs))) ∧ RnI E mX3_open (dd, 0, 0) [.ref o, .ref x1, .int x4, .int x5] h (fun v2 h2 => RnI E mJ6_bitCount_0f7a4 (dd, 0, 0) [.int v2] h2 (fun v3 h3 => (x2 < x3 → pX3_gapAt_18 E dd o x1 x2 (x3 + v3) x4 (x5 + nI 1) h3 K) ∧ (¬ x2 < x3 → ((x3 + v3) ≤ x2 → pX3_gapAt_18 E dd o x1 x2 (x3 + v3) x4 (x5 + nI 1) h3 K) ∧ (¬ (x3 + v3) ≤ x2 → RnI E mX3_placeOf (dd, 0, 0) [.int v2, .int (x2 - x3)] h3 (fun v4 h4 => RnI E mX3_gapNumber (dd, 0, 0) [.int x4, .int x5, .int v4] h4 (fun v5 h5 => K v5 h5)))))))) : pX3_gapAt_18 E dd o x1 x2 x3 x4 x5 h K := by
  show gk_G E mX3_gapAt (dd + 1, 0, 0) 18 [(0, .ref o), (1, .ref x1), (2, .int x2), (3, .int x3), (4, .int x4), (5, .int x5)] [] h (fun o h1 => ∃ v, o = some (.int v) ∧ K v h1)
  refine gk_iload (pc := 18) (DX3_gapAt_0.at 10 rfl) 5 rfl ?_
  refine gk_aload_n (pc := 20) (DX3_gapAt_0.at 11 rfl) 0 rfl rfl ?_
  obtain ⟨fs1, v1, q1, r1, hv⟩ := hv
  refine gk_get (pc := 21) (.int v1) (DX3_gapAt_0.at 12 rfl) fX3_9_3 q1 r1 ?_
  refine gk_icmp_ge (pc := 24) 85 (DX3_gapAt_0.at 13 rfl) (by decide) (fun c => ?_) (fun c => ?_)
  · replace hv := hv.1 c
    refine gk_iinc (pc := 85) (x4 + nI 1) [(4, .int (x4 + nI 1)), (0, .ref o), (1, .ref x1), (2, .int x2), (3, .int x3), (5, .int x5)] 4 (DX3_gapAt_0.at 46 rfl) rfl (by rw [ci_1]) (Nat.le_of_ble_eq_true rfl) rfl ?_
    refine gk_goto (pc := 88) 5 (DX3_gapAt_0.at 47 rfl) (by decide) ?_
    exact gk_pick (pc := 5) [(0, .ref o), (1, .ref x1), (2, .int x2), (3, .int x3), (4, .int (x4 + nI 1))] [1, 2, 3, 4, 0] rfl hv
  · replace hv := hv.2 c
    refine gk_aload_n (pc := 27) (DX3_gapAt_0.at 14 rfl) 0 rfl rfl ?_
    refine gk_aload_n (pc := 28) (DX3_gapAt_0.at 15 rfl) 1 rfl rfl ?_
    refine gk_iload (pc := 29) (DX3_gapAt_0.at 16 rfl) 4 rfl ?_
    refine gk_iload (pc := 31) (DX3_gapAt_0.at 17 rfl) 5 rfl ?_
    obtain ⟨⟨fs2, q2⟩, hv⟩ := hv
    refine gk_vV (pc := 33) [.ref x1, .int x4, .int x5] [] (DX3_gapAt_0.at 18 rfl) cvX3_37 q2 rfl rfl (Nat.le_of_ble_eq_true rfl) (Nat.le_of_ble_eq_true rfl) (gk_Run.post (fun o h2 z => ?_) hv)
    obtain ⟨v2, rfl, hv⟩ := z
    refine gk_istore (pc := 36) [(6, .int v2), (0, .ref o), (1, .ref x1), (2, .int x2), (3, .int x3), (4, .int x4), (5, .int x5)] (DX3_gapAt_0.at 19 rfl) (Nat.le_of_ble_eq_true rfl) rfl ?_
    refine gk_iload (pc := 38) (DX3_gapAt_0.at 20 rfl) 0 rfl ?_
    refine gk_vS (pc := 40) [.int v2] [] (DX3_gapAt_0.at 21 rfl) csX3_41 rfl rfl (Nat.le_of_ble_eq_true rfl) (Nat.le_of_ble_eq_true rfl) (gk_Run.post (fun o h3 z => ?_) hv)
    obtain ⟨v3, rfl, hv⟩ := z
    refine gk_istore (pc := 43) [(7, .int v3), (6, .int v2), (0, .ref o), (1, .ref x1), (2, .int x2), (3, .int x3), (4, .int x4), (5, .int x5)] (DX3_gapAt_0.at 22 rfl) (Nat.le_of_ble_eq_true rfl) rfl ?_
    refine gk_iload_n (pc := 45) (DX3_gapAt_0.at 23 rfl) 4 rfl rfl ?_
    refine gk_iload_n (pc := 46) (DX3_gapAt_0.at 24 rfl) 5 rfl rfl ?_
    refine gk_icmp_lt (pc := 47) 74 (DX3_gapAt_0.at 25 rfl) (by decide) (fun c => ?_) (fun c => ?_)
    · replace hv := hv.1 c
      refine gk_iload_n (pc := 74) (DX3_gapAt_0.at 40 rfl) 5 rfl rfl ?_
      refine gk_iload (pc := 75) (DX3_gapAt_0.at 41 rfl) 0 rfl ?_
      refine gk_iadd (pc := 77) (DX3_gapAt_0.at 42 rfl) ?_
      refine gk_istore_n (pc := 78) [(3, .int (x3 + v3)), (7, .int v3), (6, .int v2), (0, .ref o), (1, .ref x1), (2, .int x2), (4, .int x4), (5, .int x5)] (DX3_gapAt_0.at 43 rfl) rfl (Nat.le_of_ble_eq_true rfl) rfl ?_
      refine gk_iinc (pc := 79) (x5 + nI 1) [(5, .int (x5 + nI 1)), (3, .int (x3 + v3)), (7, .int v3), (6, .int v2), (0, .ref o), (1, .ref x1), (2, .int x2), (4, .int x4)] 7 (DX3_gapAt_0.at 44 rfl) rfl (by rw [ci_1]) (Nat.le_of_ble_eq_true rfl) rfl ?_
      refine gk_goto (pc := 82) 18 (DX3_gapAt_0.at 45 rfl) (by decide) ?_
      exact gk_pick (pc := 18) [(0, .ref o), (1, .ref x1), (2, .int x2), (3, .int (x3 + v3)), (4, .int x4), (5, .int (x5 + nI 1))] [4, 5, 6, 1, 7, 0] rfl hv
    · replace hv := hv.2 c
      refine gk_iload_n (pc := 50) (DX3_gapAt_0.at 26 rfl) 4 rfl rfl ?_
      refine gk_iload_n (pc := 51) (DX3_gapAt_0.at 27 rfl) 5 rfl rfl ?_
      refine gk_iload (pc := 52) (DX3_gapAt_0.at 28 rfl) 0 rfl ?_
      refine gk_iadd (pc := 54) (DX3_gapAt_0.at 29 rfl) ?_
      refine gk_icmp_ge (pc := 55) 74 (DX3_gapAt_0.at 30 rfl) (by decide) (fun c => ?_) (fun c => ?_)
      · replace hv := hv.1 c
        refine gk_iload_n (pc := 74) (DX3_gapAt_0.at 40 rfl) 5 rfl rfl ?_
        refine gk_iload (pc := 75) (DX3_gapAt_0.at 41 rfl) 0 rfl ?_
        refine gk_iadd (pc := 77) (DX3_gapAt_0.at 42 rfl) ?_
        refine gk_istore_n (pc := 78) [(3, .int (x3 + v3)), (7, .int v3), (6, .int v2), (0, .ref o), (1, .ref x1), (2, .int x2), (4, .int x4), (5, .int x5)] (DX3_gapAt_0.at 43 rfl) rfl (Nat.le_of_ble_eq_true rfl) rfl ?_
        refine gk_iinc (pc := 79) (x5 + nI 1) [(5, .int (x5 + nI 1)), (3, .int (x3 + v3)), (7, .int v3), (6, .int v2), (0, .ref o), (1, .ref x1), (2, .int x2), (4, .int x4)] 7 (DX3_gapAt_0.at 44 rfl) rfl (by rw [ci_1]) (Nat.le_of_ble_eq_true rfl) rfl ?_
        refine gk_goto (pc := 82) 18 (DX3_gapAt_0.at 45 rfl) (by decide) ?_
        exact gk_pick (pc := 18) [(0, .ref o), (1, .ref x1), (2, .int x2), (3, .int (x3 + v3)), (4, .int x4), (5, .int (x5 + nI 1))] [4, 5, 6, 1, 7, 0] rfl hv
      · replace hv := hv.2 c
        refine gk_iload (pc := 58) (DX3_gapAt_0.at 31 rfl) 6 rfl ?_
        refine gk_iload (pc := 60) (DX3_gapAt_0.at 32 rfl) 7 rfl ?_
        refine gk_iload (pc := 62) (DX3_gapAt_0.at 33 rfl) 1 rfl ?_
        refine gk_iload_n (pc := 64) (DX3_gapAt_0.at 34 rfl) 4 rfl rfl ?_
        refine gk_iload_n (pc := 65) (DX3_gapAt_0.at 35 rfl) 5 rfl rfl ?_
        refine gk_isub (pc := 66) (DX3_gapAt_0.at 36 rfl) ?_
        refine gk_vS (pc := 67) [.int v2, .int (x2 - x3)] [.int x5, .int x4] (DX3_gapAt_0.at 37 rfl) csX3_47 rfl rfl (Nat.le_of_ble_eq_true rfl) (Nat.le_of_ble_eq_true rfl) (gk_Run.post (fun o h4 z => ?_) hv)
        obtain ⟨v4, rfl, hv⟩ := z
        refine gk_vS (pc := 70) [.int x4, .int x5, .int v4] [] (DX3_gapAt_0.at 38 rfl) csX3_50 rfl rfl (Nat.le_of_ble_eq_true rfl) (Nat.le_of_ble_eq_true rfl) (gk_Run.post (fun o h5 z => ?_) hv)
        obtain ⟨v5, rfl, hv⟩ := z
        exact gk_ireturn (pc := 73) .int (DX3_gapAt_0.at 39 rfl) rfl rfl ⟨_, rfl, hv⟩
set_option maxHeartbeats 4000000 in
theorem vX3_gapNumber_0 {E : gk_E} {dd : Nat} {x0 : Int32} {x1 : Int32} {x2 : Int32}  {h : gk_H} {K : Int32 → gk_H → Prop} (hv : K (((((nI 1000) * x0) + ((nI 100) * x1)) + ((nI 10) * (x2 >>> ((nI 2) &&& 31)))) + (x2 &&& (nI 3))) h) : RnI E mX3_gapNumber (dd, 0, 0) [.int x0, .int x1, .int x2] h K := by
  show gk_G E mX3_gapNumber (dd, 0, 0) 0 [(0, .int x0), (1, .int x1), (2, .int x2)] [] h (fun o h1 => ∃ v, o = some (.int v) ∧ K v h1)
  refine gk_sipush (pc := 0) (nI 1000) (DX3_gapNumber_0.at 0 rfl) cs_1000 ?_
  refine gk_iload_n (pc := 3) (DX3_gapNumber_0.at 1 rfl) 0 rfl rfl ?_
  refine gk_imul (pc := 4) (DX3_gapNumber_0.at 2 rfl) ?_
  refine gk_bipush (pc := 5) (nI 100) (DX3_gapNumber_0.at 3 rfl) cb_100 ?_
  refine gk_iload_n (pc := 7) (DX3_gapNumber_0.at 4 rfl) 1 rfl rfl ?_
  refine gk_imul (pc := 8) (DX3_gapNumber_0.at 5 rfl) ?_
  refine gk_iadd (pc := 9) (DX3_gapNumber_0.at 6 rfl) ?_
  refine gk_bipush (pc := 10) (nI 10) (DX3_gapNumber_0.at 7 rfl) cb_10 ?_
  refine gk_iload_n (pc := 12) (DX3_gapNumber_0.at 8 rfl) 2 rfl rfl ?_
  refine gk_iconst (pc := 13) (nI 2) (DX3_gapNumber_0.at 9 rfl) ci_2 ?_
  refine gk_ishr (pc := 14) (DX3_gapNumber_0.at 10 rfl) ?_
  refine gk_imul (pc := 15) (DX3_gapNumber_0.at 11 rfl) ?_
  refine gk_iadd (pc := 16) (DX3_gapNumber_0.at 12 rfl) ?_
  refine gk_iload_n (pc := 17) (DX3_gapNumber_0.at 13 rfl) 2 rfl rfl ?_
  refine gk_iconst (pc := 18) (nI 3) (DX3_gapNumber_0.at 14 rfl) ci_3 ?_
  refine gk_iand (pc := 19) (DX3_gapNumber_0.at 15 rfl) ?_
  refine gk_iadd (pc := 20) (DX3_gapNumber_0.at 16 rfl) ?_
  exact gk_ireturn (pc := 21) .int (DX3_gapNumber_0.at 17 rfl) rfl rfl ⟨_, rfl, hv⟩
abbrev pX3_grow_2 (E : gk_E) (dd : Nat) (o : Nat) (x1 : Nat) (x2 : Nat) (x3 : Int32) (h : gk_H) (K : gk_H → Prop) : Prop := gk_G E mX3_grow (dd + 1, 0, 0) 2 [(0, .ref o), (1, .ref x1), (2, .ref x2), (3, .int x3)] [] h (fun o h1 => o = none ∧ K h1)
set_option maxHeartbeats 4000000 in
theorem vX3_grow_0 {E : gk_E} {dd : Nat} {o : Nat} {x1 : Nat} {x2 : Nat}  {h : gk_H} {K : gk_H → Prop} (hv : pX3_grow_2 E dd o x1 x2 (nI 0) h K) : RnV E mX3_grow (dd + 1, 0, 0) [.ref o, .ref x1, .ref x2] h K := by
  show gk_G E mX3_grow (dd + 1, 0, 0) 0 [(0, .ref o), (1, .ref x1), (2, .ref x2)] [] h (fun o h1 => o = none ∧ K h1)
  refine gk_iconst (pc := 0) (nI 0) (DX3_grow_0.at 0 rfl) ci_0 ?_
  refine gk_istore_n (pc := 1) [(3, .int (nI 0)), (0, .ref o), (1, .ref x1), (2, .ref x2)] (DX3_grow_0.at 1 rfl) rfl (Nat.le_of_ble_eq_true rfl) rfl ?_
  exact gk_pick (pc := 2) [(0, .ref o), (1, .ref x1), (2, .ref x2), (3, .int (nI 0))] [1, 2, 3, 0] rfl hv
set_option maxHeartbeats 4000000 in
theorem vX3_grow_2 {E : gk_E} {dd : Nat} {o : Nat} {x1 : Nat} {x2 : Nat} {x3 : Int32}  {h : gk_H} {K : gk_H → Prop} (hv : LdI h o 3 0 fun v1 => (v1 ≤ x3 → LdI h o 3 0 fun v2 => StI h o 3 0 (v2 + (nI 1)) fun h3 => K h3) ∧ (¬ v1 ≤ x3 → LdI h o 3 0 fun v4 => AlI h x1 x3 fun v5 => (∃ fs, h[o]? = some (.inr (3, fs))) ∧ RnV E mX3_link (dd, 0, 0) [.ref o, .int x3, .int v4, .int v5, .ref x2] h (fun h6 => pX3_grow_2 E dd o x1 x2 (x3 + nI 1) h6 K))) : pX3_grow_2 E dd o x1 x2 x3 h K := by
  show gk_G E mX3_grow (dd + 1, 0, 0) 2 [(0, .ref o), (1, .ref x1), (2, .ref x2), (3, .int x3)] [] h (fun o h1 => o = none ∧ K h1)
  refine gk_iload_n (pc := 2) (DX3_grow_0.at 2 rfl) 3 rfl rfl ?_
  refine gk_aload_n (pc := 3) (DX3_grow_0.at 3 rfl) 0 rfl rfl ?_
  obtain ⟨fs1, v1, q1, r1, hv⟩ := hv
  refine gk_get (pc := 4) (.int v1) (DX3_grow_0.at 4 rfl) fX3_9_3 q1 r1 ?_
  refine gk_icmp_ge (pc := 7) 29 (DX3_grow_0.at 5 rfl) (by decide) (fun c => ?_) (fun c => ?_)
  · replace hv := hv.1 c
    refine gk_aload_n (pc := 29) (DX3_grow_0.at 17 rfl) 0 rfl rfl ?_
    refine gk_dup (pc := 30) (DX3_grow_0.at 18 rfl) rfl ?_
    obtain ⟨fs2, v2, q2, r2, hv⟩ := hv
    refine gk_get (pc := 31) (.int v2) (DX3_grow_0.at 19 rfl) fX3_9_3 q2 r2 ?_
    refine gk_iconst (pc := 34) (nI 1) (DX3_grow_0.at 20 rfl) ci_1 ?_
    refine gk_iadd (pc := 35) (DX3_grow_0.at 21 rfl) ?_
    obtain ⟨fs3, q3, r3, hv⟩ := hv
    refine gk_put (pc := 36) (DX3_grow_0.at 22 rfl) fX3_9_3w q3 r3 rfl rfl ?_
    generalize h.set _ _ = h3 at hv ⊢
    exact gk_return (pc := 39) (DX3_grow_0.at 23 rfl) rfl ⟨rfl, hv⟩
  · replace hv := hv.2 c
    refine gk_aload_n (pc := 10) (DX3_grow_0.at 6 rfl) 0 rfl rfl ?_
    refine gk_iload_n (pc := 11) (DX3_grow_0.at 7 rfl) 3 rfl rfl ?_
    refine gk_aload_n (pc := 12) (DX3_grow_0.at 8 rfl) 0 rfl rfl ?_
    obtain ⟨fs4, v4, q4, r4, hv⟩ := hv
    refine gk_get (pc := 13) (.int v4) (DX3_grow_0.at 9 rfl) fX3_9_3 q4 r4 ?_
    refine gk_aload_n (pc := 16) (DX3_grow_0.at 10 rfl) 1 rfl rfl ?_
    refine gk_iload_n (pc := 17) (DX3_grow_0.at 11 rfl) 3 rfl rfl ?_
    obtain ⟨n5, f5, q5, r5, hv⟩ := hv
    refine gk_iald (pc := 18) (DX3_grow_0.at 12 rfl) q5 r5 ?_
    generalize f5 _ = v5 at hv ⊢
    refine gk_aload_n (pc := 19) (DX3_grow_0.at 13 rfl) 2 rfl rfl ?_
    obtain ⟨⟨fs6, q6⟩, hv⟩ := hv
    refine gk_vV (pc := 20) [.int x3, .int v4, .int v5, .ref x2] [] (DX3_grow_0.at 14 rfl) cvX3_24 q6 rfl rfl (Nat.le_of_ble_eq_true rfl) (Nat.le_of_ble_eq_true rfl) (gk_Run.post (fun o h6 z => ?_) hv)
    obtain ⟨rfl, hv⟩ := z
    refine gk_iinc (pc := 23) (x3 + nI 1) [(3, .int (x3 + nI 1)), (0, .ref o), (1, .ref x1), (2, .ref x2)] 3 (DX3_grow_0.at 15 rfl) rfl (by rw [ci_1]) (Nat.le_of_ble_eq_true rfl) rfl ?_
    refine gk_goto (pc := 26) 2 (DX3_grow_0.at 16 rfl) (by decide) ?_
    exact gk_pick (pc := 2) [(0, .ref o), (1, .ref x1), (2, .ref x2), (3, .int (x3 + nI 1))] [1, 2, 3, 0] rfl hv
set_option maxHeartbeats 4000000 in
theorem vX3_lacks_0 {E : gk_E} {dd : Nat} {o : Nat} {x1 : Nat} {x2 : Int32}  {h : gk_H} {K : Int32 → gk_H → Prop} (hv : (x2 < 0 → K (nI 0) h) ∧ (¬ x2 < 0 → (((x2 / (nI 100)) - (x2 / (nI 100)) / (nI 10) * (nI 10)) < (x2 / (nI 1000)) → K (nI 0) h) ∧ (¬ ((x2 / (nI 100)) - (x2 / (nI 100)) / (nI 10) * (nI 10)) < (x2 / (nI 1000)) → LdI h o 3 0 fun v1 => (v1 ≤ ((x2 / (nI 100)) - (x2 / (nI 100)) / (nI 10) * (nI 10)) → K (nI 0) h) ∧ (¬ v1 ≤ ((x2 / (nI 100)) - (x2 / (nI 100)) / (nI 10) * (nI 10)) → LdI h x1 8 0 fun v2 => (v2 ≤ ((x2 / (nI 10)) - (x2 / (nI 10)) / (nI 10) * (nI 10)) → K (nI 0) h) ∧ (¬ v2 ≤ ((x2 / (nI 10)) - (x2 / (nI 10)) / (nI 10) * (nI 10)) → LdI h x1 8 0 fun v3 => ((x2 - x2 / (nI 10) * (nI 10)) < v3 → (∃ fs, h[o]? = some (.inr (3, fs))) ∧ RnI E mX3_open (dd, 0, 0) [.ref o, .ref x1, .int (x2 / (nI 1000)), .int ((x2 / (nI 100)) - (x2 / (nI 100)) / (nI 10) * (nI 10))] h (fun v4 h4 => (¬ ((v4 >>> ((((nI 4) * ((x2 / (nI 10)) - (x2 / (nI 10)) / (nI 10) * (nI 10))) + (x2 - x2 / (nI 10) * (nI 10))) &&& 31)) &&& (nI 1)) = (nI 1) → K (nI 0) h4) ∧ (((v4 >>> ((((nI 4) * ((x2 / (nI 10)) - (x2 / (nI 10)) / (nI 10) * (nI 10))) + (x2 - x2 / (nI 10) * (nI 10))) &&& 31)) &&& (nI 1)) = (nI 1) → K (nI 1) h4))) ∧ (¬ (x2 - x2 / (nI 10) * (nI 10)) < v3 → K (nI 0) h)))))) : RnI E mX3_lacks (dd + 1, 0, 0) [.ref o, .ref x1, .int x2] h K := by
  show gk_G E mX3_lacks (dd + 1, 0, 0) 0 [(0, .ref o), (1, .ref x1), (2, .int x2)] [] h (fun o h1 => ∃ v, o = some (.int v) ∧ K v h1)
  refine gk_iload_n (pc := 0) (DX3_lacks_0.at 0 rfl) 2 rfl rfl ?_
  refine gk_sipush (pc := 1) (nI 1000) (DX3_lacks_0.at 1 rfl) cs_1000 ?_
  refine gk_idiv (pc := 4) (DX3_lacks_0.at 2 rfl) (by decide) ?_
  refine gk_istore_n (pc := 5) [(3, .int (x2 / (nI 1000))), (0, .ref o), (1, .ref x1), (2, .int x2)] (DX3_lacks_0.at 3 rfl) rfl (Nat.le_of_ble_eq_true rfl) rfl ?_
  refine gk_iload_n (pc := 6) (DX3_lacks_0.at 4 rfl) 3 rfl rfl ?_
  refine gk_bipush (pc := 7) (nI 100) (DX3_lacks_0.at 5 rfl) cb_100 ?_
  refine gk_idiv (pc := 9) (DX3_lacks_0.at 6 rfl) (by decide) ?_
  refine gk_bipush (pc := 10) (nI 10) (DX3_lacks_0.at 7 rfl) cb_10 ?_
  refine gk_irem (pc := 12) (DX3_lacks_0.at 8 rfl) (by decide) ?_
  refine gk_istore (pc := 13) [(4, .int ((x2 / (nI 100)) - (x2 / (nI 100)) / (nI 10) * (nI 10))), (3, .int (x2 / (nI 1000))), (0, .ref o), (1, .ref x1), (2, .int x2)] (DX3_lacks_0.at 9 rfl) (Nat.le_of_ble_eq_true rfl) rfl ?_
  refine gk_iload_n (pc := 15) (DX3_lacks_0.at 10 rfl) 4 rfl rfl ?_
  refine gk_bipush (pc := 16) (nI 10) (DX3_lacks_0.at 11 rfl) cb_10 ?_
  refine gk_idiv (pc := 18) (DX3_lacks_0.at 12 rfl) (by decide) ?_
  refine gk_bipush (pc := 19) (nI 10) (DX3_lacks_0.at 13 rfl) cb_10 ?_
  refine gk_irem (pc := 21) (DX3_lacks_0.at 14 rfl) (by decide) ?_
  refine gk_istore (pc := 22) [(5, .int ((x2 / (nI 10)) - (x2 / (nI 10)) / (nI 10) * (nI 10))), (4, .int ((x2 / (nI 100)) - (x2 / (nI 100)) / (nI 10) * (nI 10))), (3, .int (x2 / (nI 1000))), (0, .ref o), (1, .ref x1), (2, .int x2)] (DX3_lacks_0.at 15 rfl) (Nat.le_of_ble_eq_true rfl) rfl ?_
  refine gk_iload_n (pc := 24) (DX3_lacks_0.at 16 rfl) 5 rfl rfl ?_
  refine gk_bipush (pc := 25) (nI 10) (DX3_lacks_0.at 17 rfl) cb_10 ?_
  refine gk_irem (pc := 27) (DX3_lacks_0.at 18 rfl) (by decide) ?_
  refine gk_istore (pc := 28) [(6, .int (x2 - x2 / (nI 10) * (nI 10))), (5, .int ((x2 / (nI 10)) - (x2 / (nI 10)) / (nI 10) * (nI 10))), (4, .int ((x2 / (nI 100)) - (x2 / (nI 100)) / (nI 10) * (nI 10))), (3, .int (x2 / (nI 1000))), (0, .ref o), (1, .ref x1), (2, .int x2)] (DX3_lacks_0.at 19 rfl) (Nat.le_of_ble_eq_true rfl) rfl ?_
  refine gk_iload_n (pc := 30) (DX3_lacks_0.at 20 rfl) 6 rfl rfl ?_
  refine gk_if_lt (pc := 31) 67 (DX3_lacks_0.at 21 rfl) (by decide) (fun c => ?_) (fun c => ?_)
  · replace hv := hv.1 c
    refine gk_iconst (pc := 67) (nI 0) (DX3_lacks_0.at 37 rfl) ci_0 ?_
    exact gk_ireturn (pc := 68) .boolean (DX3_lacks_0.at 38 rfl) rfl rfl ⟨_, rfl, hv⟩
  · replace hv := hv.2 c
    refine gk_iload_n (pc := 34) (DX3_lacks_0.at 22 rfl) 3 rfl rfl ?_
    refine gk_iload (pc := 35) (DX3_lacks_0.at 23 rfl) 2 rfl ?_
    refine gk_icmp_gt (pc := 37) 67 (DX3_lacks_0.at 24 rfl) (by decide) (fun c => ?_) (fun c => ?_)
    · replace hv := hv.1 c
      refine gk_iconst (pc := 67) (nI 0) (DX3_lacks_0.at 37 rfl) ci_0 ?_
      exact gk_ireturn (pc := 68) .boolean (DX3_lacks_0.at 38 rfl) rfl rfl ⟨_, rfl, hv⟩
    · replace hv := hv.2 c
      refine gk_iload (pc := 40) (DX3_lacks_0.at 25 rfl) 2 rfl ?_
      refine gk_aload_n (pc := 42) (DX3_lacks_0.at 26 rfl) 4 rfl rfl ?_
      obtain ⟨fs1, v1, q1, r1, hv⟩ := hv
      refine gk_get (pc := 43) (.int v1) (DX3_lacks_0.at 27 rfl) fX3_9_3 q1 r1 ?_
      refine gk_icmp_ge (pc := 46) 67 (DX3_lacks_0.at 28 rfl) (by decide) (fun c => ?_) (fun c => ?_)
      · replace hv := hv.1 c
        refine gk_iconst (pc := 67) (nI 0) (DX3_lacks_0.at 37 rfl) ci_0 ?_
        exact gk_ireturn (pc := 68) .boolean (DX3_lacks_0.at 38 rfl) rfl rfl ⟨_, rfl, hv⟩
      · replace hv := hv.2 c
        refine gk_iload (pc := 49) (DX3_lacks_0.at 29 rfl) 1 rfl ?_
        refine gk_aload_n (pc := 51) (DX3_lacks_0.at 30 rfl) 5 rfl rfl ?_
        obtain ⟨fs2, v2, q2, r2, hv⟩ := hv
        refine gk_get (pc := 52) (.int v2) (DX3_lacks_0.at 31 rfl) fX3_36_8 q2 r2 ?_
        refine gk_icmp_ge (pc := 55) 67 (DX3_lacks_0.at 32 rfl) (by decide) (fun c => ?_) (fun c => ?_)
        · replace hv := hv.1 c
          refine gk_iconst (pc := 67) (nI 0) (DX3_lacks_0.at 37 rfl) ci_0 ?_
          exact gk_ireturn (pc := 68) .boolean (DX3_lacks_0.at 38 rfl) rfl rfl ⟨_, rfl, hv⟩
        · replace hv := hv.2 c
          refine gk_iload (pc := 58) (DX3_lacks_0.at 33 rfl) 0 rfl ?_
          refine gk_aload_n (pc := 60) (DX3_lacks_0.at 34 rfl) 5 rfl rfl ?_
          obtain ⟨fs3, v3, q3, r3, hv⟩ := hv
          refine gk_get (pc := 61) (.int v3) (DX3_lacks_0.at 35 rfl) fX3_36_8 q3 r3 ?_
          refine gk_icmp_lt (pc := 64) 69 (DX3_lacks_0.at 36 rfl) (by decide) (fun c => ?_) (fun c => ?_)
          · replace hv := hv.1 c
            refine gk_aload_n (pc := 69) (DX3_lacks_0.at 39 rfl) 4 rfl rfl ?_
            refine gk_aload_n (pc := 70) (DX3_lacks_0.at 40 rfl) 5 rfl rfl ?_
            refine gk_iload_n (pc := 71) (DX3_lacks_0.at 41 rfl) 3 rfl rfl ?_
            refine gk_iload (pc := 72) (DX3_lacks_0.at 42 rfl) 2 rfl ?_
            obtain ⟨⟨fs4, q4⟩, hv⟩ := hv
            refine gk_vV (pc := 74) [.ref x1, .int (x2 / (nI 1000)), .int ((x2 / (nI 100)) - (x2 / (nI 100)) / (nI 10) * (nI 10))] [] (DX3_lacks_0.at 43 rfl) cvX3_37 q4 rfl rfl (Nat.le_of_ble_eq_true rfl) (Nat.le_of_ble_eq_true rfl) (gk_Run.post (fun o h4 z => ?_) hv)
            obtain ⟨v4, rfl, hv⟩ := z
            refine gk_iconst (pc := 77) (nI 4) (DX3_lacks_0.at 44 rfl) ci_4 ?_
            refine gk_iload (pc := 78) (DX3_lacks_0.at 45 rfl) 1 rfl ?_
            refine gk_imul (pc := 80) (DX3_lacks_0.at 46 rfl) ?_
            refine gk_iload (pc := 81) (DX3_lacks_0.at 47 rfl) 0 rfl ?_
            refine gk_iadd (pc := 83) (DX3_lacks_0.at 48 rfl) ?_
            refine gk_ishr (pc := 84) (DX3_lacks_0.at 49 rfl) ?_
            refine gk_iconst (pc := 85) (nI 1) (DX3_lacks_0.at 50 rfl) ci_1 ?_
            refine gk_iand (pc := 86) (DX3_lacks_0.at 51 rfl) ?_
            refine gk_iconst (pc := 87) (nI 1) (DX3_lacks_0.at 52 rfl) ci_1 ?_
            refine gk_icmp_ne (pc := 88) 95 (DX3_lacks_0.at 53 rfl) (by decide) (fun c => ?_) (fun c => ?_)
            · replace hv := hv.1 c
              refine gk_iconst (pc := 95) (nI 0) (DX3_lacks_0.at 56 rfl) ci_0 ?_
              exact gk_ireturn (pc := 96) .boolean (DX3_lacks_0.at 57 rfl) rfl rfl ⟨_, rfl, hv⟩
            · replace hv := hv.2 c
              refine gk_iconst (pc := 91) (nI 1) (DX3_lacks_0.at 54 rfl) ci_1 ?_
              refine gk_goto (pc := 92) 96 (DX3_lacks_0.at 55 rfl) (by decide) ?_
              exact gk_ireturn (pc := 96) .boolean (DX3_lacks_0.at 57 rfl) rfl rfl ⟨_, rfl, hv⟩
          · replace hv := hv.2 c
            refine gk_iconst (pc := 67) (nI 0) (DX3_lacks_0.at 37 rfl) ci_0 ?_
            exact gk_ireturn (pc := 68) .boolean (DX3_lacks_0.at 38 rfl) rfl rfl ⟨_, rfl, hv⟩
set_option maxHeartbeats 4000000 in
theorem vX3_link_0 {E : gk_E} {dd : Nat} {o : Nat} {x1 : Int32} {x2 : Int32} {x3 : Int32} {x4 : Nat}  {h : gk_H} {K : gk_H → Prop} (hv : LdR h o 3 1 fun v1 => AsI h v1 (((nI 6) * x1) + x2) x3 fun h2 => LdR h2 o 3 1 fun v3 => LdR h2 x4 8 1 fun v4 => AlI h2 v4 x3 fun v5 => AsI h2 v3 (((nI 6) * x2) + x1) v5 fun h6 => K h6) : RnV E mX3_link (dd, 0, 0) [.ref o, .int x1, .int x2, .int x3, .ref x4] h K := by
  show gk_G E mX3_link (dd, 0, 0) 0 [(0, .ref o), (1, .int x1), (2, .int x2), (3, .int x3), (4, .ref x4)] [] h (fun o h1 => o = none ∧ K h1)
  refine gk_aload_n (pc := 0) (DX3_link_0.at 0 rfl) 0 rfl rfl ?_
  obtain ⟨fs1, v1, q1, r1, hv⟩ := hv
  refine gk_get (pc := 1) (.ref v1) (DX3_link_0.at 1 rfl) fX3_15_3 q1 r1 ?_
  refine gk_bipush (pc := 4) (nI 6) (DX3_link_0.at 2 rfl) cb_6 ?_
  refine gk_iload_n (pc := 6) (DX3_link_0.at 3 rfl) 1 rfl rfl ?_
  refine gk_imul (pc := 7) (DX3_link_0.at 4 rfl) ?_
  refine gk_iload_n (pc := 8) (DX3_link_0.at 5 rfl) 2 rfl rfl ?_
  refine gk_iadd (pc := 9) (DX3_link_0.at 6 rfl) ?_
  refine gk_iload_n (pc := 10) (DX3_link_0.at 7 rfl) 3 rfl rfl ?_
  obtain ⟨n2, f2, q2, r2, hv⟩ := hv
  refine gk_iast (pc := 11) (DX3_link_0.at 8 rfl) q2 r2 ?_
  generalize h.set _ _ = h2 at hv ⊢
  refine gk_aload_n (pc := 12) (DX3_link_0.at 9 rfl) 0 rfl rfl ?_
  obtain ⟨fs3, v3, q3, r3, hv⟩ := hv
  refine gk_get (pc := 13) (.ref v3) (DX3_link_0.at 10 rfl) fX3_15_3 q3 r3 ?_
  refine gk_bipush (pc := 16) (nI 6) (DX3_link_0.at 11 rfl) cb_6 ?_
  refine gk_iload_n (pc := 18) (DX3_link_0.at 12 rfl) 2 rfl rfl ?_
  refine gk_imul (pc := 19) (DX3_link_0.at 13 rfl) ?_
  refine gk_iload_n (pc := 20) (DX3_link_0.at 14 rfl) 1 rfl rfl ?_
  refine gk_iadd (pc := 21) (DX3_link_0.at 15 rfl) ?_
  refine gk_aload (pc := 22) (DX3_link_0.at 16 rfl) 4 rfl ?_
  obtain ⟨fs4, v4, q4, r4, hv⟩ := hv
  refine gk_get (pc := 24) (.ref v4) (DX3_link_0.at 17 rfl) fX3_19_8 q4 r4 ?_
  refine gk_iload_n (pc := 27) (DX3_link_0.at 18 rfl) 3 rfl rfl ?_
  obtain ⟨n5, f5, q5, r5, hv⟩ := hv
  refine gk_iald (pc := 28) (DX3_link_0.at 19 rfl) q5 r5 ?_
  generalize f5 _ = v5 at hv ⊢
  obtain ⟨n6, f6, q6, r6, hv⟩ := hv
  refine gk_iast (pc := 29) (DX3_link_0.at 20 rfl) q6 r6 ?_
  generalize h2.set _ _ = h6 at hv ⊢
  exact gk_return (pc := 30) (DX3_link_0.at 21 rfl) rfl ⟨rfl, hv⟩
abbrev pX3_open_14 (E : gk_E) (dd : Nat) (o : Nat) (x1 : Nat) (x2 : Int32) (x3 : Int32) (x4 : Int32) (x5 : Int32) (x6 : Int32) (h : gk_H) (K : Int32 → gk_H → Prop) : Prop := gk_G E mX3_open (dd + 1, 0, 0) 14 [(0, .ref o), (1, .ref x1), (2, .int x2), (3, .int x3), (4, .int x4), (5, .int x5), (6, .int x6)] [] h (fun o h1 => ∃ v, o = some (.int v) ∧ K v h1)
abbrev pX3_open_26 (E : gk_E) (dd : Nat) (o : Nat) (x1 : Nat) (x2 : Int32) (x3 : Int32) (x4 : Int32) (x5 : Int32) (x6 : Int32) (x7 : Int32) (h : gk_H) (K : Int32 → gk_H → Prop) : Prop := gk_G E mX3_open (dd + 1, 0, 0) 26 [(0, .ref o), (1, .ref x1), (2, .int x2), (3, .int x3), (4, .int x4), (5, .int x5), (6, .int x6), (7, .int x7)] [] h (fun o h1 => ∃ v, o = some (.int v) ∧ K v h1)
abbrev pX3_open_77 (E : gk_E) (dd : Nat) (o : Nat) (x1 : Nat) (x2 : Int32) (x3 : Int32) (x4 : Int32) (x5 : Int32) (x6 : Int32) (h : gk_H) (K : Int32 → gk_H → Prop) : Prop := gk_G E mX3_open (dd + 1, 0, 0) 77 [(0, .ref o), (1, .ref x1), (2, .int x2), (3, .int x3), (4, .int x4), (5, .int x5), (6, .int x6)] [] h (fun o h1 => ∃ v, o = some (.int v) ∧ K v h1)
set_option maxHeartbeats 4000000 in
theorem vX3_open_0 {E : gk_E} {dd : Nat} {o : Nat} {x1 : Nat} {x2 : Int32} {x3 : Int32}  {h : gk_H} {K : Int32 → gk_H → Prop} (hv : (∃ fs, h[o]? = some (.inr (3, fs))) ∧ RnI E mX3_at (dd, 0, 0) [.ref o, .int x2, .int x3] h (fun v1 h1 => pX3_open_14 E dd o x1 x2 x3 (nI 0) v1 (nI 1) h1 K)) : RnI E mX3_open (dd + 1, 0, 0) [.ref o, .ref x1, .int x2, .int x3] h K := by
  show gk_G E mX3_open (dd + 1, 0, 0) 0 [(0, .ref o), (1, .ref x1), (2, .int x2), (3, .int x3)] [] h (fun o h1 => ∃ v, o = some (.int v) ∧ K v h1)
  refine gk_iconst (pc := 0) (nI 0) (DX3_open_0.at 0 rfl) ci_0 ?_
  refine gk_istore (pc := 1) [(4, .int (nI 0)), (0, .ref o), (1, .ref x1), (2, .int x2), (3, .int x3)] (DX3_open_0.at 1 rfl) (Nat.le_of_ble_eq_true rfl) rfl ?_
  refine gk_aload_n (pc := 3) (DX3_open_0.at 2 rfl) 1 rfl rfl ?_
  refine gk_iload_n (pc := 4) (DX3_open_0.at 3 rfl) 3 rfl rfl ?_
  refine gk_iload_n (pc := 5) (DX3_open_0.at 4 rfl) 4 rfl rfl ?_
  obtain ⟨⟨fs1, q1⟩, hv⟩ := hv
  refine gk_vV (pc := 6) [.int x2, .int x3] [] (DX3_open_0.at 5 rfl) cvX3_28 q1 rfl rfl (Nat.le_of_ble_eq_true rfl) (Nat.le_of_ble_eq_true rfl) (gk_Run.post (fun o h1 z => ?_) hv)
  obtain ⟨v1, rfl, hv⟩ := z
  refine gk_istore (pc := 9) [(5, .int v1), (4, .int (nI 0)), (0, .ref o), (1, .ref x1), (2, .int x2), (3, .int x3)] (DX3_open_0.at 6 rfl) (Nat.le_of_ble_eq_true rfl) rfl ?_
  refine gk_iconst (pc := 11) (nI 1) (DX3_open_0.at 7 rfl) ci_1 ?_
  refine gk_istore (pc := 12) [(6, .int (nI 1)), (5, .int v1), (4, .int (nI 0)), (0, .ref o), (1, .ref x1), (2, .int x2), (3, .int x3)] (DX3_open_0.at 8 rfl) (Nat.le_of_ble_eq_true rfl) rfl ?_
  exact gk_pick (pc := 14) [(0, .ref o), (1, .ref x1), (2, .int x2), (3, .int x3), (4, .int (nI 0)), (5, .int v1), (6, .int (nI 1))] [3, 4, 5, 6, 2, 1, 0] rfl hv
set_option maxHeartbeats 4000000 in
theorem vX3_open_14 {E : gk_E} {dd : Nat} {o : Nat} {x1 : Nat} {x2 : Int32} {x3 : Int32} {x4 : Int32} {x5 : Int32} {x6 : Int32}  {h : gk_H} {K : Int32 → gk_H → Prop} (hv : LdI h x1 8 0 fun v1 => (v1 ≤ x6 → pX3_open_77 E dd o x1 x2 x3 x4 x5 (nI 0) h K) ∧ (¬ v1 ≤ x6 → pX3_open_26 E dd o x1 x2 x3 x4 x5 x6 (nI 1) h K)) : pX3_open_14 E dd o x1 x2 x3 x4 x5 x6 h K := by
  show gk_G E mX3_open (dd + 1, 0, 0) 14 [(0, .ref o), (1, .ref x1), (2, .int x2), (3, .int x3), (4, .int x4), (5, .int x5), (6, .int x6)] [] h (fun o h1 => ∃ v, o = some (.int v) ∧ K v h1)
  refine gk_iload (pc := 14) (DX3_open_0.at 9 rfl) 6 rfl ?_
  refine gk_aload_n (pc := 16) (DX3_open_0.at 10 rfl) 1 rfl rfl ?_
  obtain ⟨fs1, v1, q1, r1, hv⟩ := hv
  refine gk_get (pc := 17) (.int v1) (DX3_open_0.at 11 rfl) fX3_36_8 q1 r1 ?_
  refine gk_icmp_ge (pc := 20) 74 (DX3_open_0.at 12 rfl) (by decide) (fun c => ?_) (fun c => ?_)
  · replace hv := hv.1 c
    refine gk_iconst (pc := 74) (nI 0) (DX3_open_0.at 39 rfl) ci_0 ?_
    refine gk_istore (pc := 75) [(6, .int (nI 0)), (0, .ref o), (1, .ref x1), (2, .int x2), (3, .int x3), (4, .int x4), (5, .int x5)] (DX3_open_0.at 40 rfl) (Nat.le_of_ble_eq_true rfl) rfl ?_
    exact gk_pick (pc := 77) [(0, .ref o), (1, .ref x1), (2, .int x2), (3, .int x3), (4, .int x4), (5, .int x5), (6, .int (nI 0))] [1, 2, 3, 4, 5, 6, 0] rfl hv
  · replace hv := hv.2 c
    refine gk_iconst (pc := 23) (nI 1) (DX3_open_0.at 13 rfl) ci_1 ?_
    refine gk_istore (pc := 24) [(7, .int (nI 1)), (0, .ref o), (1, .ref x1), (2, .int x2), (3, .int x3), (4, .int x4), (5, .int x5), (6, .int x6)] (DX3_open_0.at 14 rfl) (Nat.le_of_ble_eq_true rfl) rfl ?_
    exact gk_pick (pc := 26) [(0, .ref o), (1, .ref x1), (2, .int x2), (3, .int x3), (4, .int x4), (5, .int x5), (6, .int x6), (7, .int (nI 1))] [1, 2, 3, 4, 5, 6, 7, 0] rfl hv
set_option maxHeartbeats 4000000 in
theorem vX3_open_26 {E : gk_E} {dd : Nat} {o : Nat} {x1 : Nat} {x2 : Int32} {x3 : Int32} {x4 : Int32} {x5 : Int32} {x6 : Int32} {x7 : Int32}  {h : gk_H} {K : Int32 → gk_H → Prop} (hv : LdI h x1 8 0 fun v1 => (v1 ≤ x7 → pX3_open_14 E dd o x1 x2 x3 x4 x5 (x6 + nI 1) h K) ∧ (¬ v1 ≤ x7 → (∃ fs, h[x1]? = some (.inr (8, fs))) ∧ RnI E mX8_has (dd, 0, 0) [.ref x1, .int x6, .int x7, .int x5] h (fun v2 h2 => (v2 = 0 → pX3_open_26 E dd o x1 x2 x3 x4 x5 x6 (x7 + nI 1) h2 K) ∧ (¬ v2 = 0 → pX3_open_26 E dd o x1 x2 x3 (x4 ||| ((nI 1) <<< ((((nI 4) * x6) + x7) &&& 31))) x5 x6 (x7 + nI 1) h2 K)))) : pX3_open_26 E dd o x1 x2 x3 x4 x5 x6 x7 h K := by
  show gk_G E mX3_open (dd + 1, 0, 0) 26 [(0, .ref o), (1, .ref x1), (2, .int x2), (3, .int x3), (4, .int x4), (5, .int x5), (6, .int x6), (7, .int x7)] [] h (fun o h1 => ∃ v, o = some (.int v) ∧ K v h1)
  refine gk_iload (pc := 26) (DX3_open_0.at 15 rfl) 7 rfl ?_
  refine gk_aload_n (pc := 28) (DX3_open_0.at 16 rfl) 1 rfl rfl ?_
  obtain ⟨fs1, v1, q1, r1, hv⟩ := hv
  refine gk_get (pc := 29) (.int v1) (DX3_open_0.at 17 rfl) fX3_36_8 q1 r1 ?_
  refine gk_icmp_ge (pc := 32) 68 (DX3_open_0.at 18 rfl) (by decide) (fun c => ?_) (fun c => ?_)
  · replace hv := hv.1 c
    refine gk_iinc (pc := 68) (x6 + nI 1) [(6, .int (x6 + nI 1)), (0, .ref o), (1, .ref x1), (2, .int x2), (3, .int x3), (4, .int x4), (5, .int x5), (7, .int x7)] 6 (DX3_open_0.at 37 rfl) rfl (by rw [ci_1]) (Nat.le_of_ble_eq_true rfl) rfl ?_
    refine gk_goto (pc := 71) 14 (DX3_open_0.at 38 rfl) (by decide) ?_
    exact gk_pick (pc := 14) [(0, .ref o), (1, .ref x1), (2, .int x2), (3, .int x3), (4, .int x4), (5, .int x5), (6, .int (x6 + nI 1))] [1, 2, 3, 4, 5, 6, 0] rfl hv
  · replace hv := hv.2 c
    refine gk_aload_n (pc := 35) (DX3_open_0.at 19 rfl) 1 rfl rfl ?_
    refine gk_iload (pc := 36) (DX3_open_0.at 20 rfl) 6 rfl ?_
    refine gk_iload (pc := 38) (DX3_open_0.at 21 rfl) 7 rfl ?_
    refine gk_iload (pc := 40) (DX3_open_0.at 22 rfl) 5 rfl ?_
    obtain ⟨⟨fs2, q2⟩, hv⟩ := hv
    refine gk_vV (pc := 42) [.int x6, .int x7, .int x5] [] (DX3_open_0.at 23 rfl) cvX3_32 q2 rfl rfl (Nat.le_of_ble_eq_true rfl) (Nat.le_of_ble_eq_true rfl) (gk_Run.post (fun o h2 z => ?_) hv)
    obtain ⟨v2, rfl, hv⟩ := z
    refine gk_if_eq (pc := 45) 62 (DX3_open_0.at 24 rfl) (by decide) (fun c => ?_) (fun c => ?_)
    · replace hv := hv.1 c
      refine gk_iinc (pc := 62) (x7 + nI 1) [(7, .int (x7 + nI 1)), (0, .ref o), (1, .ref x1), (2, .int x2), (3, .int x3), (4, .int x4), (5, .int x5), (6, .int x6)] 7 (DX3_open_0.at 35 rfl) rfl (by rw [ci_1]) (Nat.le_of_ble_eq_true rfl) rfl ?_
      refine gk_goto (pc := 65) 26 (DX3_open_0.at 36 rfl) (by decide) ?_
      exact gk_pick (pc := 26) [(0, .ref o), (1, .ref x1), (2, .int x2), (3, .int x3), (4, .int x4), (5, .int x5), (6, .int x6), (7, .int (x7 + nI 1))] [1, 2, 3, 4, 5, 6, 7, 0] rfl hv
    · replace hv := hv.2 c
      refine gk_iload (pc := 48) (DX3_open_0.at 25 rfl) 4 rfl ?_
      refine gk_iconst (pc := 50) (nI 1) (DX3_open_0.at 26 rfl) ci_1 ?_
      refine gk_iconst (pc := 51) (nI 4) (DX3_open_0.at 27 rfl) ci_4 ?_
      refine gk_iload (pc := 52) (DX3_open_0.at 28 rfl) 6 rfl ?_
      refine gk_imul (pc := 54) (DX3_open_0.at 29 rfl) ?_
      refine gk_iload (pc := 55) (DX3_open_0.at 30 rfl) 7 rfl ?_
      refine gk_iadd (pc := 57) (DX3_open_0.at 31 rfl) ?_
      refine gk_ishl (pc := 58) (DX3_open_0.at 32 rfl) ?_
      refine gk_ior (pc := 59) (DX3_open_0.at 33 rfl) ?_
      refine gk_istore (pc := 60) [(4, .int (x4 ||| ((nI 1) <<< ((((nI 4) * x6) + x7) &&& 31)))), (0, .ref o), (1, .ref x1), (2, .int x2), (3, .int x3), (5, .int x5), (6, .int x6), (7, .int x7)] (DX3_open_0.at 34 rfl) (Nat.le_of_ble_eq_true rfl) rfl ?_
      refine gk_iinc (pc := 62) (x7 + nI 1) [(7, .int (x7 + nI 1)), (4, .int (x4 ||| ((nI 1) <<< ((((nI 4) * x6) + x7) &&& 31)))), (0, .ref o), (1, .ref x1), (2, .int x2), (3, .int x3), (5, .int x5), (6, .int x6)] 7 (DX3_open_0.at 35 rfl) rfl (by rw [ci_1]) (Nat.le_of_ble_eq_true rfl) rfl ?_
      refine gk_goto (pc := 65) 26 (DX3_open_0.at 36 rfl) (by decide) ?_
      exact gk_pick (pc := 26) [(0, .ref o), (1, .ref x1), (2, .int x2), (3, .int x3), (4, .int (x4 ||| ((nI 1) <<< ((((nI 4) * x6) + x7) &&& 31)))), (5, .int x5), (6, .int x6), (7, .int (x7 + nI 1))] [2, 3, 4, 5, 1, 6, 7, 0] rfl hv
set_option maxHeartbeats 4000000 in
theorem vX3_open_77 {E : gk_E} {dd : Nat} {o : Nat} {x1 : Nat} {x2 : Int32} {x3 : Int32} {x4 : Int32} {x5 : Int32} {x6 : Int32}  {h : gk_H} {K : Int32 → gk_H → Prop} (hv : LdI h o 3 0 fun v1 => (v1 ≤ x6 → K x4 h) ∧ (¬ v1 ≤ x6 → (∃ fs, h[o]? = some (.inr (3, fs))) ∧ RnI E mX3_at (dd, 0, 0) [.ref o, .int x2, .int x6] h (fun v2 h2 => (∃ fs, h2[o]? = some (.inr (3, fs))) ∧ RnI E mX3_at (dd, 0, 0) [.ref o, .int x6, .int x3] h2 (fun v3 h3 => pX3_open_77 E dd o x1 x2 x3 (x4 &&& (((nI 1) <<< ((((nI 4) * v2) + v3) &&& 31)) ^^^ ((-1)))) x5 (x6 + nI 1) h3 K)))) : pX3_open_77 E dd o x1 x2 x3 x4 x5 x6 h K := by
  show gk_G E mX3_open (dd + 1, 0, 0) 77 [(0, .ref o), (1, .ref x1), (2, .int x2), (3, .int x3), (4, .int x4), (5, .int x5), (6, .int x6)] [] h (fun o h1 => ∃ v, o = some (.int v) ∧ K v h1)
  refine gk_iload (pc := 77) (DX3_open_0.at 41 rfl) 6 rfl ?_
  refine gk_aload_n (pc := 79) (DX3_open_0.at 42 rfl) 0 rfl rfl ?_
  obtain ⟨fs1, v1, q1, r1, hv⟩ := hv
  refine gk_get (pc := 80) (.int v1) (DX3_open_0.at 43 rfl) fX3_9_3 q1 r1 ?_
  refine gk_icmp_ge (pc := 83) 118 (DX3_open_0.at 44 rfl) (by decide) (fun c => ?_) (fun c => ?_)
  · replace hv := hv.1 c
    refine gk_iload (pc := 118) (DX3_open_1.at 5 rfl) 4 rfl ?_
    exact gk_ireturn (pc := 120) .int (DX3_open_1.at 6 rfl) rfl rfl ⟨_, rfl, hv⟩
  · replace hv := hv.2 c
    refine gk_iload (pc := 86) (DX3_open_0.at 45 rfl) 4 rfl ?_
    refine gk_iconst (pc := 88) (nI 1) (DX3_open_0.at 46 rfl) ci_1 ?_
    refine gk_iconst (pc := 89) (nI 4) (DX3_open_0.at 47 rfl) ci_4 ?_
    refine gk_aload_n (pc := 90) (DX3_open_0.at 48 rfl) 0 rfl rfl ?_
    refine gk_iload_n (pc := 91) (DX3_open_0.at 49 rfl) 2 rfl rfl ?_
    refine gk_iload (pc := 92) (DX3_open_0.at 50 rfl) 6 rfl ?_
    obtain ⟨⟨fs2, q2⟩, hv⟩ := hv
    refine gk_vV (pc := 94) [.int x2, .int x6] [.int (nI 4), .int (nI 1), .int x4] (DX3_open_0.at 51 rfl) cvX3_28 q2 rfl rfl (Nat.le_of_ble_eq_true rfl) (Nat.le_of_ble_eq_true rfl) (gk_Run.post (fun o h2 z => ?_) hv)
    obtain ⟨v2, rfl, hv⟩ := z
    refine gk_imul (pc := 97) (DX3_open_0.at 52 rfl) ?_
    refine gk_aload_n (pc := 98) (DX3_open_0.at 53 rfl) 0 rfl rfl ?_
    refine gk_iload (pc := 99) (DX3_open_0.at 54 rfl) 6 rfl ?_
    refine gk_iload_n (pc := 101) (DX3_open_0.at 55 rfl) 3 rfl rfl ?_
    obtain ⟨⟨fs3, q3⟩, hv⟩ := hv
    refine gk_vV (pc := 102) [.int x6, .int x3] [.int ((nI 4) * v2), .int (nI 1), .int x4] (DX3_open_0.at 56 rfl) cvX3_28 q3 rfl rfl (Nat.le_of_ble_eq_true rfl) (Nat.le_of_ble_eq_true rfl) (gk_Run.post (fun o h3 z => ?_) hv)
    obtain ⟨v3, rfl, hv⟩ := z
    refine gk_iadd (pc := 105) (DX3_open_0.at 57 rfl) ?_
    refine gk_ishl (pc := 106) (DX3_open_0.at 58 rfl) ?_
    refine gk_iconst (pc := 107) ((-1)) (DX3_open_0.at 59 rfl) ci_m1 ?_
    refine gk_ixor (pc := 108) (DX3_open_1.at 0 rfl) ?_
    refine gk_iand (pc := 109) (DX3_open_1.at 1 rfl) ?_
    refine gk_istore (pc := 110) [(4, .int (x4 &&& (((nI 1) <<< ((((nI 4) * v2) + v3) &&& 31)) ^^^ ((-1))))), (0, .ref o), (1, .ref x1), (2, .int x2), (3, .int x3), (5, .int x5), (6, .int x6)] (DX3_open_1.at 2 rfl) (Nat.le_of_ble_eq_true rfl) rfl ?_
    refine gk_iinc (pc := 112) (x6 + nI 1) [(6, .int (x6 + nI 1)), (4, .int (x4 &&& (((nI 1) <<< ((((nI 4) * v2) + v3) &&& 31)) ^^^ ((-1))))), (0, .ref o), (1, .ref x1), (2, .int x2), (3, .int x3), (5, .int x5)] 6 (DX3_open_1.at 3 rfl) rfl (by rw [ci_1]) (Nat.le_of_ble_eq_true rfl) rfl ?_
    refine gk_goto (pc := 115) 77 (DX3_open_1.at 4 rfl) (by decide) ?_
    exact gk_pick (pc := 77) [(0, .ref o), (1, .ref x1), (2, .int x2), (3, .int x3), (4, .int (x4 &&& (((nI 1) <<< ((((nI 4) * v2) + v3) &&& 31)) ^^^ ((-1))))), (5, .int x5), (6, .int (x6 + nI 1))] [2, 3, 4, 5, 1, 6, 0] rfl hv
abbrev pX3_placeOf_4 (E : gk_E) (dd : Nat) (x0 : Int32) (x1 : Int32) (x2 : Int32) (x3 : Int32) (h : gk_H) (K : Int32 → gk_H → Prop) : Prop := gk_G E mX3_placeOf (dd, 0, 0) 4 [(0, .int x0), (1, .int x1), (2, .int x2), (3, .int x3)] [] h (fun o h1 => ∃ v, o = some (.int v) ∧ K v h1)
set_option maxHeartbeats 4000000 in
theorem vX3_placeOf_0 {E : gk_E} {dd : Nat} {x0 : Int32} {x1 : Int32}  {h : gk_H} {K : Int32 → gk_H → Prop} (hv : pX3_placeOf_4 E dd x0 x1 (nI 0) (nI 0) h K) : RnI E mX3_placeOf (dd, 0, 0) [.int x0, .int x1] h K := by
  show gk_G E mX3_placeOf (dd, 0, 0) 0 [(0, .int x0), (1, .int x1)] [] h (fun o h1 => ∃ v, o = some (.int v) ∧ K v h1)
  refine gk_iconst (pc := 0) (nI 0) (DX3_placeOf_0.at 0 rfl) ci_0 ?_
  refine gk_istore_n (pc := 1) [(2, .int (nI 0)), (0, .int x0), (1, .int x1)] (DX3_placeOf_0.at 1 rfl) rfl (Nat.le_of_ble_eq_true rfl) rfl ?_
  refine gk_iconst (pc := 2) (nI 0) (DX3_placeOf_0.at 2 rfl) ci_0 ?_
  refine gk_istore_n (pc := 3) [(3, .int (nI 0)), (2, .int (nI 0)), (0, .int x0), (1, .int x1)] (DX3_placeOf_0.at 3 rfl) rfl (Nat.le_of_ble_eq_true rfl) rfl ?_
  exact gk_pick (pc := 4) [(0, .int x0), (1, .int x1), (2, .int (nI 0)), (3, .int (nI 0))] [2, 3, 1, 0] rfl hv
set_option maxHeartbeats 4000000 in
theorem vX3_placeOf_4 {E : gk_E} {dd : Nat} {x0 : Int32} {x1 : Int32} {x2 : Int32} {x3 : Int32}  {h : gk_H} {K : Int32 → gk_H → Prop} (hv : ((nI 16) ≤ x3 → K (nI 0) h) ∧ (¬ (nI 16) ≤ x3 → (¬ ((x0 >>> (x3 &&& 31)) &&& (nI 1)) = (nI 1) → pX3_placeOf_4 E dd x0 x1 x2 (x3 + nI 1) h K) ∧ (((x0 >>> (x3 &&& 31)) &&& (nI 1)) = (nI 1) → (¬ x2 = x1 → pX3_placeOf_4 E dd x0 x1 (x2 + nI 1) (x3 + nI 1) h K) ∧ (x2 = x1 → K x3 h)))) : pX3_placeOf_4 E dd x0 x1 x2 x3 h K := by
  show gk_G E mX3_placeOf (dd, 0, 0) 4 [(0, .int x0), (1, .int x1), (2, .int x2), (3, .int x3)] [] h (fun o h1 => ∃ v, o = some (.int v) ∧ K v h1)
  refine gk_iload_n (pc := 4) (DX3_placeOf_0.at 4 rfl) 3 rfl rfl ?_
  refine gk_bipush (pc := 5) (nI 16) (DX3_placeOf_0.at 5 rfl) cb_16 ?_
  refine gk_icmp_ge (pc := 7) 35 (DX3_placeOf_0.at 6 rfl) (by decide) (fun c => ?_) (fun c => ?_)
  · replace hv := hv.1 c
    refine gk_iconst (pc := 35) (nI 0) (DX3_placeOf_0.at 22 rfl) ci_0 ?_
    exact gk_ireturn (pc := 36) .int (DX3_placeOf_0.at 23 rfl) rfl rfl ⟨_, rfl, hv⟩
  · replace hv := hv.2 c
    refine gk_iload_n (pc := 10) (DX3_placeOf_0.at 7 rfl) 0 rfl rfl ?_
    refine gk_iload_n (pc := 11) (DX3_placeOf_0.at 8 rfl) 3 rfl rfl ?_
    refine gk_ishr (pc := 12) (DX3_placeOf_0.at 9 rfl) ?_
    refine gk_iconst (pc := 13) (nI 1) (DX3_placeOf_0.at 10 rfl) ci_1 ?_
    refine gk_iand (pc := 14) (DX3_placeOf_0.at 11 rfl) ?_
    refine gk_iconst (pc := 15) (nI 1) (DX3_placeOf_0.at 12 rfl) ci_1 ?_
    refine gk_icmp_ne (pc := 16) 29 (DX3_placeOf_0.at 13 rfl) (by decide) (fun c => ?_) (fun c => ?_)
    · replace hv := hv.1 c
      refine gk_iinc (pc := 29) (x3 + nI 1) [(3, .int (x3 + nI 1)), (0, .int x0), (1, .int x1), (2, .int x2)] 3 (DX3_placeOf_0.at 20 rfl) rfl (by rw [ci_1]) (Nat.le_of_ble_eq_true rfl) rfl ?_
      refine gk_goto (pc := 32) 4 (DX3_placeOf_0.at 21 rfl) (by decide) ?_
      exact gk_pick (pc := 4) [(0, .int x0), (1, .int x1), (2, .int x2), (3, .int (x3 + nI 1))] [1, 2, 3, 0] rfl hv
    · replace hv := hv.2 c
      refine gk_iload_n (pc := 19) (DX3_placeOf_0.at 14 rfl) 2 rfl rfl ?_
      refine gk_iload_n (pc := 20) (DX3_placeOf_0.at 15 rfl) 1 rfl rfl ?_
      refine gk_icmp_ne (pc := 21) 26 (DX3_placeOf_0.at 16 rfl) (by decide) (fun c => ?_) (fun c => ?_)
      · replace hv := hv.1 c
        refine gk_iinc (pc := 26) (x2 + nI 1) [(2, .int (x2 + nI 1)), (0, .int x0), (1, .int x1), (3, .int x3)] 2 (DX3_placeOf_0.at 19 rfl) rfl (by rw [ci_1]) (Nat.le_of_ble_eq_true rfl) rfl ?_
        refine gk_iinc (pc := 29) (x3 + nI 1) [(3, .int (x3 + nI 1)), (2, .int (x2 + nI 1)), (0, .int x0), (1, .int x1)] 3 (DX3_placeOf_0.at 20 rfl) rfl (by rw [ci_1]) (Nat.le_of_ble_eq_true rfl) rfl ?_
        refine gk_goto (pc := 32) 4 (DX3_placeOf_0.at 21 rfl) (by decide) ?_
        exact gk_pick (pc := 4) [(0, .int x0), (1, .int x1), (2, .int (x2 + nI 1)), (3, .int (x3 + nI 1))] [2, 3, 1, 0] rfl hv
      · replace hv := hv.2 c
        refine gk_iload_n (pc := 24) (DX3_placeOf_0.at 17 rfl) 3 rfl rfl ?_
        exact gk_ireturn (pc := 25) .int (DX3_placeOf_0.at 18 rfl) rfl rfl ⟨_, rfl, hv⟩
abbrev pX3_unsound_2 (E : gk_E) (dd : Nat) (o : Nat) (x1 : Nat) (x2 : Int32) (h : gk_H) (K : Int32 → gk_H → Prop) : Prop := gk_G E mX3_unsound (dd + 1, 0, 0) 2 [(0, .ref o), (1, .ref x1), (2, .int x2)] [] h (fun o h1 => ∃ v, o = some (.int v) ∧ K v h1)
abbrev pX3_unsound_14 (E : gk_E) (dd : Nat) (o : Nat) (x1 : Nat) (x2 : Int32) (x3 : Int32) (h : gk_H) (K : Int32 → gk_H → Prop) : Prop := gk_G E mX3_unsound (dd + 1, 0, 0) 14 [(0, .ref o), (1, .ref x1), (2, .int x2), (3, .int x3)] [] h (fun o h1 => ∃ v, o = some (.int v) ∧ K v h1)
abbrev pX3_unsound_27 (E : gk_E) (dd : Nat) (o : Nat) (x1 : Nat) (x2 : Int32) (x3 : Int32) (x4 : Int32) (h : gk_H) (K : Int32 → gk_H → Prop) : Prop := gk_G E mX3_unsound (dd + 1, 0, 0) 27 [(0, .ref o), (1, .ref x1), (2, .int x2), (3, .int x3), (4, .int x4)] [] h (fun o h1 => ∃ v, o = some (.int v) ∧ K v h1)
set_option maxHeartbeats 4000000 in
theorem vX3_unsound_0 {E : gk_E} {dd : Nat} {o : Nat} {x1 : Nat}  {h : gk_H} {K : Int32 → gk_H → Prop} (hv : pX3_unsound_2 E dd o x1 (nI 0) h K) : RnI E mX3_unsound (dd + 1, 0, 0) [.ref o, .ref x1] h K := by
  show gk_G E mX3_unsound (dd + 1, 0, 0) 0 [(0, .ref o), (1, .ref x1)] [] h (fun o h1 => ∃ v, o = some (.int v) ∧ K v h1)
  refine gk_iconst (pc := 0) (nI 0) (DX3_unsound_0.at 0 rfl) ci_0 ?_
  refine gk_istore_n (pc := 1) [(2, .int (nI 0)), (0, .ref o), (1, .ref x1)] (DX3_unsound_0.at 1 rfl) rfl (Nat.le_of_ble_eq_true rfl) rfl ?_
  exact gk_pick (pc := 2) [(0, .ref o), (1, .ref x1), (2, .int (nI 0))] [1, 2, 0] rfl hv
set_option maxHeartbeats 4000000 in
theorem vX3_unsound_2 {E : gk_E} {dd : Nat} {o : Nat} {x1 : Nat} {x2 : Int32}  {h : gk_H} {K : Int32 → gk_H → Prop} (hv : LdI h o 3 0 fun v1 => (v1 ≤ x2 → K ((-5)) h) ∧ (¬ v1 ≤ x2 → pX3_unsound_14 E dd o x1 x2 (x2 + (nI 1)) h K)) : pX3_unsound_2 E dd o x1 x2 h K := by
  show gk_G E mX3_unsound (dd + 1, 0, 0) 2 [(0, .ref o), (1, .ref x1), (2, .int x2)] [] h (fun o h1 => ∃ v, o = some (.int v) ∧ K v h1)
  refine gk_iload_n (pc := 2) (DX3_unsound_0.at 2 rfl) 2 rfl rfl ?_
  refine gk_aload_n (pc := 3) (DX3_unsound_0.at 3 rfl) 0 rfl rfl ?_
  obtain ⟨fs1, v1, q1, r1, hv⟩ := hv
  refine gk_get (pc := 4) (.int v1) (DX3_unsound_0.at 4 rfl) fX3_9_3 q1 r1 ?_
  refine gk_icmp_ge (pc := 7) 94 (DX3_unsound_0.at 5 rfl) (by decide) (fun c => ?_) (fun c => ?_)
  · replace hv := hv.1 c
    refine gk_bipush (pc := 94) ((-5)) (DX3_unsound_0.at 53 rfl) cb_m5 ?_
    exact gk_ireturn (pc := 96) .int (DX3_unsound_0.at 54 rfl) rfl rfl ⟨_, rfl, hv⟩
  · replace hv := hv.2 c
    refine gk_iload_n (pc := 10) (DX3_unsound_0.at 6 rfl) 2 rfl rfl ?_
    refine gk_iconst (pc := 11) (nI 1) (DX3_unsound_0.at 7 rfl) ci_1 ?_
    refine gk_iadd (pc := 12) (DX3_unsound_0.at 8 rfl) ?_
    refine gk_istore_n (pc := 13) [(3, .int (x2 + (nI 1))), (0, .ref o), (1, .ref x1), (2, .int x2)] (DX3_unsound_0.at 9 rfl) rfl (Nat.le_of_ble_eq_true rfl) rfl ?_
    exact gk_pick (pc := 14) [(0, .ref o), (1, .ref x1), (2, .int x2), (3, .int (x2 + (nI 1)))] [1, 2, 3, 0] rfl hv
set_option maxHeartbeats 4000000 in
theorem vX3_unsound_14 {E : gk_E} {dd : Nat} {o : Nat} {x1 : Nat} {x2 : Int32} {x3 : Int32}  {h : gk_H} {K : Int32 → gk_H → Prop} (hv : LdI h o 3 0 fun v1 => (v1 ≤ x3 → pX3_unsound_2 E dd o x1 (x2 + nI 1) h K) ∧ (¬ v1 ≤ x3 → pX3_unsound_27 E dd o x1 x2 x3 (x3 + (nI 1)) h K)) : pX3_unsound_14 E dd o x1 x2 x3 h K := by
  show gk_G E mX3_unsound (dd + 1, 0, 0) 14 [(0, .ref o), (1, .ref x1), (2, .int x2), (3, .int x3)] [] h (fun o h1 => ∃ v, o = some (.int v) ∧ K v h1)
  refine gk_iload_n (pc := 14) (DX3_unsound_0.at 10 rfl) 3 rfl rfl ?_
  refine gk_aload_n (pc := 15) (DX3_unsound_0.at 11 rfl) 0 rfl rfl ?_
  obtain ⟨fs1, v1, q1, r1, hv⟩ := hv
  refine gk_get (pc := 16) (.int v1) (DX3_unsound_0.at 12 rfl) fX3_9_3 q1 r1 ?_
  refine gk_icmp_ge (pc := 19) 88 (DX3_unsound_0.at 13 rfl) (by decide) (fun c => ?_) (fun c => ?_)
  · replace hv := hv.1 c
    refine gk_iinc (pc := 88) (x2 + nI 1) [(2, .int (x2 + nI 1)), (0, .ref o), (1, .ref x1), (3, .int x3)] 2 (DX3_unsound_0.at 51 rfl) rfl (by rw [ci_1]) (Nat.le_of_ble_eq_true rfl) rfl ?_
    refine gk_goto (pc := 91) 2 (DX3_unsound_0.at 52 rfl) (by decide) ?_
    exact gk_pick (pc := 2) [(0, .ref o), (1, .ref x1), (2, .int (x2 + nI 1))] [1, 2, 0] rfl hv
  · replace hv := hv.2 c
    refine gk_iload_n (pc := 22) (DX3_unsound_0.at 14 rfl) 3 rfl rfl ?_
    refine gk_iconst (pc := 23) (nI 1) (DX3_unsound_0.at 15 rfl) ci_1 ?_
    refine gk_iadd (pc := 24) (DX3_unsound_0.at 16 rfl) ?_
    refine gk_istore (pc := 25) [(4, .int (x3 + (nI 1))), (0, .ref o), (1, .ref x1), (2, .int x2), (3, .int x3)] (DX3_unsound_0.at 17 rfl) (Nat.le_of_ble_eq_true rfl) rfl ?_
    exact gk_pick (pc := 27) [(0, .ref o), (1, .ref x1), (2, .int x2), (3, .int x3), (4, .int (x3 + (nI 1)))] [1, 2, 3, 4, 0] rfl hv
set_option maxHeartbeats 4000000 in
theorem vX3_unsound_27 {E : gk_E} {dd : Nat} {o : Nat} {x1 : Nat} {x2 : Int32} {x3 : Int32} {x4 : Int32}  {h : gk_H} {K : Int32 → gk_H → Prop} (hv : LdI h o 3 0 fun v1 => (v1 ≤ x4 → pX3_unsound_14 E dd o x1 x2 (x3 + nI 1) h K) ∧ (¬ v1 ≤ x4 → (∃ fs, h[o]? = some (.inr (3, fs))) ∧ RnI E mX3_at (dd, 0, 0) [.ref o, .int x2, .int x3] h (fun v2 h2 => (∃ fs, h2[o]? = some (.inr (3, fs))) ∧ RnI E mX3_at (dd, 0, 0) [.ref o, .int x3, .int x4] h2 (fun v3 h3 => (∃ fs, h3[o]? = some (.inr (3, fs))) ∧ RnI E mX3_at (dd, 0, 0) [.ref o, .int x2, .int x4] h3 (fun v4 h4 => (∃ fs, h4[x1]? = some (.inr (8, fs))) ∧ RnI E mX8_has (dd, 0, 0) [.ref x1, .int v2, .int v3, .int v4] h4 (fun v5 h5 => (¬ v5 = 0 → pX3_unsound_27 E dd o x1 x2 x3 (x4 + nI 1) h5 K) ∧ (v5 = 0 → K ((((nI 100) * x2) + ((nI 10) * x3)) + x4) h5))))))) : pX3_unsound_27 E dd o x1 x2 x3 x4 h K := by
  show gk_G E mX3_unsound (dd + 1, 0, 0) 27 [(0, .ref o), (1, .ref x1), (2, .int x2), (3, .int x3), (4, .int x4)] [] h (fun o h1 => ∃ v, o = some (.int v) ∧ K v h1)
  refine gk_iload (pc := 27) (DX3_unsound_0.at 18 rfl) 4 rfl ?_
  refine gk_aload_n (pc := 29) (DX3_unsound_0.at 19 rfl) 0 rfl rfl ?_
  obtain ⟨fs1, v1, q1, r1, hv⟩ := hv
  refine gk_get (pc := 30) (.int v1) (DX3_unsound_0.at 20 rfl) fX3_9_3 q1 r1 ?_
  refine gk_icmp_ge (pc := 33) 82 (DX3_unsound_0.at 21 rfl) (by decide) (fun c => ?_) (fun c => ?_)
  · replace hv := hv.1 c
    refine gk_iinc (pc := 82) (x3 + nI 1) [(3, .int (x3 + nI 1)), (0, .ref o), (1, .ref x1), (2, .int x2), (4, .int x4)] 3 (DX3_unsound_0.at 49 rfl) rfl (by rw [ci_1]) (Nat.le_of_ble_eq_true rfl) rfl ?_
    refine gk_goto (pc := 85) 14 (DX3_unsound_0.at 50 rfl) (by decide) ?_
    exact gk_pick (pc := 14) [(0, .ref o), (1, .ref x1), (2, .int x2), (3, .int (x3 + nI 1))] [1, 2, 3, 0] rfl hv
  · replace hv := hv.2 c
    refine gk_aload_n (pc := 36) (DX3_unsound_0.at 22 rfl) 1 rfl rfl ?_
    refine gk_aload_n (pc := 37) (DX3_unsound_0.at 23 rfl) 0 rfl rfl ?_
    refine gk_iload_n (pc := 38) (DX3_unsound_0.at 24 rfl) 2 rfl rfl ?_
    refine gk_iload_n (pc := 39) (DX3_unsound_0.at 25 rfl) 3 rfl rfl ?_
    obtain ⟨⟨fs2, q2⟩, hv⟩ := hv
    refine gk_vV (pc := 40) [.int x2, .int x3] [.ref x1] (DX3_unsound_0.at 26 rfl) cvX3_28 q2 rfl rfl (Nat.le_of_ble_eq_true rfl) (Nat.le_of_ble_eq_true rfl) (gk_Run.post (fun o h2 z => ?_) hv)
    obtain ⟨v2, rfl, hv⟩ := z
    refine gk_aload_n (pc := 43) (DX3_unsound_0.at 27 rfl) 0 rfl rfl ?_
    refine gk_iload_n (pc := 44) (DX3_unsound_0.at 28 rfl) 3 rfl rfl ?_
    refine gk_iload (pc := 45) (DX3_unsound_0.at 29 rfl) 4 rfl ?_
    obtain ⟨⟨fs3, q3⟩, hv⟩ := hv
    refine gk_vV (pc := 47) [.int x3, .int x4] [.int v2, .ref x1] (DX3_unsound_0.at 30 rfl) cvX3_28 q3 rfl rfl (Nat.le_of_ble_eq_true rfl) (Nat.le_of_ble_eq_true rfl) (gk_Run.post (fun o h3 z => ?_) hv)
    obtain ⟨v3, rfl, hv⟩ := z
    refine gk_aload_n (pc := 50) (DX3_unsound_0.at 31 rfl) 0 rfl rfl ?_
    refine gk_iload_n (pc := 51) (DX3_unsound_0.at 32 rfl) 2 rfl rfl ?_
    refine gk_iload (pc := 52) (DX3_unsound_0.at 33 rfl) 4 rfl ?_
    obtain ⟨⟨fs4, q4⟩, hv⟩ := hv
    refine gk_vV (pc := 54) [.int x2, .int x4] [.int v3, .int v2, .ref x1] (DX3_unsound_0.at 34 rfl) cvX3_28 q4 rfl rfl (Nat.le_of_ble_eq_true rfl) (Nat.le_of_ble_eq_true rfl) (gk_Run.post (fun o h4 z => ?_) hv)
    obtain ⟨v4, rfl, hv⟩ := z
    obtain ⟨⟨fs5, q5⟩, hv⟩ := hv
    refine gk_vV (pc := 57) [.int v2, .int v3, .int v4] [] (DX3_unsound_0.at 35 rfl) cvX3_32 q5 rfl rfl (Nat.le_of_ble_eq_true rfl) (Nat.le_of_ble_eq_true rfl) (gk_Run.post (fun o h5 z => ?_) hv)
    obtain ⟨v5, rfl, hv⟩ := z
    refine gk_if_ne (pc := 60) 76 (DX3_unsound_0.at 36 rfl) (by decide) (fun c => ?_) (fun c => ?_)
    · replace hv := hv.1 c
      refine gk_iinc (pc := 76) (x4 + nI 1) [(4, .int (x4 + nI 1)), (0, .ref o), (1, .ref x1), (2, .int x2), (3, .int x3)] 4 (DX3_unsound_0.at 47 rfl) rfl (by rw [ci_1]) (Nat.le_of_ble_eq_true rfl) rfl ?_
      refine gk_goto (pc := 79) 27 (DX3_unsound_0.at 48 rfl) (by decide) ?_
      exact gk_pick (pc := 27) [(0, .ref o), (1, .ref x1), (2, .int x2), (3, .int x3), (4, .int (x4 + nI 1))] [1, 2, 3, 4, 0] rfl hv
    · replace hv := hv.2 c
      refine gk_bipush (pc := 63) (nI 100) (DX3_unsound_0.at 37 rfl) cb_100 ?_
      refine gk_iload_n (pc := 65) (DX3_unsound_0.at 38 rfl) 2 rfl rfl ?_
      refine gk_imul (pc := 66) (DX3_unsound_0.at 39 rfl) ?_
      refine gk_bipush (pc := 67) (nI 10) (DX3_unsound_0.at 40 rfl) cb_10 ?_
      refine gk_iload_n (pc := 69) (DX3_unsound_0.at 41 rfl) 3 rfl rfl ?_
      refine gk_imul (pc := 70) (DX3_unsound_0.at 42 rfl) ?_
      refine gk_iadd (pc := 71) (DX3_unsound_0.at 43 rfl) ?_
      refine gk_iload (pc := 72) (DX3_unsound_0.at 44 rfl) 4 rfl ?_
      refine gk_iadd (pc := 74) (DX3_unsound_0.at 45 rfl) ?_
      exact gk_ireturn (pc := 75) .int (DX3_unsound_0.at 46 rfl) rfl rfl ⟨_, rfl, hv⟩
abbrev pX10_digits_9 (E : gk_E) (dd : Nat) (ci : Nat) (Mc : gk_M) (o : Nat) (x1 : Int32) (x2 : Int32) (x3 : Int32) (h : gk_H) (K : Int32 → gk_H → Prop) : Prop := gk_G E mX10_digits (dd, 0, 0) 9 [(0, .ref o), (1, .int x1), (2, .int x2), (3, .int x3)] [] h (fun o h1 => ∃ v, o = some (.int v) ∧ K v h1)
set_option maxHeartbeats 4000000 in
theorem vX10_digits_0 {E : gk_E} {dd : Nat} {ci : Nat} {Mc : gk_M} {o : Nat} {x1 : Int32} (hci : ci = 4 ∨ ci = 5 ∨ ci = 6) (hMc : gk_Cu RX10 34 ⟨"AtomTables$Wheels", "clash", "(I)I"⟩ RX10 Mc ci 1) (hM2 : 2 ≤ Mc.2.2.1)  {h : gk_H} {K : Int32 → gk_H → Prop} (hv : LdI h o ci 0 fun v1 => pX10_digits_9 E dd ci Mc o x1 (nI 0) (v1 - (nI 1)) h K) : RnI E mX10_digits (dd, 0, 0) [.ref o, .int x1] h K := by
  show gk_G E mX10_digits (dd, 0, 0) 0 [(0, .ref o), (1, .int x1)] [] h (fun o h1 => ∃ v, o = some (.int v) ∧ K v h1)
  refine gk_iconst (pc := 0) (nI 0) (DX10_digits_0.at 0 rfl) ci_0 ?_
  refine gk_istore_n (pc := 1) [(2, .int (nI 0)), (0, .ref o), (1, .int x1)] (DX10_digits_0.at 1 rfl) rfl (Nat.le_of_ble_eq_true rfl) rfl ?_
  refine gk_aload_n (pc := 2) (DX10_digits_0.at 2 rfl) 1 rfl rfl ?_
  obtain ⟨fs1, v1, q1, r1, hv⟩ := hv
  refine gk_get (pc := 3) (.int v1) (DX10_digits_0.at 3 rfl) (fWX10_9 hci) q1 r1 ?_
  refine gk_iconst (pc := 6) (nI 1) (DX10_digits_0.at 4 rfl) ci_1 ?_
  refine gk_isub (pc := 7) (DX10_digits_0.at 5 rfl) ?_
  refine gk_istore_n (pc := 8) [(3, .int (v1 - (nI 1))), (2, .int (nI 0)), (0, .ref o), (1, .int x1)] (DX10_digits_0.at 6 rfl) rfl (Nat.le_of_ble_eq_true rfl) rfl ?_
  exact gk_pick (pc := 9) [(0, .ref o), (1, .int x1), (2, .int (nI 0)), (3, .int (v1 - (nI 1)))] [2, 3, 1, 0] rfl hv
set_option maxHeartbeats 4000000 in
theorem vX10_digits_9 {E : gk_E} {dd : Nat} {ci : Nat} {Mc : gk_M} {o : Nat} {x1 : Int32} {x2 : Int32} {x3 : Int32} (hci : ci = 4 ∨ ci = 5 ∨ ci = 6) (hMc : gk_Cu RX10 34 ⟨"AtomTables$Wheels", "clash", "(I)I"⟩ RX10 Mc ci 1) (hM2 : 2 ≤ Mc.2.2.1)  {h : gk_H} {K : Int32 → gk_H → Prop} (hv : (x3 < 0 → K x2 h) ∧ (¬ x3 < 0 → LdR h o ci 1 fun v1 => AlI h v1 x3 fun v2 => pX10_digits_9 E dd ci Mc o x1 ((((nI 10) * x2) + v2) + x1) (x3 + (-1)) h K)) : pX10_digits_9 E dd ci Mc o x1 x2 x3 h K := by
  show gk_G E mX10_digits (dd, 0, 0) 9 [(0, .ref o), (1, .int x1), (2, .int x2), (3, .int x3)] [] h (fun o h1 => ∃ v, o = some (.int v) ∧ K v h1)
  refine gk_iload_n (pc := 9) (DX10_digits_0.at 7 rfl) 3 rfl rfl ?_
  refine gk_if_lt (pc := 10) 33 (DX10_digits_0.at 8 rfl) (by decide) (fun c => ?_) (fun c => ?_)
  · replace hv := hv.1 c
    refine gk_iload_n (pc := 33) (DX10_digits_0.at 22 rfl) 2 rfl rfl ?_
    exact gk_ireturn (pc := 34) .int (DX10_digits_0.at 23 rfl) rfl rfl ⟨_, rfl, hv⟩
  · replace hv := hv.2 c
    refine gk_bipush (pc := 13) (nI 10) (DX10_digits_0.at 9 rfl) cb_10 ?_
    refine gk_iload_n (pc := 15) (DX10_digits_0.at 10 rfl) 2 rfl rfl ?_
    refine gk_imul (pc := 16) (DX10_digits_0.at 11 rfl) ?_
    refine gk_aload_n (pc := 17) (DX10_digits_0.at 12 rfl) 0 rfl rfl ?_
    obtain ⟨fs1, v1, q1, r1, hv⟩ := hv
    refine gk_get (pc := 18) (.ref v1) (DX10_digits_0.at 13 rfl) (fWX10_15 hci) q1 r1 ?_
    refine gk_iload_n (pc := 21) (DX10_digits_0.at 14 rfl) 3 rfl rfl ?_
    obtain ⟨n2, f2, q2, r2, hv⟩ := hv
    refine gk_iald (pc := 22) (DX10_digits_0.at 15 rfl) q2 r2 ?_
    generalize f2 _ = v2 at hv ⊢
    refine gk_iadd (pc := 23) (DX10_digits_0.at 16 rfl) ?_
    refine gk_iload_n (pc := 24) (DX10_digits_0.at 17 rfl) 1 rfl rfl ?_
    refine gk_iadd (pc := 25) (DX10_digits_0.at 18 rfl) ?_
    refine gk_istore_n (pc := 26) [(2, .int ((((nI 10) * x2) + v2) + x1)), (0, .ref o), (1, .int x1), (3, .int x3)] (DX10_digits_0.at 19 rfl) rfl (Nat.le_of_ble_eq_true rfl) rfl ?_
    refine gk_iinc (pc := 27) (x3 + (-1)) [(3, .int (x3 + (-1))), (2, .int ((((nI 10) * x2) + v2) + x1)), (0, .ref o), (1, .int x1)] 3 (DX10_digits_0.at 20 rfl) rfl (by rw [ci_m1]) (Nat.le_of_ble_eq_true rfl) rfl ?_
    refine gk_goto (pc := 30) 9 (DX10_digits_0.at 21 rfl) (by decide) ?_
    exact gk_pick (pc := 9) [(0, .ref o), (1, .int x1), (2, .int ((((nI 10) * x2) + v2) + x1)), (3, .int (x3 + (-1)))] [2, 3, 1, 0] rfl hv
abbrev pX10_first_4 (E : gk_E) (dd : Nat) (ci : Nat) (Mc : gk_M) (o : Nat) (x1 : Int32) (x2 : Int32) (h : gk_H) (K : Int32 → gk_H → Prop) : Prop := gk_G E mX10_first (dd + 1, 0, 0) 4 [(0, .ref o), (1, .int x1), (2, .int x2)] [] h (fun o h1 => ∃ v, o = some (.int v) ∧ K v h1)
set_option maxHeartbeats 4000000 in
theorem vX10_first_0 {E : gk_E} {dd : Nat} {ci : Nat} {Mc : gk_M} {o : Nat} (hci : ci = 4 ∨ ci = 5 ∨ ci = 6) (hMc : gk_Cu RX10 34 ⟨"AtomTables$Wheels", "clash", "(I)I"⟩ RX10 Mc ci 1) (hM2 : 2 ≤ Mc.2.2.1)  {h : gk_H} {K : Int32 → gk_H → Prop} (hv : pX10_first_4 E dd ci Mc o (nI 1) (nI 0) h K) : RnI E mX10_first (dd + 1, 0, 0) [.ref o] h K := by
  show gk_G E mX10_first (dd + 1, 0, 0) 0 [(0, .ref o)] [] h (fun o h1 => ∃ v, o = some (.int v) ∧ K v h1)
  refine gk_iconst (pc := 0) (nI 1) (DX10_first_0.at 0 rfl) ci_1 ?_
  refine gk_istore_n (pc := 1) [(1, .int (nI 1)), (0, .ref o)] (DX10_first_0.at 1 rfl) rfl (Nat.le_of_ble_eq_true rfl) rfl ?_
  refine gk_iconst (pc := 2) (nI 0) (DX10_first_0.at 2 rfl) ci_0 ?_
  refine gk_istore_n (pc := 3) [(2, .int (nI 0)), (1, .int (nI 1)), (0, .ref o)] (DX10_first_0.at 3 rfl) rfl (Nat.le_of_ble_eq_true rfl) rfl ?_
  exact gk_pick (pc := 4) [(0, .ref o), (1, .int (nI 1)), (2, .int (nI 0))] [2, 1, 0] rfl hv
set_option maxHeartbeats 4000000 in
theorem vX10_first_4 {E : gk_E} {dd : Nat} {ci : Nat} {Mc : gk_M} {o : Nat} {x1 : Int32} {x2 : Int32} (hci : ci = 4 ∨ ci = 5 ∨ ci = 6) (hMc : gk_Cu RX10 34 ⟨"AtomTables$Wheels", "clash", "(I)I"⟩ RX10 Mc ci 1) (hM2 : 2 ≤ Mc.2.2.1)  {h : gk_H} {K : Int32 → gk_H → Prop} (hv : LdI h o ci 0 fun v1 => (v1 ≤ x2 → (x1 = 0 → K (nI 0) h) ∧ (¬ x1 = 0 → LdI h o ci 0 fun v2 => (∃ fs, h[o]? = some (.inr (ci, fs))) ∧ RnI E mX10_settle (dd, 0, 0) [.ref o, .int (v2 - (nI 1))] h (fun v3 h3 => (v3 = 0 → K (nI 0) h3) ∧ (¬ v3 = 0 → K (nI 1) h3)))) ∧ (¬ v1 ≤ x2 → LdR h o ci 1 fun v4 => LdR h o ci 2 fun v5 => AlI h v5 x2 fun v6 => AsI h v4 x2 v6 fun h7 => (x1 = 0 → pX10_first_4 E dd ci Mc o (nI 0) (x2 + nI 1) h7 K) ∧ (¬ x1 = 0 → LdR h7 o ci 2 fun v8 => AlI h7 v8 x2 fun v9 => LdR h7 o ci 3 fun v10 => AlI h7 v10 x2 fun v11 => (v11 < v9 → pX10_first_4 E dd ci Mc o (nI 0) (x2 + nI 1) h7 K) ∧ (¬ v11 < v9 → pX10_first_4 E dd ci Mc o (nI 1) (x2 + nI 1) h7 K)))) : pX10_first_4 E dd ci Mc o x1 x2 h K := by
  show gk_G E mX10_first (dd + 1, 0, 0) 4 [(0, .ref o), (1, .int x1), (2, .int x2)] [] h (fun o h1 => ∃ v, o = some (.int v) ∧ K v h1)
  refine gk_iload_n (pc := 4) (DX10_first_0.at 4 rfl) 2 rfl rfl ?_
  refine gk_aload_n (pc := 5) (DX10_first_0.at 5 rfl) 0 rfl rfl ?_
  obtain ⟨fs1, v1, q1, r1, hv⟩ := hv
  refine gk_get (pc := 6) (.int v1) (DX10_first_0.at 6 rfl) (fWX10_9 hci) q1 r1 ?_
  refine gk_icmp_ge (pc := 9) 55 (DX10_first_0.at 7 rfl) (by decide) (fun c => ?_) (fun c => ?_)
  · replace hv := hv.1 c
    refine gk_iload_n (pc := 55) (DX10_first_0.at 33 rfl) 1 rfl rfl ?_
    refine gk_if_eq (pc := 56) 76 (DX10_first_0.at 34 rfl) (by decide) (fun c => ?_) (fun c => ?_)
    · replace hv := hv.1 c
      refine gk_iconst (pc := 76) (nI 0) (DX10_first_0.at 44 rfl) ci_0 ?_
      exact gk_ireturn (pc := 77) .boolean (DX10_first_0.at 45 rfl) rfl rfl ⟨_, rfl, hv⟩
    · replace hv := hv.2 c
      refine gk_aload_n (pc := 59) (DX10_first_0.at 35 rfl) 0 rfl rfl ?_
      refine gk_aload_n (pc := 60) (DX10_first_0.at 36 rfl) 0 rfl rfl ?_
      obtain ⟨fs2, v2, q2, r2, hv⟩ := hv
      refine gk_get (pc := 61) (.int v2) (DX10_first_0.at 37 rfl) (fWX10_9 hci) q2 r2 ?_
      refine gk_iconst (pc := 64) (nI 1) (DX10_first_0.at 38 rfl) ci_1 ?_
      refine gk_isub (pc := 65) (DX10_first_0.at 39 rfl) ?_
      obtain ⟨⟨fs3, q3⟩, hv⟩ := hv
      refine gk_vU (pc := 66) [.int (v2 - (nI 1))] [] (DX10_first_0.at 40 rfl) (cW25 hci) q3 rfl rfl (Nat.le_of_ble_eq_true rfl) (Nat.le_of_ble_eq_true rfl) (gk_Run.post (fun o h3 z => ?_) hv)
      obtain ⟨v3, rfl, hv⟩ := z
      refine gk_if_eq (pc := 69) 76 (DX10_first_0.at 41 rfl) (by decide) (fun c => ?_) (fun c => ?_)
      · replace hv := hv.1 c
        refine gk_iconst (pc := 76) (nI 0) (DX10_first_0.at 44 rfl) ci_0 ?_
        exact gk_ireturn (pc := 77) .boolean (DX10_first_0.at 45 rfl) rfl rfl ⟨_, rfl, hv⟩
      · replace hv := hv.2 c
        refine gk_iconst (pc := 72) (nI 1) (DX10_first_0.at 42 rfl) ci_1 ?_
        refine gk_goto (pc := 73) 77 (DX10_first_0.at 43 rfl) (by decide) ?_
        exact gk_ireturn (pc := 77) .boolean (DX10_first_0.at 45 rfl) rfl rfl ⟨_, rfl, hv⟩
  · replace hv := hv.2 c
    refine gk_aload_n (pc := 12) (DX10_first_0.at 8 rfl) 0 rfl rfl ?_
    obtain ⟨fs4, v4, q4, r4, hv⟩ := hv
    refine gk_get (pc := 13) (.ref v4) (DX10_first_0.at 9 rfl) (fWX10_15 hci) q4 r4 ?_
    refine gk_iload_n (pc := 16) (DX10_first_0.at 10 rfl) 2 rfl rfl ?_
    refine gk_aload_n (pc := 17) (DX10_first_0.at 11 rfl) 0 rfl rfl ?_
    obtain ⟨fs5, v5, q5, r5, hv⟩ := hv
    refine gk_get (pc := 18) (.ref v5) (DX10_first_0.at 12 rfl) (fWX10_19 hci) q5 r5 ?_
    refine gk_iload_n (pc := 21) (DX10_first_0.at 13 rfl) 2 rfl rfl ?_
    obtain ⟨n6, f6, q6, r6, hv⟩ := hv
    refine gk_iald (pc := 22) (DX10_first_0.at 14 rfl) q6 r6 ?_
    generalize f6 _ = v6 at hv ⊢
    obtain ⟨n7, f7, q7, r7, hv⟩ := hv
    refine gk_iast (pc := 23) (DX10_first_0.at 15 rfl) q7 r7 ?_
    generalize h.set _ _ = h7 at hv ⊢
    refine gk_iload_n (pc := 24) (DX10_first_0.at 16 rfl) 1 rfl rfl ?_
    refine gk_if_eq (pc := 25) 47 (DX10_first_0.at 17 rfl) (by decide) (fun c => ?_) (fun c => ?_)
    · replace hv := hv.1 c
      refine gk_iconst (pc := 47) (nI 0) (DX10_first_0.at 29 rfl) ci_0 ?_
      refine gk_istore_n (pc := 48) [(1, .int (nI 0)), (0, .ref o), (2, .int x2)] (DX10_first_0.at 30 rfl) rfl (Nat.le_of_ble_eq_true rfl) rfl ?_
      refine gk_iinc (pc := 49) (x2 + nI 1) [(2, .int (x2 + nI 1)), (1, .int (nI 0)), (0, .ref o)] 2 (DX10_first_0.at 31 rfl) rfl (by rw [ci_1]) (Nat.le_of_ble_eq_true rfl) rfl ?_
      refine gk_goto (pc := 52) 4 (DX10_first_0.at 32 rfl) (by decide) ?_
      exact gk_pick (pc := 4) [(0, .ref o), (1, .int (nI 0)), (2, .int (x2 + nI 1))] [2, 1, 0] rfl hv
    · replace hv := hv.2 c
      refine gk_aload_n (pc := 28) (DX10_first_0.at 18 rfl) 0 rfl rfl ?_
      obtain ⟨fs8, v8, q8, r8, hv⟩ := hv
      refine gk_get (pc := 29) (.ref v8) (DX10_first_0.at 19 rfl) (fWX10_19 hci) q8 r8 ?_
      refine gk_iload_n (pc := 32) (DX10_first_0.at 20 rfl) 2 rfl rfl ?_
      obtain ⟨n9, f9, q9, r9, hv⟩ := hv
      refine gk_iald (pc := 33) (DX10_first_0.at 21 rfl) q9 r9 ?_
      generalize f9 _ = v9 at hv ⊢
      refine gk_aload_n (pc := 34) (DX10_first_0.at 22 rfl) 0 rfl rfl ?_
      obtain ⟨fs10, v10, q10, r10, hv⟩ := hv
      refine gk_get (pc := 35) (.ref v10) (DX10_first_0.at 23 rfl) (fWX10_22 hci) q10 r10 ?_
      refine gk_iload_n (pc := 38) (DX10_first_0.at 24 rfl) 2 rfl rfl ?_
      obtain ⟨n11, f11, q11, r11, hv⟩ := hv
      refine gk_iald (pc := 39) (DX10_first_0.at 25 rfl) q11 r11 ?_
      generalize f11 _ = v11 at hv ⊢
      refine gk_icmp_gt (pc := 40) 47 (DX10_first_0.at 26 rfl) (by decide) (fun c => ?_) (fun c => ?_)
      · replace hv := hv.1 c
        refine gk_iconst (pc := 47) (nI 0) (DX10_first_0.at 29 rfl) ci_0 ?_
        refine gk_istore_n (pc := 48) [(1, .int (nI 0)), (0, .ref o), (2, .int x2)] (DX10_first_0.at 30 rfl) rfl (Nat.le_of_ble_eq_true rfl) rfl ?_
        refine gk_iinc (pc := 49) (x2 + nI 1) [(2, .int (x2 + nI 1)), (1, .int (nI 0)), (0, .ref o)] 2 (DX10_first_0.at 31 rfl) rfl (by rw [ci_1]) (Nat.le_of_ble_eq_true rfl) rfl ?_
        refine gk_goto (pc := 52) 4 (DX10_first_0.at 32 rfl) (by decide) ?_
        exact gk_pick (pc := 4) [(0, .ref o), (1, .int (nI 0)), (2, .int (x2 + nI 1))] [2, 1, 0] rfl hv
      · replace hv := hv.2 c
        refine gk_iconst (pc := 43) (nI 1) (DX10_first_0.at 27 rfl) ci_1 ?_
        refine gk_goto (pc := 44) 48 (DX10_first_0.at 28 rfl) (by decide) ?_
        refine gk_istore_n (pc := 48) [(1, .int (nI 1)), (0, .ref o), (2, .int x2)] (DX10_first_0.at 30 rfl) rfl (Nat.le_of_ble_eq_true rfl) rfl ?_
        refine gk_iinc (pc := 49) (x2 + nI 1) [(2, .int (x2 + nI 1)), (1, .int (nI 1)), (0, .ref o)] 2 (DX10_first_0.at 31 rfl) rfl (by rw [ci_1]) (Nat.le_of_ble_eq_true rfl) rfl ?_
        refine gk_goto (pc := 52) 4 (DX10_first_0.at 32 rfl) (by decide) ?_
        exact gk_pick (pc := 4) [(0, .ref o), (1, .int (nI 1)), (2, .int (x2 + nI 1))] [2, 1, 0] rfl hv
set_option maxHeartbeats 4000000 in
theorem vX10_hold_0 {E : gk_E} {dd : Nat} {ci : Nat} {Mc : gk_M} {o : Nat} {x1 : Int32} {x2 : Int32} (hci : ci = 4 ∨ ci = 5 ∨ ci = 6) (hMc : gk_Cu RX10 34 ⟨"AtomTables$Wheels", "clash", "(I)I"⟩ RX10 Mc ci 1) (hM2 : 2 ≤ Mc.2.2.1)  {h : gk_H} {K : gk_H → Prop} (hv : LdR h o ci 2 fun v1 => AsI h v1 x1 x2 fun h2 => LdR h2 o ci 3 fun v3 => AsI h2 v3 x1 x2 fun h4 => K h4) : RnV E mX10_hold (dd, 0, 0) [.ref o, .int x1, .int x2] h K := by
  show gk_G E mX10_hold (dd, 0, 0) 0 [(0, .ref o), (1, .int x1), (2, .int x2)] [] h (fun o h1 => o = none ∧ K h1)
  refine gk_aload_n (pc := 0) (DX10_hold_0.at 0 rfl) 0 rfl rfl ?_
  obtain ⟨fs1, v1, q1, r1, hv⟩ := hv
  refine gk_get (pc := 1) (.ref v1) (DX10_hold_0.at 1 rfl) (fWX10_19 hci) q1 r1 ?_
  refine gk_iload_n (pc := 4) (DX10_hold_0.at 2 rfl) 1 rfl rfl ?_
  refine gk_iload_n (pc := 5) (DX10_hold_0.at 3 rfl) 2 rfl rfl ?_
  obtain ⟨n2, f2, q2, r2, hv⟩ := hv
  refine gk_iast (pc := 6) (DX10_hold_0.at 4 rfl) q2 r2 ?_
  generalize h.set _ _ = h2 at hv ⊢
  refine gk_aload_n (pc := 7) (DX10_hold_0.at 5 rfl) 0 rfl rfl ?_
  obtain ⟨fs3, v3, q3, r3, hv⟩ := hv
  refine gk_get (pc := 8) (.ref v3) (DX10_hold_0.at 6 rfl) (fWX10_22 hci) q3 r3 ?_
  refine gk_iload_n (pc := 11) (DX10_hold_0.at 7 rfl) 1 rfl rfl ?_
  refine gk_iload_n (pc := 12) (DX10_hold_0.at 8 rfl) 2 rfl rfl ?_
  obtain ⟨n4, f4, q4, r4, hv⟩ := hv
  refine gk_iast (pc := 13) (DX10_hold_0.at 9 rfl) q4 r4 ?_
  generalize h2.set _ _ = h4 at hv ⊢
  exact gk_return (pc := 14) (DX10_hold_0.at 10 rfl) rfl ⟨rfl, hv⟩
set_option maxHeartbeats 4000000 in
theorem vX10_next_0 {E : gk_E} {dd : Nat} {ci : Nat} {Mc : gk_M} {o : Nat} (hci : ci = 4 ∨ ci = 5 ∨ ci = 6) (hMc : gk_Cu RX10 34 ⟨"AtomTables$Wheels", "clash", "(I)I"⟩ RX10 Mc ci 1) (hM2 : 2 ≤ Mc.2.2.1)  {h : gk_H} {K : Int32 → gk_H → Prop} (hv : (∃ fs, h[o]? = some (.inr (ci, fs))) ∧ RnI E mX10_turn (dd, 0, 0) [.ref o, .int (nI 0)] h (fun v1 h1 => LdI h1 o ci 0 fun v2 => (v2 ≤ v1 → K (nI 0) h1) ∧ (¬ v2 ≤ v1 → (∃ fs, h1[o]? = some (.inr (ci, fs))) ∧ RnI E mX10_settle (dd, 0, 0) [.ref o, .int v1] h1 (fun v3 h3 => (v3 = 0 → K (nI 0) h3) ∧ (¬ v3 = 0 → K (nI 1) h3))))) : RnI E mX10_next (dd + 1, 0, 0) [.ref o] h K := by
  show gk_G E mX10_next (dd + 1, 0, 0) 0 [(0, .ref o)] [] h (fun o h1 => ∃ v, o = some (.int v) ∧ K v h1)
  refine gk_aload_n (pc := 0) (DX10_next_0.at 0 rfl) 0 rfl rfl ?_
  refine gk_iconst (pc := 1) (nI 0) (DX10_next_0.at 1 rfl) ci_0 ?_
  obtain ⟨⟨fs1, q1⟩, hv⟩ := hv
  refine gk_vU (pc := 2) [.int (nI 0)] [] (DX10_next_0.at 2 rfl) (cW29 hci) q1 rfl rfl (Nat.le_of_ble_eq_true rfl) (Nat.le_of_ble_eq_true rfl) (gk_Run.post (fun o h1 z => ?_) hv)
  obtain ⟨v1, rfl, hv⟩ := z
  refine gk_istore_n (pc := 5) [(1, .int v1), (0, .ref o)] (DX10_next_0.at 3 rfl) rfl (Nat.le_of_ble_eq_true rfl) rfl ?_
  refine gk_iload_n (pc := 6) (DX10_next_0.at 4 rfl) 0 rfl rfl ?_
  refine gk_aload_n (pc := 7) (DX10_next_0.at 5 rfl) 1 rfl rfl ?_
  obtain ⟨fs2, v2, q2, r2, hv⟩ := hv
  refine gk_get (pc := 8) (.int v2) (DX10_next_0.at 6 rfl) (fWX10_9 hci) q2 r2 ?_
  refine gk_icmp_ge (pc := 11) 26 (DX10_next_0.at 7 rfl) (by decide) (fun c => ?_) (fun c => ?_)
  · replace hv := hv.1 c
    refine gk_iconst (pc := 26) (nI 0) (DX10_next_0.at 14 rfl) ci_0 ?_
    exact gk_ireturn (pc := 27) .boolean (DX10_next_0.at 15 rfl) rfl rfl ⟨_, rfl, hv⟩
  · replace hv := hv.2 c
    refine gk_aload_n (pc := 14) (DX10_next_0.at 8 rfl) 1 rfl rfl ?_
    refine gk_iload_n (pc := 15) (DX10_next_0.at 9 rfl) 0 rfl rfl ?_
    obtain ⟨⟨fs3, q3⟩, hv⟩ := hv
    refine gk_vU (pc := 16) [.int v1] [] (DX10_next_0.at 10 rfl) (cW25 hci) q3 rfl rfl (Nat.le_of_ble_eq_true rfl) (Nat.le_of_ble_eq_true rfl) (gk_Run.post (fun o h3 z => ?_) hv)
    obtain ⟨v3, rfl, hv⟩ := z
    refine gk_if_eq (pc := 19) 26 (DX10_next_0.at 11 rfl) (by decide) (fun c => ?_) (fun c => ?_)
    · replace hv := hv.1 c
      refine gk_iconst (pc := 26) (nI 0) (DX10_next_0.at 14 rfl) ci_0 ?_
      exact gk_ireturn (pc := 27) .boolean (DX10_next_0.at 15 rfl) rfl rfl ⟨_, rfl, hv⟩
    · replace hv := hv.2 c
      refine gk_iconst (pc := 22) (nI 1) (DX10_next_0.at 12 rfl) ci_1 ?_
      refine gk_goto (pc := 23) 27 (DX10_next_0.at 13 rfl) (by decide) ?_
      exact gk_ireturn (pc := 27) .boolean (DX10_next_0.at 15 rfl) rfl rfl ⟨_, rfl, hv⟩
abbrev pX10_settle_4 (E : gk_E) (dd : Nat) (ci : Nat) (Mc : gk_M) (o : Nat) (x1 : Int32) (x2 : Int32) (x3 : Int32) (h : gk_H) (K : Int32 → gk_H → Prop) : Prop := gk_G E mX10_settle (dd + 1, 0, 0) 4 [(0, .ref o), (1, .int x1), (2, .int x2), (3, .int x3)] [] h (fun o h1 => ∃ v, o = some (.int v) ∧ K v h1)
set_option maxHeartbeats 4000000 in
theorem vX10_settle_0 {E : gk_E} {dd : Nat} {ci : Nat} {Mc : gk_M} {o : Nat} {x1 : Int32} (hci : ci = 4 ∨ ci = 5 ∨ ci = 6) (hMc : gk_Cu RX10 34 ⟨"AtomTables$Wheels", "clash", "(I)I"⟩ RX10 Mc ci 1) (hM2 : 2 ≤ Mc.2.2.1)  {h : gk_H} {K : Int32 → gk_H → Prop} (hv : pX10_settle_4 E dd ci Mc o x1 x1 (nI 0) h K) : RnI E mX10_settle (dd + 1, 0, 0) [.ref o, .int x1] h K := by
  show gk_G E mX10_settle (dd + 1, 0, 0) 0 [(0, .ref o), (1, .int x1)] [] h (fun o h1 => ∃ v, o = some (.int v) ∧ K v h1)
  refine gk_iload_n (pc := 0) (DX10_settle_0.at 0 rfl) 1 rfl rfl ?_
  refine gk_istore_n (pc := 1) [(2, .int x1), (0, .ref o), (1, .int x1)] (DX10_settle_0.at 1 rfl) rfl (Nat.le_of_ble_eq_true rfl) rfl ?_
  refine gk_iconst (pc := 2) (nI 0) (DX10_settle_0.at 2 rfl) ci_0 ?_
  refine gk_istore_n (pc := 3) [(3, .int (nI 0)), (2, .int x1), (0, .ref o), (1, .int x1)] (DX10_settle_0.at 3 rfl) rfl (Nat.le_of_ble_eq_true rfl) rfl ?_
  exact gk_pick (pc := 4) [(0, .ref o), (1, .int x1), (2, .int x1), (3, .int (nI 0))] [2, 3, 1, 0] rfl hv
set_option maxHeartbeats 4000000 in
theorem vX10_settle_4 {E : gk_E} {dd : Nat} {ci : Nat} {Mc : gk_M} {o : Nat} {x1 : Int32} {x2 : Int32} {x3 : Int32} (hci : ci = 4 ∨ ci = 5 ∨ ci = 6) (hMc : gk_Cu RX10 34 ⟨"AtomTables$Wheels", "clash", "(I)I"⟩ RX10 Mc ci 1) (hM2 : 2 ≤ Mc.2.2.1)  {h : gk_H} {K : Int32 → gk_H → Prop} (hv : ((nI 1000000) ≤ x3 → K (nI 0) h) ∧ (¬ (nI 1000000) ≤ x3 → LdI h o ci 0 fun v1 => (v1 ≤ x2 → K (nI 0) h) ∧ (¬ v1 ≤ x2 → (∃ fs, h[o]? = some (.inr (ci, fs))) ∧ RnI E Mc (dd, 0, 0) [.ref o, .int x2] h (fun v2 h2 => (0 ≤ v2 → (∃ fs, h2[o]? = some (.inr (ci, fs))) ∧ RnI E mX10_turn (dd, 0, 0) [.ref o, .int v2] h2 (fun v3 h3 => pX10_settle_4 E dd ci Mc o x1 v3 (x3 + nI 1) h3 K)) ∧ (¬ 0 ≤ v2 → K (nI 1) h2))))) : pX10_settle_4 E dd ci Mc o x1 x2 x3 h K := by
  show gk_G E mX10_settle (dd + 1, 0, 0) 4 [(0, .ref o), (1, .int x1), (2, .int x2), (3, .int x3)] [] h (fun o h1 => ∃ v, o = some (.int v) ∧ K v h1)
  refine gk_iload_n (pc := 4) (DX10_settle_0.at 4 rfl) 3 rfl rfl ?_
  refine gk_ldc (pc := 5) (nI 1000000) (DX10_settle_0.at 5 rfl) kcX10_33 ?_
  refine gk_icmp_ge (pc := 7) 45 (DX10_settle_0.at 6 rfl) (by decide) (fun c => ?_) (fun c => ?_)
  · replace hv := hv.1 c
    refine gk_iconst (pc := 45) (nI 0) (DX10_settle_0.at 25 rfl) ci_0 ?_
    exact gk_ireturn (pc := 46) .boolean (DX10_settle_0.at 26 rfl) rfl rfl ⟨_, rfl, hv⟩
  · replace hv := hv.2 c
    refine gk_iload_n (pc := 10) (DX10_settle_0.at 7 rfl) 2 rfl rfl ?_
    refine gk_aload_n (pc := 11) (DX10_settle_0.at 8 rfl) 0 rfl rfl ?_
    obtain ⟨fs1, v1, q1, r1, hv⟩ := hv
    refine gk_get (pc := 12) (.int v1) (DX10_settle_0.at 9 rfl) (fWX10_9 hci) q1 r1 ?_
    refine gk_icmp_ge (pc := 15) 45 (DX10_settle_0.at 10 rfl) (by decide) (fun c => ?_) (fun c => ?_)
    · replace hv := hv.1 c
      refine gk_iconst (pc := 45) (nI 0) (DX10_settle_0.at 25 rfl) ci_0 ?_
      exact gk_ireturn (pc := 46) .boolean (DX10_settle_0.at 26 rfl) rfl rfl ⟨_, rfl, hv⟩
    · replace hv := hv.2 c
      refine gk_aload_n (pc := 18) (DX10_settle_0.at 11 rfl) 0 rfl rfl ?_
      refine gk_iload_n (pc := 19) (DX10_settle_0.at 12 rfl) 2 rfl rfl ?_
      obtain ⟨⟨fs2, q2⟩, hv⟩ := hv
      refine gk_vU (pc := 20) [.int x2] [] (DX10_settle_0.at 13 rfl) hMc q2 rfl rfl hM2 (Nat.le_of_ble_eq_true rfl) (gk_Run.post (fun o h2 z => ?_) hv)
      obtain ⟨v2, rfl, hv⟩ := z
      refine gk_istore (pc := 23) [(4, .int v2), (0, .ref o), (1, .int x1), (2, .int x2), (3, .int x3)] (DX10_settle_0.at 14 rfl) (Nat.le_of_ble_eq_true rfl) rfl ?_
      refine gk_iload (pc := 25) (DX10_settle_0.at 15 rfl) 0 rfl ?_
      refine gk_if_ge (pc := 27) 32 (DX10_settle_0.at 16 rfl) (by decide) (fun c => ?_) (fun c => ?_)
      · replace hv := hv.1 c
        refine gk_aload_n (pc := 32) (DX10_settle_0.at 19 rfl) 1 rfl rfl ?_
        refine gk_iload (pc := 33) (DX10_settle_0.at 20 rfl) 0 rfl ?_
        obtain ⟨⟨fs3, q3⟩, hv⟩ := hv
        refine gk_vU (pc := 35) [.int v2] [] (DX10_settle_0.at 21 rfl) (cW29 hci) q3 rfl rfl (Nat.le_of_ble_eq_true rfl) (Nat.le_of_ble_eq_true rfl) (gk_Run.post (fun o h3 z => ?_) hv)
        obtain ⟨v3, rfl, hv⟩ := z
        refine gk_istore_n (pc := 38) [(2, .int v3), (4, .int v2), (0, .ref o), (1, .int x1), (3, .int x3)] (DX10_settle_0.at 22 rfl) rfl (Nat.le_of_ble_eq_true rfl) rfl ?_
        refine gk_iinc (pc := 39) (x3 + nI 1) [(3, .int (x3 + nI 1)), (2, .int v3), (4, .int v2), (0, .ref o), (1, .int x1)] 4 (DX10_settle_0.at 23 rfl) rfl (by rw [ci_1]) (Nat.le_of_ble_eq_true rfl) rfl ?_
        refine gk_goto (pc := 42) 4 (DX10_settle_0.at 24 rfl) (by decide) ?_
        exact gk_pick (pc := 4) [(0, .ref o), (1, .int x1), (2, .int v3), (3, .int (x3 + nI 1))] [3, 4, 1, 0] rfl hv
      · replace hv := hv.2 c
        refine gk_iconst (pc := 30) (nI 1) (DX10_settle_0.at 17 rfl) ci_1 ?_
        exact gk_ireturn (pc := 31) .boolean (DX10_settle_0.at 18 rfl) rfl rfl ⟨_, rfl, hv⟩
abbrev pX10_span_8 (E : gk_E) (dd : Nat) (ci : Nat) (Mc : gk_M) (o : Nat) (x1 : Int32) (x2 : Int32) (x3 : Int32) (x4 : Int32) (h : gk_H) (K : gk_H → Prop) : Prop := gk_G E mX10_span (dd, 0, 0) 8 [(0, .ref o), (1, .int x1), (2, .int x2), (3, .int x3), (4, .int x4)] [] h (fun o h1 => o = none ∧ K h1)
set_option maxHeartbeats 4000000 in
theorem vX10_span_0 {E : gk_E} {dd : Nat} {ci : Nat} {Mc : gk_M} {o : Nat} {x1 : Int32} {x2 : Int32} {x3 : Int32} (hci : ci = 4 ∨ ci = 5 ∨ ci = 6) (hMc : gk_Cu RX10 34 ⟨"AtomTables$Wheels", "clash", "(I)I"⟩ RX10 Mc ci 1) (hM2 : 2 ≤ Mc.2.2.1)  {h : gk_H} {K : gk_H → Prop} (hv : StI h o ci 0 x1 fun h1 => pX10_span_8 E dd ci Mc o x1 x2 x3 (nI 0) h1 K) : RnV E mX10_span (dd, 0, 0) [.ref o, .int x1, .int x2, .int x3] h K := by
  show gk_G E mX10_span (dd, 0, 0) 0 [(0, .ref o), (1, .int x1), (2, .int x2), (3, .int x3)] [] h (fun o h1 => o = none ∧ K h1)
  refine gk_aload_n (pc := 0) (DX10_span_0.at 0 rfl) 0 rfl rfl ?_
  refine gk_iload_n (pc := 1) (DX10_span_0.at 1 rfl) 1 rfl rfl ?_
  obtain ⟨fs1, q1, r1, hv⟩ := hv
  refine gk_put (pc := 2) (DX10_span_0.at 2 rfl) (fWX10_9w hci) q1 r1 rfl rfl ?_
  generalize h.set _ _ = h1 at hv ⊢
  refine gk_iconst (pc := 5) (nI 0) (DX10_span_0.at 3 rfl) ci_0 ?_
  refine gk_istore (pc := 6) [(4, .int (nI 0)), (0, .ref o), (1, .int x1), (2, .int x2), (3, .int x3)] (DX10_span_0.at 4 rfl) (Nat.le_of_ble_eq_true rfl) rfl ?_
  exact gk_pick (pc := 8) [(0, .ref o), (1, .int x1), (2, .int x2), (3, .int x3), (4, .int (nI 0))] [1, 2, 3, 4, 0] rfl hv
set_option maxHeartbeats 4000000 in
theorem vX10_span_8 {E : gk_E} {dd : Nat} {ci : Nat} {Mc : gk_M} {o : Nat} {x1 : Int32} {x2 : Int32} {x3 : Int32} {x4 : Int32} (hci : ci = 4 ∨ ci = 5 ∨ ci = 6) (hMc : gk_Cu RX10 34 ⟨"AtomTables$Wheels", "clash", "(I)I"⟩ RX10 Mc ci 1) (hM2 : 2 ≤ Mc.2.2.1)  {h : gk_H} {K : gk_H → Prop} (hv : LdI h o ci 0 fun v1 => (v1 ≤ x4 → K h) ∧ (¬ v1 ≤ x4 → LdR h o ci 2 fun v2 => AsI h v2 x4 x2 fun h3 => LdR h3 o ci 3 fun v4 => AsI h3 v4 x4 x3 fun h5 => pX10_span_8 E dd ci Mc o x1 x2 x3 (x4 + nI 1) h5 K)) : pX10_span_8 E dd ci Mc o x1 x2 x3 x4 h K := by
  show gk_G E mX10_span (dd, 0, 0) 8 [(0, .ref o), (1, .int x1), (2, .int x2), (3, .int x3), (4, .int x4)] [] h (fun o h1 => o = none ∧ K h1)
  refine gk_iload (pc := 8) (DX10_span_0.at 5 rfl) 4 rfl ?_
  refine gk_aload_n (pc := 10) (DX10_span_0.at 6 rfl) 0 rfl rfl ?_
  obtain ⟨fs1, v1, q1, r1, hv⟩ := hv
  refine gk_get (pc := 11) (.int v1) (DX10_span_0.at 7 rfl) (fWX10_9 hci) q1 r1 ?_
  refine gk_icmp_ge (pc := 14) 39 (DX10_span_0.at 8 rfl) (by decide) (fun c => ?_) (fun c => ?_)
  · replace hv := hv.1 c
    exact gk_return (pc := 39) (DX10_span_0.at 21 rfl) rfl ⟨rfl, hv⟩
  · replace hv := hv.2 c
    refine gk_aload_n (pc := 17) (DX10_span_0.at 9 rfl) 0 rfl rfl ?_
    obtain ⟨fs2, v2, q2, r2, hv⟩ := hv
    refine gk_get (pc := 18) (.ref v2) (DX10_span_0.at 10 rfl) (fWX10_19 hci) q2 r2 ?_
    refine gk_iload (pc := 21) (DX10_span_0.at 11 rfl) 4 rfl ?_
    refine gk_iload_n (pc := 23) (DX10_span_0.at 12 rfl) 2 rfl rfl ?_
    obtain ⟨n3, f3, q3, r3, hv⟩ := hv
    refine gk_iast (pc := 24) (DX10_span_0.at 13 rfl) q3 r3 ?_
    generalize h.set _ _ = h3 at hv ⊢
    refine gk_aload_n (pc := 25) (DX10_span_0.at 14 rfl) 0 rfl rfl ?_
    obtain ⟨fs4, v4, q4, r4, hv⟩ := hv
    refine gk_get (pc := 26) (.ref v4) (DX10_span_0.at 15 rfl) (fWX10_22 hci) q4 r4 ?_
    refine gk_iload (pc := 29) (DX10_span_0.at 16 rfl) 4 rfl ?_
    refine gk_iload_n (pc := 31) (DX10_span_0.at 17 rfl) 3 rfl rfl ?_
    obtain ⟨n5, f5, q5, r5, hv⟩ := hv
    refine gk_iast (pc := 32) (DX10_span_0.at 18 rfl) q5 r5 ?_
    generalize h3.set _ _ = h5 at hv ⊢
    refine gk_iinc (pc := 33) (x4 + nI 1) [(4, .int (x4 + nI 1)), (0, .ref o), (1, .int x1), (2, .int x2), (3, .int x3)] 4 (DX10_span_0.at 19 rfl) rfl (by rw [ci_1]) (Nat.le_of_ble_eq_true rfl) rfl ?_
    refine gk_goto (pc := 36) 8 (DX10_span_0.at 20 rfl) (by decide) ?_
    exact gk_pick (pc := 8) [(0, .ref o), (1, .int x1), (2, .int x2), (3, .int x3), (4, .int (x4 + nI 1))] [1, 2, 3, 4, 0] rfl hv
abbrev pX10_turn_2 (E : gk_E) (dd : Nat) (ci : Nat) (Mc : gk_M) (o : Nat) (x1 : Int32) (x2 : Int32) (h : gk_H) (K : Int32 → gk_H → Prop) : Prop := gk_G E mX10_turn (dd, 0, 0) 2 [(0, .ref o), (1, .int x1), (2, .int x2)] [] h (fun o h1 => ∃ v, o = some (.int v) ∧ K v h1)
abbrev pX10_turn_51 (E : gk_E) (dd : Nat) (ci : Nat) (Mc : gk_M) (o : Nat) (x1 : Int32) (x2 : Int32) (x3 : Int32) (h : gk_H) (K : Int32 → gk_H → Prop) : Prop := gk_G E mX10_turn (dd, 0, 0) 51 [(0, .ref o), (1, .int x1), (2, .int x2), (3, .int x3)] [] h (fun o h1 => ∃ v, o = some (.int v) ∧ K v h1)
set_option maxHeartbeats 4000000 in
theorem vX10_turn_0 {E : gk_E} {dd : Nat} {ci : Nat} {Mc : gk_M} {o : Nat} {x1 : Int32} (hci : ci = 4 ∨ ci = 5 ∨ ci = 6) (hMc : gk_Cu RX10 34 ⟨"AtomTables$Wheels", "clash", "(I)I"⟩ RX10 Mc ci 1) (hM2 : 2 ≤ Mc.2.2.1)  {h : gk_H} {K : Int32 → gk_H → Prop} (hv : pX10_turn_2 E dd ci Mc o x1 x1 h K) : RnI E mX10_turn (dd, 0, 0) [.ref o, .int x1] h K := by
  show gk_G E mX10_turn (dd, 0, 0) 0 [(0, .ref o), (1, .int x1)] [] h (fun o h1 => ∃ v, o = some (.int v) ∧ K v h1)
  refine gk_iload_n (pc := 0) (DX10_turn_0.at 0 rfl) 1 rfl rfl ?_
  refine gk_istore_n (pc := 1) [(2, .int x1), (0, .ref o), (1, .int x1)] (DX10_turn_0.at 1 rfl) rfl (Nat.le_of_ble_eq_true rfl) rfl ?_
  exact gk_pick (pc := 2) [(0, .ref o), (1, .int x1), (2, .int x1)] [1, 2, 0] rfl hv
set_option maxHeartbeats 4000000 in
theorem vX10_turn_2 {E : gk_E} {dd : Nat} {ci : Nat} {Mc : gk_M} {o : Nat} {x1 : Int32} {x2 : Int32} (hci : ci = 4 ∨ ci = 5 ∨ ci = 6) (hMc : gk_Cu RX10 34 ⟨"AtomTables$Wheels", "clash", "(I)I"⟩ RX10 Mc ci 1) (hM2 : 2 ≤ Mc.2.2.1)  {h : gk_H} {K : Int32 → gk_H → Prop} (hv : LdI h o ci 0 fun v1 => (v1 ≤ x2 → LdI h o ci 0 fun v2 => (v2 ≤ x2 → K x2 h) ∧ (¬ v2 ≤ x2 → LdR h o ci 1 fun v3 => AlI h v3 x2 fun v4 => AsI h v3 x2 (v4 + (nI 1)) fun h5 => pX10_turn_51 E dd ci Mc o x1 x2 (nI 0) h5 K)) ∧ (¬ v1 ≤ x2 → LdR h o ci 1 fun v6 => AlI h v6 x2 fun v7 => LdR h o ci 3 fun v8 => AlI h v8 x2 fun v9 => (v7 < v9 → LdI h o ci 0 fun v10 => (v10 ≤ x2 → K x2 h) ∧ (¬ v10 ≤ x2 → LdR h o ci 1 fun v11 => AlI h v11 x2 fun v12 => AsI h v11 x2 (v12 + (nI 1)) fun h13 => pX10_turn_51 E dd ci Mc o x1 x2 (nI 0) h13 K)) ∧ (¬ v7 < v9 → pX10_turn_2 E dd ci Mc o x1 (x2 + nI 1) h K))) : pX10_turn_2 E dd ci Mc o x1 x2 h K := by
  show gk_G E mX10_turn (dd, 0, 0) 2 [(0, .ref o), (1, .int x1), (2, .int x2)] [] h (fun o h1 => ∃ v, o = some (.int v) ∧ K v h1)
  refine gk_iload_n (pc := 2) (DX10_turn_0.at 2 rfl) 2 rfl rfl ?_
  refine gk_aload_n (pc := 3) (DX10_turn_0.at 3 rfl) 0 rfl rfl ?_
  obtain ⟨fs1, v1, q1, r1, hv⟩ := hv
  refine gk_get (pc := 4) (.int v1) (DX10_turn_0.at 4 rfl) (fWX10_9 hci) q1 r1 ?_
  refine gk_icmp_ge (pc := 7) 31 (DX10_turn_0.at 5 rfl) (by decide) (fun c => ?_) (fun c => ?_)
  · replace hv := hv.1 c
    refine gk_iload_n (pc := 31) (DX10_turn_0.at 17 rfl) 2 rfl rfl ?_
    refine gk_aload_n (pc := 32) (DX10_turn_0.at 18 rfl) 0 rfl rfl ?_
    obtain ⟨fs2, v2, q2, r2, hv⟩ := hv
    refine gk_get (pc := 33) (.int v2) (DX10_turn_0.at 19 rfl) (fWX10_9 hci) q2 r2 ?_
    refine gk_icmp_ge (pc := 36) 74 (DX10_turn_0.at 20 rfl) (by decide) (fun c => ?_) (fun c => ?_)
    · replace hv := hv.1 c
      refine gk_iload_n (pc := 74) (DX10_turn_0.at 44 rfl) 2 rfl rfl ?_
      exact gk_ireturn (pc := 75) .int (DX10_turn_0.at 45 rfl) rfl rfl ⟨_, rfl, hv⟩
    · replace hv := hv.2 c
      refine gk_aload_n (pc := 39) (DX10_turn_0.at 21 rfl) 0 rfl rfl ?_
      obtain ⟨fs3, v3, q3, r3, hv⟩ := hv
      refine gk_get (pc := 40) (.ref v3) (DX10_turn_0.at 22 rfl) (fWX10_15 hci) q3 r3 ?_
      refine gk_iload_n (pc := 43) (DX10_turn_0.at 23 rfl) 2 rfl rfl ?_
      refine gk_dup2 (pc := 44) (DX10_turn_0.at 24 rfl) rfl rfl ?_
      obtain ⟨n4, f4, q4, r4, hv⟩ := hv
      refine gk_iald (pc := 45) (DX10_turn_0.at 25 rfl) q4 r4 ?_
      generalize f4 _ = v4 at hv ⊢
      refine gk_iconst (pc := 46) (nI 1) (DX10_turn_0.at 26 rfl) ci_1 ?_
      refine gk_iadd (pc := 47) (DX10_turn_0.at 27 rfl) ?_
      obtain ⟨n5, f5, q5, r5, hv⟩ := hv
      refine gk_iast (pc := 48) (DX10_turn_0.at 28 rfl) q5 r5 ?_
      generalize h.set _ _ = h5 at hv ⊢
      refine gk_iconst (pc := 49) (nI 0) (DX10_turn_0.at 29 rfl) ci_0 ?_
      refine gk_istore_n (pc := 50) [(3, .int (nI 0)), (0, .ref o), (1, .int x1), (2, .int x2)] (DX10_turn_0.at 30 rfl) rfl (Nat.le_of_ble_eq_true rfl) rfl ?_
      exact gk_pick (pc := 51) [(0, .ref o), (1, .int x1), (2, .int x2), (3, .int (nI 0))] [1, 2, 3, 0] rfl hv
  · replace hv := hv.2 c
    refine gk_aload_n (pc := 10) (DX10_turn_0.at 6 rfl) 0 rfl rfl ?_
    obtain ⟨fs6, v6, q6, r6, hv⟩ := hv
    refine gk_get (pc := 11) (.ref v6) (DX10_turn_0.at 7 rfl) (fWX10_15 hci) q6 r6 ?_
    refine gk_iload_n (pc := 14) (DX10_turn_0.at 8 rfl) 2 rfl rfl ?_
    obtain ⟨n7, f7, q7, r7, hv⟩ := hv
    refine gk_iald (pc := 15) (DX10_turn_0.at 9 rfl) q7 r7 ?_
    generalize f7 _ = v7 at hv ⊢
    refine gk_aload_n (pc := 16) (DX10_turn_0.at 10 rfl) 0 rfl rfl ?_
    obtain ⟨fs8, v8, q8, r8, hv⟩ := hv
    refine gk_get (pc := 17) (.ref v8) (DX10_turn_0.at 11 rfl) (fWX10_22 hci) q8 r8 ?_
    refine gk_iload_n (pc := 20) (DX10_turn_0.at 12 rfl) 2 rfl rfl ?_
    obtain ⟨n9, f9, q9, r9, hv⟩ := hv
    refine gk_iald (pc := 21) (DX10_turn_0.at 13 rfl) q9 r9 ?_
    generalize f9 _ = v9 at hv ⊢
    refine gk_icmp_lt (pc := 22) 31 (DX10_turn_0.at 14 rfl) (by decide) (fun c => ?_) (fun c => ?_)
    · replace hv := hv.1 c
      refine gk_iload_n (pc := 31) (DX10_turn_0.at 17 rfl) 2 rfl rfl ?_
      refine gk_aload_n (pc := 32) (DX10_turn_0.at 18 rfl) 0 rfl rfl ?_
      obtain ⟨fs10, v10, q10, r10, hv⟩ := hv
      refine gk_get (pc := 33) (.int v10) (DX10_turn_0.at 19 rfl) (fWX10_9 hci) q10 r10 ?_
      refine gk_icmp_ge (pc := 36) 74 (DX10_turn_0.at 20 rfl) (by decide) (fun c => ?_) (fun c => ?_)
      · replace hv := hv.1 c
        refine gk_iload_n (pc := 74) (DX10_turn_0.at 44 rfl) 2 rfl rfl ?_
        exact gk_ireturn (pc := 75) .int (DX10_turn_0.at 45 rfl) rfl rfl ⟨_, rfl, hv⟩
      · replace hv := hv.2 c
        refine gk_aload_n (pc := 39) (DX10_turn_0.at 21 rfl) 0 rfl rfl ?_
        obtain ⟨fs11, v11, q11, r11, hv⟩ := hv
        refine gk_get (pc := 40) (.ref v11) (DX10_turn_0.at 22 rfl) (fWX10_15 hci) q11 r11 ?_
        refine gk_iload_n (pc := 43) (DX10_turn_0.at 23 rfl) 2 rfl rfl ?_
        refine gk_dup2 (pc := 44) (DX10_turn_0.at 24 rfl) rfl rfl ?_
        obtain ⟨n12, f12, q12, r12, hv⟩ := hv
        refine gk_iald (pc := 45) (DX10_turn_0.at 25 rfl) q12 r12 ?_
        generalize f12 _ = v12 at hv ⊢
        refine gk_iconst (pc := 46) (nI 1) (DX10_turn_0.at 26 rfl) ci_1 ?_
        refine gk_iadd (pc := 47) (DX10_turn_0.at 27 rfl) ?_
        obtain ⟨n13, f13, q13, r13, hv⟩ := hv
        refine gk_iast (pc := 48) (DX10_turn_0.at 28 rfl) q13 r13 ?_
        generalize h.set _ _ = h13 at hv ⊢
        refine gk_iconst (pc := 49) (nI 0) (DX10_turn_0.at 29 rfl) ci_0 ?_
        refine gk_istore_n (pc := 50) [(3, .int (nI 0)), (0, .ref o), (1, .int x1), (2, .int x2)] (DX10_turn_0.at 30 rfl) rfl (Nat.le_of_ble_eq_true rfl) rfl ?_
        exact gk_pick (pc := 51) [(0, .ref o), (1, .int x1), (2, .int x2), (3, .int (nI 0))] [1, 2, 3, 0] rfl hv
    · replace hv := hv.2 c
      refine gk_iinc (pc := 25) (x2 + nI 1) [(2, .int (x2 + nI 1)), (0, .ref o), (1, .int x1)] 2 (DX10_turn_0.at 15 rfl) rfl (by rw [ci_1]) (Nat.le_of_ble_eq_true rfl) rfl ?_
      refine gk_goto (pc := 28) 2 (DX10_turn_0.at 16 rfl) (by decide) ?_
      exact gk_pick (pc := 2) [(0, .ref o), (1, .int x1), (2, .int (x2 + nI 1))] [1, 2, 0] rfl hv
set_option maxHeartbeats 4000000 in
theorem vX10_turn_51 {E : gk_E} {dd : Nat} {ci : Nat} {Mc : gk_M} {o : Nat} {x1 : Int32} {x2 : Int32} {x3 : Int32} (hci : ci = 4 ∨ ci = 5 ∨ ci = 6) (hMc : gk_Cu RX10 34 ⟨"AtomTables$Wheels", "clash", "(I)I"⟩ RX10 Mc ci 1) (hM2 : 2 ≤ Mc.2.2.1)  {h : gk_H} {K : Int32 → gk_H → Prop} (hv : (x2 ≤ x3 → K x2 h) ∧ (¬ x2 ≤ x3 → LdR h o ci 1 fun v1 => LdR h o ci 2 fun v2 => AlI h v2 x3 fun v3 => AsI h v1 x3 v3 fun h4 => pX10_turn_51 E dd ci Mc o x1 x2 (x3 + nI 1) h4 K)) : pX10_turn_51 E dd ci Mc o x1 x2 x3 h K := by
  show gk_G E mX10_turn (dd, 0, 0) 51 [(0, .ref o), (1, .int x1), (2, .int x2), (3, .int x3)] [] h (fun o h1 => ∃ v, o = some (.int v) ∧ K v h1)
  refine gk_iload_n (pc := 51) (DX10_turn_0.at 31 rfl) 3 rfl rfl ?_
  refine gk_iload_n (pc := 52) (DX10_turn_0.at 32 rfl) 2 rfl rfl ?_
  refine gk_icmp_ge (pc := 53) 74 (DX10_turn_0.at 33 rfl) (by decide) (fun c => ?_) (fun c => ?_)
  · replace hv := hv.1 c
    refine gk_iload_n (pc := 74) (DX10_turn_0.at 44 rfl) 2 rfl rfl ?_
    exact gk_ireturn (pc := 75) .int (DX10_turn_0.at 45 rfl) rfl rfl ⟨_, rfl, hv⟩
  · replace hv := hv.2 c
    refine gk_aload_n (pc := 56) (DX10_turn_0.at 34 rfl) 0 rfl rfl ?_
    obtain ⟨fs1, v1, q1, r1, hv⟩ := hv
    refine gk_get (pc := 57) (.ref v1) (DX10_turn_0.at 35 rfl) (fWX10_15 hci) q1 r1 ?_
    refine gk_iload_n (pc := 60) (DX10_turn_0.at 36 rfl) 3 rfl rfl ?_
    refine gk_aload_n (pc := 61) (DX10_turn_0.at 37 rfl) 0 rfl rfl ?_
    obtain ⟨fs2, v2, q2, r2, hv⟩ := hv
    refine gk_get (pc := 62) (.ref v2) (DX10_turn_0.at 38 rfl) (fWX10_19 hci) q2 r2 ?_
    refine gk_iload_n (pc := 65) (DX10_turn_0.at 39 rfl) 3 rfl rfl ?_
    obtain ⟨n3, f3, q3, r3, hv⟩ := hv
    refine gk_iald (pc := 66) (DX10_turn_0.at 40 rfl) q3 r3 ?_
    generalize f3 _ = v3 at hv ⊢
    obtain ⟨n4, f4, q4, r4, hv⟩ := hv
    refine gk_iast (pc := 67) (DX10_turn_0.at 41 rfl) q4 r4 ?_
    generalize h.set _ _ = h4 at hv ⊢
    refine gk_iinc (pc := 68) (x3 + nI 1) [(3, .int (x3 + nI 1)), (0, .ref o), (1, .int x1), (2, .int x2)] 3 (DX10_turn_0.at 42 rfl) rfl (by rw [ci_1]) (Nat.le_of_ble_eq_true rfl) rfl ?_
    refine gk_goto (pc := 71) 51 (DX10_turn_0.at 43 rfl) (by decide) ?_
    exact gk_pick (pc := 51) [(0, .ref o), (1, .int x1), (2, .int x2), (3, .int (x3 + nI 1))] [1, 2, 3, 0] rfl hv
abbrev pX4_clash_2 (E : gk_E) (dd : Nat) (o : Nat) (x1 : Int32) (x2 : Int32) (h : gk_H) (K : Int32 → gk_H → Prop) : Prop := gk_G E mX4_clash (dd, 0, 0) 2 [(0, .ref o), (1, .int x1), (2, .int x2)] [] h (fun o h1 => ∃ v, o = some (.int v) ∧ K v h1)
abbrev pX4_clash_10 (E : gk_E) (dd : Nat) (o : Nat) (x1 : Int32) (x2 : Int32) (x3 : Int32) (h : gk_H) (K : Int32 → gk_H → Prop) : Prop := gk_G E mX4_clash (dd, 0, 0) 10 [(0, .ref o), (1, .int x1), (2, .int x2), (3, .int x3)] [] h (fun o h1 => ∃ v, o = some (.int v) ∧ K v h1)
set_option maxHeartbeats 4000000 in
theorem vX4_clash_0 {E : gk_E} {dd : Nat} {o : Nat} {x1 : Int32}  {h : gk_H} {K : Int32 → gk_H → Prop} (hv : pX4_clash_2 E dd o x1 x1 h K) : RnI E mX4_clash (dd, 0, 0) [.ref o, .int x1] h K := by
  show gk_G E mX4_clash (dd, 0, 0) 0 [(0, .ref o), (1, .int x1)] [] h (fun o h1 => ∃ v, o = some (.int v) ∧ K v h1)
  refine gk_iload_n (pc := 0) (DX4_clash_0.at 0 rfl) 1 rfl rfl ?_
  refine gk_istore_n (pc := 1) [(2, .int x1), (0, .ref o), (1, .int x1)] (DX4_clash_0.at 1 rfl) rfl (Nat.le_of_ble_eq_true rfl) rfl ?_
  exact gk_pick (pc := 2) [(0, .ref o), (1, .int x1), (2, .int x1)] [1, 2, 0] rfl hv
set_option maxHeartbeats 4000000 in
theorem vX4_clash_2 {E : gk_E} {dd : Nat} {o : Nat} {x1 : Int32} {x2 : Int32}  {h : gk_H} {K : Int32 → gk_H → Prop} (hv : (x2 < 0 → K ((-1)) h) ∧ (¬ x2 < 0 → pX4_clash_10 E dd o x1 x2 (x2 + (nI 1)) h K)) : pX4_clash_2 E dd o x1 x2 h K := by
  show gk_G E mX4_clash (dd, 0, 0) 2 [(0, .ref o), (1, .int x1), (2, .int x2)] [] h (fun o h1 => ∃ v, o = some (.int v) ∧ K v h1)
  refine gk_iload_n (pc := 2) (DX4_clash_0.at 2 rfl) 2 rfl rfl ?_
  refine gk_if_lt (pc := 3) 92 (DX4_clash_0.at 3 rfl) (by decide) (fun c => ?_) (fun c => ?_)
  · replace hv := hv.1 c
    refine gk_iconst (pc := 92) ((-1)) (DX4_clash_0.at 54 rfl) ci_m1 ?_
    exact gk_ireturn (pc := 93) .int (DX4_clash_0.at 55 rfl) rfl rfl ⟨_, rfl, hv⟩
  · replace hv := hv.2 c
    refine gk_iload_n (pc := 6) (DX4_clash_0.at 4 rfl) 2 rfl rfl ?_
    refine gk_iconst (pc := 7) (nI 1) (DX4_clash_0.at 5 rfl) ci_1 ?_
    refine gk_iadd (pc := 8) (DX4_clash_0.at 6 rfl) ?_
    refine gk_istore_n (pc := 9) [(3, .int (x2 + (nI 1))), (0, .ref o), (1, .int x1), (2, .int x2)] (DX4_clash_0.at 7 rfl) rfl (Nat.le_of_ble_eq_true rfl) rfl ?_
    exact gk_pick (pc := 10) [(0, .ref o), (1, .int x1), (2, .int x2), (3, .int (x2 + (nI 1)))] [1, 2, 3, 0] rfl hv
set_option maxHeartbeats 4000000 in
theorem vX4_clash_10 {E : gk_E} {dd : Nat} {o : Nat} {x1 : Int32} {x2 : Int32} {x3 : Int32}  {h : gk_H} {K : Int32 → gk_H → Prop} (hv : LdI h o 4 0 fun v1 => (v1 ≤ x3 → pX4_clash_2 E dd o x1 (x2 + (-1)) h K) ∧ (¬ v1 ≤ x3 → LdR h o 4 6 fun v2 => LdR h v2 3 1 fun v3 => LdR h o 4 1 fun v4 => AlI h v4 x2 fun v5 => LdR h o 4 1 fun v6 => AlI h v6 x3 fun v7 => AlI h v3 (((nI 6) * v5) + v7) fun v8 => LdR h o 4 1 fun v9 => AlI h v9 x2 fun v10 => LdR h o 4 1 fun v11 => AlI h v11 x3 fun v12 => (v10 = v12 → K x2 h) ∧ (¬ v10 = v12 → LdR h o 4 5 fun v13 => LdR h v13 3 1 fun v14 => AlI h v14 (((nI 6) * x2) + x3) fun v15 => (v15 = v8 → pX4_clash_10 E dd o x1 x2 (x3 + nI 1) h K) ∧ (¬ v15 = v8 → K x2 h)))) : pX4_clash_10 E dd o x1 x2 x3 h K := by
  show gk_G E mX4_clash (dd, 0, 0) 10 [(0, .ref o), (1, .int x1), (2, .int x2), (3, .int x3)] [] h (fun o h1 => ∃ v, o = some (.int v) ∧ K v h1)
  refine gk_iload_n (pc := 10) (DX4_clash_0.at 8 rfl) 3 rfl rfl ?_
  refine gk_aload_n (pc := 11) (DX4_clash_0.at 9 rfl) 0 rfl rfl ?_
  obtain ⟨fs1, v1, q1, r1, hv⟩ := hv
  refine gk_get (pc := 12) (.int v1) (DX4_clash_0.at 10 rfl) fX4_57_4 q1 r1 ?_
  refine gk_icmp_ge (pc := 15) 86 (DX4_clash_0.at 11 rfl) (by decide) (fun c => ?_) (fun c => ?_)
  · replace hv := hv.1 c
    refine gk_iinc (pc := 86) (x2 + (-1)) [(2, .int (x2 + (-1))), (0, .ref o), (1, .int x1), (3, .int x3)] 2 (DX4_clash_0.at 52 rfl) rfl (by rw [ci_m1]) (Nat.le_of_ble_eq_true rfl) rfl ?_
    refine gk_goto (pc := 89) 2 (DX4_clash_0.at 53 rfl) (by decide) ?_
    exact gk_pick (pc := 2) [(0, .ref o), (1, .int x1), (2, .int (x2 + (-1)))] [1, 2, 0] rfl hv
  · replace hv := hv.2 c
    refine gk_aload_n (pc := 18) (DX4_clash_0.at 12 rfl) 0 rfl rfl ?_
    obtain ⟨fs2, v2, q2, r2, hv⟩ := hv
    refine gk_get (pc := 19) (.ref v2) (DX4_clash_0.at 13 rfl) fX4_24_4 q2 r2 ?_
    obtain ⟨fs3, v3, q3, r3, hv⟩ := hv
    refine gk_get (pc := 22) (.ref v3) (DX4_clash_0.at 14 rfl) fX4_58_3 q3 r3 ?_
    refine gk_bipush (pc := 25) (nI 6) (DX4_clash_0.at 15 rfl) cb_6 ?_
    refine gk_aload_n (pc := 27) (DX4_clash_0.at 16 rfl) 0 rfl rfl ?_
    obtain ⟨fs4, v4, q4, r4, hv⟩ := hv
    refine gk_get (pc := 28) (.ref v4) (DX4_clash_0.at 17 rfl) fX4_62_4 q4 r4 ?_
    refine gk_iload_n (pc := 31) (DX4_clash_0.at 18 rfl) 2 rfl rfl ?_
    obtain ⟨n5, f5, q5, r5, hv⟩ := hv
    refine gk_iald (pc := 32) (DX4_clash_0.at 19 rfl) q5 r5 ?_
    generalize f5 _ = v5 at hv ⊢
    refine gk_imul (pc := 33) (DX4_clash_0.at 20 rfl) ?_
    refine gk_aload_n (pc := 34) (DX4_clash_0.at 21 rfl) 0 rfl rfl ?_
    obtain ⟨fs6, v6, q6, r6, hv⟩ := hv
    refine gk_get (pc := 35) (.ref v6) (DX4_clash_0.at 22 rfl) fX4_62_4 q6 r6 ?_
    refine gk_iload_n (pc := 38) (DX4_clash_0.at 23 rfl) 3 rfl rfl ?_
    obtain ⟨n7, f7, q7, r7, hv⟩ := hv
    refine gk_iald (pc := 39) (DX4_clash_0.at 24 rfl) q7 r7 ?_
    generalize f7 _ = v7 at hv ⊢
    refine gk_iadd (pc := 40) (DX4_clash_0.at 25 rfl) ?_
    obtain ⟨n8, f8, q8, r8, hv⟩ := hv
    refine gk_iald (pc := 41) (DX4_clash_0.at 26 rfl) q8 r8 ?_
    generalize f8 _ = v8 at hv ⊢
    refine gk_istore (pc := 42) [(4, .int v8), (0, .ref o), (1, .int x1), (2, .int x2), (3, .int x3)] (DX4_clash_0.at 27 rfl) (Nat.le_of_ble_eq_true rfl) rfl ?_
    refine gk_aload_n (pc := 44) (DX4_clash_0.at 28 rfl) 1 rfl rfl ?_
    obtain ⟨fs9, v9, q9, r9, hv⟩ := hv
    refine gk_get (pc := 45) (.ref v9) (DX4_clash_0.at 29 rfl) fX4_62_4 q9 r9 ?_
    refine gk_iload_n (pc := 48) (DX4_clash_0.at 30 rfl) 3 rfl rfl ?_
    obtain ⟨n10, f10, q10, r10, hv⟩ := hv
    refine gk_iald (pc := 49) (DX4_clash_0.at 31 rfl) q10 r10 ?_
    generalize f10 _ = v10 at hv ⊢
    refine gk_aload_n (pc := 50) (DX4_clash_0.at 32 rfl) 1 rfl rfl ?_
    obtain ⟨fs11, v11, q11, r11, hv⟩ := hv
    refine gk_get (pc := 51) (.ref v11) (DX4_clash_0.at 33 rfl) fX4_62_4 q11 r11 ?_
    refine gk_iload_n (pc := 54) (DX4_clash_0.at 34 rfl) 4 rfl rfl ?_
    obtain ⟨n12, f12, q12, r12, hv⟩ := hv
    refine gk_iald (pc := 55) (DX4_clash_0.at 35 rfl) q12 r12 ?_
    generalize f12 _ = v12 at hv ⊢
    refine gk_icmp_eq (pc := 56) 78 (DX4_clash_0.at 36 rfl) (by decide) (fun c => ?_) (fun c => ?_)
    · replace hv := hv.1 c
      refine gk_iload_n (pc := 78) (DX4_clash_0.at 48 rfl) 3 rfl rfl ?_
      exact gk_ireturn (pc := 79) .int (DX4_clash_0.at 49 rfl) rfl rfl ⟨_, rfl, hv⟩
    · replace hv := hv.2 c
      refine gk_aload_n (pc := 59) (DX4_clash_0.at 37 rfl) 1 rfl rfl ?_
      obtain ⟨fs13, v13, q13, r13, hv⟩ := hv
      refine gk_get (pc := 60) (.ref v13) (DX4_clash_0.at 38 rfl) fX4_21_4 q13 r13 ?_
      obtain ⟨fs14, v14, q14, r14, hv⟩ := hv
      refine gk_get (pc := 63) (.ref v14) (DX4_clash_0.at 39 rfl) fX4_58_3 q14 r14 ?_
      refine gk_bipush (pc := 66) (nI 6) (DX4_clash_0.at 40 rfl) cb_6 ?_
      refine gk_iload_n (pc := 68) (DX4_clash_0.at 41 rfl) 3 rfl rfl ?_
      refine gk_imul (pc := 69) (DX4_clash_0.at 42 rfl) ?_
      refine gk_iload_n (pc := 70) (DX4_clash_0.at 43 rfl) 4 rfl rfl ?_
      refine gk_iadd (pc := 71) (DX4_clash_0.at 44 rfl) ?_
      obtain ⟨n15, f15, q15, r15, hv⟩ := hv
      refine gk_iald (pc := 72) (DX4_clash_0.at 45 rfl) q15 r15 ?_
      generalize f15 _ = v15 at hv ⊢
      refine gk_iload (pc := 73) (DX4_clash_0.at 46 rfl) 0 rfl ?_
      refine gk_icmp_eq (pc := 75) 80 (DX4_clash_0.at 47 rfl) (by decide) (fun c => ?_) (fun c => ?_)
      · replace hv := hv.1 c
        refine gk_iinc (pc := 80) (x3 + nI 1) [(3, .int (x3 + nI 1)), (4, .int v8), (0, .ref o), (1, .int x1), (2, .int x2)] 4 (DX4_clash_0.at 50 rfl) rfl (by rw [ci_1]) (Nat.le_of_ble_eq_true rfl) rfl ?_
        refine gk_goto (pc := 83) 10 (DX4_clash_0.at 51 rfl) (by decide) ?_
        exact gk_pick (pc := 10) [(0, .ref o), (1, .int x1), (2, .int x2), (3, .int (x3 + nI 1))] [2, 3, 4, 0] rfl hv
      · replace hv := hv.2 c
        refine gk_iload_n (pc := 78) (DX4_clash_0.at 48 rfl) 3 rfl rfl ?_
        exact gk_ireturn (pc := 79) .int (DX4_clash_0.at 49 rfl) rfl rfl ⟨_, rfl, hv⟩
set_option maxHeartbeats 4000000 in
theorem vX4_isBarred_0 {E : gk_E} {dd : Nat} {o : Nat} {x1 : Nat}  {h : gk_H} {K : Int32 → gk_H → Prop} (hv : LdR h o 4 4 fun v1 => LdI h v1 7 3 fun v2 => (v2 = 0 → ((nI 0) = 0 → K (nI 0) h) ∧ (¬ (nI 0) = 0 → LdI h x1 3 0 fun v3 => ((nI 0) ≤ v3 → LdR h o 4 4 fun v4 => LdR h v4 7 2 fun v5 => (∃ fs, h[o]? = some (.inr (4, fs))) ∧ RnV E mX4_look (dd, 0, 0) [.ref o, .ref v5, .ref x1] h (fun h6 => (∃ fs, h6[o]? = some (.inr (4, fs))) ∧ RnI E mX10_first (dd, 0, 0) [.ref o] h6 (fun v7 h7 => (bz v7 ∧ K v7 h7)))) ∧ (¬ (nI 0) ≤ v3 → K (nI 0) h))) ∧ (¬ v2 = 0 → LdR h o 4 4 fun v8 => LdR h v8 7 2 fun v9 => LdI h v9 3 0 fun v10 => (v10 = 0 → K (nI 0) h) ∧ (¬ v10 = 0 → LdI h x1 3 0 fun v11 => (v10 ≤ v11 → LdR h o 4 4 fun v12 => LdR h v12 7 2 fun v13 => (∃ fs, h[o]? = some (.inr (4, fs))) ∧ RnV E mX4_look (dd, 0, 0) [.ref o, .ref v13, .ref x1] h (fun h14 => (∃ fs, h14[o]? = some (.inr (4, fs))) ∧ RnI E mX10_first (dd, 0, 0) [.ref o] h14 (fun v15 h15 => (bz v15 ∧ K v15 h15)))) ∧ (¬ v10 ≤ v11 → K (nI 0) h)))) : RnI E mX4_isBarred (dd + 1, 0, 0) [.ref o, .ref x1] h K := by
  show gk_G E mX4_isBarred (dd + 1, 0, 0) 0 [(0, .ref o), (1, .ref x1)] [] h (fun o h1 => ∃ v, o = some (.int v) ∧ K v h1)
  refine gk_aload_n (pc := 0) (DX4_isBarred_0.at 0 rfl) 0 rfl rfl ?_
  obtain ⟨fs1, v1, q1, r1, hv⟩ := hv
  refine gk_get (pc := 1) (.ref v1) (DX4_isBarred_0.at 1 rfl) fX4_9_4 q1 r1 ?_
  obtain ⟨fs2, v2, q2, r2, hv⟩ := hv
  refine gk_get (pc := 4) (.int v2) (DX4_isBarred_0.at 2 rfl) fX4_43_7 q2 r2 ?_
  refine gk_if_eq (pc := 7) 23 (DX4_isBarred_0.at 3 rfl) (by decide) (fun c => ?_) (fun c => ?_)
  · replace hv := hv.1 c
    refine gk_iconst (pc := 23) (nI 0) (DX4_isBarred_0.at 9 rfl) ci_0 ?_
    refine gk_istore_n (pc := 24) [(2, .int (nI 0)), (0, .ref o), (1, .ref x1)] (DX4_isBarred_0.at 10 rfl) rfl (Nat.le_of_ble_eq_true rfl) rfl ?_
    refine gk_iload_n (pc := 25) (DX4_isBarred_0.at 11 rfl) 0 rfl rfl ?_
    refine gk_if_eq (pc := 26) 37 (DX4_isBarred_0.at 12 rfl) (by decide) (fun c => ?_) (fun c => ?_)
    · replace hv := hv.1 c
      refine gk_iconst (pc := 37) (nI 0) (DX4_isBarred_0.at 17 rfl) ci_0 ?_
      exact gk_ireturn (pc := 38) .boolean (DX4_isBarred_0.at 18 rfl) rfl rfl ⟨_, rfl, hv⟩
    · replace hv := hv.2 c
      refine gk_iload_n (pc := 29) (DX4_isBarred_0.at 13 rfl) 0 rfl rfl ?_
      refine gk_aload_n (pc := 30) (DX4_isBarred_0.at 14 rfl) 2 rfl rfl ?_
      obtain ⟨fs3, v3, q3, r3, hv⟩ := hv
      refine gk_get (pc := 31) (.int v3) (DX4_isBarred_0.at 15 rfl) fX4_47_3 q3 r3 ?_
      refine gk_icmp_le (pc := 34) 39 (DX4_isBarred_0.at 16 rfl) (by decide) (fun c => ?_) (fun c => ?_)
      · replace hv := hv.1 c
        refine gk_aload_n (pc := 39) (DX4_isBarred_0.at 19 rfl) 1 rfl rfl ?_
        refine gk_aload_n (pc := 40) (DX4_isBarred_0.at 20 rfl) 1 rfl rfl ?_
        obtain ⟨fs4, v4, q4, r4, hv⟩ := hv
        refine gk_get (pc := 41) (.ref v4) (DX4_isBarred_0.at 21 rfl) fX4_9_4 q4 r4 ?_
        obtain ⟨fs5, v5, q5, r5, hv⟩ := hv
        refine gk_get (pc := 44) (.ref v5) (DX4_isBarred_0.at 22 rfl) fX4_15_7 q5 r5 ?_
        refine gk_aload_n (pc := 47) (DX4_isBarred_0.at 23 rfl) 2 rfl rfl ?_
        obtain ⟨⟨fs6, q6⟩, hv⟩ := hv
        refine gk_vV (pc := 48) [.ref v5, .ref x1] [] (DX4_isBarred_0.at 24 rfl) cvX4_27 q6 rfl rfl (Nat.le_of_ble_eq_true rfl) (Nat.le_of_ble_eq_true rfl) (gk_Run.post (fun o h6 z => ?_) hv)
        obtain ⟨rfl, hv⟩ := z
        refine gk_aload_n (pc := 51) (DX4_isBarred_0.at 25 rfl) 1 rfl rfl ?_
        obtain ⟨⟨fs7, q7⟩, hv⟩ := hv
        refine gk_vU (pc := 52) [] [] (DX4_isBarred_0.at 26 rfl) cuX4_31_4 q7 rfl rfl (Nat.le_of_ble_eq_true rfl) (Nat.le_of_ble_eq_true rfl) (gk_Run.post (fun o h7 z => ?_) hv)
        obtain ⟨v7, rfl, hv⟩ := z
        exact gk_ireturn (pc := 55) .boolean (DX4_isBarred_0.at 27 rfl) rfl (bz_n hv.1) ⟨_, rfl, hv.2⟩
      · replace hv := hv.2 c
        refine gk_iconst (pc := 37) (nI 0) (DX4_isBarred_0.at 17 rfl) ci_0 ?_
        exact gk_ireturn (pc := 38) .boolean (DX4_isBarred_0.at 18 rfl) rfl rfl ⟨_, rfl, hv⟩
  · replace hv := hv.2 c
    refine gk_aload_n (pc := 10) (DX4_isBarred_0.at 4 rfl) 0 rfl rfl ?_
    obtain ⟨fs8, v8, q8, r8, hv⟩ := hv
    refine gk_get (pc := 11) (.ref v8) (DX4_isBarred_0.at 5 rfl) fX4_9_4 q8 r8 ?_
    obtain ⟨fs9, v9, q9, r9, hv⟩ := hv
    refine gk_get (pc := 14) (.ref v9) (DX4_isBarred_0.at 6 rfl) fX4_15_7 q9 r9 ?_
    obtain ⟨fs10, v10, q10, r10, hv⟩ := hv
    refine gk_get (pc := 17) (.int v10) (DX4_isBarred_0.at 7 rfl) fX4_47_3 q10 r10 ?_
    refine gk_goto (pc := 20) 24 (DX4_isBarred_0.at 8 rfl) (by decide) ?_
    refine gk_istore_n (pc := 24) [(2, .int v10), (0, .ref o), (1, .ref x1)] (DX4_isBarred_0.at 10 rfl) rfl (Nat.le_of_ble_eq_true rfl) rfl ?_
    refine gk_iload_n (pc := 25) (DX4_isBarred_0.at 11 rfl) 0 rfl rfl ?_
    refine gk_if_eq (pc := 26) 37 (DX4_isBarred_0.at 12 rfl) (by decide) (fun c => ?_) (fun c => ?_)
    · replace hv := hv.1 c
      refine gk_iconst (pc := 37) (nI 0) (DX4_isBarred_0.at 17 rfl) ci_0 ?_
      exact gk_ireturn (pc := 38) .boolean (DX4_isBarred_0.at 18 rfl) rfl rfl ⟨_, rfl, hv⟩
    · replace hv := hv.2 c
      refine gk_iload_n (pc := 29) (DX4_isBarred_0.at 13 rfl) 0 rfl rfl ?_
      refine gk_aload_n (pc := 30) (DX4_isBarred_0.at 14 rfl) 2 rfl rfl ?_
      obtain ⟨fs11, v11, q11, r11, hv⟩ := hv
      refine gk_get (pc := 31) (.int v11) (DX4_isBarred_0.at 15 rfl) fX4_47_3 q11 r11 ?_
      refine gk_icmp_le (pc := 34) 39 (DX4_isBarred_0.at 16 rfl) (by decide) (fun c => ?_) (fun c => ?_)
      · replace hv := hv.1 c
        refine gk_aload_n (pc := 39) (DX4_isBarred_0.at 19 rfl) 1 rfl rfl ?_
        refine gk_aload_n (pc := 40) (DX4_isBarred_0.at 20 rfl) 1 rfl rfl ?_
        obtain ⟨fs12, v12, q12, r12, hv⟩ := hv
        refine gk_get (pc := 41) (.ref v12) (DX4_isBarred_0.at 21 rfl) fX4_9_4 q12 r12 ?_
        obtain ⟨fs13, v13, q13, r13, hv⟩ := hv
        refine gk_get (pc := 44) (.ref v13) (DX4_isBarred_0.at 22 rfl) fX4_15_7 q13 r13 ?_
        refine gk_aload_n (pc := 47) (DX4_isBarred_0.at 23 rfl) 2 rfl rfl ?_
        obtain ⟨⟨fs14, q14⟩, hv⟩ := hv
        refine gk_vV (pc := 48) [.ref v13, .ref x1] [] (DX4_isBarred_0.at 24 rfl) cvX4_27 q14 rfl rfl (Nat.le_of_ble_eq_true rfl) (Nat.le_of_ble_eq_true rfl) (gk_Run.post (fun o h14 z => ?_) hv)
        obtain ⟨rfl, hv⟩ := z
        refine gk_aload_n (pc := 51) (DX4_isBarred_0.at 25 rfl) 1 rfl rfl ?_
        obtain ⟨⟨fs15, q15⟩, hv⟩ := hv
        refine gk_vU (pc := 52) [] [] (DX4_isBarred_0.at 26 rfl) cuX4_31_4 q15 rfl rfl (Nat.le_of_ble_eq_true rfl) (Nat.le_of_ble_eq_true rfl) (gk_Run.post (fun o h15 z => ?_) hv)
        obtain ⟨v15, rfl, hv⟩ := z
        exact gk_ireturn (pc := 55) .boolean (DX4_isBarred_0.at 27 rfl) rfl (bz_n hv.1) ⟨_, rfl, hv.2⟩
      · replace hv := hv.2 c
        refine gk_iconst (pc := 37) (nI 0) (DX4_isBarred_0.at 17 rfl) ci_0 ?_
        exact gk_ireturn (pc := 38) .boolean (DX4_isBarred_0.at 18 rfl) rfl rfl ⟨_, rfl, hv⟩
set_option maxHeartbeats 4000000 in
theorem vX4_look_0 {E : gk_E} {dd : Nat} {o : Nat} {x1 : Nat} {x2 : Nat}  {h : gk_H} {K : gk_H → Prop} (hv : StR h o 4 5 x1 fun h1 => StR h1 o 4 6 x2 fun h2 => LdR h2 o 4 5 fun v3 => LdI h2 v3 3 0 fun v4 => LdR h2 o 4 6 fun v5 => LdI h2 v5 3 0 fun v6 => (∃ fs, h2[o]? = some (.inr (4, fs))) ∧ RnV E mX10_span (dd, 0, 0) [.ref o, .int v4, .int (nI 0), .int (v6 - (nI 1))] h2 (fun h7 => K h7)) : RnV E mX4_look (dd + 1, 0, 0) [.ref o, .ref x1, .ref x2] h K := by
  show gk_G E mX4_look (dd + 1, 0, 0) 0 [(0, .ref o), (1, .ref x1), (2, .ref x2)] [] h (fun o h1 => o = none ∧ K h1)
  refine gk_aload_n (pc := 0) (DX4_look_0.at 0 rfl) 0 rfl rfl ?_
  refine gk_aload_n (pc := 1) (DX4_look_0.at 1 rfl) 1 rfl rfl ?_
  obtain ⟨fs1, q1, r1, hv⟩ := hv
  refine gk_put (pc := 2) (DX4_look_0.at 2 rfl) fX4_21_4w q1 r1 rfl rfl ?_
  generalize h.set _ _ = h1 at hv ⊢
  refine gk_aload_n (pc := 5) (DX4_look_0.at 3 rfl) 0 rfl rfl ?_
  refine gk_aload_n (pc := 6) (DX4_look_0.at 4 rfl) 2 rfl rfl ?_
  obtain ⟨fs2, q2, r2, hv⟩ := hv
  refine gk_put (pc := 7) (DX4_look_0.at 5 rfl) fX4_24_4w q2 r2 rfl rfl ?_
  generalize h1.set _ _ = h2 at hv ⊢
  refine gk_aload_n (pc := 10) (DX4_look_0.at 6 rfl) 0 rfl rfl ?_
  refine gk_aload_n (pc := 11) (DX4_look_0.at 7 rfl) 0 rfl rfl ?_
  obtain ⟨fs3, v3, q3, r3, hv⟩ := hv
  refine gk_get (pc := 12) (.ref v3) (DX4_look_0.at 8 rfl) fX4_21_4 q3 r3 ?_
  obtain ⟨fs4, v4, q4, r4, hv⟩ := hv
  refine gk_get (pc := 15) (.int v4) (DX4_look_0.at 9 rfl) fX4_47_3 q4 r4 ?_
  refine gk_iconst (pc := 18) (nI 0) (DX4_look_0.at 10 rfl) ci_0 ?_
  refine gk_aload_n (pc := 19) (DX4_look_0.at 11 rfl) 0 rfl rfl ?_
  obtain ⟨fs5, v5, q5, r5, hv⟩ := hv
  refine gk_get (pc := 20) (.ref v5) (DX4_look_0.at 12 rfl) fX4_24_4 q5 r5 ?_
  obtain ⟨fs6, v6, q6, r6, hv⟩ := hv
  refine gk_get (pc := 23) (.int v6) (DX4_look_0.at 13 rfl) fX4_47_3 q6 r6 ?_
  refine gk_iconst (pc := 26) (nI 1) (DX4_look_0.at 14 rfl) ci_1 ?_
  refine gk_isub (pc := 27) (DX4_look_0.at 15 rfl) ?_
  obtain ⟨⟨fs7, q7⟩, hv⟩ := hv
  refine gk_vU (pc := 28) [.int v4, .int (nI 0), .int (v6 - (nI 1))] [] (DX4_look_0.at 16 rfl) cuX4_53_4 q7 rfl rfl (Nat.le_of_ble_eq_true rfl) (Nat.le_of_ble_eq_true rfl) (gk_Run.post (fun o h7 z => ?_) hv)
  obtain ⟨rfl, hv⟩ := z
  exact gk_return (pc := 31) (DX4_look_0.at 17 rfl) rfl ⟨rfl, hv⟩
abbrev pX4_way_18 (E : gk_E) (dd : Nat) (o : Nat) (x1 : Nat) (x2 : Nat) (x3 : Int32) (x4 : Int32) (x5 : Int32) (x6 : Int32) (h : gk_H) (K : Int32 → gk_H → Prop) : Prop := gk_G E mX4_way (dd + 1, 0, 0) 18 [(0, .ref o), (1, .ref x1), (2, .ref x2), (3, .int x3), (4, .int x4), (5, .int x5), (6, .int x6)] [] h (fun o h1 => ∃ v, o = some (.int v) ∧ K v h1)
set_option maxHeartbeats 4000000 in
theorem vX4_way_0 {E : gk_E} {dd : Nat} {o : Nat} {x1 : Nat} {x2 : Nat} {x3 : Int32}  {h : gk_H} {K : Int32 → gk_H → Prop} (hv : (∃ fs, h[o]? = some (.inr (4, fs))) ∧ RnV E mX4_look (dd, 0, 0) [.ref o, .ref x1, .ref x2] h (fun h1 => (∃ fs, h1[o]? = some (.inr (4, fs))) ∧ RnI E mX10_first (dd, 0, 0) [.ref o] h1 (fun v2 h2 => pX4_way_18 E dd o x1 x2 x3 (nI 0) v2 (nI 0) h2 K))) : RnI E mX4_way (dd + 1, 0, 0) [.ref o, .ref x1, .ref x2, .int x3] h K := by
  show gk_G E mX4_way (dd + 1, 0, 0) 0 [(0, .ref o), (1, .ref x1), (2, .ref x2), (3, .int x3)] [] h (fun o h1 => ∃ v, o = some (.int v) ∧ K v h1)
  refine gk_aload_n (pc := 0) (DX4_way_0.at 0 rfl) 0 rfl rfl ?_
  refine gk_aload_n (pc := 1) (DX4_way_0.at 1 rfl) 1 rfl rfl ?_
  refine gk_aload_n (pc := 2) (DX4_way_0.at 2 rfl) 2 rfl rfl ?_
  obtain ⟨⟨fs1, q1⟩, hv⟩ := hv
  refine gk_vV (pc := 3) [.ref x1, .ref x2] [] (DX4_way_0.at 3 rfl) cvX4_27 q1 rfl rfl (Nat.le_of_ble_eq_true rfl) (Nat.le_of_ble_eq_true rfl) (gk_Run.post (fun o h1 z => ?_) hv)
  obtain ⟨rfl, hv⟩ := z
  refine gk_iconst (pc := 6) (nI 0) (DX4_way_0.at 4 rfl) ci_0 ?_
  refine gk_istore (pc := 7) [(4, .int (nI 0)), (0, .ref o), (1, .ref x1), (2, .ref x2), (3, .int x3)] (DX4_way_0.at 5 rfl) (Nat.le_of_ble_eq_true rfl) rfl ?_
  refine gk_aload_n (pc := 9) (DX4_way_0.at 6 rfl) 1 rfl rfl ?_
  obtain ⟨⟨fs2, q2⟩, hv⟩ := hv
  refine gk_vU (pc := 10) [] [] (DX4_way_0.at 7 rfl) cuX4_31_4 q2 rfl rfl (Nat.le_of_ble_eq_true rfl) (Nat.le_of_ble_eq_true rfl) (gk_Run.post (fun o h2 z => ?_) hv)
  obtain ⟨v2, rfl, hv⟩ := z
  refine gk_istore (pc := 13) [(5, .int v2), (4, .int (nI 0)), (0, .ref o), (1, .ref x1), (2, .ref x2), (3, .int x3)] (DX4_way_0.at 8 rfl) (Nat.le_of_ble_eq_true rfl) rfl ?_
  refine gk_iconst (pc := 15) (nI 0) (DX4_way_0.at 9 rfl) ci_0 ?_
  refine gk_istore (pc := 16) [(6, .int (nI 0)), (5, .int v2), (4, .int (nI 0)), (0, .ref o), (1, .ref x1), (2, .ref x2), (3, .int x3)] (DX4_way_0.at 10 rfl) (Nat.le_of_ble_eq_true rfl) rfl ?_
  exact gk_pick (pc := 18) [(0, .ref o), (1, .ref x1), (2, .ref x2), (3, .int x3), (4, .int (nI 0)), (5, .int v2), (6, .int (nI 0))] [3, 4, 5, 6, 2, 1, 0] rfl hv
set_option maxHeartbeats 4000000 in
theorem vX4_way_18 {E : gk_E} {dd : Nat} {o : Nat} {x1 : Nat} {x2 : Nat} {x3 : Int32} {x4 : Int32} {x5 : Int32} {x6 : Int32}  {h : gk_H} {K : Int32 → gk_H → Prop} (hv : ((nI 1000000) ≤ x6 → (¬ x3 = ((-1)) → K ((-1)) h) ∧ (x3 = ((-1)) → K x4 h)) ∧ (¬ (nI 1000000) ≤ x6 → (x5 = 0 → (¬ x3 = ((-1)) → K ((-1)) h) ∧ (x3 = ((-1)) → K x4 h)) ∧ (¬ x5 = 0 → (¬ x4 = x3 → (∃ fs, h[o]? = some (.inr (4, fs))) ∧ RnI E mX10_next (dd, 0, 0) [.ref o] h (fun v1 h1 => pX4_way_18 E dd o x1 x2 x3 (x4 + nI 1) v1 (x6 + nI 1) h1 K)) ∧ (x4 = x3 → (∃ fs, h[o]? = some (.inr (4, fs))) ∧ RnI E mX10_digits (dd, 0, 0) [.ref o, .int (nI 1)] h (fun v2 h2 => K v2 h2))))) : pX4_way_18 E dd o x1 x2 x3 x4 x5 x6 h K := by
  show gk_G E mX4_way (dd + 1, 0, 0) 18 [(0, .ref o), (1, .ref x1), (2, .ref x2), (3, .int x3), (4, .int x4), (5, .int x5), (6, .int x6)] [] h (fun o h1 => ∃ v, o = some (.int v) ∧ K v h1)
  refine gk_iload (pc := 18) (DX4_way_0.at 11 rfl) 6 rfl ?_
  refine gk_ldc (pc := 20) (nI 1000000) (DX4_way_0.at 12 rfl) kcX4_35 ?_
  refine gk_icmp_ge (pc := 22) 57 (DX4_way_0.at 13 rfl) (by decide) (fun c => ?_) (fun c => ?_)
  · replace hv := hv.1 c
    refine gk_iload_n (pc := 57) (DX4_way_0.at 29 rfl) 3 rfl rfl ?_
    refine gk_iconst (pc := 58) ((-1)) (DX4_way_0.at 30 rfl) ci_m1 ?_
    refine gk_icmp_ne (pc := 59) 67 (DX4_way_0.at 31 rfl) (by decide) (fun c => ?_) (fun c => ?_)
    · replace hv := hv.1 c
      refine gk_iconst (pc := 67) ((-1)) (DX4_way_0.at 34 rfl) ci_m1 ?_
      exact gk_ireturn (pc := 68) .int (DX4_way_0.at 35 rfl) rfl rfl ⟨_, rfl, hv⟩
    · replace hv := hv.2 c
      refine gk_iload (pc := 62) (DX4_way_0.at 32 rfl) 4 rfl ?_
      refine gk_goto (pc := 64) 68 (DX4_way_0.at 33 rfl) (by decide) ?_
      exact gk_ireturn (pc := 68) .int (DX4_way_0.at 35 rfl) rfl rfl ⟨_, rfl, hv⟩
  · replace hv := hv.2 c
    refine gk_iload (pc := 25) (DX4_way_0.at 14 rfl) 5 rfl ?_
    refine gk_if_eq (pc := 27) 57 (DX4_way_0.at 15 rfl) (by decide) (fun c => ?_) (fun c => ?_)
    · replace hv := hv.1 c
      refine gk_iload_n (pc := 57) (DX4_way_0.at 29 rfl) 3 rfl rfl ?_
      refine gk_iconst (pc := 58) ((-1)) (DX4_way_0.at 30 rfl) ci_m1 ?_
      refine gk_icmp_ne (pc := 59) 67 (DX4_way_0.at 31 rfl) (by decide) (fun c => ?_) (fun c => ?_)
      · replace hv := hv.1 c
        refine gk_iconst (pc := 67) ((-1)) (DX4_way_0.at 34 rfl) ci_m1 ?_
        exact gk_ireturn (pc := 68) .int (DX4_way_0.at 35 rfl) rfl rfl ⟨_, rfl, hv⟩
      · replace hv := hv.2 c
        refine gk_iload (pc := 62) (DX4_way_0.at 32 rfl) 4 rfl ?_
        refine gk_goto (pc := 64) 68 (DX4_way_0.at 33 rfl) (by decide) ?_
        exact gk_ireturn (pc := 68) .int (DX4_way_0.at 35 rfl) rfl rfl ⟨_, rfl, hv⟩
    · replace hv := hv.2 c
      refine gk_iload (pc := 30) (DX4_way_0.at 16 rfl) 4 rfl ?_
      refine gk_iload_n (pc := 32) (DX4_way_0.at 17 rfl) 3 rfl rfl ?_
      refine gk_icmp_ne (pc := 33) 42 (DX4_way_0.at 18 rfl) (by decide) (fun c => ?_) (fun c => ?_)
      · replace hv := hv.1 c
        refine gk_iinc (pc := 42) (x4 + nI 1) [(4, .int (x4 + nI 1)), (0, .ref o), (1, .ref x1), (2, .ref x2), (3, .int x3), (5, .int x5), (6, .int x6)] 4 (DX4_way_0.at 23 rfl) rfl (by rw [ci_1]) (Nat.le_of_ble_eq_true rfl) rfl ?_
        refine gk_aload_n (pc := 45) (DX4_way_0.at 24 rfl) 1 rfl rfl ?_
        obtain ⟨⟨fs1, q1⟩, hv⟩ := hv
        refine gk_vU (pc := 46) [] [] (DX4_way_0.at 25 rfl) cuX4_40_4 q1 rfl rfl (Nat.le_of_ble_eq_true rfl) (Nat.le_of_ble_eq_true rfl) (gk_Run.post (fun o h1 z => ?_) hv)
        obtain ⟨v1, rfl, hv⟩ := z
        refine gk_istore (pc := 49) [(5, .int v1), (4, .int (x4 + nI 1)), (0, .ref o), (1, .ref x1), (2, .ref x2), (3, .int x3), (6, .int x6)] (DX4_way_0.at 26 rfl) (Nat.le_of_ble_eq_true rfl) rfl ?_
        refine gk_iinc (pc := 51) (x6 + nI 1) [(6, .int (x6 + nI 1)), (5, .int v1), (4, .int (x4 + nI 1)), (0, .ref o), (1, .ref x1), (2, .ref x2), (3, .int x3)] 6 (DX4_way_0.at 27 rfl) rfl (by rw [ci_1]) (Nat.le_of_ble_eq_true rfl) rfl ?_
        refine gk_goto (pc := 54) 18 (DX4_way_0.at 28 rfl) (by decide) ?_
        exact gk_pick (pc := 18) [(0, .ref o), (1, .ref x1), (2, .ref x2), (3, .int x3), (4, .int (x4 + nI 1)), (5, .int v1), (6, .int (x6 + nI 1))] [3, 4, 5, 6, 2, 1, 0] rfl hv
      · replace hv := hv.2 c
        refine gk_aload_n (pc := 36) (DX4_way_0.at 19 rfl) 0 rfl rfl ?_
        refine gk_iconst (pc := 37) (nI 1) (DX4_way_0.at 20 rfl) ci_1 ?_
        obtain ⟨⟨fs2, q2⟩, hv⟩ := hv
        refine gk_vU (pc := 38) [.int (nI 1)] [] (DX4_way_0.at 21 rfl) cuX4_36_4 q2 rfl rfl (Nat.le_of_ble_eq_true rfl) (Nat.le_of_ble_eq_true rfl) (gk_Run.post (fun o h2 z => ?_) hv)
        obtain ⟨v2, rfl, hv⟩ := z
        exact gk_ireturn (pc := 41) .int (DX4_way_0.at 22 rfl) rfl rfl ⟨_, rfl, hv⟩
abbrev pX6_clash_2 (E : gk_E) (dd : Nat) (o : Nat) (x1 : Int32) (x2 : Int32) (h : gk_H) (K : Int32 → gk_H → Prop) : Prop := gk_G E mX6_clash (dd + 1, 0, 0) 2 [(0, .ref o), (1, .int x1), (2, .int x2)] [] h (fun o h1 => ∃ v, o = some (.int v) ∧ K v h1)
abbrev pX6_clash_10 (E : gk_E) (dd : Nat) (o : Nat) (x1 : Int32) (x2 : Int32) (x3 : Int32) (h : gk_H) (K : Int32 → gk_H → Prop) : Prop := gk_G E mX6_clash (dd + 1, 0, 0) 10 [(0, .ref o), (1, .int x1), (2, .int x2), (3, .int x3)] [] h (fun o h1 => ∃ v, o = some (.int v) ∧ K v h1)
set_option maxHeartbeats 4000000 in
theorem vX6_clash_0 {E : gk_E} {dd : Nat} {o : Nat} {x1 : Int32}  {h : gk_H} {K : Int32 → gk_H → Prop} (hv : pX6_clash_2 E dd o x1 x1 h K) : RnI E mX6_clash (dd + 1, 0, 0) [.ref o, .int x1] h K := by
  show gk_G E mX6_clash (dd + 1, 0, 0) 0 [(0, .ref o), (1, .int x1)] [] h (fun o h1 => ∃ v, o = some (.int v) ∧ K v h1)
  refine gk_iload_n (pc := 0) (DX6_clash_0.at 0 rfl) 1 rfl rfl ?_
  refine gk_istore_n (pc := 1) [(2, .int x1), (0, .ref o), (1, .int x1)] (DX6_clash_0.at 1 rfl) rfl (Nat.le_of_ble_eq_true rfl) rfl ?_
  exact gk_pick (pc := 2) [(0, .ref o), (1, .int x1), (2, .int x1)] [1, 2, 0] rfl hv
set_option maxHeartbeats 4000000 in
theorem vX6_clash_2 {E : gk_E} {dd : Nat} {o : Nat} {x1 : Int32} {x2 : Int32}  {h : gk_H} {K : Int32 → gk_H → Prop} (hv : (x2 < 0 → K ((-1)) h) ∧ (¬ x2 < 0 → pX6_clash_10 E dd o x1 x2 (x2 + (nI 1)) h K)) : pX6_clash_2 E dd o x1 x2 h K := by
  show gk_G E mX6_clash (dd + 1, 0, 0) 2 [(0, .ref o), (1, .int x1), (2, .int x2)] [] h (fun o h1 => ∃ v, o = some (.int v) ∧ K v h1)
  refine gk_iload_n (pc := 2) (DX6_clash_0.at 2 rfl) 2 rfl rfl ?_
  refine gk_if_lt (pc := 3) 63 (DX6_clash_0.at 3 rfl) (by decide) (fun c => ?_) (fun c => ?_)
  · replace hv := hv.1 c
    refine gk_iconst (pc := 63) ((-1)) (DX6_clash_0.at 35 rfl) ci_m1 ?_
    exact gk_ireturn (pc := 64) .int (DX6_clash_0.at 36 rfl) rfl rfl ⟨_, rfl, hv⟩
  · replace hv := hv.2 c
    refine gk_iload_n (pc := 6) (DX6_clash_0.at 4 rfl) 2 rfl rfl ?_
    refine gk_iconst (pc := 7) (nI 1) (DX6_clash_0.at 5 rfl) ci_1 ?_
    refine gk_iadd (pc := 8) (DX6_clash_0.at 6 rfl) ?_
    refine gk_istore_n (pc := 9) [(3, .int (x2 + (nI 1))), (0, .ref o), (1, .int x1), (2, .int x2)] (DX6_clash_0.at 7 rfl) rfl (Nat.le_of_ble_eq_true rfl) rfl ?_
    exact gk_pick (pc := 10) [(0, .ref o), (1, .int x1), (2, .int x2), (3, .int (x2 + (nI 1)))] [1, 2, 3, 0] rfl hv
set_option maxHeartbeats 4000000 in
theorem vX6_clash_10 {E : gk_E} {dd : Nat} {o : Nat} {x1 : Int32} {x2 : Int32} {x3 : Int32}  {h : gk_H} {K : Int32 → gk_H → Prop} (hv : LdI h o 6 0 fun v1 => (v1 ≤ x3 → pX6_clash_2 E dd o x1 (x2 + (-1)) h K) ∧ (¬ v1 ≤ x3 → LdR h o 6 4 fun v2 => LdR h o 6 5 fun v3 => (∃ fs, h[v3]? = some (.inr (3, fs))) ∧ RnI E mX3_at (dd, 0, 0) [.ref v3, .int x2, .int x3] h (fun v4 h4 => LdR h4 o 6 1 fun v5 => AlI h4 v5 x3 fun v6 => LdR h4 o 6 1 fun v7 => AlI h4 v7 x2 fun v8 => (∃ fs, h4[v2]? = some (.inr (8, fs))) ∧ RnI E mX8_has (dd, 0, 0) [.ref v2, .int v4, .int v6, .int v8] h4 (fun v9 h9 => (¬ v9 = 0 → pX6_clash_10 E dd o x1 x2 (x3 + nI 1) h9 K) ∧ (v9 = 0 → K x2 h9))))) : pX6_clash_10 E dd o x1 x2 x3 h K := by
  show gk_G E mX6_clash (dd + 1, 0, 0) 10 [(0, .ref o), (1, .int x1), (2, .int x2), (3, .int x3)] [] h (fun o h1 => ∃ v, o = some (.int v) ∧ K v h1)
  refine gk_iload_n (pc := 10) (DX6_clash_0.at 8 rfl) 3 rfl rfl ?_
  refine gk_aload_n (pc := 11) (DX6_clash_0.at 9 rfl) 0 rfl rfl ?_
  obtain ⟨fs1, v1, q1, r1, hv⟩ := hv
  refine gk_get (pc := 12) (.int v1) (DX6_clash_0.at 10 rfl) fX6_30_6 q1 r1 ?_
  refine gk_icmp_ge (pc := 15) 57 (DX6_clash_0.at 11 rfl) (by decide) (fun c => ?_) (fun c => ?_)
  · replace hv := hv.1 c
    refine gk_iinc (pc := 57) (x2 + (-1)) [(2, .int (x2 + (-1))), (0, .ref o), (1, .int x1), (3, .int x3)] 2 (DX6_clash_0.at 33 rfl) rfl (by rw [ci_m1]) (Nat.le_of_ble_eq_true rfl) rfl ?_
    refine gk_goto (pc := 60) 2 (DX6_clash_0.at 34 rfl) (by decide) ?_
    exact gk_pick (pc := 2) [(0, .ref o), (1, .int x1), (2, .int (x2 + (-1)))] [1, 2, 0] rfl hv
  · replace hv := hv.2 c
    refine gk_aload_n (pc := 18) (DX6_clash_0.at 12 rfl) 0 rfl rfl ?_
    obtain ⟨fs2, v2, q2, r2, hv⟩ := hv
    refine gk_get (pc := 19) (.ref v2) (DX6_clash_0.at 13 rfl) fX6_7_6 q2 r2 ?_
    refine gk_aload_n (pc := 22) (DX6_clash_0.at 14 rfl) 0 rfl rfl ?_
    obtain ⟨fs3, v3, q3, r3, hv⟩ := hv
    refine gk_get (pc := 23) (.ref v3) (DX6_clash_0.at 15 rfl) fX6_13_6 q3 r3 ?_
    refine gk_iload_n (pc := 26) (DX6_clash_0.at 16 rfl) 2 rfl rfl ?_
    refine gk_iload_n (pc := 27) (DX6_clash_0.at 17 rfl) 3 rfl rfl ?_
    obtain ⟨⟨fs4, q4⟩, hv⟩ := hv
    refine gk_vV (pc := 28) [.int x2, .int x3] [.ref v2] (DX6_clash_0.at 18 rfl) cvX6_31 q4 rfl rfl (Nat.le_of_ble_eq_true rfl) (Nat.le_of_ble_eq_true rfl) (gk_Run.post (fun o h4 z => ?_) hv)
    obtain ⟨v4, rfl, hv⟩ := z
    refine gk_aload_n (pc := 31) (DX6_clash_0.at 19 rfl) 0 rfl rfl ?_
    obtain ⟨fs5, v5, q5, r5, hv⟩ := hv
    refine gk_get (pc := 32) (.ref v5) (DX6_clash_0.at 20 rfl) fX6_35_6 q5 r5 ?_
    refine gk_iload_n (pc := 35) (DX6_clash_0.at 21 rfl) 3 rfl rfl ?_
    obtain ⟨n6, f6, q6, r6, hv⟩ := hv
    refine gk_iald (pc := 36) (DX6_clash_0.at 22 rfl) q6 r6 ?_
    generalize f6 _ = v6 at hv ⊢
    refine gk_aload_n (pc := 37) (DX6_clash_0.at 23 rfl) 0 rfl rfl ?_
    obtain ⟨fs7, v7, q7, r7, hv⟩ := hv
    refine gk_get (pc := 38) (.ref v7) (DX6_clash_0.at 24 rfl) fX6_35_6 q7 r7 ?_
    refine gk_iload_n (pc := 41) (DX6_clash_0.at 25 rfl) 2 rfl rfl ?_
    obtain ⟨n8, f8, q8, r8, hv⟩ := hv
    refine gk_iald (pc := 42) (DX6_clash_0.at 26 rfl) q8 r8 ?_
    generalize f8 _ = v8 at hv ⊢
    obtain ⟨⟨fs9, q9⟩, hv⟩ := hv
    refine gk_vV (pc := 43) [.int v4, .int v6, .int v8] [] (DX6_clash_0.at 27 rfl) cvX6_38 q9 rfl rfl (Nat.le_of_ble_eq_true rfl) (Nat.le_of_ble_eq_true rfl) (gk_Run.post (fun o h9 z => ?_) hv)
    obtain ⟨v9, rfl, hv⟩ := z
    refine gk_if_ne (pc := 46) 51 (DX6_clash_0.at 28 rfl) (by decide) (fun c => ?_) (fun c => ?_)
    · replace hv := hv.1 c
      refine gk_iinc (pc := 51) (x3 + nI 1) [(3, .int (x3 + nI 1)), (0, .ref o), (1, .int x1), (2, .int x2)] 3 (DX6_clash_0.at 31 rfl) rfl (by rw [ci_1]) (Nat.le_of_ble_eq_true rfl) rfl ?_
      refine gk_goto (pc := 54) 10 (DX6_clash_0.at 32 rfl) (by decide) ?_
      exact gk_pick (pc := 10) [(0, .ref o), (1, .int x1), (2, .int x2), (3, .int (x3 + nI 1))] [1, 2, 3, 0] rfl hv
    · replace hv := hv.2 c
      refine gk_iload_n (pc := 49) (DX6_clash_0.at 29 rfl) 2 rfl rfl ?_
      exact gk_ireturn (pc := 50) .int (DX6_clash_0.at 30 rfl) rfl rfl ⟨_, rfl, hv⟩
set_option maxHeartbeats 4000000 in
theorem vX6_spanAll_0 {E : gk_E} {dd : Nat} {o : Nat}  {h : gk_H} {K : gk_H → Prop} (hv : LdR h o 6 5 fun v1 => LdI h v1 3 0 fun v2 => LdR h o 6 4 fun v3 => LdI h v3 8 0 fun v4 => (∃ fs, h[o]? = some (.inr (6, fs))) ∧ RnV E mX10_span (dd, 0, 0) [.ref o, .int v2, .int (nI 1), .int (v4 - (nI 1))] h (fun h5 => K h5)) : RnV E mX6_spanAll (dd + 1, 0, 0) [.ref o] h K := by
  show gk_G E mX6_spanAll (dd + 1, 0, 0) 0 [(0, .ref o)] [] h (fun o h1 => o = none ∧ K h1)
  refine gk_aload_n (pc := 0) (DX6_spanAll_0.at 0 rfl) 0 rfl rfl ?_
  refine gk_aload_n (pc := 1) (DX6_spanAll_0.at 1 rfl) 0 rfl rfl ?_
  obtain ⟨fs1, v1, q1, r1, hv⟩ := hv
  refine gk_get (pc := 2) (.ref v1) (DX6_spanAll_0.at 2 rfl) fX6_13_6 q1 r1 ?_
  obtain ⟨fs2, v2, q2, r2, hv⟩ := hv
  refine gk_get (pc := 5) (.int v2) (DX6_spanAll_0.at 3 rfl) fX6_17_3 q2 r2 ?_
  refine gk_iconst (pc := 8) (nI 1) (DX6_spanAll_0.at 4 rfl) ci_1 ?_
  refine gk_aload_n (pc := 9) (DX6_spanAll_0.at 5 rfl) 0 rfl rfl ?_
  obtain ⟨fs3, v3, q3, r3, hv⟩ := hv
  refine gk_get (pc := 10) (.ref v3) (DX6_spanAll_0.at 6 rfl) fX6_7_6 q3 r3 ?_
  obtain ⟨fs4, v4, q4, r4, hv⟩ := hv
  refine gk_get (pc := 13) (.int v4) (DX6_spanAll_0.at 7 rfl) fX6_23_8 q4 r4 ?_
  refine gk_iconst (pc := 16) (nI 1) (DX6_spanAll_0.at 8 rfl) ci_1 ?_
  refine gk_isub (pc := 17) (DX6_spanAll_0.at 9 rfl) ?_
  obtain ⟨⟨fs5, q5⟩, hv⟩ := hv
  refine gk_vU (pc := 18) [.int v2, .int (nI 1), .int (v4 - (nI 1))] [] (DX6_spanAll_0.at 10 rfl) cuX6_26_6 q5 rfl rfl (Nat.le_of_ble_eq_true rfl) (Nat.le_of_ble_eq_true rfl) (gk_Run.post (fun o h5 z => ?_) hv)
  obtain ⟨rfl, hv⟩ := z
  exact gk_return (pc := 21) (DX6_spanAll_0.at 11 rfl) rfl ⟨rfl, hv⟩
