/-! the law from its start -/
section LS
variable {E : gk_E} {dd : Nat}
theorem row0 : Row c0 69 (fun a => a) := fun a ha => ⟨by
  match a, ha with
  | 0, _ => rfl
  | 1, _ => rfl
  | 2, _ => rfl
  | 3, _ => rfl
  | a + 4, h => omega, ha⟩
set_option maxRecDepth 20000 in
set_option maxHeartbeats 4000000 in
theorem lawStart (hL : (gk_scr E).2.1 ≤ 2560) : gk_G E mL_law (dd + 41, 85, 2139) 0 [(0, .ref 1000000)] [] [] (fun o h1 => ∃ v, o = some (.int v) ∧ v = nI 1) := by
  refine gk_newO (pc := 0) (b1 := 84) (b2 := 2127) (N := 12) (ci := 10) (fs := [.null, .null, .int 0, .null, .null, .null, .null, .null, .null, .null, .null, .null]) (DL_law_0.at 0 rfl) nwL_7 (by decide) ?_
  show gk_G E mL_law (dd + 41, 84, 2127) 3 [(0, .ref 1000000)] [.ref 0] [.inr (10, [.null, .null, .int 0, .null, .null, .null, .null, .null, .null, .null, .null, .null])] _
  refine gk_dup (pc := 3) (DL_law_0.at 1 rfl) rfl ?_
  refine ha_init (pc := 4) (d1 := dd + 40) (b1 := 17) (b2 := 1047) (c1 := 67) (c2 := 1080) [] [.ref 0] (DL_law_0.at 2 rfl) ciL_9 rfl rfl (Nat.le_of_ble_eq_true rfl) (Nat.le_of_ble_eq_true rfl) (i_X11 (dd := dd + 35) (n := 1) (r := 0) (hn := rfl) (h9 := by decide) (hx := rfl) ?_)
  refine gk_astore_n (pc := 7) [(1, .ref 0), (0, .ref 1000000)] (DL_law_0.at 3 rfl) rfl (Nat.le_of_ble_eq_true rfl) rfl ?_
  refine ha_newO (pc := 8) (b1 := 16) (b2 := 1013) (N := 34) (ci := 11) (n := 1) (q := 68) rfl (DL_law_0.at 4 rfl) nwL_10 rfl (by decide) rfl ?_
  refine gk_dup (pc := 11) (DL_law_0.at 5 rfl) rfl ?_
  refine ha_init (pc := 12) (d1 := dd + 40) (b1 := 0) (b2 := 0) (c1 := 16) (c2 := 1013) [] [.ref 68] (DL_law_0.at 6 rfl) ciL_12 rfl rfl (Nat.le_of_ble_eq_true rfl) (Nat.le_of_ble_eq_true rfl) (i_X12 (dd := dd + 39) (n := 69) (r := 68) (hn := by rw [HA_len (n := 1) rfl]; rfl) (h9 := by decide) (hx := HA_n (n := 1) (j := 67) rfl rfl) ?_)
  show RnV E mX12_fixes (dd + 39, 0, 0) [.ref 68] (Hm c0) (fun h1 => gk_G E mL_law (dd + 41, 0, 0) 15 [(1, .ref 0), (0, .ref 1000000)] [.ref 68] h1 (fun o h1 => ∃ v, o = some (.int v) ∧ v = nI 1))
  refine n_fixes row0 (fun c' f z70 z71 h5 h6 => ?_)
  refine gk_astore_n (pc := 15) [(2, .ref 68), (1, .ref 0), (0, .ref 1000000)] (DL_law_0.at 7 rfl) rfl (Nat.le_of_ble_eq_true rfl) rfl ?_
  refine gk_iconst (pc := 16) (nI 0) (DL_law_0.at 8 rfl) (by decide +kernel) ?_
  refine gk_istore_n (pc := 17) [(3, .int (nI 0)), (2, .ref 68), (1, .ref 0), (0, .ref 1000000)] (DL_law_0.at 9 rfl) rfl (Nat.le_of_ble_eq_true rfl) rfl ?_
  exact gk_pick (pc := 18) [(0, .ref 1000000), (1, .ref 0), (2, .ref 68), (3, .int (nI 0))] [3, 2, 1, 0] rfl (lawLoop (dd := dd) hL _ 0 c' (Nat.le_refl _) (Nat.zero_le _) (rel0 f z70 z71 h5 h6))
end LS
