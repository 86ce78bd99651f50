/-! the law: its loop head, its cases -/
abbrev pL_law_18 (E : gk_E) (dd : Nat) (x1 : Nat) (x2 : Nat) (x3 : Int32) (h : gk_H) (K : Int32 → gk_H → Prop) : Prop := gk_G E mL_law (dd + 1, 0, 0) 18 [(0, .ref 1000000), (1, .ref x1), (2, .ref x2), (3, .int x3)] [] h (fun o h1 => ∃ v, o = some (.int v) ∧ K v h1)
abbrev pL_law_220 (E : gk_E) (dd : Nat) (x1 : Nat) (x2 : Nat) (x3 : Int32) (h : gk_H) (K : Int32 → gk_H → Prop) : Prop := gk_G E mL_law (dd + 1, 0, 0) 220 [(0, .ref 1000000), (1, .ref x1), (2, .ref x2), (3, .int x3)] [] h (fun o h1 => ∃ v, o = some (.int v) ∧ K v h1)
abbrev pL_law_243 (E : gk_E) (dd : Nat) (x1 : Nat) (x2 : Nat) (x3 : Int32) (h : gk_H) (K : Int32 → gk_H → Prop) : Prop := gk_G E mL_law (dd + 1, 0, 0) 243 [(0, .ref 1000000), (1, .ref x1), (2, .ref x2), (3, .int x3)] [] h (fun o h1 => ∃ v, o = some (.int v) ∧ K v h1)
abbrev pL_law_276 (E : gk_E) (dd : Nat) (x1 : Nat) (x2 : Nat) (x3 : Int32) (h : gk_H) (K : Int32 → gk_H → Prop) : Prop := gk_G E mL_law (dd + 1, 0, 0) 276 [(0, .ref 1000000), (1, .ref x1), (2, .ref x2), (3, .int x3)] [] h (fun o h1 => ∃ v, o = some (.int v) ∧ K v h1)
abbrev pL_law_299 (E : gk_E) (dd : Nat) (x1 : Nat) (x2 : Nat) (x3 : Int32) (h : gk_H) (K : Int32 → gk_H → Prop) : Prop := gk_G E mL_law (dd + 1, 0, 0) 299 [(0, .ref 1000000), (1, .ref x1), (2, .ref x2), (3, .int x3)] [] h (fun o h1 => ∃ v, o = some (.int v) ∧ K v h1)
abbrev pL_law_352 (E : gk_E) (dd : Nat) (x1 : Nat) (x2 : Nat) (x3 : Int32) (h : gk_H) (K : Int32 → gk_H → Prop) : Prop := gk_G E mL_law (dd + 1, 0, 0) 352 [(0, .ref 1000000), (1, .ref x1), (2, .ref x2), (3, .int x3)] [] h (fun o h1 => ∃ v, o = some (.int v) ∧ K v h1)
abbrev pL_law_395 (E : gk_E) (dd : Nat) (x1 : Nat) (x2 : Nat) (x3 : Int32) (h : gk_H) (K : Int32 → gk_H → Prop) : Prop := gk_G E mL_law (dd + 1, 0, 0) 395 [(0, .ref 1000000), (1, .ref x1), (2, .ref x2), (3, .int x3)] [] h (fun o h1 => ∃ v, o = some (.int v) ∧ K v h1)
abbrev pL_law_428 (E : gk_E) (dd : Nat) (x1 : Nat) (x2 : Nat) (x3 : Int32) (h : gk_H) (K : Int32 → gk_H → Prop) : Prop := gk_G E mL_law (dd + 1, 0, 0) 428 [(0, .ref 1000000), (1, .ref x1), (2, .ref x2), (3, .int x3)] [] h (fun o h1 => ∃ v, o = some (.int v) ∧ K v h1)
abbrev pL_law_471 (E : gk_E) (dd : Nat) (x1 : Nat) (x2 : Nat) (x3 : Int32) (h : gk_H) (K : Int32 → gk_H → Prop) : Prop := gk_G E mL_law (dd + 1, 0, 0) 471 [(0, .ref 1000000), (1, .ref x1), (2, .ref x2), (3, .int x3)] [] h (fun o h1 => ∃ v, o = some (.int v) ∧ K v h1)
abbrev pL_law_504 (E : gk_E) (dd : Nat) (x1 : Nat) (x2 : Nat) (x3 : Int32) (h : gk_H) (K : Int32 → gk_H → Prop) : Prop := gk_G E mL_law (dd + 1, 0, 0) 504 [(0, .ref 1000000), (1, .ref x1), (2, .ref x2), (3, .int x3)] [] h (fun o h1 => ∃ v, o = some (.int v) ∧ K v h1)
abbrev pL_law_527 (E : gk_E) (dd : Nat) (x1 : Nat) (x2 : Nat) (x3 : Int32) (h : gk_H) (K : Int32 → gk_H → Prop) : Prop := gk_G E mL_law (dd + 1, 0, 0) 527 [(0, .ref 1000000), (1, .ref x1), (2, .ref x2), (3, .int x3)] [] h (fun o h1 => ∃ v, o = some (.int v) ∧ K v h1)
abbrev pL_law_580 (E : gk_E) (dd : Nat) (x1 : Nat) (x2 : Nat) (x3 : Int32) (h : gk_H) (K : Int32 → gk_H → Prop) : Prop := gk_G E mL_law (dd + 1, 0, 0) 580 [(0, .ref 1000000), (1, .ref x1), (2, .ref x2), (3, .int x3)] [] h (fun o h1 => ∃ v, o = some (.int v) ∧ K v h1)
abbrev pL_law_603 (E : gk_E) (dd : Nat) (x1 : Nat) (x2 : Nat) (x3 : Int32) (h : gk_H) (K : Int32 → gk_H → Prop) : Prop := gk_G E mL_law (dd + 1, 0, 0) 603 [(0, .ref 1000000), (1, .ref x1), (2, .ref x2), (3, .int x3)] [] h (fun o h1 => ∃ v, o = some (.int v) ∧ K v h1)
abbrev pL_law_626 (E : gk_E) (dd : Nat) (x1 : Nat) (x2 : Nat) (x3 : Int32) (h : gk_H) (K : Int32 → gk_H → Prop) : Prop := gk_G E mL_law (dd + 1, 0, 0) 626 [(0, .ref 1000000), (1, .ref x1), (2, .ref x2), (3, .int x3)] [] h (fun o h1 => ∃ v, o = some (.int v) ∧ K v h1)
abbrev pL_law_659 (E : gk_E) (dd : Nat) (x1 : Nat) (x2 : Nat) (x3 : Int32) (h : gk_H) (K : Int32 → gk_H → Prop) : Prop := gk_G E mL_law (dd + 1, 0, 0) 659 [(0, .ref 1000000), (1, .ref x1), (2, .ref x2), (3, .int x3)] [] h (fun o h1 => ∃ v, o = some (.int v) ∧ K v h1)
abbrev pL_law_682 (E : gk_E) (dd : Nat) (x1 : Nat) (x2 : Nat) (x3 : Int32) (h : gk_H) (K : Int32 → gk_H → Prop) : Prop := gk_G E mL_law (dd + 1, 0, 0) 682 [(0, .ref 1000000), (1, .ref x1), (2, .ref x2), (3, .int x3)] [] h (fun o h1 => ∃ v, o = some (.int v) ∧ K v h1)
abbrev pL_law_725 (E : gk_E) (dd : Nat) (x1 : Nat) (x2 : Nat) (x3 : Int32) (h : gk_H) (K : Int32 → gk_H → Prop) : Prop := gk_G E mL_law (dd + 1, 0, 0) 725 [(0, .ref 1000000), (1, .ref x1), (2, .ref x2), (3, .int x3)] [] h (fun o h1 => ∃ v, o = some (.int v) ∧ K v h1)
abbrev pL_law_778 (E : gk_E) (dd : Nat) (x1 : Nat) (x2 : Nat) (x3 : Int32) (h : gk_H) (K : Int32 → gk_H → Prop) : Prop := gk_G E mL_law (dd + 1, 0, 0) 778 [(0, .ref 1000000), (1, .ref x1), (2, .ref x2), (3, .int x3)] [] h (fun o h1 => ∃ v, o = some (.int v) ∧ K v h1)
abbrev pL_law_811 (E : gk_E) (dd : Nat) (x1 : Nat) (x2 : Nat) (x3 : Int32) (h : gk_H) (K : Int32 → gk_H → Prop) : Prop := gk_G E mL_law (dd + 1, 0, 0) 811 [(0, .ref 1000000), (1, .ref x1), (2, .ref x2), (3, .int x3)] [] h (fun o h1 => ∃ v, o = some (.int v) ∧ K v h1)
abbrev pL_law_834 (E : gk_E) (dd : Nat) (x1 : Nat) (x2 : Nat) (x3 : Int32) (h : gk_H) (K : Int32 → gk_H → Prop) : Prop := gk_G E mL_law (dd + 1, 0, 0) 834 [(0, .ref 1000000), (1, .ref x1), (2, .ref x2), (3, .int x3)] [] h (fun o h1 => ∃ v, o = some (.int v) ∧ K v h1)
abbrev pL_law_867 (E : gk_E) (dd : Nat) (x1 : Nat) (x2 : Nat) (x3 : Int32) (h : gk_H) (K : Int32 → gk_H → Prop) : Prop := gk_G E mL_law (dd + 1, 0, 0) 867 [(0, .ref 1000000), (1, .ref x1), (2, .ref x2), (3, .int x3)] [] h (fun o h1 => ∃ v, o = some (.int v) ∧ K v h1)
abbrev pL_law_910 (E : gk_E) (dd : Nat) (x1 : Nat) (x2 : Nat) (x3 : Int32) (h : gk_H) (K : Int32 → gk_H → Prop) : Prop := gk_G E mL_law (dd + 1, 0, 0) 910 [(0, .ref 1000000), (1, .ref x1), (2, .ref x2), (3, .int x3)] [] h (fun o h1 => ∃ v, o = some (.int v) ∧ K v h1)
abbrev pL_law_953 (E : gk_E) (dd : Nat) (x1 : Nat) (x2 : Nat) (x3 : Int32) (h : gk_H) (K : Int32 → gk_H → Prop) : Prop := gk_G E mL_law (dd + 1, 0, 0) 953 [(0, .ref 1000000), (1, .ref x1), (2, .ref x2), (3, .int x3)] [] h (fun o h1 => ∃ v, o = some (.int v) ∧ K v h1)
abbrev pL_law_976 (E : gk_E) (dd : Nat) (x1 : Nat) (x2 : Nat) (x3 : Int32) (h : gk_H) (K : Int32 → gk_H → Prop) : Prop := gk_G E mL_law (dd + 1, 0, 0) 976 [(0, .ref 1000000), (1, .ref x1), (2, .ref x2), (3, .int x3)] [] h (fun o h1 => ∃ v, o = some (.int v) ∧ K v h1)
abbrev pL_law_1009 (E : gk_E) (dd : Nat) (x1 : Nat) (x2 : Nat) (x3 : Int32) (h : gk_H) (K : Int32 → gk_H → Prop) : Prop := gk_G E mL_law (dd + 1, 0, 0) 1009 [(0, .ref 1000000), (1, .ref x1), (2, .ref x2), (3, .int x3)] [] h (fun o h1 => ∃ v, o = some (.int v) ∧ K v h1)
abbrev pL_law_1042 (E : gk_E) (dd : Nat) (x1 : Nat) (x2 : Nat) (x3 : Int32) (h : gk_H) (K : Int32 → gk_H → Prop) : Prop := gk_G E mL_law (dd + 1, 0, 0) 1042 [(0, .ref 1000000), (1, .ref x1), (2, .ref x2), (3, .int x3)] [] h (fun o h1 => ∃ v, o = some (.int v) ∧ K v h1)
abbrev pL_law_1065 (E : gk_E) (dd : Nat) (x1 : Nat) (x2 : Nat) (x3 : Int32) (h : gk_H) (K : Int32 → gk_H → Prop) : Prop := gk_G E mL_law (dd + 1, 0, 0) 1065 [(0, .ref 1000000), (1, .ref x1), (2, .ref x2), (3, .int x3)] [] h (fun o h1 => ∃ v, o = some (.int v) ∧ K v h1)
abbrev pL_law_1088 (E : gk_E) (dd : Nat) (x1 : Nat) (x2 : Nat) (x3 : Int32) (h : gk_H) (K : Int32 → gk_H → Prop) : Prop := gk_G E mL_law (dd + 1, 0, 0) 1088 [(0, .ref 1000000), (1, .ref x1), (2, .ref x2), (3, .int x3)] [] h (fun o h1 => ∃ v, o = some (.int v) ∧ K v h1)
abbrev pL_law_1111 (E : gk_E) (dd : Nat) (x1 : Nat) (x2 : Nat) (x3 : Int32) (h : gk_H) (K : Int32 → gk_H → Prop) : Prop := gk_G E mL_law (dd + 1, 0, 0) 1111 [(0, .ref 1000000), (1, .ref x1), (2, .ref x2), (3, .int x3)] [] h (fun o h1 => ∃ v, o = some (.int v) ∧ K v h1)
abbrev pL_law_1134 (E : gk_E) (dd : Nat) (x1 : Nat) (x2 : Nat) (x3 : Int32) (h : gk_H) (K : Int32 → gk_H → Prop) : Prop := gk_G E mL_law (dd + 1, 0, 0) 1134 [(0, .ref 1000000), (1, .ref x1), (2, .ref x2), (3, .int x3)] [] h (fun o h1 => ∃ v, o = some (.int v) ∧ K v h1)
abbrev pL_law_1147 (E : gk_E) (dd : Nat) (x1 : Nat) (x2 : Nat) (x3 : Int32) (h : gk_H) (K : Int32 → gk_H → Prop) : Prop := gk_G E mL_law (dd + 1, 0, 0) 1147 [(0, .ref 1000000), (1, .ref x1), (2, .ref x2), (3, .int x3)] [] h (fun o h1 => ∃ v, o = some (.int v) ∧ K v h1)
abbrev pL_law_1170 (E : gk_E) (dd : Nat) (x1 : Nat) (x2 : Nat) (x3 : Int32) (h : gk_H) (K : Int32 → gk_H → Prop) : Prop := gk_G E mL_law (dd + 1, 0, 0) 1170 [(0, .ref 1000000), (1, .ref x1), (2, .ref x2), (3, .int x3)] [] h (fun o h1 => ∃ v, o = some (.int v) ∧ K v h1)
abbrev pL_law_1193 (E : gk_E) (dd : Nat) (x1 : Nat) (x2 : Nat) (x3 : Int32) (h : gk_H) (K : Int32 → gk_H → Prop) : Prop := gk_G E mL_law (dd + 1, 0, 0) 1193 [(0, .ref 1000000), (1, .ref x1), (2, .ref x2), (3, .int x3)] [] h (fun o h1 => ∃ v, o = some (.int v) ∧ K v h1)
abbrev pL_law_1216 (E : gk_E) (dd : Nat) (x1 : Nat) (x2 : Nat) (x3 : Int32) (h : gk_H) (K : Int32 → gk_H → Prop) : Prop := gk_G E mL_law (dd + 1, 0, 0) 1216 [(0, .ref 1000000), (1, .ref x1), (2, .ref x2), (3, .int x3)] [] h (fun o h1 => ∃ v, o = some (.int v) ∧ K v h1)
abbrev pL_law_1239 (E : gk_E) (dd : Nat) (x1 : Nat) (x2 : Nat) (x3 : Int32) (h : gk_H) (K : Int32 → gk_H → Prop) : Prop := gk_G E mL_law (dd + 1, 0, 0) 1239 [(0, .ref 1000000), (1, .ref x1), (2, .ref x2), (3, .int x3)] [] h (fun o h1 => ∃ v, o = some (.int v) ∧ K v h1)
abbrev pL_law_1272 (E : gk_E) (dd : Nat) (x1 : Nat) (x2 : Nat) (x3 : Int32) (h : gk_H) (K : Int32 → gk_H → Prop) : Prop := gk_G E mL_law (dd + 1, 0, 0) 1272 [(0, .ref 1000000), (1, .ref x1), (2, .ref x2), (3, .int x3)] [] h (fun o h1 => ∃ v, o = some (.int v) ∧ K v h1)
abbrev pL_law_1345 (E : gk_E) (dd : Nat) (x1 : Nat) (x2 : Nat) (x3 : Int32) (h : gk_H) (K : Int32 → gk_H → Prop) : Prop := gk_G E mL_law (dd + 1, 0, 0) 1345 [(0, .ref 1000000), (1, .ref x1), (2, .ref x2), (3, .int x3)] [] h (fun o h1 => ∃ v, o = some (.int v) ∧ K v h1)
abbrev pL_law_1379 (E : gk_E) (dd : Nat) (x1 : Nat) (x2 : Nat) (x3 : Int32) (h : gk_H) (K : Int32 → gk_H → Prop) : Prop := gk_G E mL_law (dd + 1, 0, 0) 1379 [(0, .ref 1000000), (1, .ref x1), (2, .ref x2), (3, .int x3)] [] h (fun o h1 => ∃ v, o = some (.int v) ∧ K v h1)
abbrev pL_law_1402 (E : gk_E) (dd : Nat) (x1 : Nat) (x2 : Nat) (x3 : Int32) (h : gk_H) (K : Int32 → gk_H → Prop) : Prop := gk_G E mL_law (dd + 1, 0, 0) 1402 [(0, .ref 1000000), (1, .ref x1), (2, .ref x2), (3, .int x3)] [] h (fun o h1 => ∃ v, o = some (.int v) ∧ K v h1)
abbrev pL_law_1415 (E : gk_E) (dd : Nat) (x1 : Nat) (x2 : Nat) (x3 : Int32) (h : gk_H) (K : Int32 → gk_H → Prop) : Prop := gk_G E mL_law (dd + 1, 0, 0) 1415 [(0, .ref 1000000), (1, .ref x1), (2, .ref x2), (3, .int x3)] [] h (fun o h1 => ∃ v, o = some (.int v) ∧ K v h1)
abbrev pL_law_1428 (E : gk_E) (dd : Nat) (x1 : Nat) (x2 : Nat) (x3 : Int32) (h : gk_H) (K : Int32 → gk_H → Prop) : Prop := gk_G E mL_law (dd + 1, 0, 0) 1428 [(0, .ref 1000000), (1, .ref x1), (2, .ref x2), (3, .int x3)] [] h (fun o h1 => ∃ v, o = some (.int v) ∧ K v h1)
abbrev pL_law_1451 (E : gk_E) (dd : Nat) (x1 : Nat) (x2 : Nat) (x3 : Int32) (h : gk_H) (K : Int32 → gk_H → Prop) : Prop := gk_G E mL_law (dd + 1, 0, 0) 1451 [(0, .ref 1000000), (1, .ref x1), (2, .ref x2), (3, .int x3)] [] h (fun o h1 => ∃ v, o = some (.int v) ∧ K v h1)
abbrev pL_law_1464 (E : gk_E) (dd : Nat) (x1 : Nat) (x2 : Nat) (x3 : Int32) (h : gk_H) (K : Int32 → gk_H → Prop) : Prop := gk_G E mL_law (dd + 1, 0, 0) 1464 [(0, .ref 1000000), (1, .ref x1), (2, .ref x2), (3, .int x3)] [] h (fun o h1 => ∃ v, o = some (.int v) ∧ K v h1)
abbrev pL_law_1477 (E : gk_E) (dd : Nat) (x1 : Nat) (x2 : Nat) (x3 : Int32) (h : gk_H) (K : Int32 → gk_H → Prop) : Prop := gk_G E mL_law (dd + 1, 0, 0) 1477 [(0, .ref 1000000), (1, .ref x1), (2, .ref x2), (3, .int x3)] [] h (fun o h1 => ∃ v, o = some (.int v) ∧ K v h1)
abbrev pL_law_1500 (E : gk_E) (dd : Nat) (x1 : Nat) (x2 : Nat) (x3 : Int32) (h : gk_H) (K : Int32 → gk_H → Prop) : Prop := gk_G E mL_law (dd + 1, 0, 0) 1500 [(0, .ref 1000000), (1, .ref x1), (2, .ref x2), (3, .int x3)] [] h (fun o h1 => ∃ v, o = some (.int v) ∧ K v h1)
set_option maxHeartbeats 4000000 in
theorem vL_law_18 {E : gk_E} {dd : Nat} {x1 : Nat} {x2 : Nat} {x3 : Int32}  {h : gk_H} {K : Int32 → gk_H → Prop} (hv : (((nI (gk_scr E).2.1) - (nI 5)) < x3 → K (nI 1) h) ∧ (¬ ((nI (gk_scr E).2.1) - (nI 5)) < x3 → (vp_in x3 (gk_scr E).2.1) ∧ (((((((gk_scr E).2.2 x3.toNatClampNeg) &&& (nI 63)) = nI 0 → pL_law_220 E dd x1 x2 x3 h K) ∧ ((((gk_scr E).2.2 x3.toNatClampNeg) &&& (nI 63)) = nI 1 → pL_law_243 E dd x1 x2 x3 h K) ∧ ((((gk_scr E).2.2 x3.toNatClampNeg) &&& (nI 63)) = nI 2 → pL_law_276 E dd x1 x2 x3 h K) ∧ ((((gk_scr E).2.2 x3.toNatClampNeg) &&& (nI 63)) = nI 3 → pL_law_299 E dd x1 x2 x3 h K) ∧ ((((gk_scr E).2.2 x3.toNatClampNeg) &&& (nI 63)) = nI 4 → pL_law_352 E dd x1 x2 x3 h K) ∧ ((((gk_scr E).2.2 x3.toNatClampNeg) &&& (nI 63)) = nI 5 → pL_law_395 E dd x1 x2 x3 h K) ∧ ((((gk_scr E).2.2 x3.toNatClampNeg) &&& (nI 63)) = nI 6 → pL_law_428 E dd x1 x2 x3 h K) ∧ ((((gk_scr E).2.2 x3.toNatClampNeg) &&& (nI 63)) = nI 7 → pL_law_471 E dd x1 x2 x3 h K) ∧ ((((gk_scr E).2.2 x3.toNatClampNeg) &&& (nI 63)) = nI 8 → pL_law_504 E dd x1 x2 x3 h K) ∧ ((((gk_scr E).2.2 x3.toNatClampNeg) &&& (nI 63)) = nI 9 → pL_law_527 E dd x1 x2 x3 h K) ∧ ((((gk_scr E).2.2 x3.toNatClampNeg) &&& (nI 63)) = nI 10 → pL_law_580 E dd x1 x2 x3 h K) ∧ ((((gk_scr E).2.2 x3.toNatClampNeg) &&& (nI 63)) = nI 11 → pL_law_603 E dd x1 x2 x3 h K) ∧ ((((gk_scr E).2.2 x3.toNatClampNeg) &&& (nI 63)) = nI 12 → pL_law_626 E dd x1 x2 x3 h K) ∧ ((((gk_scr E).2.2 x3.toNatClampNeg) &&& (nI 63)) = nI 13 → pL_law_659 E dd x1 x2 x3 h K) ∧ ((((gk_scr E).2.2 x3.toNatClampNeg) &&& (nI 63)) = nI 14 → pL_law_682 E dd x1 x2 x3 h K) ∧ ((((gk_scr E).2.2 x3.toNatClampNeg) &&& (nI 63)) = nI 15 → pL_law_725 E dd x1 x2 x3 h K) ∧ ((((gk_scr E).2.2 x3.toNatClampNeg) &&& (nI 63)) = nI 16 → pL_law_778 E dd x1 x2 x3 h K) ∧ ((((gk_scr E).2.2 x3.toNatClampNeg) &&& (nI 63)) = nI 17 → pL_law_811 E dd x1 x2 x3 h K) ∧ ((((gk_scr E).2.2 x3.toNatClampNeg) &&& (nI 63)) = nI 18 → pL_law_834 E dd x1 x2 x3 h K) ∧ ((((gk_scr E).2.2 x3.toNatClampNeg) &&& (nI 63)) = nI 19 → pL_law_867 E dd x1 x2 x3 h K) ∧ ((((gk_scr E).2.2 x3.toNatClampNeg) &&& (nI 63)) = nI 20 → pL_law_910 E dd x1 x2 x3 h K) ∧ ((((gk_scr E).2.2 x3.toNatClampNeg) &&& (nI 63)) = nI 21 → pL_law_953 E dd x1 x2 x3 h K) ∧ ((((gk_scr E).2.2 x3.toNatClampNeg) &&& (nI 63)) = nI 22 → pL_law_976 E dd x1 x2 x3 h K) ∧ ((((gk_scr E).2.2 x3.toNatClampNeg) &&& (nI 63)) = nI 23 → pL_law_1009 E dd x1 x2 x3 h K) ∧ ((((gk_scr E).2.2 x3.toNatClampNeg) &&& (nI 63)) = nI 24 → pL_law_1042 E dd x1 x2 x3 h K) ∧ ((((gk_scr E).2.2 x3.toNatClampNeg) &&& (nI 63)) = nI 25 → pL_law_1065 E dd x1 x2 x3 h K) ∧ ((((gk_scr E).2.2 x3.toNatClampNeg) &&& (nI 63)) = nI 26 → pL_law_1088 E dd x1 x2 x3 h K) ∧ ((((gk_scr E).2.2 x3.toNatClampNeg) &&& (nI 63)) = nI 27 → pL_law_1111 E dd x1 x2 x3 h K) ∧ ((((gk_scr E).2.2 x3.toNatClampNeg) &&& (nI 63)) = nI 28 → pL_law_1134 E dd x1 x2 x3 h K) ∧ ((((gk_scr E).2.2 x3.toNatClampNeg) &&& (nI 63)) = nI 29 → pL_law_1147 E dd x1 x2 x3 h K) ∧ ((((gk_scr E).2.2 x3.toNatClampNeg) &&& (nI 63)) = nI 30 → pL_law_1170 E dd x1 x2 x3 h K) ∧ ((((gk_scr E).2.2 x3.toNatClampNeg) &&& (nI 63)) = nI 31 → pL_law_1193 E dd x1 x2 x3 h K) ∧ ((((gk_scr E).2.2 x3.toNatClampNeg) &&& (nI 63)) = nI 32 → pL_law_1216 E dd x1 x2 x3 h K) ∧ ((((gk_scr E).2.2 x3.toNatClampNeg) &&& (nI 63)) = nI 33 → pL_law_1239 E dd x1 x2 x3 h K) ∧ ((((gk_scr E).2.2 x3.toNatClampNeg) &&& (nI 63)) = nI 34 → pL_law_1272 E dd x1 x2 x3 h K) ∧ ((((gk_scr E).2.2 x3.toNatClampNeg) &&& (nI 63)) = nI 35 → pL_law_1345 E dd x1 x2 x3 h K) ∧ ((((gk_scr E).2.2 x3.toNatClampNeg) &&& (nI 63)) = nI 36 → pL_law_1379 E dd x1 x2 x3 h K) ∧ ((((gk_scr E).2.2 x3.toNatClampNeg) &&& (nI 63)) = nI 37 → pL_law_1402 E dd x1 x2 x3 h K) ∧ ((((gk_scr E).2.2 x3.toNatClampNeg) &&& (nI 63)) = nI 38 → pL_law_1415 E dd x1 x2 x3 h K) ∧ ((((gk_scr E).2.2 x3.toNatClampNeg) &&& (nI 63)) = nI 39 → pL_law_1428 E dd x1 x2 x3 h K) ∧ ((((gk_scr E).2.2 x3.toNatClampNeg) &&& (nI 63)) = nI 40 → pL_law_1451 E dd x1 x2 x3 h K) ∧ ((((gk_scr E).2.2 x3.toNatClampNeg) &&& (nI 63)) = nI 41 → pL_law_1464 E dd x1 x2 x3 h K) ∧ ((((gk_scr E).2.2 x3.toNatClampNeg) &&& (nI 63)) = nI 42 → pL_law_1477 E dd x1 x2 x3 h K)) ∧ ((∀ k : Nat, k < 43 → ¬ (((gk_scr E).2.2 x3.toNatClampNeg) &&& (nI 63)) = nI k) → pL_law_1500 E dd x1 x2 x3 h K))))) : pL_law_18 E dd x1 x2 x3 h K := by
  show gk_G E mL_law (dd + 1, 0, 0) 18 [(0, .ref 1000000), (1, .ref x1), (2, .ref x2), (3, .int x3)] [] h (fun o h1 => ∃ v, o = some (.int v) ∧ K v h1)
  refine gk_iload_n (pc := 18) (DL_law_0.at 10 rfl) 3 rfl rfl ?_
  refine gk_aload_n (pc := 19) (DL_law_0.at 11 rfl) 0 rfl rfl ?_
  refine gk_scr_len (pc := 20) (DL_law_0.at 12 rfl) ?_
  refine gk_iconst (pc := 21) (nI 5) (DL_law_0.at 13 rfl) ci_5 ?_
  refine gk_isub (pc := 22) (DL_law_0.at 14 rfl) ?_
  refine gk_icmp_gt (pc := 23) 1506 (DL_law_0.at 15 rfl) (by decide) (fun c => ?_) (fun c => ?_)
  · replace hv := hv.1 c
    refine gk_iconst (pc := 1506) (nI 1) (DL_law_17.at 20 rfl) ci_1 ?_
    exact gk_ireturn (pc := 1507) .boolean (DL_law_17.at 21 rfl) rfl rfl ⟨_, rfl, hv⟩
  · replace hv := hv.2 c
    refine gk_aload_n (pc := 26) (DL_law_0.at 16 rfl) 0 rfl rfl ?_
    refine gk_iload_n (pc := 27) (DL_law_0.at 17 rfl) 3 rfl rfl ?_
    obtain ⟨q2, hv⟩ := hv
    refine gk_scr_ld (pc := 28) (DL_law_0.at 18 rfl) q2 ?_
    refine gk_bipush (pc := 29) (nI 63) (DL_law_0.at 19 rfl) cb_63 ?_
    refine gk_iand (pc := 31) (DL_law_0.at 20 rfl) ?_
    refine gk_tsw (pc := 32) (n := 43) (fun k => [220, 243, 276, 299, 352, 395, 428, 471, 504, 527, 580, 603, 626, 659, 682, 725, 778, 811, 834, 867, 910, 953, 976, 1009, 1042, 1065, 1088, 1111, 1134, 1147, 1170, 1193, 1216, 1239, 1272, 1345, 1379, 1402, 1415, 1428, 1451, 1464, 1477].getD k 0) 1500 (DL_law_0.at 21 rfl) (by decide +kernel) (by decide) (by decide) (by decide) (by decide) (fun k hk c => ?_) (fun c => ?_)
    · replace hv := hv.1
      match k, hk, c with
      | 0, _, c =>
        replace hv := hv.1 c
        exact gk_pick (pc := 220) [(0, .ref 1000000), (1, .ref x1), (2, .ref x2), (3, .int x3)] [0, 1, 2, 3] rfl hv
      | 1, _, c =>
        replace hv := hv.2.1 c
        exact gk_pick (pc := 243) [(0, .ref 1000000), (1, .ref x1), (2, .ref x2), (3, .int x3)] [0, 1, 2, 3] rfl hv
      | 2, _, c =>
        replace hv := hv.2.2.1 c
        exact gk_pick (pc := 276) [(0, .ref 1000000), (1, .ref x1), (2, .ref x2), (3, .int x3)] [0, 1, 2, 3] rfl hv
      | 3, _, c =>
        replace hv := hv.2.2.2.1 c
        exact gk_pick (pc := 299) [(0, .ref 1000000), (1, .ref x1), (2, .ref x2), (3, .int x3)] [0, 1, 2, 3] rfl hv
      | 4, _, c =>
        replace hv := hv.2.2.2.2.1 c
        exact gk_pick (pc := 352) [(0, .ref 1000000), (1, .ref x1), (2, .ref x2), (3, .int x3)] [0, 1, 2, 3] rfl hv
      | 5, _, c =>
        replace hv := hv.2.2.2.2.2.1 c
        exact gk_pick (pc := 395) [(0, .ref 1000000), (1, .ref x1), (2, .ref x2), (3, .int x3)] [0, 1, 2, 3] rfl hv
      | 6, _, c =>
        replace hv := hv.2.2.2.2.2.2.1 c
        exact gk_pick (pc := 428) [(0, .ref 1000000), (1, .ref x1), (2, .ref x2), (3, .int x3)] [0, 1, 2, 3] rfl hv
      | 7, _, c =>
        replace hv := hv.2.2.2.2.2.2.2.1 c
        exact gk_pick (pc := 471) [(0, .ref 1000000), (1, .ref x1), (2, .ref x2), (3, .int x3)] [0, 1, 2, 3] rfl hv
      | 8, _, c =>
        replace hv := hv.2.2.2.2.2.2.2.2.1 c
        exact gk_pick (pc := 504) [(0, .ref 1000000), (1, .ref x1), (2, .ref x2), (3, .int x3)] [0, 1, 2, 3] rfl hv
      | 9, _, c =>
        replace hv := hv.2.2.2.2.2.2.2.2.2.1 c
        exact gk_pick (pc := 527) [(0, .ref 1000000), (1, .ref x1), (2, .ref x2), (3, .int x3)] [0, 1, 2, 3] rfl hv
      | 10, _, c =>
        replace hv := hv.2.2.2.2.2.2.2.2.2.2.1 c
        exact gk_pick (pc := 580) [(0, .ref 1000000), (1, .ref x1), (2, .ref x2), (3, .int x3)] [0, 1, 2, 3] rfl hv
      | 11, _, c =>
        replace hv := hv.2.2.2.2.2.2.2.2.2.2.2.1 c
        exact gk_pick (pc := 603) [(0, .ref 1000000), (1, .ref x1), (2, .ref x2), (3, .int x3)] [0, 1, 2, 3] rfl hv
      | 12, _, c =>
        replace hv := hv.2.2.2.2.2.2.2.2.2.2.2.2.1 c
        exact gk_pick (pc := 626) [(0, .ref 1000000), (1, .ref x1), (2, .ref x2), (3, .int x3)] [0, 1, 2, 3] rfl hv
      | 13, _, c =>
        replace hv := hv.2.2.2.2.2.2.2.2.2.2.2.2.2.1 c
        exact gk_pick (pc := 659) [(0, .ref 1000000), (1, .ref x1), (2, .ref x2), (3, .int x3)] [0, 1, 2, 3] rfl hv
      | 14, _, c =>
        replace hv := hv.2.2.2.2.2.2.2.2.2.2.2.2.2.2.1 c
        exact gk_pick (pc := 682) [(0, .ref 1000000), (1, .ref x1), (2, .ref x2), (3, .int x3)] [0, 1, 2, 3] rfl hv
      | 15, _, c =>
        replace hv := hv.2.2.2.2.2.2.2.2.2.2.2.2.2.2.2.1 c
        exact gk_pick (pc := 725) [(0, .ref 1000000), (1, .ref x1), (2, .ref x2), (3, .int x3)] [0, 1, 2, 3] rfl hv
      | 16, _, c =>
        replace hv := hv.2.2.2.2.2.2.2.2.2.2.2.2.2.2.2.2.1 c
        exact gk_pick (pc := 778) [(0, .ref 1000000), (1, .ref x1), (2, .ref x2), (3, .int x3)] [0, 1, 2, 3] rfl hv
      | 17, _, c =>
        replace hv := hv.2.2.2.2.2.2.2.2.2.2.2.2.2.2.2.2.2.1 c
        exact gk_pick (pc := 811) [(0, .ref 1000000), (1, .ref x1), (2, .ref x2), (3, .int x3)] [0, 1, 2, 3] rfl hv
      | 18, _, c =>
        replace hv := hv.2.2.2.2.2.2.2.2.2.2.2.2.2.2.2.2.2.2.1 c
        exact gk_pick (pc := 834) [(0, .ref 1000000), (1, .ref x1), (2, .ref x2), (3, .int x3)] [0, 1, 2, 3] rfl hv
      | 19, _, c =>
        replace hv := hv.2.2.2.2.2.2.2.2.2.2.2.2.2.2.2.2.2.2.2.1 c
        exact gk_pick (pc := 867) [(0, .ref 1000000), (1, .ref x1), (2, .ref x2), (3, .int x3)] [0, 1, 2, 3] rfl hv
      | 20, _, c =>
        replace hv := hv.2.2.2.2.2.2.2.2.2.2.2.2.2.2.2.2.2.2.2.2.1 c
        exact gk_pick (pc := 910) [(0, .ref 1000000), (1, .ref x1), (2, .ref x2), (3, .int x3)] [0, 1, 2, 3] rfl hv
      | 21, _, c =>
        replace hv := hv.2.2.2.2.2.2.2.2.2.2.2.2.2.2.2.2.2.2.2.2.2.1 c
        exact gk_pick (pc := 953) [(0, .ref 1000000), (1, .ref x1), (2, .ref x2), (3, .int x3)] [0, 1, 2, 3] rfl hv
      | 22, _, c =>
        replace hv := hv.2.2.2.2.2.2.2.2.2.2.2.2.2.2.2.2.2.2.2.2.2.2.1 c
        exact gk_pick (pc := 976) [(0, .ref 1000000), (1, .ref x1), (2, .ref x2), (3, .int x3)] [0, 1, 2, 3] rfl hv
      | 23, _, c =>
        replace hv := hv.2.2.2.2.2.2.2.2.2.2.2.2.2.2.2.2.2.2.2.2.2.2.2.1 c
        exact gk_pick (pc := 1009) [(0, .ref 1000000), (1, .ref x1), (2, .ref x2), (3, .int x3)] [0, 1, 2, 3] rfl hv
      | 24, _, c =>
        replace hv := hv.2.2.2.2.2.2.2.2.2.2.2.2.2.2.2.2.2.2.2.2.2.2.2.2.1 c
        exact gk_pick (pc := 1042) [(0, .ref 1000000), (1, .ref x1), (2, .ref x2), (3, .int x3)] [0, 1, 2, 3] rfl hv
      | 25, _, c =>
        replace hv := hv.2.2.2.2.2.2.2.2.2.2.2.2.2.2.2.2.2.2.2.2.2.2.2.2.2.1 c
        exact gk_pick (pc := 1065) [(0, .ref 1000000), (1, .ref x1), (2, .ref x2), (3, .int x3)] [0, 1, 2, 3] rfl hv
      | 26, _, c =>
        replace hv := hv.2.2.2.2.2.2.2.2.2.2.2.2.2.2.2.2.2.2.2.2.2.2.2.2.2.2.1 c
        exact gk_pick (pc := 1088) [(0, .ref 1000000), (1, .ref x1), (2, .ref x2), (3, .int x3)] [0, 1, 2, 3] rfl hv
      | 27, _, c =>
        replace hv := hv.2.2.2.2.2.2.2.2.2.2.2.2.2.2.2.2.2.2.2.2.2.2.2.2.2.2.2.1 c
        exact gk_pick (pc := 1111) [(0, .ref 1000000), (1, .ref x1), (2, .ref x2), (3, .int x3)] [0, 1, 2, 3] rfl hv
      | 28, _, c =>
        replace hv := hv.2.2.2.2.2.2.2.2.2.2.2.2.2.2.2.2.2.2.2.2.2.2.2.2.2.2.2.2.1 c
        exact gk_pick (pc := 1134) [(0, .ref 1000000), (1, .ref x1), (2, .ref x2), (3, .int x3)] [0, 1, 2, 3] rfl hv
      | 29, _, c =>
        replace hv := hv.2.2.2.2.2.2.2.2.2.2.2.2.2.2.2.2.2.2.2.2.2.2.2.2.2.2.2.2.2.1 c
        exact gk_pick (pc := 1147) [(0, .ref 1000000), (1, .ref x1), (2, .ref x2), (3, .int x3)] [0, 1, 2, 3] rfl hv
      | 30, _, c =>
        replace hv := hv.2.2.2.2.2.2.2.2.2.2.2.2.2.2.2.2.2.2.2.2.2.2.2.2.2.2.2.2.2.2.1 c
        exact gk_pick (pc := 1170) [(0, .ref 1000000), (1, .ref x1), (2, .ref x2), (3, .int x3)] [0, 1, 2, 3] rfl hv
      | 31, _, c =>
        replace hv := hv.2.2.2.2.2.2.2.2.2.2.2.2.2.2.2.2.2.2.2.2.2.2.2.2.2.2.2.2.2.2.2.1 c
        exact gk_pick (pc := 1193) [(0, .ref 1000000), (1, .ref x1), (2, .ref x2), (3, .int x3)] [0, 1, 2, 3] rfl hv
      | 32, _, c =>
        replace hv := hv.2.2.2.2.2.2.2.2.2.2.2.2.2.2.2.2.2.2.2.2.2.2.2.2.2.2.2.2.2.2.2.2.1 c
        exact gk_pick (pc := 1216) [(0, .ref 1000000), (1, .ref x1), (2, .ref x2), (3, .int x3)] [0, 1, 2, 3] rfl hv
      | 33, _, c =>
        replace hv := hv.2.2.2.2.2.2.2.2.2.2.2.2.2.2.2.2.2.2.2.2.2.2.2.2.2.2.2.2.2.2.2.2.2.1 c
        exact gk_pick (pc := 1239) [(0, .ref 1000000), (1, .ref x1), (2, .ref x2), (3, .int x3)] [0, 1, 2, 3] rfl hv
      | 34, _, c =>
        replace hv := hv.2.2.2.2.2.2.2.2.2.2.2.2.2.2.2.2.2.2.2.2.2.2.2.2.2.2.2.2.2.2.2.2.2.2.1 c
        exact gk_pick (pc := 1272) [(0, .ref 1000000), (1, .ref x1), (2, .ref x2), (3, .int x3)] [0, 1, 2, 3] rfl hv
      | 35, _, c =>
        replace hv := hv.2.2.2.2.2.2.2.2.2.2.2.2.2.2.2.2.2.2.2.2.2.2.2.2.2.2.2.2.2.2.2.2.2.2.2.1 c
        exact gk_pick (pc := 1345) [(0, .ref 1000000), (1, .ref x1), (2, .ref x2), (3, .int x3)] [0, 1, 2, 3] rfl hv
      | 36, _, c =>
        replace hv := hv.2.2.2.2.2.2.2.2.2.2.2.2.2.2.2.2.2.2.2.2.2.2.2.2.2.2.2.2.2.2.2.2.2.2.2.2.1 c
        exact gk_pick (pc := 1379) [(0, .ref 1000000), (1, .ref x1), (2, .ref x2), (3, .int x3)] [0, 1, 2, 3] rfl hv
      | 37, _, c =>
        replace hv := hv.2.2.2.2.2.2.2.2.2.2.2.2.2.2.2.2.2.2.2.2.2.2.2.2.2.2.2.2.2.2.2.2.2.2.2.2.2.1 c
        exact gk_pick (pc := 1402) [(0, .ref 1000000), (1, .ref x1), (2, .ref x2), (3, .int x3)] [0, 1, 2, 3] rfl hv
      | 38, _, c =>
        replace hv := hv.2.2.2.2.2.2.2.2.2.2.2.2.2.2.2.2.2.2.2.2.2.2.2.2.2.2.2.2.2.2.2.2.2.2.2.2.2.2.1 c
        exact gk_pick (pc := 1415) [(0, .ref 1000000), (1, .ref x1), (2, .ref x2), (3, .int x3)] [0, 1, 2, 3] rfl hv
      | 39, _, c =>
        replace hv := hv.2.2.2.2.2.2.2.2.2.2.2.2.2.2.2.2.2.2.2.2.2.2.2.2.2.2.2.2.2.2.2.2.2.2.2.2.2.2.2.1 c
        exact gk_pick (pc := 1428) [(0, .ref 1000000), (1, .ref x1), (2, .ref x2), (3, .int x3)] [0, 1, 2, 3] rfl hv
      | 40, _, c =>
        replace hv := hv.2.2.2.2.2.2.2.2.2.2.2.2.2.2.2.2.2.2.2.2.2.2.2.2.2.2.2.2.2.2.2.2.2.2.2.2.2.2.2.2.1 c
        exact gk_pick (pc := 1451) [(0, .ref 1000000), (1, .ref x1), (2, .ref x2), (3, .int x3)] [0, 1, 2, 3] rfl hv
      | 41, _, c =>
        replace hv := hv.2.2.2.2.2.2.2.2.2.2.2.2.2.2.2.2.2.2.2.2.2.2.2.2.2.2.2.2.2.2.2.2.2.2.2.2.2.2.2.2.2.1 c
        exact gk_pick (pc := 1464) [(0, .ref 1000000), (1, .ref x1), (2, .ref x2), (3, .int x3)] [0, 1, 2, 3] rfl hv
      | 42, _, c =>
        replace hv := hv.2.2.2.2.2.2.2.2.2.2.2.2.2.2.2.2.2.2.2.2.2.2.2.2.2.2.2.2.2.2.2.2.2.2.2.2.2.2.2.2.2.2 c
        exact gk_pick (pc := 1477) [(0, .ref 1000000), (1, .ref x1), (2, .ref x2), (3, .int x3)] [0, 1, 2, 3] rfl hv
      | k + 43, hk, _ => exact absurd hk (by omega)
    · replace hv := hv.2 c
      exact gk_pick (pc := 1500) [(0, .ref 1000000), (1, .ref x1), (2, .ref x2), (3, .int x3)] [0, 1, 2, 3] rfl hv
set_option maxHeartbeats 4000000 in
theorem vL_law_220 {E : gk_E} {dd : Nat} {x1 : Nat} {x2 : Nat} {x3 : Int32}  {h : gk_H} {K : Int32 → gk_H → Prop} (hv : (vp_in (x3 + (nI 1)) (gk_scr E).2.1) ∧ ((∃ fs, h[x1]? = some (.inr (10, fs))) ∧ RnI E mX11_atoms (dd, 0, 0) [.ref x1, .int ((gk_scr E).2.2 (x3 + (nI 1)).toNatClampNeg)] h (fun v2 h2 => (vp_in (x3 + (nI 1)) (gk_scr E).2.1) ∧ ((∃ fs, h2[x2]? = some (.inr (11, fs))) ∧ RnI E mX12_atoms (dd, 0, 0) [.ref x2, .int ((gk_scr E).2.2 (x3 + (nI 1)).toNatClampNeg)] h2 (fun v4 h4 => (v2 = v4 → pL_law_1500 E dd x1 x2 x3 h4 K) ∧ (¬ v2 = v4 → K (nI 0) h4)))))) : pL_law_220 E dd x1 x2 x3 h K := by
  show gk_G E mL_law (dd + 1, 0, 0) 220 [(0, .ref 1000000), (1, .ref x1), (2, .ref x2), (3, .int x3)] [] h (fun o h1 => ∃ v, o = some (.int v) ∧ K v h1)
  refine gk_aload_n (pc := 220) (DL_law_0.at 22 rfl) 1 rfl rfl ?_
  refine gk_aload_n (pc := 221) (DL_law_0.at 23 rfl) 0 rfl rfl ?_
  refine gk_iload_n (pc := 222) (DL_law_0.at 24 rfl) 3 rfl rfl ?_
  refine gk_iconst (pc := 223) (nI 1) (DL_law_0.at 25 rfl) ci_1 ?_
  refine gk_iadd (pc := 224) (DL_law_0.at 26 rfl) ?_
  obtain ⟨q1, hv⟩ := hv
  refine gk_scr_ld (pc := 225) (DL_law_0.at 27 rfl) q1 ?_
  obtain ⟨⟨fs2, q2⟩, hv⟩ := hv
  refine gk_vV (pc := 226) [.int ((gk_scr E).2.2 (x3 + (nI 1)).toNatClampNeg)] [] (DL_law_0.at 28 rfl) cvL_13 q2 rfl rfl (Nat.le_of_ble_eq_true rfl) (Nat.le_of_ble_eq_true rfl) (gk_Run.post (fun o h2 z => ?_) hv)
  obtain ⟨v2, rfl, hv⟩ := z
  refine gk_aload_n (pc := 229) (DL_law_0.at 29 rfl) 2 rfl rfl ?_
  refine gk_aload_n (pc := 230) (DL_law_0.at 30 rfl) 0 rfl rfl ?_
  refine gk_iload_n (pc := 231) (DL_law_0.at 31 rfl) 3 rfl rfl ?_
  refine gk_iconst (pc := 232) (nI 1) (DL_law_0.at 32 rfl) ci_1 ?_
  refine gk_iadd (pc := 233) (DL_law_0.at 33 rfl) ?_
  obtain ⟨q3, hv⟩ := hv
  refine gk_scr_ld (pc := 234) (DL_law_0.at 34 rfl) q3 ?_
  obtain ⟨⟨fs4, q4⟩, hv⟩ := hv
  refine gk_vV (pc := 235) [.int ((gk_scr E).2.2 (x3 + (nI 1)).toNatClampNeg)] [.int v2] (DL_law_0.at 35 rfl) cvL_17 q4 rfl rfl (Nat.le_of_ble_eq_true rfl) (Nat.le_of_ble_eq_true rfl) (gk_Run.post (fun o h4 z => ?_) hv)
  obtain ⟨v4, rfl, hv⟩ := z
  refine gk_icmp_eq (pc := 238) 1500 (DL_law_0.at 36 rfl) (by decide) (fun c => ?_) (fun c => ?_)
  · replace hv := hv.1 c
    exact gk_pick (pc := 1500) [(0, .ref 1000000), (1, .ref x1), (2, .ref x2), (3, .int x3)] [0, 1, 2, 3] rfl hv
  · replace hv := hv.2 c
    refine gk_iconst (pc := 241) (nI 0) (DL_law_0.at 37 rfl) ci_0 ?_
    exact gk_ireturn (pc := 242) .boolean (DL_law_0.at 38 rfl) rfl rfl ⟨_, rfl, hv⟩
set_option maxHeartbeats 4000000 in
theorem vL_law_243 {E : gk_E} {dd : Nat} {x1 : Nat} {x2 : Nat} {x3 : Int32}  {h : gk_H} {K : Int32 → gk_H → Prop} (hv : (vp_in (x3 + (nI 1)) (gk_scr E).2.1) ∧ ((vp_in (x3 + (nI 2)) (gk_scr E).2.1) ∧ ((∃ fs, h[x1]? = some (.inr (10, fs))) ∧ RnI E mX11_pair (dd, 0, 0) [.ref x1, .int ((gk_scr E).2.2 (x3 + (nI 1)).toNatClampNeg), .int ((gk_scr E).2.2 (x3 + (nI 2)).toNatClampNeg)] h (fun v3 h3 => (vp_in (x3 + (nI 1)) (gk_scr E).2.1) ∧ ((vp_in (x3 + (nI 2)) (gk_scr E).2.1) ∧ ((∃ fs, h3[x2]? = some (.inr (11, fs))) ∧ RnI E mX12_pair (dd, 0, 0) [.ref x2, .int ((gk_scr E).2.2 (x3 + (nI 1)).toNatClampNeg), .int ((gk_scr E).2.2 (x3 + (nI 2)).toNatClampNeg)] h3 (fun v6 h6 => (v3 = v6 → pL_law_1500 E dd x1 x2 x3 h6 K) ∧ (¬ v3 = v6 → K (nI 0) h6)))))))) : pL_law_243 E dd x1 x2 x3 h K := by
  show gk_G E mL_law (dd + 1, 0, 0) 243 [(0, .ref 1000000), (1, .ref x1), (2, .ref x2), (3, .int x3)] [] h (fun o h1 => ∃ v, o = some (.int v) ∧ K v h1)
  refine gk_aload_n (pc := 243) (DL_law_0.at 39 rfl) 1 rfl rfl ?_
  refine gk_aload_n (pc := 244) (DL_law_0.at 40 rfl) 0 rfl rfl ?_
  refine gk_iload_n (pc := 245) (DL_law_0.at 41 rfl) 3 rfl rfl ?_
  refine gk_iconst (pc := 246) (nI 1) (DL_law_0.at 42 rfl) ci_1 ?_
  refine gk_iadd (pc := 247) (DL_law_0.at 43 rfl) ?_
  obtain ⟨q1, hv⟩ := hv
  refine gk_scr_ld (pc := 248) (DL_law_0.at 44 rfl) q1 ?_
  refine gk_aload_n (pc := 249) (DL_law_0.at 45 rfl) 0 rfl rfl ?_
  refine gk_iload_n (pc := 250) (DL_law_0.at 46 rfl) 3 rfl rfl ?_
  refine gk_iconst (pc := 251) (nI 2) (DL_law_0.at 47 rfl) ci_2 ?_
  refine gk_iadd (pc := 252) (DL_law_0.at 48 rfl) ?_
  obtain ⟨q2, hv⟩ := hv
  refine gk_scr_ld (pc := 253) (DL_law_0.at 49 rfl) q2 ?_
  obtain ⟨⟨fs3, q3⟩, hv⟩ := hv
  refine gk_vV (pc := 254) [.int ((gk_scr E).2.2 (x3 + (nI 1)).toNatClampNeg), .int ((gk_scr E).2.2 (x3 + (nI 2)).toNatClampNeg)] [] (DL_law_0.at 50 rfl) cvL_18 q3 rfl rfl (Nat.le_of_ble_eq_true rfl) (Nat.le_of_ble_eq_true rfl) (gk_Run.post (fun o h3 z => ?_) hv)
  obtain ⟨v3, rfl, hv⟩ := z
  refine gk_aload_n (pc := 257) (DL_law_0.at 51 rfl) 2 rfl rfl ?_
  refine gk_aload_n (pc := 258) (DL_law_0.at 52 rfl) 0 rfl rfl ?_
  refine gk_iload_n (pc := 259) (DL_law_0.at 53 rfl) 3 rfl rfl ?_
  refine gk_iconst (pc := 260) (nI 1) (DL_law_0.at 54 rfl) ci_1 ?_
  refine gk_iadd (pc := 261) (DL_law_0.at 55 rfl) ?_
  obtain ⟨q4, hv⟩ := hv
  refine gk_scr_ld (pc := 262) (DL_law_0.at 56 rfl) q4 ?_
  refine gk_aload_n (pc := 263) (DL_law_0.at 57 rfl) 0 rfl rfl ?_
  refine gk_iload_n (pc := 264) (DL_law_0.at 58 rfl) 3 rfl rfl ?_
  refine gk_iconst (pc := 265) (nI 2) (DL_law_0.at 59 rfl) ci_2 ?_
  refine gk_iadd (pc := 266) (DL_law_1.at 0 rfl) ?_
  obtain ⟨q5, hv⟩ := hv
  refine gk_scr_ld (pc := 267) (DL_law_1.at 1 rfl) q5 ?_
  obtain ⟨⟨fs6, q6⟩, hv⟩ := hv
  refine gk_vV (pc := 268) [.int ((gk_scr E).2.2 (x3 + (nI 1)).toNatClampNeg), .int ((gk_scr E).2.2 (x3 + (nI 2)).toNatClampNeg)] [.int v3] (DL_law_1.at 2 rfl) cvL_22 q6 rfl rfl (Nat.le_of_ble_eq_true rfl) (Nat.le_of_ble_eq_true rfl) (gk_Run.post (fun o h6 z => ?_) hv)
  obtain ⟨v6, rfl, hv⟩ := z
  refine gk_icmp_eq (pc := 271) 1500 (DL_law_1.at 3 rfl) (by decide) (fun c => ?_) (fun c => ?_)
  · replace hv := hv.1 c
    exact gk_pick (pc := 1500) [(0, .ref 1000000), (1, .ref x1), (2, .ref x2), (3, .int x3)] [0, 1, 2, 3] rfl hv
  · replace hv := hv.2 c
    refine gk_iconst (pc := 274) (nI 0) (DL_law_1.at 4 rfl) ci_0 ?_
    exact gk_ireturn (pc := 275) .boolean (DL_law_1.at 5 rfl) rfl rfl ⟨_, rfl, hv⟩
set_option maxHeartbeats 4000000 in
theorem vL_law_276 {E : gk_E} {dd : Nat} {x1 : Nat} {x2 : Nat} {x3 : Int32}  {h : gk_H} {K : Int32 → gk_H → Prop} (hv : (vp_in (x3 + (nI 1)) (gk_scr E).2.1) ∧ ((∃ fs, h[x1]? = some (.inr (10, fs))) ∧ RnI E mX11_converse (dd, 0, 0) [.ref x1, .int ((gk_scr E).2.2 (x3 + (nI 1)).toNatClampNeg)] h (fun v2 h2 => (vp_in (x3 + (nI 1)) (gk_scr E).2.1) ∧ ((∃ fs, h2[x2]? = some (.inr (11, fs))) ∧ RnI E mX12_converse (dd, 0, 0) [.ref x2, .int ((gk_scr E).2.2 (x3 + (nI 1)).toNatClampNeg)] h2 (fun v4 h4 => (v2 = v4 → pL_law_1500 E dd x1 x2 x3 h4 K) ∧ (¬ v2 = v4 → K (nI 0) h4)))))) : pL_law_276 E dd x1 x2 x3 h K := by
  show gk_G E mL_law (dd + 1, 0, 0) 276 [(0, .ref 1000000), (1, .ref x1), (2, .ref x2), (3, .int x3)] [] h (fun o h1 => ∃ v, o = some (.int v) ∧ K v h1)
  refine gk_aload_n (pc := 276) (DL_law_1.at 6 rfl) 1 rfl rfl ?_
  refine gk_aload_n (pc := 277) (DL_law_1.at 7 rfl) 0 rfl rfl ?_
  refine gk_iload_n (pc := 278) (DL_law_1.at 8 rfl) 3 rfl rfl ?_
  refine gk_iconst (pc := 279) (nI 1) (DL_law_1.at 9 rfl) ci_1 ?_
  refine gk_iadd (pc := 280) (DL_law_1.at 10 rfl) ?_
  obtain ⟨q1, hv⟩ := hv
  refine gk_scr_ld (pc := 281) (DL_law_1.at 11 rfl) q1 ?_
  obtain ⟨⟨fs2, q2⟩, hv⟩ := hv
  refine gk_vV (pc := 282) [.int ((gk_scr E).2.2 (x3 + (nI 1)).toNatClampNeg)] [] (DL_law_1.at 12 rfl) cvL_23 q2 rfl rfl (Nat.le_of_ble_eq_true rfl) (Nat.le_of_ble_eq_true rfl) (gk_Run.post (fun o h2 z => ?_) hv)
  obtain ⟨v2, rfl, hv⟩ := z
  refine gk_aload_n (pc := 285) (DL_law_1.at 13 rfl) 2 rfl rfl ?_
  refine gk_aload_n (pc := 286) (DL_law_1.at 14 rfl) 0 rfl rfl ?_
  refine gk_iload_n (pc := 287) (DL_law_1.at 15 rfl) 3 rfl rfl ?_
  refine gk_iconst (pc := 288) (nI 1) (DL_law_1.at 16 rfl) ci_1 ?_
  refine gk_iadd (pc := 289) (DL_law_1.at 17 rfl) ?_
  obtain ⟨q3, hv⟩ := hv
  refine gk_scr_ld (pc := 290) (DL_law_1.at 18 rfl) q3 ?_
  obtain ⟨⟨fs4, q4⟩, hv⟩ := hv
  refine gk_vV (pc := 291) [.int ((gk_scr E).2.2 (x3 + (nI 1)).toNatClampNeg)] [.int v2] (DL_law_1.at 19 rfl) cvL_26 q4 rfl rfl (Nat.le_of_ble_eq_true rfl) (Nat.le_of_ble_eq_true rfl) (gk_Run.post (fun o h4 z => ?_) hv)
  obtain ⟨v4, rfl, hv⟩ := z
  refine gk_icmp_eq (pc := 294) 1500 (DL_law_1.at 20 rfl) (by decide) (fun c => ?_) (fun c => ?_)
  · replace hv := hv.1 c
    exact gk_pick (pc := 1500) [(0, .ref 1000000), (1, .ref x1), (2, .ref x2), (3, .int x3)] [0, 1, 2, 3] rfl hv
  · replace hv := hv.2 c
    refine gk_iconst (pc := 297) (nI 0) (DL_law_1.at 21 rfl) ci_0 ?_
    exact gk_ireturn (pc := 298) .boolean (DL_law_1.at 22 rfl) rfl rfl ⟨_, rfl, hv⟩
set_option maxHeartbeats 4000000 in
theorem vL_law_299 {E : gk_E} {dd : Nat} {x1 : Nat} {x2 : Nat} {x3 : Int32}  {h : gk_H} {K : Int32 → gk_H → Prop} (hv : (vp_in (x3 + (nI 1)) (gk_scr E).2.1) ∧ ((vp_in (x3 + (nI 2)) (gk_scr E).2.1) ∧ ((vp_in (x3 + (nI 3)) (gk_scr E).2.1) ∧ ((vp_in (x3 + (nI 4)) (gk_scr E).2.1) ∧ ((∃ fs, h[x1]? = some (.inr (10, fs))) ∧ RnI E mX11_triangle (dd, 0, 0) [.ref x1, .int ((gk_scr E).2.2 (x3 + (nI 1)).toNatClampNeg), .int ((gk_scr E).2.2 (x3 + (nI 2)).toNatClampNeg), .int ((gk_scr E).2.2 (x3 + (nI 3)).toNatClampNeg), .int ((gk_scr E).2.2 (x3 + (nI 4)).toNatClampNeg)] h (fun v5 h5 => (vp_in (x3 + (nI 1)) (gk_scr E).2.1) ∧ ((vp_in (x3 + (nI 2)) (gk_scr E).2.1) ∧ ((vp_in (x3 + (nI 3)) (gk_scr E).2.1) ∧ ((vp_in (x3 + (nI 4)) (gk_scr E).2.1) ∧ ((∃ fs, h5[x2]? = some (.inr (11, fs))) ∧ RnI E mX12_triangle (dd, 0, 0) [.ref x2, .int ((gk_scr E).2.2 (x3 + (nI 1)).toNatClampNeg), .int ((gk_scr E).2.2 (x3 + (nI 2)).toNatClampNeg), .int ((gk_scr E).2.2 (x3 + (nI 3)).toNatClampNeg), .int ((gk_scr E).2.2 (x3 + (nI 4)).toNatClampNeg)] h5 (fun v10 h10 => (v5 = v10 → pL_law_1500 E dd x1 x2 x3 h10 K) ∧ (¬ v5 = v10 → K (nI 0) h10)))))))))))) : pL_law_299 E dd x1 x2 x3 h K := by
  show gk_G E mL_law (dd + 1, 0, 0) 299 [(0, .ref 1000000), (1, .ref x1), (2, .ref x2), (3, .int x3)] [] h (fun o h1 => ∃ v, o = some (.int v) ∧ K v h1)
  refine gk_aload_n (pc := 299) (DL_law_1.at 23 rfl) 1 rfl rfl ?_
  refine gk_aload_n (pc := 300) (DL_law_1.at 24 rfl) 0 rfl rfl ?_
  refine gk_iload_n (pc := 301) (DL_law_1.at 25 rfl) 3 rfl rfl ?_
  refine gk_iconst (pc := 302) (nI 1) (DL_law_1.at 26 rfl) ci_1 ?_
  refine gk_iadd (pc := 303) (DL_law_1.at 27 rfl) ?_
  obtain ⟨q1, hv⟩ := hv
  refine gk_scr_ld (pc := 304) (DL_law_1.at 28 rfl) q1 ?_
  refine gk_aload_n (pc := 305) (DL_law_1.at 29 rfl) 0 rfl rfl ?_
  refine gk_iload_n (pc := 306) (DL_law_1.at 30 rfl) 3 rfl rfl ?_
  refine gk_iconst (pc := 307) (nI 2) (DL_law_1.at 31 rfl) ci_2 ?_
  refine gk_iadd (pc := 308) (DL_law_1.at 32 rfl) ?_
  obtain ⟨q2, hv⟩ := hv
  refine gk_scr_ld (pc := 309) (DL_law_1.at 33 rfl) q2 ?_
  refine gk_aload_n (pc := 310) (DL_law_1.at 34 rfl) 0 rfl rfl ?_
  refine gk_iload_n (pc := 311) (DL_law_1.at 35 rfl) 3 rfl rfl ?_
  refine gk_iconst (pc := 312) (nI 3) (DL_law_1.at 36 rfl) ci_3 ?_
  refine gk_iadd (pc := 313) (DL_law_1.at 37 rfl) ?_
  obtain ⟨q3, hv⟩ := hv
  refine gk_scr_ld (pc := 314) (DL_law_1.at 38 rfl) q3 ?_
  refine gk_aload_n (pc := 315) (DL_law_1.at 39 rfl) 0 rfl rfl ?_
  refine gk_iload_n (pc := 316) (DL_law_1.at 40 rfl) 3 rfl rfl ?_
  refine gk_iconst (pc := 317) (nI 4) (DL_law_1.at 41 rfl) ci_4 ?_
  refine gk_iadd (pc := 318) (DL_law_1.at 42 rfl) ?_
  obtain ⟨q4, hv⟩ := hv
  refine gk_scr_ld (pc := 319) (DL_law_1.at 43 rfl) q4 ?_
  obtain ⟨⟨fs5, q5⟩, hv⟩ := hv
  refine gk_vV (pc := 320) [.int ((gk_scr E).2.2 (x3 + (nI 1)).toNatClampNeg), .int ((gk_scr E).2.2 (x3 + (nI 2)).toNatClampNeg), .int ((gk_scr E).2.2 (x3 + (nI 3)).toNatClampNeg), .int ((gk_scr E).2.2 (x3 + (nI 4)).toNatClampNeg)] [] (DL_law_1.at 44 rfl) cvL_27 q5 rfl rfl (Nat.le_of_ble_eq_true rfl) (Nat.le_of_ble_eq_true rfl) (gk_Run.post (fun o h5 z => ?_) hv)
  obtain ⟨v5, rfl, hv⟩ := z
  refine gk_aload_n (pc := 323) (DL_law_1.at 45 rfl) 2 rfl rfl ?_
  refine gk_aload_n (pc := 324) (DL_law_1.at 46 rfl) 0 rfl rfl ?_
  refine gk_iload_n (pc := 325) (DL_law_1.at 47 rfl) 3 rfl rfl ?_
  refine gk_iconst (pc := 326) (nI 1) (DL_law_1.at 48 rfl) ci_1 ?_
  refine gk_iadd (pc := 327) (DL_law_1.at 49 rfl) ?_
  obtain ⟨q6, hv⟩ := hv
  refine gk_scr_ld (pc := 328) (DL_law_1.at 50 rfl) q6 ?_
  refine gk_aload_n (pc := 329) (DL_law_1.at 51 rfl) 0 rfl rfl ?_
  refine gk_iload_n (pc := 330) (DL_law_1.at 52 rfl) 3 rfl rfl ?_
  refine gk_iconst (pc := 331) (nI 2) (DL_law_1.at 53 rfl) ci_2 ?_
  refine gk_iadd (pc := 332) (DL_law_1.at 54 rfl) ?_
  obtain ⟨q7, hv⟩ := hv
  refine gk_scr_ld (pc := 333) (DL_law_1.at 55 rfl) q7 ?_
  refine gk_aload_n (pc := 334) (DL_law_1.at 56 rfl) 0 rfl rfl ?_
  refine gk_iload_n (pc := 335) (DL_law_1.at 57 rfl) 3 rfl rfl ?_
  refine gk_iconst (pc := 336) (nI 3) (DL_law_1.at 58 rfl) ci_3 ?_
  refine gk_iadd (pc := 337) (DL_law_1.at 59 rfl) ?_
  obtain ⟨q8, hv⟩ := hv
  refine gk_scr_ld (pc := 338) (DL_law_2.at 0 rfl) q8 ?_
  refine gk_aload_n (pc := 339) (DL_law_2.at 1 rfl) 0 rfl rfl ?_
  refine gk_iload_n (pc := 340) (DL_law_2.at 2 rfl) 3 rfl rfl ?_
  refine gk_iconst (pc := 341) (nI 4) (DL_law_2.at 3 rfl) ci_4 ?_
  refine gk_iadd (pc := 342) (DL_law_2.at 4 rfl) ?_
  obtain ⟨q9, hv⟩ := hv
  refine gk_scr_ld (pc := 343) (DL_law_2.at 5 rfl) q9 ?_
  obtain ⟨⟨fs10, q10⟩, hv⟩ := hv
  refine gk_vV (pc := 344) [.int ((gk_scr E).2.2 (x3 + (nI 1)).toNatClampNeg), .int ((gk_scr E).2.2 (x3 + (nI 2)).toNatClampNeg), .int ((gk_scr E).2.2 (x3 + (nI 3)).toNatClampNeg), .int ((gk_scr E).2.2 (x3 + (nI 4)).toNatClampNeg)] [.int v5] (DL_law_2.at 6 rfl) cvL_31 q10 rfl rfl (Nat.le_of_ble_eq_true rfl) (Nat.le_of_ble_eq_true rfl) (gk_Run.post (fun o h10 z => ?_) hv)
  obtain ⟨v10, rfl, hv⟩ := z
  refine gk_icmp_eq (pc := 347) 1500 (DL_law_2.at 7 rfl) (by decide) (fun c => ?_) (fun c => ?_)
  · replace hv := hv.1 c
    exact gk_pick (pc := 1500) [(0, .ref 1000000), (1, .ref x1), (2, .ref x2), (3, .int x3)] [0, 1, 2, 3] rfl hv
  · replace hv := hv.2 c
    refine gk_iconst (pc := 350) (nI 0) (DL_law_2.at 8 rfl) ci_0 ?_
    exact gk_ireturn (pc := 351) .boolean (DL_law_2.at 9 rfl) rfl rfl ⟨_, rfl, hv⟩
set_option maxHeartbeats 4000000 in
theorem vL_law_352 {E : gk_E} {dd : Nat} {x1 : Nat} {x2 : Nat} {x3 : Int32}  {h : gk_H} {K : Int32 → gk_H → Prop} (hv : (vp_in (x3 + (nI 1)) (gk_scr E).2.1) ∧ ((vp_in (x3 + (nI 2)) (gk_scr E).2.1) ∧ ((vp_in (x3 + (nI 3)) (gk_scr E).2.1) ∧ ((∃ fs, h[x1]? = some (.inr (10, fs))) ∧ RnI E mX11_isIn (dd, 0, 0) [.ref x1, .int ((gk_scr E).2.2 (x3 + (nI 1)).toNatClampNeg), .int ((gk_scr E).2.2 (x3 + (nI 2)).toNatClampNeg), .int ((gk_scr E).2.2 (x3 + (nI 3)).toNatClampNeg)] h (fun v4 h4 => (vp_in (x3 + (nI 1)) (gk_scr E).2.1) ∧ ((vp_in (x3 + (nI 2)) (gk_scr E).2.1) ∧ ((vp_in (x3 + (nI 3)) (gk_scr E).2.1) ∧ ((∃ fs, h4[x2]? = some (.inr (11, fs))) ∧ RnI E mX12_isIn (dd, 0, 0) [.ref x2, .int ((gk_scr E).2.2 (x3 + (nI 1)).toNatClampNeg), .int ((gk_scr E).2.2 (x3 + (nI 2)).toNatClampNeg), .int ((gk_scr E).2.2 (x3 + (nI 3)).toNatClampNeg)] h4 (fun v8 h8 => (v4 = v8 → pL_law_1500 E dd x1 x2 x3 h8 K) ∧ (¬ v4 = v8 → K (nI 0) h8)))))))))) : pL_law_352 E dd x1 x2 x3 h K := by
  show gk_G E mL_law (dd + 1, 0, 0) 352 [(0, .ref 1000000), (1, .ref x1), (2, .ref x2), (3, .int x3)] [] h (fun o h1 => ∃ v, o = some (.int v) ∧ K v h1)
  refine gk_aload_n (pc := 352) (DL_law_2.at 10 rfl) 1 rfl rfl ?_
  refine gk_aload_n (pc := 353) (DL_law_2.at 11 rfl) 0 rfl rfl ?_
  refine gk_iload_n (pc := 354) (DL_law_2.at 12 rfl) 3 rfl rfl ?_
  refine gk_iconst (pc := 355) (nI 1) (DL_law_2.at 13 rfl) ci_1 ?_
  refine gk_iadd (pc := 356) (DL_law_2.at 14 rfl) ?_
  obtain ⟨q1, hv⟩ := hv
  refine gk_scr_ld (pc := 357) (DL_law_2.at 15 rfl) q1 ?_
  refine gk_aload_n (pc := 358) (DL_law_2.at 16 rfl) 0 rfl rfl ?_
  refine gk_iload_n (pc := 359) (DL_law_2.at 17 rfl) 3 rfl rfl ?_
  refine gk_iconst (pc := 360) (nI 2) (DL_law_2.at 18 rfl) ci_2 ?_
  refine gk_iadd (pc := 361) (DL_law_2.at 19 rfl) ?_
  obtain ⟨q2, hv⟩ := hv
  refine gk_scr_ld (pc := 362) (DL_law_2.at 20 rfl) q2 ?_
  refine gk_aload_n (pc := 363) (DL_law_2.at 21 rfl) 0 rfl rfl ?_
  refine gk_iload_n (pc := 364) (DL_law_2.at 22 rfl) 3 rfl rfl ?_
  refine gk_iconst (pc := 365) (nI 3) (DL_law_2.at 23 rfl) ci_3 ?_
  refine gk_iadd (pc := 366) (DL_law_2.at 24 rfl) ?_
  obtain ⟨q3, hv⟩ := hv
  refine gk_scr_ld (pc := 367) (DL_law_2.at 25 rfl) q3 ?_
  obtain ⟨⟨fs4, q4⟩, hv⟩ := hv
  refine gk_vV (pc := 368) [.int ((gk_scr E).2.2 (x3 + (nI 1)).toNatClampNeg), .int ((gk_scr E).2.2 (x3 + (nI 2)).toNatClampNeg), .int ((gk_scr E).2.2 (x3 + (nI 3)).toNatClampNeg)] [] (DL_law_2.at 26 rfl) cvL_32 q4 rfl rfl (Nat.le_of_ble_eq_true rfl) (Nat.le_of_ble_eq_true rfl) (gk_Run.post (fun o h4 z => ?_) hv)
  obtain ⟨v4, rfl, hv⟩ := z
  refine gk_aload_n (pc := 371) (DL_law_2.at 27 rfl) 2 rfl rfl ?_
  refine gk_aload_n (pc := 372) (DL_law_2.at 28 rfl) 0 rfl rfl ?_
  refine gk_iload_n (pc := 373) (DL_law_2.at 29 rfl) 3 rfl rfl ?_
  refine gk_iconst (pc := 374) (nI 1) (DL_law_2.at 30 rfl) ci_1 ?_
  refine gk_iadd (pc := 375) (DL_law_2.at 31 rfl) ?_
  obtain ⟨q5, hv⟩ := hv
  refine gk_scr_ld (pc := 376) (DL_law_2.at 32 rfl) q5 ?_
  refine gk_aload_n (pc := 377) (DL_law_2.at 33 rfl) 0 rfl rfl ?_
  refine gk_iload_n (pc := 378) (DL_law_2.at 34 rfl) 3 rfl rfl ?_
  refine gk_iconst (pc := 379) (nI 2) (DL_law_2.at 35 rfl) ci_2 ?_
  refine gk_iadd (pc := 380) (DL_law_2.at 36 rfl) ?_
  obtain ⟨q6, hv⟩ := hv
  refine gk_scr_ld (pc := 381) (DL_law_2.at 37 rfl) q6 ?_
  refine gk_aload_n (pc := 382) (DL_law_2.at 38 rfl) 0 rfl rfl ?_
  refine gk_iload_n (pc := 383) (DL_law_2.at 39 rfl) 3 rfl rfl ?_
  refine gk_iconst (pc := 384) (nI 3) (DL_law_2.at 40 rfl) ci_3 ?_
  refine gk_iadd (pc := 385) (DL_law_2.at 41 rfl) ?_
  obtain ⟨q7, hv⟩ := hv
  refine gk_scr_ld (pc := 386) (DL_law_2.at 42 rfl) q7 ?_
  obtain ⟨⟨fs8, q8⟩, hv⟩ := hv
  refine gk_vV (pc := 387) [.int ((gk_scr E).2.2 (x3 + (nI 1)).toNatClampNeg), .int ((gk_scr E).2.2 (x3 + (nI 2)).toNatClampNeg), .int ((gk_scr E).2.2 (x3 + (nI 3)).toNatClampNeg)] [.int v4] (DL_law_2.at 43 rfl) cvL_36 q8 rfl rfl (Nat.le_of_ble_eq_true rfl) (Nat.le_of_ble_eq_true rfl) (gk_Run.post (fun o h8 z => ?_) hv)
  obtain ⟨v8, rfl, hv⟩ := z
  refine gk_icmp_eq (pc := 390) 1500 (DL_law_2.at 44 rfl) (by decide) (fun c => ?_) (fun c => ?_)
  · replace hv := hv.1 c
    exact gk_pick (pc := 1500) [(0, .ref 1000000), (1, .ref x1), (2, .ref x2), (3, .int x3)] [0, 1, 2, 3] rfl hv
  · replace hv := hv.2 c
    refine gk_iconst (pc := 393) (nI 0) (DL_law_2.at 45 rfl) ci_0 ?_
    exact gk_ireturn (pc := 394) .boolean (DL_law_2.at 46 rfl) rfl rfl ⟨_, rfl, hv⟩
set_option maxHeartbeats 4000000 in
theorem vL_law_395 {E : gk_E} {dd : Nat} {x1 : Nat} {x2 : Nat} {x3 : Int32}  {h : gk_H} {K : Int32 → gk_H → Prop} (hv : (vp_in (x3 + (nI 1)) (gk_scr E).2.1) ∧ ((vp_in (x3 + (nI 2)) (gk_scr E).2.1) ∧ ((∃ fs, h[x1]? = some (.inr (10, fs))) ∧ RnI E mX11_compose (dd, 0, 0) [.ref x1, .int ((gk_scr E).2.2 (x3 + (nI 1)).toNatClampNeg), .int ((gk_scr E).2.2 (x3 + (nI 2)).toNatClampNeg)] h (fun v3 h3 => (vp_in (x3 + (nI 1)) (gk_scr E).2.1) ∧ ((vp_in (x3 + (nI 2)) (gk_scr E).2.1) ∧ ((∃ fs, h3[x2]? = some (.inr (11, fs))) ∧ RnI E mX12_compose (dd, 0, 0) [.ref x2, .int ((gk_scr E).2.2 (x3 + (nI 1)).toNatClampNeg), .int ((gk_scr E).2.2 (x3 + (nI 2)).toNatClampNeg)] h3 (fun v6 h6 => (v3 = v6 → pL_law_1500 E dd x1 x2 x3 h6 K) ∧ (¬ v3 = v6 → K (nI 0) h6)))))))) : pL_law_395 E dd x1 x2 x3 h K := by
  show gk_G E mL_law (dd + 1, 0, 0) 395 [(0, .ref 1000000), (1, .ref x1), (2, .ref x2), (3, .int x3)] [] h (fun o h1 => ∃ v, o = some (.int v) ∧ K v h1)
  refine gk_aload_n (pc := 395) (DL_law_2.at 47 rfl) 1 rfl rfl ?_
  refine gk_aload_n (pc := 396) (DL_law_2.at 48 rfl) 0 rfl rfl ?_
  refine gk_iload_n (pc := 397) (DL_law_2.at 49 rfl) 3 rfl rfl ?_
  refine gk_iconst (pc := 398) (nI 1) (DL_law_2.at 50 rfl) ci_1 ?_
  refine gk_iadd (pc := 399) (DL_law_2.at 51 rfl) ?_
  obtain ⟨q1, hv⟩ := hv
  refine gk_scr_ld (pc := 400) (DL_law_2.at 52 rfl) q1 ?_
  refine gk_aload_n (pc := 401) (DL_law_2.at 53 rfl) 0 rfl rfl ?_
  refine gk_iload_n (pc := 402) (DL_law_2.at 54 rfl) 3 rfl rfl ?_
  refine gk_iconst (pc := 403) (nI 2) (DL_law_2.at 55 rfl) ci_2 ?_
  refine gk_iadd (pc := 404) (DL_law_2.at 56 rfl) ?_
  obtain ⟨q2, hv⟩ := hv
  refine gk_scr_ld (pc := 405) (DL_law_2.at 57 rfl) q2 ?_
  obtain ⟨⟨fs3, q3⟩, hv⟩ := hv
  refine gk_vV (pc := 406) [.int ((gk_scr E).2.2 (x3 + (nI 1)).toNatClampNeg), .int ((gk_scr E).2.2 (x3 + (nI 2)).toNatClampNeg)] [] (DL_law_2.at 58 rfl) cvL_37 q3 rfl rfl (Nat.le_of_ble_eq_true rfl) (Nat.le_of_ble_eq_true rfl) (gk_Run.post (fun o h3 z => ?_) hv)
  obtain ⟨v3, rfl, hv⟩ := z
  refine gk_aload_n (pc := 409) (DL_law_2.at 59 rfl) 2 rfl rfl ?_
  refine gk_aload_n (pc := 410) (DL_law_3.at 0 rfl) 0 rfl rfl ?_
  refine gk_iload_n (pc := 411) (DL_law_3.at 1 rfl) 3 rfl rfl ?_
  refine gk_iconst (pc := 412) (nI 1) (DL_law_3.at 2 rfl) ci_1 ?_
  refine gk_iadd (pc := 413) (DL_law_3.at 3 rfl) ?_
  obtain ⟨q4, hv⟩ := hv
  refine gk_scr_ld (pc := 414) (DL_law_3.at 4 rfl) q4 ?_
  refine gk_aload_n (pc := 415) (DL_law_3.at 5 rfl) 0 rfl rfl ?_
  refine gk_iload_n (pc := 416) (DL_law_3.at 6 rfl) 3 rfl rfl ?_
  refine gk_iconst (pc := 417) (nI 2) (DL_law_3.at 7 rfl) ci_2 ?_
  refine gk_iadd (pc := 418) (DL_law_3.at 8 rfl) ?_
  obtain ⟨q5, hv⟩ := hv
  refine gk_scr_ld (pc := 419) (DL_law_3.at 9 rfl) q5 ?_
  obtain ⟨⟨fs6, q6⟩, hv⟩ := hv
  refine gk_vV (pc := 420) [.int ((gk_scr E).2.2 (x3 + (nI 1)).toNatClampNeg), .int ((gk_scr E).2.2 (x3 + (nI 2)).toNatClampNeg)] [.int v3] (DL_law_3.at 10 rfl) cvL_40 q6 rfl rfl (Nat.le_of_ble_eq_true rfl) (Nat.le_of_ble_eq_true rfl) (gk_Run.post (fun o h6 z => ?_) hv)
  obtain ⟨v6, rfl, hv⟩ := z
  refine gk_icmp_eq (pc := 423) 1500 (DL_law_3.at 11 rfl) (by decide) (fun c => ?_) (fun c => ?_)
  · replace hv := hv.1 c
    exact gk_pick (pc := 1500) [(0, .ref 1000000), (1, .ref x1), (2, .ref x2), (3, .int x3)] [0, 1, 2, 3] rfl hv
  · replace hv := hv.2 c
    refine gk_iconst (pc := 426) (nI 0) (DL_law_3.at 12 rfl) ci_0 ?_
    exact gk_ireturn (pc := 427) .boolean (DL_law_3.at 13 rfl) rfl rfl ⟨_, rfl, hv⟩
set_option maxHeartbeats 4000000 in
theorem vL_law_428 {E : gk_E} {dd : Nat} {x1 : Nat} {x2 : Nat} {x3 : Int32}  {h : gk_H} {K : Int32 → gk_H → Prop} (hv : (vp_in (x3 + (nI 1)) (gk_scr E).2.1) ∧ ((vp_in (x3 + (nI 2)) (gk_scr E).2.1) ∧ ((vp_in (x3 + (nI 3)) (gk_scr E).2.1) ∧ ((∃ fs, h[x1]? = some (.inr (10, fs))) ∧ RnI E mX11_over (dd, 0, 0) [.ref x1, .int ((gk_scr E).2.2 (x3 + (nI 1)).toNatClampNeg), .int ((gk_scr E).2.2 (x3 + (nI 2)).toNatClampNeg), .int ((gk_scr E).2.2 (x3 + (nI 3)).toNatClampNeg)] h (fun v4 h4 => (vp_in (x3 + (nI 1)) (gk_scr E).2.1) ∧ ((vp_in (x3 + (nI 2)) (gk_scr E).2.1) ∧ ((vp_in (x3 + (nI 3)) (gk_scr E).2.1) ∧ ((∃ fs, h4[x2]? = some (.inr (11, fs))) ∧ RnI E mX12_over (dd, 0, 0) [.ref x2, .int ((gk_scr E).2.2 (x3 + (nI 1)).toNatClampNeg), .int ((gk_scr E).2.2 (x3 + (nI 2)).toNatClampNeg), .int ((gk_scr E).2.2 (x3 + (nI 3)).toNatClampNeg)] h4 (fun v8 h8 => (v4 = v8 → pL_law_1500 E dd x1 x2 x3 h8 K) ∧ (¬ v4 = v8 → K (nI 0) h8)))))))))) : pL_law_428 E dd x1 x2 x3 h K := by
  show gk_G E mL_law (dd + 1, 0, 0) 428 [(0, .ref 1000000), (1, .ref x1), (2, .ref x2), (3, .int x3)] [] h (fun o h1 => ∃ v, o = some (.int v) ∧ K v h1)
  refine gk_aload_n (pc := 428) (DL_law_3.at 14 rfl) 1 rfl rfl ?_
  refine gk_aload_n (pc := 429) (DL_law_3.at 15 rfl) 0 rfl rfl ?_
  refine gk_iload_n (pc := 430) (DL_law_3.at 16 rfl) 3 rfl rfl ?_
  refine gk_iconst (pc := 431) (nI 1) (DL_law_3.at 17 rfl) ci_1 ?_
  refine gk_iadd (pc := 432) (DL_law_3.at 18 rfl) ?_
  obtain ⟨q1, hv⟩ := hv
  refine gk_scr_ld (pc := 433) (DL_law_3.at 19 rfl) q1 ?_
  refine gk_aload_n (pc := 434) (DL_law_3.at 20 rfl) 0 rfl rfl ?_
  refine gk_iload_n (pc := 435) (DL_law_3.at 21 rfl) 3 rfl rfl ?_
  refine gk_iconst (pc := 436) (nI 2) (DL_law_3.at 22 rfl) ci_2 ?_
  refine gk_iadd (pc := 437) (DL_law_3.at 23 rfl) ?_
  obtain ⟨q2, hv⟩ := hv
  refine gk_scr_ld (pc := 438) (DL_law_3.at 24 rfl) q2 ?_
  refine gk_aload_n (pc := 439) (DL_law_3.at 25 rfl) 0 rfl rfl ?_
  refine gk_iload_n (pc := 440) (DL_law_3.at 26 rfl) 3 rfl rfl ?_
  refine gk_iconst (pc := 441) (nI 3) (DL_law_3.at 27 rfl) ci_3 ?_
  refine gk_iadd (pc := 442) (DL_law_3.at 28 rfl) ?_
  obtain ⟨q3, hv⟩ := hv
  refine gk_scr_ld (pc := 443) (DL_law_3.at 29 rfl) q3 ?_
  obtain ⟨⟨fs4, q4⟩, hv⟩ := hv
  refine gk_vV (pc := 444) [.int ((gk_scr E).2.2 (x3 + (nI 1)).toNatClampNeg), .int ((gk_scr E).2.2 (x3 + (nI 2)).toNatClampNeg), .int ((gk_scr E).2.2 (x3 + (nI 3)).toNatClampNeg)] [] (DL_law_3.at 30 rfl) cvL_41 q4 rfl rfl (Nat.le_of_ble_eq_true rfl) (Nat.le_of_ble_eq_true rfl) (gk_Run.post (fun o h4 z => ?_) hv)
  obtain ⟨v4, rfl, hv⟩ := z
  refine gk_aload_n (pc := 447) (DL_law_3.at 31 rfl) 2 rfl rfl ?_
  refine gk_aload_n (pc := 448) (DL_law_3.at 32 rfl) 0 rfl rfl ?_
  refine gk_iload_n (pc := 449) (DL_law_3.at 33 rfl) 3 rfl rfl ?_
  refine gk_iconst (pc := 450) (nI 1) (DL_law_3.at 34 rfl) ci_1 ?_
  refine gk_iadd (pc := 451) (DL_law_3.at 35 rfl) ?_
  obtain ⟨q5, hv⟩ := hv
  refine gk_scr_ld (pc := 452) (DL_law_3.at 36 rfl) q5 ?_
  refine gk_aload_n (pc := 453) (DL_law_3.at 37 rfl) 0 rfl rfl ?_
  refine gk_iload_n (pc := 454) (DL_law_3.at 38 rfl) 3 rfl rfl ?_
  refine gk_iconst (pc := 455) (nI 2) (DL_law_3.at 39 rfl) ci_2 ?_
  refine gk_iadd (pc := 456) (DL_law_3.at 40 rfl) ?_
  obtain ⟨q6, hv⟩ := hv
  refine gk_scr_ld (pc := 457) (DL_law_3.at 41 rfl) q6 ?_
  refine gk_aload_n (pc := 458) (DL_law_3.at 42 rfl) 0 rfl rfl ?_
  refine gk_iload_n (pc := 459) (DL_law_3.at 43 rfl) 3 rfl rfl ?_
  refine gk_iconst (pc := 460) (nI 3) (DL_law_3.at 44 rfl) ci_3 ?_
  refine gk_iadd (pc := 461) (DL_law_3.at 45 rfl) ?_
  obtain ⟨q7, hv⟩ := hv
  refine gk_scr_ld (pc := 462) (DL_law_3.at 46 rfl) q7 ?_
  obtain ⟨⟨fs8, q8⟩, hv⟩ := hv
  refine gk_vV (pc := 463) [.int ((gk_scr E).2.2 (x3 + (nI 1)).toNatClampNeg), .int ((gk_scr E).2.2 (x3 + (nI 2)).toNatClampNeg), .int ((gk_scr E).2.2 (x3 + (nI 3)).toNatClampNeg)] [.int v4] (DL_law_3.at 47 rfl) cvL_44 q8 rfl rfl (Nat.le_of_ble_eq_true rfl) (Nat.le_of_ble_eq_true rfl) (gk_Run.post (fun o h8 z => ?_) hv)
  obtain ⟨v8, rfl, hv⟩ := z
  refine gk_icmp_eq (pc := 466) 1500 (DL_law_3.at 48 rfl) (by decide) (fun c => ?_) (fun c => ?_)
  · replace hv := hv.1 c
    exact gk_pick (pc := 1500) [(0, .ref 1000000), (1, .ref x1), (2, .ref x2), (3, .int x3)] [0, 1, 2, 3] rfl hv
  · replace hv := hv.2 c
    refine gk_iconst (pc := 469) (nI 0) (DL_law_3.at 49 rfl) ci_0 ?_
    exact gk_ireturn (pc := 470) .boolean (DL_law_3.at 50 rfl) rfl rfl ⟨_, rfl, hv⟩
set_option maxHeartbeats 4000000 in
theorem vL_law_471 {E : gk_E} {dd : Nat} {x1 : Nat} {x2 : Nat} {x3 : Int32}  {h : gk_H} {K : Int32 → gk_H → Prop} (hv : (vp_in (x3 + (nI 1)) (gk_scr E).2.1) ∧ ((vp_in (x3 + (nI 2)) (gk_scr E).2.1) ∧ ((∃ fs, h[x1]? = some (.inr (10, fs))) ∧ RnI E mX11_power (dd, 0, 0) [.ref x1, .int ((gk_scr E).2.2 (x3 + (nI 1)).toNatClampNeg), .int ((gk_scr E).2.2 (x3 + (nI 2)).toNatClampNeg)] h (fun v3 h3 => (vp_in (x3 + (nI 1)) (gk_scr E).2.1) ∧ ((vp_in (x3 + (nI 2)) (gk_scr E).2.1) ∧ ((∃ fs, h3[x2]? = some (.inr (11, fs))) ∧ RnI E mX12_power (dd, 0, 0) [.ref x2, .int ((gk_scr E).2.2 (x3 + (nI 1)).toNatClampNeg), .int ((gk_scr E).2.2 (x3 + (nI 2)).toNatClampNeg)] h3 (fun v6 h6 => (v3 = v6 → pL_law_1500 E dd x1 x2 x3 h6 K) ∧ (¬ v3 = v6 → K (nI 0) h6)))))))) : pL_law_471 E dd x1 x2 x3 h K := by
  show gk_G E mL_law (dd + 1, 0, 0) 471 [(0, .ref 1000000), (1, .ref x1), (2, .ref x2), (3, .int x3)] [] h (fun o h1 => ∃ v, o = some (.int v) ∧ K v h1)
  refine gk_aload_n (pc := 471) (DL_law_3.at 51 rfl) 1 rfl rfl ?_
  refine gk_aload_n (pc := 472) (DL_law_3.at 52 rfl) 0 rfl rfl ?_
  refine gk_iload_n (pc := 473) (DL_law_3.at 53 rfl) 3 rfl rfl ?_
  refine gk_iconst (pc := 474) (nI 1) (DL_law_3.at 54 rfl) ci_1 ?_
  refine gk_iadd (pc := 475) (DL_law_3.at 55 rfl) ?_
  obtain ⟨q1, hv⟩ := hv
  refine gk_scr_ld (pc := 476) (DL_law_3.at 56 rfl) q1 ?_
  refine gk_aload_n (pc := 477) (DL_law_3.at 57 rfl) 0 rfl rfl ?_
  refine gk_iload_n (pc := 478) (DL_law_3.at 58 rfl) 3 rfl rfl ?_
  refine gk_iconst (pc := 479) (nI 2) (DL_law_3.at 59 rfl) ci_2 ?_
  refine gk_iadd (pc := 480) (DL_law_4.at 0 rfl) ?_
  obtain ⟨q2, hv⟩ := hv
  refine gk_scr_ld (pc := 481) (DL_law_4.at 1 rfl) q2 ?_
  obtain ⟨⟨fs3, q3⟩, hv⟩ := hv
  refine gk_vV (pc := 482) [.int ((gk_scr E).2.2 (x3 + (nI 1)).toNatClampNeg), .int ((gk_scr E).2.2 (x3 + (nI 2)).toNatClampNeg)] [] (DL_law_4.at 2 rfl) cvL_45 q3 rfl rfl (Nat.le_of_ble_eq_true rfl) (Nat.le_of_ble_eq_true rfl) (gk_Run.post (fun o h3 z => ?_) hv)
  obtain ⟨v3, rfl, hv⟩ := z
  refine gk_aload_n (pc := 485) (DL_law_4.at 3 rfl) 2 rfl rfl ?_
  refine gk_aload_n (pc := 486) (DL_law_4.at 4 rfl) 0 rfl rfl ?_
  refine gk_iload_n (pc := 487) (DL_law_4.at 5 rfl) 3 rfl rfl ?_
  refine gk_iconst (pc := 488) (nI 1) (DL_law_4.at 6 rfl) ci_1 ?_
  refine gk_iadd (pc := 489) (DL_law_4.at 7 rfl) ?_
  obtain ⟨q4, hv⟩ := hv
  refine gk_scr_ld (pc := 490) (DL_law_4.at 8 rfl) q4 ?_
  refine gk_aload_n (pc := 491) (DL_law_4.at 9 rfl) 0 rfl rfl ?_
  refine gk_iload_n (pc := 492) (DL_law_4.at 10 rfl) 3 rfl rfl ?_
  refine gk_iconst (pc := 493) (nI 2) (DL_law_4.at 11 rfl) ci_2 ?_
  refine gk_iadd (pc := 494) (DL_law_4.at 12 rfl) ?_
  obtain ⟨q5, hv⟩ := hv
  refine gk_scr_ld (pc := 495) (DL_law_4.at 13 rfl) q5 ?_
  obtain ⟨⟨fs6, q6⟩, hv⟩ := hv
  refine gk_vV (pc := 496) [.int ((gk_scr E).2.2 (x3 + (nI 1)).toNatClampNeg), .int ((gk_scr E).2.2 (x3 + (nI 2)).toNatClampNeg)] [.int v3] (DL_law_4.at 14 rfl) cvL_48 q6 rfl rfl (Nat.le_of_ble_eq_true rfl) (Nat.le_of_ble_eq_true rfl) (gk_Run.post (fun o h6 z => ?_) hv)
  obtain ⟨v6, rfl, hv⟩ := z
  refine gk_icmp_eq (pc := 499) 1500 (DL_law_4.at 15 rfl) (by decide) (fun c => ?_) (fun c => ?_)
  · replace hv := hv.1 c
    exact gk_pick (pc := 1500) [(0, .ref 1000000), (1, .ref x1), (2, .ref x2), (3, .int x3)] [0, 1, 2, 3] rfl hv
  · replace hv := hv.2 c
    refine gk_iconst (pc := 502) (nI 0) (DL_law_4.at 16 rfl) ci_0 ?_
    exact gk_ireturn (pc := 503) .boolean (DL_law_4.at 17 rfl) rfl rfl ⟨_, rfl, hv⟩
set_option maxHeartbeats 4000000 in
theorem vL_law_504 {E : gk_E} {dd : Nat} {x1 : Nat} {x2 : Nat} {x3 : Int32}  {h : gk_H} {K : Int32 → gk_H → Prop} (hv : (vp_in (x3 + (nI 1)) (gk_scr E).2.1) ∧ ((∃ fs, h[x1]? = some (.inr (10, fs))) ∧ RnI E mX11_equivalence (dd, 0, 0) [.ref x1, .int ((gk_scr E).2.2 (x3 + (nI 1)).toNatClampNeg)] h (fun v2 h2 => (vp_in (x3 + (nI 1)) (gk_scr E).2.1) ∧ ((∃ fs, h2[x2]? = some (.inr (11, fs))) ∧ RnI E mX12_equivalence (dd, 0, 0) [.ref x2, .int ((gk_scr E).2.2 (x3 + (nI 1)).toNatClampNeg)] h2 (fun v4 h4 => (v2 = v4 → pL_law_1500 E dd x1 x2 x3 h4 K) ∧ (¬ v2 = v4 → K (nI 0) h4)))))) : pL_law_504 E dd x1 x2 x3 h K := by
  show gk_G E mL_law (dd + 1, 0, 0) 504 [(0, .ref 1000000), (1, .ref x1), (2, .ref x2), (3, .int x3)] [] h (fun o h1 => ∃ v, o = some (.int v) ∧ K v h1)
  refine gk_aload_n (pc := 504) (DL_law_4.at 18 rfl) 1 rfl rfl ?_
  refine gk_aload_n (pc := 505) (DL_law_4.at 19 rfl) 0 rfl rfl ?_
  refine gk_iload_n (pc := 506) (DL_law_4.at 20 rfl) 3 rfl rfl ?_
  refine gk_iconst (pc := 507) (nI 1) (DL_law_4.at 21 rfl) ci_1 ?_
  refine gk_iadd (pc := 508) (DL_law_4.at 22 rfl) ?_
  obtain ⟨q1, hv⟩ := hv
  refine gk_scr_ld (pc := 509) (DL_law_4.at 23 rfl) q1 ?_
  obtain ⟨⟨fs2, q2⟩, hv⟩ := hv
  refine gk_vV (pc := 510) [.int ((gk_scr E).2.2 (x3 + (nI 1)).toNatClampNeg)] [] (DL_law_4.at 24 rfl) cvL_49 q2 rfl rfl (Nat.le_of_ble_eq_true rfl) (Nat.le_of_ble_eq_true rfl) (gk_Run.post (fun o h2 z => ?_) hv)
  obtain ⟨v2, rfl, hv⟩ := z
  refine gk_aload_n (pc := 513) (DL_law_4.at 25 rfl) 2 rfl rfl ?_
  refine gk_aload_n (pc := 514) (DL_law_4.at 26 rfl) 0 rfl rfl ?_
  refine gk_iload_n (pc := 515) (DL_law_4.at 27 rfl) 3 rfl rfl ?_
  refine gk_iconst (pc := 516) (nI 1) (DL_law_4.at 28 rfl) ci_1 ?_
  refine gk_iadd (pc := 517) (DL_law_4.at 29 rfl) ?_
  obtain ⟨q3, hv⟩ := hv
  refine gk_scr_ld (pc := 518) (DL_law_4.at 30 rfl) q3 ?_
  obtain ⟨⟨fs4, q4⟩, hv⟩ := hv
  refine gk_vV (pc := 519) [.int ((gk_scr E).2.2 (x3 + (nI 1)).toNatClampNeg)] [.int v2] (DL_law_4.at 31 rfl) cvL_52 q4 rfl rfl (Nat.le_of_ble_eq_true rfl) (Nat.le_of_ble_eq_true rfl) (gk_Run.post (fun o h4 z => ?_) hv)
  obtain ⟨v4, rfl, hv⟩ := z
  refine gk_icmp_eq (pc := 522) 1500 (DL_law_4.at 32 rfl) (by decide) (fun c => ?_) (fun c => ?_)
  · replace hv := hv.1 c
    exact gk_pick (pc := 1500) [(0, .ref 1000000), (1, .ref x1), (2, .ref x2), (3, .int x3)] [0, 1, 2, 3] rfl hv
  · replace hv := hv.2 c
    refine gk_iconst (pc := 525) (nI 0) (DL_law_4.at 33 rfl) ci_0 ?_
    exact gk_ireturn (pc := 526) .boolean (DL_law_4.at 34 rfl) rfl rfl ⟨_, rfl, hv⟩
set_option maxHeartbeats 4000000 in
theorem vL_law_527 {E : gk_E} {dd : Nat} {x1 : Nat} {x2 : Nat} {x3 : Int32}  {h : gk_H} {K : Int32 → gk_H → Prop} (hv : (vp_in (x3 + (nI 1)) (gk_scr E).2.1) ∧ ((vp_in (x3 + (nI 2)) (gk_scr E).2.1) ∧ ((vp_in (x3 + (nI 3)) (gk_scr E).2.1) ∧ ((vp_in (x3 + (nI 4)) (gk_scr E).2.1) ∧ ((∃ fs, h[x1]? = some (.inr (10, fs))) ∧ RnI E mX11_solved (dd, 0, 0) [.ref x1, .int ((gk_scr E).2.2 (x3 + (nI 1)).toNatClampNeg), .int ((gk_scr E).2.2 (x3 + (nI 2)).toNatClampNeg), .int ((gk_scr E).2.2 (x3 + (nI 3)).toNatClampNeg), .int ((gk_scr E).2.2 (x3 + (nI 4)).toNatClampNeg)] h (fun v5 h5 => (vp_in (x3 + (nI 1)) (gk_scr E).2.1) ∧ ((vp_in (x3 + (nI 2)) (gk_scr E).2.1) ∧ ((vp_in (x3 + (nI 3)) (gk_scr E).2.1) ∧ ((vp_in (x3 + (nI 4)) (gk_scr E).2.1) ∧ ((∃ fs, h5[x2]? = some (.inr (11, fs))) ∧ RnI E mX12_solved (dd, 0, 0) [.ref x2, .int ((gk_scr E).2.2 (x3 + (nI 1)).toNatClampNeg), .int ((gk_scr E).2.2 (x3 + (nI 2)).toNatClampNeg), .int ((gk_scr E).2.2 (x3 + (nI 3)).toNatClampNeg), .int ((gk_scr E).2.2 (x3 + (nI 4)).toNatClampNeg)] h5 (fun v10 h10 => (v5 = v10 → pL_law_1500 E dd x1 x2 x3 h10 K) ∧ (¬ v5 = v10 → K (nI 0) h10)))))))))))) : pL_law_527 E dd x1 x2 x3 h K := by
  show gk_G E mL_law (dd + 1, 0, 0) 527 [(0, .ref 1000000), (1, .ref x1), (2, .ref x2), (3, .int x3)] [] h (fun o h1 => ∃ v, o = some (.int v) ∧ K v h1)
  refine gk_aload_n (pc := 527) (DL_law_4.at 35 rfl) 1 rfl rfl ?_
  refine gk_aload_n (pc := 528) (DL_law_4.at 36 rfl) 0 rfl rfl ?_
  refine gk_iload_n (pc := 529) (DL_law_4.at 37 rfl) 3 rfl rfl ?_
  refine gk_iconst (pc := 530) (nI 1) (DL_law_4.at 38 rfl) ci_1 ?_
  refine gk_iadd (pc := 531) (DL_law_4.at 39 rfl) ?_
  obtain ⟨q1, hv⟩ := hv
  refine gk_scr_ld (pc := 532) (DL_law_4.at 40 rfl) q1 ?_
  refine gk_aload_n (pc := 533) (DL_law_4.at 41 rfl) 0 rfl rfl ?_
  refine gk_iload_n (pc := 534) (DL_law_4.at 42 rfl) 3 rfl rfl ?_
  refine gk_iconst (pc := 535) (nI 2) (DL_law_4.at 43 rfl) ci_2 ?_
  refine gk_iadd (pc := 536) (DL_law_4.at 44 rfl) ?_
  obtain ⟨q2, hv⟩ := hv
  refine gk_scr_ld (pc := 537) (DL_law_4.at 45 rfl) q2 ?_
  refine gk_aload_n (pc := 538) (DL_law_4.at 46 rfl) 0 rfl rfl ?_
  refine gk_iload_n (pc := 539) (DL_law_4.at 47 rfl) 3 rfl rfl ?_
  refine gk_iconst (pc := 540) (nI 3) (DL_law_4.at 48 rfl) ci_3 ?_
  refine gk_iadd (pc := 541) (DL_law_4.at 49 rfl) ?_
  obtain ⟨q3, hv⟩ := hv
  refine gk_scr_ld (pc := 542) (DL_law_4.at 50 rfl) q3 ?_
  refine gk_aload_n (pc := 543) (DL_law_4.at 51 rfl) 0 rfl rfl ?_
  refine gk_iload_n (pc := 544) (DL_law_4.at 52 rfl) 3 rfl rfl ?_
  refine gk_iconst (pc := 545) (nI 4) (DL_law_4.at 53 rfl) ci_4 ?_
  refine gk_iadd (pc := 546) (DL_law_4.at 54 rfl) ?_
  obtain ⟨q4, hv⟩ := hv
  refine gk_scr_ld (pc := 547) (DL_law_4.at 55 rfl) q4 ?_
  obtain ⟨⟨fs5, q5⟩, hv⟩ := hv
  refine gk_vV (pc := 548) [.int ((gk_scr E).2.2 (x3 + (nI 1)).toNatClampNeg), .int ((gk_scr E).2.2 (x3 + (nI 2)).toNatClampNeg), .int ((gk_scr E).2.2 (x3 + (nI 3)).toNatClampNeg), .int ((gk_scr E).2.2 (x3 + (nI 4)).toNatClampNeg)] [] (DL_law_4.at 56 rfl) cvL_53 q5 rfl rfl (Nat.le_of_ble_eq_true rfl) (Nat.le_of_ble_eq_true rfl) (gk_Run.post (fun o h5 z => ?_) hv)
  obtain ⟨v5, rfl, hv⟩ := z
  refine gk_aload_n (pc := 551) (DL_law_4.at 57 rfl) 2 rfl rfl ?_
  refine gk_aload_n (pc := 552) (DL_law_4.at 58 rfl) 0 rfl rfl ?_
  refine gk_iload_n (pc := 553) (DL_law_4.at 59 rfl) 3 rfl rfl ?_
  refine gk_iconst (pc := 554) (nI 1) (DL_law_5.at 0 rfl) ci_1 ?_
  refine gk_iadd (pc := 555) (DL_law_5.at 1 rfl) ?_
  obtain ⟨q6, hv⟩ := hv
  refine gk_scr_ld (pc := 556) (DL_law_5.at 2 rfl) q6 ?_
  refine gk_aload_n (pc := 557) (DL_law_5.at 3 rfl) 0 rfl rfl ?_
  refine gk_iload_n (pc := 558) (DL_law_5.at 4 rfl) 3 rfl rfl ?_
  refine gk_iconst (pc := 559) (nI 2) (DL_law_5.at 5 rfl) ci_2 ?_
  refine gk_iadd (pc := 560) (DL_law_5.at 6 rfl) ?_
  obtain ⟨q7, hv⟩ := hv
  refine gk_scr_ld (pc := 561) (DL_law_5.at 7 rfl) q7 ?_
  refine gk_aload_n (pc := 562) (DL_law_5.at 8 rfl) 0 rfl rfl ?_
  refine gk_iload_n (pc := 563) (DL_law_5.at 9 rfl) 3 rfl rfl ?_
  refine gk_iconst (pc := 564) (nI 3) (DL_law_5.at 10 rfl) ci_3 ?_
  refine gk_iadd (pc := 565) (DL_law_5.at 11 rfl) ?_
  obtain ⟨q8, hv⟩ := hv
  refine gk_scr_ld (pc := 566) (DL_law_5.at 12 rfl) q8 ?_
  refine gk_aload_n (pc := 567) (DL_law_5.at 13 rfl) 0 rfl rfl ?_
  refine gk_iload_n (pc := 568) (DL_law_5.at 14 rfl) 3 rfl rfl ?_
  refine gk_iconst (pc := 569) (nI 4) (DL_law_5.at 15 rfl) ci_4 ?_
  refine gk_iadd (pc := 570) (DL_law_5.at 16 rfl) ?_
  obtain ⟨q9, hv⟩ := hv
  refine gk_scr_ld (pc := 571) (DL_law_5.at 17 rfl) q9 ?_
  obtain ⟨⟨fs10, q10⟩, hv⟩ := hv
  refine gk_vV (pc := 572) [.int ((gk_scr E).2.2 (x3 + (nI 1)).toNatClampNeg), .int ((gk_scr E).2.2 (x3 + (nI 2)).toNatClampNeg), .int ((gk_scr E).2.2 (x3 + (nI 3)).toNatClampNeg), .int ((gk_scr E).2.2 (x3 + (nI 4)).toNatClampNeg)] [.int v5] (DL_law_5.at 18 rfl) cvL_56 q10 rfl rfl (Nat.le_of_ble_eq_true rfl) (Nat.le_of_ble_eq_true rfl) (gk_Run.post (fun o h10 z => ?_) hv)
  obtain ⟨v10, rfl, hv⟩ := z
  refine gk_icmp_eq (pc := 575) 1500 (DL_law_5.at 19 rfl) (by decide) (fun c => ?_) (fun c => ?_)
  · replace hv := hv.1 c
    exact gk_pick (pc := 1500) [(0, .ref 1000000), (1, .ref x1), (2, .ref x2), (3, .int x3)] [0, 1, 2, 3] rfl hv
  · replace hv := hv.2 c
    refine gk_iconst (pc := 578) (nI 0) (DL_law_5.at 20 rfl) ci_0 ?_
    exact gk_ireturn (pc := 579) .boolean (DL_law_5.at 21 rfl) rfl rfl ⟨_, rfl, hv⟩
set_option maxHeartbeats 4000000 in
theorem vL_law_580 {E : gk_E} {dd : Nat} {x1 : Nat} {x2 : Nat} {x3 : Int32}  {h : gk_H} {K : Int32 → gk_H → Prop} (hv : (vp_in (x3 + (nI 1)) (gk_scr E).2.1) ∧ ((∃ fs, h[x1]? = some (.inr (10, fs))) ∧ RnI E mX11_broken (dd, 0, 0) [.ref x1, .int ((gk_scr E).2.2 (x3 + (nI 1)).toNatClampNeg)] h (fun v2 h2 => (vp_in (x3 + (nI 1)) (gk_scr E).2.1) ∧ ((∃ fs, h2[x2]? = some (.inr (11, fs))) ∧ RnI E mX12_broken (dd, 0, 0) [.ref x2, .int ((gk_scr E).2.2 (x3 + (nI 1)).toNatClampNeg)] h2 (fun v4 h4 => (v2 = v4 → pL_law_1500 E dd x1 x2 x3 h4 K) ∧ (¬ v2 = v4 → K (nI 0) h4)))))) : pL_law_580 E dd x1 x2 x3 h K := by
  show gk_G E mL_law (dd + 1, 0, 0) 580 [(0, .ref 1000000), (1, .ref x1), (2, .ref x2), (3, .int x3)] [] h (fun o h1 => ∃ v, o = some (.int v) ∧ K v h1)
  refine gk_aload_n (pc := 580) (DL_law_5.at 22 rfl) 1 rfl rfl ?_
  refine gk_aload_n (pc := 581) (DL_law_5.at 23 rfl) 0 rfl rfl ?_
  refine gk_iload_n (pc := 582) (DL_law_5.at 24 rfl) 3 rfl rfl ?_
  refine gk_iconst (pc := 583) (nI 1) (DL_law_5.at 25 rfl) ci_1 ?_
  refine gk_iadd (pc := 584) (DL_law_5.at 26 rfl) ?_
  obtain ⟨q1, hv⟩ := hv
  refine gk_scr_ld (pc := 585) (DL_law_5.at 27 rfl) q1 ?_
  obtain ⟨⟨fs2, q2⟩, hv⟩ := hv
  refine gk_vV (pc := 586) [.int ((gk_scr E).2.2 (x3 + (nI 1)).toNatClampNeg)] [] (DL_law_5.at 28 rfl) cvL_57 q2 rfl rfl (Nat.le_of_ble_eq_true rfl) (Nat.le_of_ble_eq_true rfl) (gk_Run.post (fun o h2 z => ?_) hv)
  obtain ⟨v2, rfl, hv⟩ := z
  refine gk_aload_n (pc := 589) (DL_law_5.at 29 rfl) 2 rfl rfl ?_
  refine gk_aload_n (pc := 590) (DL_law_5.at 30 rfl) 0 rfl rfl ?_
  refine gk_iload_n (pc := 591) (DL_law_5.at 31 rfl) 3 rfl rfl ?_
  refine gk_iconst (pc := 592) (nI 1) (DL_law_5.at 32 rfl) ci_1 ?_
  refine gk_iadd (pc := 593) (DL_law_5.at 33 rfl) ?_
  obtain ⟨q3, hv⟩ := hv
  refine gk_scr_ld (pc := 594) (DL_law_5.at 34 rfl) q3 ?_
  obtain ⟨⟨fs4, q4⟩, hv⟩ := hv
  refine gk_vV (pc := 595) [.int ((gk_scr E).2.2 (x3 + (nI 1)).toNatClampNeg)] [.int v2] (DL_law_5.at 35 rfl) cvL_60 q4 rfl rfl (Nat.le_of_ble_eq_true rfl) (Nat.le_of_ble_eq_true rfl) (gk_Run.post (fun o h4 z => ?_) hv)
  obtain ⟨v4, rfl, hv⟩ := z
  refine gk_icmp_eq (pc := 598) 1500 (DL_law_5.at 36 rfl) (by decide) (fun c => ?_) (fun c => ?_)
  · replace hv := hv.1 c
    exact gk_pick (pc := 1500) [(0, .ref 1000000), (1, .ref x1), (2, .ref x2), (3, .int x3)] [0, 1, 2, 3] rfl hv
  · replace hv := hv.2 c
    refine gk_iconst (pc := 601) (nI 0) (DL_law_5.at 37 rfl) ci_0 ?_
    exact gk_ireturn (pc := 602) .boolean (DL_law_5.at 38 rfl) rfl rfl ⟨_, rfl, hv⟩
set_option maxHeartbeats 4000000 in
theorem vL_law_603 {E : gk_E} {dd : Nat} {x1 : Nat} {x2 : Nat} {x3 : Int32}  {h : gk_H} {K : Int32 → gk_H → Prop} (hv : (vp_in (x3 + (nI 1)) (gk_scr E).2.1) ∧ ((∃ fs, h[x1]? = some (.inr (10, fs))) ∧ RnI E mX11_cycles (dd, 0, 0) [.ref x1, .int ((gk_scr E).2.2 (x3 + (nI 1)).toNatClampNeg)] h (fun v2 h2 => (vp_in (x3 + (nI 1)) (gk_scr E).2.1) ∧ ((∃ fs, h2[x2]? = some (.inr (11, fs))) ∧ RnI E mX12_cycles (dd, 0, 0) [.ref x2, .int ((gk_scr E).2.2 (x3 + (nI 1)).toNatClampNeg)] h2 (fun v4 h4 => (v2 = v4 → pL_law_1500 E dd x1 x2 x3 h4 K) ∧ (¬ v2 = v4 → K (nI 0) h4)))))) : pL_law_603 E dd x1 x2 x3 h K := by
  show gk_G E mL_law (dd + 1, 0, 0) 603 [(0, .ref 1000000), (1, .ref x1), (2, .ref x2), (3, .int x3)] [] h (fun o h1 => ∃ v, o = some (.int v) ∧ K v h1)
  refine gk_aload_n (pc := 603) (DL_law_5.at 39 rfl) 1 rfl rfl ?_
  refine gk_aload_n (pc := 604) (DL_law_5.at 40 rfl) 0 rfl rfl ?_
  refine gk_iload_n (pc := 605) (DL_law_5.at 41 rfl) 3 rfl rfl ?_
  refine gk_iconst (pc := 606) (nI 1) (DL_law_5.at 42 rfl) ci_1 ?_
  refine gk_iadd (pc := 607) (DL_law_5.at 43 rfl) ?_
  obtain ⟨q1, hv⟩ := hv
  refine gk_scr_ld (pc := 608) (DL_law_5.at 44 rfl) q1 ?_
  obtain ⟨⟨fs2, q2⟩, hv⟩ := hv
  refine gk_vV (pc := 609) [.int ((gk_scr E).2.2 (x3 + (nI 1)).toNatClampNeg)] [] (DL_law_5.at 45 rfl) cvL_61 q2 rfl rfl (Nat.le_of_ble_eq_true rfl) (Nat.le_of_ble_eq_true rfl) (gk_Run.post (fun o h2 z => ?_) hv)
  obtain ⟨v2, rfl, hv⟩ := z
  refine gk_aload_n (pc := 612) (DL_law_5.at 46 rfl) 2 rfl rfl ?_
  refine gk_aload_n (pc := 613) (DL_law_5.at 47 rfl) 0 rfl rfl ?_
  refine gk_iload_n (pc := 614) (DL_law_5.at 48 rfl) 3 rfl rfl ?_
  refine gk_iconst (pc := 615) (nI 1) (DL_law_5.at 49 rfl) ci_1 ?_
  refine gk_iadd (pc := 616) (DL_law_5.at 50 rfl) ?_
  obtain ⟨q3, hv⟩ := hv
  refine gk_scr_ld (pc := 617) (DL_law_5.at 51 rfl) q3 ?_
  obtain ⟨⟨fs4, q4⟩, hv⟩ := hv
  refine gk_vV (pc := 618) [.int ((gk_scr E).2.2 (x3 + (nI 1)).toNatClampNeg)] [.int v2] (DL_law_5.at 52 rfl) cvL_64 q4 rfl rfl (Nat.le_of_ble_eq_true rfl) (Nat.le_of_ble_eq_true rfl) (gk_Run.post (fun o h4 z => ?_) hv)
  obtain ⟨v4, rfl, hv⟩ := z
  refine gk_icmp_eq (pc := 621) 1500 (DL_law_5.at 53 rfl) (by decide) (fun c => ?_) (fun c => ?_)
  · replace hv := hv.1 c
    exact gk_pick (pc := 1500) [(0, .ref 1000000), (1, .ref x1), (2, .ref x2), (3, .int x3)] [0, 1, 2, 3] rfl hv
  · replace hv := hv.2 c
    refine gk_iconst (pc := 624) (nI 0) (DL_law_5.at 54 rfl) ci_0 ?_
    exact gk_ireturn (pc := 625) .boolean (DL_law_5.at 55 rfl) rfl rfl ⟨_, rfl, hv⟩
set_option maxHeartbeats 4000000 in
theorem vL_law_626 {E : gk_E} {dd : Nat} {x1 : Nat} {x2 : Nat} {x3 : Int32}  {h : gk_H} {K : Int32 → gk_H → Prop} (hv : (vp_in (x3 + (nI 1)) (gk_scr E).2.1) ∧ ((vp_in (x3 + (nI 2)) (gk_scr E).2.1) ∧ ((∃ fs, h[x1]? = some (.inr (10, fs))) ∧ RnI E mX11_node (dd, 0, 0) [.ref x1, .int ((gk_scr E).2.2 (x3 + (nI 1)).toNatClampNeg), .int ((gk_scr E).2.2 (x3 + (nI 2)).toNatClampNeg)] h (fun v3 h3 => (vp_in (x3 + (nI 1)) (gk_scr E).2.1) ∧ ((vp_in (x3 + (nI 2)) (gk_scr E).2.1) ∧ ((∃ fs, h3[x2]? = some (.inr (11, fs))) ∧ RnI E mX12_node (dd, 0, 0) [.ref x2, .int ((gk_scr E).2.2 (x3 + (nI 1)).toNatClampNeg), .int ((gk_scr E).2.2 (x3 + (nI 2)).toNatClampNeg)] h3 (fun v6 h6 => (v3 = v6 → pL_law_1500 E dd x1 x2 x3 h6 K) ∧ (¬ v3 = v6 → K (nI 0) h6)))))))) : pL_law_626 E dd x1 x2 x3 h K := by
  show gk_G E mL_law (dd + 1, 0, 0) 626 [(0, .ref 1000000), (1, .ref x1), (2, .ref x2), (3, .int x3)] [] h (fun o h1 => ∃ v, o = some (.int v) ∧ K v h1)
  refine gk_aload_n (pc := 626) (DL_law_5.at 56 rfl) 1 rfl rfl ?_
  refine gk_aload_n (pc := 627) (DL_law_5.at 57 rfl) 0 rfl rfl ?_
  refine gk_iload_n (pc := 628) (DL_law_5.at 58 rfl) 3 rfl rfl ?_
  refine gk_iconst (pc := 629) (nI 1) (DL_law_5.at 59 rfl) ci_1 ?_
  refine gk_iadd (pc := 630) (DL_law_6.at 0 rfl) ?_
  obtain ⟨q1, hv⟩ := hv
  refine gk_scr_ld (pc := 631) (DL_law_6.at 1 rfl) q1 ?_
  refine gk_aload_n (pc := 632) (DL_law_6.at 2 rfl) 0 rfl rfl ?_
  refine gk_iload_n (pc := 633) (DL_law_6.at 3 rfl) 3 rfl rfl ?_
  refine gk_iconst (pc := 634) (nI 2) (DL_law_6.at 4 rfl) ci_2 ?_
  refine gk_iadd (pc := 635) (DL_law_6.at 5 rfl) ?_
  obtain ⟨q2, hv⟩ := hv
  refine gk_scr_ld (pc := 636) (DL_law_6.at 6 rfl) q2 ?_
  obtain ⟨⟨fs3, q3⟩, hv⟩ := hv
  refine gk_vV (pc := 637) [.int ((gk_scr E).2.2 (x3 + (nI 1)).toNatClampNeg), .int ((gk_scr E).2.2 (x3 + (nI 2)).toNatClampNeg)] [] (DL_law_6.at 7 rfl) cvL_65 q3 rfl rfl (Nat.le_of_ble_eq_true rfl) (Nat.le_of_ble_eq_true rfl) (gk_Run.post (fun o h3 z => ?_) hv)
  obtain ⟨v3, rfl, hv⟩ := z
  refine gk_aload_n (pc := 640) (DL_law_6.at 8 rfl) 2 rfl rfl ?_
  refine gk_aload_n (pc := 641) (DL_law_6.at 9 rfl) 0 rfl rfl ?_
  refine gk_iload_n (pc := 642) (DL_law_6.at 10 rfl) 3 rfl rfl ?_
  refine gk_iconst (pc := 643) (nI 1) (DL_law_6.at 11 rfl) ci_1 ?_
  refine gk_iadd (pc := 644) (DL_law_6.at 12 rfl) ?_
  obtain ⟨q4, hv⟩ := hv
  refine gk_scr_ld (pc := 645) (DL_law_6.at 13 rfl) q4 ?_
  refine gk_aload_n (pc := 646) (DL_law_6.at 14 rfl) 0 rfl rfl ?_
  refine gk_iload_n (pc := 647) (DL_law_6.at 15 rfl) 3 rfl rfl ?_
  refine gk_iconst (pc := 648) (nI 2) (DL_law_6.at 16 rfl) ci_2 ?_
  refine gk_iadd (pc := 649) (DL_law_6.at 17 rfl) ?_
  obtain ⟨q5, hv⟩ := hv
  refine gk_scr_ld (pc := 650) (DL_law_6.at 18 rfl) q5 ?_
  obtain ⟨⟨fs6, q6⟩, hv⟩ := hv
  refine gk_vV (pc := 651) [.int ((gk_scr E).2.2 (x3 + (nI 1)).toNatClampNeg), .int ((gk_scr E).2.2 (x3 + (nI 2)).toNatClampNeg)] [.int v3] (DL_law_6.at 19 rfl) cvL_68 q6 rfl rfl (Nat.le_of_ble_eq_true rfl) (Nat.le_of_ble_eq_true rfl) (gk_Run.post (fun o h6 z => ?_) hv)
  obtain ⟨v6, rfl, hv⟩ := z
  refine gk_icmp_eq (pc := 654) 1500 (DL_law_6.at 20 rfl) (by decide) (fun c => ?_) (fun c => ?_)
  · replace hv := hv.1 c
    exact gk_pick (pc := 1500) [(0, .ref 1000000), (1, .ref x1), (2, .ref x2), (3, .int x3)] [0, 1, 2, 3] rfl hv
  · replace hv := hv.2 c
    refine gk_iconst (pc := 657) (nI 0) (DL_law_6.at 21 rfl) ci_0 ?_
    exact gk_ireturn (pc := 658) .boolean (DL_law_6.at 22 rfl) rfl rfl ⟨_, rfl, hv⟩
set_option maxHeartbeats 4000000 in
theorem vL_law_659 {E : gk_E} {dd : Nat} {x1 : Nat} {x2 : Nat} {x3 : Int32}  {h : gk_H} {K : Int32 → gk_H → Prop} (hv : (vp_in (x3 + (nI 1)) (gk_scr E).2.1) ∧ ((∃ fs, h[x1]? = some (.inr (10, fs))) ∧ RnI E mX11_drop (dd, 0, 0) [.ref x1, .int ((gk_scr E).2.2 (x3 + (nI 1)).toNatClampNeg)] h (fun v2 h2 => (vp_in (x3 + (nI 1)) (gk_scr E).2.1) ∧ ((∃ fs, h2[x2]? = some (.inr (11, fs))) ∧ RnI E mX12_drop (dd, 0, 0) [.ref x2, .int ((gk_scr E).2.2 (x3 + (nI 1)).toNatClampNeg)] h2 (fun v4 h4 => (v2 = v4 → pL_law_1500 E dd x1 x2 x3 h4 K) ∧ (¬ v2 = v4 → K (nI 0) h4)))))) : pL_law_659 E dd x1 x2 x3 h K := by
  show gk_G E mL_law (dd + 1, 0, 0) 659 [(0, .ref 1000000), (1, .ref x1), (2, .ref x2), (3, .int x3)] [] h (fun o h1 => ∃ v, o = some (.int v) ∧ K v h1)
  refine gk_aload_n (pc := 659) (DL_law_6.at 23 rfl) 1 rfl rfl ?_
  refine gk_aload_n (pc := 660) (DL_law_6.at 24 rfl) 0 rfl rfl ?_
  refine gk_iload_n (pc := 661) (DL_law_6.at 25 rfl) 3 rfl rfl ?_
  refine gk_iconst (pc := 662) (nI 1) (DL_law_6.at 26 rfl) ci_1 ?_
  refine gk_iadd (pc := 663) (DL_law_6.at 27 rfl) ?_
  obtain ⟨q1, hv⟩ := hv
  refine gk_scr_ld (pc := 664) (DL_law_6.at 28 rfl) q1 ?_
  obtain ⟨⟨fs2, q2⟩, hv⟩ := hv
  refine gk_vV (pc := 665) [.int ((gk_scr E).2.2 (x3 + (nI 1)).toNatClampNeg)] [] (DL_law_6.at 29 rfl) cvL_69 q2 rfl rfl (Nat.le_of_ble_eq_true rfl) (Nat.le_of_ble_eq_true rfl) (gk_Run.post (fun o h2 z => ?_) hv)
  obtain ⟨v2, rfl, hv⟩ := z
  refine gk_aload_n (pc := 668) (DL_law_6.at 30 rfl) 2 rfl rfl ?_
  refine gk_aload_n (pc := 669) (DL_law_6.at 31 rfl) 0 rfl rfl ?_
  refine gk_iload_n (pc := 670) (DL_law_6.at 32 rfl) 3 rfl rfl ?_
  refine gk_iconst (pc := 671) (nI 1) (DL_law_6.at 33 rfl) ci_1 ?_
  refine gk_iadd (pc := 672) (DL_law_6.at 34 rfl) ?_
  obtain ⟨q3, hv⟩ := hv
  refine gk_scr_ld (pc := 673) (DL_law_6.at 35 rfl) q3 ?_
  obtain ⟨⟨fs4, q4⟩, hv⟩ := hv
  refine gk_vV (pc := 674) [.int ((gk_scr E).2.2 (x3 + (nI 1)).toNatClampNeg)] [.int v2] (DL_law_6.at 36 rfl) cvL_72 q4 rfl rfl (Nat.le_of_ble_eq_true rfl) (Nat.le_of_ble_eq_true rfl) (gk_Run.post (fun o h4 z => ?_) hv)
  obtain ⟨v4, rfl, hv⟩ := z
  refine gk_icmp_eq (pc := 677) 1500 (DL_law_6.at 37 rfl) (by decide) (fun c => ?_) (fun c => ?_)
  · replace hv := hv.1 c
    exact gk_pick (pc := 1500) [(0, .ref 1000000), (1, .ref x1), (2, .ref x2), (3, .int x3)] [0, 1, 2, 3] rfl hv
  · replace hv := hv.2 c
    refine gk_iconst (pc := 680) (nI 0) (DL_law_6.at 38 rfl) ci_0 ?_
    exact gk_ireturn (pc := 681) .boolean (DL_law_6.at 39 rfl) rfl rfl ⟨_, rfl, hv⟩
set_option maxHeartbeats 4000000 in
theorem vL_law_682 {E : gk_E} {dd : Nat} {x1 : Nat} {x2 : Nat} {x3 : Int32}  {h : gk_H} {K : Int32 → gk_H → Prop} (hv : (vp_in (x3 + (nI 1)) (gk_scr E).2.1) ∧ ((vp_in (x3 + (nI 2)) (gk_scr E).2.1) ∧ ((vp_in (x3 + (nI 3)) (gk_scr E).2.1) ∧ ((∃ fs, h[x1]? = some (.inr (10, fs))) ∧ RnI E mX11_label (dd, 0, 0) [.ref x1, .int ((gk_scr E).2.2 (x3 + (nI 1)).toNatClampNeg), .int ((gk_scr E).2.2 (x3 + (nI 2)).toNatClampNeg), .int ((gk_scr E).2.2 (x3 + (nI 3)).toNatClampNeg)] h (fun v4 h4 => (vp_in (x3 + (nI 1)) (gk_scr E).2.1) ∧ ((vp_in (x3 + (nI 2)) (gk_scr E).2.1) ∧ ((vp_in (x3 + (nI 3)) (gk_scr E).2.1) ∧ ((∃ fs, h4[x2]? = some (.inr (11, fs))) ∧ RnI E mX12_label (dd, 0, 0) [.ref x2, .int ((gk_scr E).2.2 (x3 + (nI 1)).toNatClampNeg), .int ((gk_scr E).2.2 (x3 + (nI 2)).toNatClampNeg), .int ((gk_scr E).2.2 (x3 + (nI 3)).toNatClampNeg)] h4 (fun v8 h8 => (v4 = v8 → pL_law_1500 E dd x1 x2 x3 h8 K) ∧ (¬ v4 = v8 → K (nI 0) h8)))))))))) : pL_law_682 E dd x1 x2 x3 h K := by
  show gk_G E mL_law (dd + 1, 0, 0) 682 [(0, .ref 1000000), (1, .ref x1), (2, .ref x2), (3, .int x3)] [] h (fun o h1 => ∃ v, o = some (.int v) ∧ K v h1)
  refine gk_aload_n (pc := 682) (DL_law_6.at 40 rfl) 1 rfl rfl ?_
  refine gk_aload_n (pc := 683) (DL_law_6.at 41 rfl) 0 rfl rfl ?_
  refine gk_iload_n (pc := 684) (DL_law_6.at 42 rfl) 3 rfl rfl ?_
  refine gk_iconst (pc := 685) (nI 1) (DL_law_6.at 43 rfl) ci_1 ?_
  refine gk_iadd (pc := 686) (DL_law_6.at 44 rfl) ?_
  obtain ⟨q1, hv⟩ := hv
  refine gk_scr_ld (pc := 687) (DL_law_6.at 45 rfl) q1 ?_
  refine gk_aload_n (pc := 688) (DL_law_6.at 46 rfl) 0 rfl rfl ?_
  refine gk_iload_n (pc := 689) (DL_law_6.at 47 rfl) 3 rfl rfl ?_
  refine gk_iconst (pc := 690) (nI 2) (DL_law_6.at 48 rfl) ci_2 ?_
  refine gk_iadd (pc := 691) (DL_law_6.at 49 rfl) ?_
  obtain ⟨q2, hv⟩ := hv
  refine gk_scr_ld (pc := 692) (DL_law_6.at 50 rfl) q2 ?_
  refine gk_aload_n (pc := 693) (DL_law_6.at 51 rfl) 0 rfl rfl ?_
  refine gk_iload_n (pc := 694) (DL_law_6.at 52 rfl) 3 rfl rfl ?_
  refine gk_iconst (pc := 695) (nI 3) (DL_law_6.at 53 rfl) ci_3 ?_
  refine gk_iadd (pc := 696) (DL_law_6.at 54 rfl) ?_
  obtain ⟨q3, hv⟩ := hv
  refine gk_scr_ld (pc := 697) (DL_law_6.at 55 rfl) q3 ?_
  obtain ⟨⟨fs4, q4⟩, hv⟩ := hv
  refine gk_vV (pc := 698) [.int ((gk_scr E).2.2 (x3 + (nI 1)).toNatClampNeg), .int ((gk_scr E).2.2 (x3 + (nI 2)).toNatClampNeg), .int ((gk_scr E).2.2 (x3 + (nI 3)).toNatClampNeg)] [] (DL_law_6.at 56 rfl) cvL_73 q4 rfl rfl (Nat.le_of_ble_eq_true rfl) (Nat.le_of_ble_eq_true rfl) (gk_Run.post (fun o h4 z => ?_) hv)
  obtain ⟨v4, rfl, hv⟩ := z
  refine gk_aload_n (pc := 701) (DL_law_6.at 57 rfl) 2 rfl rfl ?_
  refine gk_aload_n (pc := 702) (DL_law_6.at 58 rfl) 0 rfl rfl ?_
  refine gk_iload_n (pc := 703) (DL_law_6.at 59 rfl) 3 rfl rfl ?_
  refine gk_iconst (pc := 704) (nI 1) (DL_law_7.at 0 rfl) ci_1 ?_
  refine gk_iadd (pc := 705) (DL_law_7.at 1 rfl) ?_
  obtain ⟨q5, hv⟩ := hv
  refine gk_scr_ld (pc := 706) (DL_law_7.at 2 rfl) q5 ?_
  refine gk_aload_n (pc := 707) (DL_law_7.at 3 rfl) 0 rfl rfl ?_
  refine gk_iload_n (pc := 708) (DL_law_7.at 4 rfl) 3 rfl rfl ?_
  refine gk_iconst (pc := 709) (nI 2) (DL_law_7.at 5 rfl) ci_2 ?_
  refine gk_iadd (pc := 710) (DL_law_7.at 6 rfl) ?_
  obtain ⟨q6, hv⟩ := hv
  refine gk_scr_ld (pc := 711) (DL_law_7.at 7 rfl) q6 ?_
  refine gk_aload_n (pc := 712) (DL_law_7.at 8 rfl) 0 rfl rfl ?_
  refine gk_iload_n (pc := 713) (DL_law_7.at 9 rfl) 3 rfl rfl ?_
  refine gk_iconst (pc := 714) (nI 3) (DL_law_7.at 10 rfl) ci_3 ?_
  refine gk_iadd (pc := 715) (DL_law_7.at 11 rfl) ?_
  obtain ⟨q7, hv⟩ := hv
  refine gk_scr_ld (pc := 716) (DL_law_7.at 12 rfl) q7 ?_
  obtain ⟨⟨fs8, q8⟩, hv⟩ := hv
  refine gk_vV (pc := 717) [.int ((gk_scr E).2.2 (x3 + (nI 1)).toNatClampNeg), .int ((gk_scr E).2.2 (x3 + (nI 2)).toNatClampNeg), .int ((gk_scr E).2.2 (x3 + (nI 3)).toNatClampNeg)] [.int v4] (DL_law_7.at 13 rfl) cvL_76 q8 rfl rfl (Nat.le_of_ble_eq_true rfl) (Nat.le_of_ble_eq_true rfl) (gk_Run.post (fun o h8 z => ?_) hv)
  obtain ⟨v8, rfl, hv⟩ := z
  refine gk_icmp_eq (pc := 720) 1500 (DL_law_7.at 14 rfl) (by decide) (fun c => ?_) (fun c => ?_)
  · replace hv := hv.1 c
    exact gk_pick (pc := 1500) [(0, .ref 1000000), (1, .ref x1), (2, .ref x2), (3, .int x3)] [0, 1, 2, 3] rfl hv
  · replace hv := hv.2 c
    refine gk_iconst (pc := 723) (nI 0) (DL_law_7.at 15 rfl) ci_0 ?_
    exact gk_ireturn (pc := 724) .boolean (DL_law_7.at 16 rfl) rfl rfl ⟨_, rfl, hv⟩
set_option maxHeartbeats 4000000 in
theorem vL_law_725 {E : gk_E} {dd : Nat} {x1 : Nat} {x2 : Nat} {x3 : Int32}  {h : gk_H} {K : Int32 → gk_H → Prop} (hv : (vp_in (x3 + (nI 1)) (gk_scr E).2.1) ∧ ((vp_in (x3 + (nI 2)) (gk_scr E).2.1) ∧ ((vp_in (x3 + (nI 3)) (gk_scr E).2.1) ∧ ((vp_in (x3 + (nI 4)) (gk_scr E).2.1) ∧ ((∃ fs, h[x1]? = some (.inr (10, fs))) ∧ RnI E mX11_relabel (dd, 0, 0) [.ref x1, .int ((gk_scr E).2.2 (x3 + (nI 1)).toNatClampNeg), .int ((gk_scr E).2.2 (x3 + (nI 2)).toNatClampNeg), .int ((gk_scr E).2.2 (x3 + (nI 3)).toNatClampNeg), .int ((gk_scr E).2.2 (x3 + (nI 4)).toNatClampNeg)] h (fun v5 h5 => (vp_in (x3 + (nI 1)) (gk_scr E).2.1) ∧ ((vp_in (x3 + (nI 2)) (gk_scr E).2.1) ∧ ((vp_in (x3 + (nI 3)) (gk_scr E).2.1) ∧ ((vp_in (x3 + (nI 4)) (gk_scr E).2.1) ∧ ((∃ fs, h5[x2]? = some (.inr (11, fs))) ∧ RnI E mX12_relabel (dd, 0, 0) [.ref x2, .int ((gk_scr E).2.2 (x3 + (nI 1)).toNatClampNeg), .int ((gk_scr E).2.2 (x3 + (nI 2)).toNatClampNeg), .int ((gk_scr E).2.2 (x3 + (nI 3)).toNatClampNeg), .int ((gk_scr E).2.2 (x3 + (nI 4)).toNatClampNeg)] h5 (fun v10 h10 => (v5 = v10 → pL_law_1500 E dd x1 x2 x3 h10 K) ∧ (¬ v5 = v10 → K (nI 0) h10)))))))))))) : pL_law_725 E dd x1 x2 x3 h K := by
  show gk_G E mL_law (dd + 1, 0, 0) 725 [(0, .ref 1000000), (1, .ref x1), (2, .ref x2), (3, .int x3)] [] h (fun o h1 => ∃ v, o = some (.int v) ∧ K v h1)
  refine gk_aload_n (pc := 725) (DL_law_7.at 17 rfl) 1 rfl rfl ?_
  refine gk_aload_n (pc := 726) (DL_law_7.at 18 rfl) 0 rfl rfl ?_
  refine gk_iload_n (pc := 727) (DL_law_7.at 19 rfl) 3 rfl rfl ?_
  refine gk_iconst (pc := 728) (nI 1) (DL_law_7.at 20 rfl) ci_1 ?_
  refine gk_iadd (pc := 729) (DL_law_7.at 21 rfl) ?_
  obtain ⟨q1, hv⟩ := hv
  refine gk_scr_ld (pc := 730) (DL_law_7.at 22 rfl) q1 ?_
  refine gk_aload_n (pc := 731) (DL_law_7.at 23 rfl) 0 rfl rfl ?_
  refine gk_iload_n (pc := 732) (DL_law_7.at 24 rfl) 3 rfl rfl ?_
  refine gk_iconst (pc := 733) (nI 2) (DL_law_7.at 25 rfl) ci_2 ?_
  refine gk_iadd (pc := 734) (DL_law_7.at 26 rfl) ?_
  obtain ⟨q2, hv⟩ := hv
  refine gk_scr_ld (pc := 735) (DL_law_7.at 27 rfl) q2 ?_
  refine gk_aload_n (pc := 736) (DL_law_7.at 28 rfl) 0 rfl rfl ?_
  refine gk_iload_n (pc := 737) (DL_law_7.at 29 rfl) 3 rfl rfl ?_
  refine gk_iconst (pc := 738) (nI 3) (DL_law_7.at 30 rfl) ci_3 ?_
  refine gk_iadd (pc := 739) (DL_law_7.at 31 rfl) ?_
  obtain ⟨q3, hv⟩ := hv
  refine gk_scr_ld (pc := 740) (DL_law_7.at 32 rfl) q3 ?_
  refine gk_aload_n (pc := 741) (DL_law_7.at 33 rfl) 0 rfl rfl ?_
  refine gk_iload_n (pc := 742) (DL_law_7.at 34 rfl) 3 rfl rfl ?_
  refine gk_iconst (pc := 743) (nI 4) (DL_law_7.at 35 rfl) ci_4 ?_
  refine gk_iadd (pc := 744) (DL_law_7.at 36 rfl) ?_
  obtain ⟨q4, hv⟩ := hv
  refine gk_scr_ld (pc := 745) (DL_law_7.at 37 rfl) q4 ?_
  obtain ⟨⟨fs5, q5⟩, hv⟩ := hv
  refine gk_vV (pc := 746) [.int ((gk_scr E).2.2 (x3 + (nI 1)).toNatClampNeg), .int ((gk_scr E).2.2 (x3 + (nI 2)).toNatClampNeg), .int ((gk_scr E).2.2 (x3 + (nI 3)).toNatClampNeg), .int ((gk_scr E).2.2 (x3 + (nI 4)).toNatClampNeg)] [] (DL_law_7.at 38 rfl) cvL_77 q5 rfl rfl (Nat.le_of_ble_eq_true rfl) (Nat.le_of_ble_eq_true rfl) (gk_Run.post (fun o h5 z => ?_) hv)
  obtain ⟨v5, rfl, hv⟩ := z
  refine gk_aload_n (pc := 749) (DL_law_7.at 39 rfl) 2 rfl rfl ?_
  refine gk_aload_n (pc := 750) (DL_law_7.at 40 rfl) 0 rfl rfl ?_
  refine gk_iload_n (pc := 751) (DL_law_7.at 41 rfl) 3 rfl rfl ?_
  refine gk_iconst (pc := 752) (nI 1) (DL_law_7.at 42 rfl) ci_1 ?_
  refine gk_iadd (pc := 753) (DL_law_7.at 43 rfl) ?_
  obtain ⟨q6, hv⟩ := hv
  refine gk_scr_ld (pc := 754) (DL_law_7.at 44 rfl) q6 ?_
  refine gk_aload_n (pc := 755) (DL_law_7.at 45 rfl) 0 rfl rfl ?_
  refine gk_iload_n (pc := 756) (DL_law_7.at 46 rfl) 3 rfl rfl ?_
  refine gk_iconst (pc := 757) (nI 2) (DL_law_7.at 47 rfl) ci_2 ?_
  refine gk_iadd (pc := 758) (DL_law_7.at 48 rfl) ?_
  obtain ⟨q7, hv⟩ := hv
  refine gk_scr_ld (pc := 759) (DL_law_7.at 49 rfl) q7 ?_
  refine gk_aload_n (pc := 760) (DL_law_7.at 50 rfl) 0 rfl rfl ?_
  refine gk_iload_n (pc := 761) (DL_law_7.at 51 rfl) 3 rfl rfl ?_
  refine gk_iconst (pc := 762) (nI 3) (DL_law_7.at 52 rfl) ci_3 ?_
  refine gk_iadd (pc := 763) (DL_law_7.at 53 rfl) ?_
  obtain ⟨q8, hv⟩ := hv
  refine gk_scr_ld (pc := 764) (DL_law_7.at 54 rfl) q8 ?_
  refine gk_aload_n (pc := 765) (DL_law_7.at 55 rfl) 0 rfl rfl ?_
  refine gk_iload_n (pc := 766) (DL_law_7.at 56 rfl) 3 rfl rfl ?_
  refine gk_iconst (pc := 767) (nI 4) (DL_law_7.at 57 rfl) ci_4 ?_
  refine gk_iadd (pc := 768) (DL_law_7.at 58 rfl) ?_
  obtain ⟨q9, hv⟩ := hv
  refine gk_scr_ld (pc := 769) (DL_law_7.at 59 rfl) q9 ?_
  obtain ⟨⟨fs10, q10⟩, hv⟩ := hv
  refine gk_vV (pc := 770) [.int ((gk_scr E).2.2 (x3 + (nI 1)).toNatClampNeg), .int ((gk_scr E).2.2 (x3 + (nI 2)).toNatClampNeg), .int ((gk_scr E).2.2 (x3 + (nI 3)).toNatClampNeg), .int ((gk_scr E).2.2 (x3 + (nI 4)).toNatClampNeg)] [.int v5] (DL_law_8.at 0 rfl) cvL_80 q10 rfl rfl (Nat.le_of_ble_eq_true rfl) (Nat.le_of_ble_eq_true rfl) (gk_Run.post (fun o h10 z => ?_) hv)
  obtain ⟨v10, rfl, hv⟩ := z
  refine gk_icmp_eq (pc := 773) 1500 (DL_law_8.at 1 rfl) (by decide) (fun c => ?_) (fun c => ?_)
  · replace hv := hv.1 c
    exact gk_pick (pc := 1500) [(0, .ref 1000000), (1, .ref x1), (2, .ref x2), (3, .int x3)] [0, 1, 2, 3] rfl hv
  · replace hv := hv.2 c
    refine gk_iconst (pc := 776) (nI 0) (DL_law_8.at 2 rfl) ci_0 ?_
    exact gk_ireturn (pc := 777) .boolean (DL_law_8.at 3 rfl) rfl rfl ⟨_, rfl, hv⟩
set_option maxHeartbeats 4000000 in
theorem vL_law_778 {E : gk_E} {dd : Nat} {x1 : Nat} {x2 : Nat} {x3 : Int32}  {h : gk_H} {K : Int32 → gk_H → Prop} (hv : (vp_in (x3 + (nI 1)) (gk_scr E).2.1) ∧ ((vp_in (x3 + (nI 2)) (gk_scr E).2.1) ∧ ((∃ fs, h[x1]? = some (.inr (10, fs))) ∧ RnI E mX11_copy (dd, 0, 0) [.ref x1, .int ((gk_scr E).2.2 (x3 + (nI 1)).toNatClampNeg), .int ((gk_scr E).2.2 (x3 + (nI 2)).toNatClampNeg)] h (fun v3 h3 => (vp_in (x3 + (nI 1)) (gk_scr E).2.1) ∧ ((vp_in (x3 + (nI 2)) (gk_scr E).2.1) ∧ ((∃ fs, h3[x2]? = some (.inr (11, fs))) ∧ RnI E mX12_copy (dd, 0, 0) [.ref x2, .int ((gk_scr E).2.2 (x3 + (nI 1)).toNatClampNeg), .int ((gk_scr E).2.2 (x3 + (nI 2)).toNatClampNeg)] h3 (fun v6 h6 => (v3 = v6 → pL_law_1500 E dd x1 x2 x3 h6 K) ∧ (¬ v3 = v6 → K (nI 0) h6)))))))) : pL_law_778 E dd x1 x2 x3 h K := by
  show gk_G E mL_law (dd + 1, 0, 0) 778 [(0, .ref 1000000), (1, .ref x1), (2, .ref x2), (3, .int x3)] [] h (fun o h1 => ∃ v, o = some (.int v) ∧ K v h1)
  refine gk_aload_n (pc := 778) (DL_law_8.at 4 rfl) 1 rfl rfl ?_
  refine gk_aload_n (pc := 779) (DL_law_8.at 5 rfl) 0 rfl rfl ?_
  refine gk_iload_n (pc := 780) (DL_law_8.at 6 rfl) 3 rfl rfl ?_
  refine gk_iconst (pc := 781) (nI 1) (DL_law_8.at 7 rfl) ci_1 ?_
  refine gk_iadd (pc := 782) (DL_law_8.at 8 rfl) ?_
  obtain ⟨q1, hv⟩ := hv
  refine gk_scr_ld (pc := 783) (DL_law_8.at 9 rfl) q1 ?_
  refine gk_aload_n (pc := 784) (DL_law_8.at 10 rfl) 0 rfl rfl ?_
  refine gk_iload_n (pc := 785) (DL_law_8.at 11 rfl) 3 rfl rfl ?_
  refine gk_iconst (pc := 786) (nI 2) (DL_law_8.at 12 rfl) ci_2 ?_
  refine gk_iadd (pc := 787) (DL_law_8.at 13 rfl) ?_
  obtain ⟨q2, hv⟩ := hv
  refine gk_scr_ld (pc := 788) (DL_law_8.at 14 rfl) q2 ?_
  obtain ⟨⟨fs3, q3⟩, hv⟩ := hv
  refine gk_vV (pc := 789) [.int ((gk_scr E).2.2 (x3 + (nI 1)).toNatClampNeg), .int ((gk_scr E).2.2 (x3 + (nI 2)).toNatClampNeg)] [] (DL_law_8.at 15 rfl) cvL_81 q3 rfl rfl (Nat.le_of_ble_eq_true rfl) (Nat.le_of_ble_eq_true rfl) (gk_Run.post (fun o h3 z => ?_) hv)
  obtain ⟨v3, rfl, hv⟩ := z
  refine gk_aload_n (pc := 792) (DL_law_8.at 16 rfl) 2 rfl rfl ?_
  refine gk_aload_n (pc := 793) (DL_law_8.at 17 rfl) 0 rfl rfl ?_
  refine gk_iload_n (pc := 794) (DL_law_8.at 18 rfl) 3 rfl rfl ?_
  refine gk_iconst (pc := 795) (nI 1) (DL_law_8.at 19 rfl) ci_1 ?_
  refine gk_iadd (pc := 796) (DL_law_8.at 20 rfl) ?_
  obtain ⟨q4, hv⟩ := hv
  refine gk_scr_ld (pc := 797) (DL_law_8.at 21 rfl) q4 ?_
  refine gk_aload_n (pc := 798) (DL_law_8.at 22 rfl) 0 rfl rfl ?_
  refine gk_iload_n (pc := 799) (DL_law_8.at 23 rfl) 3 rfl rfl ?_
  refine gk_iconst (pc := 800) (nI 2) (DL_law_8.at 24 rfl) ci_2 ?_
  refine gk_iadd (pc := 801) (DL_law_8.at 25 rfl) ?_
  obtain ⟨q5, hv⟩ := hv
  refine gk_scr_ld (pc := 802) (DL_law_8.at 26 rfl) q5 ?_
  obtain ⟨⟨fs6, q6⟩, hv⟩ := hv
  refine gk_vV (pc := 803) [.int ((gk_scr E).2.2 (x3 + (nI 1)).toNatClampNeg), .int ((gk_scr E).2.2 (x3 + (nI 2)).toNatClampNeg)] [.int v3] (DL_law_8.at 27 rfl) cvL_84 q6 rfl rfl (Nat.le_of_ble_eq_true rfl) (Nat.le_of_ble_eq_true rfl) (gk_Run.post (fun o h6 z => ?_) hv)
  obtain ⟨v6, rfl, hv⟩ := z
  refine gk_icmp_eq (pc := 806) 1500 (DL_law_8.at 28 rfl) (by decide) (fun c => ?_) (fun c => ?_)
  · replace hv := hv.1 c
    exact gk_pick (pc := 1500) [(0, .ref 1000000), (1, .ref x1), (2, .ref x2), (3, .int x3)] [0, 1, 2, 3] rfl hv
  · replace hv := hv.2 c
    refine gk_iconst (pc := 809) (nI 0) (DL_law_8.at 29 rfl) ci_0 ?_
    exact gk_ireturn (pc := 810) .boolean (DL_law_8.at 30 rfl) rfl rfl ⟨_, rfl, hv⟩
set_option maxHeartbeats 4000000 in
theorem vL_law_811 {E : gk_E} {dd : Nat} {x1 : Nat} {x2 : Nat} {x3 : Int32}  {h : gk_H} {K : Int32 → gk_H → Prop} (hv : (vp_in (x3 + (nI 1)) (gk_scr E).2.1) ∧ ((∃ fs, h[x1]? = some (.inr (10, fs))) ∧ RnI E mX11_sound (dd, 0, 0) [.ref x1, .int ((gk_scr E).2.2 (x3 + (nI 1)).toNatClampNeg)] h (fun v2 h2 => (vp_in (x3 + (nI 1)) (gk_scr E).2.1) ∧ ((∃ fs, h2[x2]? = some (.inr (11, fs))) ∧ RnI E mX12_sound (dd, 0, 0) [.ref x2, .int ((gk_scr E).2.2 (x3 + (nI 1)).toNatClampNeg)] h2 (fun v4 h4 => (v2 = v4 → pL_law_1500 E dd x1 x2 x3 h4 K) ∧ (¬ v2 = v4 → K (nI 0) h4)))))) : pL_law_811 E dd x1 x2 x3 h K := by
  show gk_G E mL_law (dd + 1, 0, 0) 811 [(0, .ref 1000000), (1, .ref x1), (2, .ref x2), (3, .int x3)] [] h (fun o h1 => ∃ v, o = some (.int v) ∧ K v h1)
  refine gk_aload_n (pc := 811) (DL_law_8.at 31 rfl) 1 rfl rfl ?_
  refine gk_aload_n (pc := 812) (DL_law_8.at 32 rfl) 0 rfl rfl ?_
  refine gk_iload_n (pc := 813) (DL_law_8.at 33 rfl) 3 rfl rfl ?_
  refine gk_iconst (pc := 814) (nI 1) (DL_law_8.at 34 rfl) ci_1 ?_
  refine gk_iadd (pc := 815) (DL_law_8.at 35 rfl) ?_
  obtain ⟨q1, hv⟩ := hv
  refine gk_scr_ld (pc := 816) (DL_law_8.at 36 rfl) q1 ?_
  obtain ⟨⟨fs2, q2⟩, hv⟩ := hv
  refine gk_vV (pc := 817) [.int ((gk_scr E).2.2 (x3 + (nI 1)).toNatClampNeg)] [] (DL_law_8.at 37 rfl) cvL_85 q2 rfl rfl (Nat.le_of_ble_eq_true rfl) (Nat.le_of_ble_eq_true rfl) (gk_Run.post (fun o h2 z => ?_) hv)
  obtain ⟨v2, rfl, hv⟩ := z
  refine gk_aload_n (pc := 820) (DL_law_8.at 38 rfl) 2 rfl rfl ?_
  refine gk_aload_n (pc := 821) (DL_law_8.at 39 rfl) 0 rfl rfl ?_
  refine gk_iload_n (pc := 822) (DL_law_8.at 40 rfl) 3 rfl rfl ?_
  refine gk_iconst (pc := 823) (nI 1) (DL_law_8.at 41 rfl) ci_1 ?_
  refine gk_iadd (pc := 824) (DL_law_8.at 42 rfl) ?_
  obtain ⟨q3, hv⟩ := hv
  refine gk_scr_ld (pc := 825) (DL_law_8.at 43 rfl) q3 ?_
  obtain ⟨⟨fs4, q4⟩, hv⟩ := hv
  refine gk_vV (pc := 826) [.int ((gk_scr E).2.2 (x3 + (nI 1)).toNatClampNeg)] [.int v2] (DL_law_8.at 44 rfl) cvL_88 q4 rfl rfl (Nat.le_of_ble_eq_true rfl) (Nat.le_of_ble_eq_true rfl) (gk_Run.post (fun o h4 z => ?_) hv)
  obtain ⟨v4, rfl, hv⟩ := z
  refine gk_icmp_eq (pc := 829) 1500 (DL_law_8.at 45 rfl) (by decide) (fun c => ?_) (fun c => ?_)
  · replace hv := hv.1 c
    exact gk_pick (pc := 1500) [(0, .ref 1000000), (1, .ref x1), (2, .ref x2), (3, .int x3)] [0, 1, 2, 3] rfl hv
  · replace hv := hv.2 c
    refine gk_iconst (pc := 832) (nI 0) (DL_law_8.at 46 rfl) ci_0 ?_
    exact gk_ireturn (pc := 833) .boolean (DL_law_8.at 47 rfl) rfl rfl ⟨_, rfl, hv⟩
set_option maxHeartbeats 4000000 in
theorem vL_law_834 {E : gk_E} {dd : Nat} {x1 : Nat} {x2 : Nat} {x3 : Int32}  {h : gk_H} {K : Int32 → gk_H → Prop} (hv : (vp_in (x3 + (nI 1)) (gk_scr E).2.1) ∧ ((vp_in (x3 + (nI 2)) (gk_scr E).2.1) ∧ ((∃ fs, h[x1]? = some (.inr (10, fs))) ∧ RnI E mX11_gap (dd, 0, 0) [.ref x1, .int ((gk_scr E).2.2 (x3 + (nI 1)).toNatClampNeg), .int ((gk_scr E).2.2 (x3 + (nI 2)).toNatClampNeg)] h (fun v3 h3 => (vp_in (x3 + (nI 1)) (gk_scr E).2.1) ∧ ((vp_in (x3 + (nI 2)) (gk_scr E).2.1) ∧ ((∃ fs, h3[x2]? = some (.inr (11, fs))) ∧ RnI E mX12_gap (dd, 0, 0) [.ref x2, .int ((gk_scr E).2.2 (x3 + (nI 1)).toNatClampNeg), .int ((gk_scr E).2.2 (x3 + (nI 2)).toNatClampNeg)] h3 (fun v6 h6 => (v3 = v6 → pL_law_1500 E dd x1 x2 x3 h6 K) ∧ (¬ v3 = v6 → K (nI 0) h6)))))))) : pL_law_834 E dd x1 x2 x3 h K := by
  show gk_G E mL_law (dd + 1, 0, 0) 834 [(0, .ref 1000000), (1, .ref x1), (2, .ref x2), (3, .int x3)] [] h (fun o h1 => ∃ v, o = some (.int v) ∧ K v h1)
  refine gk_aload_n (pc := 834) (DL_law_8.at 48 rfl) 1 rfl rfl ?_
  refine gk_aload_n (pc := 835) (DL_law_8.at 49 rfl) 0 rfl rfl ?_
  refine gk_iload_n (pc := 836) (DL_law_8.at 50 rfl) 3 rfl rfl ?_
  refine gk_iconst (pc := 837) (nI 1) (DL_law_8.at 51 rfl) ci_1 ?_
  refine gk_iadd (pc := 838) (DL_law_8.at 52 rfl) ?_
  obtain ⟨q1, hv⟩ := hv
  refine gk_scr_ld (pc := 839) (DL_law_8.at 53 rfl) q1 ?_
  refine gk_aload_n (pc := 840) (DL_law_8.at 54 rfl) 0 rfl rfl ?_
  refine gk_iload_n (pc := 841) (DL_law_8.at 55 rfl) 3 rfl rfl ?_
  refine gk_iconst (pc := 842) (nI 2) (DL_law_8.at 56 rfl) ci_2 ?_
  refine gk_iadd (pc := 843) (DL_law_8.at 57 rfl) ?_
  obtain ⟨q2, hv⟩ := hv
  refine gk_scr_ld (pc := 844) (DL_law_8.at 58 rfl) q2 ?_
  obtain ⟨⟨fs3, q3⟩, hv⟩ := hv
  refine gk_vV (pc := 845) [.int ((gk_scr E).2.2 (x3 + (nI 1)).toNatClampNeg), .int ((gk_scr E).2.2 (x3 + (nI 2)).toNatClampNeg)] [] (DL_law_8.at 59 rfl) cvL_89 q3 rfl rfl (Nat.le_of_ble_eq_true rfl) (Nat.le_of_ble_eq_true rfl) (gk_Run.post (fun o h3 z => ?_) hv)
  obtain ⟨v3, rfl, hv⟩ := z
  refine gk_aload_n (pc := 848) (DL_law_9.at 0 rfl) 2 rfl rfl ?_
  refine gk_aload_n (pc := 849) (DL_law_9.at 1 rfl) 0 rfl rfl ?_
  refine gk_iload_n (pc := 850) (DL_law_9.at 2 rfl) 3 rfl rfl ?_
  refine gk_iconst (pc := 851) (nI 1) (DL_law_9.at 3 rfl) ci_1 ?_
  refine gk_iadd (pc := 852) (DL_law_9.at 4 rfl) ?_
  obtain ⟨q4, hv⟩ := hv
  refine gk_scr_ld (pc := 853) (DL_law_9.at 5 rfl) q4 ?_
  refine gk_aload_n (pc := 854) (DL_law_9.at 6 rfl) 0 rfl rfl ?_
  refine gk_iload_n (pc := 855) (DL_law_9.at 7 rfl) 3 rfl rfl ?_
  refine gk_iconst (pc := 856) (nI 2) (DL_law_9.at 8 rfl) ci_2 ?_
  refine gk_iadd (pc := 857) (DL_law_9.at 9 rfl) ?_
  obtain ⟨q5, hv⟩ := hv
  refine gk_scr_ld (pc := 858) (DL_law_9.at 10 rfl) q5 ?_
  obtain ⟨⟨fs6, q6⟩, hv⟩ := hv
  refine gk_vV (pc := 859) [.int ((gk_scr E).2.2 (x3 + (nI 1)).toNatClampNeg), .int ((gk_scr E).2.2 (x3 + (nI 2)).toNatClampNeg)] [.int v3] (DL_law_9.at 11 rfl) cvL_92 q6 rfl rfl (Nat.le_of_ble_eq_true rfl) (Nat.le_of_ble_eq_true rfl) (gk_Run.post (fun o h6 z => ?_) hv)
  obtain ⟨v6, rfl, hv⟩ := z
  refine gk_icmp_eq (pc := 862) 1500 (DL_law_9.at 12 rfl) (by decide) (fun c => ?_) (fun c => ?_)
  · replace hv := hv.1 c
    exact gk_pick (pc := 1500) [(0, .ref 1000000), (1, .ref x1), (2, .ref x2), (3, .int x3)] [0, 1, 2, 3] rfl hv
  · replace hv := hv.2 c
    refine gk_iconst (pc := 865) (nI 0) (DL_law_9.at 13 rfl) ci_0 ?_
    exact gk_ireturn (pc := 866) .boolean (DL_law_9.at 14 rfl) rfl rfl ⟨_, rfl, hv⟩
set_option maxHeartbeats 4000000 in
theorem vL_law_867 {E : gk_E} {dd : Nat} {x1 : Nat} {x2 : Nat} {x3 : Int32}  {h : gk_H} {K : Int32 → gk_H → Prop} (hv : (vp_in (x3 + (nI 1)) (gk_scr E).2.1) ∧ ((vp_in (x3 + (nI 2)) (gk_scr E).2.1) ∧ ((vp_in (x3 + (nI 3)) (gk_scr E).2.1) ∧ ((∃ fs, h[x1]? = some (.inr (10, fs))) ∧ RnI E mX11_fills (dd, 0, 0) [.ref x1, .int ((gk_scr E).2.2 (x3 + (nI 1)).toNatClampNeg), .int ((gk_scr E).2.2 (x3 + (nI 2)).toNatClampNeg), .int ((gk_scr E).2.2 (x3 + (nI 3)).toNatClampNeg)] h (fun v4 h4 => (vp_in (x3 + (nI 1)) (gk_scr E).2.1) ∧ ((vp_in (x3 + (nI 2)) (gk_scr E).2.1) ∧ ((vp_in (x3 + (nI 3)) (gk_scr E).2.1) ∧ ((∃ fs, h4[x2]? = some (.inr (11, fs))) ∧ RnI E mX12_fills (dd, 0, 0) [.ref x2, .int ((gk_scr E).2.2 (x3 + (nI 1)).toNatClampNeg), .int ((gk_scr E).2.2 (x3 + (nI 2)).toNatClampNeg), .int ((gk_scr E).2.2 (x3 + (nI 3)).toNatClampNeg)] h4 (fun v8 h8 => (v4 = v8 → pL_law_1500 E dd x1 x2 x3 h8 K) ∧ (¬ v4 = v8 → K (nI 0) h8)))))))))) : pL_law_867 E dd x1 x2 x3 h K := by
  show gk_G E mL_law (dd + 1, 0, 0) 867 [(0, .ref 1000000), (1, .ref x1), (2, .ref x2), (3, .int x3)] [] h (fun o h1 => ∃ v, o = some (.int v) ∧ K v h1)
  refine gk_aload_n (pc := 867) (DL_law_9.at 15 rfl) 1 rfl rfl ?_
  refine gk_aload_n (pc := 868) (DL_law_9.at 16 rfl) 0 rfl rfl ?_
  refine gk_iload_n (pc := 869) (DL_law_9.at 17 rfl) 3 rfl rfl ?_
  refine gk_iconst (pc := 870) (nI 1) (DL_law_9.at 18 rfl) ci_1 ?_
  refine gk_iadd (pc := 871) (DL_law_9.at 19 rfl) ?_
  obtain ⟨q1, hv⟩ := hv
  refine gk_scr_ld (pc := 872) (DL_law_9.at 20 rfl) q1 ?_
  refine gk_aload_n (pc := 873) (DL_law_9.at 21 rfl) 0 rfl rfl ?_
  refine gk_iload_n (pc := 874) (DL_law_9.at 22 rfl) 3 rfl rfl ?_
  refine gk_iconst (pc := 875) (nI 2) (DL_law_9.at 23 rfl) ci_2 ?_
  refine gk_iadd (pc := 876) (DL_law_9.at 24 rfl) ?_
  obtain ⟨q2, hv⟩ := hv
  refine gk_scr_ld (pc := 877) (DL_law_9.at 25 rfl) q2 ?_
  refine gk_aload_n (pc := 878) (DL_law_9.at 26 rfl) 0 rfl rfl ?_
  refine gk_iload_n (pc := 879) (DL_law_9.at 27 rfl) 3 rfl rfl ?_
  refine gk_iconst (pc := 880) (nI 3) (DL_law_9.at 28 rfl) ci_3 ?_
  refine gk_iadd (pc := 881) (DL_law_9.at 29 rfl) ?_
  obtain ⟨q3, hv⟩ := hv
  refine gk_scr_ld (pc := 882) (DL_law_9.at 30 rfl) q3 ?_
  obtain ⟨⟨fs4, q4⟩, hv⟩ := hv
  refine gk_vV (pc := 883) [.int ((gk_scr E).2.2 (x3 + (nI 1)).toNatClampNeg), .int ((gk_scr E).2.2 (x3 + (nI 2)).toNatClampNeg), .int ((gk_scr E).2.2 (x3 + (nI 3)).toNatClampNeg)] [] (DL_law_9.at 31 rfl) cvL_93 q4 rfl rfl (Nat.le_of_ble_eq_true rfl) (Nat.le_of_ble_eq_true rfl) (gk_Run.post (fun o h4 z => ?_) hv)
  obtain ⟨v4, rfl, hv⟩ := z
  refine gk_aload_n (pc := 886) (DL_law_9.at 32 rfl) 2 rfl rfl ?_
  refine gk_aload_n (pc := 887) (DL_law_9.at 33 rfl) 0 rfl rfl ?_
  refine gk_iload_n (pc := 888) (DL_law_9.at 34 rfl) 3 rfl rfl ?_
  refine gk_iconst (pc := 889) (nI 1) (DL_law_9.at 35 rfl) ci_1 ?_
  refine gk_iadd (pc := 890) (DL_law_9.at 36 rfl) ?_
  obtain ⟨q5, hv⟩ := hv
  refine gk_scr_ld (pc := 891) (DL_law_9.at 37 rfl) q5 ?_
  refine gk_aload_n (pc := 892) (DL_law_9.at 38 rfl) 0 rfl rfl ?_
  refine gk_iload_n (pc := 893) (DL_law_9.at 39 rfl) 3 rfl rfl ?_
  refine gk_iconst (pc := 894) (nI 2) (DL_law_9.at 40 rfl) ci_2 ?_
  refine gk_iadd (pc := 895) (DL_law_9.at 41 rfl) ?_
  obtain ⟨q6, hv⟩ := hv
  refine gk_scr_ld (pc := 896) (DL_law_9.at 42 rfl) q6 ?_
  refine gk_aload_n (pc := 897) (DL_law_9.at 43 rfl) 0 rfl rfl ?_
  refine gk_iload_n (pc := 898) (DL_law_9.at 44 rfl) 3 rfl rfl ?_
  refine gk_iconst (pc := 899) (nI 3) (DL_law_9.at 45 rfl) ci_3 ?_
  refine gk_iadd (pc := 900) (DL_law_9.at 46 rfl) ?_
  obtain ⟨q7, hv⟩ := hv
  refine gk_scr_ld (pc := 901) (DL_law_9.at 47 rfl) q7 ?_
  obtain ⟨⟨fs8, q8⟩, hv⟩ := hv
  refine gk_vV (pc := 902) [.int ((gk_scr E).2.2 (x3 + (nI 1)).toNatClampNeg), .int ((gk_scr E).2.2 (x3 + (nI 2)).toNatClampNeg), .int ((gk_scr E).2.2 (x3 + (nI 3)).toNatClampNeg)] [.int v4] (DL_law_9.at 48 rfl) cvL_96 q8 rfl rfl (Nat.le_of_ble_eq_true rfl) (Nat.le_of_ble_eq_true rfl) (gk_Run.post (fun o h8 z => ?_) hv)
  obtain ⟨v8, rfl, hv⟩ := z
  refine gk_icmp_eq (pc := 905) 1500 (DL_law_9.at 49 rfl) (by decide) (fun c => ?_) (fun c => ?_)
  · replace hv := hv.1 c
    exact gk_pick (pc := 1500) [(0, .ref 1000000), (1, .ref x1), (2, .ref x2), (3, .int x3)] [0, 1, 2, 3] rfl hv
  · replace hv := hv.2 c
    refine gk_iconst (pc := 908) (nI 0) (DL_law_9.at 50 rfl) ci_0 ?_
    exact gk_ireturn (pc := 909) .boolean (DL_law_9.at 51 rfl) rfl rfl ⟨_, rfl, hv⟩
set_option maxHeartbeats 4000000 in
theorem vL_law_910 {E : gk_E} {dd : Nat} {x1 : Nat} {x2 : Nat} {x3 : Int32}  {h : gk_H} {K : Int32 → gk_H → Prop} (hv : (vp_in (x3 + (nI 1)) (gk_scr E).2.1) ∧ ((vp_in (x3 + (nI 2)) (gk_scr E).2.1) ∧ ((vp_in (x3 + (nI 3)) (gk_scr E).2.1) ∧ ((∃ fs, h[x1]? = some (.inr (10, fs))) ∧ RnI E mX11_occurs (dd, 0, 0) [.ref x1, .int ((gk_scr E).2.2 (x3 + (nI 1)).toNatClampNeg), .int ((gk_scr E).2.2 (x3 + (nI 2)).toNatClampNeg), .int ((gk_scr E).2.2 (x3 + (nI 3)).toNatClampNeg)] h (fun v4 h4 => (vp_in (x3 + (nI 1)) (gk_scr E).2.1) ∧ ((vp_in (x3 + (nI 2)) (gk_scr E).2.1) ∧ ((vp_in (x3 + (nI 3)) (gk_scr E).2.1) ∧ ((∃ fs, h4[x2]? = some (.inr (11, fs))) ∧ RnI E mX12_occurs (dd, 0, 0) [.ref x2, .int ((gk_scr E).2.2 (x3 + (nI 1)).toNatClampNeg), .int ((gk_scr E).2.2 (x3 + (nI 2)).toNatClampNeg), .int ((gk_scr E).2.2 (x3 + (nI 3)).toNatClampNeg)] h4 (fun v8 h8 => (v4 = v8 → pL_law_1500 E dd x1 x2 x3 h8 K) ∧ (¬ v4 = v8 → K (nI 0) h8)))))))))) : pL_law_910 E dd x1 x2 x3 h K := by
  show gk_G E mL_law (dd + 1, 0, 0) 910 [(0, .ref 1000000), (1, .ref x1), (2, .ref x2), (3, .int x3)] [] h (fun o h1 => ∃ v, o = some (.int v) ∧ K v h1)
  refine gk_aload_n (pc := 910) (DL_law_9.at 52 rfl) 1 rfl rfl ?_
  refine gk_aload_n (pc := 911) (DL_law_9.at 53 rfl) 0 rfl rfl ?_
  refine gk_iload_n (pc := 912) (DL_law_9.at 54 rfl) 3 rfl rfl ?_
  refine gk_iconst (pc := 913) (nI 1) (DL_law_9.at 55 rfl) ci_1 ?_
  refine gk_iadd (pc := 914) (DL_law_9.at 56 rfl) ?_
  obtain ⟨q1, hv⟩ := hv
  refine gk_scr_ld (pc := 915) (DL_law_9.at 57 rfl) q1 ?_
  refine gk_aload_n (pc := 916) (DL_law_9.at 58 rfl) 0 rfl rfl ?_
  refine gk_iload_n (pc := 917) (DL_law_9.at 59 rfl) 3 rfl rfl ?_
  refine gk_iconst (pc := 918) (nI 2) (DL_law_10.at 0 rfl) ci_2 ?_
  refine gk_iadd (pc := 919) (DL_law_10.at 1 rfl) ?_
  obtain ⟨q2, hv⟩ := hv
  refine gk_scr_ld (pc := 920) (DL_law_10.at 2 rfl) q2 ?_
  refine gk_aload_n (pc := 921) (DL_law_10.at 3 rfl) 0 rfl rfl ?_
  refine gk_iload_n (pc := 922) (DL_law_10.at 4 rfl) 3 rfl rfl ?_
  refine gk_iconst (pc := 923) (nI 3) (DL_law_10.at 5 rfl) ci_3 ?_
  refine gk_iadd (pc := 924) (DL_law_10.at 6 rfl) ?_
  obtain ⟨q3, hv⟩ := hv
  refine gk_scr_ld (pc := 925) (DL_law_10.at 7 rfl) q3 ?_
  obtain ⟨⟨fs4, q4⟩, hv⟩ := hv
  refine gk_vV (pc := 926) [.int ((gk_scr E).2.2 (x3 + (nI 1)).toNatClampNeg), .int ((gk_scr E).2.2 (x3 + (nI 2)).toNatClampNeg), .int ((gk_scr E).2.2 (x3 + (nI 3)).toNatClampNeg)] [] (DL_law_10.at 8 rfl) cvL_97 q4 rfl rfl (Nat.le_of_ble_eq_true rfl) (Nat.le_of_ble_eq_true rfl) (gk_Run.post (fun o h4 z => ?_) hv)
  obtain ⟨v4, rfl, hv⟩ := z
  refine gk_aload_n (pc := 929) (DL_law_10.at 9 rfl) 2 rfl rfl ?_
  refine gk_aload_n (pc := 930) (DL_law_10.at 10 rfl) 0 rfl rfl ?_
  refine gk_iload_n (pc := 931) (DL_law_10.at 11 rfl) 3 rfl rfl ?_
  refine gk_iconst (pc := 932) (nI 1) (DL_law_10.at 12 rfl) ci_1 ?_
  refine gk_iadd (pc := 933) (DL_law_10.at 13 rfl) ?_
  obtain ⟨q5, hv⟩ := hv
  refine gk_scr_ld (pc := 934) (DL_law_10.at 14 rfl) q5 ?_
  refine gk_aload_n (pc := 935) (DL_law_10.at 15 rfl) 0 rfl rfl ?_
  refine gk_iload_n (pc := 936) (DL_law_10.at 16 rfl) 3 rfl rfl ?_
  refine gk_iconst (pc := 937) (nI 2) (DL_law_10.at 17 rfl) ci_2 ?_
  refine gk_iadd (pc := 938) (DL_law_10.at 18 rfl) ?_
  obtain ⟨q6, hv⟩ := hv
  refine gk_scr_ld (pc := 939) (DL_law_10.at 19 rfl) q6 ?_
  refine gk_aload_n (pc := 940) (DL_law_10.at 20 rfl) 0 rfl rfl ?_
  refine gk_iload_n (pc := 941) (DL_law_10.at 21 rfl) 3 rfl rfl ?_
  refine gk_iconst (pc := 942) (nI 3) (DL_law_10.at 22 rfl) ci_3 ?_
  refine gk_iadd (pc := 943) (DL_law_10.at 23 rfl) ?_
  obtain ⟨q7, hv⟩ := hv
  refine gk_scr_ld (pc := 944) (DL_law_10.at 24 rfl) q7 ?_
  obtain ⟨⟨fs8, q8⟩, hv⟩ := hv
  refine gk_vV (pc := 945) [.int ((gk_scr E).2.2 (x3 + (nI 1)).toNatClampNeg), .int ((gk_scr E).2.2 (x3 + (nI 2)).toNatClampNeg), .int ((gk_scr E).2.2 (x3 + (nI 3)).toNatClampNeg)] [.int v4] (DL_law_10.at 25 rfl) cvL_100 q8 rfl rfl (Nat.le_of_ble_eq_true rfl) (Nat.le_of_ble_eq_true rfl) (gk_Run.post (fun o h8 z => ?_) hv)
  obtain ⟨v8, rfl, hv⟩ := z
  refine gk_icmp_eq (pc := 948) 1500 (DL_law_10.at 26 rfl) (by decide) (fun c => ?_) (fun c => ?_)
  · replace hv := hv.1 c
    exact gk_pick (pc := 1500) [(0, .ref 1000000), (1, .ref x1), (2, .ref x2), (3, .int x3)] [0, 1, 2, 3] rfl hv
  · replace hv := hv.2 c
    refine gk_iconst (pc := 951) (nI 0) (DL_law_10.at 27 rfl) ci_0 ?_
    exact gk_ireturn (pc := 952) .boolean (DL_law_10.at 28 rfl) rfl rfl ⟨_, rfl, hv⟩
set_option maxHeartbeats 4000000 in
theorem vL_law_953 {E : gk_E} {dd : Nat} {x1 : Nat} {x2 : Nat} {x3 : Int32}  {h : gk_H} {K : Int32 → gk_H → Prop} (hv : (vp_in (x3 + (nI 1)) (gk_scr E).2.1) ∧ ((∃ fs, h[x1]? = some (.inr (10, fs))) ∧ RnI E mX11_forbid (dd, 0, 0) [.ref x1, .int ((gk_scr E).2.2 (x3 + (nI 1)).toNatClampNeg)] h (fun v2 h2 => (vp_in (x3 + (nI 1)) (gk_scr E).2.1) ∧ ((∃ fs, h2[x2]? = some (.inr (11, fs))) ∧ RnI E mX12_forbid (dd, 0, 0) [.ref x2, .int ((gk_scr E).2.2 (x3 + (nI 1)).toNatClampNeg)] h2 (fun v4 h4 => (v2 = v4 → pL_law_1500 E dd x1 x2 x3 h4 K) ∧ (¬ v2 = v4 → K (nI 0) h4)))))) : pL_law_953 E dd x1 x2 x3 h K := by
  show gk_G E mL_law (dd + 1, 0, 0) 953 [(0, .ref 1000000), (1, .ref x1), (2, .ref x2), (3, .int x3)] [] h (fun o h1 => ∃ v, o = some (.int v) ∧ K v h1)
  refine gk_aload_n (pc := 953) (DL_law_10.at 29 rfl) 1 rfl rfl ?_
  refine gk_aload_n (pc := 954) (DL_law_10.at 30 rfl) 0 rfl rfl ?_
  refine gk_iload_n (pc := 955) (DL_law_10.at 31 rfl) 3 rfl rfl ?_
  refine gk_iconst (pc := 956) (nI 1) (DL_law_10.at 32 rfl) ci_1 ?_
  refine gk_iadd (pc := 957) (DL_law_10.at 33 rfl) ?_
  obtain ⟨q1, hv⟩ := hv
  refine gk_scr_ld (pc := 958) (DL_law_10.at 34 rfl) q1 ?_
  obtain ⟨⟨fs2, q2⟩, hv⟩ := hv
  refine gk_vV (pc := 959) [.int ((gk_scr E).2.2 (x3 + (nI 1)).toNatClampNeg)] [] (DL_law_10.at 35 rfl) cvL_101 q2 rfl rfl (Nat.le_of_ble_eq_true rfl) (Nat.le_of_ble_eq_true rfl) (gk_Run.post (fun o h2 z => ?_) hv)
  obtain ⟨v2, rfl, hv⟩ := z
  refine gk_aload_n (pc := 962) (DL_law_10.at 36 rfl) 2 rfl rfl ?_
  refine gk_aload_n (pc := 963) (DL_law_10.at 37 rfl) 0 rfl rfl ?_
  refine gk_iload_n (pc := 964) (DL_law_10.at 38 rfl) 3 rfl rfl ?_
  refine gk_iconst (pc := 965) (nI 1) (DL_law_10.at 39 rfl) ci_1 ?_
  refine gk_iadd (pc := 966) (DL_law_10.at 40 rfl) ?_
  obtain ⟨q3, hv⟩ := hv
  refine gk_scr_ld (pc := 967) (DL_law_10.at 41 rfl) q3 ?_
  obtain ⟨⟨fs4, q4⟩, hv⟩ := hv
  refine gk_vV (pc := 968) [.int ((gk_scr E).2.2 (x3 + (nI 1)).toNatClampNeg)] [.int v2] (DL_law_10.at 42 rfl) cvL_104 q4 rfl rfl (Nat.le_of_ble_eq_true rfl) (Nat.le_of_ble_eq_true rfl) (gk_Run.post (fun o h4 z => ?_) hv)
  obtain ⟨v4, rfl, hv⟩ := z
  refine gk_icmp_eq (pc := 971) 1500 (DL_law_10.at 43 rfl) (by decide) (fun c => ?_) (fun c => ?_)
  · replace hv := hv.1 c
    exact gk_pick (pc := 1500) [(0, .ref 1000000), (1, .ref x1), (2, .ref x2), (3, .int x3)] [0, 1, 2, 3] rfl hv
  · replace hv := hv.2 c
    refine gk_iconst (pc := 974) (nI 0) (DL_law_10.at 44 rfl) ci_0 ?_
    exact gk_ireturn (pc := 975) .boolean (DL_law_10.at 45 rfl) rfl rfl ⟨_, rfl, hv⟩
set_option maxHeartbeats 4000000 in
theorem vL_law_976 {E : gk_E} {dd : Nat} {x1 : Nat} {x2 : Nat} {x3 : Int32}  {h : gk_H} {K : Int32 → gk_H → Prop} (hv : (vp_in (x3 + (nI 1)) (gk_scr E).2.1) ∧ ((vp_in (x3 + (nI 2)) (gk_scr E).2.1) ∧ ((∃ fs, h[x1]? = some (.inr (10, fs))) ∧ RnI E mX11_won (dd, 0, 0) [.ref x1, .int ((gk_scr E).2.2 (x3 + (nI 1)).toNatClampNeg), .int ((gk_scr E).2.2 (x3 + (nI 2)).toNatClampNeg)] h (fun v3 h3 => (vp_in (x3 + (nI 1)) (gk_scr E).2.1) ∧ ((vp_in (x3 + (nI 2)) (gk_scr E).2.1) ∧ ((∃ fs, h3[x2]? = some (.inr (11, fs))) ∧ RnI E mX12_won (dd, 0, 0) [.ref x2, .int ((gk_scr E).2.2 (x3 + (nI 1)).toNatClampNeg), .int ((gk_scr E).2.2 (x3 + (nI 2)).toNatClampNeg)] h3 (fun v6 h6 => (v3 = v6 → pL_law_1500 E dd x1 x2 x3 h6 K) ∧ (¬ v3 = v6 → K (nI 0) h6)))))))) : pL_law_976 E dd x1 x2 x3 h K := by
  show gk_G E mL_law (dd + 1, 0, 0) 976 [(0, .ref 1000000), (1, .ref x1), (2, .ref x2), (3, .int x3)] [] h (fun o h1 => ∃ v, o = some (.int v) ∧ K v h1)
  refine gk_aload_n (pc := 976) (DL_law_10.at 46 rfl) 1 rfl rfl ?_
  refine gk_aload_n (pc := 977) (DL_law_10.at 47 rfl) 0 rfl rfl ?_
  refine gk_iload_n (pc := 978) (DL_law_10.at 48 rfl) 3 rfl rfl ?_
  refine gk_iconst (pc := 979) (nI 1) (DL_law_10.at 49 rfl) ci_1 ?_
  refine gk_iadd (pc := 980) (DL_law_10.at 50 rfl) ?_
  obtain ⟨q1, hv⟩ := hv
  refine gk_scr_ld (pc := 981) (DL_law_10.at 51 rfl) q1 ?_
  refine gk_aload_n (pc := 982) (DL_law_10.at 52 rfl) 0 rfl rfl ?_
  refine gk_iload_n (pc := 983) (DL_law_10.at 53 rfl) 3 rfl rfl ?_
  refine gk_iconst (pc := 984) (nI 2) (DL_law_10.at 54 rfl) ci_2 ?_
  refine gk_iadd (pc := 985) (DL_law_10.at 55 rfl) ?_
  obtain ⟨q2, hv⟩ := hv
  refine gk_scr_ld (pc := 986) (DL_law_10.at 56 rfl) q2 ?_
  obtain ⟨⟨fs3, q3⟩, hv⟩ := hv
  refine gk_vV (pc := 987) [.int ((gk_scr E).2.2 (x3 + (nI 1)).toNatClampNeg), .int ((gk_scr E).2.2 (x3 + (nI 2)).toNatClampNeg)] [] (DL_law_10.at 57 rfl) cvL_105 q3 rfl rfl (Nat.le_of_ble_eq_true rfl) (Nat.le_of_ble_eq_true rfl) (gk_Run.post (fun o h3 z => ?_) hv)
  obtain ⟨v3, rfl, hv⟩ := z
  refine gk_aload_n (pc := 990) (DL_law_10.at 58 rfl) 2 rfl rfl ?_
  refine gk_aload_n (pc := 991) (DL_law_10.at 59 rfl) 0 rfl rfl ?_
  refine gk_iload_n (pc := 992) (DL_law_11.at 0 rfl) 3 rfl rfl ?_
  refine gk_iconst (pc := 993) (nI 1) (DL_law_11.at 1 rfl) ci_1 ?_
  refine gk_iadd (pc := 994) (DL_law_11.at 2 rfl) ?_
  obtain ⟨q4, hv⟩ := hv
  refine gk_scr_ld (pc := 995) (DL_law_11.at 3 rfl) q4 ?_
  refine gk_aload_n (pc := 996) (DL_law_11.at 4 rfl) 0 rfl rfl ?_
  refine gk_iload_n (pc := 997) (DL_law_11.at 5 rfl) 3 rfl rfl ?_
  refine gk_iconst (pc := 998) (nI 2) (DL_law_11.at 6 rfl) ci_2 ?_
  refine gk_iadd (pc := 999) (DL_law_11.at 7 rfl) ?_
  obtain ⟨q5, hv⟩ := hv
  refine gk_scr_ld (pc := 1000) (DL_law_11.at 8 rfl) q5 ?_
  obtain ⟨⟨fs6, q6⟩, hv⟩ := hv
  refine gk_vV (pc := 1001) [.int ((gk_scr E).2.2 (x3 + (nI 1)).toNatClampNeg), .int ((gk_scr E).2.2 (x3 + (nI 2)).toNatClampNeg)] [.int v3] (DL_law_11.at 9 rfl) cvL_108 q6 rfl rfl (Nat.le_of_ble_eq_true rfl) (Nat.le_of_ble_eq_true rfl) (gk_Run.post (fun o h6 z => ?_) hv)
  obtain ⟨v6, rfl, hv⟩ := z
  refine gk_icmp_eq (pc := 1004) 1500 (DL_law_11.at 10 rfl) (by decide) (fun c => ?_) (fun c => ?_)
  · replace hv := hv.1 c
    exact gk_pick (pc := 1500) [(0, .ref 1000000), (1, .ref x1), (2, .ref x2), (3, .int x3)] [0, 1, 2, 3] rfl hv
  · replace hv := hv.2 c
    refine gk_iconst (pc := 1007) (nI 0) (DL_law_11.at 11 rfl) ci_0 ?_
    exact gk_ireturn (pc := 1008) .boolean (DL_law_11.at 12 rfl) rfl rfl ⟨_, rfl, hv⟩
set_option maxHeartbeats 4000000 in
theorem vL_law_1009 {E : gk_E} {dd : Nat} {x1 : Nat} {x2 : Nat} {x3 : Int32}  {h : gk_H} {K : Int32 → gk_H → Prop} (hv : (vp_in (x3 + (nI 1)) (gk_scr E).2.1) ∧ ((vp_in (x3 + (nI 2)) (gk_scr E).2.1) ∧ ((∃ fs, h[x1]? = some (.inr (10, fs))) ∧ RnI E mX11_killer (dd, 0, 0) [.ref x1, .int ((gk_scr E).2.2 (x3 + (nI 1)).toNatClampNeg), .int ((gk_scr E).2.2 (x3 + (nI 2)).toNatClampNeg)] h (fun v3 h3 => (vp_in (x3 + (nI 1)) (gk_scr E).2.1) ∧ ((vp_in (x3 + (nI 2)) (gk_scr E).2.1) ∧ ((∃ fs, h3[x2]? = some (.inr (11, fs))) ∧ RnI E mX12_killer (dd, 0, 0) [.ref x2, .int ((gk_scr E).2.2 (x3 + (nI 1)).toNatClampNeg), .int ((gk_scr E).2.2 (x3 + (nI 2)).toNatClampNeg)] h3 (fun v6 h6 => (v3 = v6 → pL_law_1500 E dd x1 x2 x3 h6 K) ∧ (¬ v3 = v6 → K (nI 0) h6)))))))) : pL_law_1009 E dd x1 x2 x3 h K := by
  show gk_G E mL_law (dd + 1, 0, 0) 1009 [(0, .ref 1000000), (1, .ref x1), (2, .ref x2), (3, .int x3)] [] h (fun o h1 => ∃ v, o = some (.int v) ∧ K v h1)
  refine gk_aload_n (pc := 1009) (DL_law_11.at 13 rfl) 1 rfl rfl ?_
  refine gk_aload_n (pc := 1010) (DL_law_11.at 14 rfl) 0 rfl rfl ?_
  refine gk_iload_n (pc := 1011) (DL_law_11.at 15 rfl) 3 rfl rfl ?_
  refine gk_iconst (pc := 1012) (nI 1) (DL_law_11.at 16 rfl) ci_1 ?_
  refine gk_iadd (pc := 1013) (DL_law_11.at 17 rfl) ?_
  obtain ⟨q1, hv⟩ := hv
  refine gk_scr_ld (pc := 1014) (DL_law_11.at 18 rfl) q1 ?_
  refine gk_aload_n (pc := 1015) (DL_law_11.at 19 rfl) 0 rfl rfl ?_
  refine gk_iload_n (pc := 1016) (DL_law_11.at 20 rfl) 3 rfl rfl ?_
  refine gk_iconst (pc := 1017) (nI 2) (DL_law_11.at 21 rfl) ci_2 ?_
  refine gk_iadd (pc := 1018) (DL_law_11.at 22 rfl) ?_
  obtain ⟨q2, hv⟩ := hv
  refine gk_scr_ld (pc := 1019) (DL_law_11.at 23 rfl) q2 ?_
  obtain ⟨⟨fs3, q3⟩, hv⟩ := hv
  refine gk_vV (pc := 1020) [.int ((gk_scr E).2.2 (x3 + (nI 1)).toNatClampNeg), .int ((gk_scr E).2.2 (x3 + (nI 2)).toNatClampNeg)] [] (DL_law_11.at 24 rfl) cvL_109 q3 rfl rfl (Nat.le_of_ble_eq_true rfl) (Nat.le_of_ble_eq_true rfl) (gk_Run.post (fun o h3 z => ?_) hv)
  obtain ⟨v3, rfl, hv⟩ := z
  refine gk_aload_n (pc := 1023) (DL_law_11.at 25 rfl) 2 rfl rfl ?_
  refine gk_aload_n (pc := 1024) (DL_law_11.at 26 rfl) 0 rfl rfl ?_
  refine gk_iload_n (pc := 1025) (DL_law_11.at 27 rfl) 3 rfl rfl ?_
  refine gk_iconst (pc := 1026) (nI 1) (DL_law_11.at 28 rfl) ci_1 ?_
  refine gk_iadd (pc := 1027) (DL_law_11.at 29 rfl) ?_
  obtain ⟨q4, hv⟩ := hv
  refine gk_scr_ld (pc := 1028) (DL_law_11.at 30 rfl) q4 ?_
  refine gk_aload_n (pc := 1029) (DL_law_11.at 31 rfl) 0 rfl rfl ?_
  refine gk_iload_n (pc := 1030) (DL_law_11.at 32 rfl) 3 rfl rfl ?_
  refine gk_iconst (pc := 1031) (nI 2) (DL_law_11.at 33 rfl) ci_2 ?_
  refine gk_iadd (pc := 1032) (DL_law_11.at 34 rfl) ?_
  obtain ⟨q5, hv⟩ := hv
  refine gk_scr_ld (pc := 1033) (DL_law_11.at 35 rfl) q5 ?_
  obtain ⟨⟨fs6, q6⟩, hv⟩ := hv
  refine gk_vV (pc := 1034) [.int ((gk_scr E).2.2 (x3 + (nI 1)).toNatClampNeg), .int ((gk_scr E).2.2 (x3 + (nI 2)).toNatClampNeg)] [.int v3] (DL_law_11.at 36 rfl) cvL_112 q6 rfl rfl (Nat.le_of_ble_eq_true rfl) (Nat.le_of_ble_eq_true rfl) (gk_Run.post (fun o h6 z => ?_) hv)
  obtain ⟨v6, rfl, hv⟩ := z
  refine gk_icmp_eq (pc := 1037) 1500 (DL_law_11.at 37 rfl) (by decide) (fun c => ?_) (fun c => ?_)
  · replace hv := hv.1 c
    exact gk_pick (pc := 1500) [(0, .ref 1000000), (1, .ref x1), (2, .ref x2), (3, .int x3)] [0, 1, 2, 3] rfl hv
  · replace hv := hv.2 c
    refine gk_iconst (pc := 1040) (nI 0) (DL_law_11.at 38 rfl) ci_0 ?_
    exact gk_ireturn (pc := 1041) .boolean (DL_law_11.at 39 rfl) rfl rfl ⟨_, rfl, hv⟩
set_option maxHeartbeats 4000000 in
theorem vL_law_1042 {E : gk_E} {dd : Nat} {x1 : Nat} {x2 : Nat} {x3 : Int32}  {h : gk_H} {K : Int32 → gk_H → Prop} (hv : (vp_in (x3 + (nI 1)) (gk_scr E).2.1) ∧ ((∃ fs, h[x1]? = some (.inr (10, fs))) ∧ RnI E mX11_lasts (dd, 0, 0) [.ref x1, .int ((gk_scr E).2.2 (x3 + (nI 1)).toNatClampNeg)] h (fun v2 h2 => (vp_in (x3 + (nI 1)) (gk_scr E).2.1) ∧ ((∃ fs, h2[x2]? = some (.inr (11, fs))) ∧ RnI E mX12_lasts (dd, 0, 0) [.ref x2, .int ((gk_scr E).2.2 (x3 + (nI 1)).toNatClampNeg)] h2 (fun v4 h4 => (v2 = v4 → pL_law_1500 E dd x1 x2 x3 h4 K) ∧ (¬ v2 = v4 → K (nI 0) h4)))))) : pL_law_1042 E dd x1 x2 x3 h K := by
  show gk_G E mL_law (dd + 1, 0, 0) 1042 [(0, .ref 1000000), (1, .ref x1), (2, .ref x2), (3, .int x3)] [] h (fun o h1 => ∃ v, o = some (.int v) ∧ K v h1)
  refine gk_aload_n (pc := 1042) (DL_law_11.at 40 rfl) 1 rfl rfl ?_
  refine gk_aload_n (pc := 1043) (DL_law_11.at 41 rfl) 0 rfl rfl ?_
  refine gk_iload_n (pc := 1044) (DL_law_11.at 42 rfl) 3 rfl rfl ?_
  refine gk_iconst (pc := 1045) (nI 1) (DL_law_11.at 43 rfl) ci_1 ?_
  refine gk_iadd (pc := 1046) (DL_law_11.at 44 rfl) ?_
  obtain ⟨q1, hv⟩ := hv
  refine gk_scr_ld (pc := 1047) (DL_law_11.at 45 rfl) q1 ?_
  obtain ⟨⟨fs2, q2⟩, hv⟩ := hv
  refine gk_vV (pc := 1048) [.int ((gk_scr E).2.2 (x3 + (nI 1)).toNatClampNeg)] [] (DL_law_11.at 46 rfl) cvL_113 q2 rfl rfl (Nat.le_of_ble_eq_true rfl) (Nat.le_of_ble_eq_true rfl) (gk_Run.post (fun o h2 z => ?_) hv)
  obtain ⟨v2, rfl, hv⟩ := z
  refine gk_aload_n (pc := 1051) (DL_law_11.at 47 rfl) 2 rfl rfl ?_
  refine gk_aload_n (pc := 1052) (DL_law_11.at 48 rfl) 0 rfl rfl ?_
  refine gk_iload_n (pc := 1053) (DL_law_11.at 49 rfl) 3 rfl rfl ?_
  refine gk_iconst (pc := 1054) (nI 1) (DL_law_11.at 50 rfl) ci_1 ?_
  refine gk_iadd (pc := 1055) (DL_law_11.at 51 rfl) ?_
  obtain ⟨q3, hv⟩ := hv
  refine gk_scr_ld (pc := 1056) (DL_law_11.at 52 rfl) q3 ?_
  obtain ⟨⟨fs4, q4⟩, hv⟩ := hv
  refine gk_vV (pc := 1057) [.int ((gk_scr E).2.2 (x3 + (nI 1)).toNatClampNeg)] [.int v2] (DL_law_11.at 53 rfl) cvL_116 q4 rfl rfl (Nat.le_of_ble_eq_true rfl) (Nat.le_of_ble_eq_true rfl) (gk_Run.post (fun o h4 z => ?_) hv)
  obtain ⟨v4, rfl, hv⟩ := z
  refine gk_icmp_eq (pc := 1060) 1500 (DL_law_11.at 54 rfl) (by decide) (fun c => ?_) (fun c => ?_)
  · replace hv := hv.1 c
    exact gk_pick (pc := 1500) [(0, .ref 1000000), (1, .ref x1), (2, .ref x2), (3, .int x3)] [0, 1, 2, 3] rfl hv
  · replace hv := hv.2 c
    refine gk_iconst (pc := 1063) (nI 0) (DL_law_11.at 55 rfl) ci_0 ?_
    exact gk_ireturn (pc := 1064) .boolean (DL_law_11.at 56 rfl) rfl rfl ⟨_, rfl, hv⟩
set_option maxHeartbeats 4000000 in
theorem vL_law_1065 {E : gk_E} {dd : Nat} {x1 : Nat} {x2 : Nat} {x3 : Int32}  {h : gk_H} {K : Int32 → gk_H → Prop} (hv : (vp_in (x3 + (nI 1)) (gk_scr E).2.1) ∧ ((∃ fs, h[x1]? = some (.inr (10, fs))) ∧ RnI E mX11_begin (dd, 0, 0) [.ref x1, .int ((gk_scr E).2.2 (x3 + (nI 1)).toNatClampNeg)] h (fun v2 h2 => (vp_in (x3 + (nI 1)) (gk_scr E).2.1) ∧ ((∃ fs, h2[x2]? = some (.inr (11, fs))) ∧ RnI E mX12_begin (dd, 0, 0) [.ref x2, .int ((gk_scr E).2.2 (x3 + (nI 1)).toNatClampNeg)] h2 (fun v4 h4 => (v2 = v4 → pL_law_1500 E dd x1 x2 x3 h4 K) ∧ (¬ v2 = v4 → K (nI 0) h4)))))) : pL_law_1065 E dd x1 x2 x3 h K := by
  show gk_G E mL_law (dd + 1, 0, 0) 1065 [(0, .ref 1000000), (1, .ref x1), (2, .ref x2), (3, .int x3)] [] h (fun o h1 => ∃ v, o = some (.int v) ∧ K v h1)
  refine gk_aload_n (pc := 1065) (DL_law_11.at 57 rfl) 1 rfl rfl ?_
  refine gk_aload_n (pc := 1066) (DL_law_11.at 58 rfl) 0 rfl rfl ?_
  refine gk_iload_n (pc := 1067) (DL_law_11.at 59 rfl) 3 rfl rfl ?_
  refine gk_iconst (pc := 1068) (nI 1) (DL_law_12.at 0 rfl) ci_1 ?_
  refine gk_iadd (pc := 1069) (DL_law_12.at 1 rfl) ?_
  obtain ⟨q1, hv⟩ := hv
  refine gk_scr_ld (pc := 1070) (DL_law_12.at 2 rfl) q1 ?_
  obtain ⟨⟨fs2, q2⟩, hv⟩ := hv
  refine gk_vV (pc := 1071) [.int ((gk_scr E).2.2 (x3 + (nI 1)).toNatClampNeg)] [] (DL_law_12.at 3 rfl) cvL_117 q2 rfl rfl (Nat.le_of_ble_eq_true rfl) (Nat.le_of_ble_eq_true rfl) (gk_Run.post (fun o h2 z => ?_) hv)
  obtain ⟨v2, rfl, hv⟩ := z
  refine gk_aload_n (pc := 1074) (DL_law_12.at 4 rfl) 2 rfl rfl ?_
  refine gk_aload_n (pc := 1075) (DL_law_12.at 5 rfl) 0 rfl rfl ?_
  refine gk_iload_n (pc := 1076) (DL_law_12.at 6 rfl) 3 rfl rfl ?_
  refine gk_iconst (pc := 1077) (nI 1) (DL_law_12.at 7 rfl) ci_1 ?_
  refine gk_iadd (pc := 1078) (DL_law_12.at 8 rfl) ?_
  obtain ⟨q3, hv⟩ := hv
  refine gk_scr_ld (pc := 1079) (DL_law_12.at 9 rfl) q3 ?_
  obtain ⟨⟨fs4, q4⟩, hv⟩ := hv
  refine gk_vV (pc := 1080) [.int ((gk_scr E).2.2 (x3 + (nI 1)).toNatClampNeg)] [.int v2] (DL_law_12.at 10 rfl) cvL_120 q4 rfl rfl (Nat.le_of_ble_eq_true rfl) (Nat.le_of_ble_eq_true rfl) (gk_Run.post (fun o h4 z => ?_) hv)
  obtain ⟨v4, rfl, hv⟩ := z
  refine gk_icmp_eq (pc := 1083) 1500 (DL_law_12.at 11 rfl) (by decide) (fun c => ?_) (fun c => ?_)
  · replace hv := hv.1 c
    exact gk_pick (pc := 1500) [(0, .ref 1000000), (1, .ref x1), (2, .ref x2), (3, .int x3)] [0, 1, 2, 3] rfl hv
  · replace hv := hv.2 c
    refine gk_iconst (pc := 1086) (nI 0) (DL_law_12.at 12 rfl) ci_0 ?_
    exact gk_ireturn (pc := 1087) .boolean (DL_law_12.at 13 rfl) rfl rfl ⟨_, rfl, hv⟩
set_option maxHeartbeats 4000000 in
theorem vL_law_1088 {E : gk_E} {dd : Nat} {x1 : Nat} {x2 : Nat} {x3 : Int32}  {h : gk_H} {K : Int32 → gk_H → Prop} (hv : (vp_in (x3 + (nI 1)) (gk_scr E).2.1) ∧ ((∃ fs, h[x1]? = some (.inr (10, fs))) ∧ RnI E mX11_ask (dd, 0, 0) [.ref x1, .int ((gk_scr E).2.2 (x3 + (nI 1)).toNatClampNeg)] h (fun v2 h2 => (vp_in (x3 + (nI 1)) (gk_scr E).2.1) ∧ ((∃ fs, h2[x2]? = some (.inr (11, fs))) ∧ RnI E mX12_ask (dd, 0, 0) [.ref x2, .int ((gk_scr E).2.2 (x3 + (nI 1)).toNatClampNeg)] h2 (fun v4 h4 => (v2 = v4 → pL_law_1500 E dd x1 x2 x3 h4 K) ∧ (¬ v2 = v4 → K (nI 0) h4)))))) : pL_law_1088 E dd x1 x2 x3 h K := by
  show gk_G E mL_law (dd + 1, 0, 0) 1088 [(0, .ref 1000000), (1, .ref x1), (2, .ref x2), (3, .int x3)] [] h (fun o h1 => ∃ v, o = some (.int v) ∧ K v h1)
  refine gk_aload_n (pc := 1088) (DL_law_12.at 14 rfl) 1 rfl rfl ?_
  refine gk_aload_n (pc := 1089) (DL_law_12.at 15 rfl) 0 rfl rfl ?_
  refine gk_iload_n (pc := 1090) (DL_law_12.at 16 rfl) 3 rfl rfl ?_
  refine gk_iconst (pc := 1091) (nI 1) (DL_law_12.at 17 rfl) ci_1 ?_
  refine gk_iadd (pc := 1092) (DL_law_12.at 18 rfl) ?_
  obtain ⟨q1, hv⟩ := hv
  refine gk_scr_ld (pc := 1093) (DL_law_12.at 19 rfl) q1 ?_
  obtain ⟨⟨fs2, q2⟩, hv⟩ := hv
  refine gk_vV (pc := 1094) [.int ((gk_scr E).2.2 (x3 + (nI 1)).toNatClampNeg)] [] (DL_law_12.at 20 rfl) cvL_121 q2 rfl rfl (Nat.le_of_ble_eq_true rfl) (Nat.le_of_ble_eq_true rfl) (gk_Run.post (fun o h2 z => ?_) hv)
  obtain ⟨v2, rfl, hv⟩ := z
  refine gk_aload_n (pc := 1097) (DL_law_12.at 21 rfl) 2 rfl rfl ?_
  refine gk_aload_n (pc := 1098) (DL_law_12.at 22 rfl) 0 rfl rfl ?_
  refine gk_iload_n (pc := 1099) (DL_law_12.at 23 rfl) 3 rfl rfl ?_
  refine gk_iconst (pc := 1100) (nI 1) (DL_law_12.at 24 rfl) ci_1 ?_
  refine gk_iadd (pc := 1101) (DL_law_12.at 25 rfl) ?_
  obtain ⟨q3, hv⟩ := hv
  refine gk_scr_ld (pc := 1102) (DL_law_12.at 26 rfl) q3 ?_
  obtain ⟨⟨fs4, q4⟩, hv⟩ := hv
  refine gk_vV (pc := 1103) [.int ((gk_scr E).2.2 (x3 + (nI 1)).toNatClampNeg)] [.int v2] (DL_law_12.at 27 rfl) cvL_124 q4 rfl rfl (Nat.le_of_ble_eq_true rfl) (Nat.le_of_ble_eq_true rfl) (gk_Run.post (fun o h4 z => ?_) hv)
  obtain ⟨v4, rfl, hv⟩ := z
  refine gk_icmp_eq (pc := 1106) 1500 (DL_law_12.at 28 rfl) (by decide) (fun c => ?_) (fun c => ?_)
  · replace hv := hv.1 c
    exact gk_pick (pc := 1500) [(0, .ref 1000000), (1, .ref x1), (2, .ref x2), (3, .int x3)] [0, 1, 2, 3] rfl hv
  · replace hv := hv.2 c
    refine gk_iconst (pc := 1109) (nI 0) (DL_law_12.at 29 rfl) ci_0 ?_
    exact gk_ireturn (pc := 1110) .boolean (DL_law_12.at 30 rfl) rfl rfl ⟨_, rfl, hv⟩
set_option maxHeartbeats 4000000 in
theorem vL_law_1111 {E : gk_E} {dd : Nat} {x1 : Nat} {x2 : Nat} {x3 : Int32}  {h : gk_H} {K : Int32 → gk_H → Prop} (hv : (vp_in (x3 + (nI 1)) (gk_scr E).2.1) ∧ ((∃ fs, h[x1]? = some (.inr (10, fs))) ∧ RnI E mX11_answer (dd, 0, 0) [.ref x1, .int ((gk_scr E).2.2 (x3 + (nI 1)).toNatClampNeg)] h (fun v2 h2 => (vp_in (x3 + (nI 1)) (gk_scr E).2.1) ∧ ((∃ fs, h2[x2]? = some (.inr (11, fs))) ∧ RnI E mX12_answer (dd, 0, 0) [.ref x2, .int ((gk_scr E).2.2 (x3 + (nI 1)).toNatClampNeg)] h2 (fun v4 h4 => (v2 = v4 → pL_law_1500 E dd x1 x2 x3 h4 K) ∧ (¬ v2 = v4 → K (nI 0) h4)))))) : pL_law_1111 E dd x1 x2 x3 h K := by
  show gk_G E mL_law (dd + 1, 0, 0) 1111 [(0, .ref 1000000), (1, .ref x1), (2, .ref x2), (3, .int x3)] [] h (fun o h1 => ∃ v, o = some (.int v) ∧ K v h1)
  refine gk_aload_n (pc := 1111) (DL_law_12.at 31 rfl) 1 rfl rfl ?_
  refine gk_aload_n (pc := 1112) (DL_law_12.at 32 rfl) 0 rfl rfl ?_
  refine gk_iload_n (pc := 1113) (DL_law_12.at 33 rfl) 3 rfl rfl ?_
  refine gk_iconst (pc := 1114) (nI 1) (DL_law_12.at 34 rfl) ci_1 ?_
  refine gk_iadd (pc := 1115) (DL_law_12.at 35 rfl) ?_
  obtain ⟨q1, hv⟩ := hv
  refine gk_scr_ld (pc := 1116) (DL_law_12.at 36 rfl) q1 ?_
  obtain ⟨⟨fs2, q2⟩, hv⟩ := hv
  refine gk_vV (pc := 1117) [.int ((gk_scr E).2.2 (x3 + (nI 1)).toNatClampNeg)] [] (DL_law_12.at 37 rfl) cvL_125 q2 rfl rfl (Nat.le_of_ble_eq_true rfl) (Nat.le_of_ble_eq_true rfl) (gk_Run.post (fun o h2 z => ?_) hv)
  obtain ⟨v2, rfl, hv⟩ := z
  refine gk_aload_n (pc := 1120) (DL_law_12.at 38 rfl) 2 rfl rfl ?_
  refine gk_aload_n (pc := 1121) (DL_law_12.at 39 rfl) 0 rfl rfl ?_
  refine gk_iload_n (pc := 1122) (DL_law_12.at 40 rfl) 3 rfl rfl ?_
  refine gk_iconst (pc := 1123) (nI 1) (DL_law_12.at 41 rfl) ci_1 ?_
  refine gk_iadd (pc := 1124) (DL_law_12.at 42 rfl) ?_
  obtain ⟨q3, hv⟩ := hv
  refine gk_scr_ld (pc := 1125) (DL_law_12.at 43 rfl) q3 ?_
  obtain ⟨⟨fs4, q4⟩, hv⟩ := hv
  refine gk_vV (pc := 1126) [.int ((gk_scr E).2.2 (x3 + (nI 1)).toNatClampNeg)] [.int v2] (DL_law_12.at 44 rfl) cvL_128 q4 rfl rfl (Nat.le_of_ble_eq_true rfl) (Nat.le_of_ble_eq_true rfl) (gk_Run.post (fun o h4 z => ?_) hv)
  obtain ⟨v4, rfl, hv⟩ := z
  refine gk_icmp_eq (pc := 1129) 1500 (DL_law_12.at 45 rfl) (by decide) (fun c => ?_) (fun c => ?_)
  · replace hv := hv.1 c
    exact gk_pick (pc := 1500) [(0, .ref 1000000), (1, .ref x1), (2, .ref x2), (3, .int x3)] [0, 1, 2, 3] rfl hv
  · replace hv := hv.2 c
    refine gk_iconst (pc := 1132) (nI 0) (DL_law_12.at 46 rfl) ci_0 ?_
    exact gk_ireturn (pc := 1133) .boolean (DL_law_12.at 47 rfl) rfl rfl ⟨_, rfl, hv⟩
set_option maxHeartbeats 4000000 in
theorem vL_law_1134 {E : gk_E} {dd : Nat} {x1 : Nat} {x2 : Nat} {x3 : Int32}  {h : gk_H} {K : Int32 → gk_H → Prop} (hv : (∃ fs, h[x1]? = some (.inr (10, fs))) ∧ RnI E mX11_later (dd, 0, 0) [.ref x1] h (fun v1 h1 => (∃ fs, h1[x2]? = some (.inr (11, fs))) ∧ RnI E mX12_later (dd, 0, 0) [.ref x2] h1 (fun v2 h2 => (v1 = v2 → pL_law_1500 E dd x1 x2 x3 h2 K) ∧ (¬ v1 = v2 → K (nI 0) h2)))) : pL_law_1134 E dd x1 x2 x3 h K := by
  show gk_G E mL_law (dd + 1, 0, 0) 1134 [(0, .ref 1000000), (1, .ref x1), (2, .ref x2), (3, .int x3)] [] h (fun o h1 => ∃ v, o = some (.int v) ∧ K v h1)
  refine gk_aload_n (pc := 1134) (DL_law_12.at 48 rfl) 1 rfl rfl ?_
  obtain ⟨⟨fs1, q1⟩, hv⟩ := hv
  refine gk_vV (pc := 1135) [] [] (DL_law_12.at 49 rfl) cvL_129 q1 rfl rfl (Nat.le_of_ble_eq_true rfl) (Nat.le_of_ble_eq_true rfl) (gk_Run.post (fun o h1 z => ?_) hv)
  obtain ⟨v1, rfl, hv⟩ := z
  refine gk_aload_n (pc := 1138) (DL_law_12.at 50 rfl) 2 rfl rfl ?_
  obtain ⟨⟨fs2, q2⟩, hv⟩ := hv
  refine gk_vV (pc := 1139) [] [.int v1] (DL_law_12.at 51 rfl) cvL_133 q2 rfl rfl (Nat.le_of_ble_eq_true rfl) (Nat.le_of_ble_eq_true rfl) (gk_Run.post (fun o h2 z => ?_) hv)
  obtain ⟨v2, rfl, hv⟩ := z
  refine gk_icmp_eq (pc := 1142) 1500 (DL_law_12.at 52 rfl) (by decide) (fun c => ?_) (fun c => ?_)
  · replace hv := hv.1 c
    exact gk_pick (pc := 1500) [(0, .ref 1000000), (1, .ref x1), (2, .ref x2), (3, .int x3)] [0, 1, 2, 3] rfl hv
  · replace hv := hv.2 c
    refine gk_iconst (pc := 1145) (nI 0) (DL_law_12.at 53 rfl) ci_0 ?_
    exact gk_ireturn (pc := 1146) .boolean (DL_law_12.at 54 rfl) rfl rfl ⟨_, rfl, hv⟩
set_option maxHeartbeats 4000000 in
theorem vL_law_1147 {E : gk_E} {dd : Nat} {x1 : Nat} {x2 : Nat} {x3 : Int32}  {h : gk_H} {K : Int32 → gk_H → Prop} (hv : (vp_in (x3 + (nI 1)) (gk_scr E).2.1) ∧ ((∃ fs, h[x1]? = some (.inr (10, fs))) ∧ RnI E mX11_board (dd, 0, 0) [.ref x1, .int ((gk_scr E).2.2 (x3 + (nI 1)).toNatClampNeg)] h (fun v2 h2 => (vp_in (x3 + (nI 1)) (gk_scr E).2.1) ∧ ((∃ fs, h2[x2]? = some (.inr (11, fs))) ∧ RnI E mX12_board (dd, 0, 0) [.ref x2, .int ((gk_scr E).2.2 (x3 + (nI 1)).toNatClampNeg)] h2 (fun v4 h4 => (v2 = v4 → pL_law_1500 E dd x1 x2 x3 h4 K) ∧ (¬ v2 = v4 → K (nI 0) h4)))))) : pL_law_1147 E dd x1 x2 x3 h K := by
  show gk_G E mL_law (dd + 1, 0, 0) 1147 [(0, .ref 1000000), (1, .ref x1), (2, .ref x2), (3, .int x3)] [] h (fun o h1 => ∃ v, o = some (.int v) ∧ K v h1)
  refine gk_aload_n (pc := 1147) (DL_law_12.at 55 rfl) 1 rfl rfl ?_
  refine gk_aload_n (pc := 1148) (DL_law_12.at 56 rfl) 0 rfl rfl ?_
  refine gk_iload_n (pc := 1149) (DL_law_12.at 57 rfl) 3 rfl rfl ?_
  refine gk_iconst (pc := 1150) (nI 1) (DL_law_12.at 58 rfl) ci_1 ?_
  refine gk_iadd (pc := 1151) (DL_law_12.at 59 rfl) ?_
  obtain ⟨q1, hv⟩ := hv
  refine gk_scr_ld (pc := 1152) (DL_law_13.at 0 rfl) q1 ?_
  obtain ⟨⟨fs2, q2⟩, hv⟩ := hv
  refine gk_vV (pc := 1153) [.int ((gk_scr E).2.2 (x3 + (nI 1)).toNatClampNeg)] [] (DL_law_13.at 1 rfl) cvL_134 q2 rfl rfl (Nat.le_of_ble_eq_true rfl) (Nat.le_of_ble_eq_true rfl) (gk_Run.post (fun o h2 z => ?_) hv)
  obtain ⟨v2, rfl, hv⟩ := z
  refine gk_aload_n (pc := 1156) (DL_law_13.at 2 rfl) 2 rfl rfl ?_
  refine gk_aload_n (pc := 1157) (DL_law_13.at 3 rfl) 0 rfl rfl ?_
  refine gk_iload_n (pc := 1158) (DL_law_13.at 4 rfl) 3 rfl rfl ?_
  refine gk_iconst (pc := 1159) (nI 1) (DL_law_13.at 5 rfl) ci_1 ?_
  refine gk_iadd (pc := 1160) (DL_law_13.at 6 rfl) ?_
  obtain ⟨q3, hv⟩ := hv
  refine gk_scr_ld (pc := 1161) (DL_law_13.at 7 rfl) q3 ?_
  obtain ⟨⟨fs4, q4⟩, hv⟩ := hv
  refine gk_vV (pc := 1162) [.int ((gk_scr E).2.2 (x3 + (nI 1)).toNatClampNeg)] [.int v2] (DL_law_13.at 8 rfl) cvL_137 q4 rfl rfl (Nat.le_of_ble_eq_true rfl) (Nat.le_of_ble_eq_true rfl) (gk_Run.post (fun o h4 z => ?_) hv)
  obtain ⟨v4, rfl, hv⟩ := z
  refine gk_icmp_eq (pc := 1165) 1500 (DL_law_13.at 9 rfl) (by decide) (fun c => ?_) (fun c => ?_)
  · replace hv := hv.1 c
    exact gk_pick (pc := 1500) [(0, .ref 1000000), (1, .ref x1), (2, .ref x2), (3, .int x3)] [0, 1, 2, 3] rfl hv
  · replace hv := hv.2 c
    refine gk_iconst (pc := 1168) (nI 0) (DL_law_13.at 10 rfl) ci_0 ?_
    exact gk_ireturn (pc := 1169) .boolean (DL_law_13.at 11 rfl) rfl rfl ⟨_, rfl, hv⟩
set_option maxHeartbeats 4000000 in
theorem vL_law_1170 {E : gk_E} {dd : Nat} {x1 : Nat} {x2 : Nat} {x3 : Int32}  {h : gk_H} {K : Int32 → gk_H → Prop} (hv : (vp_in (x3 + (nI 1)) (gk_scr E).2.1) ∧ ((∃ fs, h[x1]? = some (.inr (10, fs))) ∧ RnI E mX11_take (dd, 0, 0) [.ref x1, .int ((gk_scr E).2.2 (x3 + (nI 1)).toNatClampNeg)] h (fun v2 h2 => (vp_in (x3 + (nI 1)) (gk_scr E).2.1) ∧ ((∃ fs, h2[x2]? = some (.inr (11, fs))) ∧ RnI E mX12_take (dd, 0, 0) [.ref x2, .int ((gk_scr E).2.2 (x3 + (nI 1)).toNatClampNeg)] h2 (fun v4 h4 => (v2 = v4 → pL_law_1500 E dd x1 x2 x3 h4 K) ∧ (¬ v2 = v4 → K (nI 0) h4)))))) : pL_law_1170 E dd x1 x2 x3 h K := by
  show gk_G E mL_law (dd + 1, 0, 0) 1170 [(0, .ref 1000000), (1, .ref x1), (2, .ref x2), (3, .int x3)] [] h (fun o h1 => ∃ v, o = some (.int v) ∧ K v h1)
  refine gk_aload_n (pc := 1170) (DL_law_13.at 12 rfl) 1 rfl rfl ?_
  refine gk_aload_n (pc := 1171) (DL_law_13.at 13 rfl) 0 rfl rfl ?_
  refine gk_iload_n (pc := 1172) (DL_law_13.at 14 rfl) 3 rfl rfl ?_
  refine gk_iconst (pc := 1173) (nI 1) (DL_law_13.at 15 rfl) ci_1 ?_
  refine gk_iadd (pc := 1174) (DL_law_13.at 16 rfl) ?_
  obtain ⟨q1, hv⟩ := hv
  refine gk_scr_ld (pc := 1175) (DL_law_13.at 17 rfl) q1 ?_
  obtain ⟨⟨fs2, q2⟩, hv⟩ := hv
  refine gk_vV (pc := 1176) [.int ((gk_scr E).2.2 (x3 + (nI 1)).toNatClampNeg)] [] (DL_law_13.at 18 rfl) cvL_138 q2 rfl rfl (Nat.le_of_ble_eq_true rfl) (Nat.le_of_ble_eq_true rfl) (gk_Run.post (fun o h2 z => ?_) hv)
  obtain ⟨v2, rfl, hv⟩ := z
  refine gk_aload_n (pc := 1179) (DL_law_13.at 19 rfl) 2 rfl rfl ?_
  refine gk_aload_n (pc := 1180) (DL_law_13.at 20 rfl) 0 rfl rfl ?_
  refine gk_iload_n (pc := 1181) (DL_law_13.at 21 rfl) 3 rfl rfl ?_
  refine gk_iconst (pc := 1182) (nI 1) (DL_law_13.at 22 rfl) ci_1 ?_
  refine gk_iadd (pc := 1183) (DL_law_13.at 23 rfl) ?_
  obtain ⟨q3, hv⟩ := hv
  refine gk_scr_ld (pc := 1184) (DL_law_13.at 24 rfl) q3 ?_
  obtain ⟨⟨fs4, q4⟩, hv⟩ := hv
  refine gk_vV (pc := 1185) [.int ((gk_scr E).2.2 (x3 + (nI 1)).toNatClampNeg)] [.int v2] (DL_law_13.at 25 rfl) cvL_141 q4 rfl rfl (Nat.le_of_ble_eq_true rfl) (Nat.le_of_ble_eq_true rfl) (gk_Run.post (fun o h4 z => ?_) hv)
  obtain ⟨v4, rfl, hv⟩ := z
  refine gk_icmp_eq (pc := 1188) 1500 (DL_law_13.at 26 rfl) (by decide) (fun c => ?_) (fun c => ?_)
  · replace hv := hv.1 c
    exact gk_pick (pc := 1500) [(0, .ref 1000000), (1, .ref x1), (2, .ref x2), (3, .int x3)] [0, 1, 2, 3] rfl hv
  · replace hv := hv.2 c
    refine gk_iconst (pc := 1191) (nI 0) (DL_law_13.at 27 rfl) ci_0 ?_
    exact gk_ireturn (pc := 1192) .boolean (DL_law_13.at 28 rfl) rfl rfl ⟨_, rfl, hv⟩
set_option maxHeartbeats 4000000 in
theorem vL_law_1193 {E : gk_E} {dd : Nat} {x1 : Nat} {x2 : Nat} {x3 : Int32}  {h : gk_H} {K : Int32 → gk_H → Prop} (hv : (vp_in (x3 + (nI 1)) (gk_scr E).2.1) ∧ ((∃ fs, h[x1]? = some (.inr (10, fs))) ∧ RnI E mX11_judge (dd, 0, 0) [.ref x1, .int ((gk_scr E).2.2 (x3 + (nI 1)).toNatClampNeg)] h (fun v2 h2 => (vp_in (x3 + (nI 1)) (gk_scr E).2.1) ∧ ((∃ fs, h2[x2]? = some (.inr (11, fs))) ∧ RnI E mX12_judge (dd, 0, 0) [.ref x2, .int ((gk_scr E).2.2 (x3 + (nI 1)).toNatClampNeg)] h2 (fun v4 h4 => (v2 = v4 → pL_law_1500 E dd x1 x2 x3 h4 K) ∧ (¬ v2 = v4 → K (nI 0) h4)))))) : pL_law_1193 E dd x1 x2 x3 h K := by
  show gk_G E mL_law (dd + 1, 0, 0) 1193 [(0, .ref 1000000), (1, .ref x1), (2, .ref x2), (3, .int x3)] [] h (fun o h1 => ∃ v, o = some (.int v) ∧ K v h1)
  refine gk_aload_n (pc := 1193) (DL_law_13.at 29 rfl) 1 rfl rfl ?_
  refine gk_aload_n (pc := 1194) (DL_law_13.at 30 rfl) 0 rfl rfl ?_
  refine gk_iload_n (pc := 1195) (DL_law_13.at 31 rfl) 3 rfl rfl ?_
  refine gk_iconst (pc := 1196) (nI 1) (DL_law_13.at 32 rfl) ci_1 ?_
  refine gk_iadd (pc := 1197) (DL_law_13.at 33 rfl) ?_
  obtain ⟨q1, hv⟩ := hv
  refine gk_scr_ld (pc := 1198) (DL_law_13.at 34 rfl) q1 ?_
  obtain ⟨⟨fs2, q2⟩, hv⟩ := hv
  refine gk_vV (pc := 1199) [.int ((gk_scr E).2.2 (x3 + (nI 1)).toNatClampNeg)] [] (DL_law_13.at 35 rfl) cvL_142 q2 rfl rfl (Nat.le_of_ble_eq_true rfl) (Nat.le_of_ble_eq_true rfl) (gk_Run.post (fun o h2 z => ?_) hv)
  obtain ⟨v2, rfl, hv⟩ := z
  refine gk_aload_n (pc := 1202) (DL_law_13.at 36 rfl) 2 rfl rfl ?_
  refine gk_aload_n (pc := 1203) (DL_law_13.at 37 rfl) 0 rfl rfl ?_
  refine gk_iload_n (pc := 1204) (DL_law_13.at 38 rfl) 3 rfl rfl ?_
  refine gk_iconst (pc := 1205) (nI 1) (DL_law_13.at 39 rfl) ci_1 ?_
  refine gk_iadd (pc := 1206) (DL_law_13.at 40 rfl) ?_
  obtain ⟨q3, hv⟩ := hv
  refine gk_scr_ld (pc := 1207) (DL_law_13.at 41 rfl) q3 ?_
  obtain ⟨⟨fs4, q4⟩, hv⟩ := hv
  refine gk_vV (pc := 1208) [.int ((gk_scr E).2.2 (x3 + (nI 1)).toNatClampNeg)] [.int v2] (DL_law_13.at 42 rfl) cvL_145 q4 rfl rfl (Nat.le_of_ble_eq_true rfl) (Nat.le_of_ble_eq_true rfl) (gk_Run.post (fun o h4 z => ?_) hv)
  obtain ⟨v4, rfl, hv⟩ := z
  refine gk_icmp_eq (pc := 1211) 1500 (DL_law_13.at 43 rfl) (by decide) (fun c => ?_) (fun c => ?_)
  · replace hv := hv.1 c
    exact gk_pick (pc := 1500) [(0, .ref 1000000), (1, .ref x1), (2, .ref x2), (3, .int x3)] [0, 1, 2, 3] rfl hv
  · replace hv := hv.2 c
    refine gk_iconst (pc := 1214) (nI 0) (DL_law_13.at 44 rfl) ci_0 ?_
    exact gk_ireturn (pc := 1215) .boolean (DL_law_13.at 45 rfl) rfl rfl ⟨_, rfl, hv⟩
set_option maxHeartbeats 4000000 in
theorem vL_law_1216 {E : gk_E} {dd : Nat} {x1 : Nat} {x2 : Nat} {x3 : Int32}  {h : gk_H} {K : Int32 → gk_H → Prop} (hv : (vp_in (x3 + (nI 1)) (gk_scr E).2.1) ∧ ((∃ fs, h[x1]? = some (.inr (10, fs))) ∧ RnI E mX11_found (dd, 0, 0) [.ref x1, .int ((gk_scr E).2.2 (x3 + (nI 1)).toNatClampNeg)] h (fun v2 h2 => (vp_in (x3 + (nI 1)) (gk_scr E).2.1) ∧ ((∃ fs, h2[x2]? = some (.inr (11, fs))) ∧ RnI E mX12_found (dd, 0, 0) [.ref x2, .int ((gk_scr E).2.2 (x3 + (nI 1)).toNatClampNeg)] h2 (fun v4 h4 => (v2 = v4 → pL_law_1500 E dd x1 x2 x3 h4 K) ∧ (¬ v2 = v4 → K (nI 0) h4)))))) : pL_law_1216 E dd x1 x2 x3 h K := by
  show gk_G E mL_law (dd + 1, 0, 0) 1216 [(0, .ref 1000000), (1, .ref x1), (2, .ref x2), (3, .int x3)] [] h (fun o h1 => ∃ v, o = some (.int v) ∧ K v h1)
  refine gk_aload_n (pc := 1216) (DL_law_13.at 46 rfl) 1 rfl rfl ?_
  refine gk_aload_n (pc := 1217) (DL_law_13.at 47 rfl) 0 rfl rfl ?_
  refine gk_iload_n (pc := 1218) (DL_law_13.at 48 rfl) 3 rfl rfl ?_
  refine gk_iconst (pc := 1219) (nI 1) (DL_law_13.at 49 rfl) ci_1 ?_
  refine gk_iadd (pc := 1220) (DL_law_13.at 50 rfl) ?_
  obtain ⟨q1, hv⟩ := hv
  refine gk_scr_ld (pc := 1221) (DL_law_13.at 51 rfl) q1 ?_
  obtain ⟨⟨fs2, q2⟩, hv⟩ := hv
  refine gk_vV (pc := 1222) [.int ((gk_scr E).2.2 (x3 + (nI 1)).toNatClampNeg)] [] (DL_law_13.at 52 rfl) cvL_146 q2 rfl rfl (Nat.le_of_ble_eq_true rfl) (Nat.le_of_ble_eq_true rfl) (gk_Run.post (fun o h2 z => ?_) hv)
  obtain ⟨v2, rfl, hv⟩ := z
  refine gk_aload_n (pc := 1225) (DL_law_13.at 53 rfl) 2 rfl rfl ?_
  refine gk_aload_n (pc := 1226) (DL_law_13.at 54 rfl) 0 rfl rfl ?_
  refine gk_iload_n (pc := 1227) (DL_law_13.at 55 rfl) 3 rfl rfl ?_
  refine gk_iconst (pc := 1228) (nI 1) (DL_law_13.at 56 rfl) ci_1 ?_
  refine gk_iadd (pc := 1229) (DL_law_13.at 57 rfl) ?_
  obtain ⟨q3, hv⟩ := hv
  refine gk_scr_ld (pc := 1230) (DL_law_13.at 58 rfl) q3 ?_
  obtain ⟨⟨fs4, q4⟩, hv⟩ := hv
  refine gk_vV (pc := 1231) [.int ((gk_scr E).2.2 (x3 + (nI 1)).toNatClampNeg)] [.int v2] (DL_law_13.at 59 rfl) cvL_149 q4 rfl rfl (Nat.le_of_ble_eq_true rfl) (Nat.le_of_ble_eq_true rfl) (gk_Run.post (fun o h4 z => ?_) hv)
  obtain ⟨v4, rfl, hv⟩ := z
  refine gk_icmp_eq (pc := 1234) 1500 (DL_law_14.at 0 rfl) (by decide) (fun c => ?_) (fun c => ?_)
  · replace hv := hv.1 c
    exact gk_pick (pc := 1500) [(0, .ref 1000000), (1, .ref x1), (2, .ref x2), (3, .int x3)] [0, 1, 2, 3] rfl hv
  · replace hv := hv.2 c
    refine gk_iconst (pc := 1237) (nI 0) (DL_law_14.at 1 rfl) ci_0 ?_
    exact gk_ireturn (pc := 1238) .boolean (DL_law_14.at 2 rfl) rfl rfl ⟨_, rfl, hv⟩
set_option maxHeartbeats 4000000 in
theorem vL_law_1239 {E : gk_E} {dd : Nat} {x1 : Nat} {x2 : Nat} {x3 : Int32}  {h : gk_H} {K : Int32 → gk_H → Prop} (hv : (vp_in (x3 + (nI 1)) (gk_scr E).2.1) ∧ ((vp_in (x3 + (nI 2)) (gk_scr E).2.1) ∧ ((∃ fs, h[x1]? = some (.inr (10, fs))) ∧ RnI E mX11_list (dd, 0, 0) [.ref x1, .int ((gk_scr E).2.2 (x3 + (nI 1)).toNatClampNeg), .int ((gk_scr E).2.2 (x3 + (nI 2)).toNatClampNeg)] h (fun v3 h3 => (vp_in (x3 + (nI 1)) (gk_scr E).2.1) ∧ ((vp_in (x3 + (nI 2)) (gk_scr E).2.1) ∧ ((∃ fs, h3[x2]? = some (.inr (11, fs))) ∧ RnI E mX12_list (dd, 0, 0) [.ref x2, .int ((gk_scr E).2.2 (x3 + (nI 1)).toNatClampNeg), .int ((gk_scr E).2.2 (x3 + (nI 2)).toNatClampNeg)] h3 (fun v6 h6 => (v3 = v6 → pL_law_1500 E dd x1 x2 x3 h6 K) ∧ (¬ v3 = v6 → K (nI 0) h6)))))))) : pL_law_1239 E dd x1 x2 x3 h K := by
  show gk_G E mL_law (dd + 1, 0, 0) 1239 [(0, .ref 1000000), (1, .ref x1), (2, .ref x2), (3, .int x3)] [] h (fun o h1 => ∃ v, o = some (.int v) ∧ K v h1)
  refine gk_aload_n (pc := 1239) (DL_law_14.at 3 rfl) 1 rfl rfl ?_
  refine gk_aload_n (pc := 1240) (DL_law_14.at 4 rfl) 0 rfl rfl ?_
  refine gk_iload_n (pc := 1241) (DL_law_14.at 5 rfl) 3 rfl rfl ?_
  refine gk_iconst (pc := 1242) (nI 1) (DL_law_14.at 6 rfl) ci_1 ?_
  refine gk_iadd (pc := 1243) (DL_law_14.at 7 rfl) ?_
  obtain ⟨q1, hv⟩ := hv
  refine gk_scr_ld (pc := 1244) (DL_law_14.at 8 rfl) q1 ?_
  refine gk_aload_n (pc := 1245) (DL_law_14.at 9 rfl) 0 rfl rfl ?_
  refine gk_iload_n (pc := 1246) (DL_law_14.at 10 rfl) 3 rfl rfl ?_
  refine gk_iconst (pc := 1247) (nI 2) (DL_law_14.at 11 rfl) ci_2 ?_
  refine gk_iadd (pc := 1248) (DL_law_14.at 12 rfl) ?_
  obtain ⟨q2, hv⟩ := hv
  refine gk_scr_ld (pc := 1249) (DL_law_14.at 13 rfl) q2 ?_
  obtain ⟨⟨fs3, q3⟩, hv⟩ := hv
  refine gk_vV (pc := 1250) [.int ((gk_scr E).2.2 (x3 + (nI 1)).toNatClampNeg), .int ((gk_scr E).2.2 (x3 + (nI 2)).toNatClampNeg)] [] (DL_law_14.at 14 rfl) cvL_150 q3 rfl rfl (Nat.le_of_ble_eq_true rfl) (Nat.le_of_ble_eq_true rfl) (gk_Run.post (fun o h3 z => ?_) hv)
  obtain ⟨v3, rfl, hv⟩ := z
  refine gk_aload_n (pc := 1253) (DL_law_14.at 15 rfl) 2 rfl rfl ?_
  refine gk_aload_n (pc := 1254) (DL_law_14.at 16 rfl) 0 rfl rfl ?_
  refine gk_iload_n (pc := 1255) (DL_law_14.at 17 rfl) 3 rfl rfl ?_
  refine gk_iconst (pc := 1256) (nI 1) (DL_law_14.at 18 rfl) ci_1 ?_
  refine gk_iadd (pc := 1257) (DL_law_14.at 19 rfl) ?_
  obtain ⟨q4, hv⟩ := hv
  refine gk_scr_ld (pc := 1258) (DL_law_14.at 20 rfl) q4 ?_
  refine gk_aload_n (pc := 1259) (DL_law_14.at 21 rfl) 0 rfl rfl ?_
  refine gk_iload_n (pc := 1260) (DL_law_14.at 22 rfl) 3 rfl rfl ?_
  refine gk_iconst (pc := 1261) (nI 2) (DL_law_14.at 23 rfl) ci_2 ?_
  refine gk_iadd (pc := 1262) (DL_law_14.at 24 rfl) ?_
  obtain ⟨q5, hv⟩ := hv
  refine gk_scr_ld (pc := 1263) (DL_law_14.at 25 rfl) q5 ?_
  obtain ⟨⟨fs6, q6⟩, hv⟩ := hv
  refine gk_vV (pc := 1264) [.int ((gk_scr E).2.2 (x3 + (nI 1)).toNatClampNeg), .int ((gk_scr E).2.2 (x3 + (nI 2)).toNatClampNeg)] [.int v3] (DL_law_14.at 26 rfl) cvL_153 q6 rfl rfl (Nat.le_of_ble_eq_true rfl) (Nat.le_of_ble_eq_true rfl) (gk_Run.post (fun o h6 z => ?_) hv)
  obtain ⟨v6, rfl, hv⟩ := z
  refine gk_icmp_eq (pc := 1267) 1500 (DL_law_14.at 27 rfl) (by decide) (fun c => ?_) (fun c => ?_)
  · replace hv := hv.1 c
    exact gk_pick (pc := 1500) [(0, .ref 1000000), (1, .ref x1), (2, .ref x2), (3, .int x3)] [0, 1, 2, 3] rfl hv
  · replace hv := hv.2 c
    refine gk_iconst (pc := 1270) (nI 0) (DL_law_14.at 28 rfl) ci_0 ?_
    exact gk_ireturn (pc := 1271) .boolean (DL_law_14.at 29 rfl) rfl rfl ⟨_, rfl, hv⟩
set_option maxHeartbeats 4000000 in
theorem vL_law_1272 {E : gk_E} {dd : Nat} {x1 : Nat} {x2 : Nat} {x3 : Int32}  {h : gk_H} {K : Int32 → gk_H → Prop} (hv : (vp_in (x3 + (nI 1)) (gk_scr E).2.1) ∧ ((vp_in (x3 + (nI 2)) (gk_scr E).2.1) ∧ ((vp_in (x3 + (nI 3)) (gk_scr E).2.1) ∧ ((vp_in (x3 + (nI 4)) (gk_scr E).2.1) ∧ ((∃ fs, h[x1]? = some (.inr (10, fs))) ∧ RnI E mX11_put (dd, 0, 0) [.ref x1, .int ((gk_scr E).2.2 (x3 + (nI 1)).toNatClampNeg), .int ((gk_scr E).2.2 (x3 + (nI 2)).toNatClampNeg), .long (((((gk_scr E).2.2 (x3 + (nI 3)).toNatClampNeg).toInt64) <<< ((nI 32).toInt64 &&& 63)) ||| ((((gk_scr E).2.2 (x3 + (nI 4)).toNatClampNeg).toInt64) &&& (lN 4294967295)))] h (fun v5 h5 => (vp_in (x3 + (nI 1)) (gk_scr E).2.1) ∧ ((vp_in (x3 + (nI 2)) (gk_scr E).2.1) ∧ ((vp_in (x3 + (nI 3)) (gk_scr E).2.1) ∧ ((vp_in (x3 + (nI 4)) (gk_scr E).2.1) ∧ ((∃ fs, h5[x2]? = some (.inr (11, fs))) ∧ RnI E mX12_put (dd, 0, 0) [.ref x2, .int ((gk_scr E).2.2 (x3 + (nI 1)).toNatClampNeg), .int ((gk_scr E).2.2 (x3 + (nI 2)).toNatClampNeg), .long (((((gk_scr E).2.2 (x3 + (nI 3)).toNatClampNeg).toInt64) <<< ((nI 32).toInt64 &&& 63)) ||| ((((gk_scr E).2.2 (x3 + (nI 4)).toNatClampNeg).toInt64) &&& (lN 4294967295)))] h5 (fun v10 h10 => (v5 = v10 → pL_law_1500 E dd x1 x2 x3 h10 K) ∧ (¬ v5 = v10 → K (nI 0) h10)))))))))))) : pL_law_1272 E dd x1 x2 x3 h K := by
  show gk_G E mL_law (dd + 1, 0, 0) 1272 [(0, .ref 1000000), (1, .ref x1), (2, .ref x2), (3, .int x3)] [] h (fun o h1 => ∃ v, o = some (.int v) ∧ K v h1)
  refine gk_aload_n (pc := 1272) (DL_law_14.at 30 rfl) 1 rfl rfl ?_
  refine gk_aload_n (pc := 1273) (DL_law_14.at 31 rfl) 0 rfl rfl ?_
  refine gk_iload_n (pc := 1274) (DL_law_14.at 32 rfl) 3 rfl rfl ?_
  refine gk_iconst (pc := 1275) (nI 1) (DL_law_14.at 33 rfl) ci_1 ?_
  refine gk_iadd (pc := 1276) (DL_law_14.at 34 rfl) ?_
  obtain ⟨q1, hv⟩ := hv
  refine gk_scr_ld (pc := 1277) (DL_law_14.at 35 rfl) q1 ?_
  refine gk_aload_n (pc := 1278) (DL_law_14.at 36 rfl) 0 rfl rfl ?_
  refine gk_iload_n (pc := 1279) (DL_law_14.at 37 rfl) 3 rfl rfl ?_
  refine gk_iconst (pc := 1280) (nI 2) (DL_law_14.at 38 rfl) ci_2 ?_
  refine gk_iadd (pc := 1281) (DL_law_14.at 39 rfl) ?_
  obtain ⟨q2, hv⟩ := hv
  refine gk_scr_ld (pc := 1282) (DL_law_14.at 40 rfl) q2 ?_
  refine gk_aload_n (pc := 1283) (DL_law_14.at 41 rfl) 0 rfl rfl ?_
  refine gk_iload_n (pc := 1284) (DL_law_14.at 42 rfl) 3 rfl rfl ?_
  refine gk_iconst (pc := 1285) (nI 3) (DL_law_14.at 43 rfl) ci_3 ?_
  refine gk_iadd (pc := 1286) (DL_law_14.at 44 rfl) ?_
  obtain ⟨q3, hv⟩ := hv
  refine gk_scr_ld (pc := 1287) (DL_law_14.at 45 rfl) q3 ?_
  refine gk_i2l (pc := 1288) (DL_law_14.at 46 rfl) ?_
  refine gk_bipush (pc := 1289) (nI 32) (DL_law_14.at 47 rfl) cb_32 ?_
  refine gk_lshl (pc := 1291) (DL_law_14.at 48 rfl) ?_
  refine gk_aload_n (pc := 1292) (DL_law_14.at 49 rfl) 0 rfl rfl ?_
  refine gk_iload_n (pc := 1293) (DL_law_14.at 50 rfl) 3 rfl rfl ?_
  refine gk_iconst (pc := 1294) (nI 4) (DL_law_14.at 51 rfl) ci_4 ?_
  refine gk_iadd (pc := 1295) (DL_law_14.at 52 rfl) ?_
  obtain ⟨q4, hv⟩ := hv
  refine gk_scr_ld (pc := 1296) (DL_law_14.at 53 rfl) q4 ?_
  refine gk_i2l (pc := 1297) (DL_law_14.at 54 rfl) ?_
  refine gk_ldc2 (pc := 1298) (lN 4294967295) (DL_law_14.at 55 rfl) klL_154 ?_
  refine gk_land (pc := 1301) (DL_law_14.at 56 rfl) ?_
  refine gk_lor (pc := 1302) (DL_law_14.at 57 rfl) ?_
  obtain ⟨⟨fs5, q5⟩, hv⟩ := hv
  refine gk_vV (pc := 1303) [.int ((gk_scr E).2.2 (x3 + (nI 1)).toNatClampNeg), .int ((gk_scr E).2.2 (x3 + (nI 2)).toNatClampNeg), .long (((((gk_scr E).2.2 (x3 + (nI 3)).toNatClampNeg).toInt64) <<< ((nI 32).toInt64 &&& 63)) ||| ((((gk_scr E).2.2 (x3 + (nI 4)).toNatClampNeg).toInt64) &&& (lN 4294967295)))] [] (DL_law_14.at 58 rfl) cvL_156 q5 rfl rfl (Nat.le_of_ble_eq_true rfl) (Nat.le_of_ble_eq_true rfl) (gk_Run.post (fun o h5 z => ?_) hv)
  obtain ⟨v5, rfl, hv⟩ := z
  refine gk_aload_n (pc := 1306) (DL_law_14.at 59 rfl) 2 rfl rfl ?_
  refine gk_aload_n (pc := 1307) (DL_law_15.at 0 rfl) 0 rfl rfl ?_
  refine gk_iload_n (pc := 1308) (DL_law_15.at 1 rfl) 3 rfl rfl ?_
  refine gk_iconst (pc := 1309) (nI 1) (DL_law_15.at 2 rfl) ci_1 ?_
  refine gk_iadd (pc := 1310) (DL_law_15.at 3 rfl) ?_
  obtain ⟨q6, hv⟩ := hv
  refine gk_scr_ld (pc := 1311) (DL_law_15.at 4 rfl) q6 ?_
  refine gk_aload_n (pc := 1312) (DL_law_15.at 5 rfl) 0 rfl rfl ?_
  refine gk_iload_n (pc := 1313) (DL_law_15.at 6 rfl) 3 rfl rfl ?_
  refine gk_iconst (pc := 1314) (nI 2) (DL_law_15.at 7 rfl) ci_2 ?_
  refine gk_iadd (pc := 1315) (DL_law_15.at 8 rfl) ?_
  obtain ⟨q7, hv⟩ := hv
  refine gk_scr_ld (pc := 1316) (DL_law_15.at 9 rfl) q7 ?_
  refine gk_aload_n (pc := 1317) (DL_law_15.at 10 rfl) 0 rfl rfl ?_
  refine gk_iload_n (pc := 1318) (DL_law_15.at 11 rfl) 3 rfl rfl ?_
  refine gk_iconst (pc := 1319) (nI 3) (DL_law_15.at 12 rfl) ci_3 ?_
  refine gk_iadd (pc := 1320) (DL_law_15.at 13 rfl) ?_
  obtain ⟨q8, hv⟩ := hv
  refine gk_scr_ld (pc := 1321) (DL_law_15.at 14 rfl) q8 ?_
  refine gk_i2l (pc := 1322) (DL_law_15.at 15 rfl) ?_
  refine gk_bipush (pc := 1323) (nI 32) (DL_law_15.at 16 rfl) cb_32 ?_
  refine gk_lshl (pc := 1325) (DL_law_15.at 17 rfl) ?_
  refine gk_aload_n (pc := 1326) (DL_law_15.at 18 rfl) 0 rfl rfl ?_
  refine gk_iload_n (pc := 1327) (DL_law_15.at 19 rfl) 3 rfl rfl ?_
  refine gk_iconst (pc := 1328) (nI 4) (DL_law_15.at 20 rfl) ci_4 ?_
  refine gk_iadd (pc := 1329) (DL_law_15.at 21 rfl) ?_
  obtain ⟨q9, hv⟩ := hv
  refine gk_scr_ld (pc := 1330) (DL_law_15.at 22 rfl) q9 ?_
  refine gk_i2l (pc := 1331) (DL_law_15.at 23 rfl) ?_
  refine gk_ldc2 (pc := 1332) (lN 4294967295) (DL_law_15.at 24 rfl) klL_154 ?_
  refine gk_land (pc := 1335) (DL_law_15.at 25 rfl) ?_
  refine gk_lor (pc := 1336) (DL_law_15.at 26 rfl) ?_
  obtain ⟨⟨fs10, q10⟩, hv⟩ := hv
  refine gk_vV (pc := 1337) [.int ((gk_scr E).2.2 (x3 + (nI 1)).toNatClampNeg), .int ((gk_scr E).2.2 (x3 + (nI 2)).toNatClampNeg), .long (((((gk_scr E).2.2 (x3 + (nI 3)).toNatClampNeg).toInt64) <<< ((nI 32).toInt64 &&& 63)) ||| ((((gk_scr E).2.2 (x3 + (nI 4)).toNatClampNeg).toInt64) &&& (lN 4294967295)))] [.int v5] (DL_law_15.at 27 rfl) cvL_160 q10 rfl rfl (Nat.le_of_ble_eq_true rfl) (Nat.le_of_ble_eq_true rfl) (gk_Run.post (fun o h10 z => ?_) hv)
  obtain ⟨v10, rfl, hv⟩ := z
  refine gk_icmp_eq (pc := 1340) 1500 (DL_law_15.at 28 rfl) (by decide) (fun c => ?_) (fun c => ?_)
  · replace hv := hv.1 c
    exact gk_pick (pc := 1500) [(0, .ref 1000000), (1, .ref x1), (2, .ref x2), (3, .int x3)] [0, 1, 2, 3] rfl hv
  · replace hv := hv.2 c
    refine gk_iconst (pc := 1343) (nI 0) (DL_law_15.at 29 rfl) ci_0 ?_
    exact gk_ireturn (pc := 1344) .boolean (DL_law_15.at 30 rfl) rfl rfl ⟨_, rfl, hv⟩
set_option maxHeartbeats 4000000 in
theorem vL_law_1345 {E : gk_E} {dd : Nat} {x1 : Nat} {x2 : Nat} {x3 : Int32}  {h : gk_H} {K : Int32 → gk_H → Prop} (hv : (vp_in (x3 + (nI 1)) (gk_scr E).2.1) ∧ ((vp_in (x3 + (nI 2)) (gk_scr E).2.1) ∧ ((∃ fs, h[x1]? = some (.inr (10, fs))) ∧ RnL E mX11_get (dd, 0, 0) [.ref x1, .int ((gk_scr E).2.2 (x3 + (nI 1)).toNatClampNeg), .int ((gk_scr E).2.2 (x3 + (nI 2)).toNatClampNeg)] h (fun v3 h3 => (vp_in (x3 + (nI 1)) (gk_scr E).2.1) ∧ ((vp_in (x3 + (nI 2)) (gk_scr E).2.1) ∧ ((∃ fs, h3[x2]? = some (.inr (11, fs))) ∧ RnL E mX12_get (dd, 0, 0) [.ref x2, .int ((gk_scr E).2.2 (x3 + (nI 1)).toNatClampNeg), .int ((gk_scr E).2.2 (x3 + (nI 2)).toNatClampNeg)] h3 (fun v6 h6 => ((lg_cmp v3 v6) = 0 → pL_law_1500 E dd x1 x2 x3 h6 K) ∧ (¬ (lg_cmp v3 v6) = 0 → K (nI 0) h6)))))))) : pL_law_1345 E dd x1 x2 x3 h K := by
  show gk_G E mL_law (dd + 1, 0, 0) 1345 [(0, .ref 1000000), (1, .ref x1), (2, .ref x2), (3, .int x3)] [] h (fun o h1 => ∃ v, o = some (.int v) ∧ K v h1)
  refine gk_aload_n (pc := 1345) (DL_law_15.at 31 rfl) 1 rfl rfl ?_
  refine gk_aload_n (pc := 1346) (DL_law_15.at 32 rfl) 0 rfl rfl ?_
  refine gk_iload_n (pc := 1347) (DL_law_15.at 33 rfl) 3 rfl rfl ?_
  refine gk_iconst (pc := 1348) (nI 1) (DL_law_15.at 34 rfl) ci_1 ?_
  refine gk_iadd (pc := 1349) (DL_law_15.at 35 rfl) ?_
  obtain ⟨q1, hv⟩ := hv
  refine gk_scr_ld (pc := 1350) (DL_law_15.at 36 rfl) q1 ?_
  refine gk_aload_n (pc := 1351) (DL_law_15.at 37 rfl) 0 rfl rfl ?_
  refine gk_iload_n (pc := 1352) (DL_law_15.at 38 rfl) 3 rfl rfl ?_
  refine gk_iconst (pc := 1353) (nI 2) (DL_law_15.at 39 rfl) ci_2 ?_
  refine gk_iadd (pc := 1354) (DL_law_15.at 40 rfl) ?_
  obtain ⟨q2, hv⟩ := hv
  refine gk_scr_ld (pc := 1355) (DL_law_15.at 41 rfl) q2 ?_
  obtain ⟨⟨fs3, q3⟩, hv⟩ := hv
  refine gk_vV (pc := 1356) [.int ((gk_scr E).2.2 (x3 + (nI 1)).toNatClampNeg), .int ((gk_scr E).2.2 (x3 + (nI 2)).toNatClampNeg)] [] (DL_law_15.at 42 rfl) cvL_161 q3 rfl rfl (Nat.le_of_ble_eq_true rfl) (Nat.le_of_ble_eq_true rfl) (gk_Run.post (fun o h3 z => ?_) hv)
  obtain ⟨v3, rfl, hv⟩ := z
  refine gk_aload_n (pc := 1359) (DL_law_15.at 43 rfl) 2 rfl rfl ?_
  refine gk_aload_n (pc := 1360) (DL_law_15.at 44 rfl) 0 rfl rfl ?_
  refine gk_iload_n (pc := 1361) (DL_law_15.at 45 rfl) 3 rfl rfl ?_
  refine gk_iconst (pc := 1362) (nI 1) (DL_law_15.at 46 rfl) ci_1 ?_
  refine gk_iadd (pc := 1363) (DL_law_15.at 47 rfl) ?_
  obtain ⟨q4, hv⟩ := hv
  refine gk_scr_ld (pc := 1364) (DL_law_15.at 48 rfl) q4 ?_
  refine gk_aload_n (pc := 1365) (DL_law_15.at 49 rfl) 0 rfl rfl ?_
  refine gk_iload_n (pc := 1366) (DL_law_15.at 50 rfl) 3 rfl rfl ?_
  refine gk_iconst (pc := 1367) (nI 2) (DL_law_15.at 51 rfl) ci_2 ?_
  refine gk_iadd (pc := 1368) (DL_law_15.at 52 rfl) ?_
  obtain ⟨q5, hv⟩ := hv
  refine gk_scr_ld (pc := 1369) (DL_law_15.at 53 rfl) q5 ?_
  obtain ⟨⟨fs6, q6⟩, hv⟩ := hv
  refine gk_vV (pc := 1370) [.int ((gk_scr E).2.2 (x3 + (nI 1)).toNatClampNeg), .int ((gk_scr E).2.2 (x3 + (nI 2)).toNatClampNeg)] [.long v3] (DL_law_15.at 54 rfl) cvL_165 q6 rfl rfl (Nat.le_of_ble_eq_true rfl) (Nat.le_of_ble_eq_true rfl) (gk_Run.post (fun o h6 z => ?_) hv)
  obtain ⟨v6, rfl, hv⟩ := z
  refine gk_lcmp (pc := 1373) (DL_law_15.at 55 rfl) ?_
  refine gk_if_eq (pc := 1374) 1500 (DL_law_15.at 56 rfl) (by decide) (fun c => ?_) (fun c => ?_)
  · replace hv := hv.1 c
    exact gk_pick (pc := 1500) [(0, .ref 1000000), (1, .ref x1), (2, .ref x2), (3, .int x3)] [0, 1, 2, 3] rfl hv
  · replace hv := hv.2 c
    refine gk_iconst (pc := 1377) (nI 0) (DL_law_15.at 57 rfl) ci_0 ?_
    exact gk_ireturn (pc := 1378) .boolean (DL_law_15.at 58 rfl) rfl rfl ⟨_, rfl, hv⟩
set_option maxHeartbeats 4000000 in
theorem vL_law_1379 {E : gk_E} {dd : Nat} {x1 : Nat} {x2 : Nat} {x3 : Int32}  {h : gk_H} {K : Int32 → gk_H → Prop} (hv : (vp_in (x3 + (nI 1)) (gk_scr E).2.1) ∧ ((∃ fs, h[x1]? = some (.inr (10, fs))) ∧ RnI E mX11_feed (dd, 0, 0) [.ref x1, .int ((gk_scr E).2.2 (x3 + (nI 1)).toNatClampNeg)] h (fun v2 h2 => (vp_in (x3 + (nI 1)) (gk_scr E).2.1) ∧ ((∃ fs, h2[x2]? = some (.inr (11, fs))) ∧ RnI E mX12_feed (dd, 0, 0) [.ref x2, .int ((gk_scr E).2.2 (x3 + (nI 1)).toNatClampNeg)] h2 (fun v4 h4 => (v2 = v4 → pL_law_1500 E dd x1 x2 x3 h4 K) ∧ (¬ v2 = v4 → K (nI 0) h4)))))) : pL_law_1379 E dd x1 x2 x3 h K := by
  show gk_G E mL_law (dd + 1, 0, 0) 1379 [(0, .ref 1000000), (1, .ref x1), (2, .ref x2), (3, .int x3)] [] h (fun o h1 => ∃ v, o = some (.int v) ∧ K v h1)
  refine gk_aload_n (pc := 1379) (DL_law_15.at 59 rfl) 1 rfl rfl ?_
  refine gk_aload_n (pc := 1380) (DL_law_16.at 0 rfl) 0 rfl rfl ?_
  refine gk_iload_n (pc := 1381) (DL_law_16.at 1 rfl) 3 rfl rfl ?_
  refine gk_iconst (pc := 1382) (nI 1) (DL_law_16.at 2 rfl) ci_1 ?_
  refine gk_iadd (pc := 1383) (DL_law_16.at 3 rfl) ?_
  obtain ⟨q1, hv⟩ := hv
  refine gk_scr_ld (pc := 1384) (DL_law_16.at 4 rfl) q1 ?_
  obtain ⟨⟨fs2, q2⟩, hv⟩ := hv
  refine gk_vV (pc := 1385) [.int ((gk_scr E).2.2 (x3 + (nI 1)).toNatClampNeg)] [] (DL_law_16.at 5 rfl) cvL_166 q2 rfl rfl (Nat.le_of_ble_eq_true rfl) (Nat.le_of_ble_eq_true rfl) (gk_Run.post (fun o h2 z => ?_) hv)
  obtain ⟨v2, rfl, hv⟩ := z
  refine gk_aload_n (pc := 1388) (DL_law_16.at 6 rfl) 2 rfl rfl ?_
  refine gk_aload_n (pc := 1389) (DL_law_16.at 7 rfl) 0 rfl rfl ?_
  refine gk_iload_n (pc := 1390) (DL_law_16.at 8 rfl) 3 rfl rfl ?_
  refine gk_iconst (pc := 1391) (nI 1) (DL_law_16.at 9 rfl) ci_1 ?_
  refine gk_iadd (pc := 1392) (DL_law_16.at 10 rfl) ?_
  obtain ⟨q3, hv⟩ := hv
  refine gk_scr_ld (pc := 1393) (DL_law_16.at 11 rfl) q3 ?_
  obtain ⟨⟨fs4, q4⟩, hv⟩ := hv
  refine gk_vV (pc := 1394) [.int ((gk_scr E).2.2 (x3 + (nI 1)).toNatClampNeg)] [.int v2] (DL_law_16.at 12 rfl) cvL_169 q4 rfl rfl (Nat.le_of_ble_eq_true rfl) (Nat.le_of_ble_eq_true rfl) (gk_Run.post (fun o h4 z => ?_) hv)
  obtain ⟨v4, rfl, hv⟩ := z
  refine gk_icmp_eq (pc := 1397) 1500 (DL_law_16.at 13 rfl) (by decide) (fun c => ?_) (fun c => ?_)
  · replace hv := hv.1 c
    exact gk_pick (pc := 1500) [(0, .ref 1000000), (1, .ref x1), (2, .ref x2), (3, .int x3)] [0, 1, 2, 3] rfl hv
  · replace hv := hv.2 c
    refine gk_iconst (pc := 1400) (nI 0) (DL_law_16.at 14 rfl) ci_0 ?_
    exact gk_ireturn (pc := 1401) .boolean (DL_law_16.at 15 rfl) rfl rfl ⟨_, rfl, hv⟩
set_option maxHeartbeats 4000000 in
theorem vL_law_1402 {E : gk_E} {dd : Nat} {x1 : Nat} {x2 : Nat} {x3 : Int32}  {h : gk_H} {K : Int32 → gk_H → Prop} (hv : (∃ fs, h[x1]? = some (.inr (10, fs))) ∧ RnI E mX11_wipe (dd, 0, 0) [.ref x1] h (fun v1 h1 => (∃ fs, h1[x2]? = some (.inr (11, fs))) ∧ RnI E mX12_wipe (dd, 0, 0) [.ref x2] h1 (fun v2 h2 => (v1 = v2 → pL_law_1500 E dd x1 x2 x3 h2 K) ∧ (¬ v1 = v2 → K (nI 0) h2)))) : pL_law_1402 E dd x1 x2 x3 h K := by
  show gk_G E mL_law (dd + 1, 0, 0) 1402 [(0, .ref 1000000), (1, .ref x1), (2, .ref x2), (3, .int x3)] [] h (fun o h1 => ∃ v, o = some (.int v) ∧ K v h1)
  refine gk_aload_n (pc := 1402) (DL_law_16.at 16 rfl) 1 rfl rfl ?_
  obtain ⟨⟨fs1, q1⟩, hv⟩ := hv
  refine gk_vV (pc := 1403) [] [] (DL_law_16.at 17 rfl) cvL_170 q1 rfl rfl (Nat.le_of_ble_eq_true rfl) (Nat.le_of_ble_eq_true rfl) (gk_Run.post (fun o h1 z => ?_) hv)
  obtain ⟨v1, rfl, hv⟩ := z
  refine gk_aload_n (pc := 1406) (DL_law_16.at 18 rfl) 2 rfl rfl ?_
  obtain ⟨⟨fs2, q2⟩, hv⟩ := hv
  refine gk_vV (pc := 1407) [] [.int v1] (DL_law_16.at 19 rfl) cvL_173 q2 rfl rfl (Nat.le_of_ble_eq_true rfl) (Nat.le_of_ble_eq_true rfl) (gk_Run.post (fun o h2 z => ?_) hv)
  obtain ⟨v2, rfl, hv⟩ := z
  refine gk_icmp_eq (pc := 1410) 1500 (DL_law_16.at 20 rfl) (by decide) (fun c => ?_) (fun c => ?_)
  · replace hv := hv.1 c
    exact gk_pick (pc := 1500) [(0, .ref 1000000), (1, .ref x1), (2, .ref x2), (3, .int x3)] [0, 1, 2, 3] rfl hv
  · replace hv := hv.2 c
    refine gk_iconst (pc := 1413) (nI 0) (DL_law_16.at 21 rfl) ci_0 ?_
    exact gk_ireturn (pc := 1414) .boolean (DL_law_16.at 22 rfl) rfl rfl ⟨_, rfl, hv⟩
set_option maxHeartbeats 4000000 in
theorem vL_law_1415 {E : gk_E} {dd : Nat} {x1 : Nat} {x2 : Nat} {x3 : Int32}  {h : gk_H} {K : Int32 → gk_H → Prop} (hv : (∃ fs, h[x1]? = some (.inr (10, fs))) ∧ RnI E mX11_read (dd, 0, 0) [.ref x1] h (fun v1 h1 => (∃ fs, h1[x2]? = some (.inr (11, fs))) ∧ RnI E mX12_read (dd, 0, 0) [.ref x2] h1 (fun v2 h2 => (v1 = v2 → pL_law_1500 E dd x1 x2 x3 h2 K) ∧ (¬ v1 = v2 → K (nI 0) h2)))) : pL_law_1415 E dd x1 x2 x3 h K := by
  show gk_G E mL_law (dd + 1, 0, 0) 1415 [(0, .ref 1000000), (1, .ref x1), (2, .ref x2), (3, .int x3)] [] h (fun o h1 => ∃ v, o = some (.int v) ∧ K v h1)
  refine gk_aload_n (pc := 1415) (DL_law_16.at 23 rfl) 1 rfl rfl ?_
  obtain ⟨⟨fs1, q1⟩, hv⟩ := hv
  refine gk_vV (pc := 1416) [] [] (DL_law_16.at 24 rfl) cvL_174 q1 rfl rfl (Nat.le_of_ble_eq_true rfl) (Nat.le_of_ble_eq_true rfl) (gk_Run.post (fun o h1 z => ?_) hv)
  obtain ⟨v1, rfl, hv⟩ := z
  refine gk_aload_n (pc := 1419) (DL_law_16.at 25 rfl) 2 rfl rfl ?_
  obtain ⟨⟨fs2, q2⟩, hv⟩ := hv
  refine gk_vV (pc := 1420) [] [.int v1] (DL_law_16.at 26 rfl) cvL_177 q2 rfl rfl (Nat.le_of_ble_eq_true rfl) (Nat.le_of_ble_eq_true rfl) (gk_Run.post (fun o h2 z => ?_) hv)
  obtain ⟨v2, rfl, hv⟩ := z
  refine gk_icmp_eq (pc := 1423) 1500 (DL_law_16.at 27 rfl) (by decide) (fun c => ?_) (fun c => ?_)
  · replace hv := hv.1 c
    exact gk_pick (pc := 1500) [(0, .ref 1000000), (1, .ref x1), (2, .ref x2), (3, .int x3)] [0, 1, 2, 3] rfl hv
  · replace hv := hv.2 c
    refine gk_iconst (pc := 1426) (nI 0) (DL_law_16.at 28 rfl) ci_0 ?_
    exact gk_ireturn (pc := 1427) .boolean (DL_law_16.at 29 rfl) rfl rfl ⟨_, rfl, hv⟩
set_option maxHeartbeats 4000000 in
theorem vL_law_1428 {E : gk_E} {dd : Nat} {x1 : Nat} {x2 : Nat} {x3 : Int32}  {h : gk_H} {K : Int32 → gk_H → Prop} (hv : (vp_in (x3 + (nI 1)) (gk_scr E).2.1) ∧ ((∃ fs, h[x1]? = some (.inr (10, fs))) ∧ RnI E mX11_spelled (dd, 0, 0) [.ref x1, .int ((gk_scr E).2.2 (x3 + (nI 1)).toNatClampNeg)] h (fun v2 h2 => (vp_in (x3 + (nI 1)) (gk_scr E).2.1) ∧ ((∃ fs, h2[x2]? = some (.inr (11, fs))) ∧ RnI E mX12_spelled (dd, 0, 0) [.ref x2, .int ((gk_scr E).2.2 (x3 + (nI 1)).toNatClampNeg)] h2 (fun v4 h4 => (v2 = v4 → pL_law_1500 E dd x1 x2 x3 h4 K) ∧ (¬ v2 = v4 → K (nI 0) h4)))))) : pL_law_1428 E dd x1 x2 x3 h K := by
  show gk_G E mL_law (dd + 1, 0, 0) 1428 [(0, .ref 1000000), (1, .ref x1), (2, .ref x2), (3, .int x3)] [] h (fun o h1 => ∃ v, o = some (.int v) ∧ K v h1)
  refine gk_aload_n (pc := 1428) (DL_law_16.at 30 rfl) 1 rfl rfl ?_
  refine gk_aload_n (pc := 1429) (DL_law_16.at 31 rfl) 0 rfl rfl ?_
  refine gk_iload_n (pc := 1430) (DL_law_16.at 32 rfl) 3 rfl rfl ?_
  refine gk_iconst (pc := 1431) (nI 1) (DL_law_16.at 33 rfl) ci_1 ?_
  refine gk_iadd (pc := 1432) (DL_law_16.at 34 rfl) ?_
  obtain ⟨q1, hv⟩ := hv
  refine gk_scr_ld (pc := 1433) (DL_law_16.at 35 rfl) q1 ?_
  obtain ⟨⟨fs2, q2⟩, hv⟩ := hv
  refine gk_vV (pc := 1434) [.int ((gk_scr E).2.2 (x3 + (nI 1)).toNatClampNeg)] [] (DL_law_16.at 36 rfl) cvL_178 q2 rfl rfl (Nat.le_of_ble_eq_true rfl) (Nat.le_of_ble_eq_true rfl) (gk_Run.post (fun o h2 z => ?_) hv)
  obtain ⟨v2, rfl, hv⟩ := z
  refine gk_aload_n (pc := 1437) (DL_law_16.at 37 rfl) 2 rfl rfl ?_
  refine gk_aload_n (pc := 1438) (DL_law_16.at 38 rfl) 0 rfl rfl ?_
  refine gk_iload_n (pc := 1439) (DL_law_16.at 39 rfl) 3 rfl rfl ?_
  refine gk_iconst (pc := 1440) (nI 1) (DL_law_16.at 40 rfl) ci_1 ?_
  refine gk_iadd (pc := 1441) (DL_law_16.at 41 rfl) ?_
  obtain ⟨q3, hv⟩ := hv
  refine gk_scr_ld (pc := 1442) (DL_law_16.at 42 rfl) q3 ?_
  obtain ⟨⟨fs4, q4⟩, hv⟩ := hv
  refine gk_vV (pc := 1443) [.int ((gk_scr E).2.2 (x3 + (nI 1)).toNatClampNeg)] [.int v2] (DL_law_16.at 43 rfl) cvL_181 q4 rfl rfl (Nat.le_of_ble_eq_true rfl) (Nat.le_of_ble_eq_true rfl) (gk_Run.post (fun o h4 z => ?_) hv)
  obtain ⟨v4, rfl, hv⟩ := z
  refine gk_icmp_eq (pc := 1446) 1500 (DL_law_16.at 44 rfl) (by decide) (fun c => ?_) (fun c => ?_)
  · replace hv := hv.1 c
    exact gk_pick (pc := 1500) [(0, .ref 1000000), (1, .ref x1), (2, .ref x2), (3, .int x3)] [0, 1, 2, 3] rfl hv
  · replace hv := hv.2 c
    refine gk_iconst (pc := 1449) (nI 0) (DL_law_16.at 45 rfl) ci_0 ?_
    exact gk_ireturn (pc := 1450) .boolean (DL_law_16.at 46 rfl) rfl rfl ⟨_, rfl, hv⟩
set_option maxHeartbeats 4000000 in
theorem vL_law_1451 {E : gk_E} {dd : Nat} {x1 : Nat} {x2 : Nat} {x3 : Int32}  {h : gk_H} {K : Int32 → gk_H → Prop} (hv : (∃ fs, h[x1]? = some (.inr (10, fs))) ∧ RnI E mX11_image (dd, 0, 0) [.ref x1] h (fun v1 h1 => (∃ fs, h1[x2]? = some (.inr (11, fs))) ∧ RnI E mX12_image (dd, 0, 0) [.ref x2] h1 (fun v2 h2 => (v1 = v2 → pL_law_1500 E dd x1 x2 x3 h2 K) ∧ (¬ v1 = v2 → K (nI 0) h2)))) : pL_law_1451 E dd x1 x2 x3 h K := by
  show gk_G E mL_law (dd + 1, 0, 0) 1451 [(0, .ref 1000000), (1, .ref x1), (2, .ref x2), (3, .int x3)] [] h (fun o h1 => ∃ v, o = some (.int v) ∧ K v h1)
  refine gk_aload_n (pc := 1451) (DL_law_16.at 47 rfl) 1 rfl rfl ?_
  obtain ⟨⟨fs1, q1⟩, hv⟩ := hv
  refine gk_vV (pc := 1452) [] [] (DL_law_16.at 48 rfl) cvL_182 q1 rfl rfl (Nat.le_of_ble_eq_true rfl) (Nat.le_of_ble_eq_true rfl) (gk_Run.post (fun o h1 z => ?_) hv)
  obtain ⟨v1, rfl, hv⟩ := z
  refine gk_aload_n (pc := 1455) (DL_law_16.at 49 rfl) 2 rfl rfl ?_
  obtain ⟨⟨fs2, q2⟩, hv⟩ := hv
  refine gk_vV (pc := 1456) [] [.int v1] (DL_law_16.at 50 rfl) cvL_185 q2 rfl rfl (Nat.le_of_ble_eq_true rfl) (Nat.le_of_ble_eq_true rfl) (gk_Run.post (fun o h2 z => ?_) hv)
  obtain ⟨v2, rfl, hv⟩ := z
  refine gk_icmp_eq (pc := 1459) 1500 (DL_law_16.at 51 rfl) (by decide) (fun c => ?_) (fun c => ?_)
  · replace hv := hv.1 c
    exact gk_pick (pc := 1500) [(0, .ref 1000000), (1, .ref x1), (2, .ref x2), (3, .int x3)] [0, 1, 2, 3] rfl hv
  · replace hv := hv.2 c
    refine gk_iconst (pc := 1462) (nI 0) (DL_law_16.at 52 rfl) ci_0 ?_
    exact gk_ireturn (pc := 1463) .boolean (DL_law_16.at 53 rfl) rfl rfl ⟨_, rfl, hv⟩
set_option maxHeartbeats 4000000 in
theorem vL_law_1464 {E : gk_E} {dd : Nat} {x1 : Nat} {x2 : Nat} {x3 : Int32}  {h : gk_H} {K : Int32 → gk_H → Prop} (hv : (∃ fs, h[x1]? = some (.inr (10, fs))) ∧ RnI E mX11_undo (dd, 0, 0) [.ref x1] h (fun v1 h1 => (∃ fs, h1[x2]? = some (.inr (11, fs))) ∧ RnI E mX12_undo (dd, 0, 0) [.ref x2] h1 (fun v2 h2 => (v1 = v2 → pL_law_1500 E dd x1 x2 x3 h2 K) ∧ (¬ v1 = v2 → K (nI 0) h2)))) : pL_law_1464 E dd x1 x2 x3 h K := by
  show gk_G E mL_law (dd + 1, 0, 0) 1464 [(0, .ref 1000000), (1, .ref x1), (2, .ref x2), (3, .int x3)] [] h (fun o h1 => ∃ v, o = some (.int v) ∧ K v h1)
  refine gk_aload_n (pc := 1464) (DL_law_16.at 54 rfl) 1 rfl rfl ?_
  obtain ⟨⟨fs1, q1⟩, hv⟩ := hv
  refine gk_vV (pc := 1465) [] [] (DL_law_16.at 55 rfl) cvL_186 q1 rfl rfl (Nat.le_of_ble_eq_true rfl) (Nat.le_of_ble_eq_true rfl) (gk_Run.post (fun o h1 z => ?_) hv)
  obtain ⟨v1, rfl, hv⟩ := z
  refine gk_aload_n (pc := 1468) (DL_law_16.at 56 rfl) 2 rfl rfl ?_
  obtain ⟨⟨fs2, q2⟩, hv⟩ := hv
  refine gk_vV (pc := 1469) [] [.int v1] (DL_law_16.at 57 rfl) cvL_189 q2 rfl rfl (Nat.le_of_ble_eq_true rfl) (Nat.le_of_ble_eq_true rfl) (gk_Run.post (fun o h2 z => ?_) hv)
  obtain ⟨v2, rfl, hv⟩ := z
  refine gk_icmp_eq (pc := 1472) 1500 (DL_law_16.at 58 rfl) (by decide) (fun c => ?_) (fun c => ?_)
  · replace hv := hv.1 c
    exact gk_pick (pc := 1500) [(0, .ref 1000000), (1, .ref x1), (2, .ref x2), (3, .int x3)] [0, 1, 2, 3] rfl hv
  · replace hv := hv.2 c
    refine gk_iconst (pc := 1475) (nI 0) (DL_law_16.at 59 rfl) ci_0 ?_
    exact gk_ireturn (pc := 1476) .boolean (DL_law_17.at 0 rfl) rfl rfl ⟨_, rfl, hv⟩
set_option maxHeartbeats 4000000 in
theorem vL_law_1477 {E : gk_E} {dd : Nat} {x1 : Nat} {x2 : Nat} {x3 : Int32}  {h : gk_H} {K : Int32 → gk_H → Prop} (hv : (vp_in (x3 + (nI 1)) (gk_scr E).2.1) ∧ ((∃ fs, h[x1]? = some (.inr (10, fs))) ∧ RnI E mX11_count (dd, 0, 0) [.ref x1, .int ((gk_scr E).2.2 (x3 + (nI 1)).toNatClampNeg)] h (fun v2 h2 => (vp_in (x3 + (nI 1)) (gk_scr E).2.1) ∧ ((∃ fs, h2[x2]? = some (.inr (11, fs))) ∧ RnI E mX12_count (dd, 0, 0) [.ref x2, .int ((gk_scr E).2.2 (x3 + (nI 1)).toNatClampNeg)] h2 (fun v4 h4 => (v2 = v4 → pL_law_1500 E dd x1 x2 x3 h4 K) ∧ (¬ v2 = v4 → K (nI 0) h4)))))) : pL_law_1477 E dd x1 x2 x3 h K := by
  show gk_G E mL_law (dd + 1, 0, 0) 1477 [(0, .ref 1000000), (1, .ref x1), (2, .ref x2), (3, .int x3)] [] h (fun o h1 => ∃ v, o = some (.int v) ∧ K v h1)
  refine gk_aload_n (pc := 1477) (DL_law_17.at 1 rfl) 1 rfl rfl ?_
  refine gk_aload_n (pc := 1478) (DL_law_17.at 2 rfl) 0 rfl rfl ?_
  refine gk_iload_n (pc := 1479) (DL_law_17.at 3 rfl) 3 rfl rfl ?_
  refine gk_iconst (pc := 1480) (nI 1) (DL_law_17.at 4 rfl) ci_1 ?_
  refine gk_iadd (pc := 1481) (DL_law_17.at 5 rfl) ?_
  obtain ⟨q1, hv⟩ := hv
  refine gk_scr_ld (pc := 1482) (DL_law_17.at 6 rfl) q1 ?_
  obtain ⟨⟨fs2, q2⟩, hv⟩ := hv
  refine gk_vV (pc := 1483) [.int ((gk_scr E).2.2 (x3 + (nI 1)).toNatClampNeg)] [] (DL_law_17.at 7 rfl) cvL_190 q2 rfl rfl (Nat.le_of_ble_eq_true rfl) (Nat.le_of_ble_eq_true rfl) (gk_Run.post (fun o h2 z => ?_) hv)
  obtain ⟨v2, rfl, hv⟩ := z
  refine gk_aload_n (pc := 1486) (DL_law_17.at 8 rfl) 2 rfl rfl ?_
  refine gk_aload_n (pc := 1487) (DL_law_17.at 9 rfl) 0 rfl rfl ?_
  refine gk_iload_n (pc := 1488) (DL_law_17.at 10 rfl) 3 rfl rfl ?_
  refine gk_iconst (pc := 1489) (nI 1) (DL_law_17.at 11 rfl) ci_1 ?_
  refine gk_iadd (pc := 1490) (DL_law_17.at 12 rfl) ?_
  obtain ⟨q3, hv⟩ := hv
  refine gk_scr_ld (pc := 1491) (DL_law_17.at 13 rfl) q3 ?_
  obtain ⟨⟨fs4, q4⟩, hv⟩ := hv
  refine gk_vV (pc := 1492) [.int ((gk_scr E).2.2 (x3 + (nI 1)).toNatClampNeg)] [.int v2] (DL_law_17.at 14 rfl) cvL_193 q4 rfl rfl (Nat.le_of_ble_eq_true rfl) (Nat.le_of_ble_eq_true rfl) (gk_Run.post (fun o h4 z => ?_) hv)
  obtain ⟨v4, rfl, hv⟩ := z
  refine gk_icmp_eq (pc := 1495) 1500 (DL_law_17.at 15 rfl) (by decide) (fun c => ?_) (fun c => ?_)
  · replace hv := hv.1 c
    exact gk_pick (pc := 1500) [(0, .ref 1000000), (1, .ref x1), (2, .ref x2), (3, .int x3)] [0, 1, 2, 3] rfl hv
  · replace hv := hv.2 c
    refine gk_iconst (pc := 1498) (nI 0) (DL_law_17.at 16 rfl) ci_0 ?_
    exact gk_ireturn (pc := 1499) .boolean (DL_law_17.at 17 rfl) rfl rfl ⟨_, rfl, hv⟩
set_option maxHeartbeats 4000000 in
theorem vL_law_1500 {E : gk_E} {dd : Nat} {x1 : Nat} {x2 : Nat} {x3 : Int32}  {h : gk_H} {K : Int32 → gk_H → Prop} (hv : pL_law_18 E dd x1 x2 (x3 + nI 5) h K) : pL_law_1500 E dd x1 x2 x3 h K := by
  show gk_G E mL_law (dd + 1, 0, 0) 1500 [(0, .ref 1000000), (1, .ref x1), (2, .ref x2), (3, .int x3)] [] h (fun o h1 => ∃ v, o = some (.int v) ∧ K v h1)
  refine gk_iinc (pc := 1500) (x3 + nI 5) [(3, .int (x3 + nI 5)), (0, .ref 1000000), (1, .ref x1), (2, .ref x2)] 3 (DL_law_17.at 18 rfl) rfl (by rw [ci_5]) (Nat.le_of_ble_eq_true rfl) rfl ?_
  refine gk_goto (pc := 1503) 18 (DL_law_17.at 19 rfl) (by decide) ?_
  exact gk_pick (pc := 18) [(0, .ref 1000000), (1, .ref x1), (2, .ref x2), (3, .int (x3 + nI 5))] [1, 2, 3, 0] rfl hv
