theorem pop_sum : ∀ (k x : Nat), pop x (4 * k) = ((nbs x k).map p4).sum
  | 0, x => rfl
  | k + 1, x => by
    rw [pop_nb, pop_sum k]
    rfl
theorem p4s_le (k x : Nat) : ∀ d ∈ (nbs x k).map p4, d ≤ 4 := by
  intro d hd
  obtain ⟨q, hq, rfl⟩ := List.mem_map.mp hd
  exact p4_le q (nbs_lt k x q hq)
theorem dv {w d e : Nat} {ds : List Nat} (hd : d < 2 ^ w) (he : e < 2 ^ w) : val w (d :: e :: ds) / 2 ^ (w + w) = val w ds := by
  rw [Nat.pow_add, ← Nat.div_div_eq_div_mul, val_div hd, val_div he]
/-- eight bytes, each at most 8, summed up -/
theorem fin8 {P0 P1 P2 P3 P4 P5 P6 P7 : Nat} (h : ∀ d ∈ [P0, P1, P2, P3, P4, P5, P6, P7], d ≤ 8) :
    val 8 [P0, P1, P2, P3, P4, P5, P6, P7] + val 8 [P0, P1, P2, P3, P4, P5, P6, P7] / 2 ^ 8 = val 8 [P0 + P1, P1 + P2, P2 + P3, P3 + P4, P4 + P5, P5 + P6, P6 + P7, P7] := by
  rw [val_div (by have := h P0 (by simp); omega), ← val_addS]
  rfl
theorem fin16 {Q0 Q1 Q2 Q3 Q4 Q5 Q6 Q7 : Nat} (h : ∀ d ∈ [Q0, Q1, Q2, Q3, Q4, Q5, Q6, Q7], d ≤ 16) :
    val 8 [Q0, Q1, Q2, Q3, Q4, Q5, Q6, Q7] + val 8 [Q0, Q1, Q2, Q3, Q4, Q5, Q6, Q7] / 2 ^ 16 = val 8 [Q0 + Q2, Q1 + Q3, Q2 + Q4, Q3 + Q5, Q4 + Q6, Q5 + Q7, Q6, Q7] := by
  rw [show (16 : Nat) = 8 + 8 from rfl, dv (by have := h Q0 (by simp); omega) (by have := h Q1 (by simp); omega), ← val_addS]
  rfl
theorem fin32 {R0 R1 R2 R3 R4 R5 R6 R7 : Nat} (h : ∀ d ∈ [R0, R1, R2, R3, R4, R5, R6, R7], d ≤ 32) :
    val 8 [R0, R1, R2, R3, R4, R5, R6, R7] + val 8 [R0, R1, R2, R3, R4, R5, R6, R7] / 2 ^ 32 = val 8 [R0 + R4, R1 + R5, R2 + R6, R3 + R7, R4, R5, R6, R7] := by
  rw [show (32 : Nat) = (8 + 8) + (8 + 8) from rfl, Nat.pow_add, ← Nat.div_div_eq_div_mul, dv (by have := h R0 (by simp); omega) (by have := h R1 (by simp); omega), dv (by have := h R2 (by simp); omega) (by have := h R3 (by simp); omega), ← val_addS]
  rfl
theorem msk {a0 a1 a2 a3 a4 a5 a6 a7 a8 a9 a10 a11 a12 a13 a14 a15 : Nat} (h : ∀ d ∈ [a0, a1, a2, a3, a4, a5, a6, a7, a8, a9, a10, a11, a12, a13, a14, a15], d ≤ 4) :
    (val 4 [a0, a1, a2, a3, a4, a5, a6, a7, a8, a9, a10, a11, a12, a13, a14, a15] + val 4 [a0, a1, a2, a3, a4, a5, a6, a7, a8, a9, a10, a11, a12, a13, a14, a15] / 2 ^ 4) &&& 1085102592571150095 = val 8 [a0 + a1, a2 + a3, a4 + a5, a6 + a7, a8 + a9, a10 + a11, a12 + a13, a14 + a15] := by
  have l0 := h a0 (by simp)
  have l1 := h a1 (by simp)
  have l2 := h a2 (by simp)
  have l3 := h a3 (by simp)
  have l4 := h a4 (by simp)
  have l5 := h a5 (by simp)
  have l6 := h a6 (by simp)
  have l7 := h a7 (by simp)
  have l8 := h a8 (by simp)
  have l9 := h a9 (by simp)
  have l10 := h a10 (by simp)
  have l11 := h a11 (by simp)
  have l12 := h a12 (by simp)
  have l13 := h a13 (by simp)
  have l14 := h a14 (by simp)
  have l15 := h a15 (by simp)
  rw [val_div (by omega), ← val_addS, show (1085102592571150095 : Nat) = val 4 [15, 0, 15, 0, 15, 0, 15, 0, 15, 0, 15, 0, 15, 0, 15, 0] from by decide]
  show val 4 [a0 + a1, a1 + a2, a2 + a3, a3 + a4, a4 + a5, a5 + a6, a6 + a7, a7 + a8, a8 + a9, a9 + a10, a10 + a11, a11 + a12, a12 + a13, a13 + a14, a14 + a15, a15] &&& _ = _
  rw [val_andL 4 [a0 + a1, a1 + a2, a2 + a3, a3 + a4, a4 + a5, a5 + a6, a6 + a7, a7 + a8, a8 + a9, a9 + a10, a10 + a11, a11 + a12, a12 + a13, a13 + a14, a14 + a15, a15] [15, 0, 15, 0, 15, 0, 15, 0, 15, 0, 15, 0, 15, 0, 15, 0] (by intro d hd; simp only [List.mem_cons, List.not_mem_nil, or_false] at hd; rcases hd with rfl | rfl | rfl | rfl | rfl | rfl | rfl | rfl | rfl | rfl | rfl | rfl | rfl | rfl | rfl | rfl <;> omega) (by decide) rfl]
  show val 4 [(a0 + a1) &&& 15, (a1 + a2) &&& 0, (a2 + a3) &&& 15, (a3 + a4) &&& 0, (a4 + a5) &&& 15, (a5 + a6) &&& 0, (a6 + a7) &&& 15, (a7 + a8) &&& 0, (a8 + a9) &&& 15, (a9 + a10) &&& 0, (a10 + a11) &&& 15, (a11 + a12) &&& 0, (a12 + a13) &&& 15, (a13 + a14) &&& 0, (a14 + a15) &&& 15, a15 &&& 0] = _
  rw [sm16 (by omega), sm16 (by omega), sm16 (by omega), sm16 (by omega), sm16 (by omega), sm16 (by omega), sm16 (by omega), sm16 (by omega)]
  simp only [Nat.and_zero]
  rw [← val_48]
  rfl
section POP
variable {E : gk_E} {dd : Nat}
set_option maxHeartbeats 1000000 in
theorem c_bitCountL {x : Nat} (hx : x < 2 ^ 64) {h : gk_H} {K : Int32 → gk_H → Prop} (k : K (nI (pop x 64)) h) : RnI E mJ13_bitCount_95d88 (dd, 0, 0) [.long (lN x)] h K := by
  refine vJ13_bitCount_95d88_0 ?_
  have hv : val 4 (nbs x 16) = x := nbs_val 16 x hx
  have p2 := pop2 (nbs x 16) (nbs_lt 16 x)
  have m5 : val 4 ((nbs x 16).map fun _ => 5) = 6148914691236517205 := by simp only [nbs, List.map_cons, List.map_nil]; decide
  have m3 : val 4 ((nbs x 16).map fun _ => 3) = 3689348814741910323 := by simp only [nbs, List.map_cons, List.map_nil]; decide
  rw [hv, m5, m3] at p2
  clear m5 m3
  have hp : pop x 64 = ((nbs x 16).map p4).sum := pop_sum 16 x
  have hb := p4s_le 16 x
  obtain ⟨a0, a1, a2, a3, a4, a5, a6, a7, a8, a9, a10, a11, a12, a13, a14, a15, hL⟩ : ∃ a0 a1 a2 a3 a4 a5 a6 a7 a8 a9 a10 a11 a12 a13 a14 a15, (nbs x 16).map p4 = [a0, a1, a2, a3, a4, a5, a6, a7, a8, a9, a10, a11, a12, a13, a14, a15] := ⟨_, _, _, _, _, _, _, _, _, _, _, _, _, _, _, _, rfl⟩
  rw [hL] at p2 hp hb
  rw [hp] at k
  clear hp hL hv
  have l0 := hb a0 (by simp)
  have l1 := hb a1 (by simp)
  have l2 := hb a2 (by simp)
  have l3 := hb a3 (by simp)
  have l4 := hb a4 (by simp)
  have l5 := hb a5 (by simp)
  have l6 := hb a6 (by simp)
  have l7 := hb a7 (by simp)
  have l8 := hb a8 (by simp)
  have l9 := hb a9 (by simp)
  have l10 := hb a10 (by simp)
  have l11 := hb a11 (by simp)
  have l12 := hb a12 (by simp)
  have l13 := hb a13 (by simp)
  have l14 := hb a14 (by simp)
  have l15 := hb a15 (by simp)
  have hmk := msk hb
  have hl2 : val 4 [a0, a1, a2, a3, a4, a5, a6, a7, a8, a9, a10, a11, a12, a13, a14, a15] < 2 ^ 63 := by
    simp only [val]
    omega
  generalize val 4 [a0, a1, a2, a3, a4, a5, a6, a7, a8, a9, a10, a11, a12, a13, a14, a15] = Y2 at *
  have hle : Y2 / 2 ^ 4 ≤ Y2 := Nat.div_le_self _ _
  intro w1 e1 w2 e2 w3 e3 w4 e4
  have hh : x / 2 ^ 1 &&& 6148914691236517205 ≤ x := Nat.le_trans Nat.and_le_left (Nat.div_le_self _ _)
  have c5 : (6148914691236517205 : Nat) < 2 ^ 64 := by decide
  have c3 : (3689348814741910323 : Nat) < 2 ^ 64 := by decide
  have hx2 : x / 2 ^ 1 < 2 ^ 64 := Nat.lt_of_le_of_lt (Nat.div_le_self _ _) hx
  rw [wb_shr hx (by decide), wb_and hx2 c5, lN_sub hh] at e1
  have hy1 : x - (x / 2 ^ 1 &&& 6148914691236517205) < 2 ^ 64 := by omega
  generalize x - (x / 2 ^ 1 &&& 6148914691236517205) = y1 at *
  have hy2 : y1 / 2 ^ 2 < 2 ^ 64 := Nat.lt_of_le_of_lt (Nat.div_le_self _ _) hy1
  rw [e1, wb_shr hy1 (by decide), wb_and hy1 c3, wb_and hy2 c3, lN_add, p2] at e2
  rw [e2, wb_shr (by omega) (by decide), lN_add, wb_and (by omega) (by decide), hmk] at e3
  have f1 := fin8 (P0 := a0 + a1) (P1 := a2 + a3) (P2 := a4 + a5) (P3 := a6 + a7) (P4 := a8 + a9) (P5 := a10 + a11) (P6 := a12 + a13) (P7 := a14 + a15) (by intro d hd; simp only [List.mem_cons, List.not_mem_nil, or_false] at hd; rcases hd with rfl | rfl | rfl | rfl | rfl | rfl | rfl | rfl <;> omega)
  have f2 := fin16 (Q0 := a0 + a1 + (a2 + a3)) (Q1 := a2 + a3 + (a4 + a5)) (Q2 := a4 + a5 + (a6 + a7)) (Q3 := a6 + a7 + (a8 + a9)) (Q4 := a8 + a9 + (a10 + a11)) (Q5 := a10 + a11 + (a12 + a13)) (Q6 := a12 + a13 + (a14 + a15)) (Q7 := a14 + a15) (by intro d hd; simp only [List.mem_cons, List.not_mem_nil, or_false] at hd; rcases hd with rfl | rfl | rfl | rfl | rfl | rfl | rfl | rfl <;> omega)
  have f3 := fin32 (R0 := a0 + a1 + (a2 + a3) + (a4 + a5 + (a6 + a7))) (R1 := a2 + a3 + (a4 + a5) + (a6 + a7 + (a8 + a9))) (R2 := a4 + a5 + (a6 + a7) + (a8 + a9 + (a10 + a11))) (R3 := a6 + a7 + (a8 + a9) + (a10 + a11 + (a12 + a13))) (R4 := a8 + a9 + (a10 + a11) + (a12 + a13 + (a14 + a15))) (R5 := a10 + a11 + (a12 + a13) + (a14 + a15)) (R6 := a12 + a13 + (a14 + a15)) (R7 := a14 + a15) (by intro d hd; simp only [List.mem_cons, List.not_mem_nil, or_false] at hd; rcases hd with rfl | rfl | rfl | rfl | rfl | rfl | rfl | rfl <;> omega)
  have b1' : val 8 [a0 + a1, a2 + a3, a4 + a5, a6 + a7, a8 + a9, a10 + a11, a12 + a13, a14 + a15] < 2 ^ 64 := val_lt (w := 8) (by intro d hd; simp only [List.mem_cons, List.not_mem_nil, or_false] at hd; rcases hd with rfl | rfl | rfl | rfl | rfl | rfl | rfl | rfl <;> omega)
  have b2' : val 8 [a0 + a1 + (a2 + a3), a2 + a3 + (a4 + a5), a4 + a5 + (a6 + a7), a6 + a7 + (a8 + a9), a8 + a9 + (a10 + a11), a10 + a11 + (a12 + a13), a12 + a13 + (a14 + a15), a14 + a15] < 2 ^ 64 := val_lt (w := 8) (by intro d hd; simp only [List.mem_cons, List.not_mem_nil, or_false] at hd; rcases hd with rfl | rfl | rfl | rfl | rfl | rfl | rfl | rfl <;> omega)
  have b3' : val 8 [a0 + a1 + (a2 + a3) + (a4 + a5 + (a6 + a7)), a2 + a3 + (a4 + a5) + (a6 + a7 + (a8 + a9)), a4 + a5 + (a6 + a7) + (a8 + a9 + (a10 + a11)), a6 + a7 + (a8 + a9) + (a10 + a11 + (a12 + a13)), a8 + a9 + (a10 + a11) + (a12 + a13 + (a14 + a15)), a10 + a11 + (a12 + a13) + (a14 + a15), a12 + a13 + (a14 + a15), a14 + a15] < 2 ^ 64 := val_lt (w := 8) (by intro d hd; simp only [List.mem_cons, List.not_mem_nil, or_false] at hd; rcases hd with rfl | rfl | rfl | rfl | rfl | rfl | rfl | rfl <;> omega)
  rw [e3, wb_shr b1' (by decide), lN_add, f1, wb_shr b2' (by decide), lN_add, f2] at e4
  rw [e4, wb_shr b3' (by decide), lN_add, f3, lN_i, show (127 : Nat) = 2 ^ 7 - 1 from rfl, fa_mask, val_mod7]
  have fin : (a0 + a1 + (a2 + a3) + (a4 + a5 + (a6 + a7)) + (a8 + a9 + (a10 + a11) + (a12 + a13 + (a14 + a15)))) % 2 ^ 7 = [a0, a1, a2, a3, a4, a5, a6, a7, a8, a9, a10, a11, a12, a13, a14, a15].sum := by
    simp only [List.sum_cons, List.sum_nil]
    omega
  rw [fin]
  exact k
end POP
