theorem val_mod6 (d : Nat) (ds : List Nat) : val 8 (d :: ds) % 2 ^ 6 = d % 2 ^ 6 := by
  simp only [val]
  generalize val 8 ds = V
  omega
theorem msk4 {a0 a1 a2 a3 a4 a5 a6 a7 : Nat} (h : ∀ d ∈ [a0, a1, a2, a3, a4, a5, a6, a7], d ≤ 4) :
    (val 4 [a0, a1, a2, a3, a4, a5, a6, a7] + val 4 [a0, a1, a2, a3, a4, a5, a6, a7] / 2 ^ 4) &&& 252645135 = val 8 [a0 + a1, a2 + a3, a4 + a5, a6 + a7] := by
  have l0 := h a0 (by simp)
  have l1 := h a1 (by simp)
  have l2 := h a2 (by simp)
  have l3 := h a3 (by simp)
  have l4 := h a4 (by simp)
  have l5 := h a5 (by simp)
  have l6 := h a6 (by simp)
  have l7 := h a7 (by simp)
  rw [val_div (by omega), ← val_addS, show (252645135 : Nat) = val 4 [15, 0, 15, 0, 15, 0, 15, 0] from by decide]
  show val 4 [a0 + a1, a1 + a2, a2 + a3, a3 + a4, a4 + a5, a5 + a6, a6 + a7, a7] &&& _ = _
  rw [val_andL 4 [a0 + a1, a1 + a2, a2 + a3, a3 + a4, a4 + a5, a5 + a6, a6 + a7, a7] [15, 0, 15, 0, 15, 0, 15, 0] (by intro d hd; simp only [List.mem_cons, List.not_mem_nil, or_false] at hd; rcases hd with rfl | rfl | rfl | rfl | rfl | rfl | rfl | rfl <;> omega) (by decide) rfl]
  show val 4 [(a0 + a1) &&& 15, (a1 + a2) &&& 0, (a2 + a3) &&& 15, (a3 + a4) &&& 0, (a4 + a5) &&& 15, (a5 + a6) &&& 0, (a6 + a7) &&& 15, a7 &&& 0] = _
  rw [sm16 (by omega), sm16 (by omega), sm16 (by omega), sm16 (by omega)]
  simp only [Nat.and_zero]
  rw [← val_48]
  rfl
theorem su5 : ∀ n, n < 32 → (((nI n).toUInt32 &&& Int32.toUInt32 31).toBitVec % 32).toNat = n := by decide +kernel
theorem iushr {n k : Nat} (hn : n < 2 ^ 32) (hk : k < 32) : ((nI n).toUInt32 >>> ((nI k).toUInt32 &&& Int32.toUInt32 31)).toInt32 = nI (n / 2 ^ k) := pk_ushrN hn (nI k) k (su5 k hk)
section POP
variable {E : gk_E} {dd : Nat}
set_option maxHeartbeats 1000000 in
theorem c_bitCountI {x : Nat} (hx : x < 2 ^ 32) {h : gk_H} {K : Int32 → gk_H → Prop} (k : K (nI (pop x 32)) h) : RnI E mJ6_bitCount_0f7a4 (dd, 0, 0) [.int (nI x)] h K := by
  refine vJ6_bitCount_0f7a4_0 ?_
  have hv : val 4 (nbs x 8) = x := nbs_val 8 x hx
  have p2 := pop2 (nbs x 8) (nbs_lt 8 x)
  have m5 : val 4 ((nbs x 8).map fun _ => 5) = 1431655765 := by simp only [nbs, List.map_cons, List.map_nil]; decide
  have m3 : val 4 ((nbs x 8).map fun _ => 3) = 858993459 := by simp only [nbs, List.map_cons, List.map_nil]; decide
  rw [hv, m5, m3] at p2
  clear m5 m3
  have hp : pop x 32 = ((nbs x 8).map p4).sum := pop_sum 8 x
  have hb := p4s_le 8 x
  obtain ⟨a0, a1, a2, a3, a4, a5, a6, a7, hL⟩ : ∃ a0 a1 a2 a3 a4 a5 a6 a7, (nbs x 8).map p4 = [a0, a1, a2, a3, a4, a5, a6, a7] := ⟨_, _, _, _, _, _, _, _, rfl⟩
  rw [hL] at p2 hp hb
  rw [hp] at k
  clear hp hL hv
  have l0 := hb a0 (by simp)
  have l1 := hb a1 (by simp)
  have l2 := hb a2 (by simp)
  have l3 := hb a3 (by simp)
  have l4 := hb a4 (by simp)
  have l5 := hb a5 (by simp)
  have l6 := hb a6 (by simp)
  have l7 := hb a7 (by simp)
  have hmk := msk4 hb
  have hl2 : val 4 [a0, a1, a2, a3, a4, a5, a6, a7] < 2 ^ 31 := by
    simp only [val]
    omega
  generalize val 4 [a0, a1, a2, a3, a4, a5, a6, a7] = Y2 at *
  have hle : Y2 / 2 ^ 4 ≤ Y2 := Nat.div_le_self _ _
  intro w1 e1 w2 e2 w3 e3 w4 e4
  have hh : x / 2 ^ 1 &&& 1431655765 ≤ x := Nat.le_trans Nat.and_le_left (Nat.div_le_self _ _)
  rw [iushr hx (by decide), fa_and, pk_sub hh] at e1
  have hy1 : x - (x / 2 ^ 1 &&& 1431655765) < 2 ^ 32 := by omega
  generalize x - (x / 2 ^ 1 &&& 1431655765) = y1 at *
  rw [e1, iushr hy1 (by decide), fa_and, fa_and, nI_add, p2] at e2
  rw [e2, iushr (by omega) (by decide), nI_add, fa_and, hmk] at e3
  have b1' : val 8 [a0 + a1, a2 + a3, a4 + a5, a6 + a7] < 2 ^ 32 := val_lt (w := 8) (by intro d hd; simp only [List.mem_cons, List.not_mem_nil, or_false] at hd; rcases hd with rfl | rfl | rfl | rfl <;> omega)
  have f1 : val 8 [a0 + a1, a2 + a3, a4 + a5, a6 + a7] + val 8 [a0 + a1, a2 + a3, a4 + a5, a6 + a7] / 2 ^ 8 = val 8 [a0 + a1 + (a2 + a3), a2 + a3 + (a4 + a5), a4 + a5 + (a6 + a7), a6 + a7] := by
    rw [val_div (by omega), ← val_addS]
    rfl
  have b2' : val 8 [a0 + a1 + (a2 + a3), a2 + a3 + (a4 + a5), a4 + a5 + (a6 + a7), a6 + a7] < 2 ^ 32 := val_lt (w := 8) (by intro d hd; simp only [List.mem_cons, List.not_mem_nil, or_false] at hd; rcases hd with rfl | rfl | rfl | rfl <;> omega)
  have f2 : val 8 [a0 + a1 + (a2 + a3), a2 + a3 + (a4 + a5), a4 + a5 + (a6 + a7), a6 + a7] + val 8 [a0 + a1 + (a2 + a3), a2 + a3 + (a4 + a5), a4 + a5 + (a6 + a7), a6 + a7] / 2 ^ 16 = val 8 [a0 + a1 + (a2 + a3) + (a4 + a5 + (a6 + a7)), a2 + a3 + (a4 + a5) + (a6 + a7), a4 + a5 + (a6 + a7), a6 + a7] := by
    rw [show (16 : Nat) = 8 + 8 from rfl, dv (by omega) (by omega), ← val_addS]
    rfl
  rw [e3, iushr b1' (by decide), nI_add, f1, iushr b2' (by decide), nI_add, f2] at e4
  rw [e4, show (63 : Nat) = 2 ^ 6 - 1 from rfl, fa_mask, val_mod6]
  have fin : (a0 + a1 + (a2 + a3) + (a4 + a5 + (a6 + a7))) % 2 ^ 6 = [a0, a1, a2, a3, a4, a5, a6, a7].sum := by
    simp only [List.sum_cons, List.sum_nil]
    omega
  rw [fin]
  exact k
end POP
