/-! the two tables agree -/
/-- threes as bits N, and as flags B: alike on the atoms there are; N has no other ones -/
def Agr (N n : Nat) (B : Nat → Bool) : Prop := (∀ a b z, a < n → b < n → z < n → N.testBit (ix a b z) = B (ix a b z)) ∧ ∀ a b z, a < 4 → b < 4 → z < 4 → N.testBit (ix a b z) = true → a < n ∧ b < n ∧ z < n
theorem cmpZ_bit (B : Nat → Bool) (x y a b r : Nat) : ∀ k z, (cmpZ B x y a b r k).testBit z = (r.testBit z || (x.testBit a && y.testBit b && decide (z < k) && B (ix a b z)))
  | 0, z => by simp [cmpZ]
  | k + 1, z => by
    unfold cmpZ
    have ih := cmpZ_bit B x y a b r k z
    by_cases hz : z = k
    · subst hz
      split
      · rename_i h
        rw [Nat.testBit_or, ih, Nat.testBit_two_pow_self]
        simp [h.1, h.2.1, h.2.2]
      · rename_i h
        rw [ih]
        cases h1 : x.testBit a <;> cases h2 : y.testBit b <;> cases h3 : B (ix a b z) <;> simp_all
    · have e : decide (z < k + 1) = decide (z < k) := by congr 1; apply propext; omega
      rw [e]
      split
      · rw [Nat.testBit_or, ih, Nat.testBit_two_pow_of_ne (fun q => hz q.symm), Bool.or_false]
      · exact ih
theorem cmpZ_eq {N n : Nat} {B : Nat → Bool} (hA : Agr N n B) {a b : Nat} (ha : a < n) (hb : b < n) (h4 : n ≤ 4) (x y r : Nat) : cmpZ B x y a b r n = if x.testBit a = true ∧ y.testBit b = true then r ||| (N / 2 ^ (16 * a + 4 * b) % 16) else r := by
  apply Nat.eq_of_testBit_eq
  intro z
  rw [cmpZ_bit]
  split
  · rename_i h
    rw [Nat.testBit_or, show (16 : Nat) = 2 ^ 4 from rfl, Nat.testBit_mod_two_pow, Nat.testBit_div_two_pow, h.1, h.2]
    congr 1
    simp only [Bool.true_and]
    by_cases hz : z < 4
    · have e : z + (2 ^ 4 * a + 4 * b) = ix a b z := by unfold ix; omega
      rw [e]
      by_cases hn : z < n
      · rw [hA.1 a b z ha hb hn]; simp [hz, hn]
      · have : N.testBit (ix a b z) = false := by
          cases hq : N.testBit (ix a b z) with
          | false => rfl
          | true => exact absurd (hA.2 a b z (by omega) (by omega) hz hq).2.2 hn
        rw [this]; simp [hn]
    · simp [hz, show ¬ z < n by omega]
  · rename_i h
    cases h1 : x.testBit a <;> cases h2 : y.testBit b <;> simp_all
theorem cmpB_eq {N n : Nat} {B : Nat → Bool} (hA : Agr N n B) {a : Nat} (ha : a < n) (h4 : n ≤ 4) (x y r : Nat) : ∀ b, b ≤ n → cmpB B n x y a r b = prdB N x y a r b
  | 0, _ => rfl
  | b + 1, h => by
    rw [cmpB, cmpZ_eq hA ha (by omega) h4, cmpB_eq hA ha h4 x y r b (by omega), prdB]
theorem cmpA_eq {N n : Nat} {B : Nat → Bool} (hA : Agr N n B) (h4 : n ≤ 4) (x y : Nat) : ∀ a, a ≤ n → cmpA B n x y a = prdA N n x y a
  | 0, _ => rfl
  | a + 1, h => by
    rw [cmpA, prdA, cmpB_eq hA (by omega) h4 x y _ n (Nat.le_refl _), cmpA_eq hA h4 x y a (by omega)]
theorem cmp_eq {N n : Nat} {B : Nat → Bool} (hA : Agr N n B) (h4 : n ≤ 4) (x y : Nat) : cmp B n x y = prd N n x y := cmpA_eq hA h4 x y n (Nat.le_refl _)
theorem cmpS_eq {N n : Nat} {B : Nat → Bool} (hA : Agr N n B) (h4 : n ≤ 4) (x y side : Nat) : cmpS B n x y side = sdd N n x y side := by
  unfold cmpS sdd
  rw [cmp_eq hA h4, cmp_eq hA h4]
/-- the reference holds the table n, mir, N -/
def MT (c : gm) (n : Nat) (mir : Nat → Nat) (N : Nat) : Prop := ∃ B, Mod c n mir B ∧ Agr N n B
theorem MT.n1 {c : gm} {n N : Nat} {mir : Nat → Nat} (h : MT c n mir N) : 1 ≤ n := h.choose_spec.1.2.1
theorem MT.n4 {c : gm} {n N : Nat} {mir : Nat → Nat} (h : MT c n mir N) : n ≤ 4 := h.choose_spec.1.2.2.1
theorem MT.hn {c : gm} {n N : Nat} {mir : Nat → Nat} (h : MT c n mir N) : c.1 68 0 = nI n := h.choose_spec.1.1
theorem MT.row {c : gm} {n N : Nat} {mir : Nat → Nat} (h : MT c n mir N) : Row c 69 mir := h.choose_spec.1.2.2.2.1
theorem MT.fr {c c' : gm} {n N : Nat} {mir : Nat → Nat} {l : List Nat} (h : MT c n mir N) (hf : Fr l c c') (h1 : 68 ∉ l) (h2 : 69 ∉ l) (h3 : 70 ∉ l) : MT c' n mir N := by
  obtain ⟨B, hM, hA⟩ := h
  exact ⟨B, hM.fr hf h1 h2 h3, hA⟩
section MD
variable {E : gk_E} {dd : Nat} {c : gm} {n N : Nat} {mir : Nat → Nat}
theorem n_isAtom (hM : MT c n mir N) {x : Int32} {K : Int32 → gk_H → Prop} (k : K (bI (inR x 0 n)) (Hm c)) : RnI E mX12_isAtom (dd + 1, 0, 0) [.ref 68, .int x] (Hm c) K := m_isAtom hM.choose_spec.1 k
theorem n_isOther (hM : MT c n mir N) {x : Int32} {K : Int32 → gk_H → Prop} (k : K (bI (inR x 1 n)) (Hm c)) : RnI E mX12_isOther (dd + 1, 0, 0) [.ref 68, .int x] (Hm c) K := m_isOther hM.choose_spec.1 k
theorem n_isRelation (hM : MT c n mir N) {x : Int32} {K : Int32 → gk_H → Prop} (k : K (bI (inR x 0 (2 ^ n : Nat))) (Hm c)) : RnI E mX12_isRelation (dd + 1, 0, 0) [.ref 68, .int x] (Hm c) K := m_isRelation hM.choose_spec.1 k
theorem n_is (hM : MT c n mir N) {x y z : Nat} (hx : x < n) (hy : y < n) (hz : z < n) {K : Int32 → gk_H → Prop} (k : K (bI (N.testBit (ix x y z))) (Hm c)) : RnI E mX12_is (dd, 0, 0) [.ref 68, .int (nI x), .int (nI y), .int (nI z)] (Hm c) K := by
  obtain ⟨B, h1, h2⟩ := hM
  have h4 := h1.2.2.1
  exact m_is h1 (by omega) (by omega) (by omega) (by rw [← h2.1 x y z hx hy hz]; exact k)
theorem n_turned (hM : MT c n mir N) {x : Nat} (hx : x < 2 ^ 31) {K : Int32 → gk_H → Prop} (k : K (nI (mirB mir x n)) (Hm c)) : RnI E mX12_turned (dd + 1, 0, 0) [.ref 68, .int (nI x)] (Hm c) K := m_turned hM.choose_spec.1 hx k
theorem n_composed (hM : MT c n mir N) {x y : Nat} (hx : x < 2 ^ 31) (hy : y < 2 ^ 31) {K : Int32 → gk_H → Prop} (k : K (nI (prd N n x y)) (Hm c)) : RnI E mX12_composed (dd + 1, 0, 0) [.ref 68, .int (nI x), .int (nI y)] (Hm c) K := by
  obtain ⟨B, h1, h2⟩ := hM
  exact m_composed h1 hx hy (by rw [cmp_eq h2 h1.2.2.1]; exact k)
theorem n_composedBy (hM : MT c n mir N) {x y side : Nat} (hx : x < 2 ^ 31) (hy : y < 2 ^ 31) (hs : side < 2 ^ 31) {K : Int32 → gk_H → Prop} (k : K (nI (sdd N n x y side)) (Hm c)) : RnI E mX12_composedBy (dd + 2, 0, 0) [.ref 68, .int (nI x), .int (nI y), .int (nI side)] (Hm c) K := by
  obtain ⟨B, h1, h2⟩ := hM
  exact m_composedBy h1 hx hy hs (by rw [cmpS_eq h2 h1.2.2.1]; exact k)
end MD
