/-! the class's table: reads -/
def isTab (t : Nat) : Prop := lay[t]? = some (.inl (8, [(0, 0), (2, t + 1), (1, 0)])) ∧ lay[t + 1]? = some (.inr (0, 4, []))
theorem isTab_2 : isTab 2 := ⟨rfl, rfl⟩
theorem isTab_14 : isTab 14 := ⟨rfl, rfl⟩
/-- the memory has a table: n atoms, converses, threes as bits -/
def Tab (c : gm) (t n : Nat) (mir : Nat → Nat) (N : Nat) : Prop := c.1 t 0 = nI n ∧ 1 ≤ n ∧ n ≤ 4 ∧ c.2.1 t 2 = lN N ∧ N < 2 ^ 64 ∧ ∀ a, a < 4 → c.1 (t + 1) a = nI (mir a) ∧ mir a < 4
section TB
variable {E : gk_E} {dd : Nat} {c : gm} {t n N : Nat} {mir : Nat → Nat}
theorem c_bit {x y z : Nat} (hk : ix x y z < 64) {h : gk_H} {K : Int64 → gk_H → Prop} (k : K (lN (2 ^ ix x y z)) h) : RnL E mX8_bit (dd, 0, 0) [.int (nI x), .int (nI y), .int (nI z)] h K := by
  refine vX8_bit_0 ?_
  rw [ixI, wb_shl 1 hk, Nat.one_mul]
  exact k
theorem c_has (ht : isTab t) (hT : Tab c t n mir N) {x y z : Nat} (hx : x < 4) (hy : y < 4) (hz : z < 4) {K : Int32 → gk_H → Prop} (k : K (bI (N.testBit (ix x y z))) (Hm c)) : RnI E mX8_has (dd, 0, 0) [.ref t, .int (nI x), .int (nI y), .int (nI z)] (Hm c) K := by
  refine vX8_has_0 (ldL ht.1 rfl ?_)
  rw [hT.2.2.2.1, ixI]
  refine bLb hT.2.2.2.2.1 (ix_lt hx hy hz) (fun h => ?_) (fun h => ?_)
  · rw [h] at k; exact k
  · rw [h] at k; exact k
theorem c_relations (ht : isTab t) (hT : Tab c t n mir N) {K : Int32 → gk_H → Prop} (k : K (nI (2 ^ n)) (Hm c)) : RnI E mX8_relations (dd, 0, 0) [.ref t] (Hm c) K := by
  refine vX8_relations_0 (ldI ht.1 rfl ?_)
  have := hT.2.2.1
  rw [hT.1, sh1 (by omega)]
  exact k
/-- the threes of a three's cycle, as bits -/
def trn (mir : Nat → Nat) (x y z : Nat) : Nat := 2 ^ ix x y z ||| 2 ^ ix (mir x) z y ||| 2 ^ ix z (mir y) x ||| 2 ^ ix (mir y) (mir x) (mir z) ||| 2 ^ ix y (mir z) (mir x) ||| 2 ^ ix (mir z) x (mir y)
theorem two_lt {k : Nat} (h : k < 64) : 2 ^ k < 2 ^ 64 := Nat.pow_lt_pow_right (by decide) h
theorem or64 {a b : Nat} (ha : a < 2 ^ 64) (hb : b < 2 ^ 64) : a ||| b < 2 ^ 64 := Nat.or_lt_two_pow ha hb
theorem trn_lt {mir : Nat → Nat} (hm : ∀ a, a < 4 → mir a < 4) {x y z : Nat} (hx : x < 4) (hy : y < 4) (hz : z < 4) : trn mir x y z < 2 ^ 64 :=
  or64 (or64 (or64 (or64 (or64 (two_lt (ix_lt hx hy hz)) (two_lt (ix_lt (hm x hx) hz hy))) (two_lt (ix_lt hz (hm y hy) hx))) (two_lt (ix_lt (hm y hy) (hm x hx) (hm z hz)))) (two_lt (ix_lt hy (hm z hz) (hm x hx)))) (two_lt (ix_lt (hm z hz) hx (hm y hy)))
theorem c_turns (ht : isTab t) (hT : Tab c t n mir N) {x y z : Nat} (hx : x < 4) (hy : y < 4) (hz : z < 4) {K : Int64 → gk_H → Prop} (k : K (lN (trn mir x y z)) (Hm c)) : RnL E mX8_turns (dd + 1, 0, 0) [.ref t, .int (nI x), .int (nI y), .int (nI z)] (Hm c) K := by
  have hm : ∀ a, a < 4 → mir a < 4 := fun a h => (hT.2.2.2.2.2 a h).2
  have hx' := hm x hx
  have hy' := hm y hy
  have hz' := hm z hz
  refine vX8_turns_0 (ldR ht.1 rfl (alI ht.2 hx (by decide) (ldR ht.1 rfl (alI ht.2 hy (by decide) (ldR ht.1 rfl (alI ht.2 hz (by decide) ?_))))))
  rw [(hT.2.2.2.2.2 x hx).1, (hT.2.2.2.2.2 y hy).1, (hT.2.2.2.2.2 z hz).1]
  refine c_bit (ix_lt hx hy hz) (c_bit (ix_lt hx' hz hy) (c_bit (ix_lt hz hy' hx) (c_bit (ix_lt hy' hx' hz') (c_bit (ix_lt hy hz' hx') (c_bit (ix_lt hz' hx hy') ?_)))))
  have g1 := two_lt (ix_lt hx hy hz)
  have g2 := two_lt (ix_lt hx' hz hy)
  have g3 := two_lt (ix_lt hz hy' hx)
  have g4 := two_lt (ix_lt hy' hx' hz')
  have g5 := two_lt (ix_lt hy hz' hx')
  have g6 := two_lt (ix_lt hz' hx hy')
  rw [wb_or g1 g2, wb_or (or64 g1 g2) g3, wb_or (or64 (or64 g1 g2) g3) g4, wb_or (or64 (or64 (or64 g1 g2) g3) g4) g5, wb_or (or64 (or64 (or64 (or64 g1 g2) g3) g4) g5) g6]
  exact k
end TB
