/-! the class's table: relations -/
theorem subI (a b : Int32) : a &&& (b ^^^ (-1)) = 0 ↔ a &&& b = a := by
  rw [← Int32.toBitVec_inj, ← Int32.toBitVec_inj, Int32.toBitVec_and, Int32.toBitVec_and, Int32.toBitVec_xor]
  have h1 : (-1 : Int32).toBitVec = BitVec.allOnes 32 := by decide
  have h0 : (0 : Int32).toBitVec = 0#32 := by decide
  rw [h1, h0]
  constructor
  · intro h
    apply BitVec.eq_of_getLsbD_eq
    intro i hi
    have := congrArg (fun v => v.getLsbD i) h
    simp only [BitVec.getLsbD_and, BitVec.getLsbD_xor, BitVec.getLsbD_allOnes, BitVec.getLsbD_zero, hi, decide_true] at this ⊢
    revert this
    cases a.toBitVec.getLsbD i <;> cases b.toBitVec.getLsbD i <;> decide
  · intro h
    apply BitVec.eq_of_getLsbD_eq
    intro i hi
    have := congrArg (fun v => v.getLsbD i) h
    simp only [BitVec.getLsbD_and, BitVec.getLsbD_xor, BitVec.getLsbD_allOnes, BitVec.getLsbD_zero, hi, decide_true] at this ⊢
    revert this
    cases a.toBitVec.getLsbD i <;> cases b.toBitVec.getLsbD i <;> decide
theorem bSub {p x : Nat} {A B : Prop} (f : p &&& x ≠ p → A) (g : p &&& x = p → B) (hp : p < 2 ^ 31 := by omega) : (¬ (nI p &&& (nI x ^^^ (-1))) = 0 → A) ∧ ((nI p &&& (nI x ^^^ (-1))) = 0 → B) := by
  have hl : p &&& x < 2 ^ 31 := Nat.lt_of_le_of_lt Nat.and_le_left hp
  rw [subI, fa_and]
  exact bNe f g hl hp
/-- converse of a relation: its atoms below k -/
def mirB (mir : Nat → Nat) (x : Nat) : Nat → Nat
  | 0 => 0
  | a + 1 => if x.testBit a then mirB mir x a ||| 2 ^ mir a else mirB mir x a
def prdB (N x y a r : Nat) : Nat → Nat
  | 0 => r
  | b + 1 => if x.testBit a = true ∧ y.testBit b = true then prdB N x y a r b ||| (N / 2 ^ (16 * a + 4 * b) % 16) else prdB N x y a r b
def prdA (N n x y : Nat) : Nat → Nat
  | 0 => 0
  | a + 1 => prdB N x y a (prdA N n x y a) n
/-- x composed with y -/
def prd (N n x y : Nat) : Nat := prdA N n x y n
theorem or16 {a b : Nat} (ha : a < 16) (hb : b < 16) : a ||| b < 16 := Nat.or_lt_two_pow (n := 4) ha hb
theorem prdB_lt {N x y a r : Nat} (hr : r < 16) : ∀ b, prdB N x y a r b < 16
  | 0 => hr
  | b + 1 => by
    unfold prdB
    split
    · exact or16 (prdB_lt hr b) (Nat.mod_lt _ (by decide))
    · exact prdB_lt hr b
theorem prdA_lt {N n x y : Nat} : ∀ a, prdA N n x y a < 16
  | 0 => Nat.zero_lt_succ 15
  | a + 1 => prdB_lt (prdA_lt a) n
theorem prd_lt (N n x y : Nat) : prd N n x y < 16 := prdA_lt n
theorem pow4 {a : Nat} (h : a < 4) : 2 ^ a < 16 := Nat.pow_lt_pow_right (a := 2) (n := 4) (by decide) h
theorem mirB_lt {mir : Nat → Nat} (hm : ∀ a, a < 4 → mir a < 4) {x : Nat} : ∀ k, k ≤ 4 → mirB mir x k < 16
  | 0, _ => Nat.zero_lt_succ 15
  | k + 1, h => by
    unfold mirB
    split
    · exact or16 (mirB_lt hm k (by omega)) (pow4 (hm k (by omega)))
    · exact mirB_lt hm k (by omega)
section TB
variable {E : gk_E} {dd : Nat} {c : gm} {t n N : Nat} {mir : Nat → Nat}
theorem c_mirrored (ht : isTab t) (hT : Tab c t n mir N) {x : Nat} (hx : x < 2 ^ 31) {K : Int32 → gk_H → Prop} (k : K (nI (mirB mir x n)) (Hm c)) : RnI E mX8_mirrored (dd, 0, 0) [.ref t, .int (nI x)] (Hm c) K := by
  have h4 := hT.2.2.1
  refine vX8_mirrored_0 ?_
  refine down0 (P := fun a => pX8_mirrored_4 E dd t (nI x) (nI (mirB mir x a)) (nI a) (Hm c) K) n ?_ ?_
  · refine vX8_mirrored_4 (ldI ht.1 rfl ?_)
    rw [hT.1]
    exact bLe (fun _ => k) (fun h => absurd h (by omega))
  · intro a ha ih
    refine vX8_mirrored_4 (ldI ht.1 rfl ?_)
    rw [hT.1]
    refine bLe (fun h => absurd h (by omega)) (fun _ => bBit (fun h => ?_) (fun h => ?_) hx)
    · rw [mirB, if_neg (by rw [h]; decide)] at ih
      rw [nI_add]
      exact ih
    · refine ldR ht.1 rfl (alI ht.2 (by omega) (by decide) ?_)
      have hm := hT.2.2.2.2.2 a (by omega)
      rw [mirB, if_pos h] at ih
      rw [hm.1, sh1 (by omega), fa_or, nI_add]
      exact ih
theorem c_product (ht : isTab t) (hT : Tab c t n mir N) {x y : Nat} (hx : x < 2 ^ 31) (hy : y < 2 ^ 31) {K : Int32 → gk_H → Prop} (k : K (nI (prd N n x y)) (Hm c)) : RnI E mX8_product (dd, 0, 0) [.ref t, .int (nI x), .int (nI y)] (Hm c) K := by
  have h4 := hT.2.2.1
  refine vX8_product_0 ?_
  refine down0 (P := fun a => pX8_product_5 E dd t (nI x) (nI y) (nI (prdA N n x y a)) (nI a) (Hm c) K) n ?_ ?_
  · refine vX8_product_5 (ldI ht.1 rfl ?_)
    rw [hT.1]
    exact bLe (fun _ => k) (fun h => absurd h (by omega))
  · intro a ha ih
    refine vX8_product_5 (ldI ht.1 rfl ?_)
    rw [hT.1]
    refine bLe (fun h => absurd h (by omega)) (fun _ => ?_)
    refine down0 (P := fun b => pX8_product_17 E dd t (nI x) (nI y) (nI (prdB N x y a (prdA N n x y a) b)) (nI a) (nI b) (Hm c) K) n ?_ ?_
    · refine vX8_product_17 (ldI ht.1 rfl ?_)
      simp only [hT.1, nI_add]
      exact bLe (fun _ => ih) (fun h => absurd h (by omega))
    · intro b hb ih2
      refine vX8_product_17 (ldI ht.1 rfl ?_)
      simp only [hT.1, nI_add]
      refine bLe (fun h => absurd h (by omega)) (fun _ => bBit (fun h => ?_) (fun h => bBit (fun h2 => ?_) (fun h2 => ldL ht.1 rfl ?_) hy) hx)
      · rw [prdB, if_neg (by rw [h]; simp)] at ih2
        exact ih2
      · rw [prdB, if_neg (by rw [h2]; simp)] at ih2
        exact ih2
      · rw [prdB, if_pos ⟨h, h2⟩] at ih2
        intro w hw
        rw [hw, hT.2.2.2.1, pk_mul, pk_mul, nI_add, wb_shr hT.2.2.2.2.1 (by omega), lN_i, show (15 : Nat) = 2 ^ 4 - 1 from rfl, fa_mask, fa_or]
        exact ih2
/-- x;y (side 0), y;x (side 1) -/
def sdd (N n x y side : Nat) : Nat := if side = 0 then prd N n x y else prd N n y x
theorem sdd_lt (N n x y side : Nat) : sdd N n x y side < 16 := by unfold sdd; split <;> exact prd_lt _ _ _ _
theorem c_sided (ht : isTab t) (hT : Tab c t n mir N) {x y side : Nat} (hx : x < 2 ^ 31) (hy : y < 2 ^ 31) (hs : side < 2 ^ 31) {K : Int32 → gk_H → Prop} (k : K (nI (sdd N n x y side)) (Hm c)) : RnI E mX8_sided (dd + 1, 0, 0) [.ref t, .int (nI x), .int (nI y), .int (nI side)] (Hm c) K := by
  refine vX8_sided_0 (bN0 (fun h => ⟨obj ht.1, c_product ht hT hy hx ?_⟩) (fun h => ⟨obj ht.1, c_product ht hT hx hy ?_⟩) hs)
  · rw [sdd, if_neg h] at k; exact k
  · rw [sdd, if_pos h] at k; exact k
def resB (N n x y side : Nat) : Nat → Nat
  | 0 => 0
  | a + 1 => if sdd N n (2 ^ a) y side &&& x = sdd N n (2 ^ a) y side then resB N n x y side a ||| 2 ^ a else resB N n x y side a
theorem c_residual (ht : isTab t) (hT : Tab c t n mir N) {x y side : Nat} (hx : x < 2 ^ 31) (hy : y < 2 ^ 31) (hs : side < 2 ^ 31) {K : Int32 → gk_H → Prop} (k : K (nI (resB N n x y side n)) (Hm c)) : RnI E mX8_residual (dd + 2, 0, 0) [.ref t, .int (nI x), .int (nI y), .int (nI side)] (Hm c) K := by
  have h4 := hT.2.2.1
  refine vX8_residual_0 ?_
  refine down0 (P := fun a => pX8_residual_6 E (dd + 1) t (nI x) (nI y) (nI side) (nI (resB N n x y side a)) (nI a) (Hm c) K) n ?_ ?_
  · refine vX8_residual_6 (ldI ht.1 rfl ?_)
    rw [hT.1]
    exact bLe (fun _ => k) (fun h => absurd h (by omega))
  · intro a ha ih
    refine vX8_residual_6 (ldI ht.1 rfl ?_)
    rw [hT.1]
    have hp := pow4 (a := a) (by omega)
    refine bLe (fun h => absurd h (by omega)) (fun _ => ⟨obj ht.1, ?_⟩)
    rw [sh1 (by omega), nI_add, fa_or]
    refine c_sided ht hT (by omega) hy hs ?_
    have hl := sdd_lt N n (2 ^ a) y side
    refine bSub (fun h => ?_) (fun h => ?_)
    · rw [resB, if_neg h] at ih; exact ih
    · rw [resB, if_pos h] at ih; exact ih
end TB
