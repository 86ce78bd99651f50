/-! the class's table: equivalences, equations, broken threes, thin pairs, powers -/
def eqv (mir : Nat → Nat) (N n x : Nat) : Bool := x.testBit 0 && (mirB mir x n == x) && (prd N n x x &&& x == prd N n x x)
def unb (N n a b z : Nat) : Bool := prd N n (prd N n (2 ^ a) (2 ^ b)) (2 ^ z) != prd N n (2 ^ a) (prd N n (2 ^ b) (2 ^ z))
theorem and1 (x : Nat) : nI x &&& nI 1 = bI (x.testBit 0) := by
  rw [show (1 : Nat) = 2 ^ 1 - 1 from rfl, fa_mask, bI, tb_mod]
  congr 1
  by_cases h : x % 2 = 1
  · simp [h]
  · simp [h]; omega
section TB
variable {E : gk_E} {dd : Nat} {c : gm} {t n N : Nat} {mir : Nat → Nat}
theorem c_isEquivalence (ht : isTab t) (hT : Tab c t n mir N) {x : Nat} (hx : x < 2 ^ 31) {K : Int32 → gk_H → Prop} (k : K (bI (eqv mir N n x)) (Hm c)) : RnI E mX8_isEquivalence (dd + 1, 0, 0) [.ref t, .int (nI x)] (Hm c) K := by
  have hl := prd_lt N n x x
  have hm : mirB mir x n < 16 := mirB_lt (fun a h => (hT.2.2.2.2.2 a h).2) n hT.2.2.1
  refine vX8_isEquivalence_0 ?_
  rw [and1]
  cases h0 : x.testBit 0
  · refine ⟨fun _ => ?_, fun q => absurd q (by decide)⟩
    simp only [eqv, h0, Bool.false_and] at k
    exact k
  · refine ⟨fun q => absurd rfl q, fun _ => ⟨obj ht.1, c_mirrored ht hT hx (bNe (fun h => ?_) (fun h => ⟨obj ht.1, c_product ht hT hx hx (bSub (fun h2 => ?_) (fun h2 => ?_))⟩))⟩⟩
    · simp only [eqv, h0, beq_false_of_ne h, Bool.and_false, Bool.false_and] at k
      exact k
    · simp only [eqv, h0, h, beq_false_of_ne h2, Bool.and_false] at k
      exact k
    · simp only [eqv, h0, h, h2, beq_self_eq_true, Bool.and_true] at k
      exact k
theorem c_isUnbalanced (ht : isTab t) (hT : Tab c t n mir N) {a b z : Nat} (ha : a < 4) (hb : b < 4) (hz : z < 4) {K : Int32 → gk_H → Prop} (k : K (bI (unb N n a b z)) (Hm c)) : RnI E mX8_isUnbalanced (dd + 1, 0, 0) [.ref t, .int (nI a), .int (nI b), .int (nI z)] (Hm c) K := by
  have pa := pow4 ha
  have pb := pow4 hb
  have pz := pow4 hz
  have q1 := prd_lt N n (2 ^ a) (2 ^ b)
  have q2 := prd_lt N n (2 ^ b) (2 ^ z)
  have q3 := prd_lt N n (prd N n (2 ^ a) (2 ^ b)) (2 ^ z)
  have q4 := prd_lt N n (2 ^ a) (prd N n (2 ^ b) (2 ^ z))
  refine vX8_isUnbalanced_0 ⟨obj ht.1, ?_⟩
  rw [sh1 (by omega), sh1 (by omega), sh1 (by omega)]
  refine c_product ht hT (by omega) (by omega) ⟨obj ht.1, c_product ht hT (by omega) (by omega) ⟨obj ht.1, c_product ht hT (by omega) (by omega) ⟨obj ht.1, c_product ht hT (by omega) (by omega) (bEq (fun h => ?_) (fun h => ?_))⟩⟩⟩
  · simp only [unb, h, bne_self_eq_false] at k
    exact k
  · simp only [unb, bne_iff_ne.mpr h] at k
    exact k
def solS (N n y z side : Nat) : Nat → Nat × Int32 × Nat
  | 0 => (0, -5, 0)
  | x + 1 => let s := solS N n y z side x
    if sdd N n x y side = z then (s.1 + 1, if s.1 = 0 then nI x else s.2.1, s.2.2 ||| x) else s
def solA (s : Nat × Int32 × Nat) (what : Nat) : Int32 := if what = 0 then nI s.1 else if what = 1 then s.2.1 else if s.1 = 0 then s.2.1 else nI s.2.2
theorem solS_le (N n y z side : Nat) : ∀ x, (solS N n y z side x).1 ≤ x
  | 0 => Nat.le_refl _
  | x + 1 => by
    have := solS_le N n y z side x
    simp only [solS]
    split
    · show (solS N n y z side x).1 + 1 ≤ x + 1
      omega
    · omega
theorem c_solutions (ht : isTab t) (hT : Tab c t n mir N) {y z side what : Nat} (hy : y < 2 ^ 31) (hz : z < 2 ^ 31) (hs : side < 2 ^ 31) (hw : what < 2 ^ 31) {K : Int32 → gk_H → Prop} (k : K (solA (solS N n y z side (2 ^ n)) what) (Hm c)) : RnI E mX8_solutions (dd + 2, 0, 0) [.ref t, .int (nI y), .int (nI z), .int (nI side), .int (nI what)] (Hm c) K := by
  have h4 := hT.2.2.1
  have hp : 2 ^ n ≤ 16 := (Nat.pow_le_pow_right (n := 2) (by decide) h4 : 2 ^ n ≤ 2 ^ 4)
  refine vX8_solutions_0 ?_
  refine down0 (P := fun x => pX8_solutions_13 E (dd + 1) t (nI y) (nI z) (nI side) (nI what) (nI (solS N n y z side x).1) (solS N n y z side x).2.1 (nI (solS N n y z side x).2.2) (nI x) (Hm c) K) (2 ^ n) ?_ ?_
  · refine vX8_solutions_13 ⟨obj ht.1, c_relations ht hT (bLe (fun _ => ?_) (fun h => absurd h (by omega)))⟩
    have hle := solS_le N n y z side (2 ^ n)
    refine bN0 (fun h => bEq (fun h1 => ?_) (fun h1 => bN0 (fun h2 => ?_) (fun h2 => ?_))) (fun h => ?_)
    · rw [solA, if_neg h, if_pos h1] at k; exact k
    · rw [solA, if_neg h, if_neg h1, if_neg h2] at k; exact k
    · rw [solA, if_neg h, if_neg h1, if_pos h2] at k; exact k
    · rw [solA, if_pos h] at k; exact k
  · intro x hx ih
    have hle := solS_le N n y z side x
    have hl := sdd_lt N n x y side
    refine vX8_solutions_13 ⟨obj ht.1, c_relations ht hT (bLe (fun h => absurd h (by omega)) (fun _ => ⟨obj ht.1, c_sided ht hT (by omega) hy hs (bNe (fun h => ?_) (fun h => bN0 (fun h2 => ?_) (fun h2 => ?_)))⟩))⟩
    · rw [show solS N n y z side (x + 1) = solS N n y z side x by simp only [solS, if_neg h]] at ih
      rw [nI_add]
      exact ih
    · rw [show solS N n y z side (x + 1) = ((solS N n y z side x).1 + 1, (solS N n y z side x).2.1, (solS N n y z side x).2.2 ||| x) by simp only [solS, if_pos h, if_neg h2]] at ih
      rw [nI_add, nI_add, fa_or]
      exact ih
    · rw [show solS N n y z side (x + 1) = ((solS N n y z side x).1 + 1, nI x, (solS N n y z side x).2.2 ||| x) by simp only [solS, if_pos h, if_pos h2]] at ih
      rw [nI_add, nI_add, fa_or]
      exact ih
end TB
