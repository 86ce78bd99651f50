/-! gaps: bits of the gaps from i to j; the list of all gaps -/
def bfn (f : Nat → Bool) : Nat → Nat
  | 0 => 0
  | k + 1 => if f k = true then bfn f k ||| 2 ^ k else bfn f k
theorem bfn_bit (f : Nat → Bool) : ∀ m k, (bfn f m).testBit k = (decide (k < m) && f k)
  | 0, k => by simp [bfn]
  | m + 1, k => by
    unfold bfn
    have ih := bfn_bit f m k
    by_cases e : k = m
    · subst e
      split
      · rename_i h; rw [Nat.testBit_or, ih, Nat.testBit_two_pow_self, h]; simp
      · rename_i h; rw [ih]; simp [h]
    · have e2 : decide (k < m + 1) = decide (k < m) := by congr 1; apply propext; omega
      rw [e2]
      split
      · rw [Nat.testBit_or, ih, Nat.testBit_two_pow_of_ne (fun q => e q.symm), Bool.or_false]
      · exact ih
theorem bfn_lt (f : Nat → Bool) : ∀ m, bfn f m < 2 ^ m
  | 0 => Nat.one_pos
  | m + 1 => by
    have ih := bfn_lt f m
    have h2 : 2 ^ m < 2 ^ (m + 1) := Nat.pow_lt_pow_right (by decide) (by omega)
    unfold bfn
    split
    · exact Nat.or_lt_two_pow (by omega) h2
    · omega
theorem bfn_skip {f : Nat → Bool} {m m' : Nat} (hm : m ≤ m') (h : ∀ k, m ≤ k → k < m' → f k = false) : bfn f m = bfn f m' := by
  apply Nat.eq_of_testBit_eq
  intro k
  rw [bfn_bit, bfn_bit]
  by_cases h1 : k < m
  · simp [h1, show k < m' by omega]
  · by_cases h2 : k < m'
    · simp [h k (by omega) h2]
    · simp [h1, h2]
theorem bfn_cg {f g : Nat → Bool} {m : Nat} (h : ∀ k, k < m → f k = g k) : bfn f m = bfn g m := by
  apply Nat.eq_of_testBit_eq
  intro k
  rw [bfn_bit, bfn_bit]
  by_cases h1 : k < m
  · rw [h k h1]
  · simp [h1]
theorem fa_xor (a b : Nat) : nI a ^^^ nI b = nI (a ^^^ b) := by
  apply Int32.toBitVec_inj.1
  show BitVec.ofNat 32 a ^^^ BitVec.ofNat 32 b = BitVec.ofNat 32 (a ^^^ b)
  apply BitVec.eq_of_getLsbD_eq
  intro i hi
  simp [hi]
theorem bfn_clr {f : Nat → Bool} {q : Nat} (hq : q < 16) : nI (bfn f 16) &&& (nI (2 ^ q) ^^^ (-1)) = nI (bfn (fun m => f m && m != q) 16) := by
  rw [show (-1 : Int32) = nI (2 ^ 32 - 1) from rfl, fa_xor, fa_and]
  congr 1
  apply Nat.eq_of_testBit_eq
  intro k
  rw [Nat.testBit_and, Nat.testBit_xor, bfn_bit, bfn_bit, Nat.testBit_two_pow_sub_one, Nat.testBit_two_pow]
  by_cases h1 : k < 16
  · by_cases h2 : q = k
    · subst h2; simp [h1, show q < 32 by omega]
    · simp [h1, h2, show k < 32 by omega, show ¬ k = q from fun z => h2 z.symm]
  · simp [h1]
/-- 4 a + b is a gap from i to j, seen against t nodes -/
def opR (n m : Nat) : Bool := decide (1 ≤ m / 4 ∧ m / 4 < n ∧ 1 ≤ m % 4 ∧ m % 4 < n)
def opP (N n : Nat) (lab : Nat → Nat → Nat) (i j t m : Nat) : Bool := opR n m && N.testBit (4 * m + lab i j) && (List.range t).all (fun q => 4 * lab i q + lab q j != m)
def opn (N n s : Nat) (lab : Nat → Nat → Nat) (i j : Nat) : Nat := bfn (opP N n lab i j s) 16
theorem opn_lt (N n s : Nat) (lab : Nat → Nat → Nat) (i j : Nat) : opn N n s lab i j < 65536 := bfn_lt _ 16
theorem opP_no {N n i j t m : Nat} {lab : Nat → Nat → Nat} (h : ¬ (1 ≤ m / 4 ∧ m / 4 < n ∧ 1 ≤ m % 4 ∧ m % 4 < n)) : opP N n lab i j t m = false := by
  unfold opP opR
  rw [decide_eq_false h]; rfl
theorem opP_sc {N n i j t m : Nat} {lab : Nat → Nat → Nat} : opP N n lab i j (t + 1) m = (opP N n lab i j t m && m != 4 * lab i t + lab t j) := by
  unfold opP
  rw [List.range_succ, List.all_append, Bool.and_assoc, Bool.and_assoc, Bool.and_assoc]
  congr 3
  simp only [List.all_cons, List.all_nil, Bool.and_true]
  by_cases e : m = 4 * lab i t + lab t j
  · rw [e]
  · rw [bne_iff_ne.mpr e, bne_iff_ne.mpr (fun z => e z.symm)]
section GA
variable {E : gk_E} {dd : Nat} {c : gm} {r s t n N : Nat} {mir : Nat → Nat} {lab : Nat → Nat → Nat}
theorem c_open (hr : isNt r) (ht : isTab t) (hT : Tab c t n mir N) (hN : NetAt c r s lab) (hv : ∀ p q, p < s → q < s → lab p q < 4) {i j : Nat} (hi : i < s) (hj : j < s) {K : Int32 → gk_H → Prop} (k : K (nI (opn N n s lab i j)) (Hm c)) : RnI E mX3_open (dd + 1, 0, 0) [.ref r, .ref t, .int (nI i), .int (nI j)] (Hm c) K := by
  have h1 := hT.2.1
  have h4 := hT.2.2.1
  have h6 := hN.2.1
  have hij := hv i j hi hj
  refine vX3_open_0 ⟨obj hr.1, c_at hr hN hi hj ?_⟩
  have e0 : bfn (opP N n lab i j 0) (4 * 1 + 1) = 0 := by
    have : bfn (opP N n lab i j 0) 0 = bfn (opP N n lab i j 0) (4 * 1 + 1) := bfn_skip (by omega) (fun q _ hq => opP_no (by omega))
    rw [← this]; rfl
  have e1 : nI 0 = nI (bfn (opP N n lab i j 0) (4 * 1 + 1)) := by rw [e0]
  have main : pX3_open_14 E dd r t (nI i) (nI j) (nI (bfn (opP N n lab i j 0) (4 * 1 + 1))) (nI (lab i j)) (nI 1) (Hm c) K := by
    refine downF (P := fun a => pX3_open_14 E dd r t (nI i) (nI j) (nI (bfn (opP N n lab i j 0) (4 * a + 1))) (nI (lab i j)) (nI a) (Hm c) K) 1 n h1 ?_ ?_
    · refine vX3_open_14 (ldI ht.1 rfl ?_)
      rw [hT.1]
      refine bLe (fun _ => ?_) (fun h => absurd h (by omega))
      have e2 : bfn (opP N n lab i j 0) (4 * n + 1) = bfn (opP N n lab i j 0) 16 := by
        by_cases h : n = 4
        · subst h; rw [show 4 * 4 + 1 = 17 from rfl]; exact (bfn_skip (by omega) (fun q h1 h2 => opP_no (by omega))).symm
        · exact bfn_skip (by omega) (fun q h1 h2 => opP_no (by omega))
      rw [e2]
      refine down0 (P := fun k => pX3_open_77 E dd r t (nI i) (nI j) (nI (bfn (opP N n lab i j k) 16)) (nI (lab i j)) (nI k) (Hm c) K) s ?_ ?_
      · refine vX3_open_77 (ldI hr.1 rfl ?_)
        rw [hN.1]
        exact bLe (fun _ => k) (fun h => absurd h (by omega))
      · intro q hq ih
        refine vX3_open_77 (ldI hr.1 rfl ?_)
        rw [hN.1]
        refine bLe (fun h => absurd h (by omega)) (fun _ => ⟨obj hr.1, c_at hr hN hi hq ⟨obj hr.1, c_at hr hN hq hj ?_⟩⟩)
        have g1 := hv i q hi hq
        have g2 := hv q j hq hj
        rw [pk_mul, nI_add, nI_add, sh1 (by omega), bfn_clr (by omega), bfn_cg (g := opP N n lab i j (q + 1)) (fun m _ => opP_sc.symm)]
        exact ih
    · intro a ha1 ha ih
      refine vX3_open_14 (ldI ht.1 rfl ?_)
      rw [hT.1]
      refine bLe (fun h => absurd h (by omega)) (fun _ => ?_)
      refine downF (P := fun b => pX3_open_26 E dd r t (nI i) (nI j) (nI (bfn (opP N n lab i j 0) (4 * a + b))) (nI (lab i j)) (nI a) (nI b) (Hm c) K) 1 n h1 ?_ ?_
      · refine vX3_open_26 (ldI ht.1 rfl ?_)
        simp only [hT.1, nI_add]
        refine bLe (fun _ => ?_) (fun h => absurd h (by omega))
        rw [bfn_skip (m' := 4 * (a + 1) + 1) (by omega) (fun q h1 h2 => opP_no (by omega))]
        exact ih
      · intro b hb1 hb ih2
        refine vX3_open_26 (ldI ht.1 rfl ?_)
        simp only [hT.1, nI_add, pk_mul]
        rw [sh1 (by omega), fa_or]
        have ed : (4 * a + b) / 4 = a ∧ (4 * a + b) % 4 = b := by omega
        have ef : opP N n lab i j 0 (4 * a + b) = N.testBit (ix a b (lab i j)) := by
          unfold opP opR
          rw [ed.1, ed.2, decide_eq_true ⟨ha1, ha, hb1, hb⟩, show 4 * (4 * a + b) + lab i j = ix a b (lab i j) by unfold ix; omega]
          simp
        refine bLe (fun h => absurd h (by omega)) (fun _ => ⟨obj ht.1, c_has ht hT (by omega) (by omega) hij (bB0 (fun e => ?_) (fun e => ?_))⟩)
        · rw [show 4 * a + (b + 1) = (4 * a + b) + 1 by omega, bfn, if_neg (by rw [ef, e]; decide)] at ih2
          exact ih2
        · rw [show 4 * a + (b + 1) = (4 * a + b) + 1 by omega, bfn, if_pos (by rw [ef]; exact e)] at ih2
          exact ih2
  rw [e1]
  exact main
/-- the number of a gap -/
def gC (i j m : Nat) : Nat := 1000 * i + 100 * j + 10 * (m / 4) + m % 4
theorem c_gapNumber {i j m : Nat} (hm : m < 16) {h : gk_H} {K : Int32 → gk_H → Prop} (k : K (nI (gC i j m)) h) : RnI E mX3_gapNumber (dd, 0, 0) [.int (nI i), .int (nI j), .int (nI m)] h K := by
  refine vX3_gapNumber_0 ?_
  rw [pk_shrN (by omega) (nI 2 &&& 31) 2 (sl5 2 (by omega)), show (3 : Nat) = 2 ^ 2 - 1 from rfl, fa_mask]
  simp only [pk_mul, nI_add]
  exact k
/-- the gaps from i to j, in order -/
def blk (N n s : Nat) (lab : Nat → Nat → Nat) (i j : Nat) : List Nat := ((List.range 16).filter (opP N n lab i j s)).map (gC i j)
def gpL (N n s : Nat) (lab : Nat → Nat → Nat) : List Nat := (List.range s).flatMap (fun i => ((List.range s).drop i).flatMap (fun j => blk N n s lab i j))
end GA
