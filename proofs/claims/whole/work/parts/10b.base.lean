/-! helpers: loops, branches, bits -/
theorem down {P : Nat → Prop} (n : Nat) (hx : P n) (hs : ∀ i, i < n → P (i + 1) → P i) : ∀ i, i ≤ n → P i := by
  intro i hi
  induction hk : n - i generalizing i with
  | zero => rw [show i = n by omega]; exact hx
  | succ k ih => exact hs i (by omega) (ih (i + 1) (by omega) (by omega))
theorem down0 {P : Nat → Prop} (n : Nat) (hx : P n) (hs : ∀ i, i < n → P (i + 1) → P i) : P 0 := down n hx hs 0 (Nat.zero_le _)
/-- from i0 on -/
theorem downF {P : Nat → Prop} (i0 n : Nat) (h : i0 ≤ n) (hx : P n) (hs : ∀ i, i0 ≤ i → i < n → P (i + 1) → P i) : P i0 := by
  have := down (P := fun k => P (i0 + k)) (n - i0) (by show P (i0 + (n - i0)); rw [show i0 + (n - i0) = n by omega]; exact hx) (fun k hk p => hs (i0 + k) (by omega) (by omega) p) 0 (Nat.zero_le _)
  exact this
theorem bLe {a b : Nat} {A B : Prop} (f : a ≤ b → A) (g : b < a → B) (ha : a < 2 ^ 31 := by omega) (hb : b < 2 ^ 31 := by omega) : (nI a ≤ nI b → A) ∧ (¬ nI a ≤ nI b → B) := ⟨fun h => f ((nI_leI ha hb).mp h), fun h => g (Nat.lt_of_not_le fun q => h ((nI_leI ha hb).mpr q))⟩
theorem bLt {a b : Nat} {A B : Prop} (f : a < b → A) (g : b ≤ a → B) (ha : a < 2 ^ 31 := by omega) (hb : b < 2 ^ 31 := by omega) : (nI a < nI b → A) ∧ (¬ nI a < nI b → B) := ⟨fun h => f ((nI_ltI ha hb).mp h), fun h => g (Nat.le_of_not_lt fun q => h ((nI_ltI ha hb).mpr q))⟩
theorem bEq {a b : Nat} {A B : Prop} (f : a = b → A) (g : a ≠ b → B) (ha : a < 2 ^ 31 := by omega) (hb : b < 2 ^ 31 := by omega) : (nI a = nI b → A) ∧ (¬ nI a = nI b → B) := ⟨fun h => f ((nI_eq ha hb).mp h), fun h => g (fun q => h ((nI_eq ha hb).mpr q))⟩
theorem bNe {a b : Nat} {A B : Prop} (f : a ≠ b → A) (g : a = b → B) (ha : a < 2 ^ 31 := by omega) (hb : b < 2 ^ 31 := by omega) : (¬ nI a = nI b → A) ∧ (nI a = nI b → B) := (bEq g f ha hb).symm
theorem bE0 {a : Nat} {A B : Prop} (f : a = 0 → A) (g : a ≠ 0 → B) (ha : a < 2 ^ 31 := by omega) : (nI a = 0 → A) ∧ (¬ nI a = 0 → B) := by
  rw [← nI_0]
  exact bEq f g ha (by decide)
theorem bN0 {a : Nat} {A B : Prop} (f : a ≠ 0 → A) (g : a = 0 → B) (ha : a < 2 ^ 31 := by omega) : (¬ nI a = 0 → A) ∧ (nI a = 0 → B) := (bE0 g f ha).symm
/-- a boolean answer -/
def bI (b : Bool) : Int32 := nI (if b then 1 else 0)
theorem bI_t : bI true = nI 1 := rfl
theorem bI_f : bI false = nI 0 := rfl
theorem bI_bz (b : Bool) : bz (bI b) := by cases b <;> first | exact Or.inl rfl | exact Or.inr rfl
theorem bB0 {b : Bool} {A B : Prop} (f : b = false → A) (g : b = true → B) : (bI b = 0 → A) ∧ (¬ bI b = 0 → B) := by
  cases b
  · exact ⟨fun _ => f rfl, fun h => absurd rfl h⟩
  · exact ⟨fun h => absurd h (by decide), fun _ => g rfl⟩
theorem bBn {b : Bool} {A B : Prop} (f : b = true → A) (g : b = false → B) : (¬ bI b = 0 → A) ∧ (bI b = 0 → B) := (bB0 g f).symm
theorem sl5 : ∀ n, n < 32 → ((nI n &&& 31).toBitVec.smod 32).toNat = n := by decide +kernel
theorem sh1 {a : Nat} (h : a < 31) : nI 1 <<< (nI a &&& 31) = nI (2 ^ a) := by
  rw [pk_shlN (nI a &&& 31) a (sl5 a (by omega)) (by rw [Nat.one_mul]; exact Nat.pow_lt_pow_right (by decide) (by omega)), Nat.one_mul]
theorem tb_mod (x a : Nat) : x.testBit a = decide (x / 2 ^ a % 2 = 1) := Nat.testBit_eq_decide_div_mod_eq
theorem shb {x a : Nat} (hx : x < 2 ^ 31) (ha : a < 31) : (nI x >>> (nI a &&& 31)) &&& nI 1 = bI (x.testBit a) := by
  rw [pk_shrN hx (nI a &&& 31) a (sl5 a (by omega)), show (1 : Nat) = 2 ^ 1 - 1 from rfl, fa_mask, bI, tb_mod]
  congr 1
  have := Nat.mod_lt (x / 2 ^ a) (show 0 < 2 by decide)
  by_cases h : x / 2 ^ a % 2 = 1
  · simp [h]
  · simp [h]; omega
theorem bBit {x a : Nat} {A B : Prop} (f : x.testBit a = false → A) (g : x.testBit a = true → B) (hx : x < 2 ^ 31 := by omega) (ha : a < 31 := by omega) : (¬ ((nI x >>> (nI a &&& 31)) &&& nI 1) = nI 1 → A) ∧ (((nI x >>> (nI a &&& 31)) &&& nI 1) = nI 1 → B) := by
  rw [shb hx ha]
  cases h : x.testBit a
  · exact ⟨fun _ => f h, fun q => absurd q (by decide)⟩
  · exact ⟨fun q => absurd rfl q, fun _ => g h⟩
theorem bBit0 {x a : Nat} {A B : Prop} (f : x.testBit a = true → A) (g : x.testBit a = false → B) (hx : x < 2 ^ 31 := by omega) (ha : a < 31 := by omega) : (¬ ((nI x >>> (nI a &&& 31)) &&& nI 1) = 0 → A) ∧ (((nI x >>> (nI a &&& 31)) &&& nI 1) = 0 → B) := by
  rw [shb hx ha]
  exact bBn f g
/-- the place of a three -/
def ix (a b c : Nat) : Nat := 16 * a + 4 * b + c
theorem ix_lt {a b c : Nat} (ha : a < 4) (hb : b < 4) (hc : c < 4) : ix a b c < 64 := by unfold ix; omega
theorem ixI (a b c : Nat) : nI 16 * nI a + nI 4 * nI b + nI c = nI (ix a b c) := by simp only [pk_mul, nI_add, ix]
theorem lbit {N k : Nat} (hN : N < 2 ^ 64) (hk : k < 64) : ((lN N).toUInt64 >>> ((nI k).toInt64.toUInt64 &&& Int64.toUInt64 63)).toInt64 &&& lN 1 = lN (if N.testBit k then 1 else 0) := by
  rw [show lN 1 = (1 : Int64) from rfl, wb_bit hN hk, tb_mod]
  congr 1
  by_cases h : N / 2 ^ k % 2 = 1
  · simp [h]
  · simp [h]; omega
theorem bLb {N k : Nat} {A B : Prop} (hN : N < 2 ^ 64) (hk : k < 64) (f : N.testBit k = false → A) (g : N.testBit k = true → B) : (¬ lg_cmp (((lN N).toUInt64 >>> ((nI k).toInt64.toUInt64 &&& Int64.toUInt64 63)).toInt64 &&& lN 1) (lN 1) = 0 → A) ∧ (lg_cmp (((lN N).toUInt64 >>> ((nI k).toInt64.toUInt64 &&& Int64.toUInt64 63)).toInt64 &&& lN 1) (lN 1) = 0 → B) := by
  rw [lbit hN hk, lg_cmp_eq]
  cases h : N.testBit k
  · exact ⟨fun _ => f h, fun q => absurd q (by decide)⟩
  · exact ⟨fun q => absurd rfl q, fun _ => g h⟩
