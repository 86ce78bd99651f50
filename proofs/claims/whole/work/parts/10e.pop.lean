/-- the sum of f below k -/
def cs (f : Nat → Nat) : Nat → Nat
  | 0 => 0
  | k + 1 => cs f k + f k
theorem cs_le {f : Nat → Nat} {m : Nat} (h : ∀ i, f i ≤ m) : ∀ k, cs f k ≤ k * m
  | 0 => Nat.zero_le _
  | k + 1 => by
    have h1 := cs_le h k
    have h2 := h k
    have h3 : (k + 1) * m = k * m + m := Nat.succ_mul k m
    show cs f k + f k ≤ (k + 1) * m
    omega
def b1 (b : Bool) : Nat := if b then 1 else 0
theorem b1_le (b : Bool) : b1 b ≤ 1 := by cases b <;> decide
/-! how many bits are set: Long.bitCount, Integer.bitCount -/
def val (w : Nat) : List Nat → Nat
  | [] => 0
  | d :: ds => 2 ^ w * val w ds + d
theorem and_split {w A B d m : Nat} (hd : d < 2 ^ w) (hm : m < 2 ^ w) : (2 ^ w * A + d) &&& (2 ^ w * B + m) = 2 ^ w * (A &&& B) + (d &&& m) := by
  apply Nat.eq_of_testBit_eq
  intro j
  rw [Nat.testBit_and, Nat.testBit_two_pow_mul_add _ hd, Nat.testBit_two_pow_mul_add _ hm, Nat.testBit_two_pow_mul_add _ (Nat.and_lt_two_pow d hm)]
  split <;> rw [Nat.testBit_and]
theorem shr_split {w t A B d m : Nat} (ht : t ≤ w) (hd : d < 2 ^ w) (hm : m < 2 ^ (w - t)) : (2 ^ w * A + d) / 2 ^ t &&& (2 ^ w * B + m) = 2 ^ w * (A / 2 ^ t &&& B) + (d / 2 ^ t &&& m) := by
  have hm' : m < 2 ^ w := Nat.lt_of_lt_of_le hm (Nat.pow_le_pow_right (by decide) (by omega))
  apply Nat.eq_of_testBit_eq
  intro j
  rw [Nat.testBit_and, Nat.testBit_div_two_pow, Nat.testBit_two_pow_mul_add _ hd, Nat.testBit_two_pow_mul_add _ hm', Nat.testBit_two_pow_mul_add _ (Nat.and_lt_two_pow _ hm')]
  by_cases hj : j < w
  · rw [if_pos hj, if_pos hj, Nat.testBit_and, Nat.testBit_div_two_pow]
    by_cases hjt : j + t < w
    · rw [if_pos hjt]
    · have : m.testBit j = false := Nat.testBit_lt_two_pow (Nat.lt_of_lt_of_le hm (Nat.pow_le_pow_right (by decide) (by omega)))
      rw [this, Bool.and_false, Bool.and_false]
  · rw [if_neg hj, if_neg hj, if_neg (by omega), Nat.testBit_and, Nat.testBit_div_two_pow, show j + t - w = j - w + t by omega]
theorem val_and4 (m : Nat) (hm : m < 16) : ∀ ds : List Nat, (∀ d ∈ ds, d < 16) → val 4 ds &&& val 4 (ds.map fun _ => m) = val 4 (ds.map fun d => d &&& m)
  | [], _ => by simp [val]
  | d :: ds, h => by
    simp only [List.map_cons, val]
    rw [and_split (h d List.mem_cons_self) hm, val_and4 m hm ds (fun e he => h e (List.mem_cons_of_mem _ he))]
theorem val_shr4 (t m : Nat) (ht : t ≤ 4) (hm : m < 2 ^ (4 - t)) : ∀ ds : List Nat, (∀ d ∈ ds, d < 16) → val 4 ds / 2 ^ t &&& val 4 (ds.map fun _ => m) = val 4 (ds.map fun d => d / 2 ^ t &&& m)
  | [], _ => by simp [val]
  | d :: ds, h => by
    simp only [List.map_cons, val]
    rw [shr_split ht (h d List.mem_cons_self) hm, val_shr4 t m ht hm ds (fun e he => h e (List.mem_cons_of_mem _ he))]
theorem val_sub (f : Nat → Nat) (hf : ∀ d, f d ≤ d) : ∀ ds : List Nat, val 4 (ds.map f) ≤ val 4 ds ∧ val 4 ds - val 4 (ds.map f) = val 4 (ds.map fun d => d - f d)
  | [] => ⟨Nat.le_refl _, rfl⟩
  | d :: ds => by
    obtain ⟨h1, h2⟩ := val_sub f hf ds
    have h3 := hf d
    simp only [List.map_cons, val]
    exact ⟨by omega, by omega⟩
theorem val_add (f g : Nat → Nat) : ∀ ds : List Nat, val 4 (ds.map f) + val 4 (ds.map g) = val 4 (ds.map fun d => f d + g d)
  | [] => rfl
  | d :: ds => by
    have := val_add f g ds
    simp only [List.map_cons, val]
    omega
/-- the bits of a nibble -/
def p4 (d : Nat) : Nat := ((d - (d / 2 ^ 1 &&& 5)) &&& 3) + ((d - (d / 2 ^ 1 &&& 5)) / 2 ^ 2 &&& 3)
theorem p4_le : ∀ d, d < 16 → p4 d ≤ 4 := by decide
theorem p4_bits : ∀ d, d < 16 → p4 d = b1 (d.testBit 0) + b1 (d.testBit 1) + b1 (d.testBit 2) + b1 (d.testBit 3) := by decide
theorem half5 (d : Nat) : (d / 2 ^ 1 &&& 5) ≤ d := Nat.le_trans Nat.and_le_left (Nat.div_le_self _ _)
/-- the first two steps, nibble by nibble -/
theorem pop2 (ds : List Nat) (h : ∀ d ∈ ds, d < 16) : ((val 4 ds - (val 4 ds / 2 ^ 1 &&& val 4 (ds.map fun _ => 5))) &&& val 4 (ds.map fun _ => 3)) + ((val 4 ds - (val 4 ds / 2 ^ 1 &&& val 4 (ds.map fun _ => 5))) / 2 ^ 2 &&& val 4 (ds.map fun _ => 3)) = val 4 (ds.map p4) := by
  rw [val_shr4 1 5 (by decide) (by decide) ds h, (val_sub _ half5 ds).2]
  have e : (ds.map fun _ => 3) = ((ds.map fun d => d - (d / 2 ^ 1 &&& 5)).map fun _ => 3) := by rw [List.map_map]; rfl
  have hb : ∀ d ∈ ds.map (fun d => d - (d / 2 ^ 1 &&& 5)), d < 16 := by
    intro d hd
    obtain ⟨q, hq, rfl⟩ := List.mem_map.mp hd
    have := h q hq
    omega
  rw [e, val_and4 3 (by decide) _ hb, val_shr4 2 3 (by decide) (by decide) _ hb, List.map_map, List.map_map, val_add]
  rfl
/-- x's nibbles -/
def nbs (x : Nat) : Nat → List Nat
  | 0 => []
  | k + 1 => x % 16 :: nbs (x / 16) k
theorem nbs_lt : ∀ (k x : Nat), ∀ d ∈ nbs x k, d < 16
  | 0, x, d, h => by simp [nbs] at h
  | k + 1, x, d, h => by
    rcases List.mem_cons.mp h with rfl | h
    · exact Nat.mod_lt _ (by decide)
    · exact nbs_lt k _ d h
theorem nbs_val : ∀ (k x : Nat), x < 16 ^ k → val 4 (nbs x k) = x
  | 0, x, h => by simp at h; subst h; rfl
  | k + 1, x, h => by
    have h2 : x / 16 < 16 ^ k := by rw [Nat.pow_succ] at h; omega
    simp only [nbs, val]
    rw [nbs_val k _ h2]
    omega
theorem cs_add (f : Nat → Nat) (a : Nat) : ∀ b, cs f (a + b) = cs f a + cs (fun i => f (a + i)) b
  | 0 => rfl
  | b + 1 => by rw [← Nat.add_assoc, cs, cs_add f a b, cs, Nat.add_assoc]
/-- how many bits are set below k -/
def pop (x k : Nat) : Nat := cs (fun i => b1 (x.testBit i)) k
theorem pop_nb (x : Nat) (k : Nat) : pop x (4 * (k + 1)) = p4 (x % 16) + pop (x / 16) (4 * k) := by
  have h16 : x % 16 < 16 := Nat.mod_lt _ (by decide)
  rw [p4_bits _ h16, pop, show 4 * (k + 1) = 4 + 4 * k by omega, cs_add]
  congr 1
  · simp only [cs]
    have e : ∀ i, i < 4 → (x % 16).testBit i = x.testBit i := fun i hi => by rw [show (16 : Nat) = 2 ^ 4 from rfl, Nat.testBit_mod_two_pow]; simp [hi]
    rw [e 0 (by decide), e 1 (by decide), e 2 (by decide), e 3 (by decide)]
    omega
  · unfold pop
    congr 1
    funext i
    rw [show x / 16 = x / 2 ^ 4 from rfl, Nat.testBit_div_two_pow, Nat.add_comm]
theorem val_div {w d : Nat} {ds : List Nat} (hd : d < 2 ^ w) : val w (d :: ds) / 2 ^ w = val w ds := by
  simp only [val]
  rw [Nat.mul_add_div (Nat.two_pow_pos w), Nat.div_eq_of_lt hd, Nat.add_zero]
theorem val_lt {w : Nat} : ∀ {ds : List Nat}, (∀ d ∈ ds, d < 2 ^ w) → val w ds < 2 ^ (w * ds.length)
  | [], _ => by simp [val]
  | d :: ds, h => by
    have h1 := val_lt (w := w) (ds := ds) (fun e he => h e (List.mem_cons_of_mem _ he))
    have h2 := h d List.mem_cons_self
    have e : 2 ^ (w * (d :: ds).length) = 2 ^ w * 2 ^ (w * ds.length) := by rw [← Nat.pow_add, List.length_cons, Nat.mul_succ, Nat.add_comm]
    rw [e]
    simp only [val]
    calc 2 ^ w * val w ds + d < 2 ^ w * val w ds + 2 ^ w := by omega
      _ = 2 ^ w * (val w ds + 1) := by rw [Nat.mul_succ]
      _ ≤ 2 ^ w * 2 ^ (w * ds.length) := Nat.mul_le_mul_left _ h1
def addS : List Nat → List Nat → List Nat
  | ds, [] => ds
  | [], es => es
  | d :: ds, e :: es => (d + e) :: addS ds es
theorem val_addS (w : Nat) : ∀ ds es : List Nat, val w (addS ds es) = val w ds + val w es
  | [], [] => rfl
  | d :: ds, [] => rfl
  | [], e :: es => by show val w (e :: es) = 0 + val w (e :: es); omega
  | d :: ds, e :: es => by
    have := val_addS w ds es
    simp only [addS, val]
    rw [this, Nat.mul_add]
    omega
theorem val_andL (w : Nat) : ∀ ds ms : List Nat, (∀ d ∈ ds, d < 2 ^ w) → (∀ m ∈ ms, m < 2 ^ w) → ds.length = ms.length → val w ds &&& val w ms = val w (List.zipWith (fun a b => a &&& b) ds ms)
  | [], [], _, _, _ => by simp [val]
  | [], m :: ms, _, _, h => by simp at h
  | d :: ds, [], _, _, h => by simp at h
  | d :: ds, m :: ms, h1, h2, h => by
    simp only [List.zipWith_cons_cons, val]
    rw [and_split (h1 d List.mem_cons_self) (h2 m List.mem_cons_self), val_andL w ds ms (fun e he => h1 e (List.mem_cons_of_mem _ he)) (fun e he => h2 e (List.mem_cons_of_mem _ he)) (by simpa using h)]
theorem val_mod7 (d : Nat) (ds : List Nat) : val 8 (d :: ds) % 2 ^ 7 = d % 2 ^ 7 := by
  simp only [val]
  generalize val 8 ds = V
  omega
theorem val_48 : ∀ ps : List Nat, val 4 (ps.flatMap fun a => [a, 0]) = val 8 ps
  | [] => rfl
  | p :: ps => by
    have := val_48 ps
    simp only [List.flatMap_cons, List.cons_append, List.nil_append, val]
    rw [this]
    omega
theorem sm16 {u : Nat} (h : u < 16) : u &&& 15 = u := by
  have t15 : ∀ u, u < 16 → u &&& 15 = u := by decide
  exact t15 u h
