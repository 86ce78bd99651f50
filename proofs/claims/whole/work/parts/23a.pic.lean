/-! pictures: what is true of them -/
theorem prdB_bit {N x y a r z : Nat} (hz : z < 4) : ∀ k, (prdB N x y a r k).testBit z = true ↔ r.testBit z = true ∨ ∃ b, b < k ∧ x.testBit a = true ∧ y.testBit b = true ∧ N.testBit (ix a b z) = true
  | 0 => ⟨fun h => Or.inl h, fun h => h.elim id (fun ⟨b, hb, _⟩ => absurd hb (Nat.not_lt_zero _))⟩
  | k + 1 => by
    have ih := prdB_bit (N := N) (x := x) (y := y) (a := a) (r := r) hz k
    unfold prdB
    by_cases e : x.testBit a = true ∧ y.testBit k = true
    · rw [if_pos e, Nat.testBit_or, Bool.or_eq_true, ih, show (16 : Nat) = 2 ^ 4 from rfl, Nat.testBit_mod_two_pow, Nat.testBit_div_two_pow]
      have e2 : z + (2 ^ 4 * a + 4 * k) = ix a k z := by unfold ix; omega
      rw [e2, decide_eq_true hz, Bool.true_and]
      constructor
      · rintro ((h | ⟨b, h1, h2⟩) | h)
        · exact Or.inl h
        · exact Or.inr ⟨b, by omega, h2⟩
        · exact Or.inr ⟨k, by omega, e.1, e.2, h⟩
      · rintro (h | ⟨b, h1, h2, h3, h4⟩)
        · exact Or.inl (Or.inl h)
        · by_cases eb : b = k
          · subst eb; exact Or.inr h4
          · exact Or.inl (Or.inr ⟨b, by omega, h2, h3, h4⟩)
    · rw [if_neg e, ih]
      constructor
      · rintro (h | ⟨b, h1, h2⟩)
        · exact Or.inl h
        · exact Or.inr ⟨b, by omega, h2⟩
      · rintro (h | ⟨b, h1, h2, h3, h4⟩)
        · exact Or.inl h
        · by_cases eb : b = k
          · subst eb; exact absurd ⟨h2, h3⟩ e
          · exact Or.inr ⟨b, by omega, h2, h3, h4⟩
theorem prdA_bit {N n x y z : Nat} (hz : z < 4) : ∀ k, (prdA N n x y k).testBit z = true ↔ ∃ a b, a < k ∧ b < n ∧ x.testBit a = true ∧ y.testBit b = true ∧ N.testBit (ix a b z) = true
  | 0 => by
    unfold prdA
    rw [Nat.zero_testBit]
    exact ⟨fun h => absurd h (by decide), fun ⟨a, b, h, _⟩ => absurd h (Nat.not_lt_zero _)⟩
  | k + 1 => by
    unfold prdA
    rw [prdB_bit hz, prdA_bit hz k]
    constructor
    · rintro (⟨a, b, h1, h2, h3⟩ | ⟨b, h1, h2, h3, h4⟩)
      · exact ⟨a, b, by omega, h2, h3⟩
      · exact ⟨k, b, by omega, h1, h2, h3, h4⟩
    · rintro ⟨a, b, h1, h2, h3, h4, h5⟩
      by_cases e : a = k
      · subst e; exact Or.inr ⟨b, h2, h3, h4, h5⟩
      · exact Or.inl ⟨a, b, by omega, h2, h3, h4, h5⟩
theorem p2bit {a k : Nat} : (2 ^ a).testBit k = true ↔ k = a := by
  rw [Nat.testBit_two_pow]
  simp
  exact eq_comm
/-- the rest of a step -/
def rs (d e P : Nat) : Nat := if e ≤ d then d - e else d + P - e
theorem rs_lt {d e P : Nat} (hd : d < P) (he : e < P) : rs d e P < P := by unfold rs; split <;> omega
def sB (st : Nat → Nat) (P d : Nat) : Nat → Nat
  | 0 => 0
  | e + 1 => sB st P d e ||| 2 ^ (4 * st e + st (rs d e P))
theorem sB_bit {st : Nat → Nat} {P d k : Nat} : ∀ m, (sB st P d m).testBit k = true ↔ ∃ e, e < m ∧ 4 * st e + st (rs d e P) = k
  | 0 => by
    unfold sB
    rw [Nat.zero_testBit]
    exact ⟨fun h => absurd h (by decide), fun ⟨a, h, _⟩ => absurd h (Nat.not_lt_zero _)⟩
  | m + 1 => by
    unfold sB
    rw [Nat.testBit_or, Bool.or_eq_true, sB_bit m, p2bit]
    constructor
    · rintro (⟨e, h1, h2⟩ | h)
      · exact ⟨e, by omega, h2⟩
      · exact ⟨m, by omega, h.symm⟩
    · rintro ⟨e, h1, h2⟩
      by_cases em : e = m
      · subst em; exact Or.inr h2.symm
      · exact Or.inl ⟨e, by omega, h2⟩
theorem pinB_bit {N z a r k : Nat} : ∀ m, (pinB N z a r m).testBit k = true ↔ r.testBit k = true ∨ ∃ b, b < m ∧ k = 4 * a + b ∧ N.testBit (ix a b z) = true
  | 0 => ⟨fun h => Or.inl h, fun h => h.elim id (fun ⟨b, hb, _⟩ => absurd hb (Nat.not_lt_zero _))⟩
  | m + 1 => by
    have ih := pinB_bit (N := N) (z := z) (a := a) (r := r) (k := k) m
    unfold pinB
    by_cases e : N.testBit (ix a m z) = true
    · rw [if_pos e, Nat.testBit_or, Bool.or_eq_true, ih, p2bit]
      constructor
      · rintro ((h | ⟨b, h1, h2⟩) | h)
        · exact Or.inl h
        · exact Or.inr ⟨b, by omega, h2⟩
        · exact Or.inr ⟨m, by omega, h, e⟩
      · rintro (h | ⟨b, h1, h2, h3⟩)
        · exact Or.inl (Or.inl h)
        · by_cases eb : b = m
          · subst eb; exact Or.inr h2
          · exact Or.inl (Or.inr ⟨b, by omega, h2, h3⟩)
    · rw [if_neg e, ih]
      constructor
      · rintro (h | ⟨b, h1, h2⟩)
        · exact Or.inl h
        · exact Or.inr ⟨b, by omega, h2⟩
      · rintro (h | ⟨b, h1, h2, h3⟩)
        · exact Or.inl h
        · by_cases eb : b = m
          · subst eb; exact absurd h3 e
          · exact Or.inr ⟨b, by omega, h2, h3⟩
theorem pinA_bit {N n z k : Nat} : ∀ m, (pinA N n z m).testBit k = true ↔ ∃ a b, a < m ∧ b < n ∧ k = 4 * a + b ∧ N.testBit (ix a b z) = true
  | 0 => by
    unfold pinA
    rw [Nat.zero_testBit]
    exact ⟨fun h => absurd h (by decide), fun ⟨a, b, h, _⟩ => absurd h (Nat.not_lt_zero _)⟩
  | m + 1 => by
    unfold pinA
    rw [pinB_bit, pinA_bit m]
    constructor
    · rintro (⟨a, b, h1, h2⟩ | ⟨b, h1, h2⟩)
      · exact ⟨a, b, by omega, h2⟩
      · exact ⟨m, b, by omega, h1, h2⟩
    · rintro ⟨a, b, h1, h2, h3⟩
      by_cases e : a = m
      · subst e; exact Or.inr ⟨b, h2, h3⟩
      · exact Or.inl ⟨a, b, by omega, h2, h3⟩
def hadB (st : Nat → Nat) : Nat → Nat
  | 0 => 0
  | d + 1 => hadB st d ||| 2 ^ st d
theorem hadB_bit {st : Nat → Nat} {k : Nat} : ∀ m, (hadB st m).testBit k = true ↔ ∃ d, d < m ∧ st d = k
  | 0 => by
    unfold hadB
    rw [Nat.zero_testBit]
    exact ⟨fun h => absurd h (by decide), fun ⟨a, h, _⟩ => absurd h (Nat.not_lt_zero _)⟩
  | m + 1 => by
    unfold hadB
    rw [Nat.testBit_or, Bool.or_eq_true, hadB_bit m, p2bit]
    constructor
    · rintro (⟨e, h1, h2⟩ | h)
      · exact ⟨e, by omega, h2⟩
      · exact ⟨m, by omega, h.symm⟩
    · rintro ⟨e, h1, h2⟩
      by_cases em : e = m
      · subst em; exact Or.inr h2.symm
      · exact Or.inl ⟨e, by omega, h2⟩
theorem hadB_lt {st : Nat → Nat} {n : Nat} : ∀ m, (∀ d, d < m → st d < n) → hadB st m < 2 ^ n
  | 0, _ => Nat.two_pow_pos n
  | m + 1, h => Nat.or_lt_two_pow (hadB_lt m (fun d hd => h d (by omega))) (Nat.pow_lt_pow_right (by decide) (h m (by omega)))
theorem sB_lt {st : Nat → Nat} {P d : Nat} (hd : d < P) (h : ∀ e, e < P → st e < 4) : ∀ m, m ≤ P → sB st P d m < 2 ^ 16
  | 0, _ => by unfold sB; decide
  | m + 1, hm => Nat.or_lt_two_pow (sB_lt hd h m (by omega)) (Nat.pow_lt_pow_right (by decide) (by have := h m (by omega); have := h _ (rs_lt hd (show m < P by omega)); omega))
/-- the first step that is not made as it should be -/
def mfF (N n : Nat) (st : Nat → Nat) (P : Nat) : Option Nat := ffrom P (fun d => if sB st P d P = pinA N n (st d) n then none else some d) 0
def tpB (N n : Nat) (st : Nat → Nat) (P : Nat) : Bool := decide (hadB st P = 2 ^ n - 1) && (mfF N n st P).isNone
section TP
variable {N n P : Nat} {st : Nat → Nat}
theorem mf_none (h : mfF N n st P = none) : ∀ d, d < P → sB st P d P = pinA N n (st d) n := fun d hd => by
  have := ffrom_all h d (Nat.zero_le _) hd
  by_cases e : sB st P d P = pinA N n (st d) n
  · exact e
  · rw [if_neg e] at this; exact absurd this (by simp)
theorem tp_in (hn : n ≤ 4) (hs : ∀ d, d < P → st d < n) (h : mfF N n st P = none) {d e : Nat} (hd : d < P) (he : e < P) : N.testBit (ix (st e) (st (rs d e P)) (st d)) = true := by
  have h1 : (sB st P d P).testBit (4 * st e + st (rs d e P)) = true := (sB_bit P).mpr ⟨e, he, rfl⟩
  rw [mf_none h d hd, pinA_bit] at h1
  obtain ⟨a, b, ha, hb, hk, hN⟩ := h1
  have s1 := hs e he
  have s2 := hs _ (rs_lt hd he)
  have e1 : a = st e := by omega
  have e2 : b = st (rs d e P) := by omega
  rw [← e1, ← e2]
  exact hN
theorem tp_ex (hn : n ≤ 4) (hs : ∀ d, d < P → st d < n) (h : mfF N n st P = none) {d a b : Nat} (hd : d < P) (ha : a < n) (hb : b < n) (hN : N.testBit (ix a b (st d)) = true) : ∃ e, e < P ∧ st e = a ∧ st (rs d e P) = b := by
  have h1 : (pinA N n (st d) n).testBit (4 * a + b) = true := (pinA_bit n).mpr ⟨a, b, ha, hb, rfl, hN⟩
  rw [← mf_none h d hd, sB_bit] at h1
  obtain ⟨e, he, hk⟩ := h1
  have s1 := hs e he
  have s2 := hs _ (rs_lt hd he)
  exact ⟨e, he, by omega, by omega⟩
theorem tp_bal (hn : n ≤ 4) (hin : ∀ a b z, a < 4 → b < 4 → z < 4 → N.testBit (ix a b z) = true → a < n ∧ b < n ∧ z < n) (hs : ∀ d, d < P → st d < n) (h : tpB N n st P = true) {a b z : Nat} (ha : a < n) (hb : b < n) (hz : z < n) : unb N n a b z = false := by
  unfold tpB at h
  simp only [Bool.and_eq_true, decide_eq_true_eq] at h
  obtain ⟨hf, hm⟩ := h
  have hm : mfF N n st P = none := by
    cases e : mfF N n st P with
    | none => rfl
    | some v => rw [e] at hm; exact absurd hm (by simp)
  have full : ∀ k, k < n → ∃ d, d < P ∧ st d = k := fun k hk => by
    rw [← hadB_bit, hf, Nat.testBit_two_pow_sub_one]
    exact decide_eq_true hk
  unfold unb
  have key : prd N n (prd N n (2 ^ a) (2 ^ b)) (2 ^ z) = prd N n (2 ^ a) (prd N n (2 ^ b) (2 ^ z)) := by
    apply Nat.eq_of_testBit_eq
    intro c
    by_cases hc : c < 4
    · rw [Bool.eq_iff_iff]
      unfold prd
      rw [prdA_bit hc, prdA_bit hc]
      constructor
      · rintro ⟨u, z', hu, hz', h1, h2, h3⟩
        rw [prdA_bit (by omega)] at h1
        obtain ⟨a', b', ha', hb', h4, h5, h6⟩ := h1
        rw [p2bit] at h2 h4 h5
        subst h2 h4 h5
        have hcn := (hin u z' c (by omega) (by omega) hc h3).2.2
        obtain ⟨d, hd, rfl⟩ := full c hcn
        obtain ⟨e, he, rfl, rfl⟩ := tp_ex hn hs hm hd hu hz' h3
        obtain ⟨e', he', rfl, rfl⟩ := tp_ex hn hs hm he ha' hb' h6
        have hf1 := rs_lt hd he'
        have hg := rs_lt he he'
        have t1 := tp_in hn hs hm hd he'
        have t2 := tp_in hn hs hm hf1 hg
        have er : rs (rs d e' P) (rs e e' P) P = rs d e P := by
          unfold rs
          split <;> split <;> split <;> (try split) <;> omega
        rw [er] at t2
        refine ⟨st e', st (rs d e' P), ha', hs _ hf1, p2bit.mpr rfl, ?_, t1⟩
        exact (prdA_bit (by have := hs _ hf1; omega) n).mpr ⟨_, _, hb', hz', p2bit.mpr rfl, p2bit.mpr rfl, t2⟩
      · rintro ⟨a', v, ha', hv, h1, h2, h3⟩
        rw [prdA_bit (by omega)] at h2
        obtain ⟨b', z', hb', hz', h4, h5, h6⟩ := h2
        rw [p2bit] at h1 h4 h5
        subst h1 h4 h5
        have hcn := (hin a' v c (by omega) (by omega) hc h3).2.2
        obtain ⟨d, hd, rfl⟩ := full c hcn
        obtain ⟨e', he', rfl, rfl⟩ := tp_ex hn hs hm hd ha' hv h3
        have hf1 := rs_lt hd he'
        obtain ⟨g, hg, rfl, rfl⟩ := tp_ex hn hs hm hf1 hb' hz' h6
        obtain ⟨e, he, e1, e2⟩ : ∃ e, e < P ∧ rs e e' P = g ∧ rs d e P = rs (rs d e' P) g P := by
          by_cases hlt : e' + g < P
          · refine ⟨e' + g, hlt, ?_, ?_⟩
            · unfold rs; split <;> omega
            · unfold rs; split <;> split <;> (try split) <;> omega
          · refine ⟨e' + g - P, by omega, ?_, ?_⟩
            · unfold rs; split <;> omega
            · unfold rs; split <;> split <;> (try split) <;> omega
        have t1 := tp_in hn hs hm he he'
        have t2 := tp_in hn hs hm hd he
        rw [e1] at t1
        rw [e2] at t2
        refine ⟨st e, _, hs e he, hz', ?_, p2bit.mpr rfl, t2⟩
        exact (prdA_bit (by have := hs _ he; omega) n).mpr ⟨_, _, ha', hb', p2bit.mpr rfl, p2bit.mpr rfl, t1⟩
    · have l1 := prd_lt N n (prd N n (2 ^ a) (2 ^ b)) (2 ^ z)
      have l2 := prd_lt N n (2 ^ a) (prd N n (2 ^ b) (2 ^ z))
      have hp : 16 ≤ 2 ^ c := by
        have := Nat.pow_le_pow_right (show 0 < 2 by decide) (show 4 ≤ c by omega)
        omega
      rw [Nat.testBit_lt_two_pow (by omega), Nat.testBit_lt_two_pow (by omega)]
  rw [key]
  simp
theorem tp_brk (hn : n ≤ 4) (hin : ∀ a b z, a < 4 → b < 4 → z < 4 → N.testBit (ix a b z) = true → a < n ∧ b < n ∧ z < n) (hs : ∀ d, d < P → st d < n) (h : tpB N n st P = true) : brkF N n = none := by
  unfold brkF
  rw [ffrom_nn]
  intro a _ ha
  rw [ffrom_nn]
  intro b _ hb
  rw [ffrom_nn]
  intro z _ hz
  unfold brkZ
  rw [if_neg (by rw [tp_bal hn hin hs h ha hb hz]; decide)]
end TP
