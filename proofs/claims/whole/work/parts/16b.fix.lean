/-! what is fixed; new tables are good -/
def Mr (n : Nat) (mir : Nat → Nat) : Prop := 1 ≤ n ∧ n ≤ 4 ∧ mir 0 = 0 ∧ (∀ a, a < n → mir a < n) ∧ (∀ a, n ≤ a → a < 4 → mir a = a) ∧ ∀ a, a < n → mir (mir a) = a
theorem Gd.mr {n N : Nat} {mir : Nat → Nat} (h : Gd n mir N) : Mr n mir := ⟨h.n1, h.n4, h.m0, h.ml, h.mh, h.mm⟩
theorem Mr.m4 {n : Nat} {mir : Nat → Nat} (h : Mr n mir) : ∀ a, a < 4 → mir a < 4 := fun a ha => by
  have := h.2.1
  by_cases e : a < n
  · have := h.2.2.2.1 a e; omega
  · rw [h.2.2.2.2.1 a (by omega) ha]; exact ha
theorem Mr.z {n : Nat} {mir : Nat → Nat} (h : Mr n mir) {a : Nat} (ha : a < n) : mir a = 0 ↔ a = 0 := by
  constructor
  · intro e
    have := h.2.2.2.2.2 a ha
    rw [e, h.2.2.1] at this
    exact this.symm
  · intro e; rw [e]; exact h.2.2.1
theorem Mr.sw {n : Nat} {mir : Nat → Nat} (h : Mr n mir) {a b : Nat} (ha : a < n) (hb : b < n) : mir a = b ↔ a = mir b := by
  constructor
  · intro e; rw [← e, h.2.2.2.2.2 a ha]
  · intro e; rw [e, h.2.2.2.2.2 b hb]
theorem Mr.inj {n : Nat} {mir : Nat → Nat} (h : Mr n mir) {a b : Nat} (ha : a < n) (hb : b < n) : mir a = mir b ↔ a = b := by
  rw [h.sw ha (h.2.2.2.1 b hb), h.2.2.2.2.2 b hb]
def fx (mir : Nat → Nat) (a b z : Nat) : Bool := if a = 0 then decide (b = z) else if b = 0 then decide (a = z) else decide (z = 0) && decide (b = mir a)
theorem ix_inj {a b z a' b' z' : Nat} (hb : b < 4) (hz : z < 4) (hb' : b' < 4) (hz' : z' < 4) : ix a b z = ix a' b' z' ↔ a = a' ∧ b = b' ∧ z = z' := by
  unfold ix
  omega
theorem fx_iff {n : Nat} {mir : Nat → Nat} (h : Mr n mir) {a b z : Nat} (ha : a < n) : fx mir a b z = true ↔ (a = 0 ∧ b = z) ∨ (b = 0 ∧ a = z) ∨ (z = 0 ∧ b = mir a) := by
  unfold fx
  have hz := h.z ha
  have h0 := h.2.2.1
  by_cases e : a = 0
  · subst e
    rw [if_pos rfl, decide_eq_true_iff, h0]
    omega
  · rw [if_neg e]
    by_cases e2 : b = 0
    · subst e2
      rw [if_pos rfl, decide_eq_true_iff]
      omega
    · rw [if_neg e2, Bool.and_eq_true, decide_eq_true_iff, decide_eq_true_iff]
      omega
theorem fixB_iff {mir : Nat → Nat} {k : Nat} : ∀ n, (fixB mir n).testBit k = true ↔ ∃ x, x < n ∧ (k = ix 0 x x ∨ k = ix x 0 x ∨ k = ix x (mir x) 0)
  | 0 => by simp [fixB]
  | n + 1 => by
    rw [fixB, Nat.testBit_or, Nat.testBit_or, Nat.testBit_or, Nat.testBit_two_pow, Nat.testBit_two_pow, Nat.testBit_two_pow, Bool.or_eq_true, Bool.or_eq_true, Bool.or_eq_true, decide_eq_true_iff, decide_eq_true_iff, decide_eq_true_iff, fixB_iff n]
    constructor
    · rintro (⟨x, h1, h2⟩ | (h | h) | h)
      · exact ⟨x, by omega, h2⟩
      · exact ⟨n, by omega, Or.inl h.symm⟩
      · exact ⟨n, by omega, Or.inr (Or.inl h.symm)⟩
      · exact ⟨n, by omega, Or.inr (Or.inr h.symm)⟩
    · rintro ⟨x, h1, h2⟩
      by_cases e : x = n
      · subst e
        rcases h2 with h | h | h
        · exact Or.inr (Or.inl (Or.inl h.symm))
        · exact Or.inr (Or.inl (Or.inr h.symm))
        · exact Or.inr (Or.inr h.symm)
      · exact Or.inl ⟨x, by omega, h2⟩
theorem fixB_bit {n : Nat} {mir : Nat → Nat} (h : Mr n mir) {a b z : Nat} (ha : a < 4) (hb : b < 4) (hz : z < 4) : (fixB mir n).testBit (ix a b z) = (decide (a < n ∧ b < n ∧ z < n) && fx mir a b z) := by
  rw [Bool.eq_iff_iff, fixB_iff, Bool.and_eq_true, decide_eq_true_iff]
  have h4 := h.2.1
  have h1 := h.1
  constructor
  · rintro ⟨x, hx, e | e | e⟩
    · obtain ⟨rfl, rfl, rfl⟩ := (ix_inj hb hz (by omega) (by omega)).mp e
      exact ⟨by omega, (fx_iff h (by omega)).mpr (Or.inl ⟨rfl, rfl⟩)⟩
    · obtain ⟨rfl, rfl, rfl⟩ := (ix_inj hb hz (by omega) (by omega)).mp e
      exact ⟨by omega, (fx_iff h (by omega)).mpr (Or.inr (Or.inl ⟨rfl, rfl⟩))⟩
    · have hm := h.2.2.2.1 x hx
      obtain ⟨rfl, rfl, rfl⟩ := (ix_inj hb hz (by omega) (by omega)).mp e
      exact ⟨by omega, (fx_iff h (by omega)).mpr (Or.inr (Or.inr ⟨rfl, rfl⟩))⟩
  · rintro ⟨⟨h5, h6, h7⟩, hf⟩
    rcases (fx_iff h h5).mp hf with ⟨e1, e2⟩ | ⟨e1, e2⟩ | ⟨e1, e2⟩
    · exact ⟨b, h6, Or.inl (by rw [e1, e2])⟩
    · exact ⟨a, h5, Or.inr (Or.inl (by rw [e1, ← e2]))⟩
    · exact ⟨a, h5, Or.inr (Or.inr (by rw [e1, e2]))⟩
theorem Gd_fix {n : Nat} {mir : Nat → Nat} (h : Mr n mir) : Gd n mir (fixB mir n) := by
  have h1 := h.1
  have h4 := h.2.1
  have h0 := h.2.2.1
  have bit : ∀ a b z, a < n → b < n → z < n → ((fixB mir n).testBit (ix a b z) = true ↔ (a = 0 ∧ b = z) ∨ (b = 0 ∧ a = z) ∨ (z = 0 ∧ b = mir a)) := fun a b z ha hb hz => by
    rw [fixB_bit h (by omega) (by omega) (by omega), decide_eq_true ⟨ha, hb, hz⟩, Bool.true_and, fx_iff h ha]
  refine ⟨h1, h4, h0, h.2.2.2.1, h.2.2.2.2.1, h.2.2.2.2.2, ?_, fixB_lt h.m4 n h4, ?_, ?_, ?_, ?_, ?_⟩
  · intro a b z ha hb hz e
    rw [fixB_bit h ha hb hz, Bool.and_eq_true] at e
    exact of_decide_eq_true e.1
  · intro b z hb hz
    rw [Bool.eq_iff_iff, bit 0 b z (by omega) hb hz, decide_eq_true_iff, h0]
    omega
  · intro a z ha hz
    rw [Bool.eq_iff_iff, bit a 0 z ha (by omega) hz, decide_eq_true_iff]
    have := h.z ha
    omega
  · intro a b ha hb
    rw [Bool.eq_iff_iff, bit a b 0 ha hb (by omega), decide_eq_true_iff]
    have := h.z ha
    constructor
    · rintro (⟨e1, e2⟩ | ⟨e1, e2⟩ | ⟨e1, e2⟩)
      · rw [e1, h0]; exact e2
      · rw [e2, h0]; exact e1
      · exact e2
    · intro e; exact Or.inr (Or.inr ⟨rfl, e⟩)
  · intro a b z ha hb hz
    rw [Bool.eq_iff_iff, bit _ _ _ (h.2.2.2.1 a ha) hz hb, bit a b z ha hb hz, h.z ha, h.2.2.2.2.2 a ha]
    constructor
    · rintro (⟨e1, e2⟩ | ⟨e1, e2⟩ | ⟨e1, e2⟩)
      · exact Or.inl ⟨e1, e2.symm⟩
      · exact Or.inr (Or.inr ⟨e1, e2.symm⟩)
      · exact Or.inr (Or.inl ⟨e1, e2.symm⟩)
    · rintro (⟨e1, e2⟩ | ⟨e1, e2⟩ | ⟨e1, e2⟩)
      · exact Or.inl ⟨e1, e2.symm⟩
      · exact Or.inr (Or.inr ⟨e1, e2.symm⟩)
      · exact Or.inr (Or.inl ⟨e1, e2.symm⟩)
  · intro a b z ha hb hz
    rw [Bool.eq_iff_iff, bit _ _ _ hz (h.2.2.2.1 b hb) ha, bit a b z ha hb hz, h.z hb, h.inj hb hz, h.sw hb ha]
    constructor
    · rintro (⟨e1, e2⟩ | ⟨e1, e2⟩ | ⟨e1, e2⟩)
      · exact Or.inr (Or.inr ⟨e1, e2⟩)
      · exact Or.inr (Or.inl ⟨e1, e2.symm⟩)
      · exact Or.inl ⟨e1, e2⟩
    · rintro (⟨e1, e2⟩ | ⟨e1, e2⟩ | ⟨e1, e2⟩)
      · exact Or.inr (Or.inr ⟨e1, e2⟩)
      · exact Or.inr (Or.inl ⟨e1, e2.symm⟩)
      · exact Or.inl ⟨e1, e2⟩
theorem Mr_id {n : Nat} (h1 : 1 ≤ n) (h4 : n ≤ 4) : Mr n (fun a => a) := ⟨h1, h4, rfl, fun _ h => h, fun _ _ _ => rfl, fun _ _ => rfl⟩
def cp2 (mir : Nat → Nat) (a b : Nat) : Nat → Nat := fun k => if k = b then a else if k = a then b else if k = mir a then k else if k = mir b then k else mir k
theorem Mr_cp2 {n : Nat} {mir : Nat → Nat} (h : Mr n mir) {a b : Nat} (ha1 : 1 ≤ a) (ha : a < n) (hb1 : 1 ≤ b) (hb : b < n) : Mr n (cp2 mir a b) := by
  have hl := h.2.2.2.1
  refine ⟨h.1, h.2.1, ?_, fun k hk => ?_, fun k hk hk4 => ?_, fun k hk => ?_⟩
  · have e1 := h.z ha
    have e2 := h.z hb
    unfold cp2
    rw [if_neg (by omega), if_neg (by omega), if_neg (by omega), if_neg (by omega)]
    exact h.2.2.1
  · have := hl k hk
    unfold cp2
    split
    · exact ha
    split
    · exact hb
    split
    · exact hk
    split
    · exact hk
    · exact this
  · have e1 := hl a ha
    have e2 := hl b hb
    unfold cp2
    rw [if_neg (by omega), if_neg (by omega), if_neg (by omega), if_neg (by omega)]
    exact h.2.2.2.2.1 k hk hk4
  · by_cases k1 : k = b
    · subst k1
      have e : cp2 mir a k k = a := by unfold cp2; rw [if_pos rfl]
      rw [e]
      unfold cp2
      by_cases e2 : a = k
      · rw [if_pos e2]; exact e2
      · rw [if_neg e2, if_pos rfl]
    · by_cases k2 : k = a
      · subst k2
        have e : cp2 mir k b k = b := by unfold cp2; rw [if_neg k1, if_pos rfl]
        rw [e]
        unfold cp2
        rw [if_pos rfl]
      · by_cases k3 : k = mir a
        · have e : cp2 mir a b k = k := by unfold cp2; rw [if_neg k1, if_neg k2, if_pos k3]
          rw [e, e]
        · by_cases k4 : k = mir b
          · have e : cp2 mir a b k = k := by unfold cp2; rw [if_neg k1, if_neg k2, if_neg k3, if_pos k4]
            rw [e, e]
          · have e : cp2 mir a b k = mir k := by unfold cp2; rw [if_neg k1, if_neg k2, if_neg k3, if_neg k4]
            rw [e]
            unfold cp2
            rw [if_neg (fun z => k4 ((h.sw hk hb).mp z)), if_neg (fun z => k3 ((h.sw hk ha).mp z)), if_neg (fun z => k2 ((h.inj hk ha).mp z)), if_neg (fun z => k1 ((h.inj hk hb).mp z))]
            exact h.2.2.2.2.2 k hk
theorem cpl_eq {n : Nat} {mir : Nat → Nat} (h : Mr n mir) {a b : Nat} (ha : a < n) (hb : b < n) : cpl mir a b = cp2 mir a b := by
  have hma := h.2.2.2.2.2 a ha
  have hfb : fre mir a b = if b = a then a else if b = mir a then mir a else mir b := rfl
  have hfk : ∀ k, fre mir a k = if k = a then a else if k = mir a then mir a else mir k := fun _ => rfl
  have hc : ∀ k, cpl mir a b k = if k = b then a else if k = a then b else if k = b then b else if k = fre mir a b then fre mir a b else fre mir a k := fun _ => rfl
  have hk : ∀ k, cp2 mir a b k = if k = b then a else if k = a then b else if k = mir a then k else if k = mir b then k else mir k := fun _ => rfl
  funext k
  rw [hc, hk, hfk k]
  by_cases e1 : b = a
  · rw [if_pos e1] at hfb
    rw [hfb]
    subst e1
    repeat' split
    all_goals omega
  · rw [if_neg e1] at hfb
    by_cases e2 : b = mir a
    · rw [if_pos e2] at hfb
      rw [hfb]
      have e3 : mir b = a := by rw [e2, hma]
      repeat' split
      all_goals omega
    · rw [if_neg e2] at hfb
      rw [hfb]
      repeat' split
      all_goals omega
theorem cp3_eq {mir : Nat → Nat} {a b : Nat} : fset (fset (fset (fset mir (mir a) (mir a)) (mir b) (mir b)) a b) b a = cp2 mir a b := by
  have hc : ∀ k, fset (fset (fset (fset mir (mir a) (mir a)) (mir b) (mir b)) a b) b a k = if k = b then a else if k = a then b else if k = mir b then mir b else if k = mir a then mir a else mir k := fun _ => rfl
  have hk : ∀ k, cp2 mir a b k = if k = b then a else if k = a then b else if k = mir a then k else if k = mir b then k else mir k := fun _ => rfl
  funext k
  rw [hc, hk]
  repeat' split
  all_goals omega
