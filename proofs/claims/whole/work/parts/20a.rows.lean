/-! rows of atoms to a node more -/
def rgd (N m : Nat) (lab : Nat → Nat → Nat) : gT := fun p f => (List.range m).all (fun q => decide (q ≤ p) || N.testBit (ix (lab p q) (f q) (f p)))
theorem rgd_i {N m : Nat} {lab : Nat → Nat → Nat} {p : Nat} {f : fT} : rgd N m lab p f = true ↔ ∀ q, p < q → q < m → N.testBit (ix (lab p q) (f q) (f p)) = true := by
  unfold rgd
  rw [List.all_eq_true]
  constructor
  · intro h q h1 h2
    have := h q (List.mem_range.mpr h2)
    simp only [Bool.or_eq_true, decide_eq_true_eq] at this
    rcases this with e | e
    · omega
    · exact e
  · intro h q hq
    simp only [Bool.or_eq_true, decide_eq_true_eq]
    by_cases e : q ≤ p
    · exact Or.inl e
    · exact Or.inr (h q (by omega) (List.mem_range.mp hq))
theorem rgd_L {N m : Nat} {lab : Nat → Nat → Nat} : Lk (rgd N m lab) := fun p f g h => by
  have : ∀ f g : fT, (∀ q, p ≤ q → f q = g q) → rgd N m lab p f = true → rgd N m lab p g = true := fun f g h h1 => by
    rw [rgd_i] at h1 ⊢
    intro q h2 h3
    rw [← h p (Nat.le_refl _), ← h q (by omega)]
    exact h1 q h2 h3
  exact Bool.eq_iff_iff.mpr ⟨this f g h, this g f (fun q hq => (h q hq).symm)⟩
theorem rgd_f {N m : Nat} {lab : Nat → Nat → Nat} {p q : Nat} {f : fT} (h1 : p < q) (h2 : q < m) (h : N.testBit (ix (lab p q) (f q) (f p)) = false) : rgd N m lab p f = false := by
  cases e : rgd N m lab p f
  · rfl
  · rw [rgd_i.mp e q h1 h2] at h; exact absurd h (by decide)
def rwL (N n s : Nat) (lab : Nat → Nat → Nat) : List fT := en (fun _ => rg 1 n) (rgd N s lab) s (fun _ => 0)
/-- a wish besides -/
def wq (gd : gT) (Q : Nat → Nat → Bool) : gT := fun p f => gd p f && Q p (f p)
theorem wq_L {gd : gT} {Q : Nat → Nat → Bool} (h : Lk gd) : Lk (wq gd Q) := fun p f g e => by
  unfold wq
  rw [h p f g e, e p (Nat.le_refl _)]
theorem en_wqA {vs : Nat → List Nat} {gd : gT} {Q : Nat → Nat → Bool} : ∀ m f, en vs (wq gd Q) m f = en (fun p => (vs p).filter (Q p)) gd m f
  | 0, f => rfl
  | m + 1, f => by
    unfold en
    have : ∀ l : List Nat, l.flatMap (fun v => if wq gd Q m (fup f m v) = true then en vs (wq gd Q) m (fup f m v) else []) = (l.filter (Q m)).flatMap (fun v => if gd m (fup f m v) = true then en (fun p => (vs p).filter (Q p)) gd m (fup f m v) else []) := by
      intro l
      induction l with
      | nil => rfl
      | cons v t ih =>
        rw [List.flatMap_cons, ih, List.filter_cons]
        unfold wq
        rw [fup_s]
        cases hQ : Q m v with
        | false => rw [Bool.and_false]; simp
        | true =>
          have := en_wqA (vs := vs) (gd := gd) (Q := Q) m (fup f m v)
          unfold wq at this
          rw [Bool.and_true, if_pos rfl, List.flatMap_cons, this]
    exact this _
theorem en_wqB {vs : Nat → List Nat} {gd : gT} {Q : Nat → Nat → Bool} (hL : Lk gd) : ∀ m f, en vs (wq gd Q) m f = (en vs gd m f).filter (fun g => (List.range m).all (fun p => Q p (g p)))
  | 0, f => rfl
  | m + 1, f => by
    unfold en
    rw [List.filter_flatMap]
    refine congrArg (fun F => List.flatMap F (vs m)) (funext fun v => ?_)
    unfold wq
    rw [fup_s]
    cases hg : gd m (fup f m v) with
    | false => simp
    | true =>
      have ih := en_wqB (vs := vs) (gd := gd) (Q := Q) hL m (fup f m v)
      unfold wq at ih
      have e : ∀ g, g ∈ en vs gd m (fup f m v) → (List.range (m + 1)).all (fun p => Q p (g p)) = ((List.range m).all (fun p => Q p (g p)) && Q m v) := fun g hm => by
        have e9 : g m = v := by rw [(en_sound hL m _ hm).1 m (Nat.le_refl _), fup_s]
        rw [List.range_succ, List.all_append, ← e9]
        simp
      rw [Bool.true_and, if_pos rfl, List.filter_congr e, ih]
      cases Q m v with
      | false => simp
      | true => simp
/-- as a gap asks -/
def gpQ (i j a b : Nat) : Nat → Nat → Bool := fun p v => (decide (p ≠ i) || v == a) && (decide (p ≠ j) || v == b)
theorem gpQ_all {i j a b m : Nat} (hi : i < m) (hj : j < m) (g : fT) : (List.range m).all (fun p => gpQ i j a b p (g p)) = (g i == a && g j == b) := by
  rw [Bool.eq_iff_iff, List.all_eq_true]
  unfold gpQ
  constructor
  · intro h
    have h1 := h i (List.mem_range.mpr hi)
    have h2 := h j (List.mem_range.mpr hj)
    simp at h1 h2
    simp [h1, h2]
  · intro h p hp
    simp only [Bool.and_eq_true, beq_iff_eq] at h
    obtain ⟨h1, h2⟩ := h
    simp only [Bool.and_eq_true, Bool.or_eq_true, decide_eq_true_eq, beq_iff_eq]
    refine ⟨?_, ?_⟩
    · by_cases e1 : p = i
      · right; rw [e1]; exact h1
      · exact Or.inl e1
    · by_cases e1 : p = j
      · right; rw [e1]; exact h2
      · exact Or.inl e1
theorem rg_one {a : Nat} : rg a (a + 1) = [a] := by rw [rg_cons (by omega), rg_nil (by omega)]
theorem rg_filter {x : Nat} {P : Nat → Bool} {b : Nat} (hx : P x = true) (ho : ∀ v, P v = true → v = x) (hb : x < b) : ∀ k a, b - a = k → a ≤ x → (rg a b).filter P = [x]
  | 0, a, hk, ha => absurd hk (by omega)
  | k + 1, a, hk, ha => by
    rw [rg_cons (by omega), List.filter_cons]
    by_cases e : a = x
    · subst e
      rw [if_pos hx]
      congr 1
      rw [List.filter_eq_nil_iff]
      intro v hv hp
      have := (rg_mem _ _ rfl).mp hv
      have := ho v hp
      omega
    · rw [if_neg (fun z => e (ho a z))]
      exact rg_filter hx ho hb k (a + 1) (by omega) (by omega)
