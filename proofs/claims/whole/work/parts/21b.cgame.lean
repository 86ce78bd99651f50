/-! the game: the class -/
theorem ffrom_nn {α : Type} {m a : Nat} {g : Nat → Option α} : ffrom m g a = none ↔ ∀ q, a ≤ q → q < m → g q = none := by
  unfold ffrom
  rw [List.findSome?_eq_none_iff]
  constructor
  · intro h q h1 h2
    exact h q (mem_drop_range.mpr ⟨h1, h2⟩)
  · intro h q hq
    obtain ⟨h1, h2⟩ := mem_drop_range.mp hq
    exact h q h1 h2
abbrev gF : Type := Nat → Nat → Nat → Bool
/-- the first pair of i, j, m -/
def kG1 (F : gF) (i j : Nat) : Option Nat := (((List.range 16).filter (F i j)).head?).map (gC i j)
def kG (s : Nat) (F : gF) : Option Nat := ffrom s (fun i => ffrom s (fun j => kG1 F i j) i) 0
theorem kG1_n {F : gF} {i j : Nat} : kG1 F i j = none ↔ ∀ m, m < 16 → F i j m = false := by
  unfold kG1
  rw [Option.map_eq_none_iff, List.head?_eq_none_iff, List.filter_eq_nil_iff]
  constructor
  · intro h m hm
    have := h m (List.mem_range.mpr hm)
    cases e : F i j m
    · rfl
    · exact absurd e this
  · intro h m hm
    rw [h m (List.mem_range.mp hm)]
    decide
theorem kG_n {s : Nat} {F : gF} : kG s F = none ↔ ∀ i j m, i ≤ j → j < s → m < 16 → F i j m = false := by
  unfold kG
  rw [ffrom_nn]
  constructor
  · intro h i j m h1 h2 h3
    exact kG1_n.mp (ffrom_nn.mp (h i (Nat.zero_le _) (by omega)) j h1 h2) m h3
  · intro h i _ hi
    exact ffrom_nn.mpr (fun j h1 h2 => kG1_n.mpr (fun m hm => h i j m h1 h2 hm))
theorem kG_cg {s : Nat} {F G : gF} (h : ∀ i j m, i ≤ j → j < s → m < 16 → F i j m = G i j m) : kG s F = kG s G := by
  unfold kG
  refine ffrom_cg (fun i _ hi _ => ffrom_cg (fun j hj1 hj2 _ => ?_))
  unfold kG1
  rw [List.filter_congr (fun m hm => h i j m hj1 hj2 (List.mem_range.mp hm))]
theorem bfn_z {f : Nat → Bool} : bfn f 16 = 0 ↔ ∀ m, m < 16 → f m = false := by
  constructor
  · intro h m hm
    have := bfn_bit f 16 m
    rw [h, Nat.zero_testBit] at this
    simp [hm] at this
    exact this
  · intro h
    apply Nat.eq_of_testBit_eq
    intro k
    rw [bfn_bit, Nat.zero_testBit]
    by_cases e : k < 16
    · rw [h k e]; simp
    · simp [e]
def GA (c : gm) (a s : Nat) (F : gF) : Prop := ∀ i j, i ≤ j → j < s → c.1 a (6 * i + j) = nI (bfn (F i j) 16)
theorem GA.fr {c c' : gm} {a s : Nat} {F : gF} {l : List Nat} (h : GA c a s F) (hf : Fr l c c') (ha : a ∉ l) : GA c' a s F := fun i j h1 h2 => by rw [hf.i ha]; exact h i j h1 h2
section CG
variable {E : gk_E} {dd : Nat} {c : gm} {s n N a b : Nat} {mir : Nat → Nat} {lab : Nat → Nat → Nat} {F : gF} {f : fT}
theorem bfl {g : Nat → Bool} : bfn g 16 < 2 ^ 31 := Nat.lt_trans (bfn_lt g 16) (by decide)
theorem c_findGaps (hla : lay[a]? = some (.inr (0, 36, []))) (ha : 42 ≤ a) (hT : Tab c 2 n mir N) (hN : NetAt c 38 s lab) (v1 : ∀ p q, p < s → q < s → lab p q < 4) {K : gk_H → Prop} (k : ∀ c', Fr [a] c c' → GA c' a s (fun i j => opP N n lab i j s) → K (Hm c')) : RnV E mX2_findGaps (dd + 2, 0, 0) [.ref 37, .ref a] (Hm c) K := by
  have s6 := hN.2.1
  refine vX2_findGaps_0 ?_
  refine down (P := fun i => ∀ c', Fr [a] c c' → (∀ p q, p < i → p ≤ q → q < s → c'.1 a (6 * p + q) = nI (opn N n s lab p q)) → pX2_findGaps_2 E (dd + 1) 37 a (nI i) (Hm c') K) s ?_ ?_ 0 (Nat.zero_le _) c Fr.rf (fun p q hp => absurd hp (by omega))
  · intro c' hf h
    refine vX2_findGaps_2 (ldR l37 rfl (ldI l38 rfl ?_))
    rw [hf.i (by simp <;> omega), hN.1]
    exact bLe (fun _ => k c' hf (fun i j h1 h2 => h i j (by omega) h1 h2)) (fun z => absurd z (by omega))
  · intro i hi ih c' hf h
    refine vX2_findGaps_2 (ldR l37 rfl (ldI l38 rfl ?_))
    rw [hf.i (by simp <;> omega), hN.1]
    refine bLe (fun z => absurd z (by omega)) (fun _ => ?_)
    refine downF (P := fun j => ∀ c', Fr [a] c c' → (∀ p q, (p < i ∨ p = i ∧ q < j) → p ≤ q → q < s → c'.1 a (6 * p + q) = nI (opn N n s lab p q)) → pX2_findGaps_15 E (dd + 1) 37 a (nI i) (nI j) (Hm c') K) i s (by omega) ?_ ?_ c' hf (fun p q hp h1 h2 => h p q (by omega) h1 h2)
    · intro c' hf h
      refine vX2_findGaps_15 (ldR l37 rfl (ldI l38 rfl ?_))
      rw [hf.i (by simp <;> omega), hN.1, nI_add]
      exact bLe (fun _ => ih c' hf (fun p q hp h1 h2 => h p q (by omega) h1 h2)) (fun z => absurd z (by omega))
    · intro j hj1 hj2 ihj c' hf h
      refine vX2_findGaps_15 (ldR l37 rfl (ldI l38 rfl ?_))
      rw [hf.i (by simp <;> omega), hN.1]
      refine bLe (fun z => absurd z (by omega)) (fun _ => ldR l37 rfl (ldR l37 rfl (ldR l1 rfl ⟨obj l38, c_open ⟨l38, l39⟩ ⟨l2, l3⟩ (hT.fr hf (by simp <;> omega) (by simp <;> omega)) (hN.fr hf (by simp <;> omega) (by simp <;> omega)) v1 (by omega) hj2 ?_⟩)))
      rw [pk_mul, nI_add, nI_add]
      refine asI hla (by omega) (by decide) (ihj _ (hf.mI (by simp)) (fun p q hp h1 h2 => ?_))
      by_cases e : p = i ∧ q = j
      · rw [e.1, e.2, mI_s]
      · rw [mI_n (by omega)]; exact h p q (by omega) h1 h2
theorem c_isOpen (hla : lay[a]? = some (.inr (0, 36, []))) (hN : NetAt c 38 s lab) (hA : GA c a s F) {K : Int32 → gk_H → Prop} (k : K (bI (kG s F).isSome) (Hm c)) : RnI E mX2_isOpen (dd, 0, 0) [.ref 37, .ref a] (Hm c) K := by
  have s6 := hN.2.1
  refine vX2_isOpen_0 ?_
  refine down (P := fun i => K (bI (ffrom s (fun i => ffrom s (fun j => kG1 F i j) i) i).isSome) (Hm c) → pX2_isOpen_2 E dd 37 a (nI i) (Hm c) K) s ?_ ?_ 0 (Nat.zero_le _) k
  · intro k
    refine vX2_isOpen_2 (ldR l37 rfl (ldI l38 rfl ?_))
    rw [hN.1]
    rw [ffrom_end] at k
    exact bLe (fun _ => k) (fun z => absurd z (by omega))
  · intro i hi ih k
    refine vX2_isOpen_2 (ldR l37 rfl (ldI l38 rfl ?_))
    rw [hN.1]
    refine bLe (fun z => absurd z (by omega)) (fun _ => ?_)
    refine downF (P := fun j => (ffrom s (fun j => kG1 F i j) j = none → K (bI (ffrom s (fun i => ffrom s (fun j => kG1 F i j) i) (i + 1)).isSome) (Hm c)) → (∀ v, ffrom s (fun j => kG1 F i j) j = some v → K (nI 1) (Hm c)) → pX2_isOpen_15 E dd 37 a (nI i) (nI j) (Hm c) K) i s (by omega) ?_ ?_ (fun e => ?_) (fun v e => ?_)
    · intro k1 k2
      refine vX2_isOpen_15 (ldR l37 rfl (ldI l38 rfl ?_))
      rw [hN.1, nI_add]
      exact bLe (fun _ => ih (k1 (ffrom_end _ _))) (fun z => absurd z (by omega))
    · intro j hj1 hj2 ihj k1 k2
      refine vX2_isOpen_15 (ldR l37 rfl (ldI l38 rfl ?_))
      rw [hN.1]
      refine bLe (fun z => absurd z (by omega)) (fun _ => ?_)
      rw [pk_mul, nI_add, nI_add]
      refine alI hla (by omega) (by decide) ?_
      rw [hA i j hj1 hj2]
      refine bE0 (fun e => ihj (fun e2 => k1 ?_) (fun v e2 => k2 v ?_)) (fun e => ?_) bfl
      · rw [ffrom_none hj2 (kG1_n.mpr (bfn_z.mp e))]; exact e2
      · rw [ffrom_none hj2 (kG1_n.mpr (bfn_z.mp e))]; exact e2
      · cases h : kG1 F i j with
        | none => exact absurd (bfn_z.mpr (kG1_n.mp h)) e
        | some v => exact k2 v (ffrom_some hj2 h)
    · rw [ffrom_none (g := fun i => ffrom s (fun j => kG1 F i j) i) hi e] at k; exact k
    · rw [ffrom_some (g := fun i => ffrom s (fun j => kG1 F i j) i) hi e] at k; exact k
theorem c_firstLeft {r : Nat} (hr : r < 2) (hN : NetAt c 38 s lab) (hA : GA c (42 + r) s F) {K : Int32 → gk_H → Prop} (k : K (orN (kG s F)) (Hm c)) : RnI E mX2_firstLeft (dd + 1, 0, 0) [.ref 37, .int (nI (r + 1))] (Hm c) K := by
  have s6 := hN.2.1
  have hla : lay[42 + r]? = some (.inr (0, 36, [])) := match r, hr with
    | 0, _ => l42
    | 1, _ => l43
  have hat : ([42, 43] : List Nat)[r]? = some (42 + r) := match r, hr with
    | 0, _ => rfl
    | 1, _ => rfl
  refine vX2_firstLeft_0 (bLt (fun z => absurd z (by omega)) (fun _ => bLe (fun _ => ?_) (fun z => absurd z (by omega))))
  refine down (P := fun i => K (orN (ffrom s (fun i => ffrom s (fun j => kG1 F i j) i) i)) (Hm c) → pX2_firstLeft_15 E dd 37 (nI (r + 1)) (nI i) (Hm c) K) s ?_ ?_ 0 (Nat.zero_le _) k
  · intro k
    refine vX2_firstLeft_15 (ldR l37 rfl (ldI l38 rfl ?_))
    rw [hN.1]
    rw [ffrom_end] at k
    exact bLe (fun _ => k) (fun z => absurd z (by omega))
  · intro i hi ih k
    refine vX2_firstLeft_15 (ldR l37 rfl (ldI l38 rfl ?_))
    rw [hN.1]
    refine bLe (fun z => absurd z (by omega)) (fun _ => ?_)
    refine downF (P := fun j => (ffrom s (fun j => kG1 F i j) j = none → K (orN (ffrom s (fun i => ffrom s (fun j => kG1 F i j) i) (i + 1))) (Hm c)) → (∀ v, ffrom s (fun j => kG1 F i j) j = some v → K (nI v) (Hm c)) → pX2_firstLeft_28 E dd 37 (nI (r + 1)) (nI i) (nI j) (Hm c) K) i s (by omega) ?_ ?_ (fun e => ?_) (fun v e => ?_)
    · intro k1 k2
      refine vX2_firstLeft_28 (ldR l37 rfl (ldI l38 rfl ?_))
      rw [hN.1, nI_add]
      exact bLe (fun _ => ih (k1 (ffrom_end _ _))) (fun z => absurd z (by omega))
    · intro j hj1 hj2 ihj k1 k2
      refine vX2_firstLeft_28 (ldR l37 rfl (ldI l38 rfl ?_))
      rw [hN.1]
      refine bLe (fun z => absurd z (by omega)) (fun _ => ldR l37 rfl ?_)
      rw [nI_sub1 (by omega), Nat.add_sub_cancel, pk_mul, nI_add, nI_add]
      refine alR (t := 2) l41 hr (by decide) hat (alI hla (by omega) (by decide) ?_)
      rw [hA i j hj1 hj2]
      refine bE0 (fun e => ihj (fun e2 => k1 ?_) (fun v e2 => k2 v ?_)) (fun e => ?_) bfl
      · rw [ffrom_none hj2 (kG1_n.mpr (bfn_z.mp e))]; exact e2
      · rw [ffrom_none hj2 (kG1_n.mpr (bfn_z.mp e))]; exact e2
      · cases h : kG1 F i j with
        | none => exact absurd (bfn_z.mpr (kG1_n.mp h)) e
        | some v =>
          have k2 := k2 v (ffrom_some hj2 h)
          unfold kG1 at h
          rw [Option.map_eq_some_iff] at h
          obtain ⟨m, hm, rfl⟩ := h
          have hm16 : m < 16 := List.mem_range.mp (List.mem_filter.mp (List.mem_of_mem_head? hm)).1
          refine c_placeOf (q := 0) (m := m) bfl (by decide) ?_ (c_gapNumber hm16 k2)
          rw [← List.head?_eq_getElem?, ← hm, List.filter_congr (fun m hm => by rw [bfn_bit, decide_eq_true (List.mem_range.mp hm), Bool.true_and])]
    · rw [ffrom_none (g := fun i => ffrom s (fun j => kG1 F i j) i) hi e] at k; exact k
    · rw [ffrom_some (g := fun i => ffrom s (fun j => kG1 F i j) i) hi e] at k; exact k
def anO (s : Nat) (mir : Nat → Nat) (F : gF) (g : fT) : Option Nat := ffrom s (fun i => ffrom s (fun j => if F i j (4 * g i + mir (g j)) = true then some 0 else none) i) 0
theorem c_answers (hla : lay[a]? = some (.inr (0, 36, []))) (hlb : lay[b]? = some (.inr (0, 6, []))) (hT : Tab c 2 n mir N) (hN : NetAt c 38 s lab) (hA : GA c a s F) (hf : ∀ q, q < s → c.1 b q = nI (f q) ∧ f q < 4) {K : Int32 → gk_H → Prop} (k : K (bI (anO s mir F f).isSome) (Hm c)) : RnI E mX2_answers (dd, 0, 0) [.ref 37, .ref a, .ref b] (Hm c) K := by
  have s6 := hN.2.1
  refine vX2_answers_0 (ldR l37 rfl (ldR l1 rfl (ldR l2 rfl ?_)))
  refine down (P := fun i => K (bI (ffrom s (fun i => ffrom s (fun j => if F i j (4 * f i + mir (f j)) = true then some 0 else none) i) i).isSome) (Hm c) → pX2_answers_14 E dd 37 a b 3 (nI i) (Hm c) K) s ?_ ?_ 0 (Nat.zero_le _) k
  · intro k
    refine vX2_answers_14 (ldR l37 rfl (ldI l38 rfl ?_))
    rw [hN.1]
    rw [ffrom_end] at k
    exact bLe (fun _ => k) (fun z => absurd z (by omega))
  · intro i hi ih k
    refine vX2_answers_14 (ldR l37 rfl (ldI l38 rfl ?_))
    rw [hN.1]
    refine bLe (fun z => absurd z (by omega)) (fun _ => ?_)
    refine downF (P := fun j => (ffrom s (fun j => if F i j (4 * f i + mir (f j)) = true then some 0 else none) j = none → K (bI (ffrom s (fun i => ffrom s (fun j => if F i j (4 * f i + mir (f j)) = true then some 0 else none) i) (i + 1)).isSome) (Hm c)) → (∀ v, ffrom s (fun j => if F i j (4 * f i + mir (f j)) = true then some 0 else none) j = some v → K (nI 1) (Hm c)) → pX2_answers_30 E dd 37 a b 3 (nI i) (nI j) (Hm c) K) i s (by omega) ?_ ?_ (fun e => ?_) (fun v e => ?_)
    · intro k1 k2
      refine vX2_answers_30 (ldR l37 rfl (ldI l38 rfl ?_))
      rw [hN.1, nI_add]
      exact bLe (fun _ => ih (k1 (ffrom_end _ _))) (fun z => absurd z (by omega))
    · intro j hj1 hj2 ihj k1 k2
      refine vX2_answers_30 (ldR l37 rfl (ldI l38 rfl ?_))
      rw [hN.1]
      refine bLe (fun z => absurd z (by omega)) (fun _ => ?_)
      rw [pk_mul, nI_add, nI_add]
      refine alI hla (by omega) (by decide) (alI hlb (by omega) (by decide) (alI hlb (by omega) (by decide) ?_))
      rw [hA i j hj1 hj2, (hf i hi).1, (hf j hj2).1]
      have m4 := hT.2.2.2.2.2 (f j) (hf j hj2).2
      have fi := (hf i hi).2
      refine alI l3 (hf j hj2).2 (by decide) ?_
      rw [m4.1, pk_mul, nI_add]
      refine bBit (fun e => ihj (fun e2 => k1 ?_) (fun v e2 => k2 v ?_)) (fun e => ?_) bfl (by omega)
      · rw [bfn_bit, decide_eq_true (by omega), Bool.true_and] at e
        rw [ffrom_none hj2 (if_neg (by rw [e]; decide))]; exact e2
      · rw [bfn_bit, decide_eq_true (by omega), Bool.true_and] at e
        rw [ffrom_none hj2 (if_neg (by rw [e]; decide))]; exact e2
      · rw [bfn_bit, decide_eq_true (by omega), Bool.true_and] at e
        exact k2 0 (ffrom_some hj2 (if_pos e))
    · rw [ffrom_none (g := fun i => ffrom s (fun j => if F i j (4 * f i + mir (f j)) = true then some 0 else none) i) hi e] at k; exact k
    · rw [ffrom_some (g := fun i => ffrom s (fun j => if F i j (4 * f i + mir (f j)) = true then some 0 else none) i) hi e] at k; exact k
theorem c_strike (hla : lay[a]? = some (.inr (0, 36, []))) (hab : a ≠ b) (ha : 42 ≤ a) (hlb : lay[b]? = some (.inr (0, 6, []))) (hT : Tab c 2 n mir N) (hN : NetAt c 38 s lab) (hA : GA c a s F) (hf : ∀ q, q < s → c.1 b q = nI (f q) ∧ f q < 4) {K : gk_H → Prop} (k : ∀ c', Fr [a] c c' → GA c' a s (fun i j m => F i j m && m != 4 * f i + mir (f j)) → K (Hm c')) : RnV E mX2_strike (dd, 0, 0) [.ref 37, .ref a, .ref b] (Hm c) K := by
  have s6 := hN.2.1
  refine vX2_strike_0 (ldR l37 rfl (ldR l1 rfl (ldR l2 rfl ?_)))
  refine down (P := fun i => ∀ c', Fr [a] c c' → (∀ p q, p ≤ q → q < s → c'.1 a (6 * p + q) = nI (bfn (fun m => F p q m && (decide (i ≤ p) || m != 4 * f p + mir (f q))) 16)) → pX2_strike_14 E dd 37 a b 3 (nI i) (Hm c') K) s ?_ ?_ 0 (Nat.zero_le _) c Fr.rf (fun p q h1 h2 => by rw [hA p q h1 h2]; congr 1; exact bfn_cg (fun m _ => by simp))
  · intro c' hg h
    refine vX2_strike_14 (ldR l37 rfl (ldI l38 rfl ?_))
    rw [hg.i (by simp <;> omega), hN.1]
    refine bLe (fun _ => k c' hg (fun i j h1 h2 => ?_)) (fun z => absurd z (by omega))
    rw [h i j h1 h2]
    congr 1
    refine bfn_cg (fun m _ => ?_)
    rw [decide_eq_false (by omega), Bool.false_or]
  · intro i hi ih c' hg h
    refine vX2_strike_14 (ldR l37 rfl (ldI l38 rfl ?_))
    rw [hg.i (by simp <;> omega), hN.1]
    refine bLe (fun z => absurd z (by omega)) (fun _ => ?_)
    refine downF (P := fun j => ∀ c', Fr [a] c c' → (∀ p q, p ≤ q → q < s → c'.1 a (6 * p + q) = nI (bfn (fun m => F p q m && ((decide (i + 1 ≤ p) || (decide (p = i) && decide (j ≤ q))) || m != 4 * f p + mir (f q))) 16)) → pX2_strike_30 E dd 37 a b 3 (nI i) (nI j) (Hm c') K) i s (by omega) ?_ ?_ c' hg (fun p q h1 h2 => ?_)
    · intro c' hg h
      refine vX2_strike_30 (ldR l37 rfl (ldI l38 rfl ?_))
      rw [hg.i (by simp <;> omega), hN.1, nI_add]
      refine bLe (fun _ => ih c' hg (fun p q h1 h2 => ?_)) (fun z => absurd z (by omega))
      rw [h p q h1 h2]
      congr 1
      refine bfn_cg (fun m _ => ?_)
      rw [decide_eq_false (p := s ≤ q) (by omega), Bool.and_false, Bool.or_false]
    · intro j hj1 hj2 ihj c' hg h
      refine vX2_strike_30 (ldR l37 rfl (ldI l38 rfl ?_))
      rw [hg.i (by simp <;> omega), hN.1]
      refine bLe (fun z => absurd z (by omega)) (fun _ => ?_)
      rw [pk_mul, nI_add, nI_add]
      refine alI hla (by omega) (by decide) (alI hlb (by omega) (by decide) (alI hlb (by omega) (by decide) ?_))
      rw [h i j hj1 hj2, hg.i (q := b) (by simp; omega), hg.i (q := b) (by simp; omega), (hf i hi).1, (hf j hj2).1]
      have m4 := hT.2.2.2.2.2 (f j) (hf j hj2).2
      have fi := (hf i hi).2
      refine alI l3 (hf j hj2).2 (by decide) ?_
      rw [hg.i (q := 3) (by simp; omega), m4.1, pk_mul, nI_add, sh1 (by omega), bfn_clr (by omega)]
      refine asI hla (by omega) (by decide) (ihj _ (hg.mI (by simp)) (fun p q h1 h2 => ?_))
      by_cases e : p = i ∧ q = j
      · obtain ⟨e1, e2⟩ := e
        subst e1 e2
        rw [mI_s]
        congr 1
        refine bfn_cg (fun m _ => ?_)
        rw [decide_eq_false (p := p + 1 ≤ p) (by omega), decide_eq_true (p := p = p) rfl, decide_eq_true (p := q ≤ q) (Nat.le_refl _), decide_eq_false (p := q + 1 ≤ q) (by omega)]
        cases F p q m <;> cases (m != 4 * f p + mir (f q)) <;> rfl
      · rw [mI_n (by omega), h p q h1 h2]
        congr 1
        refine bfn_cg (fun m _ => ?_)
        by_cases ep : p = i
        · subst ep
          have : decide (j ≤ q) = decide (j + 1 ≤ q) := by congr 1; apply propext; omega
          rw [this]
        · simp [ep]
    · rw [h p q h1 h2]
      congr 1
      refine bfn_cg (fun m _ => ?_)
      congr 2
      rw [Bool.eq_iff_iff]
      simp
      omega
end CG
