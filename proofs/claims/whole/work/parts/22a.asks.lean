/-! asks: how many gaps there are -/
theorem nodup_len : ∀ (L M : List Nat), L.Nodup → (∀ g, g ∈ L → g ∈ M) → L.length ≤ M.length
  | [], M, _, _ => Nat.zero_le _
  | g :: L, M, h, hs => by
    rw [List.nodup_cons] at h
    have h1 := nodup_len L (M.erase g) h.2 (fun x hx => (List.mem_erase_of_ne (fun e => h.1 (by rw [← e]; exact hx))).mpr (hs x (List.mem_cons_of_mem _ hx)))
    have h2 := List.length_erase_of_mem (hs g List.mem_cons_self)
    have h3 := List.length_pos_of_mem (hs g List.mem_cons_self)
    rw [List.length_cons]
    omega
theorem filt_len {P Q : Nat → Bool} : ∀ (L : List Nat), (∀ m, m ∈ L → P m = true → Q m = true) → (L.filter P).length ≤ (L.filter Q).length
  | [], _ => Nat.le_refl _
  | m :: L, h => by
    have ih := filt_len L (fun x hx => h x (List.mem_cons_of_mem _ hx))
    rw [List.filter_cons, List.filter_cons]
    by_cases e : P m = true
    · rw [if_pos e, if_pos (h m List.mem_cons_self e), List.length_cons, List.length_cons]; omega
    · rw [if_neg e]
      split
      · rw [List.length_cons]; omega
      · exact ih
theorem cnt9 : ((List.range 16).filter (fun m => decide (1 ≤ m / 4 ∧ 1 ≤ m % 4))).length = 9 := by decide
theorem cnt3 : ∀ a, a < 4 → ∀ b, b < 4 → ∀ d, d < 4 → ((List.range 16).filter (fun m => decide (1 ≤ m / 4) && m % 4 == (if m / 4 = 1 then a else if m / 4 = 2 then b else d))).length ≤ 3 := by decide
section AK
variable {n N s : Nat} {mir : Nat → Nat} {lab : Nat → Nat → Nat}
theorem opP_r {i j t m : Nat} (h : opP N n lab i j t m = true) : 1 ≤ m / 4 ∧ m / 4 < n ∧ 1 ≤ m % 4 ∧ m % 4 < n ∧ N.testBit (4 * m + lab i j) = true := by
  unfold opP opR at h
  simp only [Bool.and_eq_true, decide_eq_true_eq] at h
  exact ⟨h.1.1.1, h.1.1.2.1, h.1.1.2.2.1, h.1.1.2.2.2, h.1.2⟩
theorem blk9 {i j : Nat} : (blk N n s lab i j).length ≤ 9 := by
  unfold blk
  rw [List.length_map, ← cnt9]
  exact filt_len _ (fun m _ h => decide_eq_true ⟨(opP_r h).1, (opP_r h).2.2.1⟩)
theorem blk3 (hG : Gd n mir N) {i : Nat} (hz : lab i i = 0) : (blk N n s lab i i).length ≤ 3 := by
  have n4 := hG.n4
  unfold blk
  rw [List.length_map]
  refine Nat.le_trans (filt_len (Q := fun m => decide (1 ≤ m / 4) && m % 4 == (if m / 4 = 1 then mir 1 else if m / 4 = 2 then mir 2 else mir 3)) _ (fun m _ h => ?_)) (cnt3 _ (hG.m4 1 (by decide)) _ (hG.m4 2 (by decide)) _ (hG.m4 3 (by decide)))
  obtain ⟨h1, h2, h3, h4, h5⟩ := opP_r h
  have e : 4 * m + lab i i = ix (m / 4) (m % 4) 0 := by rw [hz]; unfold ix; omega
  rw [e, hG.f3 _ _ h2 h4] at h5
  have h6 := of_decide_eq_true h5
  rw [decide_eq_true h1, Bool.true_and, h6]
  have h7 : m / 4 = 1 ∨ m / 4 = 2 ∨ m / 4 = 3 := by omega
  rcases h7 with h | h | h <;> rw [h] <;> simp
theorem flat_len {α β : Type} {f : α → List β} {b : Nat} : ∀ (L : List α), (∀ x, x ∈ L → (f x).length ≤ b) → (L.flatMap f).length ≤ b * L.length
  | [], _ => Nat.zero_le _
  | x :: L, h => by
    have ih := flat_len L (fun y hy => h y (List.mem_cons_of_mem _ hy))
    have h1 := h x List.mem_cons_self
    rw [List.flatMap_cons, List.length_append, List.length_cons, Nat.mul_add, Nat.mul_one]
    omega
theorem gpL_153 (hG : Gd n mir N) (hv : Vl n mir s lab) (hs : s ≤ 6) : (gpL N n s lab).length ≤ 153 := by
  unfold gpL
  have inner : ∀ i, i < s → (((List.range s).drop i).flatMap (fun j => blk N n s lab i j)).length ≤ 3 + 9 * (s - (i + 1)) := fun i hi => by
    rw [drop_cons hi, List.flatMap_cons, List.length_append]
    have h1 := blk3 (s := s) hG (((hv i i hi hi).2.1).mpr rfl)
    have h2 := flat_len (f := fun j => blk N n s lab i j) (b := 9) ((List.range s).drop (i + 1)) (fun _ _ => blk9)
    rw [List.length_drop, List.length_range] at h2
    omega
  have go : ∀ k i, s - i = k → i ≤ s → (((List.range s).drop i).flatMap (fun i => ((List.range s).drop i).flatMap (fun j => blk N n s lab i j))).length ≤ 3 * k + 9 * (k * (k - 1) / 2) := by
    intro k
    induction k with
    | zero =>
      intro i hk hi
      rw [show i = s by omega, drop_end]
      exact Nat.zero_le _
    | succ k ih =>
      intro i hk hi
      rw [drop_cons (by omega), List.flatMap_cons, List.length_append]
      have h1 := inner i (by omega)
      have h2 := ih (i + 1) (by omega) (by omega)
      have h3 : k ≤ 5 := by omega
      have h4 : ∀ k, k ≤ 5 → 3 + 9 * k + (3 * k + 9 * (k * (k - 1) / 2)) ≤ 3 * (k + 1) + 9 * ((k + 1) * (k + 1 - 1) / 2) := by decide
      have h5 := h4 k h3
      rw [show s - (i + 1) = k by omega] at h1
      generalize k * (k - 1) / 2 = u at *
      generalize (k + 1) * (k + 1 - 1) / 2 = v at *
      omega
  have := go s 0 (by omega) (Nat.zero_le _)
  rw [List.drop_zero] at this
  have h4 : ∀ k, k ≤ 6 → 3 * k + 9 * (k * (k - 1) / 2) ≤ 153 := by decide
  exact Nat.le_trans this (h4 s hs)
/-- the gaps to the last node -/
def nwL (N n s : Nat) (lab : Nat → Nat → Nat) : List Nat := (List.range (s + 1)).flatMap (fun i => blk N n (s + 1) lab i s)
theorem gC_j {i j m : Nat} (hj : j < 10) (hm : m < 16) : gC i j m / 100 % 10 = j := (gC_d hj hm).2.1
theorem blk_j {i j t : Nat} (hj : j < 10) {g : Nat} (h : g ∈ blk N n t lab i j) : g / 100 % 10 = j := by
  unfold blk at h
  rw [List.mem_map] at h
  obtain ⟨m, hm, rfl⟩ := h
  exact gC_j hj (List.mem_range.mp (List.mem_filter.mp hm).1)
theorem nwL_eq (hs : s + 1 ≤ 6) : (gpL N n (s + 1) lab).filter (fun g => g / 100 % 10 == s) = nwL N n s lab := by
  unfold gpL nwL
  rw [List.filter_flatMap]
  have key : ∀ i, i < s + 1 → (((List.range (s + 1)).drop i).flatMap (fun j => blk N n (s + 1) lab i j)).filter (fun g => g / 100 % 10 == s) = blk N n (s + 1) lab i s := fun i hi => by
    have go : ∀ k a, s - a = k → a ≤ s → (((List.range (s + 1)).drop a).flatMap (fun j => blk N n (s + 1) lab i j)).filter (fun g => g / 100 % 10 == s) = blk N n (s + 1) lab i s := by
      intro k
      induction k with
      | zero =>
        intro a hk ha
        rw [show a = s by omega, drop_cons (by omega), drop_end, List.flatMap_cons, List.flatMap_nil, List.append_nil, List.filter_eq_self]
        intro g hg
        rw [blk_j (by omega) hg]
        simp
      | succ k ih =>
        intro a hk ha
        rw [drop_cons (by omega), List.flatMap_cons, List.filter_append, ih (a + 1) (by omega) (by omega)]
        have : (blk N n (s + 1) lab i a).filter (fun g => g / 100 % 10 == s) = [] := by
          rw [List.filter_eq_nil_iff]
          intro g hg
          rw [blk_j (by omega) hg]
          simp
          omega
        rw [this, List.nil_append]
    exact go (s - i) i rfl (by omega)
  have : ∀ (L : List Nat), (∀ i, i ∈ L → i < s + 1) → L.flatMap (fun i => (((List.range (s + 1)).drop i).flatMap (fun j => blk N n (s + 1) lab i j)).filter (fun g => g / 100 % 10 == s)) = L.flatMap (fun i => blk N n (s + 1) lab i s) := by
    intro L
    induction L with
    | nil => intro _; rfl
    | cons i L ih => intro h; rw [List.flatMap_cons, List.flatMap_cons, key i (h i List.mem_cons_self), ih (fun x hx => h x (List.mem_cons_of_mem _ hx))]
  exact this _ (fun i hi => List.mem_range.mp hi)
end AK
