/-! searching and counting loops; broken threes, thin pairs -/
/-- the first answer of g at i, i + 1, .. below n -/
def ffrom {α : Type} (n : Nat) (g : Nat → Option α) (i : Nat) : Option α := ((List.range n).drop i).findSome? g
theorem ffrom_end {α : Type} (n : Nat) (g : Nat → Option α) : ffrom n g n = none := by
  unfold ffrom
  rw [List.drop_eq_nil_of_le (by simp)]
  rfl
theorem ffrom_step {α : Type} {n : Nat} (g : Nat → Option α) {i : Nat} (h : i < n) : ffrom n g i = (g i).or (ffrom n g (i + 1)) := by
  unfold ffrom
  rw [List.drop_eq_getElem_cons (by rw [List.length_range]; exact h), List.getElem_range, List.findSome?_cons]
  cases g i <;> rfl
theorem ffrom_some {α : Type} {n : Nat} {g : Nat → Option α} {i : Nat} {v : α} (h : i < n) (hg : g i = some v) : ffrom n g i = some v := by rw [ffrom_step g h, hg]; rfl
theorem ffrom_none {α : Type} {n : Nat} {g : Nat → Option α} {i : Nat} (h : i < n) (hg : g i = none) : ffrom n g i = ffrom n g (i + 1) := by rw [ffrom_step g h, hg]; rfl
/-- NOT, or a number -/
def orN (o : Option Nat) : Int32 := match o with
  | some v => nI v
  | none => -5
/-- broken threes: how many -/
def brkC (N n : Nat) : Nat := cs (fun a => cs (fun b => cs (fun z => b1 (unb N n a b z)) n) n) n
/-- the first broken three -/
def brkZ (N n a b : Nat) (z : Nat) : Option Nat := if unb N n a b z = true then some (100 * a + 10 * b + z) else none
def brkF (N n : Nat) : Option Nat := ffrom n (fun a => ffrom n (fun b => ffrom n (brkZ N n a b) 0) 0) 0
def thnP (N n a b : Nat) : Bool := prd N n (2 ^ a) (2 ^ b) == 0
def thnC (N n : Nat) : Nat := cs (fun a => cs (fun b => b1 (thnP N n a b)) n) n
def thnZ (N n a : Nat) (b : Nat) : Option Nat := if thnP N n a b = true then some (10 * a + b) else none
def thnF (N n : Nat) : Option Nat := ffrom n (fun a => ffrom n (thnZ N n a) 0) 0
section TB
variable {E : gk_E} {dd : Nat} {c : gm} {t n N : Nat} {mir : Nat → Nat}
theorem c_unbalancedF (ht : isTab t) (hT : Tab c t n mir N) {K : Int32 → gk_H → Prop} (k : K (orN (brkF N n)) (Hm c)) : RnI E mX8_unbalanced (dd + 2, 0, 0) [.ref t, .int (nI 0)] (Hm c) K := by
  have h4 := hT.2.2.1
  refine vX8_unbalanced_0 ?_
  refine down (P := fun a => K (orN (ffrom n (fun a => ffrom n (fun b => ffrom n (brkZ N n a b) 0) 0) a)) (Hm c) → pX8_unbalanced_4 E (dd + 1) t (nI 0) (nI 0) (nI a) (Hm c) K) n ?_ ?_ 0 (Nat.zero_le _) k
  · intro k
    rw [ffrom_end] at k
    refine vX8_unbalanced_4 (ldI ht.1 rfl ?_)
    rw [hT.1]
    exact bLe (fun _ => bE0 (fun _ => k) (fun h => absurd rfl h)) (fun h => absurd h (by omega))
  · intro a ha ih k
    refine vX8_unbalanced_4 (ldI ht.1 rfl ?_)
    rw [hT.1]
    refine bLe (fun h => absurd h (by omega)) (fun _ => ?_)
    rw [ffrom_step _ ha] at k
    refine down (P := fun b => K (orN ((ffrom n (fun b => ffrom n (brkZ N n a b) 0) b).or (ffrom n (fun a => ffrom n (fun b => ffrom n (brkZ N n a b) 0) 0) (a + 1)))) (Hm c) → pX8_unbalanced_15 E (dd + 1) t (nI 0) (nI 0) (nI a) (nI b) (Hm c) K) n ?_ ?_ 0 (Nat.zero_le _) k
    · intro k
      rw [ffrom_end, Option.none_or] at k
      refine vX8_unbalanced_15 (ldI ht.1 rfl ?_)
      simp only [hT.1, nI_add]
      exact bLe (fun _ => ih k) (fun h => absurd h (by omega))
    · intro b hb ih2 k
      refine vX8_unbalanced_15 (ldI ht.1 rfl ?_)
      simp only [hT.1, nI_add]
      refine bLe (fun h => absurd h (by omega)) (fun _ => ?_)
      rw [ffrom_step _ hb, Option.or_assoc] at k
      refine down (P := fun z => K (orN ((ffrom n (brkZ N n a b) z).or ((ffrom n (fun b => ffrom n (brkZ N n a b) 0) (b + 1)).or (ffrom n (fun a => ffrom n (fun b => ffrom n (brkZ N n a b) 0) 0) (a + 1))))) (Hm c) → pX8_unbalanced_27 E (dd + 1) t (nI 0) (nI 0) (nI a) (nI b) (nI z) (Hm c) K) n ?_ ?_ 0 (Nat.zero_le _) k
      · intro k
        rw [ffrom_end, Option.none_or] at k
        refine vX8_unbalanced_27 (ldI ht.1 rfl ?_)
        simp only [hT.1, nI_add]
        exact bLe (fun _ => ih2 k) (fun h => absurd h (by omega))
      · intro z hz ih3 k
        refine vX8_unbalanced_27 (ldI ht.1 rfl ?_)
        simp only [hT.1, nI_add, pk_mul]
        refine bLe (fun h => absurd h (by omega)) (fun _ => ⟨obj ht.1, c_isUnbalanced ht hT (by omega) (by omega) (by omega) (bB0 (fun h => ?_) (fun h => bN0 (fun q => absurd rfl q) (fun _ => ?_)))⟩)
        · rw [ffrom_none hz (by rw [brkZ, h]; rfl)] at k
          exact ih3 k
        · rw [ffrom_some hz (show brkZ N n a b z = some (100 * a + 10 * b + z) by rw [brkZ, h]; rfl)] at k
          exact k
theorem c_unbalancedT (ht : isTab t) (hT : Tab c t n mir N) {K : Int32 → gk_H → Prop} (k : K (nI (brkC N n)) (Hm c)) : RnI E mX8_unbalanced (dd + 2, 0, 0) [.ref t, .int (nI 1)] (Hm c) K := by
  have h4 := hT.2.2.1
  refine vX8_unbalanced_0 ?_
  refine down0 (P := fun a => pX8_unbalanced_4 E (dd + 1) t (nI 1) (nI (cs (fun a => cs (fun b => cs (fun z => b1 (unb N n a b z)) n) n) a)) (nI a) (Hm c) K) n ?_ ?_
  · refine vX8_unbalanced_4 (ldI ht.1 rfl ?_)
    rw [hT.1]
    exact bLe (fun _ => bE0 (fun h => absurd h (by decide)) (fun _ => k)) (fun h => absurd h (by omega))
  · intro a ha ih
    refine vX8_unbalanced_4 (ldI ht.1 rfl ?_)
    rw [hT.1]
    refine bLe (fun h => absurd h (by omega)) (fun _ => ?_)
    refine down0 (P := fun b => pX8_unbalanced_15 E (dd + 1) t (nI 1) (nI (cs (fun a => cs (fun b => cs (fun z => b1 (unb N n a b z)) n) n) a + cs (fun b => cs (fun z => b1 (unb N n a b z)) n) b)) (nI a) (nI b) (Hm c) K) n ?_ ?_
    · refine vX8_unbalanced_15 (ldI ht.1 rfl ?_)
      simp only [hT.1, nI_add]
      exact bLe (fun _ => ih) (fun h => absurd h (by omega))
    · intro b hb ih2
      refine vX8_unbalanced_15 (ldI ht.1 rfl ?_)
      simp only [hT.1, nI_add]
      refine bLe (fun h => absurd h (by omega)) (fun _ => ?_)
      refine down0 (P := fun z => pX8_unbalanced_27 E (dd + 1) t (nI 1) (nI (cs (fun a => cs (fun b => cs (fun z => b1 (unb N n a b z)) n) n) a + cs (fun b => cs (fun z => b1 (unb N n a b z)) n) b + cs (fun z => b1 (unb N n a b z)) z)) (nI a) (nI b) (nI z) (Hm c) K) n ?_ ?_
      · refine vX8_unbalanced_27 (ldI ht.1 rfl ?_)
        simp only [hT.1, nI_add]
        exact bLe (fun _ => by rw [Nat.add_assoc]; exact ih2) (fun h => absurd h (by omega))
      · intro z hz ih3
        refine vX8_unbalanced_27 (ldI ht.1 rfl ?_)
        simp only [hT.1, nI_add, pk_mul]
        refine bLe (fun h => absurd h (by omega)) (fun _ => ⟨obj ht.1, c_isUnbalanced ht hT (by omega) (by omega) (by omega) (bB0 (fun h => ?_) (fun h => bN0 (fun _ => ?_) (fun q => absurd q (by decide))))⟩)
        · rw [cs, h] at ih3
          exact ih3
        · rw [cs, h] at ih3
          exact ih3
theorem c_thinF (ht : isTab t) (hT : Tab c t n mir N) {K : Int32 → gk_H → Prop} (k : K (orN (thnF N n)) (Hm c)) : RnI E mX8_thin (dd + 1, 0, 0) [.ref t, .int (nI 0)] (Hm c) K := by
  have h4 := hT.2.2.1
  refine vX8_thin_0 ?_
  refine down (P := fun a => K (orN (ffrom n (fun a => ffrom n (thnZ N n a) 0) a)) (Hm c) → pX8_thin_4 E dd t (nI 0) (nI 0) (nI a) (Hm c) K) n ?_ ?_ 0 (Nat.zero_le _) k
  · intro k
    rw [ffrom_end] at k
    refine vX8_thin_4 (ldI ht.1 rfl ?_)
    rw [hT.1]
    exact bLe (fun _ => bE0 (fun _ => k) (fun h => absurd rfl h)) (fun h => absurd h (by omega))
  · intro a ha ih k
    refine vX8_thin_4 (ldI ht.1 rfl ?_)
    rw [hT.1]
    refine bLe (fun h => absurd h (by omega)) (fun _ => ?_)
    rw [ffrom_step _ ha] at k
    refine down (P := fun b => K (orN ((ffrom n (thnZ N n a) b).or (ffrom n (fun a => ffrom n (thnZ N n a) 0) (a + 1)))) (Hm c) → pX8_thin_15 E dd t (nI 0) (nI 0) (nI a) (nI b) (Hm c) K) n ?_ ?_ 0 (Nat.zero_le _) k
    · intro k
      rw [ffrom_end, Option.none_or] at k
      refine vX8_thin_15 (ldI ht.1 rfl ?_)
      simp only [hT.1, nI_add]
      exact bLe (fun _ => ih k) (fun h => absurd h (by omega))
    · intro b hb ih2 k
      have hl := prd_lt N n (2 ^ a) (2 ^ b)
      have pa := pow4 (a := a) (by omega)
      have pb := pow4 (a := b) (by omega)
      refine vX8_thin_15 (ldI ht.1 rfl ?_)
      simp only [hT.1, nI_add, pk_mul]
      rw [sh1 (by omega), sh1 (by omega)]
      refine bLe (fun h => absurd h (by omega)) (fun _ => ⟨obj ht.1, c_product ht hT (by omega) (by omega) (bN0 (fun h => ?_) (fun h => bN0 (fun q => absurd rfl q) (fun _ => ?_)))⟩)
      · rw [ffrom_none hb (by rw [thnZ, thnP, beq_false_of_ne h]; rfl)] at k
        exact ih2 k
      · rw [ffrom_some hb (show thnZ N n a b = some (10 * a + b) by rw [thnZ, thnP, h]; rfl)] at k
        exact k
theorem c_thinT (ht : isTab t) (hT : Tab c t n mir N) {K : Int32 → gk_H → Prop} (k : K (nI (thnC N n)) (Hm c)) : RnI E mX8_thin (dd + 1, 0, 0) [.ref t, .int (nI 1)] (Hm c) K := by
  have h4 := hT.2.2.1
  refine vX8_thin_0 ?_
  refine down0 (P := fun a => pX8_thin_4 E dd t (nI 1) (nI (cs (fun a => cs (fun b => b1 (thnP N n a b)) n) a)) (nI a) (Hm c) K) n ?_ ?_
  · refine vX8_thin_4 (ldI ht.1 rfl ?_)
    rw [hT.1]
    exact bLe (fun _ => bE0 (fun h => absurd h (by decide)) (fun _ => k)) (fun h => absurd h (by omega))
  · intro a ha ih
    refine vX8_thin_4 (ldI ht.1 rfl ?_)
    rw [hT.1]
    refine bLe (fun h => absurd h (by omega)) (fun _ => ?_)
    refine down0 (P := fun b => pX8_thin_15 E dd t (nI 1) (nI (cs (fun a => cs (fun b => b1 (thnP N n a b)) n) a + cs (fun b => b1 (thnP N n a b)) b)) (nI a) (nI b) (Hm c) K) n ?_ ?_
    · refine vX8_thin_15 (ldI ht.1 rfl ?_)
      simp only [hT.1, nI_add]
      exact bLe (fun _ => ih) (fun h => absurd h (by omega))
    · intro b hb ih2
      have hl := prd_lt N n (2 ^ a) (2 ^ b)
      have pa := pow4 (a := a) (by omega)
      have pb := pow4 (a := b) (by omega)
      refine vX8_thin_15 (ldI ht.1 rfl ?_)
      simp only [hT.1, nI_add, pk_mul]
      rw [sh1 (by omega), sh1 (by omega)]
      refine bLe (fun h => absurd h (by omega)) (fun _ => ⟨obj ht.1, c_product ht hT (by omega) (by omega) (bN0 (fun h => ?_) (fun h => bN0 (fun _ => ?_) (fun q => absurd q (by decide))))⟩)
      · rw [cs, thnP, beq_false_of_ne h] at ih2
        exact ih2
      · rw [cs, thnP, h] at ih2
        exact ih2
end TB
