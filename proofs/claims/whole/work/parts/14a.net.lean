/-! the class's networks -/
def isNt (r : Nat) : Prop := lay[r]? = some (.inl (3, [(0, 0), (2, r + 1)])) ∧ lay[r + 1]? = some (.inr (0, 36, []))
/-- a network: its size, its atoms, 0 from each node to itself -/
def NetAt (c : gm) (r s : Nat) (lab : Nat → Nat → Nat) : Prop := c.1 r 0 = nI s ∧ s ≤ 6 ∧ (∀ p q, p < s → q < s → c.1 (r + 1) (6 * p + q) = nI (lab p q)) ∧ ∀ p, p < 6 → c.1 (r + 1) (7 * p) = nI 0
theorem NetAt.fr {c c' : gm} {r s : Nat} {lab : Nat → Nat → Nat} {l : List Nat} (h : NetAt c r s lab) (hf : Fr l c c') (h1 : r ∉ l) (h2 : r + 1 ∉ l) : NetAt c' r s lab :=
  ⟨by rw [hf.i h1]; exact h.1, h.2.1, fun p q hp hq => by rw [hf.i h2]; exact h.2.2.1 p q hp hq, fun p hp => by rw [hf.i h2]; exact h.2.2.2 p hp⟩
/-- what a network's atoms are -/
def Vl (n : Nat) (mir : Nat → Nat) (s : Nat) (lab : Nat → Nat → Nat) : Prop := ∀ p q, p < s → q < s → lab p q < n ∧ (lab p q = 0 ↔ p = q) ∧ lab q p = mir (lab p q)
/-- one node more -/
def gl (s : Nat) (mir row : Nat → Nat) (lab : Nat → Nat → Nat) : Nat → Nat → Nat := fun p q => if q = s then (if p = s then 0 else row p) else if p = s then mir (row q) else lab p q
/-- the first three nodes, rising, for which the network is not sound -/
def usK (N : Nat) (lab : Nat → Nat → Nat) (i j k : Nat) : Option Nat := if N.testBit (ix (lab i j) (lab j k) (lab i k)) = true then none else some (100 * i + 10 * j + k)
def usF (N s : Nat) (lab : Nat → Nat → Nat) : Option Nat := ffrom s (fun i => ffrom s (fun j => ffrom s (usK N lab i j) (j + 1)) (i + 1)) 0
section NT
variable {E : gk_E} {dd : Nat} {c : gm} {r s t n N : Nat} {mir row : Nat → Nat} {lab : Nat → Nat → Nat}
theorem c_at (hr : isNt r) (hN : NetAt c r s lab) {p q : Nat} (hp : p < s) (hq : q < s) {K : Int32 → gk_H → Prop} (k : K (nI (lab p q)) (Hm c)) : RnI E mX3_at (dd, 0, 0) [.ref r, .int (nI p), .int (nI q)] (Hm c) K := by
  have h6 := hN.2.1
  refine vX3_at_0 (ldR hr.1 rfl ?_)
  rw [pk_mul, nI_add]
  refine alI hr.2 (by omega) (by decide) ?_
  rw [hN.2.2.1 p q hp hq]
  exact k
theorem c_link (hr : isNt r) (ht : isTab t) (htr : t ≠ r) (hm : Row c (t + 1) mir) {p q a : Nat} (hp : p < 6) (hq : q < 6) (ha : a < 4) {K : gk_H → Prop} (k : K (Hm (mI (mI c (r + 1) (6 * p + q) (nI a)) (r + 1) (6 * q + p) (nI (mir a))))) : RnV E mX3_link (dd, 0, 0) [.ref r, .int (nI p), .int (nI q), .int (nI a), .ref t] (Hm c) K := by
  refine vX3_link_0 (ldR hr.1 rfl ?_)
  simp only [pk_mul, nI_add]
  refine asI hr.2 (by omega) (by decide) (ldR hr.1 rfl (ldR ht.1 rfl (alI ht.2 ha (by decide) ?_)))
  rw [mI_n (by omega), (hm a ha).1]
  exact asI hr.2 (by omega) (by decide) k
theorem c_become {r2 s2 : Nat} {lab2 : Nat → Nat → Nat} (hr : isNt r) (hr2 : isNt r2) (hN : NetAt c r2 s2 lab2) (h1 : r ≠ r2) (h2 : r ≠ r2 + 1) (h3 : r2 ≠ r + 1) {K : gk_H → Prop} (k : ∀ c', Fr [r, r + 1] c c' → NetAt c' r s2 lab2 → K (Hm c')) : RnV E mX3_become (dd, 0, 0) [.ref r, .ref r2] (Hm c) K := by
  have h6 := hN.2.1
  refine vX3_become_0 (ldI hr2.1 rfl (stI hr.1 rfl ?_))
  refine down (P := fun a => ∀ c', Fr [r, r + 1] c c' → c'.1 r 0 = nI s2 → (∀ b, b < a → c'.1 (r + 1) b = c.1 (r2 + 1) b) → pX3_become_10 E dd r r2 (nI a) (Hm c') K) 36 ?_ ?_ 0 (Nat.zero_le _) _ (Fr.rf.mI (by simp)) (by rw [mI_s]; exact hN.1) (fun b hb => absurd hb (by omega))
  · intro c' hf hn hb
    refine vX3_become_10 (ldR hr.1 rfl (lenA hr.2 (by decide) (bLe (fun _ => k _ hf ⟨hn, h6, fun p q hp hq => ?_, fun p hp => ?_⟩) (fun h => absurd h (by omega)))))
    · rw [hb _ (by omega)]; exact hN.2.2.1 p q hp hq
    · rw [hb _ (by omega)]; exact hN.2.2.2 p hp
  · intro a ha ih c' hf hn hb
    refine vX3_become_10 (ldR hr.1 rfl (lenA hr.2 (by decide) (bLe (fun h => absurd h (by omega)) (fun _ => ldR hr.1 rfl (ldR hr2.1 rfl (alI hr2.2 ha (by decide) (asI hr.2 ha (by decide) ?_)))))))
    rw [nI_add, hf.i (by simp; omega)]
    refine ih _ (hf.mI (by simp)) (by rw [mI_n (by omega)]; exact hn) (fun b hb2 => ?_)
    by_cases e : b = a
    · subst e; exact mI_s
    · rw [mI_n (by omega)]; exact hb b (by omega)
theorem c_grow {a : Nat} {rf : List Nat} (hr : isNt r) (ht : isTab t) (htr : t ≠ r) (htr1 : t + 1 ≠ r) (hla : lay[a]? = some (.inr (0, 6, rf))) (har : a ≠ r) (har1 : a ≠ r + 1) (hm : Row c (t + 1) mir) (hN : NetAt c r s lab) (hs : s < 6) (hrow : ∀ i, i < s → c.1 a i = nI (row i) ∧ row i < 4) {K : gk_H → Prop} (k : ∀ c', Fr [r, r + 1] c c' → NetAt c' r (s + 1) (gl s mir row lab) → K (Hm c')) : RnV E mX3_grow (dd + 1, 0, 0) [.ref r, .ref a, .ref t] (Hm c) K := by
  refine vX3_grow_0 ?_
  refine down (P := fun i => ∀ c', Fr [r + 1] c c' → (∀ p, p < i → c'.1 (r + 1) (6 * p + s) = nI (row p) ∧ c'.1 (r + 1) (6 * s + p) = nI (mir (row p))) → (∀ p q, p < s → q < s → c'.1 (r + 1) (6 * p + q) = nI (lab p q)) → (∀ p, p < 6 → c'.1 (r + 1) (7 * p) = nI 0) → pX3_grow_2 E dd r a t (nI i) (Hm c') K) s ?_ ?_ 0 (Nat.zero_le _) c Fr.rf (fun p hp => absurd hp (by omega)) hN.2.2.1 hN.2.2.2
  · intro c' hf h1 h2 h3
    have hsz : c'.1 r 0 = nI s := by rw [hf.i (by simp)]; exact hN.1
    refine vX3_grow_2 (ldI hr.1 rfl ?_)
    rw [hsz]
    refine bLe (fun _ => ldI hr.1 rfl (stI hr.1 rfl ?_)) (fun h => absurd h (by omega))
    rw [hsz, nI_add]
    refine k _ ((hf.mono (fun q hq => List.mem_cons_of_mem _ hq)).mI (by simp)) ⟨mI_s, by omega, fun p q hp hq => ?_, fun p hp => ?_⟩
    · rw [mI_n (by omega)]
      unfold gl
      by_cases e : q = s
      · subst e
        rw [if_pos rfl]
        by_cases e2 : p = q
        · subst e2
          rw [if_pos rfl, show 6 * p + p = 7 * p by omega]
          exact h3 p (by omega)
        · rw [if_neg e2]; exact (h1 p (by omega)).1
      · rw [if_neg e]
        by_cases e2 : p = s
        · subst e2
          rw [if_pos rfl]
          exact (h1 q (by omega)).2
        · rw [if_neg e2]; exact h2 p q (by omega) (by omega)
    · rw [mI_n (by omega)]; exact h3 p hp
  · intro i hi ih c' hf h1 h2 h3
    have hsz : c'.1 r 0 = nI s := by rw [hf.i (by simp)]; exact hN.1
    have hm' : Row c' (t + 1) mir := fun b hb => by rw [hf.i (by simp; omega)]; exact hm b hb
    have hri := hrow i hi
    refine vX3_grow_2 (ldI hr.1 rfl ?_)
    rw [hsz]
    refine bLe (fun h => absurd h (by omega)) (fun _ => ldI hr.1 rfl (alI hla (by omega) (by decide) ⟨obj hr.1, ?_⟩))
    rw [hsz, hf.i (by simp; omega), hri.1]
    refine c_link hr ht htr hm' (by omega) (by omega) hri.2 ?_
    rw [nI_add]
    refine ih _ ((hf.mI (by simp)).mI (by simp)) (fun p hp => ⟨?_, ?_⟩) (fun p q hp hq => ?_) (fun p hp => ?_)
    · by_cases e : p = i
      · subst e; rw [mI_n (by omega), mI_s]
      · rw [mI_n (by omega), mI_n (by omega)]; exact (h1 p (by omega)).1
    · by_cases e : p = i
      · subst e; rw [mI_s]
      · rw [mI_n (by omega), mI_n (by omega)]; exact (h1 p (by omega)).2
    · rw [mI_n (by omega), mI_n (by omega)]; exact h2 p q hp hq
    · rw [mI_n (by omega), mI_n (by omega)]; exact h3 p hp
theorem c_unsound (hr : isNt r) (ht : isTab t) (hT : Tab c t n mir N) (hN : NetAt c r s lab) (hv : ∀ p q, p < s → q < s → lab p q < 4) {K : Int32 → gk_H → Prop} (k : K (orN (usF N s lab)) (Hm c)) : RnI E mX3_unsound (dd + 1, 0, 0) [.ref r, .ref t] (Hm c) K := by
  have h6 := hN.2.1
  refine vX3_unsound_0 ?_
  refine down (P := fun i => K (orN (ffrom s (fun i => ffrom s (fun j => ffrom s (usK N lab i j) (j + 1)) (i + 1)) i)) (Hm c) → pX3_unsound_2 E dd r t (nI i) (Hm c) K) s ?_ ?_ 0 (Nat.zero_le _) k
  · intro k
    rw [ffrom_end] at k
    refine vX3_unsound_2 (ldI hr.1 rfl ?_)
    rw [hN.1]
    exact bLe (fun _ => k) (fun h => absurd h (by omega))
  · intro i hi ih k
    refine vX3_unsound_2 (ldI hr.1 rfl ?_)
    rw [hN.1, nI_add]
    refine bLe (fun h => absurd h (by omega)) (fun _ => ?_)
    rw [ffrom_step _ hi] at k
    refine down (P := fun j => K (orN ((ffrom s (fun j => ffrom s (usK N lab i j) (j + 1)) j).or (ffrom s (fun i => ffrom s (fun j => ffrom s (usK N lab i j) (j + 1)) (i + 1)) (i + 1)))) (Hm c) → pX3_unsound_14 E dd r t (nI i) (nI j) (Hm c) K) s ?_ ?_ (i + 1) (by omega) k
    · intro k
      rw [ffrom_end, Option.none_or] at k
      refine vX3_unsound_14 (ldI hr.1 rfl ?_)
      simp only [hN.1, nI_add]
      exact bLe (fun _ => ih k) (fun h => absurd h (by omega))
    · intro j hj ih2 k
      refine vX3_unsound_14 (ldI hr.1 rfl ?_)
      simp only [hN.1, nI_add]
      refine bLe (fun h => absurd h (by omega)) (fun _ => ?_)
      rw [ffrom_step _ hj, Option.or_assoc] at k
      refine down (P := fun l => K (orN ((ffrom s (usK N lab i j) l).or ((ffrom s (fun j => ffrom s (usK N lab i j) (j + 1)) (j + 1)).or (ffrom s (fun i => ffrom s (fun j => ffrom s (usK N lab i j) (j + 1)) (i + 1)) (i + 1))))) (Hm c) → pX3_unsound_27 E dd r t (nI i) (nI j) (nI l) (Hm c) K) s ?_ ?_ (j + 1) (by omega) k
      · intro k
        rw [ffrom_end, Option.none_or] at k
        refine vX3_unsound_27 (ldI hr.1 rfl ?_)
        simp only [hN.1, nI_add]
        exact bLe (fun _ => ih2 k) (fun h => absurd h (by omega))
      · intro l hl ih3 k
        refine vX3_unsound_27 (ldI hr.1 rfl ?_)
        simp only [hN.1, nI_add, pk_mul]
        refine bLe (fun h => absurd h (by omega)) (fun _ => ⟨obj hr.1, c_at hr hN hi hj ⟨obj hr.1, c_at hr hN hj hl ⟨obj hr.1, c_at hr hN hi hl ⟨obj ht.1, c_has ht hT (hv i j hi hj) (hv j l hj hl) (hv i l hi hl) (bBn (fun e => ?_) (fun e => ?_))⟩⟩⟩⟩)
        · rw [ffrom_none hl (by rw [usK, if_pos e])] at k
          exact ih3 k
        · rw [ffrom_some hl (show usK N lab i j l = some (100 * i + 10 * j + l) by rw [usK, if_neg (by rw [e]; decide)])] at k
          exact k
end NT
