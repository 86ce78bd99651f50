/-! the reference's networks -/
def MNet (c : gm) (i s : Nat) (lab : Nat → Nat → Nat) : Prop := c.1 71 i = nI s ∧ s ≤ 6 ∧ ∀ p q, p < s → q < s → p ≠ q → c.1 72 (36 * i + 6 * p + q) = nI (lab p q)
/-- network i alone has changed -/
def FrN (i : Nat) (c c' : gm) : Prop := Fr [71, 72] c c' ∧ (∀ k, k ≠ i → c'.1 71 k = c.1 71 k) ∧ ∀ k, (k < 36 * i ∨ 36 * i + 36 ≤ k) → c'.1 72 k = c.1 72 k
theorem FrN.rf {i : Nat} {c : gm} : FrN i c c := ⟨Fr.rf, fun _ _ => rfl, fun _ _ => rfl⟩
theorem FrN.trans {i : Nat} {c c1 c2 : gm} (h1 : FrN i c c1) (h2 : FrN i c1 c2) : FrN i c c2 := ⟨h1.1.trans h2.1, fun k hk => (h2.2.1 k hk).trans (h1.2.1 k hk), fun k hk => (h2.2.2 k hk).trans (h1.2.2 k hk)⟩
theorem FrN.m72 {i k : Nat} {c c1 : gm} {x : Int32} (h : FrN i c c1) (h1 : 36 * i ≤ k) (h2 : k < 36 * i + 36) : FrN i c (mI c1 72 k x) := ⟨h.1.mI (by simp), fun j hj => by rw [mI_n (by omega)]; exact h.2.1 j hj, fun j hj => by rw [mI_n (by omega)]; exact h.2.2 j hj⟩
theorem FrN.m71 {i : Nat} {c c1 : gm} {x : Int32} (h : FrN i c c1) : FrN i c (mI c1 71 i x) := ⟨h.1.mI (by simp), fun j hj => by rw [mI_n (by omega)]; exact h.2.1 j hj, fun j hj => by rw [mI_n (by omega)]; exact h.2.2 j hj⟩
theorem MNet.frN {c c' : gm} {i j s : Nat} {lab : Nat → Nat → Nat} (h : MNet c j s lab) (hf : FrN i c c') (hij : j ≠ i) : MNet c' j s lab := by
  have h6 := h.2.1
  refine ⟨by rw [hf.2.1 j hij]; exact h.1, h6, fun p q hp hq hpq => ?_⟩
  rw [hf.2.2 _ (by omega)]
  exact h.2.2 p q hp hq hpq
theorem MNet.fr {c c' : gm} {j s : Nat} {lab : Nat → Nat → Nat} {l : List Nat} (h : MNet c j s lab) (hf : Fr l c c') (h1 : 71 ∉ l) (h2 : 72 ∉ l) : MNet c' j s lab := ⟨by rw [hf.i h1]; exact h.1, h.2.1, fun p q hp hq hpq => by rw [hf.i h2]; exact h.2.2 p q hp hq hpq⟩
theorem MT.frN {c c' : gm} {n N i : Nat} {mir : Nat → Nat} (h : MT c n mir N) (hf : FrN i c c') : MT c' n mir N := h.fr hf.1 (by decide) (by decide) (by decide)
/-- the last digit, and the number without its last k digits, as the machine has them -/
def rm10 (x : Int32) : Int32 := x - x / nI 10 * nI 10
def itd (x : Int32) : Nat → Int32
  | 0 => x
  | k + 1 => itd x k / nI 10
/-- digits tell atoms but 0 of s nodes, from the k-th on -/
def aAt (n : Nat) (x : Int32) (s : Nat) (k : Nat) : Bool := (ffrom s (fun i => if inR (rm10 (itd x i)) 1 n = true then none else some 0) k).isNone && decide (itd x s = 0)
theorem aAt_end {n s : Nat} {x : Int32} : aAt n x s s = decide (itd x s = 0) := by rw [aAt, ffrom_end]; rfl
theorem aAt_no {n s k : Nat} {x : Int32} (hk : k < s) (h : inR (rm10 (itd x k)) 1 n = false) : aAt n x s k = false := by rw [aAt, ffrom_some hk (v := 0) (by rw [h]; rfl)]; rfl
theorem aAt_yes {n s k : Nat} {x : Int32} (hk : k < s) (h : inR (rm10 (itd x k)) 1 n = true) : aAt n x s k = aAt n x s (k + 1) := by rw [aAt, aAt, ffrom_none hk (by rw [if_pos h])]
theorem aAt_all {n s : Nat} {x : Int32} : ∀ k, k ≤ s → aAt n x s 0 = true → ∀ i, i < k → inR (rm10 (itd x i)) 1 n = true ∧ aAt n x s k = true
  | 0, _, h, i, hi => absurd hi (by omega)
  | k + 1, hk, h, i, hi => by
    have hk0 : aAt n x s k = true := by
      cases k with
      | zero => exact h
      | succ k => exact (aAt_all (k + 1) (by omega) h 0 (by omega)).2
    have hin : inR (rm10 (itd x k)) 1 n = true := by
      cases hq : inR (rm10 (itd x k)) 1 n with
      | true => rfl
      | false => rw [aAt_no (by omega) hq] at hk0; exact absurd hk0 (by decide)
    refine ⟨?_, by rw [← aAt_yes (by omega) hin]; exact hk0⟩
    rcases Nat.lt_succ_iff_lt_or_eq.mp hi with h1 | h1
    · exact (aAt_all k (by omega) h i h1).1
    · rw [h1]; exact hin
/-- the atoms that digits tell -/
def rowD (x : Int32) (i : Nat) : Nat := w (rm10 (itd x i))
theorem inR1_nI {x : Int32} {n : Nat} (hn : n < 2 ^ 31) (h : inR x 1 n = true) : 1 ≤ w x ∧ w x < n ∧ x = nI (w x) := by
  obtain ⟨h1, h2⟩ := of_decide_eq_true h
  obtain ⟨j, hj, rfl⟩ := inR_nI (x := x) hn (decide_eq_true ⟨by omega, h2⟩)
  rw [nI_toInt (by omega)] at h1
  rw [w_nI (by omega)]
  exact ⟨by omega, hj, rfl⟩
section MN
variable {E : gk_E} {dd : Nat} {c : gm} {i s n N : Nat} {mir : Nat → Nat} {lab : Nat → Nat → Nat}
theorem n_labelOf (hi : i < 6) (hN : MNet c i s lab) (hz : ∀ p, p < s → lab p p = 0) {p q : Nat} (hp : p < s) (hq : q < s) {K : Int32 → gk_H → Prop} (k : K (nI (lab p q)) (Hm c)) : RnI E mX12_labelOf (dd, 0, 0) [.ref 68, .int (nI i), .int (nI p), .int (nI q)] (Hm c) K := by
  have h6 := hN.2.1
  refine vX12_labelOf_0 (bNe (fun h => ldR l68 rfl ?_) (fun h => ?_))
  · simp only [pk_mul, nI_add]
    refine alI l72 (by omega) (by decide) ?_
    rw [hN.2.2 p q hp hq h]
    exact k
  · subst h
    rw [hz p hp] at k
    exact k
theorem n_lays (hi : i < 6) (hm : Row c 69 mir) {p q a : Nat} (hp : p < 6) (hq : q < 6) (ha : a < 4) {K : gk_H → Prop} (k : K (Hm (mI (mI c 72 (36 * i + 6 * p + q) (nI a)) 72 (36 * i + 6 * q + p) (nI (mir a))))) : RnV E mX12_lays (dd, 0, 0) [.ref 68, .int (nI i), .int (nI p), .int (nI q), .int (nI a)] (Hm c) K := by
  refine vX12_lays_0 (ldR l68 rfl ?_)
  simp only [pk_mul, nI_add]
  refine asI l72 (by omega) (by decide) (ldR l68 rfl (ldR l68 rfl (alI l69 ha (by decide) ?_)))
  rw [mI_n (by omega), (hm a ha).1]
  exact asI l72 (by omega) (by decide) k
theorem n_likens {j : Nat} (hi : i < 6) (hj : j < 6) (hij : i ≠ j) (hN : MNet c i s lab) {K : gk_H → Prop} (k : ∀ c', FrN j c c' → MNet c' j s lab → K (Hm c')) : RnV E mX12_likens (dd, 0, 0) [.ref 68, .int (nI i), .int (nI j)] (Hm c) K := by
  have h6 := hN.2.1
  refine vX12_likens_0 (ldR l68 rfl (ldR l68 rfl (alI l71 hi (by decide) (asI l71 hj (by decide) ?_))))
  refine down (P := fun a => ∀ c', FrN j c c' → c'.1 71 j = nI s → (∀ b, b < a → c'.1 72 (36 * j + b) = c.1 72 (36 * i + b)) → pX12_likens_14 E dd 68 (nI i) (nI j) (nI a) (Hm c') K) 36 ?_ ?_ 0 (Nat.zero_le _) _ FrN.rf.m71 (by rw [mI_s]; exact hN.1) (fun b hb => absurd hb (by omega))
  · intro c' hf hn hb
    refine vX12_likens_14 (bLe (fun _ => k _ hf ⟨hn, h6, fun p q hp hq hpq => ?_⟩) (fun h => absurd h (by omega)))
    rw [show 36 * j + 6 * p + q = 36 * j + (6 * p + q) by omega, hb _ (by omega), ← Nat.add_assoc]
    exact hN.2.2 p q hp hq hpq
  · intro a ha ih c' hf hn hb
    refine vX12_likens_14 (bLe (fun h => absurd h (by omega)) (fun _ => ldR l68 rfl (ldR l68 rfl ?_)))
    simp only [pk_mul, nI_add]
    refine alI l72 (by omega) (by decide) (asI l72 (by omega) (by decide) ?_)
    rw [hf.2.2 _ (by omega)]
    refine ih _ (hf.m72 (by omega) (by omega)) (by rw [mI_n (by omega)]; exact hn) (fun b hb2 => ?_)
    by_cases e : b = a
    · subst e; exact mI_s
    · rw [mI_n (by omega)]; exact hb b (by omega)
theorem n_digit {x : Int32} {m : Nat} (hm : m < 2 ^ 31) {h : gk_H} {K : Int32 → gk_H → Prop} (k : K (rm10 (itd x m)) h) : RnI E mX12_digit (dd, 0, 0) [.int x, .int (nI m)] h K := by
  refine vX12_digit_0 ?_
  refine down0 (P := fun a => pX12_digit_4 E dd x (nI m) (itd x a) (nI a) h K) m ?_ ?_
  · exact vX12_digit_4 (bLe (fun _ => k) (fun h => absurd h (by omega)))
  · intro a ha ih
    refine vX12_digit_4 (bLe (fun h => absurd h (by omega)) (fun _ => ?_))
    rw [nI_add]
    exact ih
theorem n_areAtoms (hi : i < 6) (hM : MT c n mir N) (hN : MNet c i s lab) {x : Int32} {K : Int32 → gk_H → Prop} (k : K (bI (aAt n x s 0)) (Hm c)) : RnI E mX12_areAtoms (dd + 2, 0, 0) [.ref 68, .int (nI i), .int x] (Hm c) K := by
  have h6 := hN.2.1
  refine vX12_areAtoms_0 ?_
  refine down (P := fun a => K (bI (aAt n x s a)) (Hm c) → pX12_areAtoms_5 E (dd + 1) 68 (nI i) x (itd x a) (nI a) (Hm c) K) s ?_ ?_ 0 (Nat.zero_le _) k
  · intro k
    rw [aAt_end] at k
    refine vX12_areAtoms_5 (ldR l68 rfl (alI l71 hi (by decide) ?_))
    rw [hN.1]
    refine bLe (fun _ => ⟨fun e => ?_, fun e => ?_⟩) (fun h => absurd h (by omega))
    · rw [decide_eq_false e] at k; exact k
    · rw [decide_eq_true e] at k; exact k
  · intro a ha ih k
    refine vX12_areAtoms_5 (ldR l68 rfl (alI l71 hi (by decide) ?_))
    rw [hN.1]
    refine bLe (fun h => absurd h (by omega)) (fun _ => ⟨obj l68, n_isOther hM (bBn (fun e => ?_) (fun e => ?_))⟩)
    · rw [aAt_yes ha e] at k
      rw [nI_add]
      exact ih k
    · rw [aAt_no ha e] at k; exact k
theorem n_comes (hi : i < 6) (hm : Row c 69 mir) (hN : MNet c i s lab) (hs : s < 6) {x : Int32} {row : Nat → Nat} (hrow : ∀ a, a < s → rm10 (itd x a) = nI (row a) ∧ row a < 4) {K : gk_H → Prop} (k : ∀ c', FrN i c c' → MNet c' i (s + 1) (gl s mir row lab) → K (Hm c')) : RnV E mX12_comes (dd + 1, 0, 0) [.ref 68, .int (nI i), .int x] (Hm c) K := by
  refine vX12_comes_0 (ldR l68 rfl (alI l71 hi (by decide) ?_))
  rw [hN.1]
  refine down (P := fun a => ∀ c', FrN i c c' → c'.1 71 i = nI s → (∀ p, p < a → c'.1 72 (36 * i + 6 * p + s) = nI (row p) ∧ c'.1 72 (36 * i + 6 * s + p) = nI (mir (row p))) → (∀ p q, p < s → q < s → p ≠ q → c'.1 72 (36 * i + 6 * p + q) = nI (lab p q)) → pX12_comes_10 E dd 68 (nI i) x (nI s) (nI a) (Hm c') K) s ?_ ?_ 0 (Nat.zero_le _) c FrN.rf hN.1 (fun p hp => absurd hp (by omega)) hN.2.2
  · intro c' hf hsz h1 h2
    refine vX12_comes_10 (bLe (fun _ => ldR l68 rfl (alI l71 hi (by decide) (asI l71 hi (by decide) ?_))) (fun h => absurd h (by omega)))
    rw [hsz, nI_add]
    refine k _ hf.m71 ⟨mI_s, by omega, fun p q hp hq hpq => ?_⟩
    rw [mI_n (by omega)]
    unfold gl
    by_cases e : q = s
    · subst e
      rw [if_pos rfl, if_neg hpq]
      exact (h1 p (by omega)).1
    · rw [if_neg e]
      by_cases e2 : p = s
      · subst e2
        rw [if_pos rfl]
        exact (h1 q (by omega)).2
      · rw [if_neg e2]; exact h2 p q (by omega) (by omega) hpq
  · intro a ha ih c' hf hsz h1 h2
    have hm' : Row c' 69 mir := fun b hb => by rw [hf.1.i (by decide)]; exact hm b hb
    have hra := hrow a ha
    refine vX12_comes_10 (bLe (fun h => absurd h (by omega)) (fun _ => n_digit (by omega) ⟨obj l68, ?_⟩))
    rw [hra.1]
    refine n_lays hi hm' (by omega) (by omega) hra.2 ?_
    rw [nI_add]
    refine ih _ ((hf.m72 (by omega) (by omega)).m72 (by omega) (by omega)) (by rw [mI_n (by omega), mI_n (by omega)]; exact hsz) (fun p hp => ⟨?_, ?_⟩) (fun p q hp hq hpq => ?_)
    · by_cases e : p = a
      · subst e; rw [mI_n (by omega), mI_s]
      · rw [mI_n (by omega), mI_n (by omega)]; exact (h1 p (by omega)).1
    · by_cases e : p = a
      · subst e; rw [mI_s]
      · rw [mI_n (by omega), mI_n (by omega)]; exact (h1 p (by omega)).2
    · rw [mI_n (by omega), mI_n (by omega)]; exact h2 p q hp hq hpq
theorem n_isNet {x : Int32} {h : gk_H} {K : Int32 → gk_H → Prop} (k : K (bI (inR x 0 (3 : Nat))) h) : RnI E mX12_isNet (dd + 1, 0, 0) [.int x] h K := vX12_isNet_0 (n_isFrom (lo := 0) (hi := 2) (by decide) (by decide) ⟨bI_bz _, k⟩)
theorem n_isNode (hi : i < 6) (hN : MNet c i s lab) {x : Int32} {K : Int32 → gk_H → Prop} (k : K (bI (inR x 0 s)) (Hm c)) : RnI E mX12_isNode (dd + 1, 0, 0) [.ref 68, .int (nI i), .int x] (Hm c) K := by
  have h6 := hN.2.1
  refine vX12_isNode_0 (ldR l68 rfl (alI l71 hi (by decide) (m_isFrom ⟨bI_bz _, ?_⟩)))
  rw [hN.1, ti64, ti64, show (lN 0).toInt = 0 from rfl, pk_sub_toInt (by omega) (by decide)]
  have e : decide (0 ≤ x.toInt ∧ x.toInt ≤ (s : Int) - ((1 : Nat) : Int)) = inR x 0 s := by
    unfold inR
    congr 1
    apply propext
    omega
  rw [e]
  exact k
end MN
