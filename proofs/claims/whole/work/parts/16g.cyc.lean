/-! cycles -/
def at3 (n m : Nat) : Bool := decide (1 ≤ m / 16 ∧ m / 16 < n ∧ 1 ≤ m / 4 % 4 ∧ m / 4 % 4 < n ∧ 1 ≤ m % 4 ∧ m % 4 < n)
def mx (a b : Nat) : Nat := if a < b then b else a
def cyo (mir : Nat → Nat) (a b z : Nat) : Nat := pop (trn mir a b z) 64
def cyst (mir : Nat → Nat) (N n m : Nat) (s : Nat × Nat × Nat) : Nat × Nat × Nat := if (at3 n m && lsB mir (m / 16) (m / 4 % 4) (m % 4)) = true then (if N.testBit m = true then (s.1 + 1, s.2.1 + 1, mx s.2.2 (cyo mir (m / 16) (m / 4 % 4) (m % 4))) else (s.1, s.2.1 + 1, s.2.2)) else s
def cy3 (mir : Nat → Nat) (N n : Nat) : Nat → Nat × Nat × Nat
  | 0 => (0, 0, 0)
  | m + 1 => cyst mir N n m (cy3 mir N n m)
theorem cy3_skip {mir : Nat → Nat} {N n m m' : Nat} (hm : m ≤ m') (h : ∀ k, m ≤ k → k < m' → at3 n k = false) : cy3 mir N n m = cy3 mir N n m' := by
  induction hd : m' - m generalizing m with
  | zero => rw [show m = m' by omega]
  | succ d ih =>
    rw [← ih (m := m + 1) (by omega) (fun k h1 h2 => h k (by omega) h2) (by omega), cy3, cyst, h m (Nat.le_refl _) (by omega)]
    rfl
theorem cyo_le (mir : Nat → Nat) (a b z : Nat) : cyo mir a b z ≤ 64 := by
  have := cs_le (f := fun i => b1 ((trn mir a b z).testBit i)) (m := 1) (fun i => b1_le _) 64
  unfold cyo pop
  omega
theorem cy3_le {mir : Nat → Nat} {N n : Nat} : ∀ m, (cy3 mir N n m).1 ≤ m ∧ (cy3 mir N n m).2.1 ≤ m ∧ (cy3 mir N n m).2.2 ≤ 64
  | 0 => ⟨Nat.le_refl _, Nat.le_refl _, Nat.zero_le _⟩
  | m + 1 => by
    obtain ⟨h1, h2, h3⟩ := cy3_le (mir := mir) (N := N) (n := n) m
    have hc := cyo_le mir (m / 16) (m / 4 % 4) (m % 4)
    rw [cy3, cyst]
    split
    · split
      · refine ⟨by simp only []; omega, by simp only []; omega, ?_⟩
        show mx _ _ ≤ 64
        unfold mx
        split <;> omega
      · refine ⟨by simp only []; omega, by simp only []; omega, h3⟩
    · exact ⟨by omega, by omega, h3⟩
theorem dg {a b z : Nat} (hb : b < 4) (hz : z < 4) : ix a b z / 16 = a ∧ ix a b z / 4 % 4 = b ∧ ix a b z % 4 = z := by
  unfold ix
  refine ⟨by omega, by omega, by omega⟩
theorem at3_ix {n a b z : Nat} (hb : b < 4) (hz : z < 4) : at3 n (ix a b z) = decide (1 ≤ a ∧ a < n ∧ 1 ≤ b ∧ b < n ∧ 1 ≤ z ∧ z < n) := by
  obtain ⟨h1, h2, h3⟩ := dg (a := a) hb hz
  unfold at3
  rw [h1, h2, h3]
/-- at the three a b z -/
theorem cy3_at {mir : Nat → Nat} {N n a b z : Nat} (ha1 : 1 ≤ a) (ha : a < n) (hb1 : 1 ≤ b) (hb : b < n) (hz1 : 1 ≤ z) (hz : z < n) (h4 : n ≤ 4) : cy3 mir N n (ix a b z + 1) = if lsB mir a b z = true then (if N.testBit (ix a b z) = true then ((cy3 mir N n (ix a b z)).1 + 1, (cy3 mir N n (ix a b z)).2.1 + 1, mx (cy3 mir N n (ix a b z)).2.2 (cyo mir a b z)) else ((cy3 mir N n (ix a b z)).1, (cy3 mir N n (ix a b z)).2.1 + 1, (cy3 mir N n (ix a b z)).2.2)) else cy3 mir N n (ix a b z) := by
  obtain ⟨h1, h2, h3⟩ := dg (a := a) (b := b) (z := z) (by omega) (by omega)
  rw [cy3, cyst, at3_ix (by omega) (by omega), decide_eq_true ⟨ha1, ha, hb1, hb, hz1, hz⟩, Bool.true_and, h1, h2, h3]
theorem at3_no {n m a b z : Nat} (hb : b < 4) (hz : z < 4) (hm : m = ix a b z) (h : ¬ (1 ≤ a ∧ a < n ∧ 1 ≤ b ∧ b < n ∧ 1 ≤ z ∧ z < n)) : at3 n m = false := by
  rw [hm, at3_ix hb hz]
  exact decide_eq_false h
theorem nI_mx {g p : Nat} (hg : g ≤ 64) (hp : p ≤ 64) : (if nI g < nI p then nI p else nI g) = nI (mx g p) := by
  unfold mx
  by_cases h : g < p
  · rw [if_pos ((nI_ltI (by omega) (by omega)).mpr h), if_pos h]
  · rw [if_neg (fun q => h ((nI_ltI (by omega) (by omega)).mp q)), if_neg h]
def sp_cc (mir : Nat → Nat) (N n : Nat) (q : Int32) : Int32 := if inR q 0 (4 : Nat) = true then (if w q = 0 then nI (cy3 mir N n 64).1 else if w q = 1 then nI (cy3 mir N n 64).2.1 else if w q = 2 then nI (pop N 64) else nI (cy3 mir N n 64).2.2) else -1
section CY
variable {E : gk_E} {dd : Nat} {c : gm} {n N : Nat} {mir : Nat → Nat}
theorem at3_r {n k : Nat} (h : ¬ (1 ≤ k / 16 ∧ k / 16 < n ∧ 1 ≤ k / 4 % 4 ∧ k / 4 % 4 < n ∧ 1 ≤ k % 4 ∧ k % 4 < n)) : at3 n k = false := decide_eq_false h
theorem sk1 (h4 : n ≤ 4) {a b : Nat} (hb : b < 4) : cy3 mir N n (ix a b n) = cy3 mir N n (ix a (b + 1) 1) := by
  refine cy3_skip (by unfold ix; omega) (fun k h1 h2 => at3_r ?_)
  unfold ix at h1 h2
  omega
theorem sk2 (h4 : n ≤ 4) {a : Nat} : cy3 mir N n (ix a n 1) = cy3 mir N n (ix (a + 1) 1 1) := by
  by_cases e : n = 4
  · subst e
    refine cy3_skip (by unfold ix; omega) (fun k h1 h2 => at3_r ?_)
    unfold ix at h1 h2
    omega
  · refine cy3_skip (by unfold ix; omega) (fun k h1 h2 => at3_r ?_)
    unfold ix at h1 h2
    omega
theorem sk0 : cy3 mir N n (ix 1 1 1) = (0, 0, 0) := by
  have : cy3 mir N n 0 = cy3 mir N n (ix 1 1 1) := by
    refine cy3_skip (Nat.zero_le _) (fun k h1 h2 => at3_r ?_)
    unfold ix at h2
    omega
  rw [← this]; rfl
theorem sk9 (h4 : n ≤ 4) : cy3 mir N n (ix n 1 1) = cy3 mir N n 64 := by
  by_cases e : n = 4
  · subst e
    exact (cy3_skip (by unfold ix; omega) (fun k h1 h2 => at3_r (by omega))).symm
  · refine cy3_skip (by unfold ix; omega) (fun k h1 h2 => at3_r ?_)
    unfold ix at h1
    omega
theorem c_cycleFacts {t : Nat} (ht : isTab t) (hT : Tab c t n mir N) {q : Nat} (hq : q < 2 ^ 31) {K : Int32 → gk_H → Prop} (k : K (if q = 0 then nI (cy3 mir N n 64).1 else if q = 1 then nI (cy3 mir N n 64).2.1 else nI (cy3 mir N n 64).2.2) (Hm c)) : RnI E mX8_cycleFacts (dd + 3, 0, 0) [.ref t, .int (nI q)] (Hm c) K := by
  have h1 := hT.2.1
  have h4 := hT.2.2.1
  refine vX8_cycleFacts_0 ?_
  have main : pX8_cycleFacts_10 E (dd + 2) t (nI q) (nI (cy3 mir N n (ix 1 1 1)).1) (nI (cy3 mir N n (ix 1 1 1)).2.1) (nI (cy3 mir N n (ix 1 1 1)).2.2) (nI 1) (Hm c) K := by
    refine downF (P := fun a => pX8_cycleFacts_10 E (dd + 2) t (nI q) (nI (cy3 mir N n (ix a 1 1)).1) (nI (cy3 mir N n (ix a 1 1)).2.1) (nI (cy3 mir N n (ix a 1 1)).2.2) (nI a) (Hm c) K) 1 n h1 ?_ ?_
    · refine vX8_cycleFacts_10 (ldI ht.1 rfl ?_)
      rw [hT.1, sk9 h4]
      refine bLe (fun _ => bN0 (fun e => bNe (fun e2 => ?_) (fun e2 => ?_)) (fun e => ?_)) (fun h => absurd h (by omega))
      · rw [if_neg e, if_neg e2] at k; exact k
      · rw [if_neg e, if_pos e2] at k; exact k
      · rw [if_pos e] at k; exact k
    · intro a ha1 ha ih
      refine vX8_cycleFacts_10 (ldI ht.1 rfl ?_)
      rw [hT.1]
      refine bLe (fun h => absurd h (by omega)) (fun _ => ?_)
      refine downF (P := fun b => pX8_cycleFacts_22 E (dd + 2) t (nI q) (nI (cy3 mir N n (ix a b 1)).1) (nI (cy3 mir N n (ix a b 1)).2.1) (nI (cy3 mir N n (ix a b 1)).2.2) (nI a) (nI b) (Hm c) K) 1 n h1 ?_ ?_
      · refine vX8_cycleFacts_22 (ldI ht.1 rfl ?_)
        rw [hT.1, sk2 h4, nI_add]
        exact bLe (fun _ => ih) (fun h => absurd h (by omega))
      · intro b hb1 hb ih2
        refine vX8_cycleFacts_22 (ldI ht.1 rfl ?_)
        rw [hT.1]
        refine bLe (fun h => absurd h (by omega)) (fun _ => ?_)
        refine downF (P := fun z => pX8_cycleFacts_34 E (dd + 2) t (nI q) (nI (cy3 mir N n (ix a b z)).1) (nI (cy3 mir N n (ix a b z)).2.1) (nI (cy3 mir N n (ix a b z)).2.2) (nI a) (nI b) (nI z) (Hm c) K) 1 n h1 ?_ ?_
        · refine vX8_cycleFacts_34 (ldI ht.1 rfl ?_)
          rw [hT.1, sk1 h4 (by omega), nI_add]
          exact bLe (fun _ => ih2) (fun h => absurd h (by omega))
        · intro z hz1 hz ih3
          have hle := cy3_le (mir := mir) (N := N) (n := n) (ix a b z)
          rw [show ix a b (z + 1) = ix a b z + 1 from rfl, cy3_at ha1 ha hb1 hb hz1 hz h4] at ih3
          refine vX8_cycleFacts_34 (ldI ht.1 rfl ?_)
          rw [hT.1]
          simp only [nI_add]
          refine bLe (fun h => absurd h (by omega)) (fun _ => ⟨obj ht.1, c_isLeastTurn ht hT (by omega) (by omega) (by omega) (bB0 (fun e => ?_) (fun e => ⟨obj ht.1, c_has ht hT (by omega) (by omega) (by omega) (bB0 (fun e2 => ?_) (fun e2 => ⟨obj ht.1, c_turns ht hT (by omega) (by omega) (by omega) (c_bitCountL (trn_lt (fun a h => (hT.2.2.2.2.2 a h).2) (by omega) (by omega) (by omega)) ?_)⟩))⟩))⟩)
          · rw [if_neg (by rw [e]; decide)] at ih3; exact ih3
          · rw [if_pos e, if_neg (by rw [e2]; decide)] at ih3; exact ih3
          · rw [if_pos e, if_pos e2] at ih3
            have hcl := cyo_le mir a b z
            show pX8_cycleFacts_34 E (dd + 2) t (nI q) _ _ (if nI (cy3 mir N n (ix a b z)).2.2 < nI (cyo mir a b z) then nI (cyo mir a b z) else nI (cy3 mir N n (ix a b z)).2.2) _ _ _ _ _
            rw [nI_mx hle.2.2 hcl]
            exact ih3
  rw [sk0] at main
  exact main
theorem c_cycles (hT : Tab c 2 n mir N) {q : Int32} {K : Int32 → gk_H → Prop} (k : K (sp_cc mir N n q) (Hm c)) : RnI E mX11_cycles (dd + 4, 0, 0) [.ref 0, .int q] (Hm c) K := by
  refine vX11_cycles_0 (r4 (fun j hj hx h => ?_) (fun h => ?_))
  · subst hx
    rw [sp_cc, if_pos h, w_nI (by omega)] at k
    refine bNe (fun e => ldR l0 rfl (ldR l1 rfl ⟨obj l2, ?_⟩)) (fun e => ldR l0 rfl (ldR l1 rfl (ldL l2 rfl ?_)))
    · rw [if_neg e] at k
      exact c_cycleFacts isTab_2 hT (by omega) k
    · subst e
      rw [hT.2.2.2.1]
      exact c_bitCountL hT.2.2.2.2.1 k
  · rw [sp_cc, if_neg (by rw [h]; decide)] at k; exact k
theorem bLe0 {a : Nat} {A B : Prop} (f : a = 0 → A) (g : a ≠ 0 → B) (ha : a < 2 ^ 31 := by omega) : (nI a ≤ 0 → A) ∧ (¬ nI a ≤ 0 → B) := by
  rw [← nI_0]
  exact bLe (fun h => f (by omega)) (fun h => g (by omega)) ha (by decide)
theorem mkC0 {a b z : Nat} {is : Bool} {N : Nat} : mkC mir N a b z is 0 = 0 := by
  unfold mkC mkD
  rw [cs_cg (g := fun _ => 0) (fun k hk => ?_), cs_z]
  show b1 ((if inT mir a b z k 0 = true then is else N.testBit k) != N.testBit k) = 0
  have : inT mir a b z k 0 = false := rfl
  rw [this]
  simp [b1]
theorem mkC_cyo {a b z : Nat} (h : trn mir a b z < 2 ^ 64) : mkC mir 0 a b z true 6 = cyo mir a b z := by
  rw [mkC_pop, cyo, Nat.zero_xor]
  congr 1
  have := (mkN_or (mir := mir) (N := 0) (a := a) (b := b) (z := z) (by decide)).resolve_right (fun q => q h)
  rw [Nat.zero_or] at this
  exact this.symm
theorem n_cycleOf (hr : Row c 69 mir) {a b z : Nat} (ha : a < 4) (hb : b < 4) (hz : z < 4) {K : Int32 → gk_H → Prop} (k : K (nI (cyo mir a b z)) (Hm c)) : RnI E mX12_cycleOf (dd + 1, 0, 0) [.ref 68, .int (nI a), .int (nI b), .int (nI z)] (Hm c) K := by
  have hm : ∀ a, a < 4 → mir a < 4 := fun a h => (hr a h).2
  have tl : ∀ u, u < 6 → tv mir a b z u < 64 := by
    intro u hu
    match u, hu with
    | 0, _ => exact ix_lt ha hb hz
    | 1, _ => exact ix_lt (hm a ha) hz hb
    | 2, _ => exact ix_lt hz (hm b hb) ha
    | 3, _ => exact ix_lt (hm b hb) (hm a ha) (hm z hz)
    | 4, _ => exact ix_lt hb (hm z hz) (hm a ha)
    | 5, _ => exact ix_lt (hm z hz) ha (hm b hb)
  rw [← mkC_cyo (trn_lt hm ha hb hz)] at k
  refine vX12_cycleOf_0 ?_
  have main : pX12_cycleOf_6 E dd 68 (nI a) (nI b) (nI z) (nI (mkC mir 0 a b z true 0)) (nI 0) (Hm c) K := by
    refine down0 (P := fun u => pX12_cycleOf_6 E dd 68 (nI a) (nI b) (nI z) (nI (mkC mir 0 a b z true u)) (nI u) (Hm c) K) 6 ?_ ?_
    · exact vX12_cycleOf_6 (bLe (fun _ => k) (fun h => absurd h (by omega)))
    · intro u hu ih
      refine vX12_cycleOf_6 (bLe (fun h => absurd h (by omega)) (fun _ => ?_))
      rw [mkC_sc (tl u hu)] at ih
      have l1 := tl u hu
      refine down0 (P := fun v => pX12_cycleOf_19 E dd 68 (nI a) (nI b) (nI z) (nI (mkC mir 0 a b z true u)) (nI u) (bI (!inT mir a b z (tv mir a b z u) v)) (nI v) (Hm c) K) u ?_ ?_
      · refine vX12_cycleOf_19 (bLe (fun _ => bB0 (fun e => ?_) (fun e => ?_)) (fun h => absurd h (by omega)))
        · have e' : inT mir a b z (tv mir a b z u) u = true := by simpa using e
          rw [e'] at ih
          rw [nI_add, nI_add]; exact ih
        · have e' : inT mir a b z (tv mir a b z u) u = false := by simpa using e
          rw [e'] at ih
          rw [nI_add, nI_add]
          simpa [b1] using ih
      · intro v hv ih2
        rw [inT_sc] at ih2
        have l2 := tl v (by omega)
        refine vX12_cycleOf_19 (bLe (fun h => absurd h (by omega)) (fun _ => bB0 (fun e => ?_) (fun e => ⟨obj l68, n_turn hr ha hb hz (by omega) ⟨obj l68, n_turn hr ha hb hz hu (bEq (fun e2 => ?_) (fun e2 => ?_))⟩⟩)))
        · have e' : inT mir a b z (tv mir a b z u) v = true := by simpa using e
          rw [e', Bool.true_or] at ih2
          rw [nI_add]; exact ih2
        · rw [e2] at ih2
          simp only [beq_self_eq_true, Bool.or_true] at ih2
          rw [nI_add]; exact ih2
        · have e' : inT mir a b z (tv mir a b z u) v = false := by simpa using e
          have e3 : (tv mir a b z v == tv mir a b z u) = false := by simpa using e2
          rw [e', e3] at ih2
          rw [nI_add]; exact ih2
  rw [mkC0] at main
  exact main
theorem pop_skip {m m' : Nat} (hm : m ≤ m') (h : ∀ k, m ≤ k → k < m' → N.testBit k = false) : pop N m = pop N m' := by
  induction hd : m' - m generalizing m with
  | zero => rw [show m = m' by omega]
  | succ d ih =>
    rw [← ih (m := m + 1) (by omega) (fun k h1 h2 => h k (by omega) h2) (by omega)]
    show pop N m = pop N m + b1 (N.testBit m)
    rw [h m (Nat.le_refl _) (by omega)]
    rfl
theorem pop_le (N m : Nat) : pop N m ≤ m := by
  have := cs_le (f := fun i => b1 (N.testBit i)) (m := 1) (fun i => b1_le _) m
  unfold pop
  omega
theorem bit_out (hG : Gd n mir N) {k : Nat} (hk : k < 64) (h : ¬ (k / 16 < n ∧ k / 4 % 4 < n ∧ k % 4 < n)) : N.testBit k = false := by
  cases hq : N.testBit k with
  | false => rfl
  | true =>
    have e : k = ix (k / 16) (k / 4 % 4) (k % 4) := by unfold ix; omega
    rw [e] at hq
    exact absurd (hG.in_ _ _ _ (by omega) (by omega) (by omega) hq) h
theorem cy3_z {m : Nat} (h : at3 n m = false) : cy3 mir N n (m + 1) = cy3 mir N n m := by
  rw [cy3, cyst, h]; rfl
theorem n_cycles (hG : Gd n mir N) (hM : MT c n mir N) {q : Int32} {K : Int32 → gk_H → Prop} (k : K (sp_cc mir N n q) (Hm c)) : RnI E mX12_cycles (dd + 2, 0, 0) [.ref 68, .int q] (Hm c) K := by
  have h1 := hM.n1
  have h4 := hM.n4
  refine vX12_cycles_0 (n_isFrom (lo := 0) (hi := 3) (by decide) (by decide) (rngN (by decide) (fun j hj hx h => ?_) (fun h => ?_)))
  · subst hx
    have h' : inR (nI j) 0 (4 : Nat) = true := h
    rw [sp_cc, if_pos h', w_nI (by omega)] at k
    have hple := pop_le N
    refine down0 (P := fun a => pX12_cycles_27 E (dd + 1) 68 (nI j) (nI (cy3 mir N n (ix a 0 0)).1) (nI (cy3 mir N n (ix a 0 0)).2.1) (nI (cy3 mir N n (ix a 0 0)).2.2) (nI (pop N (ix a 0 0))) (nI a) (Hm c) K) n ?_ ?_
    · refine vX12_cycles_27 (ldI l68 rfl ?_)
      have e1 : cy3 mir N n (ix n 0 0) = cy3 mir N n 64 := cy3_skip (by unfold ix; omega) (fun k h1 h2 => at3_r (by unfold ix at h1; omega))
      have e2 : pop N (ix n 0 0) = pop N 64 := pop_skip (by unfold ix; omega) (fun k h1 h2 => bit_out hG h2 (by unfold ix at h1; omega))
      rw [hM.hn, e1, e2]
      refine bLe (fun _ => bN0 (fun e => bNe (fun e2 => bNe (fun e3 => ?_) (fun e3 => ?_)) (fun e2 => ?_)) (fun e => ?_)) (fun h => absurd h (by omega))
      · rw [if_neg e, if_neg e2, if_neg e3] at k; exact k
      · rw [if_neg e, if_neg e2, if_pos e3] at k; exact k
      · rw [if_neg e, if_pos e2] at k; exact k
      · rw [if_pos e] at k; exact k
    · intro a ha ih
      refine vX12_cycles_27 (ldI l68 rfl ?_)
      rw [hM.hn]
      refine bLe (fun h => absurd h (by omega)) (fun _ => ?_)
      refine down0 (P := fun b => pX12_cycles_39 E (dd + 1) 68 (nI j) (nI (cy3 mir N n (ix a b 0)).1) (nI (cy3 mir N n (ix a b 0)).2.1) (nI (cy3 mir N n (ix a b 0)).2.2) (nI (pop N (ix a b 0))) (nI a) (nI b) (Hm c) K) n ?_ ?_
      · refine vX12_cycles_39 (ldI l68 rfl ?_)
        have e1 : cy3 mir N n (ix a n 0) = cy3 mir N n (ix (a + 1) 0 0) := cy3_skip (by unfold ix; omega) (fun k h1 h2 => at3_r (by unfold ix at h1 h2; omega))
        have e2 : pop N (ix a n 0) = pop N (ix (a + 1) 0 0) := pop_skip (by unfold ix; omega) (fun k h1 h2 => bit_out hG (by unfold ix at h2; omega) (by unfold ix at h1 h2; omega))
        rw [hM.hn, e1, e2, nI_add]
        exact bLe (fun _ => ih) (fun h => absurd h (by omega))
      · intro b hb ih2
        refine vX12_cycles_39 (ldI l68 rfl ?_)
        rw [hM.hn]
        refine bLe (fun h => absurd h (by omega)) (fun _ => ?_)
        refine down0 (P := fun z => pX12_cycles_51 E (dd + 1) 68 (nI j) (nI (cy3 mir N n (ix a b z)).1) (nI (cy3 mir N n (ix a b z)).2.1) (nI (cy3 mir N n (ix a b z)).2.2) (nI (pop N (ix a b z))) (nI a) (nI b) (nI z) (Hm c) K) n ?_ ?_
        · refine vX12_cycles_51 (ldI l68 rfl ?_)
          have e1 : cy3 mir N n (ix a b n) = cy3 mir N n (ix a (b + 1) 0) := cy3_skip (by unfold ix; omega) (fun k h1 h2 => at3_r (by unfold ix at h1 h2; omega))
          have e2 : pop N (ix a b n) = pop N (ix a (b + 1) 0) := pop_skip (by unfold ix; omega) (fun k h1 h2 => bit_out hG (by unfold ix at h2; omega) (by unfold ix at h1 h2; omega))
          rw [hM.hn, e1, e2, nI_add]
          exact bLe (fun _ => ih2) (fun h => absurd h (by omega))
        · intro z hz ih3
          have hle := cy3_le (mir := mir) (N := N) (n := n) (ix a b z)
          have hcl := cyo_le mir a b z
          rw [show ix a b (z + 1) = ix a b z + 1 from rfl] at ih3
          have ep : pop N (ix a b z + 1) = pop N (ix a b z) + b1 (N.testBit (ix a b z)) := rfl
          rw [ep] at ih3
          have zero : ¬ (1 ≤ a ∧ 1 ≤ b ∧ 1 ≤ z) → pX12_cycles_51 E (dd + 1) 68 (nI j) (nI (cy3 mir N n (ix a b z)).1) (nI (cy3 mir N n (ix a b z)).2.1) (nI (cy3 mir N n (ix a b z)).2.2) (nI (pop N (ix a b z) + b1 (N.testBit (ix a b z)))) (nI a) (nI b) (nI (z + 1)) (Hm c) K := fun hh => by
            rw [cy3_z (at3_no (by omega) (by omega) rfl (by omega))] at ih3
            exact ih3
          have at_ : 1 ≤ a → 1 ≤ b → 1 ≤ z → _ := fun q1 q2 q3 => cy3_at (mir := mir) (N := N) q1 ha q2 hb q3 hz h4
          refine vX12_cycles_51 (ldI l68 rfl ?_)
          rw [hM.hn]
          simp only [nI_add, Nat.add_zero]
          have hrow := hM.row
          refine bLe (fun h => absurd h (by omega)) (fun _ => ⟨obj l68, n_is hM ha hb hz ?_⟩)
          cases hbit : N.testBit (ix a b z) with
          | false =>
            rw [hbit] at ih3 zero
            refine bB0 (fun _ => bLe0 (fun e => zero (by omega)) (fun ea => bLe0 (fun e => zero (by omega)) (fun eb => bLe0 (fun e => zero (by omega)) (fun ez => ⟨obj l68, n_isLeast hrow (by omega) (by omega) (by omega) (bB0 (fun el => ?_) (fun el => ⟨obj l68, n_is hM ha hb hz ?_⟩))⟩)))) (fun e => absurd e (by decide))
            · rw [at_ (by omega) (by omega) (by omega), if_neg (by rw [el]; decide)] at ih3
              exact ih3
            · rw [hbit]
              refine bB0 (fun _ => ⟨obj l68, n_is hM ha hb hz ?_⟩) (fun e => absurd e (by decide))
              rw [hbit]
              refine bB0 (fun _ => ?_) (fun e => absurd e (by decide))
              rw [at_ (by omega) (by omega) (by omega), if_pos el, if_neg (by rw [hbit]; decide)] at ih3
              exact ih3
          | true =>
            rw [hbit] at ih3 zero
            refine bB0 (fun e => absurd e (by decide)) (fun _ => bLe0 (fun e => zero (by omega)) (fun ea => bLe0 (fun e => zero (by omega)) (fun eb => bLe0 (fun e => zero (by omega)) (fun ez => ⟨obj l68, n_isLeast hrow (by omega) (by omega) (by omega) (bB0 (fun el => ?_) (fun el => ⟨obj l68, n_is hM ha hb hz ?_⟩))⟩))))
            · rw [at_ (by omega) (by omega) (by omega), if_neg (by rw [el]; decide)] at ih3
              exact ih3
            · rw [hbit]
              refine bB0 (fun e => absurd e (by decide)) (fun _ => ⟨obj l68, n_is hM ha hb hz ?_⟩)
              rw [hbit]
              refine bB0 (fun e => absurd e (by decide)) (fun _ => ⟨obj l68, n_cycleOf hrow (by omega) (by omega) (by omega) ?_⟩)
              rw [at_ (by omega) (by omega) (by omega), if_pos el, if_pos hbit] at ih3
              rw [nI_mx hle.2.2 hcl]
              exact ih3
  · rw [sp_cc, if_neg (by rw [show inR q 0 (4 : Nat) = false from h]; decide)] at k; exact k
end CY
