/-! triangle -/
theorem wb_xorG (a b : Nat) : lN a ^^^ lN b = lN (a ^^^ b) := by
  apply Int64.toBitVec_inj.1
  show BitVec.ofNat 64 a ^^^ BitVec.ofNat 64 b = BitVec.ofNat 64 (a ^^^ b)
  apply BitVec.eq_of_getLsbD_eq
  intro i hi
  simp [hi]
def tri0 (n : Nat) (x y z q : Int32) : Option Int32 := if (inR x 0 n && inR y 0 n && inR z 0 n) = true then (if inR q 0 (2 : Nat) = true then (if x = 0 ∨ y = 0 ∨ z = 0 then some (-3) else none) else some (-2)) else some (-1)
theorem tri0_at {n : Nat} {x y z q : Int32} (h4 : n ≤ 4) (h : tri0 n x y z q = none) : (1 ≤ w x ∧ w x < n ∧ x = nI (w x)) ∧ (1 ≤ w y ∧ w y < n ∧ y = nI (w y)) ∧ (1 ≤ w z ∧ w z < n ∧ z = nI (w z)) ∧ w q < 2 ∧ q = nI (w q) := by
  unfold tri0 at h
  split at h
  · rename_i h1
    split at h
    · rename_i h2
      split at h
      · exact absurd h (by simp)
      · rename_i h3
        rw [Bool.and_eq_true, Bool.and_eq_true] at h1
        obtain ⟨x', hx, rfl⟩ := inR_nI (by omega) h1.1.1
        obtain ⟨y', hy, rfl⟩ := inR_nI (by omega) h1.1.2
        obtain ⟨z', hz, rfl⟩ := inR_nI (by omega) h1.2
        obtain ⟨q', hq, rfl⟩ := inR_nI (by decide) h2
        rw [w_nI (by omega), w_nI (by omega), w_nI (by omega), w_nI (by omega)]
        have ne : ∀ v, nI v ≠ 0 → 1 ≤ v := fun v hv => Nat.one_le_iff_ne_zero.mpr (fun e => hv (by rw [e]; rfl))
        exact ⟨⟨ne x' (fun e => h3 (Or.inl e)), hx, rfl⟩, ⟨ne y' (fun e => h3 (Or.inr (Or.inl e))), hy, rfl⟩, ⟨ne z' (fun e => h3 (Or.inr (Or.inr e))), hz, rfl⟩, hq, rfl⟩
    · exact absurd h (by simp)
  · exact absurd h (by simp)
section TR
variable {E : gk_E} {dd : Nat} {c : gm} {n N : Nat} {mir : Nat → Nat}
theorem mkN_or {a b z : Nat} (hN : N < 2 ^ 64) : N ||| trn mir a b z = mkN mir N a b z true ∨ ¬ trn mir a b z < 2 ^ 64 := by
  by_cases ht : trn mir a b z < 2 ^ 64
  · left
    apply Nat.eq_of_testBit_eq
    intro k
    by_cases hk : k < 64
    · rw [mkN_bit hk, Nat.testBit_or, trn_bit]
      cases inT mir a b z k 6 <;> simp
    · rw [mkN, bfn_bit, decide_eq_false hk, Bool.false_and]
      apply Nat.testBit_lt_two_pow
      exact Nat.lt_of_lt_of_le (or64 hN ht) (Nat.pow_le_pow_right (by decide) (by omega))
  · exact Or.inr ht
theorem mkN_an {a b z : Nat} (hN : N < 2 ^ 64) : N &&& (trn mir a b z ^^^ (2 ^ 64 - 1)) = mkN mir N a b z false := by
  apply Nat.eq_of_testBit_eq
  intro k
  rw [Nat.testBit_and, Nat.testBit_xor, Nat.testBit_two_pow_sub_one]
  by_cases hk : k < 64
  · rw [mkN_bit hk, trn_bit, decide_eq_true hk]
    cases inT mir a b z k 6 <;> simp
  · rw [mkN, bfn_bit, decide_eq_false hk, Bool.false_and, Nat.testBit_lt_two_pow (Nat.lt_of_lt_of_le hN (Nat.pow_le_pow_right (by decide) (by omega))), Bool.false_and]
theorem c_mark {t : Nat} (ht : isTab t) (hT : Tab c t n mir N) {a b z : Nat} (ha : a < 4) (hb : b < 4) (hz : z < 4) {is : Bool} {K : Int32 → gk_H → Prop} (k : ∀ c', Fr [t] c c' → Tab c' t n mir (mkN mir N a b z is) → K (nI (mkC mir N a b z is 6)) (Hm c')) : RnI E mX8_mark (dd + 2, 0, 0) [.ref t, .int (nI a), .int (nI b), .int (nI z), .int (bI is)] (Hm c) K := by
  have hm : ∀ a, a < 4 → mir a < 4 := fun a h => (hT.2.2.2.2.2 a h).2
  have hN := hT.2.2.2.2.1
  have htl := trn_lt hm ha hb hz
  have ho := (mkN_or (mir := mir) (a := a) (b := b) (z := z) hN).resolve_right (fun q => q htl)
  have hxl : ∀ is, N ^^^ mkN mir N a b z is < 2 ^ 64 := fun is => Nat.xor_lt_two_pow hN (bfn_lt _ 64)
  have tab : ∀ is, Tab (mL c t 2 (lN (mkN mir N a b z is))) t n mir (mkN mir N a b z is) := fun is => ⟨hT.1, hT.2.1, hT.2.2.1, mL_s, bfn_lt _ 64, hT.2.2.2.2.2⟩
  refine vX8_mark_0 ⟨obj ht.1, c_turns ht hT ha hb hz (ldL ht.1 rfl ?_)⟩
  rw [hT.2.2.2.1]
  refine bB0 (fun e => ldL ht.1 rfl (stL ht.1 rfl (ldL ht.1 rfl ?_))) (fun e => ldL ht.1 rfl (stL ht.1 rfl (ldL ht.1 rfl ?_)))
  · subst e
    rw [hT.2.2.2.1, show (-1 : Int64) = lN (2 ^ 64 - 1) from rfl, wb_xorG, wb_and hN (Nat.xor_lt_two_pow htl (by decide)), mkN_an hN, mL_s, wb_xorG]
    refine c_bitCountL (hxl false) ?_
    rw [← mkC_pop]
    exact k _ (Fr.rf.mL (by simp)) (tab false)
  · subst e
    rw [hT.2.2.2.1, wb_or hN htl, ho, mL_s, wb_xorG]
    refine c_bitCountL (hxl true) ?_
    rw [← mkC_pop]
    exact k _ (Fr.rf.mL (by simp)) (tab true)
theorem inR2 {q : Int32} (h0 : ¬ q = 0) (h1 : ¬ q = nI 1) : inR q 0 (2 : Nat) = false := by
  cases hq : inR q 0 (2 : Nat) with
  | false => rfl
  | true =>
    obtain ⟨j, h3, rfl⟩ := inR_nI (by decide) hq
    match j, h3 with
    | 0, _ => exact absurd rfl h0
    | 1, _ => exact absurd rfl h1
theorem c_triangle (hT : Tab c 2 n mir N) {x y z q : Int32} {K : Int32 → gk_H → Prop} (k1 : ∀ r, tri0 n x y z q = some r → K r (Hm c)) (k2 : tri0 n x y z q = none → ∀ c', Fr [2] c c' → Tab c' 2 n mir (mkN mir N (w x) (w y) (w z) (decide (w q = 1))) → K (nI (mkC mir N (w x) (w y) (w z) (decide (w q = 1)) 6)) (Hm c')) : RnI E mX11_triangle (dd + 3, 0, 0) [.ref 0, .int x, .int y, .int z, .int q] (Hm c) K := by
  have h4 := hT.2.2.1
  have bad : ∀ {j1 j2 j3 : Bool}, (j1 && j2 && j3) = false → inR x 0 n = j1 → inR y 0 n = j2 → inR z 0 n = j3 → K (-1) (Hm c) := fun e h1 h2 h3 => k1 (-1) (by unfold tri0; rw [h1, h2, h3, if_neg (by rw [e]; decide)])
  refine vX11_triangle_0 ⟨obj l0, c_isAtom hT (bB0 (fun h => bad (by simp) h rfl rfl) (fun h => ⟨obj l0, c_isAtom hT (bB0 (fun h' => bad (by simp) rfl h' rfl) (fun h' => ⟨obj l0, c_isAtom hT (bBn (fun h2 => ?_) (fun h2 => bad (by simp) rfl rfl h2))⟩))⟩))⟩
  have e0 : tri0 n x y z q = if inR q 0 (2 : Nat) = true then (if x = 0 ∨ y = 0 ∨ z = 0 then some (-3) else none) else some (-2) := by unfold tri0; rw [h, h', h2]; rfl
  have main : inR q 0 (2 : Nat) = true → ∀ A, (¬ z = 0 → A) → (x = 0 → K (-3) (Hm c)) ∧ (¬ x = 0 → (y = 0 → K (-3) (Hm c)) ∧ (¬ y = 0 → (¬ z = 0 → A) ∧ (z = 0 → K (-3) (Hm c)))) := by
    intro hq A hA
    rw [hq, if_pos rfl] at e0
    exact ⟨fun e => k1 (-3) (by rw [e0, if_pos (Or.inl e)]), fun _ => ⟨fun e => k1 (-3) (by rw [e0, if_pos (Or.inr (Or.inl e))]), fun _ => ⟨hA, fun e => k1 (-3) (by rw [e0, if_pos (Or.inr (Or.inr e))])⟩⟩⟩
  have go : inR q 0 (2 : Nat) = true → ¬ x = 0 → ¬ y = 0 → ¬ z = 0 → (¬ q = nI 1 → RnI E mX8_mark (dd + 2, 0, 0) [.ref 2, .int x, .int y, .int z, .int (nI 0)] (Hm c) K) ∧ (q = nI 1 → RnI E mX8_mark (dd + 2, 0, 0) [.ref 2, .int x, .int y, .int z, .int (nI 1)] (Hm c) K) := by
    intro hq hx hy hz
    rw [hq, if_pos rfl, if_neg (by rintro (e | e | e); exact hx e; exact hy e; exact hz e)] at e0
    have k2 := k2 e0
    obtain ⟨⟨a1, a2, a3⟩, ⟨b1, b2, b3⟩, ⟨d1, d2, d3⟩, q1, q2⟩ := tri0_at h4 e0
    rw [a3, b3, d3]
    refine ⟨fun e => ?_, fun e => ?_⟩
    · have : decide (w q = 1) = false := decide_eq_false (fun z => e (by rw [q2, z]))
      rw [this] at k2
      exact c_mark (is := false) isTab_2 hT (by omega) (by omega) (by omega) k2
    · have : decide (w q = 1) = true := decide_eq_true (by rw [e]; rfl)
      rw [this] at k2
      exact c_mark (is := true) isTab_2 hT (by omega) (by omega) (by omega) k2
  have mk : inR q 0 (2 : Nat) = true → (x = 0 → K (-3) (Hm c)) ∧ (¬ x = 0 → (y = 0 → K (-3) (Hm c)) ∧ (¬ y = 0 → (¬ z = 0 → LdR (Hm c) 0 10 0 fun v4 => LdR (Hm c) v4 7 0 fun v5 => (¬ q = nI 1 → (∃ fs, (Hm c)[v5]? = some (.inr (8, fs))) ∧ RnI E mX8_mark (dd + 2, 0, 0) [.ref v5, .int x, .int y, .int z, .int (nI 0)] (Hm c) (fun v6 h6 => K v6 h6)) ∧ (q = nI 1 → (∃ fs, (Hm c)[v5]? = some (.inr (8, fs))) ∧ RnI E mX8_mark (dd + 2, 0, 0) [.ref v5, .int x, .int y, .int z, .int (nI 1)] (Hm c) (fun v7 h7 => K v7 h7))) ∧ (z = 0 → K (-3) (Hm c)))) := by
    intro hq
    have e1 := e0
    rw [hq, if_pos rfl] at e1
    exact ⟨fun e => k1 (-3) (by rw [e1, if_pos (Or.inl e)]), fun hx => ⟨fun e => k1 (-3) (by rw [e1, if_pos (Or.inr (Or.inl e))]), fun hy => ⟨fun hz => ldR l0 rfl (ldR l1 rfl ⟨fun e => ⟨obj l2, (go hq hx hy hz).1 e⟩, fun e => ⟨obj l2, (go hq hx hy hz).2 e⟩⟩), fun e => k1 (-3) (by rw [e1, if_pos (Or.inr (Or.inr e))])⟩⟩⟩
  exact ⟨fun e => mk (by rw [e]; rfl), fun e => ⟨fun e2 => mk (by rw [e2]; rfl), fun e2 => k1 (-2) (by rw [e0, inR2 e e2]; rfl)⟩⟩
theorem n_turn (hm : Row c 69 mir) {a b z u : Nat} (ha : a < 4) (hb : b < 4) (hz : z < 4) (hu : u < 6) {K : Int32 → gk_H → Prop} (k : K (nI (tv mir a b z u)) (Hm c)) : RnI E mX12_turn (dd, 0, 0) [.ref 68, .int (nI a), .int (nI b), .int (nI z), .int (nI u)] (Hm c) K := by
  have ra := hm a ha
  have rb := hm b hb
  have rz := hm z hz
  have ne : ∀ i j, i < 6 → j < 6 → i ≠ j → nI i ≠ nI j := fun i j hi hj h e => h ((nI_eq (by omega) (by omega)).mp e)
  refine vX12_turn_0 ⟨⟨fun e => ?_, fun e => ldR l68 rfl (alI l69 ha (by decide) ?_), fun e => ldR l68 rfl (alI l69 hb (by decide) ?_), fun e => ldR l68 rfl (alI l69 hb (by decide) (ldR l68 rfl (alI l69 ha (by decide) (ldR l68 rfl (alI l69 hz (by decide) ?_))))), fun e => ldR l68 rfl (alI l69 hz (by decide) (ldR l68 rfl (alI l69 ha (by decide) ?_)))⟩, fun e => ldR l68 rfl (alI l69 hz (by decide) (ldR l68 rfl (alI l69 hb (by decide) ?_)))⟩
  · have : u = 0 := (nI_eq (by omega) (by omega)).mp e
    subst this
    rw [ixI]; exact k
  · have : u = 1 := (nI_eq (by omega) (by omega)).mp e
    subst this
    rw [ra.1, ixI]; exact k
  · have : u = 2 := (nI_eq (by omega) (by omega)).mp e
    subst this
    rw [rb.1, ixI]; exact k
  · have : u = 3 := (nI_eq (by omega) (by omega)).mp e
    subst this
    rw [ra.1, rb.1, rz.1, ixI]; exact k
  · have : u = 4 := (nI_eq (by omega) (by omega)).mp e
    subst this
    rw [ra.1, rz.1, ixI]; exact k
  · have : u = 5 := by
      rcases Nat.lt_or_ge u 5 with h | h
      · exact absurd rfl (e u h)
      · omega
    subst this
    rw [rb.1, rz.1, ixI]; exact k
end TR
