/-! triangle of the reference; least turns -/
section TR
variable {E : gk_E} {dd : Nat} {c : gm} {n N : Nat} {mir : Nat → Nat}
theorem tv_lt (h : Mr n mir) {a b z : Nat} (ha1 : 1 ≤ a) (ha : a < n) (hb1 : 1 ≤ b) (hb : b < n) (hz1 : 1 ≤ z) (hz : z < n) (u : Nat) : tv mir a b z u < 64 := by
  have h4 := h.2.1
  have at3 := tt_at h ha1 ha hb1 hb hz1 hz u
  exact ix_lt (by have := at3.1.2; omega) (by have := at3.2.1.2; omega) (by have := at3.2.2.2; omega)
theorem n_triangle (hG : Gd n mir N) (hM : MT c n mir N) {x y z q : Int32} {K : Int32 → gk_H → Prop} (k1 : ∀ r, tri0 n x y z q = some r → K r (Hm c)) (k2 : tri0 n x y z q = none → ∀ c', Fr [70] c c' → MT c' n mir (mkN mir N (w x) (w y) (w z) (decide (w q = 1))) → K (nI (mkC mir N (w x) (w y) (w z) (decide (w q = 1)) 6)) (Hm c')) : RnI E mX12_triangle (dd + 2, 0, 0) [.ref 68, .int x, .int y, .int z, .int q] (Hm c) K := by
  have h4 := hM.n4
  have bad : ∀ {j1 j2 j3 : Bool}, (j1 && j2 && j3) = false → inR x 0 n = j1 → inR y 0 n = j2 → inR z 0 n = j3 → K (-1) (Hm c) := fun e h1 h2 h3 => k1 (-1) (by unfold tri0; rw [h1, h2, h3, if_neg (by rw [e]; decide)])
  refine vX12_triangle_0 ⟨obj l68, n_isAtom hM (bB0 (fun h => bad (by simp) h rfl rfl) (fun h => ⟨obj l68, n_isAtom hM (bB0 (fun h' => bad (by simp) rfl h' rfl) (fun h' => ⟨obj l68, n_isAtom hM (bBn (fun h2 => n_isFrom (lo := 0) (hi := 1) (by decide) (by decide) ?_) (fun h2 => bad (by simp) rfl rfl h2))⟩))⟩))⟩
  have e0 : tri0 n x y z q = if inR q 0 (2 : Nat) = true then (if x = 0 ∨ y = 0 ∨ z = 0 then some (-3) else none) else some (-2) := by unfold tri0; rw [h, h', h2]; rfl
  refine bBn (fun hq => ?_) (fun hq => k1 (-2) (by rw [e0]; exact if_neg (by rw [show inR q 0 (2 : Nat) = false from hq]; decide)))
  have hq' : inR q 0 (2 : Nat) = true := hq
  rw [hq', if_pos rfl] at e0
  refine ⟨fun e => k1 (-3) (by rw [e0, if_pos (Or.inl e)]), fun hx => ⟨fun e => k1 (-3) (by rw [e0, if_pos (Or.inr (Or.inl e))]), fun hy => ⟨fun hz => ?_, fun e => k1 (-3) (by rw [e0, if_pos (Or.inr (Or.inr e))])⟩⟩⟩
  rw [if_neg (by rintro (e | e | e); exact hx e; exact hy e; exact hz e)] at e0
  replace k2 := k2 e0
  obtain ⟨⟨a1, a2, a3⟩, ⟨b1', b2, b3⟩, ⟨d1, d2, d3⟩, q1, q2⟩ := tri0_at h4 e0
  clear bad k1 h h' h2 e0 hq hq' hx hy hz
  generalize w x = a at *
  generalize w y = b at *
  generalize w z = d at *
  subst a3 b3 d3
  obtain ⟨B, hB, hA⟩ := hM
  have hr : Row c 69 mir := hB.2.2.2.1
  have hmr := hG.mr
  have tl : ∀ u, tv mir a b d u < 64 := tv_lt hmr a1 a2 b1' b2 d1 d2
  have tB : ∀ u, B (tv mir a b d u) = N.testBit (tv mir a b d u) := fun u => by
    have at3 := tt_at hmr a1 a2 b1' b2 d1 d2 u
    exact (hA.1 _ _ _ at3.1.2 at3.2.1.2 at3.2.2.2).symm
  have core : ∀ is : Bool, q = bI is → (∀ c', Fr [70] c c' → MT c' n mir (mkN mir N a b d is) → K (nI (mkC mir N a b d is 6)) (Hm c')) → pX12_triangle_61 E (dd + 1) 68 (nI a) (nI b) (nI d) q (nI 0) (nI 0) (Hm c) K := by
    intro is hqi k2
    have hc0 : mkC mir N a b d is 0 = 0 := by
      unfold mkC mkD
      rw [cs_cg (g := fun _ => 0) (fun k hk => ?_), cs_z]
      show b1 ((if inT mir a b d k 0 = true then is else N.testBit k) != N.testBit k) = 0
      have : inT mir a b d k 0 = false := rfl
      rw [this]
      simp [b1]
    have hcl : ∀ u, mkC mir N a b d is u ≤ u := by
      intro u
      induction u with
      | zero => rw [hc0]; omega
      | succ u ih =>
        rw [mkC_sc (tl u)]
        have := b1_le ((if inT mir a b d (tv mir a b d u) u = true then is else N.testBit (tv mir a b d u)) != is)
        omega
    rw [hqi]
    have h00 : pX12_triangle_61 E (dd + 1) 68 (nI a) (nI b) (nI d) (bI is) (nI (mkC mir N a b d is 0)) (nI 0) (Hm c) K := by
      refine down (P := fun u => ∀ c', Fr [70] c c' → (∀ k, k < 64 → c'.1 70 k = bI (if inT mir a b d k u then is else B k)) → pX12_triangle_61 E (dd + 1) 68 (nI a) (nI b) (nI d) (bI is) (nI (mkC mir N a b d is u)) (nI u) (Hm c') K) 6 ?_ ?_ 0 (Nat.zero_le _) c Fr.rf (fun k hk => hB.2.2.2.2 k hk)
      · intro c' hf hb
        refine vX12_triangle_61 (bLe (fun _ => k2 c' hf ⟨fun k => if inT mir a b d k 6 then is else B k, ⟨by rw [hf.i (by decide)]; exact hB.1, hB.2.1, h4, fun a ha => by rw [hf.i (by decide)]; exact hr a ha, hb⟩, fun a' b' z' h1 h2 h3 => ?_, (Gd_mk hG a1 a2 b1' b2 d1 d2).in_⟩) (fun h => absurd h (by omega)))
        rw [mkN_bit (ix_lt (by omega) (by omega) (by omega)), hA.1 a' b' z' h1 h2 h3]
      · intro u hu ih c' hf hb
        have hr' : Row c' 69 mir := fun a ha => by rw [hf.i (by decide)]; exact hr a ha
        have hB' := hb (tv mir a b d u) (tl u)
        rw [tB u] at hB'
        have nxt : Fr [70] c (mI c' 70 (tv mir a b d u) (bI is)) ∧ ∀ k, k < 64 → (mI c' 70 (tv mir a b d u) (bI is)).1 70 k = bI (if inT mir a b d k (u + 1) then is else B k) := by
          refine ⟨hf.mI (by simp), fun k hk => ?_⟩
          rw [inT_sc]
          by_cases e : tv mir a b d u = k
          · subst e; rw [mI_s]; simp
          · rw [mI_n (fun z => e z.2.symm), hb k hk]
            have : (tv mir a b d u == k) = false := by simpa using e
            rw [this, Bool.or_false]
        have go : ∀ h, h = nI (mkC mir N a b d is (u + 1)) → AsZ (Hm c') 70 (nI (tv mir a b d u)) (bI is) fun h5 => pX12_triangle_61 E (dd + 1) 68 (nI a) (nI b) (nI d) (bI is) h (nI u + nI 1) h5 K := by
          intro h hh
          rw [hh, nI_add]
          refine asZ l70 (tl u) (by decide) ?_
          rw [narZ]
          exact ih _ nxt.1 nxt.2
        have stp := mkC_sc (N := N) (is := is) (tl u)
        refine vX12_triangle_61 (bLe (fun h => absurd h (by omega)) (fun _ => ⟨obj l68, n_turn hr' (by omega) (by omega) (by omega) hu (ldR l68 rfl (alZ l70 (tl u) (by decide) ?_))⟩))
        rw [hB']
        generalize (if inT mir a b d (tv mir a b d u) u then is else N.testBit (tv mir a b d u)) = v at *
        cases is
        · refine ⟨fun _ => ?_, fun e => absurd e (by decide)⟩
          cases v
          · exact ⟨fun e => absurd rfl e, fun _ => ldR l68 rfl ⟨fun _ => go _ (by rw [stp, nI_add]; rfl), fun e => absurd e (by decide)⟩⟩
          · exact ⟨fun _ => ldR l68 rfl ⟨fun _ => go _ (by rw [stp, nI_add]; rfl), fun e => absurd e (by decide)⟩, fun e => absurd e (by decide)⟩
        · refine ⟨fun e => absurd rfl e, fun _ => ?_⟩
          cases v
          · exact ⟨fun _ => ldR l68 rfl ⟨fun e => absurd rfl e, fun _ => go _ (by rw [stp, nI_add]; rfl)⟩, fun e => absurd e (by decide)⟩
          · exact ⟨fun e => absurd rfl e, fun _ => ldR l68 rfl ⟨fun e => absurd rfl e, fun _ => go _ (by rw [stp, nI_add]; rfl)⟩⟩
    rw [hc0] at h00
    exact h00
  rcases (show w q = 0 ∨ w q = 1 by omega) with e | e
  · rw [e, decide_eq_false (by decide)] at k2
    exact core false (by rw [q2, e]; rfl) k2
  · rw [e, decide_eq_true rfl] at k2
    exact core true (by rw [q2, e]; rfl) k2
/-- a three is the least of its turns -/
def lsB (mir : Nat → Nat) (a b z : Nat) : Bool := (List.range 6).all (fun u => decide (tv mir a b z 0 ≤ tv mir a b z u))
theorem neg_lN {T : Nat} (h0 : 0 < T) (h : T < 2 ^ 64) : -(lN T) = lN (2 ^ 64 - T) := by
  apply Int64.toBitVec_inj.1
  show -(BitVec.ofNat 64 T) = BitVec.ofNat 64 (2 ^ 64 - T)
  apply BitVec.eq_of_toNat_eq
  rw [BitVec.toNat_neg, BitVec.toNat_ofNat, BitVec.toNat_ofNat, Nat.mod_eq_of_lt h]
theorem low_and {T l : Nat} (h : T < 2 ^ 64) (hl : T.testBit l = true) (hm : ∀ i, i < l → T.testBit i = false) : T &&& (2 ^ 64 - T) = 2 ^ l := by
  have hT0 : 0 < T := Nat.pos_of_ne_zero (fun e => by rw [e] at hl; simp at hl)
  have hmod : T % 2 ^ l = 0 := by
    apply Nat.eq_of_testBit_eq
    intro i
    rw [Nat.testBit_mod_two_pow, Nat.zero_testBit]
    by_cases hi : i < l
    · rw [hm i hi, Bool.and_false]
    · rw [decide_eq_false hi, Bool.false_and]
  have hodd : T / 2 ^ l % 2 = 1 := by
    rw [tb_mod] at hl
    exact of_decide_eq_true hl
  obtain ⟨m, hm2⟩ : ∃ m, T / 2 ^ l = 2 * m + 1 := ⟨T / 2 ^ l / 2, by omega⟩
  have hTe : T = 2 ^ l * (2 * m + 1) := by
    rw [← hm2]
    have := Nat.div_add_mod T (2 ^ l)
    omega
  have hp : 0 < 2 ^ l := Nat.two_pow_pos l
  have hT1 : T - 1 = 2 ^ (l + 1) * m + (2 ^ l - 1) := by
    rw [hTe, Nat.pow_succ, Nat.mul_add, ← Nat.mul_assoc, Nat.mul_one]
    have : 2 ^ l * 2 * m + 2 ^ l - 1 = 2 ^ l * 2 * m + (2 ^ l - 1) := by omega
    exact this
  have hTT : T = 2 ^ (l + 1) * m + 2 ^ l := by rw [hTe, Nat.pow_succ, Nat.mul_add, ← Nat.mul_assoc, Nat.mul_one]
  have hp2 : 2 ^ l < 2 ^ (l + 1) := Nat.pow_lt_pow_right (by decide) (by omega)
  apply Nat.eq_of_testBit_eq
  intro i
  rw [Nat.testBit_and, show 2 ^ 64 - T = 2 ^ 64 - ((T - 1) + 1) by omega, Nat.testBit_two_pow_sub_succ (by omega), Nat.testBit_two_pow]
  have b1' : (T - 1).testBit i = if i < l + 1 then (2 ^ l - 1).testBit i else m.testBit (i - (l + 1)) := by rw [hT1, Nat.testBit_two_pow_mul_add _ (by omega)]
  have b2' : T.testBit i = if i < l + 1 then (2 ^ l).testBit i else m.testBit (i - (l + 1)) := by
    have := Nat.testBit_two_pow_mul_add m hp2 i
    rw [← hTT] at this
    exact this
  by_cases h1 : i < l + 1
  · rw [if_pos h1] at b1' b2'
    rw [b1', b2', Nat.testBit_two_pow, Nat.testBit_two_pow_sub_one]
    have hl64 : l < 64 := by
      rcases Nat.lt_or_ge l 64 with q | q
      · exact q
      · have := Nat.testBit_lt_two_pow (Nat.lt_of_lt_of_le h (Nat.pow_le_pow_right (by decide) q))
        rw [this] at hl
        exact absurd hl (by decide)
    by_cases h2 : l = i
    · simp [h2, show i < 64 by omega]
    · simp [h2]
  · rw [if_neg h1] at b1' b2'
    rw [b1', b2']
    have : ¬ l = i := by omega
    simp [this]
    exact fun q _ => q
theorem lsB_iff {a b z : Nat} : lsB mir a b z = true ↔ ∀ u, u < 6 → tv mir a b z 0 ≤ tv mir a b z u := by
  unfold lsB
  rw [List.all_eq_true]
  exact ⟨fun h u hu => of_decide_eq_true (h u (List.mem_range.mpr hu)), fun h u hu => decide_eq_true (h u (List.mem_range.mp hu))⟩
theorem c_isLeastTurn {t : Nat} (ht : isTab t) (hT : Tab c t n mir N) {a b z : Nat} (ha : a < 4) (hb : b < 4) (hz : z < 4) {K : Int32 → gk_H → Prop} (k : K (bI (lsB mir a b z)) (Hm c)) : RnI E mX8_isLeastTurn (dd + 2, 0, 0) [.ref t, .int (nI a), .int (nI b), .int (nI z)] (Hm c) K := by
  have hm : ∀ a, a < 4 → mir a < 4 := fun a h => (hT.2.2.2.2.2 a h).2
  have htl := trn_lt hm ha hb hz
  have h00 : (trn mir a b z).testBit (tv mir a b z 0) = true := by rw [trn_bit, inT_iff]; exact ⟨0, by decide, rfl⟩
  have hT0 : 0 < trn mir a b z := Nat.pos_of_ne_zero (fun e => by rw [e] at h00; simp at h00)
  have hixl : tv mir a b z 0 < 64 := ix_lt ha hb hz
  refine vX8_isLeastTurn_0 ⟨obj ht.1, c_turns ht hT ha hb hz (c_bit (ix_lt ha hb hz) ?_)⟩
  obtain ⟨l, hl1, hl2⟩ := pk_least (fun i => (trn mir a b z).testBit i = true) ⟨_, h00⟩
  have hlow : ∀ i, i < l → (trn mir a b z).testBit i = false := fun i hi => by
    cases hq : (trn mir a b z).testBit i with
    | false => rfl
    | true => exact absurd hq (hl2 i hi)
  have hl0 : l ≤ tv mir a b z 0 := Nat.le_of_not_lt (fun q => hl2 _ q h00)
  rw [neg_lN hT0 htl, wb_and htl (by omega), low_and htl hl1 hlow, lg_cmp_eq]
  have eqv : lN (2 ^ l) = lN (2 ^ ix a b z) ↔ lsB mir a b z = true := by
    rw [lsB_iff]
    constructor
    · intro e u hu
      have e1 : (lN (2 ^ l)).toBitVec.toNat = (lN (2 ^ ix a b z)).toBitVec.toNat := by rw [e]
      rw [wb_tn (two_lt (by omega)), wb_tn (two_lt (ix_lt ha hb hz))] at e1
      have e2 : l = ix a b z := (Nat.pow_right_inj (by decide)).mp e1
      have e3 : tv mir a b z 0 = l := e2.symm
      rw [e3]
      refine Nat.le_of_not_lt (fun q => hl2 _ q ?_)
      rw [trn_bit, inT_iff]
      exact ⟨u, hu, rfl⟩
    · intro e
      rw [trn_bit, inT_iff] at hl1
      obtain ⟨u, hu, hu2⟩ := hl1
      have := e u hu
      have e3 : tv mir a b z 0 = ix a b z := rfl
      rw [show l = ix a b z by omega]
  refine ⟨fun e => ?_, fun e => ?_⟩
  · have : lsB mir a b z = false := by
      cases hq : lsB mir a b z with
      | false => rfl
      | true => exact absurd (eqv.mpr hq) e
    rw [this] at k; exact k
  · rw [eqv.mp e] at k; exact k
theorem n_isLeast (hr : Row c 69 mir) {a b z : Nat} (ha : a < 4) (hb : b < 4) (hz : z < 4) {K : Int32 → gk_H → Prop} (k : K (bI (lsB mir a b z)) (Hm c)) : RnI E mX12_isLeast (dd + 1, 0, 0) [.ref 68, .int (nI a), .int (nI b), .int (nI z)] (Hm c) K := by
  have hm : ∀ a, a < 4 → mir a < 4 := fun a h => (hr a h).2
  have tl : ∀ u, u < 6 → tv mir a b z u < 64 := by
    intro u hu
    match u, hu with
    | 0, _ => exact ix_lt ha hb hz
    | 1, _ => exact ix_lt (hm a ha) hz hb
    | 2, _ => exact ix_lt hz (hm b hb) ha
    | 3, _ => exact ix_lt (hm b hb) (hm a ha) (hm z hz)
    | 4, _ => exact ix_lt hb (hm z hz) (hm a ha)
    | 5, _ => exact ix_lt (hm z hz) ha (hm b hb)
  refine vX12_isLeast_0 ?_
  have h0 : ((List.range 1).all (fun u => decide (tv mir a b z 0 ≤ tv mir a b z u))) = true := by simp
  have main : pX12_isLeast_6 E dd 68 (nI a) (nI b) (nI z) (bI ((List.range 1).all (fun u => decide (tv mir a b z 0 ≤ tv mir a b z u)))) (nI 1) (Hm c) K := by
    refine downF (P := fun u => pX12_isLeast_6 E dd 68 (nI a) (nI b) (nI z) (bI ((List.range u).all (fun u => decide (tv mir a b z 0 ≤ tv mir a b z u)))) (nI u) (Hm c) K) 1 6 (by decide) ?_ ?_
    · exact vX12_isLeast_6 (bLe (fun _ => ⟨bI_bz _, k⟩) (fun h => absurd h (by omega)))
    · intro u h1 hu ih
      have l1 := tl u hu
      have l2 := tl 0 (by decide)
      rw [List.range_succ, List.all_append] at ih
      refine vX12_isLeast_6 (bLe (fun h => absurd h (by omega)) (fun _ => bB0 (fun e => ?_) (fun e => ⟨obj l68, n_turn hr ha hb hz hu ⟨obj l68, n_turn hr ha hb hz (by decide) (bLt (fun e2 => ?_) (fun e2 => ?_))⟩⟩)))
      · rw [e, Bool.false_and] at ih
        rw [nI_add]; exact ih
      · rw [e, Bool.true_and, List.all_cons, List.all_nil, Bool.and_true, decide_eq_false (by omega)] at ih
        rw [nI_add]; exact ih
      · rw [e, Bool.true_and, List.all_cons, List.all_nil, Bool.and_true, decide_eq_true (by omega)] at ih
        rw [nI_add]; exact ih
  rw [h0] at main
  exact main
end TR
