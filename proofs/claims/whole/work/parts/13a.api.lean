/-! the calls that read the table: both classes answer the same number -/
abbrev w (x : Int32) : Nat := x.toNatClampNeg
theorem inR_lo {x : Int32} {lo : Nat} {n : Int} (h : x < nI lo) (hl : lo < 2 ^ 31) : inR x lo n = false := by
  rw [Int32.lt_iff_toInt_lt, nI_toInt hl] at h
  exact decide_eq_false (by omega)
theorem inR_0 {x : Int32} {n : Int} (h : x < 0) : inR x 0 n = false := inR_lo (lo := 0) h (by decide)
theorem inR_hi {x : Int32} {n : Nat} {lo : Int} (h : nI n ≤ x) (hn : n < 2 ^ 31) : inR x lo n = false := by
  rw [Int32.le_iff_toInt_le, nI_toInt hn] at h
  exact decide_eq_false (by omega)
theorem inR_ok {x : Int32} {lo n : Nat} (h1 : ¬ x < nI lo) (h2 : ¬ nI n ≤ x) (hl : lo < 2 ^ 31) (hn : n < 2 ^ 31) : inR x lo n = true := by
  rw [Int32.lt_iff_toInt_lt, nI_toInt hl] at h1
  rw [Int32.le_iff_toInt_le, nI_toInt hn] at h2
  exact decide_eq_true (by omega)
theorem inR_1 {x : Int32} {n : Int} (h : x < nI 1) : inR x 1 n = false := inR_lo (lo := 1) h (by decide)
theorem inR_ok0 {x : Int32} {n : Nat} (h1 : ¬ x < 0) (h2 : ¬ nI n ≤ x) (hn : n < 2 ^ 31) : inR x 0 n = true := inR_ok (lo := 0) h1 h2 (by decide) hn
theorem inR_ok1 {x : Int32} {n : Nat} (h1 : ¬ x < nI 1) (h2 : ¬ nI n ≤ x) (hn : n < 2 ^ 31) : inR x 1 n = true := inR_ok (lo := 1) h1 h2 (by decide) hn
theorem w_nI {j : Nat} (h : j < 2 ^ 31) : w (nI j) = j := nI_clamp h
/-- a range check, then two ways -/
theorem rng {x : Int32} {n : Nat} {A B : Prop} (hn : n < 2 ^ 31) (f : inR x 0 n = false → A) (g : ∀ j, j < n → x = nI j → inR x 0 n = true → B) : (bI (inR x 0 n) = 0 → A) ∧ (¬ bI (inR x 0 n) = 0 → B) := bB0 f (fun h => by obtain ⟨j, h1, h2⟩ := inR_nI hn h; exact g j h1 h2 h)
theorem rngN {x : Int32} {n : Nat} {A B : Prop} (hn : n < 2 ^ 31) (g : ∀ j, j < n → x = nI j → inR x 0 n = true → B) (f : inR x 0 n = false → A) : (¬ bI (inR x 0 n) = 0 → B) ∧ (bI (inR x 0 n) = 0 → A) := (rng hn f g).symm
section AP
variable {E : gk_E} {dd : Nat} {c : gm} {n N : Nat} {mir : Nat → Nat}
theorem c_isAtom (hT : Tab c 2 n mir N) {x : Int32} {K : Int32 → gk_H → Prop} (k : K (bI (inR x 0 n)) (Hm c)) : RnI E mX11_isAtom (dd, 0, 0) [.ref 0, .int x] (Hm c) K := by
  have h4 := hT.2.2.1
  refine vX11_isAtom_0 ⟨fun h => ?_, fun h => ldR l0 rfl (ldR l1 rfl (ldI l2 rfl ?_))⟩
  · rw [inR_0 h] at k; exact k
  · rw [hT.1]
    refine ⟨fun h2 => ?_, fun h2 => ?_⟩
    · rw [inR_hi h2 (by omega)] at k; exact k
    · rw [inR_ok0 h h2 (by omega)] at k; exact k
theorem c_isAtomButZero (hT : Tab c 2 n mir N) {x : Int32} {K : Int32 → gk_H → Prop} (k : K (bI (inR x 1 n)) (Hm c)) : RnI E mX11_isAtomButZero (dd, 0, 0) [.ref 0, .int x] (Hm c) K := by
  have h4 := hT.2.2.1
  refine vX11_isAtomButZero_0 ⟨fun h => ?_, fun h => ldR l0 rfl (ldR l1 rfl (ldI l2 rfl ?_))⟩
  · rw [inR_1 h] at k; exact k
  · rw [hT.1]
    refine ⟨fun h2 => ?_, fun h2 => ?_⟩
    · rw [inR_hi h2 (by omega)] at k; exact k
    · rw [inR_ok1 h h2 (by omega)] at k; exact k
theorem c_isRelation (hT : Tab c 2 n mir N) {x : Int32} {K : Int32 → gk_H → Prop} (k : K (bI (inR x 0 (2 ^ n : Nat))) (Hm c)) : RnI E mX11_isRelation (dd + 1, 0, 0) [.ref 0, .int x] (Hm c) K := by
  have h4 := hT.2.2.1
  have hp := pow_16 h4
  refine vX11_isRelation_0 ⟨fun h => ?_, fun h => ldR l0 rfl (ldR l1 rfl ⟨obj l2, c_relations isTab_2 hT ⟨fun h2 => ?_, fun h2 => ?_⟩⟩)⟩
  · rw [inR_0 h] at k; exact k
  · rw [inR_hi h2 (by omega)] at k; exact k
  · rw [inR_ok0 h h2 (by omega)] at k; exact k
theorem c_isSide {x : Int32} {h : gk_H} {K : Int32 → gk_H → Prop} (k : K (bI (inR x 0 (2 : Nat))) h) : RnI E mX11_isSide (dd, 0, 0) [.int x] h K := by
  refine vX11_isSide_0 ⟨fun h => ?_, fun h => ⟨fun h2 => ?_, fun h2 => ?_⟩⟩
  · subst h; exact k
  · cases hq : inR x 0 (2 : Nat) with
    | false => rw [hq] at k; exact k
    | true =>
      obtain ⟨j, h3, rfl⟩ := inR_nI (by decide) hq
      match j, h3 with
      | 0, _ => exact absurd rfl h
      | 1, _ => exact absurd rfl h2
  · subst h2; exact k
theorem rg3 {x : Int32} {h : gk_H} {K : Int32 → gk_H → Prop} (k : K (bI (inR x 0 (3 : Nat))) h) : (x < 0 → K (nI 0) h) ∧ (¬ x < 0 → (nI 3 ≤ x → K (nI 0) h) ∧ (¬ nI 3 ≤ x → K (nI 1) h)) := by
  refine ⟨fun h => ?_, fun h => ⟨fun h2 => ?_, fun h2 => ?_⟩⟩
  · rw [inR_0 h] at k; exact k
  · rw [inR_hi h2 (by decide)] at k; exact k
  · rw [inR_ok0 h h2 (by decide)] at k; exact k
theorem c_isNet {x : Int32} {h : gk_H} {K : Int32 → gk_H → Prop} (k : K (bI (inR x 0 (3 : Nat))) h) : RnI E mX11_isNet (dd, 0, 0) [.int x] h K := vX11_isNet_0 (rg3 k)
theorem c_isList {x : Int32} {h : gk_H} {K : Int32 → gk_H → Prop} (k : K (bI (inR x 0 (3 : Nat))) h) : RnI E mX11_isList (dd, 0, 0) [.int x] h K := vX11_isList_0 (rg3 k)
/-- the reference's range check on an int -/
theorem n_isFrom {x : Int32} {lo hi : Nat} (hl : lo < 2 ^ 31) (hh : hi < 2 ^ 31) {h : gk_H} {K : Int32 → gk_H → Prop} (k : K (bI (inR x lo ((hi + 1 : Nat) : Int))) h) : RnI E mX12_isFrom (dd, 0, 0) [.long x.toInt64, .long (lN lo), .long (lN hi)] h K := by
  refine m_isFrom ?_
  rw [ti64, lN_toInt hl, lN_toInt hh]
  have e : decide ((lo : Int) ≤ x.toInt ∧ x.toInt ≤ (hi : Int)) = inR x lo ((hi + 1 : Nat) : Int) := by
    unfold inR
    congr 1
    apply propext
    omega
  rw [e]
  exact k
def sp_cv (n : Nat) (mir : Nat → Nat) (x : Int32) : Int32 := if inR x 0 (2 ^ n : Nat) = true then nI (mirB mir (w x) n) else -2
theorem c_converse (hT : Tab c 2 n mir N) {x : Int32} {K : Int32 → gk_H → Prop} (k : K (sp_cv n mir x) (Hm c)) : RnI E mX11_converse (dd + 2, 0, 0) [.ref 0, .int x] (Hm c) K := by
  have hp := pow_16 hT.2.2.1
  refine vX11_converse_0 ⟨obj l0, c_isRelation hT (rng (by omega) (fun h => ?_) (fun j hj hx h => ldR l0 rfl (ldR l1 rfl ⟨obj l2, ?_⟩)))⟩
  · rw [sp_cv, if_neg (by rw [h]; decide)] at k; exact k
  · subst hx
    rw [sp_cv, if_pos h, w_nI (by omega)] at k
    exact c_mirrored isTab_2 hT (by omega) k
theorem n_converse (hM : MT c n mir N) {x : Int32} {K : Int32 → gk_H → Prop} (k : K (sp_cv n mir x) (Hm c)) : RnI E mX12_converse (dd + 2, 0, 0) [.ref 68, .int x] (Hm c) K := by
  have hp := pow_16 hM.n4
  refine vX12_converse_0 ⟨obj l68, n_isRelation hM (rng (by omega) (fun h => ?_) (fun j hj hx h => ⟨obj l68, ?_⟩))⟩
  · rw [sp_cv, if_neg (by rw [h]; decide)] at k; exact k
  · subst hx
    rw [sp_cv, if_pos h, w_nI (by omega)] at k
    exact n_turned hM (by omega) k
def sp_in (n N : Nat) (x y z : Int32) : Int32 := if inR x 0 n = true ∧ inR y 0 n = true ∧ inR z 0 n = true then bI (N.testBit (ix (w x) (w y) (w z))) else -1
theorem c_isIn (hT : Tab c 2 n mir N) {x y z : Int32} {K : Int32 → gk_H → Prop} (k : K (sp_in n N x y z) (Hm c)) : RnI E mX11_isIn (dd + 1, 0, 0) [.ref 0, .int x, .int y, .int z] (Hm c) K := by
  have h4 := hT.2.2.1
  refine vX11_isIn_0 ⟨obj l0, c_isAtom hT (rng (by omega) (fun h => ?_) (fun j hj hx h => ⟨obj l0, c_isAtom hT (rng (by omega) (fun h' => ?_) (fun j' hj' hx' h' => ⟨obj l0, c_isAtom hT (rngN (by omega) (fun q hq hy hqq => ldR l0 rfl (ldR l1 rfl ⟨obj l2, ?_⟩)) (fun hq => ?_))⟩))⟩))⟩
  · rw [sp_in, if_neg (by rw [h]; simp)] at k; exact k
  · rw [sp_in, if_neg (by rw [h']; simp)] at k; exact k
  · subst hx hx' hy
    rw [sp_in, if_pos ⟨h, h', hqq⟩, w_nI (by omega), w_nI (by omega), w_nI (by omega)] at k
    exact c_has isTab_2 hT (by omega) (by omega) (by omega) (bB0 (fun e => by rw [e] at k; exact k) (fun e => by rw [e] at k; exact k))
  · rw [sp_in, if_neg (by rw [hq]; simp)] at k; exact k
theorem n_isIn (hM : MT c n mir N) {x y z : Int32} {K : Int32 → gk_H → Prop} (k : K (sp_in n N x y z) (Hm c)) : RnI E mX12_isIn (dd + 2, 0, 0) [.ref 68, .int x, .int y, .int z] (Hm c) K := by
  have h4 := hM.n4
  refine vX12_isIn_0 ⟨obj l68, n_isAtom hM (rng (by omega) (fun h => ?_) (fun j hj hx h => ⟨obj l68, n_isAtom hM (rng (by omega) (fun h' => ?_) (fun j' hj' hx' h' => ⟨obj l68, n_isAtom hM (rngN (by omega) (fun q hq hy hqq => ⟨obj l68, ?_⟩) (fun hq => ?_))⟩))⟩))⟩
  · rw [sp_in, if_neg (by rw [h]; simp)] at k; exact k
  · rw [sp_in, if_neg (by rw [h']; simp)] at k; exact k
  · subst hx hx' hy
    rw [sp_in, if_pos ⟨h, h', hqq⟩, w_nI (by omega), w_nI (by omega), w_nI (by omega)] at k
    exact n_is hM hj hj' hq (bB0 (fun e => by rw [e] at k; exact k) (fun e => by rw [e] at k; exact k))
  · rw [sp_in, if_neg (by rw [hq]; simp)] at k; exact k
def sp_cp (n N : Nat) (x y : Int32) : Int32 := if inR x 0 (2 ^ n : Nat) = true ∧ inR y 0 (2 ^ n : Nat) = true then nI (prd N n (w x) (w y)) else -2
theorem c_compose (hT : Tab c 2 n mir N) {x y : Int32} {K : Int32 → gk_H → Prop} (k : K (sp_cp n N x y) (Hm c)) : RnI E mX11_compose (dd + 2, 0, 0) [.ref 0, .int x, .int y] (Hm c) K := by
  have hp := pow_16 hT.2.2.1
  refine vX11_compose_0 ⟨obj l0, c_isRelation hT (rng (by omega) (fun h => ?_) (fun j hj hx h => ⟨obj l0, c_isRelation hT (rngN (by omega) (fun j' hj' hx' h' => ldR l0 rfl (ldR l1 rfl ⟨obj l2, ?_⟩)) (fun h' => ?_))⟩))⟩
  · rw [sp_cp, if_neg (by rw [h]; simp)] at k; exact k
  · subst hx hx'
    rw [sp_cp, if_pos ⟨h, h'⟩, w_nI (by omega), w_nI (by omega)] at k
    exact c_product isTab_2 hT (by omega) (by omega) k
  · rw [sp_cp, if_neg (by rw [h']; simp)] at k; exact k
theorem n_compose (hM : MT c n mir N) {x y : Int32} {K : Int32 → gk_H → Prop} (k : K (sp_cp n N x y) (Hm c)) : RnI E mX12_compose (dd + 2, 0, 0) [.ref 68, .int x, .int y] (Hm c) K := by
  have hp := pow_16 hM.n4
  refine vX12_compose_0 ⟨obj l68, n_isRelation hM (rng (by omega) (fun h => ?_) (fun j hj hx h => ⟨obj l68, n_isRelation hM (rng (by omega) (fun h' => ?_) (fun j' hj' hx' h' => ⟨obj l68, ?_⟩))⟩))⟩
  · rw [sp_cp, if_neg (by rw [h]; simp)] at k; exact k
  · rw [sp_cp, if_neg (by rw [h']; simp)] at k; exact k
  · subst hx hx'
    rw [sp_cp, if_pos ⟨h, h'⟩, w_nI (by omega), w_nI (by omega)] at k
    exact n_composed hM (by omega) (by omega) k
end AP
