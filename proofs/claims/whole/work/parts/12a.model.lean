/-! the reference: its table -/
/-- x is from lo up to hi, hi apart -/
def inR (x : Int32) (lo hi : Int) : Bool := decide (lo ≤ x.toInt ∧ x.toInt < hi)
theorem inR_nI {x : Int32} {n : Nat} (hn : n < 2 ^ 31) (h : inR x 0 n = true) : ∃ j, j < n ∧ x = nI j := by
  obtain ⟨h1, h2⟩ := of_decide_eq_true h
  exact vp_in_of (vp_in_iff.mpr ⟨h1, h2⟩) hn
theorem inR_of {j n : Nat} {lo : Int} (hj : j < 2 ^ 31) : inR (nI j) lo n = decide (lo ≤ (j : Int) ∧ j < n) := by
  unfold inR
  rw [nI_toInt hj]
  congr 1
  simp
/-- the reference's table: n atoms, converses, threes by place -/
def Mod (c : gm) (n : Nat) (mir : Nat → Nat) (B : Nat → Bool) : Prop := c.1 68 0 = nI n ∧ 1 ≤ n ∧ n ≤ 4 ∧ Row c 69 mir ∧ ∀ k, k < 64 → c.1 70 k = bI (B k)
theorem Mod.fr {c c' : gm} {n : Nat} {mir : Nat → Nat} {B : Nat → Bool} {l : List Nat} (h : Mod c n mir B) (hf : Fr l c c') (h1 : 68 ∉ l) (h2 : 69 ∉ l) (h3 : 70 ∉ l) : Mod c' n mir B :=
  ⟨by rw [hf.i h1]; exact h.1, h.2.1, h.2.2.1, fun a ha => by rw [hf.i h2]; exact h.2.2.2.1 a ha, fun k hk => by rw [hf.i h3]; exact h.2.2.2.2 k hk⟩
theorem ti64 (x : Int32) : x.toInt64.toInt = x.toInt := Int32.toInt_toInt64 x
section MD
variable {E : gk_E} {dd : Nat} {c : gm} {n : Nat} {mir : Nat → Nat} {B : Nat → Bool}
theorem m_isFrom {v lo hi : Int64} {h : gk_H} {K : Int32 → gk_H → Prop} (k : K (bI (decide (lo.toInt ≤ v.toInt ∧ v.toInt ≤ hi.toInt))) h) : RnI E mX12_isFrom (dd, 0, 0) [.long v, .long lo, .long hi] h K := by
  refine vX12_isFrom_0 ?_
  rw [lg_cmp_lt, lg_cmp_gt]
  refine ⟨fun h1 => ?_, fun h1 => ⟨fun h2 => ?_, fun h2 => ?_⟩⟩
  · rw [Int64.lt_iff_toInt_lt] at h1
    rw [decide_eq_false (by omega)] at k
    exact k
  · rw [Int64.lt_iff_toInt_lt] at h1 h2
    rw [decide_eq_false (by omega)] at k
    exact k
  · rw [Int64.lt_iff_toInt_lt] at h1 h2
    rw [decide_eq_true (by omega)] at k
    exact k
theorem nI_sub1 {n : Nat} (h : 1 ≤ n) : nI n - nI 1 = nI (n - 1) := pk_sub h
theorem m_isAtom (hM : Mod c n mir B) {x : Int32} {K : Int32 → gk_H → Prop} (k : K (bI (inR x 0 n)) (Hm c)) : RnI E mX12_isAtom (dd + 1, 0, 0) [.ref 68, .int x] (Hm c) K := by
  refine vX12_isAtom_0 (ldI l68 rfl (m_isFrom ⟨bI_bz _, ?_⟩))
  have h1 := hM.2.1
  have h4 := hM.2.2.1
  rw [hM.1, nI_sub1 h1, ti64, ti64, nI_toInt (by omega), show (lN 0).toInt = 0 from rfl]
  have e : decide (0 ≤ x.toInt ∧ x.toInt ≤ ((n - 1 : Nat) : Int)) = inR x 0 n := by
    unfold inR
    congr 1
    apply propext
    omega
  rw [e]
  exact k
theorem m_isOther (hM : Mod c n mir B) {x : Int32} {K : Int32 → gk_H → Prop} (k : K (bI (inR x 1 n)) (Hm c)) : RnI E mX12_isOther (dd + 1, 0, 0) [.ref 68, .int x] (Hm c) K := by
  refine vX12_isOther_0 (ldI l68 rfl (m_isFrom ⟨bI_bz _, ?_⟩))
  have h1 := hM.2.1
  have h4 := hM.2.2.1
  rw [hM.1, nI_sub1 h1, ti64, ti64, nI_toInt (by omega), show (lN 1).toInt = 1 from rfl]
  have e : decide (1 ≤ x.toInt ∧ x.toInt ≤ ((n - 1 : Nat) : Int)) = inR x 1 n := by
    unfold inR
    congr 1
    apply propext
    omega
  rw [e]
  exact k
theorem pow_1 (n : Nat) : 1 ≤ 2 ^ n := Nat.one_le_two_pow
theorem pow_16 {n : Nat} (h : n ≤ 4) : 2 ^ n ≤ 16 := (Nat.pow_le_pow_right (n := 2) (by decide) h : 2 ^ n ≤ 2 ^ 4)
theorem m_isRelation (hM : Mod c n mir B) {x : Int32} {K : Int32 → gk_H → Prop} (k : K (bI (inR x 0 (2 ^ n : Nat))) (Hm c)) : RnI E mX12_isRelation (dd + 1, 0, 0) [.ref 68, .int x] (Hm c) K := by
  refine vX12_isRelation_0 (ldI l68 rfl (m_isFrom ⟨bI_bz _, ?_⟩))
  have h4 := hM.2.2.1
  have hp := pow_16 h4
  have hp1 := pow_1 n
  rw [hM.1, sh1 (by omega), nI_sub1 hp1, ti64, ti64, nI_toInt (by omega), show (lN 0).toInt = 0 from rfl]
  have e : decide (0 ≤ x.toInt ∧ x.toInt ≤ ((2 ^ n - 1 : Nat) : Int)) = inR x 0 (2 ^ n : Nat) := by
    unfold inR
    congr 1
    apply propext
    omega
  rw [e]
  exact k
theorem m_has {x a : Nat} (hx : x < 2 ^ 31) (ha : a < 31) {h : gk_H} {K : Int32 → gk_H → Prop} (k : K (bI (x.testBit a)) h) : RnI E mX12_has (dd, 0, 0) [.int (nI x), .int (nI a)] h K :=
  vX12_has_0 (bBit (fun q => by rw [q] at k; exact k) (fun q => by rw [q] at k; exact k) hx ha)
theorem m_is (hM : Mod c n mir B) {x y z : Nat} (hx : x < 4) (hy : y < 4) (hz : z < 4) {K : Int32 → gk_H → Prop} (k : K (bI (B (ix x y z))) (Hm c)) : RnI E mX12_is (dd, 0, 0) [.ref 68, .int (nI x), .int (nI y), .int (nI z)] (Hm c) K := by
  refine vX12_is_0 (ldR l68 rfl ?_)
  rw [ixI]
  refine alZ l70 (ix_lt hx hy hz) (by decide) ?_
  rw [hM.2.2.2.2 _ (ix_lt hx hy hz)]
  exact ⟨bI_bz _, k⟩
theorem nor0 (x : Nat) : nI x ||| nI 0 = nI x := by rw [fa_or, Nat.or_zero]
theorem m_turned (hM : Mod c n mir B) {x : Nat} (hx : x < 2 ^ 31) {K : Int32 → gk_H → Prop} (k : K (nI (mirB mir x n)) (Hm c)) : RnI E mX12_turned (dd + 1, 0, 0) [.ref 68, .int (nI x)] (Hm c) K := by
  have h4 := hM.2.2.1
  refine vX12_turned_0 ?_
  refine down0 (P := fun a => pX12_turned_4 E dd 68 (nI x) (nI (mirB mir x a)) (nI a) (Hm c) K) n ?_ ?_
  · refine vX12_turned_4 (ldI l68 rfl ?_)
    rw [hM.1]
    exact bLe (fun _ => k) (fun h => absurd h (by omega))
  · intro a ha ih
    refine vX12_turned_4 (ldI l68 rfl ?_)
    rw [hM.1]
    refine bLe (fun h => absurd h (by omega)) (fun _ => m_has hx (by omega) (bB0 (fun h => ?_) (fun h => ldR l68 rfl (alI l69 (by omega) (by decide) ?_))))
    · rw [mirB, if_neg (by rw [h]; decide)] at ih
      rw [nI_add, nor0]
      exact ih
    · have hm := hM.2.2.2.1 a (by omega)
      rw [mirB, if_pos h] at ih
      rw [hm.1, sh1 (by omega), fa_or, nI_add]
      exact ih
/-- composed, as the reference goes through it -/
def cmpZ (B : Nat → Bool) (x y a b r : Nat) : Nat → Nat
  | 0 => r
  | z + 1 => if x.testBit a = true ∧ y.testBit b = true ∧ B (ix a b z) = true then cmpZ B x y a b r z ||| 2 ^ z else cmpZ B x y a b r z
def cmpB (B : Nat → Bool) (n x y a r : Nat) : Nat → Nat
  | 0 => r
  | b + 1 => cmpZ B x y a b (cmpB B n x y a r b) n
def cmpA (B : Nat → Bool) (n x y : Nat) : Nat → Nat
  | 0 => 0
  | a + 1 => cmpB B n x y a (cmpA B n x y a) n
def cmp (B : Nat → Bool) (n x y : Nat) : Nat := cmpA B n x y n
theorem m_composed (hM : Mod c n mir B) {x y : Nat} (hx : x < 2 ^ 31) (hy : y < 2 ^ 31) {K : Int32 → gk_H → Prop} (k : K (nI (cmp B n x y)) (Hm c)) : RnI E mX12_composed (dd + 1, 0, 0) [.ref 68, .int (nI x), .int (nI y)] (Hm c) K := by
  have h4 := hM.2.2.1
  refine vX12_composed_0 ?_
  refine down0 (P := fun a => pX12_composed_5 E dd 68 (nI x) (nI y) (nI (cmpA B n x y a)) (nI a) (Hm c) K) n ?_ ?_
  · refine vX12_composed_5 (ldI l68 rfl ?_)
    rw [hM.1]
    exact bLe (fun _ => k) (fun h => absurd h (by omega))
  · intro a ha ih
    refine vX12_composed_5 (ldI l68 rfl ?_)
    rw [hM.1]
    refine bLe (fun h => absurd h (by omega)) (fun _ => ?_)
    refine down0 (P := fun b => pX12_composed_17 E dd 68 (nI x) (nI y) (nI (cmpB B n x y a (cmpA B n x y a) b)) (nI a) (nI b) (Hm c) K) n ?_ ?_
    · refine vX12_composed_17 (ldI l68 rfl ?_)
      simp only [hM.1, nI_add]
      exact bLe (fun _ => ih) (fun h => absurd h (by omega))
    · intro b hb ih2
      refine vX12_composed_17 (ldI l68 rfl ?_)
      simp only [hM.1, nI_add]
      refine bLe (fun h => absurd h (by omega)) (fun _ => ?_)
      refine down0 (P := fun z => pX12_composed_29 E dd 68 (nI x) (nI y) (nI (cmpZ B x y a b (cmpB B n x y a (cmpA B n x y a) b) z)) (nI a) (nI b) (nI z) (Hm c) K) n ?_ ?_
      · refine vX12_composed_29 (ldI l68 rfl ?_)
        simp only [hM.1, nI_add]
        exact bLe (fun _ => ih2) (fun h => absurd h (by omega))
      · intro z hz ih3
        refine vX12_composed_29 (ldI l68 rfl ?_)
        simp only [hM.1, nI_add, nor0]
        rw [sh1 (by omega), fa_or]
        refine bLe (fun h => absurd h (by omega)) (fun _ => m_has hx (by omega) (bB0 (fun h => ?_) (fun h => m_has hy (by omega) (bB0 (fun h2 => ?_) (fun h2 => ⟨obj l68, m_is hM (by omega) (by omega) (by omega) (bB0 (fun h3 => ?_) (fun h3 => ?_))⟩)))))
        · rw [cmpZ, if_neg (by rw [h]; simp)] at ih3; exact ih3
        · rw [cmpZ, if_neg (by rw [h2]; simp)] at ih3; exact ih3
        · rw [cmpZ, if_neg (by rw [h3]; simp)] at ih3; exact ih3
        · rw [cmpZ, if_pos ⟨h, h2, h3⟩] at ih3; exact ih3
def cmpS (B : Nat → Bool) (n x y side : Nat) : Nat := if side = 0 then cmp B n x y else cmp B n y x
theorem m_composedBy (hM : Mod c n mir B) {x y side : Nat} (hx : x < 2 ^ 31) (hy : y < 2 ^ 31) (hs : side < 2 ^ 31) {K : Int32 → gk_H → Prop} (k : K (nI (cmpS B n x y side)) (Hm c)) : RnI E mX12_composedBy (dd + 2, 0, 0) [.ref 68, .int (nI x), .int (nI y), .int (nI side)] (Hm c) K := by
  refine vX12_composedBy_0 (bN0 (fun h => ⟨obj l68, m_composed hM hy hx ?_⟩) (fun h => ⟨obj l68, m_composed hM hx hy ?_⟩) hs)
  · rw [cmpS, if_neg h] at k; exact k
  · rw [cmpS, if_pos h] at k; exact k
end MD
