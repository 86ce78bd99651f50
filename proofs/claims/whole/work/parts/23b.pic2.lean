/-! pictures: had, made -/
def PiC (c : gm) (P : Nat) (st : Nat → Nat) : Prop := c.1 56 5 = nI P ∧ ∀ d, d < P → c.1 60 d = nI (st d)
def PiM (c : gm) (P : Nat) (st : Nat → Nat) : Prop := c.1 68 13 = nI P ∧ ∀ d, d < P → c.1 74 d = nI (st d)
def DuC (c : gm) (N n : Nat) : Prop := ∀ z, z < n → c.1 61 z = nI (pinA N n z n)
section PC
variable {E : gk_E} {dd : Nat} {c : gm} {P n N : Nat} {mir st : Nat → Nat}
theorem hadB_f (hn : n ≤ 4) (hs : ∀ d, d < P → st d < n) : hadB st P < 2 ^ 31 := Nat.lt_of_lt_of_le (hadB_lt P hs) (Nat.pow_le_pow_right (by decide) (by omega))
theorem c_isFull (hT : Tab c 2 n mir N) (hP : PiC c P st) (h13 : P ≤ 13) (hs : ∀ d, d < P → st d < n) {K : Int32 → gk_H → Prop} (k : K (bI (decide (hadB st P = 2 ^ n - 1))) (Hm c)) : RnI E mX5_isFull (dd + 1, 0, 0) [.ref 56] (Hm c) K := by
  have n4 := hT.2.2.1
  have hb := hadB_f n4 hs
  have h16 : 1 ≤ 2 ^ n ∧ 2 ^ n ≤ 16 := ⟨Nat.two_pow_pos n, Nat.le_trans (Nat.pow_le_pow_right (by decide) n4) (by decide)⟩
  refine vX5_isFull_0 ?_
  refine down (P := fun d => pX5_isFull_4 E dd 56 (nI (hadB st d)) (nI d) (Hm c) K) P ?_ ?_ 0 (Nat.zero_le _)
  · refine vX5_isFull_4 (ldI l56 rfl ?_)
    rw [hP.1]
    refine bLe (fun _ => ldR l56 rfl ⟨obj l2, c_relations ⟨l2, l3⟩ hT ?_⟩) (fun z => absurd z (by omega))
    rw [nI_sub1 h16.1]
    exact bNe (fun e => by rw [decide_eq_false e] at k; exact k) (fun e => by rw [decide_eq_true e] at k; exact k) hb (by omega)
  · intro d hd ih
    refine vX5_isFull_4 (ldI l56 rfl ?_)
    rw [hP.1]
    refine bLe (fun z => absurd z (by omega)) (fun _ => ldR l56 rfl (alI l60 (by omega) (by decide) ?_))
    have := hs d hd
    rw [hP.2 d hd, sh1 (by omega), fa_or, nI_add]
    exact ih
theorem c_readDue (hT : Tab c 2 n mir N) {K : gk_H → Prop} (k : ∀ c', Fr [61] c c' → DuC c' N n → K (Hm c')) : RnV E mX5_readDue (dd + 2, 0, 0) [.ref 56] (Hm c) K := by
  have n4 := hT.2.2.1
  refine vX5_readDue_0 ?_
  refine down (P := fun z => ∀ c', Fr [61] c c' → (∀ q, q < z → c'.1 61 q = nI (pinA N n q n)) → pX5_readDue_2 E (dd + 1) 56 (nI z) (Hm c') K) n ?_ ?_ 0 (Nat.zero_le _) c Fr.rf (fun q hq => absurd hq (by omega))
  · intro c' hf h
    refine vX5_readDue_2 (ldR l56 rfl (ldI l2 rfl ?_))
    rw [hf.i (by decide), hT.1]
    exact bLe (fun _ => k c' hf h) (fun z => absurd z (by omega))
  · intro z hz ih c' hf h
    refine vX5_readDue_2 (ldR l56 rfl (ldI l2 rfl ?_))
    rw [hf.i (by decide), hT.1]
    refine bLe (fun z => absurd z (by omega)) (fun _ => ldR l56 rfl (ldR l56 rfl ⟨obj l2, c_pairsInto ⟨l2, l3⟩ (hT.fr hf (by decide) (by decide)) (by omega) (asI l61 (by omega) (by decide) ?_)⟩))
    rw [nI_add]
    refine ih _ (hf.mI (by simp)) (fun q hq => ?_)
    by_cases e : q = z
    · subst e; exact mI_s
    · rw [mI_n (by omega)]; exact h q (by omega)
theorem rsI {d e : Nat} (he : e ≤ P) : nI d - nI e + nI P = nI (d + P - e) := by
  have : nI d - nI e + nI P = nI d + nI P - nI e := by
    rw [Int32.sub_eq_add_neg, Int32.sub_eq_add_neg, Int32.add_assoc, Int32.add_assoc, Int32.add_comm (-nI e) (nI P)]
  rw [this, nI_add, pk_sub (by omega)]
theorem c_misfit (hn : n ≤ 4) (hP : PiC c P st) (h13 : P ≤ 13) (hs : ∀ d, d < P → st d < n) (hD : DuC c N n) {K : Int32 → gk_H → Prop} (k : K (orM (mfF N n st P)) (Hm c)) : RnI E mX5_misfit (dd, 0, 0) [.ref 56] (Hm c) K := by
  refine vX5_misfit_0 ?_
  refine down (P := fun d => K (orM (ffrom P (fun d => if sB st P d P = pinA N n (st d) n then none else some d) d)) (Hm c) → pX5_misfit_2 E dd 56 (nI d) (Hm c) K) P ?_ ?_ 0 (Nat.zero_le _) k
  · intro k
    refine vX5_misfit_2 (ldI l56 rfl ?_)
    rw [hP.1]
    rw [ffrom_end] at k
    exact bLe (fun _ => k) (fun z => absurd z (by omega))
  · intro d hd ih k
    refine vX5_misfit_2 (ldI l56 rfl ?_)
    rw [hP.1]
    refine bLe (fun z => absurd z (by omega)) (fun _ => ?_)
    refine down (P := fun e => pX5_misfit_14 E dd 56 (nI d) (nI (sB st P d e)) (nI e) (Hm c) K) P ?_ ?_ 0 (Nat.zero_le _)
    · refine vX5_misfit_14 (ldI l56 rfl ?_)
      rw [hP.1]
      refine bLe (fun _ => ldR l56 rfl (ldR l56 rfl (alI l60 (by omega) (by decide) ?_))) (fun z => absurd z (by omega))
      have sd := hs d hd
      rw [hP.2 d hd]
      refine alI l61 (by omega) (by decide) ?_
      rw [hD _ sd, nI_add]
      have b1 := sB_lt (st := st) hd (fun e he => by have := hs e he; omega) P (Nat.le_refl _)
      have b2 := pinA_lt (N := N) (z := st d) hn n hn
      refine bEq (fun e => ih ?_) (fun e => ?_) (by omega) (by omega)
      · rw [ffrom_none hd (if_pos e)] at k; exact k
      · rw [ffrom_some hd (if_neg e)] at k; exact k
    · intro e he ihe
      refine vX5_misfit_14 (ldI l56 rfl ?_)
      rw [hP.1]
      have se := hs e he
      have sr := hs _ (rs_lt hd he)
      refine bLe (fun z => absurd z (by omega)) (fun _ => ldR l56 rfl (alI l60 (by omega) (by decide) (ldR l56 rfl ?_)))
      rw [hP.2 e he, nI_add]
      have fin : nI (sB st P d e) ||| (nI 1 <<< ((nI 4 * nI (st e) + nI (st (rs d e P))) &&& 31)) = nI (sB st P d (e + 1)) := by
        rw [pk_mul, nI_add, sh1 (by omega), fa_or]; rfl
      refine bLt (fun z => ldI l56 rfl ?_) (fun z => ?_)
      · rw [hP.1, rsI (by omega), show d + P - e = rs d e P from by unfold rs; rw [if_neg (by omega)]]
        refine alI l60 (by have := rs_lt hd he; omega) (by decide) ?_
        rw [hP.2 _ (rs_lt hd he), fin]
        exact ihe
      · rw [pk_sub z, show d - e = rs d e P from by unfold rs; rw [if_pos z]]
        refine alI l60 (by have := rs_lt hd he; omega) (by decide) ?_
        rw [hP.2 _ (rs_lt hd he), fin]
        exact ihe
theorem n_isAllHad (hM : MT c n mir N) (hP : PiM c P st) (h13 : P ≤ 13) (hs : ∀ d, d < P → st d < n) {K : Int32 → gk_H → Prop} (k : K (bI (decide (hadB st P = 2 ^ n - 1))) (Hm c)) : RnI E mX12_isAllHad (dd, 0, 0) [.ref 68] (Hm c) K := by
  have n4 := hM.n4
  have hb := hadB_f n4 hs
  have h16 : 1 ≤ 2 ^ n ∧ 2 ^ n ≤ 16 := ⟨Nat.two_pow_pos n, Nat.le_trans (Nat.pow_le_pow_right (by decide) n4) (by decide)⟩
  refine vX12_isAllHad_0 ?_
  refine down (P := fun d => pX12_isAllHad_4 E dd 68 (nI (hadB st d)) (nI d) (Hm c) K) P ?_ ?_ 0 (Nat.zero_le _)
  · refine vX12_isAllHad_4 (ldI l68 rfl ?_)
    rw [hP.1]
    refine bLe (fun _ => ldI l68 rfl ?_) (fun z => absurd z (by omega))
    rw [hM.hn, sh1 (by omega), nI_sub1 h16.1]
    exact bNe (fun e => by rw [decide_eq_false e] at k; exact k) (fun e => by rw [decide_eq_true e] at k; exact k) hb (by omega)
  · intro d hd ih
    refine vX12_isAllHad_4 (ldI l68 rfl ?_)
    rw [hP.1]
    refine bLe (fun z => absurd z (by omega)) (fun _ => ldR l68 rfl (alI l74 (by omega) (by decide) ?_))
    have := hs d hd
    rw [hP.2 d hd, sh1 (by omega), fa_or, nI_add]
    exact ih
def mtF (st : Nat → Nat) (P d a b : Nat) (e : Nat) : Option Nat := if st e = a ∧ st (rs d e P) = b then some 0 else none
def mtO (st : Nat → Nat) (P d a b : Nat) : Bool := (ffrom P (mtF st P d a b) 0).isSome
theorem rs_mod {d e : Nat} (hd : d < P) (he : e < P) : (d + P - e) % P = rs d e P := by
  unfold rs
  split
  · rw [show d + P - e = (d - e) + P by omega, Nat.add_mod_right, Nat.mod_eq_of_lt (by omega)]
  · exact Nat.mod_eq_of_lt (by omega)
theorem n_isMet (hP : PiM c P st) (h13 : P ≤ 13) (hs : ∀ d, d < P → st d < 4) {d a b : Nat} (hd : d < P) (ha : a < 4) (hb : b < 4) {K : Int32 → gk_H → Prop} (k : K (bI (mtO st P d a b)) (Hm c)) : RnI E mX12_isMet (dd, 0, 0) [.ref 68, .int (nI d), .int (nI a), .int (nI b)] (Hm c) K := by
  refine vX12_isMet_0 ?_
  refine down (P := fun e => K (bI (ffrom P (mtF st P d a b) e).isSome) (Hm c) → pX12_isMet_3 E dd 68 (nI d) (nI a) (nI b) (nI e) (Hm c) K) P ?_ ?_ 0 (Nat.zero_le _) k
  · intro k
    refine vX12_isMet_3 (ldI l68 rfl ?_)
    rw [hP.1]
    rw [ffrom_end] at k
    exact bLe (fun _ => k) (fun z => absurd z (by omega))
  · intro e he ih k
    refine vX12_isMet_3 (ldI l68 rfl ?_)
    rw [hP.1]
    have se := hs e he
    have sr := hs _ (rs_lt hd he)
    refine bLe (fun z => absurd z (by omega)) (fun _ => ldR l68 rfl (alI l74 (by omega) (by decide) ?_))
    rw [hP.2 e he, nI_add]
    refine bNe (fun e1 => ih ?_) (fun e1 => ldR l68 rfl (ldI l68 rfl (ldI l68 rfl ?_))) (by omega) (by omega)
    · rw [ffrom_none he (if_neg (fun z => e1 z.1))] at k; exact k
    · rw [hP.1]
      refine ⟨fun z => absurd ((nI_eq (a := P) (b := 0) (by omega) (by decide)).mp z) (by omega), ?_⟩
      rw [rsI (by omega), pk_rem (by omega) (by omega) (by omega), rs_mod hd he]
      refine alI l74 (by have := rs_lt hd he; omega) (by decide) ?_
      rw [hP.2 _ (rs_lt hd he)]
      refine bNe (fun e2 => ih ?_) (fun e2 => ?_) (by omega) (by omega)
      · rw [ffrom_none he (if_neg (fun z => e2 z.2))] at k; exact k
      · rw [ffrom_some he (if_pos ⟨e1, e2⟩)] at k; exact k
theorem mtO_i {d a b : Nat} : mtO st P d a b = true ↔ ∃ e, e < P ∧ st e = a ∧ st (rs d e P) = b := by
  unfold mtO
  cases h : ffrom P (mtF st P d a b) 0 with
  | none =>
    refine ⟨fun z => absurd z (by simp), fun ⟨e, he, h1⟩ => ?_⟩
    have := ffrom_all h e (Nat.zero_le _) he
    rw [mtF, if_pos h1] at this
    exact absurd this (by simp)
  | some v =>
    refine ⟨fun _ => ?_, fun _ => rfl⟩
    obtain ⟨e, he, h1⟩ := ffrom_ex h
    unfold mtF at h1
    by_cases z : st e = a ∧ st (rs d e P) = b
    · exact ⟨e, he, z⟩
    · rw [if_neg z] at h1; exact absurd h1 (by simp)
theorem made_i (hn : n ≤ 4) (hs : ∀ d, d < P → st d < n) {d : Nat} (hd : d < P) : sB st P d P = pinA N n (st d) n ↔ ∀ a b, a < n → b < n → mtO st P d a b = N.testBit (ix a b (st d)) := by
  constructor
  · intro h a b ha hb
    rw [Bool.eq_iff_iff, mtO_i]
    have h1 : (pinA N n (st d) n).testBit (4 * a + b) = true ↔ N.testBit (ix a b (st d)) = true := by
      rw [pinA_bit]
      constructor
      · rintro ⟨a', b', ha', hb', hk, hN⟩
        have e1 : a' = a := by omega
        have e2 : b' = b := by omega
        rw [← e1, ← e2]; exact hN
      · intro hN
        exact ⟨a, b, ha, hb, rfl, hN⟩
    rw [← h1, ← h, sB_bit]
    constructor
    · rintro ⟨e, he, h2, h3⟩
      exact ⟨e, he, by rw [h2, h3]⟩
    · rintro ⟨e, he, hk⟩
      have s1 := hs e he
      have s2 := hs _ (rs_lt hd he)
      exact ⟨e, he, by omega, by omega⟩
  · intro h
    apply Nat.eq_of_testBit_eq
    intro k
    rw [Bool.eq_iff_iff, sB_bit, pinA_bit]
    constructor
    · rintro ⟨e, he, hk⟩
      have s1 := hs e he
      have s2 := hs _ (rs_lt hd he)
      refine ⟨st e, st (rs d e P), s1, s2, hk.symm, ?_⟩
      rw [← h _ _ s1 s2, mtO_i]
      exact ⟨e, he, rfl, rfl⟩
    · rintro ⟨a, b, ha, hb, hk, hN⟩
      rw [← h a b ha hb, mtO_i] at hN
      obtain ⟨e, he, h1, h2⟩ := hN
      exact ⟨e, he, by rw [h1, h2, hk]⟩
theorem bIe {x y : Bool} {A B : Prop} (f : x = y → A) (g : x ≠ y → B) : (bI x = bI y → A) ∧ (¬ bI x = bI y → B) := by
  cases x <;> cases y
  · exact ⟨fun _ => f rfl, fun z => absurd rfl z⟩
  · exact ⟨fun z => absurd z (by decide), fun _ => g (by decide)⟩
  · exact ⟨fun z => absurd z (by decide), fun _ => g (by decide)⟩
  · exact ⟨fun _ => f rfl, fun z => absurd rfl z⟩
theorem n_falseStep (hM : MT c n mir N) (hP : PiM c P st) (h13 : P ≤ 13) (hs : ∀ d, d < P → st d < n) {K : Int32 → gk_H → Prop} (k : K (orN (mfF N n st P)) (Hm c)) : RnI E mX12_falseStep (dd + 1, 0, 0) [.ref 68] (Hm c) K := by
  have n4 := hM.n4
  refine vX12_falseStep_0 ?_
  refine down (P := fun d => K (orN (ffrom P (fun d => if sB st P d P = pinA N n (st d) n then none else some d) d)) (Hm c) → pX12_falseStep_2 E dd 68 (nI d) (Hm c) K) P ?_ ?_ 0 (Nat.zero_le _) k
  · intro k
    refine vX12_falseStep_2 (ldI l68 rfl ?_)
    rw [hP.1]
    rw [ffrom_end] at k
    exact bLe (fun _ => k) (fun z => absurd z (by omega))
  · intro d hd ih k
    refine vX12_falseStep_2 (ldI l68 rfl ?_)
    rw [hP.1]
    refine bLe (fun z => absurd z (by omega)) (fun _ => ?_)
    refine down (P := fun a => (∀ a' b, a' < a → b < n → mtO st P d a' b = N.testBit (ix a' b (st d))) → pX12_falseStep_12 E dd 68 (nI d) (nI a) (Hm c) K) n ?_ ?_ 0 (Nat.zero_le _) (fun a' b h => absurd h (by omega))
    · intro h
      refine vX12_falseStep_12 (ldI l68 rfl ?_)
      rw [hM.hn, nI_add]
      refine bLe (fun _ => ih ?_) (fun z => absurd z (by omega))
      rw [ffrom_none hd (if_pos ((made_i n4 hs hd).mpr h))] at k
      exact k
    · intro a ha iha h
      refine vX12_falseStep_12 (ldI l68 rfl ?_)
      rw [hM.hn]
      refine bLe (fun z => absurd z (by omega)) (fun _ => ?_)
      refine down (P := fun b => (∀ b', b' < b → mtO st P d a b' = N.testBit (ix a b' (st d))) → pX12_falseStep_22 E dd 68 (nI d) (nI a) (nI b) (Hm c) K) n ?_ ?_ 0 (Nat.zero_le _) (fun b' hb => absurd hb (by omega))
      · intro h2
        refine vX12_falseStep_22 (ldI l68 rfl ?_)
        rw [hM.hn, nI_add]
        refine bLe (fun _ => iha (fun a' b ha' hb => ?_)) (fun z => absurd z (by omega))
        by_cases e : a' = a
        · subst e; exact h2 b hb
        · exact h a' b (by omega) hb
      · intro b hb ihb h2
        refine vX12_falseStep_22 (ldI l68 rfl ?_)
        rw [hM.hn]
        refine bLe (fun z => absurd z (by omega)) (fun _ => ⟨obj l68, n_isMet hP h13 (fun d hd => by have := hs d hd; omega) hd (by omega) (by omega) (ldR l68 rfl (alI l74 (by omega) (by decide) ⟨obj l68, ?_⟩))⟩)
        rw [hP.2 d hd]
        refine n_is hM ha hb (hs d hd) ?_
        rw [nI_add]
        refine bIe (fun e => ihb (fun b' hb' => ?_)) (fun e => ?_)
        · by_cases eb : b' = b
          · subst eb; exact e
          · exact h2 b' (by omega)
        · rw [ffrom_some hd (if_neg (fun z => e ((made_i n4 hs hd).mp z a b ha hb)))] at k
          exact k
end PC
