/-! powers -/
def pw (N n x : Nat) : Nat → Nat
  | 0 => x
  | k + 1 => prd N n (pw N n x k) x
theorem php : ∀ (m : Nat) (f : Nat → Nat), (∀ i, i ≤ m → f i < m) → ∃ i j, i < j ∧ j ≤ m ∧ f i = f j
  | 0, f, h => absurd (h 0 (Nat.le_refl _)) (by omega)
  | m + 1, f, h => by
    by_cases hc : ∃ i, i ≤ m ∧ f i = f (m + 1)
    · obtain ⟨i, h1, h2⟩ := hc
      exact ⟨i, m + 1, by omega, Nat.le_refl _, h2⟩
    · have hc' : ∀ i, i ≤ m → f i ≠ f (m + 1) := fun i h1 h2 => hc ⟨i, h1, h2⟩
      obtain ⟨i, j, h1, h2, h3⟩ := php m (fun i => if f i = m then f (m + 1) else f i) (fun i hi => by
        have e1 := h i (by omega)
        have e2 := h (m + 1) (Nat.le_refl _)
        have e3 := hc' i hi
        show (if f i = m then f (m + 1) else f i) < m
        split <;> omega)
      refine ⟨i, j, h1, by omega, ?_⟩
      have e3 := hc' i (by omega)
      have e4 := hc' j (by omega)
      split at h3 <;> split at h3 <;> omega
/-- T ahead, then a ring from T to U -/
def PW (N n x U T : Nat) : Prop := T < U ∧ U ≤ 2 ^ n ∧ pw N n x T = pw N n x U ∧ ∀ a b, a < b → b < U → pw N n x a ≠ pw N n x b
theorem lt_of_bits {v n : Nat} (h : ∀ k, v.testBit k = true → k < n) : v < 2 ^ n := by
  apply Nat.lt_pow_two_of_testBit
  intro i hi
  cases hq : v.testBit i with
  | false => rfl
  | true => exact absurd (h i hq) (by omega)
theorem prdB_lt2 {N x y a r n : Nat} (hN : ∀ b z, b < n → z < 4 → N.testBit (16 * a + 4 * b + z) = true → z < n) (hr : r < 2 ^ n) : ∀ b, b ≤ n → prdB N x y a r b < 2 ^ n
  | 0, _ => hr
  | b + 1, h => by
    unfold prdB
    have ih := prdB_lt2 (x := x) (y := y) hN hr b (by omega)
    split
    · refine Nat.or_lt_two_pow ih (lt_of_bits (fun k hk => ?_))
      rw [show (16 : Nat) = 2 ^ 4 from rfl, Nat.testBit_mod_two_pow, Nat.testBit_div_two_pow, Bool.and_eq_true] at hk
      have h4 := of_decide_eq_true hk.1
      refine hN b k (by omega) h4 ?_
      rw [show 16 * a + 4 * b + k = k + (2 ^ 4 * a + 4 * b) by omega]
      exact hk.2
    · exact ih
theorem prd_lt2 {N n : Nat} {mir : Nat → Nat} (hG : Gd n mir N) (x y : Nat) : prd N n x y < 2 ^ n := by
  have h4 := hG.n4
  have : ∀ a, a ≤ n → prdA N n x y a < 2 ^ n := by
    intro a
    induction a with
    | zero => intro _; exact Nat.two_pow_pos n
    | succ a ih =>
      intro ha
      exact prdB_lt2 (fun b z hb hz hq => (hG.in_ a b z (by omega) (by omega) hz hq).2.2) (ih (by omega)) n (Nat.le_refl _)
  exact this n (Nat.le_refl _)
theorem pw_lt {N n x : Nat} {mir : Nat → Nat} (hG : Gd n mir N) (hx : x < 2 ^ n) : ∀ k, pw N n x k < 2 ^ n
  | 0 => hx
  | _ + 1 => prd_lt2 hG _ _
theorem PW_ex {N n x : Nat} {mir : Nat → Nat} (hG : Gd n mir N) (hx : x < 2 ^ n) : ∃ U T, PW N n x U T := by
  obtain ⟨i, j, h1, h2, h3⟩ := php (2 ^ n) (pw N n x) (fun i _ => pw_lt hG hx i)
  obtain ⟨U, ⟨hU1, T, hT, hTU⟩, hmin⟩ := pk_least (fun j => j ≤ 2 ^ n ∧ ∃ i, i < j ∧ pw N n x i = pw N n x j) ⟨j, h2, i, h1, h3⟩
  exact ⟨U, T, hT, hU1, hTU, fun a b hab hb e => hmin b hb ⟨by omega, a, hab, e⟩⟩
/-- the powers met so far -/
def mtS (N n x : Nat) : Nat → Nat
  | 0 => 0
  | k + 1 => mtS N n x k ||| 2 ^ pw N n x k
theorem mtS_bit {N n x r : Nat} : ∀ u, (mtS N n x u).testBit r = true ↔ ∃ k, k < u ∧ pw N n x k = r
  | 0 => by simp [mtS]
  | u + 1 => by
    rw [mtS, Nat.testBit_or, Bool.or_eq_true, mtS_bit u, Nat.testBit_two_pow, decide_eq_true_iff]
    constructor
    · rintro (⟨k, h1, h2⟩ | h)
      · exact ⟨k, by omega, h2⟩
      · exact ⟨u, by omega, h⟩
    · rintro ⟨k, h1, h2⟩
      by_cases e : k = u
      · subst e; exact Or.inr h2
      · exact Or.inl ⟨k, by omega, h2⟩
theorem mtS_lt {N n x : Nat} (h : ∀ k, pw N n x k < 16) : ∀ u, mtS N n x u < 65536
  | 0 => Nat.zero_lt_succ _
  | u + 1 => or65 (mtS_lt h u) (p16 (h u))
def sp_pw (n U T : Nat) (x q : Int32) : Int32 := if inR x 0 (2 ^ n : Nat) = true then (if inR q 0 (2 : Nat) = true then (if w q = 0 then nI T else nI (U - T)) else -1) else -2
section PO
variable {E : gk_E} {dd : Nat} {c : gm} {t n N : Nat} {mir : Nat → Nat}
theorem c_powers (ht : isTab t) (hG : Gd n mir N) (hT : Tab c t n mir N) {x U T : Nat} (hx : x < 2 ^ n) (hP : PW N n x U T) {b : Bool} {K : Int32 → gk_H → Prop} (k : K (if b then nI T else nI (U - T)) (Hm c)) : RnI E mX8_powers (dd + 1, 0, 0) [.ref t, .int (nI x), .int (bI b)] (Hm c) K := by
  have h4 := hT.2.2.1
  have hp := pow_16 h4
  obtain ⟨hTU, hU, he, hd⟩ := hP
  have hl : ∀ k, pw N n x k < 16 := fun k => Nat.lt_of_lt_of_le (pw_lt hG hx k) hp
  have two : ∀ met, pX8_powers_54 E dd t (nI x) (bI b) met (nI (pw N n x U)) (nI U) (nI 0) (nI (pw N n x 0)) (Hm c) K := by
    intro met
    have fin : (bI b = 0 → K (nI U - nI T) (Hm c)) ∧ (¬ bI b = 0 → K (nI T) (Hm c)) := bB0 (fun e => by rw [e] at k; rw [pk_sub (by omega)]; exact k) (fun e => by rw [e] at k; exact k)
    refine down0 (P := fun a => pX8_powers_54 E dd t (nI x) (bI b) met (nI (pw N n x U)) (nI U) (nI a) (nI (pw N n x a)) (Hm c) K) T ?_ ?_
    · exact vX8_powers_54 (bLe (fun h => absurd h (by omega)) (fun _ => bEq (fun _ => fin) (fun h => absurd he h) (by have := hl T; omega) (by have := hl U; omega)))
    · intro a ha ih
      have l1 := hl a
      have l2 := hl U
      refine vX8_powers_54 (bLe (fun h => absurd h (by omega)) (fun _ => bEq (fun h => absurd (h.trans he.symm) (hd a T ha hTU)) (fun _ => ⟨obj ht.1, c_product ht hT (by omega) (by omega) ?_⟩)))
      rw [nI_add]
      exact ih
  refine vX8_powers_0 ?_
  refine down0 (P := fun u => pX8_powers_8 E dd t (nI x) (bI b) (nI (mtS N n x u)) (nI (pw N n x u)) (nI u) (Hm c) K) U ?_ ?_
  · have l1 := mtS_lt hl U
    have l2 := hl U
    refine vX8_powers_8 ⟨obj ht.1, c_relations ht hT (bLe (fun _ => two _) (fun _ => bBit0 (fun _ => two _) (fun h => ?_)))⟩
    have := (mtS_bit (N := N) (n := n) (x := x) (r := pw N n x U) U).mpr ⟨T, hTU, he⟩
    rw [h] at this
    exact absurd this (by decide)
  · intro u hu ih
    have l1 := mtS_lt hl u
    have l2 := hl u
    refine vX8_powers_8 ⟨obj ht.1, c_relations ht hT (bLe (fun h => absurd h (by omega)) (fun _ => bBit0 (fun h => ?_) (fun h => ⟨obj ht.1, c_product ht hT (by omega) (by omega) ?_⟩)))⟩
    · obtain ⟨q, h1, h2⟩ := (mtS_bit u).mp h
      exact absurd h2 (hd q u h1 hu)
    · rw [nI_add, sh1 (by omega), fa_or]
      exact ih
theorem c_power (hG : Gd n mir N) (hT : Tab c 2 n mir N) {x q : Int32} {U T : Nat} (hP : inR x 0 (2 ^ n : Nat) = true → PW N n (w x) U T) {K : Int32 → gk_H → Prop} (k : K (sp_pw n U T x q) (Hm c)) : RnI E mX11_power (dd + 2, 0, 0) [.ref 0, .int x, .int q] (Hm c) K := by
  have hp := pow_16 hT.2.2.1
  refine vX11_power_0 ⟨obj l0, c_isRelation hT (rngN (by omega) (fun j hj hx h => ?_) (fun h => ?_))⟩
  · subst hx
    have hP := hP h
    rw [w_nI (by omega)] at hP
    rw [sp_pw, if_pos h] at k
    refine ⟨fun e => ldR l0 rfl (ldR l1 rfl ⟨fun e2 => absurd e e2, fun _ => ⟨obj l2, c_powers (b := true) isTab_2 hG hT hj hP ?_⟩⟩), fun e => ⟨fun e1 => ldR l0 rfl (ldR l1 rfl ⟨fun _ => ⟨obj l2, c_powers (b := false) isTab_2 hG hT hj hP ?_⟩, fun e2 => absurd e2 e⟩), fun e1 => ?_⟩⟩
    · subst e; exact k
    · subst e1; exact k
    · have : inR q 0 (2 : Nat) = false := by
        cases hq : inR q 0 (2 : Nat) with
        | false => rfl
        | true =>
          obtain ⟨j, h3, rfl⟩ := inR_nI (by decide) hq
          match j, h3 with
          | 0, _ => exact absurd rfl e
          | 1, _ => exact absurd rfl e1
      rw [this] at k; exact k
  · rw [sp_pw, if_neg (by rw [h]; decide)] at k; exact k
theorem n_powerOf (hG : Gd n mir N) (hM : MT c n mir N) {x m : Nat} (hx : x < 2 ^ n) (hm : m < 2 ^ 31) {K : Int32 → gk_H → Prop} (k : K (nI (pw N n x m)) (Hm c)) : RnI E mX12_powerOf (dd + 2, 0, 0) [.ref 68, .int (nI x), .int (nI m)] (Hm c) K := by
  have hp := pow_16 hM.n4
  refine vX12_powerOf_0 ?_
  refine down0 (P := fun a => pX12_powerOf_5 E (dd + 1) 68 (nI x) (nI m) (nI (pw N n x a)) (nI a) (Hm c) K) m ?_ ?_
  · exact vX12_powerOf_5 (bLe (fun _ => k) (fun h => absurd h (by omega)))
  · intro a ha ih
    have l1 := pw_lt hG hx a
    refine vX12_powerOf_5 (bLe (fun h => absurd h (by omega)) (fun _ => ⟨obj l68, n_composed hM (by omega) (by omega) ?_⟩))
    rw [nI_add]
    exact ih
theorem pw_add {N n x a b : Nat} (h : pw N n x a = pw N n x b) : ∀ d, pw N n x (a + d) = pw N n x (b + d)
  | 0 => h
  | d + 1 => by
    show prd N n (pw N n x (a + d)) x = prd N n (pw N n x (b + d)) x
    rw [pw_add h d]
/-- every later power is one of the ring -/
theorem pw_ring {N n x U T : Nat} (hP : PW N n x U T) : ∀ k, T ≤ k → pw N n x k = pw N n x (T + (k - T) % (U - T)) := by
  intro k hk
  obtain ⟨h1, h2, h3, h4⟩ := hP
  induction k using Nat.strongRecOn with
  | ind k ih =>
    by_cases e : k < U
    · rw [Nat.mod_eq_of_lt (by omega), show T + (k - T) = k by omega]
    · have h5 := pw_add h3 (k - U)
      rw [show U + (k - U) = k by omega] at h5
      rw [← h5, ih (T + (k - U)) (by omega) (by omega)]
      congr 2
      rw [show k - T = (T + (k - U) - T) + (U - T) by omega, Nat.add_mod_right]
theorem n_power (hG : Gd n mir N) (hM : MT c n mir N) {x q : Int32} {U T : Nat} (hP : inR x 0 (2 ^ n : Nat) = true → PW N n (w x) U T) {K : Int32 → gk_H → Prop} (k : K (sp_pw n U T x q) (Hm c)) : RnI E mX12_power (dd + 3, 0, 0) [.ref 68, .int x, .int q] (Hm c) K := by
  have hp := pow_16 hM.n4
  refine vX12_power_0 ⟨obj l68, n_isRelation hM (rngN (by omega) (fun j hj hx h => n_isFrom (lo := 0) (hi := 1) (by decide) (by decide) (rngN (by decide) (fun q' hq' hy h2 => ⟨obj l68, ?_⟩) (fun h2 => ?_))) (fun h => ?_))⟩
  · subst hx hy
    have hP := hP h
    rw [w_nI (by omega)] at hP
    rw [sp_pw, if_pos h, if_pos h2, w_nI (by omega)] at k
    have hl : ∀ k, pw N n j k < 16 := fun k => Nat.lt_of_lt_of_le (pw_lt hG hj k) hp
    have hring := pw_ring hP
    obtain ⟨h1, h2, h3, h4⟩ := hP
    have l16 := hl 16
    refine n_powerOf hG hM hj (by decide) ⟨obj l68, n_composed hM (by omega) (by omega) ?_⟩
    have dist : ∀ a b, T ≤ a → T ≤ b → pw N n j a = pw N n j b → (a - T) % (U - T) = (b - T) % (U - T) := by
      intro a b ha hb e
      rw [hring a ha, hring b hb] at e
      have m1 := Nat.mod_lt (a - T) (show 0 < U - T by omega)
      have m2 := Nat.mod_lt (b - T) (show 0 < U - T by omega)
      rcases Nat.lt_trichotomy ((a - T) % (U - T)) ((b - T) % (U - T)) with z | z | z
      · exact absurd e (h4 _ _ (by omega) (by omega))
      · exact z
      · exact absurd e.symm (h4 _ _ (by omega) (by omega))
    have fin : pX12_power_66 E (dd + 2) 68 (nI j) (nI q') (nI (pw N n j 16)) (nI (U - T)) (nI (pw N n j (16 + (U - T)))) (nI 0) (Hm c) K := by
      refine down0 (P := fun a => pX12_power_66 E (dd + 2) 68 (nI j) (nI q') (nI (pw N n j 16)) (nI (U - T)) (nI (pw N n j (16 + (U - T)))) (nI a) (Hm c) K) T ?_ ?_
      · refine vX12_power_66 ⟨obj l68, n_powerOf hG hM hj (by omega) ⟨obj l68, ?_⟩⟩
        rw [nI_add]
        have l1 := hl T
        have l2 := hl (T + (U - T))
        refine n_powerOf hG hM hj (by omega) (bEq (fun _ => bN0 (fun e => ?_) (fun e => ?_)) (fun e => absurd ?_ e))
        · rw [if_neg e] at k; exact k
        · rw [if_pos e] at k; exact k
        · rw [show T + (U - T) = U by omega]; exact h3
      · intro a ha ih
        refine vX12_power_66 ⟨obj l68, n_powerOf hG hM hj (by omega) ⟨obj l68, ?_⟩⟩
        simp only [nI_add]
        have l1 := hl a
        have l2 := hl (a + (U - T))
        exact n_powerOf hG hM hj (by omega) (bEq (fun e => absurd e (h4 _ _ (by omega) (by omega))) (fun _ => ih))
    have main : pX12_power_42 E (dd + 2) 68 (nI j) (nI q') (nI (pw N n j 16)) (nI 1) (nI (pw N n j (16 + 1))) (Hm c) K := by
      refine downF (P := fun p => pX12_power_42 E (dd + 2) 68 (nI j) (nI q') (nI (pw N n j 16)) (nI p) (nI (pw N n j (16 + p))) (Hm c) K) 1 (U - T) (by omega) ?_ ?_
      · have l1 := hl (16 + (U - T))
        refine vX12_power_42 (bEq (fun _ => fin) (fun e => absurd ?_ e))
        have := pw_add h3.symm (16 - T)
        rw [show U + (16 - T) = 16 + (U - T) by omega, show T + (16 - T) = 16 by omega] at this
        exact this
      · intro p hp1 hp2 ih
        have l1 := hl (16 + p)
        refine vX12_power_42 (bEq (fun e => ?_) (fun _ => ⟨obj l68, n_composed hM (by omega) (by omega) ?_⟩))
        · have := dist (16 + p) 16 (by omega) (by omega) e
          rw [show 16 + p - T = (16 - T) + p by omega] at this
          exfalso
          have q0 : 0 < U - T := by omega
          have e1 : (16 - T) = (U - T) * ((16 - T) / (U - T)) + (16 - T) % (U - T) := (Nat.div_add_mod _ _).symm
          have e2 : (16 - T) + p = (U - T) * (((16 - T) + p) / (U - T)) + ((16 - T) + p) % (U - T) := (Nat.div_add_mod _ _).symm
          rw [this] at e2
          have e3 : p = (U - T) * (((16 - T) + p) / (U - T)) - (U - T) * ((16 - T) / (U - T)) := by omega
          rw [← Nat.mul_sub] at e3
          rcases Nat.eq_zero_or_pos (((16 - T) + p) / (U - T) - (16 - T) / (U - T)) with z | z
          · rw [z] at e3; omega
          · have := Nat.mul_le_mul_left (U - T) z
            omega
        · rw [nI_add]
          exact ih
    exact main
  · rw [sp_pw, if_pos h, if_neg (by rw [h2]; decide)] at k; exact k
  · rw [sp_pw, if_neg (by rw [h]; decide)] at k; exact k
end PO
