/-! the class's table: couples, powers, pairs into an atom, a copy -/
/-- one key of a function changed -/
def fset (f : Nat → Nat) (a b : Nat) : Nat → Nat := fun k => if k = a then b else f k
def fre (mir : Nat → Nat) (a : Nat) : Nat → Nat := fset (fset mir (mir a) (mir a)) a a
def cpl (mir : Nat → Nat) (a b : Nat) : Nat → Nat := fset (fset (fre (fre mir a) b) a b) b a
theorem fset_lt {f : Nat → Nat} {a b : Nat} (h : ∀ k, k < 4 → f k < 4) (hb : b < 4) : ∀ k, k < 4 → fset f a b k < 4 := fun k hk => by unfold fset; split; exact hb; exact h k hk
theorem fre_lt {f : Nat → Nat} {a : Nat} (h : ∀ k, k < 4 → f k < 4) (ha : a < 4) : ∀ k, k < 4 → fre f a k < 4 := fset_lt (fset_lt h (h a ha)) ha
theorem cpl_lt {f : Nat → Nat} {a b : Nat} (h : ∀ k, k < 4 → f k < 4) (ha : a < 4) (hb : b < 4) : ∀ k, k < 4 → cpl f a b k < 4 := fset_lt (fset_lt (fre_lt (fre_lt h ha) hb) hb) ha
/-- row r of the memory holds f -/
def Row (c : gm) (r : Nat) (f : Nat → Nat) : Prop := ∀ a, a < 4 → c.1 r a = nI (f a) ∧ f a < 4
theorem Row.set {c : gm} {r : Nat} {f : Nat → Nat} (h : Row c r f) {a b : Nat} (hb : b < 4) : Row (mI c r a (nI b)) r (fset f a b) := fun k hk => by
  unfold fset
  by_cases e : k = a
  · subst e; rw [if_pos rfl, mI_s]; exact ⟨rfl, hb⟩
  · rw [if_neg e, mI_n (by omega)]; exact h k hk
def cpd (mir : Nat → Nat) : Nat → Nat
  | 0 => 0
  | a + 1 => if mir a = a then cpd mir a else cpd mir a + 1
theorem cpd_le (mir : Nat → Nat) : ∀ a, cpd mir a ≤ a
  | 0 => Nat.le_refl _
  | a + 1 => by
    have := cpd_le mir a
    unfold cpd
    split <;> omega
/-- pairs a, b (bit 4 a + b) with a b z in: those below (a, b) -/
def pinB (N z a r : Nat) : Nat → Nat
  | 0 => r
  | b + 1 => if N.testBit (ix a b z) = true then pinB N z a r b ||| 2 ^ (4 * a + b) else pinB N z a r b
def pinA (N n z : Nat) : Nat → Nat
  | 0 => 0
  | a + 1 => pinB N z a (pinA N n z a) n
theorem p16 {k : Nat} (h : k < 16) : 2 ^ k < 65536 := Nat.pow_lt_pow_right (a := 2) (n := 16) (by decide) h
theorem or65 {a b : Nat} (ha : a < 65536) (hb : b < 65536) : a ||| b < 65536 := Nat.or_lt_two_pow (n := 16) ha hb
theorem pinB_lt {N z a r : Nat} (ha : a < 4) (hr : r < 65536) : ∀ b, b ≤ 4 → pinB N z a r b < 65536
  | 0, _ => hr
  | b + 1, h => by
    unfold pinB
    split
    · exact or65 (pinB_lt ha hr b (by omega)) (p16 (by omega))
    · exact pinB_lt ha hr b (by omega)
theorem pinA_lt {N n z : Nat} (h4 : n ≤ 4) : ∀ a, a ≤ 4 → pinA N n z a < 65536
  | 0, _ => Nat.zero_lt_succ _
  | a + 1, h => pinB_lt (by omega) (pinA_lt h4 a (by omega)) n h4
section TB
variable {E : gk_E} {dd : Nat} {c : gm} {t n N : Nat} {mir : Nat → Nat}
theorem c_free (ht : isTab t) (hm : Row c (t + 1) mir) {a : Nat} (ha : a < 4) {K : gk_H → Prop} (k : ∀ c', Fr [t + 1] c c' → Row c' (t + 1) (fre mir a) → K (Hm c')) : RnV E mX8_free (dd, 0, 0) [.ref t, .int (nI a)] (Hm c) K := by
  have h1 := hm a ha
  refine vX8_free_0 (ldR ht.1 rfl (alI ht.2 ha (by decide) ?_))
  rw [h1.1]
  refine ldR ht.1 rfl (asI ht.2 h1.2 (by decide) (ldR ht.1 rfl (asI ht.2 ha (by decide) ?_)))
  exact k _ ((Fr.rf.mI (by simp)).mI (by simp)) ((hm.set h1.2).set ha)
theorem c_couple (ht : isTab t) (hn : c.1 t 0 = nI n) (h4 : n ≤ 4) (hm : Row c (t + 1) mir) {a b : Nat} (ha : a < 4) (hb : b < 4) (h1 : 1 ≤ n) {K : gk_H → Prop} (k : ∀ c', Fr [t, t + 1] c c' → Tab c' t n (cpl mir a b) (fixB (cpl mir a b) n) → K (Hm c')) : RnV E mX8_couple (dd + 2, 0, 0) [.ref t, .int (nI a), .int (nI b)] (Hm c) K := by
  refine vX8_couple_0 ⟨obj ht.1, c_free ht hm ha (fun c1 f1 r1 => ⟨obj ht.1, c_free ht r1 hb (fun c2 f2 r2 => ldR ht.1 rfl (asI ht.2 ha (by decide) (ldR ht.1 rfl (asI ht.2 hb (by decide) ⟨obj ht.1, ?_⟩))))⟩)⟩
  have r4 := (r2.set (a := a) hb).set (a := b) ha
  have f4 : Fr [t + 1] c (mI (mI c2 (t + 1) a (nI b)) (t + 1) b (nI a)) := ((f1.trans f2).mI (by simp)).mI (by simp)
  have f5 : Fr [t, t + 1] c (mI (mI c2 (t + 1) a (nI b)) (t + 1) b (nI a)) := f4.mono (fun q hq => List.mem_cons_of_mem _ hq)
  have hn4 : (mI (mI c2 (t + 1) a (nI b)) (t + 1) b (nI a)).1 t 0 = nI n := by rw [f4.i (by simp)]; exact hn
  refine c_keepFixed ht hn4 h4 r4 (k _ (f5.mL (by simp)) ⟨hn4, h1, h4, mL_s, fixB_lt (fun a h => (r4 a h).2) n h4, r4⟩)
theorem c_coupled (ht : isTab t) (hT : Tab c t n mir N) {K : Int32 → gk_H → Prop} (k : K (nI (cpd mir n)) (Hm c)) : RnI E mX8_coupled (dd, 0, 0) [.ref t] (Hm c) K := by
  have h4 := hT.2.2.1
  refine vX8_coupled_0 ?_
  refine down0 (P := fun a => pX8_coupled_4 E dd t (nI (cpd mir a)) (nI a) (Hm c) K) n ?_ ?_
  · refine vX8_coupled_4 (ldI ht.1 rfl ?_)
    rw [hT.1]
    exact bLe (fun _ => k) (fun h => absurd h (by omega))
  · intro a ha ih
    have hm := hT.2.2.2.2.2 a (by omega)
    refine vX8_coupled_4 (ldI ht.1 rfl ?_)
    rw [hT.1]
    refine bLe (fun h => absurd h (by omega)) (fun _ => ldR ht.1 rfl (alI ht.2 (by omega) (by decide) ?_))
    simp only [hm.1, nI_add]
    refine bEq (fun h => ?_) (fun h => ?_)
    · rw [cpd, if_pos h] at ih; exact ih
    · rw [cpd, if_neg h] at ih; exact ih
theorem c_pairsInto (ht : isTab t) (hT : Tab c t n mir N) {z : Nat} (hz : z < 4) {K : Int32 → gk_H → Prop} (k : K (nI (pinA N n z n)) (Hm c)) : RnI E mX8_pairsInto (dd + 1, 0, 0) [.ref t, .int (nI z)] (Hm c) K := by
  have h4 := hT.2.2.1
  refine vX8_pairsInto_0 ?_
  refine down0 (P := fun a => pX8_pairsInto_4 E dd t (nI z) (nI (pinA N n z a)) (nI a) (Hm c) K) n ?_ ?_
  · refine vX8_pairsInto_4 (ldI ht.1 rfl ?_)
    rw [hT.1]
    exact bLe (fun _ => k) (fun h => absurd h (by omega))
  · intro a ha ih
    refine vX8_pairsInto_4 (ldI ht.1 rfl ?_)
    rw [hT.1]
    refine bLe (fun h => absurd h (by omega)) (fun _ => ?_)
    refine down0 (P := fun b => pX8_pairsInto_15 E dd t (nI z) (nI (pinB N z a (pinA N n z a) b)) (nI a) (nI b) (Hm c) K) n ?_ ?_
    · refine vX8_pairsInto_15 (ldI ht.1 rfl ?_)
      simp only [hT.1, nI_add]
      exact bLe (fun _ => ih) (fun h => absurd h (by omega))
    · intro b hb ih2
      refine vX8_pairsInto_15 (ldI ht.1 rfl ?_)
      simp only [hT.1, nI_add, pk_mul]
      rw [sh1 (by omega), fa_or]
      refine bLe (fun h => absurd h (by omega)) (fun _ => ⟨obj ht.1, c_has ht hT (by omega) (by omega) hz (bB0 (fun h => ?_) (fun h => ?_))⟩)
      · rw [pinB, if_neg (by rw [h]; decide)] at ih2
        exact ih2
      · rw [pinB, if_pos h] at ih2
        exact ih2
theorem c_tabBecome {t2 n2 N2 : Nat} {mir2 : Nat → Nat} (ht : isTab t) (ht2 : isTab t2) (hne : t ≠ t2) (hne1 : t ≠ t2 + 1) (hne2 : t2 ≠ t + 1) (hT : Tab c t2 n2 mir2 N2) {K : gk_H → Prop} (k : ∀ c', Fr [t, t + 1] c c' → Tab c' t n2 mir2 N2 → K (Hm c')) : RnV E mX8_become (dd, 0, 0) [.ref t, .ref t2] (Hm c) K := by
  obtain ⟨h1, h2, h3, h4, h5, h6⟩ := hT
  refine vX8_become_0 (ldI ht2.1 rfl (stI ht.1 rfl ?_))
  refine down (P := fun a => ∀ c', Fr [t, t + 1] c c' → c'.1 t 0 = nI n2 → (∀ b, b < a → c'.1 (t + 1) b = nI (mir2 b)) → pX8_become_10 E dd t t2 (nI a) (Hm c') K) 4 ?_ ?_ 0 (Nat.zero_le _) _ (Fr.rf.mI (by simp)) (by rw [mI_s]; exact h1) (fun b hb => absurd hb (by omega))
  · intro c' hf hn hb
    refine vX8_become_10 (bLe (fun _ => ldL ht2.1 rfl (stL ht.1 rfl (k _ (hf.mL (by simp)) ⟨hn, h2, h3, ?_, h5, fun a ha => ⟨hb a ha, (h6 a ha).2⟩⟩))) (fun h => absurd h (by omega)))
    rw [mL_s, hf.l (by simp; omega)]
    exact h4
  · intro a ha ih c' hf hn hb
    refine vX8_become_10 (bLe (fun h => absurd h (by omega)) (fun _ => ldR ht.1 rfl (ldR ht2.1 rfl (alI ht2.2 ha (by decide) (asI ht.2 ha (by decide) ?_)))))
    rw [nI_add, hf.i (by simp; omega), (h6 a ha).1]
    refine ih _ (hf.mI (by simp)) (by rw [mI_n (by omega)]; exact hn) (fun b hb2 => ?_)
    by_cases e : b = a
    · subst e; exact mI_s
    · rw [mI_n (by omega)]; exact hb b (by omega)
end TB
