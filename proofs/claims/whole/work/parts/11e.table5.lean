/-! the class's table: writes -/
theorem Tab.fr {c c' : gm} {t n N : Nat} {mir : Nat → Nat} {l : List Nat} (h : Tab c t n mir N) (hf : Fr l c c') (h1 : t ∉ l) (h2 : t + 1 ∉ l) : Tab c' t n mir N := by
  obtain ⟨a1, a2, a3, a4, a5, a6⟩ := h
  exact ⟨by rw [hf.i h1]; exact a1, a2, a3, by rw [hf.l h1]; exact a4, a5, fun a ha => by rw [hf.i h2]; exact a6 a ha⟩
def fixB (mir : Nat → Nat) : Nat → Nat
  | 0 => 0
  | x + 1 => fixB mir x ||| ((2 ^ ix 0 x x ||| 2 ^ ix x 0 x) ||| 2 ^ ix x (mir x) 0)
theorem fix1_lt {mir : Nat → Nat} (hm : ∀ a, a < 4 → mir a < 4) {x : Nat} (hx : x < 4) : ((2 ^ ix 0 x x ||| 2 ^ ix x 0 x) ||| 2 ^ ix x (mir x) 0) < 2 ^ 64 := or64 (or64 (two_lt (ix_lt (by decide) hx hx)) (two_lt (ix_lt hx (by decide) hx))) (two_lt (ix_lt hx (hm x hx) (by decide)))
theorem fixB_lt {mir : Nat → Nat} (hm : ∀ a, a < 4 → mir a < 4) : ∀ x, x ≤ 4 → fixB mir x < 2 ^ 64
  | 0, _ => Nat.two_pow_pos 64
  | x + 1, h => or64 (fixB_lt hm x (by omega)) (fix1_lt hm (by omega))
section TB
variable {E : gk_E} {dd : Nat} {c : gm} {t n N : Nat} {mir : Nat → Nat}
theorem c_keepFixed (ht : isTab t) (hn : c.1 t 0 = nI n) (h4 : n ≤ 4) (hm : ∀ a, a < 4 → c.1 (t + 1) a = nI (mir a) ∧ mir a < 4) {K : gk_H → Prop} (k : K (Hm (mL c t 2 (lN (fixB mir n))))) : RnV E mX8_keepFixed (dd + 1, 0, 0) [.ref t] (Hm c) K := by
  have hm' : ∀ a, a < 4 → mir a < 4 := fun a h => (hm a h).2
  refine vX8_keepFixed_0 (stL ht.1 rfl ?_)
  refine down0 (P := fun x => pX8_keepFixed_7 E dd t (nI x) (Hm (mL c t 2 (lN (fixB mir x)))) K) n ?_ ?_
  · refine vX8_keepFixed_7 (ldI ht.1 rfl ?_)
    show (c.1 t 0 ≤ nI n → _) ∧ (¬ c.1 t 0 ≤ nI n → _)
    rw [hn]
    exact bLe (fun _ => k) (fun h => absurd h (by omega))
  · intro x hx ih
    refine vX8_keepFixed_7 (ldI ht.1 rfl ?_)
    show (c.1 t 0 ≤ nI x → _) ∧ (¬ c.1 t 0 ≤ nI x → _)
    rw [hn]
    have hx4 : x < 4 := by omega
    refine bLe (fun h => absurd h (by omega)) (fun _ => ldL ht.1 rfl (c_bit (ix_lt (by decide) hx4 hx4) (c_bit (ix_lt hx4 (by decide) hx4) (ldR ht.1 rfl (alI ht.2 hx4 (by decide) ?_)))))
    show RnL E mX8_bit (dd, 0, 0) [.int (nI x), .int (c.1 (t + 1) x), .int (nI 0)] _ _
    rw [(hm x hx4).1]
    refine c_bit (ix_lt hx4 (hm' x hx4) (by decide)) (stL ht.1 rfl ?_)
    rw [mL_s, mL_mL, wb_or (two_lt (ix_lt (by decide) hx4 hx4)) (two_lt (ix_lt hx4 (by decide) hx4)), wb_or (or64 (two_lt (ix_lt (by decide) hx4 hx4)) (two_lt (ix_lt hx4 (by decide) hx4))) (two_lt (ix_lt hx4 (hm' x hx4) (by decide))), wb_or (fixB_lt hm' x (by omega)) (fix1_lt hm' hx4), nI_add]
    exact ih
theorem c_restart (ht : isTab t) (h1 : 1 ≤ n) (h4 : n ≤ 4) {K : gk_H → Prop} (k : ∀ c', Fr [t, t + 1] c c' → Tab c' t n (fun a => a) (fixB (fun a => a) n) → K (Hm c')) : RnV E mX8_restart (dd + 2, 0, 0) [.ref t, .int (nI n)] (Hm c) K := by
  refine vX8_restart_0 (stI ht.1 rfl ?_)
  refine down (P := fun a => ∀ c', Fr [t, t + 1] c c' → c'.1 t 0 = nI n → (∀ b, b < a → c'.1 (t + 1) b = nI b) → pX8_restart_7 E (dd + 1) t (nI n) (nI a) (Hm c') K) 4 ?_ ?_ 0 (Nat.zero_le _) _ (Fr.rf.mI (by simp)) mI_s (fun b hb => absurd hb (by omega))
  · intro c' hf hn hb
    have hm : ∀ a, a < 4 → c'.1 (t + 1) a = nI ((fun a => a) a) ∧ (fun a => a) a < 4 := fun a ha => ⟨hb a ha, ha⟩
    refine vX8_restart_7 (bLe (fun _ => ⟨obj ht.1, c_keepFixed ht hn h4 hm (k _ (hf.mL (by simp)) ?_)⟩) (fun h => absurd h (by omega)))
    exact ⟨hn, h1, h4, mL_s, fixB_lt (fun a h => h) n h4, hm⟩
  · intro a ha ih c' hf hn hb
    refine vX8_restart_7 (bLe (fun h => absurd h (by omega)) (fun _ => ldR ht.1 rfl (asI ht.2 ha (by decide) ?_)))
    rw [nI_add]
    refine ih _ (hf.mI (by simp)) (by rw [mI_n (by omega)]; exact hn) (fun b hb2 => ?_)
    by_cases e : b = a
    · subst e; exact mI_s
    · rw [mI_n (by omega)]; exact hb b (by omega)
end TB
