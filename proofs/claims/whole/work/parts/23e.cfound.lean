/-! found: the class -/
theorem isWh56 : isWh 56 5 := ⟨⟨_, l56⟩, l57, l58, l59⟩
theorem WI5 : WI mX5_clash 5 := ⟨Or.inr (Or.inl rfl), cuX10_34_5, by decide⟩
/-- the steps are laid from place p on -/
def PcR (P n N : Nat) (mir : Nat → Nat) (p : Nat) (f : fT) (c : gm) : Prop := c.1 56 5 = nI P ∧ Tab c 2 n mir N ∧ c.1 60 0 = nI 0 ∧ ∀ q, p ≤ q → q < P / 2 → c.1 60 (P / 2 - q) = nI (f q) ∧ c.1 60 (P - (P / 2 - q)) = nI (mir (f q))
section FC
variable {E : gk_E} {dd : Nat} {c : gm} {P n N : Nat} {mir : Nat → Nat} {f : fT}
theorem PcR.st {p e : Nat} (h : PcR P n N mir p f c) (hl : ld (P / 2 - p) e P = true) (he : e < P) : c.1 60 e = nI (stF mir P f e) := by
  unfold ld at hl
  simp only [Bool.or_eq_true, decide_eq_true_eq] at hl
  obtain ⟨_, _, h0, h1⟩ := h
  unfold stF
  by_cases e0 : e = 0
  · rw [if_pos e0, e0]; exact h0
  · rw [if_neg e0]
    by_cases e1 : e ≤ P / 2
    · rw [if_pos e1]
      have := (h1 (P / 2 - e) (by omega) (by omega)).1
      rw [show P / 2 - (P / 2 - e) = e by omega] at this
      exact this
    · rw [if_neg e1]
      have := (h1 (P / 2 - (P - e)) (by omega) (by omega)).2
      rw [show P - (P / 2 - (P / 2 - (P - e))) = e by omega] at this
      exact this
theorem c_goes {p : Nat} (h13 : P ≤ 13) (h : PcR P n N mir p f c) (hp : p < P / 2) (hs : ∀ e, e < P → ld (P / 2 - p) e P = true → stF mir P f e < 4) {K : Int32 → gk_H → Prop} (k : K (bI (lgo N mir P p f)) (Hm c)) : RnI E mX5_goes (dd + 1, 0, 0) [.ref 56, .int (nI (P / 2 - p))] (Hm c) K := by
  have hd : P / 2 - p < P := by omega
  have hd1 : 1 ≤ P / 2 - p := by omega
  have hd2 : P / 2 - p ≤ P - (P / 2 - p) := by omega
  have hT := h.2.1
  have hst : ∀ e, ld (P / 2 - p) e P = true → e < P → c.1 60 e = nI (stF mir P f e) := fun e hl he => h.st hl he
  have h5 := h.1
  unfold lgo at k
  generalize P / 2 - p = d at *
  refine vX5_goes_0 ?_
  refine downF (P := fun e => (∀ q, q < e → lgo1 N mir P d f q = true) → pX5_goes_2 E dd 56 (nI d) (nI e) (Hm c) K) 1 P (by omega) ?_ ?_ (fun q hq => by rw [show q = 0 by omega]; rfl)
  · intro ha
    refine vX5_goes_2 (ldI l56 rfl ?_)
    rw [h5]
    refine bLe (fun _ => ?_) (fun z => absurd z (by omega))
    rw [show (List.range P).all (lgo1 N mir P d f) = true from List.all_eq_true.mpr (fun q hq => ha q (List.mem_range.mp hq))] at k
    exact k
  · intro e he1 he ih ha
    have hr := rs_lt hd he
    have nx : lgo1 N mir P d f e = true → pX5_goes_2 E dd 56 (nI d) (nI e + nI 1) (Hm c) K := fun ht => by
      rw [nI_add]
      refine ih (fun q hq => ?_)
      by_cases eq : q = e
      · subst eq; exact ht
      · exact ha q (by omega)
    have t0 : (ld d e P && ld d (rs d e P) P) = false → pX5_goes_2 E dd 56 (nI d) (nI e + nI 1) (Hm c) K := fun e0 => nx (by unfold lgo1; rw [e0]; simp)
    have t1 : ld d e P = true → ld d (rs d e P) P = true → LdR (Hm c) 56 5 4 fun v3 => LdR (Hm c) 56 5 6 fun v4 => AlI (Hm c) v4 (nI e) fun v5 => LdR (Hm c) 56 5 6 fun v6 => AlI (Hm c) v6 (nI (rs d e P)) fun v7 => LdR (Hm c) 56 5 6 fun v8 => AlI (Hm c) v8 (nI d) fun v9 => (∃ fs, (Hm c)[v3]? = some (.inr (8, fs))) ∧ RnI E mX8_has (dd, 0, 0) [.ref v3, .int v5, .int v7, .int v9] (Hm c) (fun v10 h10 => (¬ v10 = 0 → pX5_goes_2 E dd 56 (nI d) (nI e + nI 1) h10 K) ∧ (v10 = 0 → K (nI 0) h10)) := fun e1 e2 => by
      have ed : ld d d P = true := by unfold ld; simp
      refine ldR l56 rfl (ldR l56 rfl (alI l60 (by omega) (by decide) (ldR l56 rfl (alI l60 (by omega) (by decide) (ldR l56 rfl (alI l60 (by omega) (by decide) ⟨obj l2, ?_⟩))))))
      rw [hst e e1 he, hst _ e2 hr, hst d ed hd]
      refine c_has ⟨l2, l3⟩ hT (hs e he e1) (hs _ hr e2) (hs d hd ed) ?_
      refine bBn (fun e3 => nx (by unfold lgo1; rw [e3]; simp)) (fun e3 => ?_)
      have : (List.range P).all (lgo1 N mir P d f) = false := by
        cases hh : (List.range P).all (lgo1 N mir P d f) with
        | false => rfl
        | true =>
          have := List.all_eq_true.mp hh e (List.mem_range.mpr he)
          unfold lgo1 at this
          rw [e1, e2, e3, show (e == 0) = false by simp; omega] at this
          exact absurd this (by decide)
      rw [this] at k
      exact k
    refine vX5_goes_2 (ldI l56 rfl ?_)
    rw [h5]
    refine bLe (fun z => absurd z (by omega)) (fun _ => bLt (fun hde => ldI l56 rfl ?_) (fun hed => ?_))
    · rw [h5, rsI (by omega), show d + P - e = rs d e P from by unfold rs; rw [if_neg (by omega)]]
      have er : rs d e P = d + P - e := by unfold rs; rw [if_neg (by omega)]
      refine bLe (fun z => absurd z (by omega)) (fun _ => ldI l56 rfl ?_)
      rw [h5, pk_sub (by omega)]
      refine bLt (fun z => ⟨fun _ => t0 ?_, fun z => absurd rfl z⟩) (fun z => bLe (fun z2 => ⟨fun z => absurd z (by decide), fun _ => t1 ?_ ?_⟩) (fun z2 => ldI l56 rfl ?_))
      · rw [show ld d e P = false from by unfold ld; simp; omega]; rfl
      · unfold ld; simp; omega
      · unfold ld; simp; omega
      · rw [h5, pk_sub (by omega)]
        refine bLt (fun z3 => ⟨fun _ => t0 ?_, fun z => absurd rfl z⟩) (fun z3 => ⟨fun z => absurd z (by decide), fun _ => t1 ?_ ?_⟩)
        · rw [show ld d (rs d e P) P = false from by unfold ld; simp; omega, Bool.and_false]
        · unfold ld; simp; omega
        · unfold ld; simp; omega
    · rw [pk_sub hed, show d - e = rs d e P from by unfold rs; rw [if_pos hed]]
      have er : rs d e P = d - e := by unfold rs; rw [if_pos hed]
      refine bLe (fun _ => bLe (fun z2 => ⟨fun z => absurd z (by decide), fun _ => t1 ?_ ?_⟩) (fun z => absurd z (by omega))) (fun z => absurd z (by omega))
      · unfold ld; simp; omega
      · unfold ld; simp; omega
end FC
