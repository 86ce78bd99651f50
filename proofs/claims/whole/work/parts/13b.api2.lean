/-! over, solved, equivalence, broken -/
def sp_ov (n N : Nat) (x y s : Int32) : Int32 := if inR x 0 (2 ^ n : Nat) = true ∧ inR y 0 (2 ^ n : Nat) = true ∧ inR s 0 (2 : Nat) = true then nI (resB N n (w x) (w y) (w s) n) else -2
def sp_so (n N : Nat) (y z s q : Int32) : Int32 := if inR y 0 (2 ^ n : Nat) = true ∧ inR z 0 (2 ^ n : Nat) = true ∧ inR s 0 (2 : Nat) = true then (if inR q 0 (3 : Nat) = true then solA (solS N n (w y) (w z) (w s) (2 ^ n)) (w q) else -1) else -2
def eqC (mir : Nat → Nat) (N n : Nat) (x : Nat) : Nat := cs (fun x => b1 (eqv mir N n x)) x
def eqG (mir : Nat → Nat) (N n : Nat) (k : Int32) (x : Nat) : Option Nat := if eqv mir N n x = true ∧ nI (eqC mir N n x) = k then some x else none
def eqE (mir : Nat → Nat) (N n : Nat) (k : Int32) (o : Option Nat) : Int32 := match o with
  | some x => nI x
  | none => if k = -1 then nI (eqC mir N n (2 ^ n)) else -1
def sp_eq (mir : Nat → Nat) (N n : Nat) (k : Int32) : Int32 := if -1 ≤ k then eqE mir N n k (ffrom (2 ^ n) (eqG mir N n k) 0) else -1
def sp_br (n N : Nat) (q : Int32) : Int32 := if inR q 0 (4 : Nat) = true then (if w q = 0 then nI (brkC N n) else if w q = 1 then orN (brkF N n) else if w q = 2 then nI (thnC N n) else orN (thnF N n)) else -1
section AP
variable {E : gk_E} {dd : Nat} {c : gm} {n N : Nat} {mir : Nat → Nat}
theorem c_over (hT : Tab c 2 n mir N) {x y s : Int32} {K : Int32 → gk_H → Prop} (k : K (sp_ov n N x y s) (Hm c)) : RnI E mX11_over (dd + 3, 0, 0) [.ref 0, .int x, .int y, .int s] (Hm c) K := by
  have hp := pow_16 hT.2.2.1
  refine vX11_over_0 ⟨obj l0, c_isRelation hT (rng (by omega) (fun h => ?_) (fun j hj hx h => ⟨obj l0, c_isRelation hT (rng (by omega) (fun h' => ?_) (fun j' hj' hx' h' => c_isSide (rngN (by decide) (fun q hq hy h2 => ldR l0 rfl (ldR l1 rfl ⟨obj l2, ?_⟩)) (fun h2 => ?_))))⟩))⟩
  · rw [sp_ov, if_neg (by rw [h]; simp)] at k; exact k
  · rw [sp_ov, if_neg (by rw [h']; simp)] at k; exact k
  · subst hx hx' hy
    rw [sp_ov, if_pos ⟨h, h', h2⟩, w_nI (by omega), w_nI (by omega), w_nI (by omega)] at k
    exact c_residual isTab_2 hT (by omega) (by omega) (by omega) k
  · rw [sp_ov, if_neg (by rw [h2]; simp)] at k; exact k
theorem n_over (hM : MT c n mir N) {x y s : Int32} {K : Int32 → gk_H → Prop} (k : K (sp_ov n N x y s) (Hm c)) : RnI E mX12_over (dd + 3, 0, 0) [.ref 68, .int x, .int y, .int s] (Hm c) K := by
  have h4 := hM.n4
  have hp := pow_16 h4
  refine vX12_over_0 ⟨obj l68, n_isRelation hM (rng (by omega) (fun h => ?_) (fun j hj hx h => ⟨obj l68, n_isRelation hM (rng (by omega) (fun h' => ?_) (fun j' hj' hx' h' => n_isFrom (lo := 0) (hi := 1) (by decide) (by decide) (rngN (by decide) (fun q hq hy h2 => ?_) (fun h2 => ?_))))⟩))⟩
  · rw [sp_ov, if_neg (by rw [h]; simp)] at k; exact k
  · rw [sp_ov, if_neg (by rw [h']; simp)] at k; exact k
  · subst hx hx' hy
    rw [sp_ov, if_pos ⟨h, h', h2⟩, w_nI (by omega), w_nI (by omega), w_nI (by omega)] at k
    refine down0 (P := fun a => pX12_over_35 E (dd + 2) 68 (nI j) (nI j') (nI q) (nI (resB N n j j' q a)) (nI a) (Hm c) K) n ?_ ?_
    · refine vX12_over_35 (ldI l68 rfl ?_)
      rw [hM.hn]
      exact bLe (fun _ => k) (fun h => absurd h (by omega))
    · intro a ha ih
      refine vX12_over_35 (ldI l68 rfl ?_)
      rw [hM.hn]
      have hp2 := pow4 (a := a) (by omega)
      refine bLe (fun h => absurd h (by omega)) (fun _ => ⟨obj l68, ?_⟩)
      rw [sh1 (by omega), nI_add, nor0, fa_or]
      refine n_composedBy hM (by omega) (by omega) (by omega) ?_
      have hl := sdd_lt N n (2 ^ a) j' q
      refine bSub (fun h => ?_) (fun h => ?_)
      · rw [resB, if_neg h] at ih; exact ih
      · rw [resB, if_pos h] at ih; exact ih
  · rw [sp_ov, if_neg (by rw [h2]; simp)] at k; exact k
theorem c_solved (hT : Tab c 2 n mir N) {y z s q : Int32} {K : Int32 → gk_H → Prop} (k : K (sp_so n N y z s q) (Hm c)) : RnI E mX11_solved (dd + 3, 0, 0) [.ref 0, .int y, .int z, .int s, .int q] (Hm c) K := by
  have hp := pow_16 hT.2.2.1
  refine vX11_solved_0 ⟨obj l0, c_isRelation hT (rng (by omega) (fun h => ?_) (fun j hj hx h => ⟨obj l0, c_isRelation hT (rng (by omega) (fun h' => ?_) (fun j' hj' hx' h' => c_isSide (rngN (by decide) (fun i hi hy h2 => ⟨fun g => ?_, fun g => ⟨fun g2 => ldR l0 rfl (ldR l1 rfl ⟨obj l2, ?_⟩), fun g2 => ?_⟩⟩) (fun h2 => ?_))))⟩))⟩
  · rw [sp_so, if_neg (by rw [h]; simp)] at k; exact k
  · rw [sp_so, if_neg (by rw [h']; simp)] at k; exact k
  · rw [sp_so, if_pos ⟨h, h', h2⟩, if_neg (by rw [inR_0 g]; decide)] at k; exact k
  · have g3 : inR q 0 (3 : Nat) = true := by
      refine inR_ok0 g (fun e => ?_) (by decide)
      rw [Int32.le_iff_toInt_le] at g2 e
      rw [nI_toInt (by decide)] at g2 e
      omega
    obtain ⟨f, hf, hq⟩ := inR_nI (by decide) g3
    subst hx hx' hy hq
    rw [sp_so, if_pos ⟨h, h', h2⟩, if_pos g3, w_nI (by omega), w_nI (by omega), w_nI (by omega), w_nI (by omega)] at k
    exact c_solutions isTab_2 hT (by omega) (by omega) (by omega) (by omega) k
  · have g3 : inR q 0 (3 : Nat) = false := by
      refine inR_hi ?_ (by decide)
      rw [Int32.le_iff_toInt_le] at g2 ⊢
      rw [nI_toInt (by decide)] at g2 ⊢
      omega
    rw [sp_so, if_pos ⟨h, h', h2⟩, if_neg (by rw [g3]; decide)] at k; exact k
  · rw [sp_so, if_neg (by rw [h2]; simp)] at k; exact k
theorem n_solved (hM : MT c n mir N) {y z s q : Int32} {K : Int32 → gk_H → Prop} (k : K (sp_so n N y z s q) (Hm c)) : RnI E mX12_solved (dd + 3, 0, 0) [.ref 68, .int y, .int z, .int s, .int q] (Hm c) K := by
  have h4 := hM.n4
  have hp := pow_16 h4
  refine vX12_solved_0 ⟨obj l68, n_isRelation hM (rng (by omega) (fun h => ?_) (fun j hj hx h => ⟨obj l68, n_isRelation hM (rng (by omega) (fun h' => ?_) (fun j' hj' hx' h' => n_isFrom (lo := 0) (hi := 1) (by decide) (by decide) (rngN (by decide) (fun i hi hy h2 => n_isFrom (lo := 0) (hi := 2) (by decide) (by decide) (rngN (by decide) (fun f hf hq h3 => ?_) (fun h3 => ?_))) (fun h2 => ?_))))⟩))⟩
  · rw [sp_so, if_neg (by rw [h]; simp)] at k; exact k
  · rw [sp_so, if_neg (by rw [h']; simp)] at k; exact k
  · subst hx hx' hy hq
    rw [sp_so, if_pos ⟨h, h', h2⟩, if_pos h3, w_nI (by omega), w_nI (by omega), w_nI (by omega), w_nI (by omega)] at k
    refine down0 (P := fun x => pX12_solved_57 E (dd + 2) 68 (nI j) (nI j') (nI i) (nI f) (nI (solS N n j j' i x).1) (solS N n j j' i x).2.1 (nI (solS N n j j' i x).2.2) (nI x) (Hm c) K) (2 ^ n) ?_ ?_
    · refine vX12_solved_57 (ldI l68 rfl ?_)
      rw [hM.hn, sh1 (by omega)]
      have hle := solS_le N n j j' i (2 ^ n)
      refine bLe (fun _ => bN0 (fun e => bNe (fun e1 => bN0 (fun e2 => ?_) (fun e2 => ?_)) (fun e1 => ?_)) (fun e => ?_)) (fun e => absurd e (by omega))
      · rw [solA, if_neg e, if_neg e1, if_neg e2] at k; exact k
      · have e3 : (solS N n j j' i (2 ^ n)).2.1 = -5 := by
          have gen : ∀ x, (solS N n j j' i x).1 = 0 → (solS N n j j' i x).2.1 = -5 := by
            intro x
            induction x with
            | zero => intro _; rfl
            | succ x ih =>
              intro h0
              simp only [solS] at h0 ⊢
              split
              · rename_i hh; rw [if_pos hh] at h0; simp at h0
              · rename_i hh; rw [if_neg hh] at h0; exact ih h0
          exact gen _ e2
        rw [solA, if_neg e, if_neg e1, if_pos e2, e3] at k; exact k
      · rw [solA, if_neg e, if_pos e1] at k; exact k
      · rw [solA, if_pos e] at k; exact k
    · intro x hx ih
      have hle := solS_le N n j j' i x
      have hl := sdd_lt N n x j i
      refine vX12_solved_57 (ldI l68 rfl ?_)
      rw [hM.hn, sh1 (by omega)]
      refine bLe (fun e => absurd e (by omega)) (fun _ => ⟨obj l68, n_composedBy hM (by omega) (by omega) (by omega) (bNe (fun h => ?_) (fun h => bN0 (fun h2 => ?_) (fun h2 => ?_)))⟩)
      · rw [show solS N n j j' i (x + 1) = solS N n j j' i x by simp only [solS, if_neg h]] at ih
        rw [nI_add]
        exact ih
      · rw [show solS N n j j' i (x + 1) = ((solS N n j j' i x).1 + 1, (solS N n j j' i x).2.1, (solS N n j j' i x).2.2 ||| x) by simp only [solS, if_pos h, if_neg h2]] at ih
        rw [nI_add, nI_add, fa_or]
        exact ih
      · rw [show solS N n j j' i (x + 1) = ((solS N n j j' i x).1 + 1, nI x, (solS N n j j' i x).2.2 ||| x) by simp only [solS, if_pos h, if_pos h2]] at ih
        rw [nI_add, nI_add, fa_or]
        exact ih
  · rw [sp_so, if_pos ⟨h, h', h2⟩, if_neg (by rw [h3]; decide)] at k; exact k
  · rw [sp_so, if_neg (by rw [h2]; simp)] at k; exact k
theorem n_isEquivalence (hM : MT c n mir N) {x : Nat} (hx : x < 2 ^ 31) {K : Int32 → gk_H → Prop} (k : K (bI (eqv mir N n x)) (Hm c)) : RnI E mX12_isEquivalence (dd + 2, 0, 0) [.ref 68, .int (nI x)] (Hm c) K := by
  have hl := prd_lt N n x x
  have hm : mirB mir x n < 16 := mirB_lt (fun a h => (hM.row a h).2) n hM.n4
  refine vX12_isEquivalence_0 (m_has hx (by decide) (bB0 (fun h0 => ?_) (fun h0 => ⟨obj l68, n_turned hM hx (bNe (fun h => ?_) (fun h => ⟨obj l68, n_composed hM hx hx (bSub (fun h2 => ?_) (fun h2 => ?_))⟩))⟩)))
  · simp only [eqv, h0, Bool.false_and] at k; exact k
  · simp only [eqv, h0, beq_false_of_ne h, Bool.and_false, Bool.false_and] at k; exact k
  · simp only [eqv, h0, h, beq_false_of_ne h2, Bool.and_false] at k; exact k
  · simp only [eqv, h0, h, h2, beq_self_eq_true, Bool.and_true] at k; exact k
theorem eqC_le (mir : Nat → Nat) (N n x : Nat) : eqC mir N n x ≤ x := by
  have := cs_le (f := fun x => b1 (eqv mir N n x)) (m := 1) (fun i => b1_le _) x
  unfold eqC
  omega
theorem c_equivalence (hT : Tab c 2 n mir N) {q : Int32} {K : Int32 → gk_H → Prop} (k : K (sp_eq mir N n q) (Hm c)) : RnI E mX11_equivalence (dd + 2, 0, 0) [.ref 0, .int q] (Hm c) K := by
  have hp := pow_16 hT.2.2.1
  refine vX11_equivalence_0 ⟨fun h => ?_, fun h => ?_⟩
  · rw [sp_eq, if_pos h] at k
    refine down (P := fun x => K (eqE mir N n q (ffrom (2 ^ n) (eqG mir N n q) x)) (Hm c) → pX11_equivalence_11 E (dd + 1) 0 q (nI (eqC mir N n x)) (nI x) (Hm c) K) (2 ^ n) ?_ ?_ 0 (Nat.zero_le _) k
    · intro k
      rw [ffrom_end] at k
      refine vX11_equivalence_11 (ldR l0 rfl (ldR l1 rfl ⟨obj l2, c_relations isTab_2 hT (bLe (fun _ => ⟨fun e => ?_, fun e => ?_⟩) (fun e => absurd e (by omega)))⟩))
      · rw [eqE, if_neg e] at k; exact k
      · rw [eqE, if_pos e] at k; exact k
    · intro x hx ih k
      refine vX11_equivalence_11 (ldR l0 rfl (ldR l1 rfl ⟨obj l2, c_relations isTab_2 hT (bLe (fun e => absurd e (by omega)) (fun _ => ldR l0 rfl (ldR l1 rfl ⟨obj l2, c_isEquivalence isTab_2 hT (by omega) (bB0 (fun e => ?_) (fun e => ⟨fun e2 => ?_, fun e2 => ?_⟩))⟩)))⟩))
      · rw [ffrom_none hx (by rw [eqG, if_neg (by rw [e]; simp)])] at k
        have := ih k
        rw [eqC, cs, e] at this
        rw [nI_add]
        exact this
      · rw [ffrom_none hx (by rw [eqG, if_neg (fun z => e2 z.2)])] at k
        have := ih k
        rw [eqC, cs, e] at this
        rw [nI_add, nI_add]
        exact this
      · rw [ffrom_some hx (show eqG mir N n q x = some x by rw [eqG, if_pos ⟨e, e2⟩])] at k
        exact k
  · rw [sp_eq, if_neg h] at k; exact k
theorem n_equivalence (hM : MT c n mir N) {q : Int32} {K : Int32 → gk_H → Prop} (k : K (sp_eq mir N n q) (Hm c)) : RnI E mX12_equivalence (dd + 3, 0, 0) [.ref 68, .int q] (Hm c) K := by
  have h4 := hM.n4
  have hp := pow_16 h4
  refine vX12_equivalence_0 ⟨fun h => ?_, fun h => ?_⟩
  · rw [sp_eq, if_pos h] at k
    refine down (P := fun x => K (eqE mir N n q (ffrom (2 ^ n) (eqG mir N n q) x)) (Hm c) → pX12_equivalence_11 E (dd + 2) 68 q (nI (eqC mir N n x)) (nI x) (Hm c) K) (2 ^ n) ?_ ?_ 0 (Nat.zero_le _) k
    · intro k
      rw [ffrom_end] at k
      refine vX12_equivalence_11 (ldI l68 rfl ?_)
      rw [hM.hn, sh1 (by omega)]
      refine bLe (fun _ => ⟨fun e => ?_, fun e => ?_⟩) (fun e => absurd e (by omega))
      · rw [eqE, if_neg e] at k; exact k
      · rw [eqE, if_pos e] at k; exact k
    · intro x hx ih k
      refine vX12_equivalence_11 (ldI l68 rfl ?_)
      rw [hM.hn, sh1 (by omega)]
      refine bLe (fun e => absurd e (by omega)) (fun _ => ⟨obj l68, n_isEquivalence hM (by omega) (bB0 (fun e => ?_) (fun e => ⟨fun e2 => ?_, fun e2 => ?_⟩))⟩)
      · rw [ffrom_none hx (by rw [eqG, if_neg (by rw [e]; simp)])] at k
        have := ih k
        rw [eqC, cs, e] at this
        rw [nI_add]
        exact this
      · rw [ffrom_none hx (by rw [eqG, if_neg (fun z => e2 z.2)])] at k
        have := ih k
        rw [eqC, cs, e] at this
        rw [nI_add, nI_add]
        exact this
      · rw [ffrom_some hx (show eqG mir N n q x = some x by rw [eqG, if_pos ⟨e, e2⟩])] at k
        exact k
  · rw [sp_eq, if_neg h] at k; exact k
theorem r4 {q : Int32} {A B : Prop} (g : ∀ j, j < 4 → q = nI j → inR q 0 (4 : Nat) = true → B) (f : inR q 0 (4 : Nat) = false → A) : (q < 0 → A) ∧ (¬ q < 0 → (q ≤ nI 3 → B) ∧ (¬ q ≤ nI 3 → A)) := by
  refine ⟨fun h => f (inR_0 h), fun h => ⟨fun h2 => ?_, fun h2 => f (inR_hi ?_ (by decide))⟩⟩
  · have g3 : inR q 0 (4 : Nat) = true := by
      refine inR_ok0 h (fun e => ?_) (by decide)
      rw [Int32.le_iff_toInt_le, nI_toInt (by decide)] at h2 e
      omega
    obtain ⟨j, hj, hq⟩ := inR_nI (by decide) g3
    exact g j hj hq g3
  · rw [Int32.le_iff_toInt_le, nI_toInt (by decide)] at h2 ⊢
    omega
theorem c_broken (hT : Tab c 2 n mir N) {q : Int32} {K : Int32 → gk_H → Prop} (k : K (sp_br n N q) (Hm c)) : RnI E mX11_broken (dd + 3, 0, 0) [.ref 0, .int q] (Hm c) K := by
  refine vX11_broken_0 (r4 (fun j hj hq h => ?_) (fun h => ?_))
  · subst hq
    rw [sp_br, if_pos h, w_nI (by omega)] at k
    refine bLe (fun e => ldR l0 rfl (ldR l1 rfl (bNe (fun e1 => ⟨obj l2, ?_⟩) (fun e1 => ⟨obj l2, ?_⟩)))) (fun e => ldR l0 rfl (ldR l1 rfl (bN0 (fun e1 => ⟨obj l2, ?_⟩) (fun e1 => ⟨obj l2, ?_⟩))))
    · rw [if_neg (by omega), if_neg (by omega), if_neg e1] at k
      exact c_thinF isTab_2 hT k
    · rw [if_neg (by omega), if_neg (by omega), if_pos e1] at k
      exact c_thinT isTab_2 hT k
    · rw [if_neg e1, if_pos (by omega)] at k
      exact c_unbalancedF isTab_2 hT k
    · rw [if_pos e1] at k
      exact c_unbalancedT isTab_2 hT k
  · rw [sp_br, if_neg (by rw [h]; decide)] at k; exact k
end AP
