/-! ask, later, board -/
def BdC (c : gm) (bd : Bool) (bs : Nat) (bl : Nat → Nat → Nat) (aq : List Nat) (an : Nat) : Prop := c.1 52 1 = bI bd ∧ (bd = true → NetAt c 53 bs bl ∧ c.1 52 4 = nI aq.length ∧ aq.length ≤ 153 ∧ (∀ i g, aq[i]? = some g → c.1 55 i = nI g) ∧ c.1 52 5 = nI an)
def BdM (c : gm) (bd : Bool) (bs : Nat) (bl : Nat → Nat → Nat) (aq : List Nat) (an : Nat) : Prop := c.1 68 6 = bI bd ∧ (bd = true → MNet c 4 bs bl ∧ c.1 68 8 = nI aq.length ∧ aq.length ≤ 153 ∧ (∀ i g, aq[i]? = some g → c.1 73 i = nI g) ∧ c.1 68 9 = nI an)
theorem BdC.fr {c c' : gm} {bd : Bool} {bs an : Nat} {bl : Nat → Nat → Nat} {aq : List Nat} {l : List Nat} (h : BdC c bd bs bl aq an) (hf : Fr l c c') (h1 : 52 ∉ l) (h2 : 53 ∉ l) (h3 : 54 ∉ l) (h4 : 55 ∉ l) : BdC c' bd bs bl aq an := ⟨by rw [hf.i h1]; exact h.1, fun hb => by
  obtain ⟨a1, a2, a3, a4, a5⟩ := h.2 hb
  exact ⟨a1.fr hf h2 h3, by rw [hf.i h1]; exact a2, a3, fun i g hg => by rw [hf.i h4]; exact a4 i g hg, by rw [hf.i h1]; exact a5⟩⟩
def sp_ak (bd : Bool) (aq : List Nat) (x : Int32) : Int32 := if bd = true then (if inR x 0 aq.length = true then orM aq[w x]? else -1) else -3
def rotL (aq : List Nat) : List Nat := aq.tail ++ aq.head?.toList
section BD
variable {E : gk_E} {dd : Nat} {c : gm} {bd : Bool} {bs an : Nat} {bl : Nat → Nat → Nat} {aq : List Nat}
theorem c_ask (hB : BdC c bd bs bl aq an) {x : Int32} {K : Int32 → gk_H → Prop} (k : K (sp_ak bd aq x) (Hm c)) : RnI E mX11_ask (dd, 0, 0) [.ref 0, .int x] (Hm c) K := by
  refine vX11_ask_0 (ldR l0 rfl (ldI l52 rfl ?_))
  rw [hB.1]
  refine bBn (fun e => ?_) (fun e => ?_)
  · obtain ⟨a1, a2, a3, a4, a5⟩ := hB.2 e
    rw [sp_ak, if_pos e] at k
    refine ⟨fun z => ?_, fun z => ldR l0 rfl (ldI l52 rfl ?_)⟩
    · rw [inR_0 z] at k; exact k
    · rw [a2]
      refine ⟨fun z2 => ldR l0 rfl (ldR l52 rfl ?_), fun z2 => ?_⟩
      · have hx : inR x 0 aq.length = true := inR_ok0 z (fun y => by rw [Int32.lt_iff_toInt_lt] at z2; rw [Int32.le_iff_toInt_le] at y; omega) (by omega)
        rw [if_pos hx] at k
        obtain ⟨j, hj, rfl⟩ := inR_nI (by omega) hx
        rw [w_nI (by omega), List.getElem?_eq_getElem hj] at k
        refine alI l55 (by omega) (by decide) ?_
        rw [a4 j _ (List.getElem?_eq_getElem hj)]
        exact k
      · rw [inR_hi (by rw [Int32.lt_iff_toInt_lt] at z2; rw [Int32.le_iff_toInt_le]; omega) (by omega)] at k
        exact k
  · rw [sp_ak, if_neg (by rw [e]; decide)] at k; exact k
theorem n_ask (hB : BdM c bd bs bl aq an) {x : Int32} {K : Int32 → gk_H → Prop} (k : K (sp_ak bd aq x) (Hm c)) : RnI E mX12_ask (dd + 1, 0, 0) [.ref 68, .int x] (Hm c) K := by
  refine vX12_ask_0 (ldI l68 rfl ?_)
  rw [hB.1]
  refine bBn (fun e => ldI l68 rfl ?_) (fun e => ?_)
  · obtain ⟨a1, a2, a3, a4, a5⟩ := hB.2 e
    rw [sp_ak, if_pos e] at k
    rw [a2]
    refine n_inS (Or.inr ⟨_, by omega, rfl⟩) ?_
    rw [inS_nI (by omega)]
    refine bB0 (fun hx => ?_) (fun hx => ldR l68 rfl ?_)
    · rw [hx] at k; exact k
    · rw [if_pos hx] at k
      obtain ⟨j, hj, rfl⟩ := inR_nI (by omega) hx
      rw [w_nI (by omega), List.getElem?_eq_getElem hj] at k
      refine alI l73 (by omega) (by decide) ?_
      rw [a4 j _ (List.getElem?_eq_getElem hj)]
      exact k
  · rw [sp_ak, if_neg (by rw [e]; decide)] at k; exact k
theorem rot_at {g : Nat} {t : List Nat} {i v : Nat} (h : (t ++ [g])[i]? = some v) : (i < t.length ∧ t[i]? = some v) ∨ (i = t.length ∧ v = g) := by
  rcases Nat.lt_trichotomy i t.length with e | e | e
  · rw [List.getElem?_append_left e] at h; exact Or.inl ⟨e, h⟩
  · rw [List.getElem?_append_right (by omega), e, Nat.sub_self] at h
    exact Or.inr ⟨e, (Option.some.inj h).symm⟩
  · rw [List.getElem?_eq_none (by simp; omega)] at h; exact absurd h (by simp)
theorem c_later (hB : BdC c bd bs bl aq an) {K : Int32 → gk_H → Prop} (k1 : (bd = false ∨ aq = []) → K (-3) (Hm c)) (k2 : bd = true → aq ≠ [] → ∀ c', Fr [55] c c' → BdC c' bd bs bl (rotL aq) an → K (nI aq.length) (Hm c')) : RnI E mX11_later (dd + 1, 0, 0) [.ref 0] (Hm c) K := by
  refine vX11_later_0 (ldR l0 rfl (ldI l52 rfl ?_))
  rw [hB.1]
  refine bB0 (fun e => k1 (Or.inl e)) (fun e => ldR l0 rfl (ldI l52 rfl ?_))
  obtain ⟨a1, a2, a3, a4, a5⟩ := hB.2 e
  rw [a2]
  refine bN0 (fun e2 => ldR l0 rfl ⟨obj l52, ?_⟩) (fun e2 => k1 (Or.inr (List.length_eq_zero_iff.mp e2)))
  have k2 := k2 e (fun z => e2 (by rw [z]; rfl))
  obtain ⟨g, t, rfl⟩ : ∃ g t, aq = g :: t := by cases aq with
    | nil => exact absurd rfl e2
    | cons g t => exact ⟨g, t, rfl⟩
  rw [List.length_cons] at a2 a3 e2 k2
  refine vX0_rotate_0 (ldR l52 rfl (alI l55 (by decide) (by decide) ?_))
  rw [a4 0 g rfl]
  refine downF (P := fun m => ∀ c', Fr [55] c c' → (∀ i v, i + 1 < m → t[i]? = some v → c'.1 55 i = nI v) → (∀ i, m ≤ i → c'.1 55 i = c.1 55 i) → pX0_rotate_9 E dd 52 (nI g) (nI m) (Hm c') _) 1 (t.length + 1) (by omega) ?_ ?_ c Fr.rf (fun i v hi => absurd hi (by omega)) (fun _ _ => rfl)
  · intro c' hf h1 h2
    refine vX0_rotate_9 (ldI l52 rfl ?_)
    rw [hf.i (by decide), a2]
    refine bLe (fun _ => ldR l52 rfl (ldI l52 rfl ?_)) (fun z => absurd z (by omega))
    rw [hf.i (by decide), a2, nI_sub1 (by omega), Nat.add_sub_cancel]
    refine asI l55 (by omega) (by decide) (ldR l0 rfl (ldI l52 rfl ?_))
    have f2 : Fr [55] c (mI c' 55 t.length (nI g)) := hf.mI (by simp)
    rw [f2.i (by decide), a2]
    refine k2 _ f2 ⟨by rw [f2.i (by decide)]; exact hB.1, fun _ => ⟨a1.fr f2 (by decide) (by decide), by rw [f2.i (by decide), a2]; simp [rotL], by simp [rotL]; omega, fun i v hv => ?_, by rw [f2.i (by decide)]; exact a5⟩⟩
    rcases rot_at (show (t ++ [g])[i]? = some v from hv) with ⟨q1, q2⟩ | ⟨q1, q2⟩
    · rw [mI_n (by omega)]; exact h1 i v (by omega) q2
    · rw [q1, q2, mI_s]
  · intro m hm1 hm ih c' hf h1 h2
    refine vX0_rotate_9 (ldI l52 rfl ?_)
    rw [hf.i (by decide), a2]
    refine bLe (fun z => absurd z (by omega)) (fun _ => ldR l52 rfl (ldR l52 rfl (alI l55 (by omega) (by decide) ?_)))
    rw [nI_sub1 hm1, nI_add]
    refine asI l55 (by omega) (by decide) (ih _ (hf.mI (by simp)) (fun i v hi hv => ?_) (fun i hi => ?_))
    · by_cases e : i = m - 1
      · rw [e, mI_s, h2 m (Nat.le_refl _)]
        refine a4 m v ?_
        rw [e] at hv
        rw [show m = (m - 1) + 1 by omega, List.getElem?_cons_succ]
        exact hv
      · rw [mI_n (by omega)]; exact h1 i v (by omega) hv
    · rw [mI_n (by omega)]; exact h2 i (by omega)
theorem n_later (hB : BdM c bd bs bl aq an) {K : Int32 → gk_H → Prop} (k1 : (bd = false ∨ aq = []) → K (-3) (Hm c)) (k2 : bd = true → aq ≠ [] → ∀ c', Fr [73] c c' → BdM c' bd bs bl (rotL aq) an → K (nI aq.length) (Hm c')) : RnI E mX12_later (dd, 0, 0) [.ref 68] (Hm c) K := by
  refine vX12_later_0 (ldI l68 rfl ?_)
  rw [hB.1]
  refine bB0 (fun e => k1 (Or.inl e)) (fun e => ldI l68 rfl ?_)
  obtain ⟨a1, a2, a3, a4, a5⟩ := hB.2 e
  rw [a2]
  refine bN0 (fun e2 => ldR l68 rfl ?_) (fun e2 => k1 (Or.inr (List.length_eq_zero_iff.mp e2)))
  have k2 := k2 e (fun z => e2 (by rw [z]; rfl))
  obtain ⟨g, t, rfl⟩ : ∃ g t, aq = g :: t := by cases aq with
    | nil => exact absurd rfl e2
    | cons g t => exact ⟨g, t, rfl⟩
  rw [List.length_cons] at a2 a3 e2 k2
  refine alI l73 (by decide) (by decide) ?_
  rw [a4 0 g rfl]
  refine downF (P := fun m => ∀ c', Fr [73] c c' → (∀ i v, i + 1 < m → t[i]? = some v → c'.1 73 i = nI v) → (∀ i, m ≤ i → c'.1 73 i = c.1 73 i) → pX12_later_26 E dd 68 (nI g) (nI m) (Hm c') K) 1 (t.length + 1) (by omega) ?_ ?_ c Fr.rf (fun i v hi => absurd hi (by omega)) (fun _ _ => rfl)
  · intro c' hf h1 h2
    refine vX12_later_26 (ldI l68 rfl ?_)
    rw [hf.i (by decide), a2]
    refine bLe (fun _ => ldR l68 rfl (ldI l68 rfl ?_)) (fun z => absurd z (by omega))
    rw [hf.i (by decide), a2, nI_sub1 (by omega), Nat.add_sub_cancel]
    refine asI l73 (by omega) (by decide) (ldI l68 rfl ?_)
    have f2 : Fr [73] c (mI c' 73 t.length (nI g)) := hf.mI (by simp)
    rw [f2.i (by decide), a2]
    refine k2 _ f2 ⟨by rw [f2.i (by decide)]; exact hB.1, fun _ => ⟨a1.fr f2 (by decide) (by decide), by rw [f2.i (by decide), a2]; simp [rotL], by simp [rotL]; omega, fun i v hv => ?_, by rw [f2.i (by decide)]; exact a5⟩⟩
    rcases rot_at (show (t ++ [g])[i]? = some v from hv) with ⟨q1, q2⟩ | ⟨q1, q2⟩
    · rw [mI_n (by omega)]; exact h1 i v (by omega) q2
    · rw [q1, q2, mI_s]
  · intro m hm1 hm ih c' hf h1 h2
    refine vX12_later_26 (ldI l68 rfl ?_)
    rw [hf.i (by decide), a2]
    refine bLe (fun z => absurd z (by omega)) (fun _ => ldR l68 rfl (ldR l68 rfl (alI l73 (by omega) (by decide) ?_)))
    rw [nI_sub1 hm1, nI_add]
    refine asI l73 (by omega) (by decide) (ih _ (hf.mI (by simp)) (fun i v hi hv => ?_) (fun i hi => ?_))
    · by_cases e : i = m - 1
      · rw [e, mI_s, h2 m (Nat.le_refl _)]
        refine a4 m v ?_
        rw [e] at hv
        rw [show m = (m - 1) + 1 by omega, List.getElem?_cons_succ]
        exact hv
      · rw [mI_n (by omega)]; exact h1 i v (by omega) hv
    · rw [mI_n (by omega)]; exact h2 i (by omega)
def sp_bd (bd : Bool) (bs : Nat) (aq : List Nat) (an : Nat) (x : Int32) : Int32 := if bd = true then (if x = 0 then nI bs else if x = nI 1 then nI aq.length else if x = nI 2 then nI an else -1) else -3
theorem c_board (hB : BdC c bd bs bl aq an) {x : Int32} {K : Int32 → gk_H → Prop} (k : K (sp_bd bd bs aq an x) (Hm c)) : RnI E mX11_board (dd, 0, 0) [.ref 0, .int x] (Hm c) K := by
  refine vX11_board_0 (ldR l0 rfl (ldI l52 rfl ?_))
  rw [hB.1]
  refine bBn (fun e => ?_) (fun e => ?_)
  · obtain ⟨a1, a2, a3, a4, a5⟩ := hB.2 e
    rw [sp_bd, if_pos e] at k
    refine ⟨⟨fun z => ldR l0 rfl (ldR l52 rfl (ldI l53 rfl ?_)), fun z => ldR l0 rfl (ldI l52 rfl ?_), fun z => ldR l0 rfl (ldI l52 rfl ?_)⟩, fun z => ?_⟩
    · subst z; rw [a1.1]; exact k
    · subst z; rw [a2]; exact k
    · subst z; rw [a5]; exact k
    · rw [if_neg (show ¬ x = 0 from z 0 (by decide)), if_neg (z 1 (by decide)), if_neg (z 2 (by decide))] at k; exact k
  · rw [sp_bd, if_neg (by rw [e]; decide)] at k; exact k
theorem n_board (hB : BdM c bd bs bl aq an) {x : Int32} {K : Int32 → gk_H → Prop} (k : K (sp_bd bd bs aq an x) (Hm c)) : RnI E mX12_board (dd, 0, 0) [.ref 68, .int x] (Hm c) K := by
  refine vX12_board_0 (ldI l68 rfl ?_)
  rw [hB.1]
  refine bBn (fun e => ?_) (fun e => ?_)
  · obtain ⟨a1, a2, a3, a4, a5⟩ := hB.2 e
    rw [sp_bd, if_pos e] at k
    refine ⟨fun z => ⟨fun z2 => ⟨fun z3 => ?_, fun z3 => ldI l68 rfl ?_⟩, fun z2 => ldI l68 rfl ?_⟩, fun z => ldR l68 rfl (alI l71 (by decide) (by decide) ?_)⟩
    · rw [if_neg z, if_neg z2, if_neg z3] at k; exact k
    · rw [if_neg z, if_neg z2, if_pos z3] at k; rw [a5]; exact k
    · rw [if_neg z, if_pos z2] at k; rw [a2]; exact k
    · rw [if_pos z] at k; rw [a1.1]; exact k
  · rw [sp_bd, if_neg (by rw [e]; decide)] at k; exact k
end BD
