/-! spelled: the reference -/
def wds : List Nat := [97, 116, 111, 109, 115, 32, 112, 97, 105, 114, 32, 105, 110, 32, 111, 117, 116, 32]
/-- the words and their figures, as they stand in the reference -/
def WdM (c : gm) : Prop := (∀ k, k < 18 → c.1 77 k = nI (wds.getD k 0)) ∧ ∀ k, k < 4 → c.1 78 k = nI ([1, 2, 3, 3].getD k 0)
theorem WdM.f8 {c c' : gm} {l ks : List Nat} (h : WdM c) (hf : F8 l ks c c') (h1 : 77 ∉ 68 :: l) (h2 : 78 ∉ 68 :: l) : WdM c' := ⟨fun k hk => by rw [hf.i h1]; exact h.1 k hk, fun k hk => by rw [hf.i h2]; exact h.2 k hk⟩
def sgn (x : Int32) (A : List Nat) : Int32 := if x = -1 then -1 else orM A[w x]?
def SgM (c : gm) (x : Int32) (A : List Nat) : Prop := c.1 68 24 = nI A.length ∧ c.1 68 25 = x ∧ c.1 68 26 = sgn x A
section MSP
variable {E : gk_E} {dd : Nat} {c : gm} {n N : Nat} {mir : Nat → Nat} {A : List Nat} {x : Int32}
theorem n_writes (hx : -1 ≤ x) (hS : SgM c x A) (hl : A.length < 2 ^ 30) {v : Nat} {K : gk_H → Prop} (k : ∀ c', F8 [] [24, 26] c c' → SgM c' x (A ++ [v]) → K (Hm c')) : RnV E mX12_writes (dd, 0, 0) [.ref 68, .int (nI v)] (Hm c) K := by
  obtain ⟨s1, s2, s3⟩ := hS
  refine vX12_writes_0 (ldI l68 rfl (ldI l68 rfl ?_))
  rw [s1, s2]
  refine ⟨fun e => ldI l68 rfl (stI l68 rfl (ldI l68 rfl ?_)), fun e => stI l68 rfl (ldI l68 rfl ?_)⟩
  · rw [mI_n (by omega), s1, s3, nI_add]
    refine stI l68 rfl (k _ ((F8.rf.slot (by simp)).slot (by simp)) ⟨by rw [mI_s, List.length_append]; rfl, by rw [mI_n (by omega), mI_n (by omega)]; exact s2, ?_⟩)
    rw [mI_n (by omega), mI_s]
    rcases ge_m1 hx with e1 | ⟨q, hq, e1⟩
    · unfold sgn; rw [if_pos e1, if_pos e1]
    · subst e1
      unfold sgn
      rw [if_neg (nI_ne1 hq), if_neg (nI_ne1 hq), w_nI hq]
      by_cases z : q < A.length
      · rw [List.getElem?_append_left z]
      · have ne : q ≠ A.length := fun z => e (by rw [z])
        rw [List.getElem?_eq_none (by omega), List.getElem?_eq_none (by rw [List.length_append, List.length_singleton]; omega)]
  · rw [mI_n (by omega), s1, nI_add]
    refine stI l68 rfl (k _ ((F8.rf.slot (by simp)).slot (by simp)) ⟨by rw [mI_s, List.length_append]; rfl, by rw [mI_n (by omega), mI_n (by omega)]; exact s2, ?_⟩)
    rw [mI_n (by omega), mI_s, ← e]
    unfold sgn
    rw [if_neg (nI_ne1 (by omega)), w_nI (by omega), List.getElem?_append_right (Nat.le_refl _), Nat.sub_self]
    rfl
theorem n_writesFigure (hx : -1 ≤ x) (hS : SgM c x A) (hl : A.length < 2 ^ 29) {v : Nat} {K : gk_H → Prop} (k : ∀ c', F8 [] [24, 26] c c' → SgM c' x (A ++ fgT v) → K (Hm c')) : RnV E mX12_writesFigure (dd + 1, 0, 0) [.ref 68, .int (nI v)] (Hm c) K := by
  refine vX12_writesFigure_0 ⟨obj l68, n_writes hx hS (by omega) (fun c1 f1 t1 => ⟨obj l68, ?_⟩)⟩
  rw [nI_add]
  refine n_writes hx t1 (by rw [List.length_append, List.length_singleton]; omega) (fun c2 f2 t2 => k c2 (f1.trans f2) ?_)
  rw [List.append_assoc] at t2
  exact t2
theorem n_ww36 (hx : -1 ≤ x) {x1 x2 : Int32} {K : gk_H → Prop} : ∀ (l : List Nat) p c A, WdM c → SgM c x A → A.length + l.length < 2 ^ 29 → p + l.length < 18 → (∀ i v, l[i]? = some v → wds.getD (p + i) 0 = v ∧ v ≠ 32 ∧ v < 128) → wds.getD (p + l.length) 0 = 32 → (∀ c', F8 [] [24, 26] c c' → SgM c' x (A ++ l) → K (Hm c')) → pX12_writesWord_36 E dd 68 x1 x2 (nI p) (Hm c) K
  | [], p, c, A, hW, hS, hl, hp, hw, h32, k => by
    refine vX12_writesWord_36 (ldR l68 rfl (alC l77 (by simpa using hp) (by decide) ?_))
    rw [hW.1 p (by simpa using hp), show wds.getD p 0 = 32 from h32]
    exact ⟨fun _ => k c F8.rf (by rw [List.append_nil]; exact hS), fun z => absurd rfl z⟩
  | v :: l, p, c, A, hW, hS, hl, hp, hw, h32, k => by
    rw [List.length_cons] at hl hp h32
    have h0 := hw 0 v rfl
    refine vX12_writesWord_36 (ldR l68 rfl (alC l77 (by omega) (by decide) ?_))
    rw [hW.1 p (by omega), show wds.getD p 0 = v from h0.1]
    refine bEq (fun z => absurd z h0.2.1) (fun _ => ldR l68 rfl (alC l77 (by omega) (by decide) ⟨obj l68, ?_⟩)) (by omega) (by decide)
    rw [hW.1 p (by omega), show wds.getD p 0 = v from h0.1]
    refine n_writes hx hS (by omega) (fun c1 f1 t1 => ?_)
    rw [nI_add]
    refine n_ww36 hx l (p + 1) c1 (A ++ [v]) (hW.f8 f1 (by decide) (by decide)) t1 (by rw [List.length_append, List.length_singleton]; omega) (by omega) (fun i u hu => ?_) (by rw [show p + 1 + l.length = p + (l.length + 1) by omega]; exact h32) (fun c2 f2 t2 => k c2 (f1.trans f2) (by rw [List.append_assoc] at t2; exact t2))
    have := hw (i + 1) u hu
    rw [show p + (i + 1) = p + 1 + i by omega] at this
    exact this
theorem n_ww4 {wd : Nat} {K : gk_H → Prop} (hW : WdM c) (hwd : wd < 4) {p s : Nat} (hp : p < 18) (hs : s < wd) (k : pX12_writesWord_4 E dd 68 (nI wd) (nI (p + 1)) (nI (s + if wds.getD p 0 = 32 then 1 else 0)) (Hm c) K) : pX12_writesWord_4 E dd 68 (nI wd) (nI p) (nI s) (Hm c) K := by
  refine vX12_writesWord_4 (bLe (fun z => absurd z (by omega)) (fun _ => ldR l68 rfl (alC l77 hp (by decide) ?_)))
  rw [hW.1 p hp]
  simp only [nI_add]
  have hlt : wds.getD p 0 < 128 := by
    have : ∀ p, p < 18 → wds.getD p 0 < 128 := by decide
    exact this p hp
  refine bNe (fun e => ?_) (fun e => ?_) (by omega) (by decide)
  · rw [if_neg e] at k; exact k
  · rw [if_pos e] at k; exact k
theorem n_writesWord (hx : -1 ≤ x) (hW : WdM c) {wd : Nat} (hwd : wd < 3) (hS : SgM c x A) (hl : A.length < 2 ^ 28) {K : gk_H → Prop} (k : ∀ c', F8 [] [24, 26] c c' → SgM c' x (A ++ wl wd) → K (Hm c')) : RnV E mX12_writesWord (dd + 1, 0, 0) [.ref 68, .int (nI wd)] (Hm c) K := by
  have fin : ∀ p, (p + (wl wd).length < 18) → (∀ i v, (wl wd)[i]? = some v → wds.getD (p + i) 0 = v ∧ v ≠ 32 ∧ v < 128) → wds.getD (p + (wl wd).length) 0 = 32 → pX12_writesWord_4 E dd 68 (nI wd) (nI p) (nI wd) (Hm c) K := fun p h1 h2 h3 => vX12_writesWord_4 (bLe (fun _ => n_ww36 hx (wl wd) p c A hW hS (by omega) h1 h2 h3 k) (fun z => absurd z (by omega)))
  have ck : ∀ (l : List Nat) p, (List.range l.length).all (fun i => decide (wds.getD (p + i) 0 = l.getD i 0 ∧ l.getD i 0 ≠ 32 ∧ l.getD i 0 < 128)) = true → ∀ i v, l[i]? = some v → wds.getD (p + i) 0 = v ∧ v ≠ 32 ∧ v < 128 := fun l p h i v hv => by
    have hi := (List.getElem?_eq_some_iff.mp hv).1
    have := of_decide_eq_true (List.all_eq_true.mp h i (List.mem_range.mpr hi))
    rw [show l.getD i 0 = v from by rw [List.getD_eq_getElem?_getD, hv]; rfl] at this
    exact this
  refine vX12_writesWord_0 ?_
  match wd, hwd with
  | 0, _ => exact fin 0 (by decide) (ck _ _ (by decide)) (by decide)
  | 1, _ =>
    refine n_ww4 hW (by decide) (by decide) (by decide) (n_ww4 hW (by decide) (by decide) (by decide) (n_ww4 hW (by decide) (by decide) (by decide) (n_ww4 hW (by decide) (by decide) (by decide) (n_ww4 hW (by decide) (by decide) (by decide) (n_ww4 hW (by decide) (by decide) (by decide) ?_)))))
    exact fin 6 (by decide) (ck _ _ (by decide)) (by decide)
  | 2, _ =>
    refine n_ww4 hW (by decide) (by decide) (by decide) (n_ww4 hW (by decide) (by decide) (by decide) (n_ww4 hW (by decide) (by decide) (by decide) (n_ww4 hW (by decide) (by decide) (by decide) (n_ww4 hW (by decide) (by decide) (by decide) (n_ww4 hW (by decide) (by decide) (by decide) ?_)))))
    refine n_ww4 hW (by decide) (by decide) (by decide) (n_ww4 hW (by decide) (by decide) (by decide) (n_ww4 hW (by decide) (by decide) (by decide) (n_ww4 hW (by decide) (by decide) (by decide) (n_ww4 hW (by decide) (by decide) (by decide) ?_))))
    exact fin 11 (by decide) (ck _ _ (by decide)) (by decide)
end MSP
