/-! spelled: the reference -/
def wds : List Nat := [97, 116, 111, 109, 115, 32, 112, 97, 105, 114, 32, 105, 110, 32, 111, 117, 116, 32]
/-- the words and their figures, as they stand in the reference -/
def WdM (c : gm) : Prop := (∀ k, k < 18 → c.1 77 k = nI (wds.getD k 0)) ∧ ∀ k, k < 4 → c.1 78 k = nI ([1, 2, 3, 3].getD k 0)
theorem WdM.f8 {c c' : gm} {l ks : List Nat} (h : WdM c) (hf : F8 l ks c c') (h1 : 77 ∉ 68 :: l) (h2 : 78 ∉ 68 :: l) : WdM c' := ⟨fun k hk => by rw [hf.i h1]; exact h.1 k hk, fun k hk => by rw [hf.i h2]; exact h.2 k hk⟩
def sgn (x : Int32) (A : List Nat) : Int32 := if x = -1 then -1 else orM A[w x]?
def SgM (c : gm) (x : Int32) (A : List Nat) : Prop := c.1 68 24 = nI A.length ∧ c.1 68 25 = x ∧ c.1 68 26 = sgn x A
section MSP
variable {E : gk_E} {dd : Nat} {c : gm} {n N : Nat} {mir : Nat → Nat} {A : List Nat} {x : Int32}
theorem n_writes (hx : -1 ≤ x) (hS : SgM c x A) (hl : A.length < 2 ^ 30) {v : Nat} {K : gk_H → Prop} (k : ∀ c', F8 [] [24, 26] c c' → SgM c' x (A ++ [v]) → K (Hm c')) : RnV E mX12_writes (dd, 0, 0) [.ref 68, .int (nI v)] (Hm c) K := by
  obtain ⟨s1, s2, s3⟩ := hS
  refine vX12_writes_0 (ldI l68 rfl (ldI l68 rfl ?_))
  rw [s1, s2]
  refine ⟨fun e => ldI l68 rfl (stI l68 rfl (ldI l68 rfl ?_)), fun e => stI l68 rfl (ldI l68 rfl ?_)⟩
  · rw [mI_n (by omega), s1, s3, nI_add]
    refine stI l68 rfl (k _ ((F8.rf.slot (by simp)).slot (by simp)) ⟨by rw [mI_s, List.length_append]; rfl, by rw [mI_n (by omega), mI_n (by omega)]; exact s2, ?_⟩)
    rw [mI_n (by omega), mI_s]
    rcases ge_m1 hx with e1 | ⟨q, hq, e1⟩
    · unfold sgn; rw [if_pos e1, if_pos e1]
    · subst e1
      unfold sgn
      rw [if_neg (nI_ne1 hq), if_neg (nI_ne1 hq), w_nI hq]
      by_cases z : q < A.length
      · rw [List.getElem?_append_left z]
      · have ne : q ≠ A.length := fun z => e (by rw [z])
        rw [List.getElem?_eq_none (by omega), List.getElem?_eq_none (by rw [List.length_append, List.length_singleton]; omega)]
  · rw [mI_n (by omega), s1, nI_add]
    refine stI l68 rfl (k _ ((F8.rf.slot (by simp)).slot (by simp)) ⟨by rw [mI_s, List.length_append]; rfl, by rw [mI_n (by omega), mI_n (by omega)]; exact s2, ?_⟩)
    rw [mI_n (by omega), mI_s, ← e]
    unfold sgn
    rw [if_neg (nI_ne1 (by omega)), w_nI (by omega), List.getElem?_append_right (Nat.le_refl _), Nat.sub_self]
    rfl
theorem n_writesFigure (hx : -1 ≤ x) (hS : SgM c x A) (hl : A.length < 2 ^ 29) {v : Nat} {K : gk_H → Prop} (k : ∀ c', F8 [] [24, 26] c c' → SgM c' x (A ++ fgT v) → K (Hm c')) : RnV E mX12_writesFigure (dd + 1, 0, 0) [.ref 68, .int (nI v)] (Hm c) K := by
  refine vX12_writesFigure_0 ⟨obj l68, n_writes hx hS (by omega) (fun c1 f1 t1 => ⟨obj l68, ?_⟩)⟩
  rw [nI_add]
  refine n_writes hx t1 (by rw [List.length_append, List.length_singleton]; omega) (fun c2 f2 t2 => k c2 (f1.trans f2) ?_)
  rw [List.append_assoc] at t2
  exact t2
theorem n_ww36 (hx : -1 ≤ x) {x1 x2 : Int32} {K : gk_H → Prop} : ∀ (l : List Nat) p c A, WdM c → SgM c x A → A.length + l.length < 2 ^ 29 → p + l.length < 18 → (∀ i v, l[i]? = some v → wds.getD (p + i) 0 = v ∧ v ≠ 32 ∧ v < 128) → wds.getD (p + l.length) 0 = 32 → (∀ c', F8 [] [24, 26] c c' → SgM c' x (A ++ l) → K (Hm c')) → pX12_writesWord_36 E dd 68 x1 x2 (nI p) (Hm c) K
  | [], p, c, A, hW, hS, hl, hp, hw, h32, k => by
    refine vX12_writesWord_36 (ldR l68 rfl (alC l77 (by simpa using hp) (by decide) ?_))
    rw [hW.1 p (by simpa using hp), show wds.getD p 0 = 32 from h32]
    exact ⟨fun _ => k c F8.rf (by rw [List.append_nil]; exact hS), fun z => absurd rfl z⟩
  | v :: l, p, c, A, hW, hS, hl, hp, hw, h32, k => by
    rw [List.length_cons] at hl hp h32
    have h0 := hw 0 v rfl
    refine vX12_writesWord_36 (ldR l68 rfl (alC l77 (by omega) (by decide) ?_))
    rw [hW.1 p (by omega), show wds.getD p 0 = v from h0.1]
    refine bEq (fun z => absurd z h0.2.1) (fun _ => ldR l68 rfl (alC l77 (by omega) (by decide) ⟨obj l68, ?_⟩)) (by omega) (by decide)
    rw [hW.1 p (by omega), show wds.getD p 0 = v from h0.1]
    refine n_writes hx hS (by omega) (fun c1 f1 t1 => ?_)
    rw [nI_add]
    refine n_ww36 hx l (p + 1) c1 (A ++ [v]) (hW.f8 f1 (by decide) (by decide)) t1 (by rw [List.length_append, List.length_singleton]; omega) (by omega) (fun i u hu => ?_) (by rw [show p + 1 + l.length = p + (l.length + 1) by omega]; exact h32) (fun c2 f2 t2 => k c2 (f1.trans f2) (by rw [List.append_assoc] at t2; exact t2))
    have := hw (i + 1) u hu
    rw [show p + (i + 1) = p + 1 + i by omega] at this
    exact this
theorem n_ww4 {wd : Nat} {K : gk_H → Prop} (hW : WdM c) (hwd : wd < 4) {p s : Nat} (hp : p < 18) (hs : s < wd) (k : pX12_writesWord_4 E dd 68 (nI wd) (nI (p + 1)) (nI (s + if wds.getD p 0 = 32 then 1 else 0)) (Hm c) K) : pX12_writesWord_4 E dd 68 (nI wd) (nI p) (nI s) (Hm c) K := by
  refine vX12_writesWord_4 (bLe (fun z => absurd z (by omega)) (fun _ => ldR l68 rfl (alC l77 hp (by decide) ?_)))
  rw [hW.1 p hp]
  simp only [nI_add]
  have hlt : wds.getD p 0 < 128 := by
    have : ∀ p, p < 18 → wds.getD p 0 < 128 := by decide
    exact this p hp
  refine bNe (fun e => ?_) (fun e => ?_) (by omega) (by decide)
  · rw [if_neg e] at k; exact k
  · rw [if_pos e] at k; exact k
theorem n_writesWord (hx : -1 ≤ x) (hW : WdM c) {wd : Nat} (hwd : wd < 3) (hS : SgM c x A) (hl : A.length < 2 ^ 28) {K : gk_H → Prop} (k : ∀ c', F8 [] [24, 26] c c' → SgM c' x (A ++ wl wd) → K (Hm c')) : RnV E mX12_writesWord (dd + 1, 0, 0) [.ref 68, .int (nI wd)] (Hm c) K := by
  have fin : ∀ p, (p + (wl wd).length < 18) → (∀ i v, (wl wd)[i]? = some v → wds.getD (p + i) 0 = v ∧ v ≠ 32 ∧ v < 128) → wds.getD (p + (wl wd).length) 0 = 32 → pX12_writesWord_4 E dd 68 (nI wd) (nI p) (nI wd) (Hm c) K := fun p h1 h2 h3 => vX12_writesWord_4 (bLe (fun _ => n_ww36 hx (wl wd) p c A hW hS (by omega) h1 h2 h3 k) (fun z => absurd z (by omega)))
  have ck : ∀ (l : List Nat) p, (List.range l.length).all (fun i => decide (wds.getD (p + i) 0 = l.getD i 0 ∧ l.getD i 0 ≠ 32 ∧ l.getD i 0 < 128)) = true → ∀ i v, l[i]? = some v → wds.getD (p + i) 0 = v ∧ v ≠ 32 ∧ v < 128 := fun l p h i v hv => by
    have hi := (List.getElem?_eq_some_iff.mp hv).1
    have := of_decide_eq_true (List.all_eq_true.mp h i (List.mem_range.mpr hi))
    rw [show l.getD i 0 = v from by rw [List.getD_eq_getElem?_getD, hv]; rfl] at this
    exact this
  refine vX12_writesWord_0 ?_
  match wd, hwd with
  | 0, _ => exact fin 0 (by decide) (ck _ _ (by decide)) (by decide)
  | 1, _ =>
    refine n_ww4 hW (by decide) (by decide) (by decide) (n_ww4 hW (by decide) (by decide) (by decide) (n_ww4 hW (by decide) (by decide) (by decide) (n_ww4 hW (by decide) (by decide) (by decide) (n_ww4 hW (by decide) (by decide) (by decide) (n_ww4 hW (by decide) (by decide) (by decide) ?_)))))
    exact fin 6 (by decide) (ck _ _ (by decide)) (by decide)
  | 2, _ =>
    refine n_ww4 hW (by decide) (by decide) (by decide) (n_ww4 hW (by decide) (by decide) (by decide) (n_ww4 hW (by decide) (by decide) (by decide) (n_ww4 hW (by decide) (by decide) (by decide) (n_ww4 hW (by decide) (by decide) (by decide) (n_ww4 hW (by decide) (by decide) (by decide) ?_)))))
    refine n_ww4 hW (by decide) (by decide) (by decide) (n_ww4 hW (by decide) (by decide) (by decide) (n_ww4 hW (by decide) (by decide) (by decide) (n_ww4 hW (by decide) (by decide) (by decide) (n_ww4 hW (by decide) (by decide) (by decide) ?_))))
    exact fin 11 (by decide) (ck _ _ (by decide)) (by decide)
theorem n_spells (hx : -1 ≤ x) (hG : Gd n mir N) (hM : MT c n mir N) (hW : WdM c) (h25 : c.1 68 25 = x) {K : gk_H → Prop} (k : ∀ c', F8 [] [24, 26] c c' → SgM c' x (spT n mir N) → K (Hm c')) : RnV E mX12_spells (dd + 3, 0, 0) [.ref 68] (Hm c) K := by
  have n4 := hG.n4
  have n1 := hG.n1
  have h100 := spT_100 hG
  have lp : ∀ {B C : List Nat}, B ++ C = spT n mir N → B.length + C.length ≤ 100 := fun {B C} h => by rw [← List.length_append, h]; exact h100
  have MF : ∀ c', F8 [] [24, 26] c c' → MT c' n mir N := fun c' f => hM.f8 f (by decide) (by decide) (by decide)
  have WF : ∀ c', F8 [] [24, 26] c c' → WdM c' := fun c' f => hW.f8 f (by decide) (by decide)
  refine vX12_spells_0 (stI l68 rfl (stI l68 rfl ⟨obj l68, ?_⟩))
  have f0 : F8 [] [24, 26] c (mI (mI c 68 24 (nI 0)) 68 26 (-1)) := (F8.rf.slot (by simp)).slot (by simp)
  have s0 : SgM (mI (mI c 68 24 (nI 0)) 68 26 (-1)) x [] := ⟨by rw [mI_n (by omega), mI_s]; rfl, by rw [mI_n (by omega), mI_n (by omega)]; exact h25, by
    rw [mI_s]
    unfold sgn
    split
    · rfl
    · rfl⟩
  refine n_writesWord (dd := dd + 1) (wd := 0) hx (WF _ f0) (by decide) s0 (by decide) (fun c1 f1 t1 => ldI l68 rfl ?_)
  have F1 := f0.trans f1
  rw [(MF c1 F1).hn]
  refine ⟨obj l68, n_writesFigure (dd := dd + 1) hx t1 (by show 5 < 2 ^ 29; decide) (fun c2 f2 t2 => ?_)⟩
  have F2 := F1.trans f2
  have t2 : SgM c2 x (wl 0 ++ fgT n) := t2
  refine downF (P := fun a => ∀ c' B, F8 [] [24, 26] c c' → SgM c' x B → B ++ ((rg a n).flatMap (prT mir) ++ (rg 1 n).flatMap (fun a => (rg 1 n).flatMap (fun b => (rg 1 n).flatMap (inT3 mir N a b)))) = spT n mir N → pX12_spells_25 E (dd + 2) 68 (nI a) (Hm c') K) 1 n n1 ?_ ?_ c2 _ F2 t2 rfl
  · intro c' B hf hB he
    refine vX12_spells_25 (ldI l68 rfl ?_)
    rw [(MF c' hf).hn]
    refine bLe (fun _ => ?_) (fun z => absurd z (by omega))
    rw [rgd_nil, List.flatMap_nil, List.nil_append] at he
    refine downF (P := fun a => ∀ c' B, F8 [] [24, 26] c c' → SgM c' x B → B ++ (rg a n).flatMap (fun a => (rg 1 n).flatMap (fun b => (rg 1 n).flatMap (inT3 mir N a b))) = spT n mir N → pX12_spells_77 E (dd + 2) 68 (nI a) (Hm c') K) 1 n n1 ?_ ?_ c' B hf hB he
    · intro c' B hf hB he
      refine vX12_spells_77 (ldI l68 rfl ?_)
      rw [(MF c' hf).hn]
      rw [rgd_nil, List.flatMap_nil, List.append_nil] at he
      subst he
      exact bLe (fun _ => k c' hf hB) (fun z => absurd z (by omega))
    · intro a ha1 ha iha c' B hf hB he
      refine vX12_spells_77 (ldI l68 rfl ?_)
      rw [(MF c' hf).hn]
      rw [rg_cons ha, List.flatMap_cons] at he
      refine bLe (fun z => absurd z (by omega)) (fun _ => ?_)
      generalize hR : (rg (a + 1) n).flatMap (fun a => (rg 1 n).flatMap (fun b => (rg 1 n).flatMap (inT3 mir N a b))) = R at *
      refine downF (P := fun b => ∀ c' B, F8 [] [24, 26] c c' → SgM c' x B → B ++ ((rg b n).flatMap (fun b => (rg 1 n).flatMap (inT3 mir N a b)) ++ R) = spT n mir N → pX12_spells_87 E (dd + 2) 68 (nI a) (nI b) (Hm c') K) 1 n n1 ?_ ?_ c' B hf hB he
      · intro c' B hf hB he
        refine vX12_spells_87 (ldI l68 rfl ?_)
        rw [(MF c' hf).hn, nI_add]
        rw [rgd_nil, List.flatMap_nil, List.nil_append] at he
        exact bLe (fun _ => iha c' B hf hB he) (fun z => absurd z (by omega))
      · intro b hb1 hb ihb c' B hf hB he
        refine vX12_spells_87 (ldI l68 rfl ?_)
        rw [(MF c' hf).hn]
        rw [rg_cons hb, List.flatMap_cons, List.append_assoc] at he
        refine bLe (fun z => absurd z (by omega)) (fun _ => ?_)
        generalize hR2 : (rg (b + 1) n).flatMap (fun b => (rg 1 n).flatMap (inT3 mir N a b)) ++ R = R2 at *
        refine downF (P := fun z => ∀ c' B, F8 [] [24, 26] c c' → SgM c' x B → B ++ ((rg z n).flatMap (inT3 mir N a b) ++ R2) = spT n mir N → pX12_spells_97 E (dd + 2) 68 (nI a) (nI b) (nI z) (Hm c') K) 1 n n1 ?_ ?_ c' B hf hB he
        · intro c' B hf hB he
          refine vX12_spells_97 (ldI l68 rfl ?_)
          rw [(MF c' hf).hn, nI_add]
          rw [rgd_nil, List.flatMap_nil, List.nil_append] at he
          exact bLe (fun _ => ihb c' B hf hB he) (fun z => absurd z (by omega))
        · intro z hz1 hz ihz c' B hf hB he
          have M' := MF c' hf
          refine vX12_spells_97 (ldI l68 rfl ?_)
          rw [M'.hn]
          simp only [nI_add]
          rw [rg_cons hz, List.flatMap_cons, List.append_assoc] at he
          refine bLe (fun z => absurd z (by omega)) (fun _ => ⟨obj l68, n_is M' ha hb hz ?_⟩)
          refine bB0 (fun e => ?_) (fun e => ⟨obj l68, n_isLeast (dd := dd + 1) M'.row (by omega) (by omega) (by omega) ?_⟩)
          · rw [show inT3 mir N a b z = [] from by unfold inT3; rw [e]; rfl, List.nil_append] at he
            exact ihz c' B hf hB he
          · refine bB0 (fun e2 => ?_) (fun e2 => ⟨obj l68, ?_⟩)
            · rw [show inT3 mir N a b z = [] from by unfold inT3; rw [e, e2]; rfl, List.nil_append] at he
              exact ihz c' B hf hB he
            · rw [show inT3 mir N a b z = [59] ++ (wl 2 ++ (fgT a ++ (fgT b ++ fgT z))) from by unfold inT3; rw [e, e2]; rfl] at he
              have hle := lp he
              simp only [List.length_append] at hle
              have w5 : (wl 2).length = 2 := rfl
              have wf : ∀ v, (fgT v).length = 2 := fun _ => rfl
              have w1 : ([59] : List Nat).length = 1 := rfl
              rw [w5, wf, wf, wf, w1] at hle
              refine n_writes hx hB (by omega) (fun c3 f3 t3 => ⟨obj l68, n_writesWord (dd := dd + 1) (wd := 2) hx (WF _ (hf.trans f3)) (by decide) t3 (by rw [List.length_append, w1]; omega) (fun c4 f4 t4 => ⟨obj l68, n_writesFigure (dd := dd + 1) hx t4 (by simp only [List.length_append]; rw [w5, w1]; omega) (fun c5 f5 t5 => ⟨obj l68, n_writesFigure (dd := dd + 1) hx t5 (by simp only [List.length_append]; rw [w5, w1, wf]; omega) (fun c6 f6 t6 => ⟨obj l68, n_writesFigure (dd := dd + 1) hx t6 (by simp only [List.length_append]; rw [w5, w1, wf, wf]; omega) (fun c7 f7 t7 => ?_)⟩)⟩)⟩)⟩)
              exact ihz c7 _ (((((hf.trans f3).trans f4).trans f5).trans f6).trans f7) t7 (by rw [← he]; simp only [List.append_assoc])
  · intro a ha1 ha iha c' B hf hB he
    have M' := MF c' hf
    have mr := M'.row a (by omega)
    refine vX12_spells_25 (ldI l68 rfl ?_)
    rw [M'.hn]
    rw [rg_cons ha, List.flatMap_cons, List.append_assoc] at he
    refine bLe (fun z => absurd z (by omega)) (fun _ => ldR l68 rfl (alI l69 (by omega) (by decide) ?_))
    rw [mr.1, nI_add]
    have mr2 := mr.2
    refine bLe (fun e => ?_) (fun e => ⟨obj l68, ?_⟩)
    · rw [show prT mir a = [] from by unfold prT; rw [if_neg (by omega)], List.nil_append] at he
      exact iha c' B hf hB he
    · rw [show prT mir a = [59] ++ (wl 1 ++ (fgT a ++ fgT (mir a))) from by unfold prT; rw [if_pos e]; rfl] at he
      have hle := lp he
      simp only [List.length_append] at hle
      have w5 : (wl 1).length = 4 := rfl
      have wf : ∀ v, (fgT v).length = 2 := fun _ => rfl
      have w1 : ([59] : List Nat).length = 1 := rfl
      rw [w5, wf, wf, w1] at hle
      refine n_writes hx hB (by omega) (fun c3 f3 t3 => ⟨obj l68, n_writesWord (dd := dd + 1) (wd := 1) hx (WF _ (hf.trans f3)) (by decide) t3 (by rw [List.length_append, w1]; omega) (fun c4 f4 t4 => ⟨obj l68, n_writesFigure (dd := dd + 1) hx t4 (by simp only [List.length_append]; rw [w5, w1]; omega) (fun c5 f5 t5 => ldR l68 rfl (alI l69 (by omega) (by decide) ⟨obj l68, ?_⟩))⟩)⟩)
      have F5 := ((hf.trans f3).trans f4).trans f5
      rw [((MF c5 F5).row a (by omega)).1]
      refine n_writesFigure (dd := dd + 1) hx t5 (by simp only [List.length_append]; rw [w5, w1, wf]; omega) (fun c6 f6 t6 => ?_)
      exact iha c6 _ (F5.trans f6) t6 (by rw [← he]; simp only [List.append_assoc])
theorem n_spelled (hG : Gd n mir N) (hM : MT c n mir N) (hW : WdM c) {K : Int32 → gk_H → Prop} (k : ∀ c', F8 [] [24, 25, 26] c c' → K (sp_sl n mir N x) (Hm c')) : RnI E mX12_spelled (dd + 4, 0, 0) [.ref 68, .int x] (Hm c) K := by
  unfold sp_sl at k
  refine vX12_spelled_0 ⟨fun hx => stI l68 rfl ⟨obj l68, ?_⟩, fun hx => ?_⟩
  · have f0 : F8 [] [24, 25, 26] c (mI c 68 25 x) := F8.rf.slot (by simp)
    refine n_spells (dd := dd) hx hG (hM.f8 f0 (by decide) (by decide) (by decide)) (hW.f8 f0 (by decide) (by decide)) mI_s (fun c1 f1 t1 => ?_)
    have k := k c1 (f0.trans (f1.mono (by simp) (by simp)))
    rw [if_pos hx] at k
    rcases ge_m1 hx with e | ⟨q, hq, e⟩
    · refine ⟨fun z => absurd e z, fun _ => ldI l68 rfl ?_⟩
      rw [t1.1]
      rw [gAns, if_pos e, Nat.zero_add] at k
      exact k
    · subst e
      refine ⟨fun _ => ldI l68 rfl ?_, fun z => absurd z (nI_ne1 hq)⟩
      rw [t1.2.2]
      rw [gAns, if_neg (nI_ne1 hq), Nat.sub_zero] at k
      unfold sgn
      rw [if_neg (nI_ne1 hq)]
      exact k
  · have k := k c F8.rf
    rw [if_neg hx] at k
    exact k
end MSP
