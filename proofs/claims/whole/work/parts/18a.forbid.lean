/-! forbid, take -/
section FB
variable {E : gk_E} {dd : Nat} {c : gm} {sz : szT} {lb : lbT} {fb : Bool} {fs : Nat} {fl : Nat → Nat → Nat}
def sp_fb (fb : Bool) (fs : Nat) : Int32 := if fb then nI fs else -5
theorem c_forbid (hb : c.1 1 3 = bI fb) (hbar : fb = true → NetAt c 5 fs fl) (hN : NN c sz lb) {x : Int32} {K : Int32 → gk_H → Prop} (k1 : ¬ x = -1 → inR x 0 (3 : Nat) = false → K (-1) (Hm c)) (k2 : x = -1 → ∀ c', Fr [1] c c' → c'.1 1 3 = nI 0 → K (sp_fb fb fs) (Hm c')) (k3 : inR x 0 (3 : Nat) = true → ∀ c', Fr [1, 5, 6] c c' → c'.1 1 3 = nI 1 → NetAt c' 5 (sz (w x)) (lb (w x)) → K (sp_fb fb fs) (Hm c')) : RnI E mX11_forbid (dd + 1, 0, 0) [.ref 0, .int x] (Hm c) K := by
  have i5 : isNt 5 := ⟨l5, l6⟩
  have go : ∀ j, j < 3 → x = nI j → inR x 0 (3 : Nat) = true → ∀ v, v = sp_fb fb fs → StI (Hm c) 1 7 3 (nI 1) fun h35 => LdR h35 0 10 0 fun v36 => LdI h35 v36 7 3 fun v37 => (v37 = 0 → K v h35) ∧ (¬ v37 = 0 → LdR h35 0 10 0 fun v38 => LdR h35 v38 7 2 fun v39 => LdR h35 0 10 0 fun v40 => LdR h35 v40 7 1 fun v41 => AlR 5 h35 v41 x fun v42 => (∃ fs, h35[v39]? = some (.inr (3, fs))) ∧ RnV E mX3_become (dd, 0, 0) [.ref v39, .ref v42] h35 (fun h43 => K v h43)) := by
    intro j hj hx h v hv
    have k3 := k3 h
    subst hx hv
    rw [w_nI (by omega)] at k3
    refine stI l1 rfl (ldR l0 rfl (ldI l1 rfl ?_))
    rw [mI_s]
    refine ⟨fun e => absurd e (by decide), fun _ => ldR l0 rfl (ldR l1 rfl (ldR l0 rfl (ldR l1 rfl (alR (t := 0) l4 hj (by decide) (nets_at j hj) ⟨obj l5, ?_⟩))))⟩
    have f1 : Fr [1] c (mI c 1 3 (nI 1)) := Fr.rf.mI (by simp)
    refine c_become i5 (isNt_net hj) ((hN j hj).fr f1 (by simp; omega) (by simp)) (by omega) (by omega) (by omega) (fun c2 f2 n2 => ?_)
    refine k3 c2 ((f1.mono (by simp)).trans (f2.mono (by simp))) ?_ n2
    rw [f2.i (by decide), mI_s]
  have go0 : x = -1 → ∀ v, v = sp_fb fb fs → StI (Hm c) 1 7 3 (nI 0) fun h35 => LdR h35 0 10 0 fun v36 => LdI h35 v36 7 3 fun v37 => (v37 = 0 → K v h35) ∧ (¬ v37 = 0 → LdR h35 0 10 0 fun v38 => LdR h35 v38 7 2 fun v39 => LdR h35 0 10 0 fun v40 => LdR h35 v40 7 1 fun v41 => AlR 5 h35 v41 x fun v42 => (∃ fs, h35[v39]? = some (.inr (3, fs))) ∧ RnV E mX3_become (dd, 0, 0) [.ref v39, .ref v42] h35 (fun h43 => K v h43)) := by
    intro hx v hv
    subst hv
    refine stI l1 rfl (ldR l0 rfl (ldI l1 rfl ?_))
    rw [mI_s]
    exact ⟨fun _ => k2 hx _ (Fr.rf.mI (by simp)) mI_s, fun e => absurd rfl e⟩
  refine vX11_forbid_0 ⟨fun hx => ldR l0 rfl (ldI l1 rfl ?_), fun hx => c_isNet (rngN (by decide) (fun j hj hj2 h => ldR l0 rfl (ldI l1 rfl ?_)) (fun h => k1 hx h))⟩
  · rw [hb]
    refine bB0 (fun e => ldR l0 rfl ⟨fun _ => go0 hx _ (by rw [e]; rfl), fun z => absurd hx z⟩) (fun e => ldR l0 rfl (ldR l1 rfl (ldI l5 rfl ?_)))
    rw [(hbar e).1]
    exact ldR l0 rfl ⟨fun _ => go0 hx _ (by rw [e]; rfl), fun z => absurd hx z⟩
  · rw [hb]
    refine bB0 (fun e => ldR l0 rfl ⟨fun z => absurd z hx, fun _ => go j hj hj2 h _ (by rw [e]; rfl)⟩) (fun e => ldR l0 rfl (ldR l1 rfl (ldI l5 rfl ?_)))
    rw [(hbar e).1]
    exact ldR l0 rfl ⟨fun z => absurd z hx, fun _ => go j hj hj2 h _ (by rw [e]; rfl)⟩
theorem n_forbid (hb : c.1 68 5 = bI fb) (hbar : fb = true → MNet c 3 fs fl) (hN : MN c sz lb) {x : Int32} {K : Int32 → gk_H → Prop} (k1 : ¬ x = -1 → inR x 0 (3 : Nat) = false → K (-1) (Hm c)) (k2 : x = -1 → ∀ c', F8 [71] [5] c c' → (∀ i, i ≠ 3 → c'.1 71 i = c.1 71 i) → c'.1 68 5 = nI 0 → K (sp_fb fb fs) (Hm c')) (k3 : inR x 0 (3 : Nat) = true → ∀ c', F8 [71, 72] [5] c c' → (∀ i s l, i ≠ 3 → MNet c i s l → MNet c' i s l) → c'.1 68 5 = nI 1 → MNet c' 3 (sz (w x)) (lb (w x)) → K (sp_fb fb fs) (Hm c')) : RnI E mX12_forbid (dd + 2, 0, 0) [.ref 68, .int x] (Hm c) K := by
  have go : ∀ j, j < 3 → x = nI j → inR x 0 (3 : Nat) = true → ∀ v, v = sp_fb fb fs → StI (Hm c) 68 11 5 (nI 1) fun h7 => LdR h7 68 11 3 fun v8 => AsI h7 v8 (nI 3) (nI 0) fun h9 => LdI h9 68 11 5 fun v10 => (v10 = 0 → K v h9) ∧ (¬ v10 = 0 → (∃ fs, h9[68]? = some (.inr (11, fs))) ∧ RnV E mX12_likens (dd + 1, 0, 0) [.ref 68, .int x, .int (nI 3)] h9 (fun h11 => K v h11)) := by
    intro j hj hx h v hv
    have k3 := k3 h
    subst hx hv
    rw [w_nI (by omega)] at k3
    refine stI l68 rfl (ldR l68 rfl (asI l71 (by decide) (by decide) (ldI l68 rfl ?_)))
    rw [mI_n (by omega), mI_s]
    refine ⟨fun e => absurd e (by decide), fun _ => ⟨obj l68, ?_⟩⟩
    have f1 : F8 [71] [5] c (mI (mI c 68 5 (nI 1)) 71 3 (nI 0)) := (F8.rf.slot (by simp)).put (by simp) (by decide)
    have keep : ∀ i s l, i ≠ 3 → MNet c i s l → MNet (mI (mI c 68 5 (nI 1)) 71 3 (nI 0)) i s l := fun i s l hi hm => ⟨by rw [mI_n (by omega), mI_n (by omega)]; exact hm.1, hm.2.1, fun p q hp hq hpq => by rw [mI_n (by omega), mI_n (by omega)]; exact hm.2.2 p q hp hq hpq⟩
    refine n_likens (i := j) (j := 3) (by omega) (by decide) (by omega) (keep j _ _ (by omega) (hN j hj)) (fun c2 f2 n2 => ?_)
    refine k3 c2 ((f1.mono (by simp) (by simp)).trans (F8.of f2.1 (by decide))) (fun i s l hi hm => (keep i s l hi hm).frN f2 hi) ?_ n2
    rw [f2.1.i (by decide), mI_n (by omega), mI_s]
  have go0 : x = -1 → ∀ v, v = sp_fb fb fs → StI (Hm c) 68 11 5 (nI 0) fun h7 => LdR h7 68 11 3 fun v8 => AsI h7 v8 (nI 3) (nI 0) fun h9 => LdI h9 68 11 5 fun v10 => (v10 = 0 → K v h9) ∧ (¬ v10 = 0 → (∃ fs, h9[68]? = some (.inr (11, fs))) ∧ RnV E mX12_likens (dd + 1, 0, 0) [.ref 68, .int x, .int (nI 3)] h9 (fun h11 => K v h11)) := by
    intro hx v hv
    subst hv
    refine stI l68 rfl (ldR l68 rfl (asI l71 (by decide) (by decide) (ldI l68 rfl ?_)))
    rw [mI_n (by omega), mI_s]
    exact ⟨fun _ => k2 hx _ ((F8.rf.slot (by simp)).put (by simp) (by decide)) (fun i hi => by rw [mI_n (by omega), mI_n (by omega)]) (by rw [mI_n (by omega), mI_s]), fun e => absurd rfl e⟩
  refine vX12_forbid_0 ⟨fun hx => ldI l68 rfl ?_, fun hx => n_isNet (rngN (by decide) (fun j hj hj2 h => ldI l68 rfl ?_) (fun h => k1 hx h))⟩
  · rw [hb]
    refine bB0 (fun e => ⟨fun _ => go0 hx _ (by rw [e]; rfl), fun z => absurd hx z⟩) (fun e => ldR l68 rfl (alI l71 (by decide) (by decide) ?_))
    rw [(hbar e).1]
    exact ⟨fun _ => go0 hx _ (by rw [e]; rfl), fun z => absurd hx z⟩
  · rw [hb]
    refine bB0 (fun e => ⟨fun z => absurd z hx, fun _ => go j hj hj2 h _ (by rw [e]; rfl)⟩) (fun e => ldR l68 rfl (alI l71 (by decide) (by decide) ?_))
    rw [(hbar e).1]
    exact ⟨fun z => absurd z hx, fun _ => go j hj hj2 h _ (by rw [e]; rfl)⟩
variable {bd : Bool} {bs an : Nat} {bl : Nat → Nat → Nat} {aq : List Nat}
def tk0 (bd : Bool) (x : Int32) : Option Int32 := if inR x 0 (3 : Nat) = true then (if bd = true then none else some (-3)) else some (-1)
theorem c_take (hB : BdC c bd bs bl aq an) (hN : NN c sz lb) {x : Int32} {K : Int32 → gk_H → Prop} (k1 : ∀ r, tk0 bd x = some r → K r (Hm c)) (k2 : tk0 bd x = none → ∀ c', Fr rN c c' → NN c' (fset sz (w x) bs) (lset lb (w x) bl) → K (nI bs) (Hm c')) : RnI E mX11_take (dd + 1, 0, 0) [.ref 0, .int x] (Hm c) K := by
  refine vX11_take_0 (c_isNet (rngN (by decide) (fun j hj hx h => ldR l0 rfl (ldI l52 rfl ?_)) (fun h => k1 _ (by unfold tk0; rw [if_neg (by rw [h]; decide)]))))
  rw [hB.1]
  refine bBn (fun e => ldR l0 rfl (ldR l1 rfl ?_)) (fun e => k1 _ (by unfold tk0; rw [if_pos h, if_neg (by rw [e]; decide)]))
  have k2 := k2 (by unfold tk0; rw [if_pos h, if_pos e])
  subst hx
  rw [w_nI (by omega)] at k2
  have hn := (hB.2 e).1
  refine alR (t := 0) l4 hj (by decide) (nets_at j hj) (ldR l0 rfl (ldR l52 rfl ⟨obj (isNt_net hj).1, c_become (isNt_net hj) ⟨l53, l54⟩ hn (by omega) (by omega) (by omega) (fun c2 f2 n2 => ldR l0 rfl (ldR l52 rfl (ldI l53 rfl ?_)))⟩))
  rw [f2.i (by simp; omega), hn.1]
  exact k2 c2 (fr_net hj f2) (hN.set hj f2 n2)
theorem n_take (hB : BdM c bd bs bl aq an) (hN : MN c sz lb) {x : Int32} {K : Int32 → gk_H → Prop} (k1 : ∀ r, tk0 bd x = some r → K r (Hm c)) (k2 : tk0 bd x = none → ∀ c', Fr [71, 72] c c' → Oth c c' → MN c' (fset sz (w x) bs) (lset lb (w x) bl) → K (nI bs) (Hm c')) : RnI E mX12_take (dd + 2, 0, 0) [.ref 68, .int x] (Hm c) K := by
  refine vX12_take_0 (n_isNet (rngN (by decide) (fun j hj hx h => ldI l68 rfl ?_) (fun h => k1 _ (by unfold tk0; rw [if_neg (by rw [h]; decide)]))))
  rw [hB.1]
  refine bBn (fun e => ⟨obj l68, ?_⟩) (fun e => k1 _ (by unfold tk0; rw [if_pos h, if_neg (by rw [e]; decide)]))
  have k2 := k2 (by unfold tk0; rw [if_pos h, if_pos e])
  subst hx
  rw [w_nI (by omega)] at k2
  have hn := (hB.2 e).1
  refine n_likens (i := 4) (j := j) (by decide) (by omega) (by omega) hn (fun c2 f2 n2 => ldR l68 rfl (alI l71 (by omega) (by decide) ?_))
  rw [n2.1]
  exact k2 c2 f2.1 (Oth.of hj f2) (hN.set f2 n2)
end FB
