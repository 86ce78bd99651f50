/-! node, drop, label, relabel, copy, sound -/
theorem nets_at : ∀ j, j < 3 → ([7, 9, 11] : List Nat)[j]? = some (7 + 2 * j) := by decide
theorem isNt_net {j : Nat} (h : j < 3) : isNt (7 + 2 * j) := by
  match j, h with
  | 0, _ => exact ⟨l7, l8⟩
  | 1, _ => exact ⟨l9, l10⟩
  | 2, _ => exact ⟨l11, l12⟩
abbrev szT : Type := Nat → Nat
abbrev lbT : Type := Nat → Nat → Nat → Nat
def NN (c : gm) (sz : szT) (lb : lbT) : Prop := ∀ j, j < 3 → NetAt c (7 + 2 * j) (sz j) (lb j)
def MN (c : gm) (sz : szT) (lb : lbT) : Prop := ∀ j, j < 3 → MNet c j (sz j) (lb j)
def VV (n : Nat) (mir : Nat → Nat) (sz : szT) (lb : lbT) : Prop := ∀ j, j < 3 → Vl n mir (sz j) (lb j)
abbrev rN : List Nat := [7, 8, 9, 10, 11, 12]
theorem Vl.lt {n : Nat} {mir : Nat → Nat} {s : Nat} {lab : Nat → Nat → Nat} (h : Vl n mir s lab) (h4 : n ≤ 4) : ∀ p q, p < s → q < s → lab p q < 4 := fun p q hp hq => Nat.lt_of_lt_of_le (h p q hp hq).1 h4
theorem Vl.z {n : Nat} {mir : Nat → Nat} {s : Nat} {lab : Nat → Nat → Nat} (h : Vl n mir s lab) : ∀ p, p < s → lab p p = 0 := fun p hp => (h p p hp hp).2.1.mpr rfl
def lset (lb : lbT) (j : Nat) (f : Nat → Nat → Nat) : lbT := fun i => if i = j then f else lb i
theorem NN.set {c c' : gm} {sz : szT} {lb : lbT} {j s : Nat} {f : Nat → Nat → Nat} (h : NN c sz lb) (hj : j < 3) (hf : Fr [7 + 2 * j, 7 + 2 * j + 1] c c') (hn : NetAt c' (7 + 2 * j) s f) : NN c' (fset sz j s) (lset lb j f) := fun i hi => by
  unfold fset lset
  by_cases e : i = j
  · subst e; rw [if_pos rfl, if_pos rfl]; exact hn
  · rw [if_neg e, if_neg e]; exact (h i hi).fr hf (by simp; omega) (by simp; omega)
theorem MN.set {c c' : gm} {sz : szT} {lb : lbT} {j s : Nat} {f : Nat → Nat → Nat} (h : MN c sz lb) (hf : FrN j c c') (hn : MNet c' j s f) : MN c' (fset sz j s) (lset lb j f) := fun i hi => by
  unfold fset lset
  by_cases e : i = j
  · subst e; rw [if_pos rfl, if_pos rfl]; exact hn
  · rw [if_neg e, if_neg e]; exact (h i hi).frN hf e
theorem NN.fr {c c' : gm} {sz : szT} {lb : lbT} {l : List Nat} (h : NN c sz lb) (hf : Fr l c c') (hl : ∀ q, q ∈ rN → q ∉ l) : NN c' sz lb := fun j hj => by
  refine (h j hj).fr hf (hl _ ?_) (hl _ ?_)
  · match j, hj with
    | 0, _ => decide
    | 1, _ => decide
    | 2, _ => decide
  · match j, hj with
    | 0, _ => decide
    | 1, _ => decide
    | 2, _ => decide
theorem fr_net {c c' : gm} {j : Nat} (hj : j < 3) (hf : Fr [7 + 2 * j, 7 + 2 * j + 1] c c') : Fr rN c c' := hf.mono (fun q hq => by
  match j, hj with
  | 0, _ => revert q; decide
  | 1, _ => revert q; decide
  | 2, _ => revert q; decide)
section NA
variable {E : gk_E} {dd : Nat} {c : gm} {n N : Nat} {mir : Nat → Nat} {sz : szT} {lb : lbT}
theorem c_spread (hT : Tab c 2 n mir N) {x : Int32} {s : Nat} (hs : s ≤ 6) {K : Int32 → gk_H → Prop} (k : ∀ c', Fr [32] c c' → (aAt n x s 0 = true → ∀ i, i < s → c'.1 32 i = rm10 (itd x i)) → K (bI (aAt n x s 0)) (Hm c')) : RnI E mX1_spread (dd, 0, 0) [.ref 29, .int x, .int (nI s)] (Hm c) K := by
  have h4 := hT.2.2.1
  refine vX1_spread_0 ?_
  refine down (P := fun a => ∀ c', Fr [32] c c' → (∀ i, i < a → c'.1 32 i = rm10 (itd x i)) → (∀ c'', Fr [32] c' c'' → (aAt n x s a = true → ∀ i, i < s → c''.1 32 i = rm10 (itd x i)) → K (bI (aAt n x s a)) (Hm c'')) → pX1_spread_5 E dd 29 x (nI s) (itd x a) (nI a) (Hm c') K) s ?_ ?_ 0 (Nat.zero_le _) c Fr.rf (fun i hi => absurd hi (by omega)) k
  · intro c' hf hr k
    have k2 := k c' Fr.rf (fun _ => hr)
    rw [aAt_end] at k2
    refine vX1_spread_5 (bLe (fun _ => ⟨fun e => ?_, fun e => ?_⟩) (fun h => absurd h (by omega)))
    · rw [decide_eq_false e] at k2; exact k2
    · rw [decide_eq_true e] at k2; exact k2
  · intro a ha ih c' hf hr k
    refine vX1_spread_5 (bLe (fun h => absurd h (by omega)) (fun _ => ldR l29 rfl (asI l32 (by omega) (by decide) (ldR l29 rfl (alI l32 (by omega) (by decide) ?_)))))
    rw [mI_s]
    have hsz : (mI c' 32 a (rm10 (itd x a))).1 2 0 = nI n := by rw [mI_n (by omega), hf.i (by decide)]; exact hT.1
    refine ⟨fun e => ?_, fun e => ldR l29 rfl (alI l32 (by omega) (by decide) (ldR l29 rfl (ldR l1 rfl (ldI l2 rfl ?_))))⟩
    · have e1 : inR (rm10 (itd x a)) 1 n = false := inR_1 e
      have k2 := k _ (Fr.rf.mI (r := 32) (k := a) (x := rm10 (itd x a)) (by simp)) (fun h => by rw [aAt_no ha e1] at h; exact absurd h (by decide))
      rw [aAt_no ha e1] at k2
      exact k2
    · show ((mI c' 32 a (rm10 (itd x a))).1 32 a < (mI c' 32 a (rm10 (itd x a))).1 2 0 → _) ∧ (¬ (mI c' 32 a (rm10 (itd x a))).1 32 a < (mI c' 32 a (rm10 (itd x a))).1 2 0 → _)
      rw [hsz, mI_s]
      refine ⟨fun e2 => ?_, fun e2 => ?_⟩
      · have e1 : inR (rm10 (itd x a)) 1 n = true := by
          refine inR_ok1 e (fun q => ?_) (by omega)
          rw [Int32.lt_iff_toInt_lt] at e2
          rw [Int32.le_iff_toInt_le] at q
          omega
        rw [nI_add]
        refine ih _ (hf.mI (by simp)) (fun i hi => ?_) (fun c'' h1 h2 => ?_)
        · by_cases ei : i = a
          · subst ei; exact mI_s
          · rw [mI_n (by omega)]; exact hr i (by omega)
        · rw [aAt_yes ha e1] at k
          exact k c'' ((Fr.rf.mI (by simp)).trans h1) h2
      · have e1 : inR (rm10 (itd x a)) 1 n = false := by
          refine inR_hi ?_ (by omega)
          rw [Int32.lt_iff_toInt_lt] at e2
          rw [Int32.le_iff_toInt_le]
          omega
        have k2 := k _ (Fr.rf.mI (r := 32) (k := a) (x := rm10 (itd x a)) (by simp)) (fun h => by rw [aAt_no ha e1] at h; exact absurd h (by decide))
        rw [aAt_no ha e1] at k2
        exact k2
/-- node(): the answer, and the networks behind it -/
def sp_nd (n : Nat) (mir : Nat → Nat) (sz : szT) (lb : lbT) (net x : Int32) : Int32 × szT × lbT :=
  if inR net 0 (3 : Nat) = true then (if sz (w net) = 6 then (-4, sz, lb) else if aAt n x (sz (w net)) 0 = true then (nI (sz (w net)), fset sz (w net) (sz (w net) + 1), lset lb (w net) (gl (sz (w net)) mir (rowD x) (lb (w net)))) else (-2, sz, lb)) else (-1, sz, lb)
theorem row_ok {n s : Nat} {x : Int32} (h4 : n ≤ 4) (h : aAt n x s 0 = true) : ∀ a, a < s → rm10 (itd x a) = nI (rowD x a) ∧ rowD x a < 4 := fun a ha => by
  have h1 := (aAt_all s (Nat.le_refl _) h a ha).1
  have h2 := inR1_nI (by omega) h1
  exact ⟨h2.2.2, by unfold rowD; omega⟩
theorem c_node (hT : Tab c 2 n mir N) (hN : NN c sz lb) {net x : Int32} {K : Int32 → gk_H → Prop} (k : ∀ c', Fr (32 :: rN) c c' → NN c' (sp_nd n mir sz lb net x).2.1 (sp_nd n mir sz lb net x).2.2 → K (sp_nd n mir sz lb net x).1 (Hm c')) : RnI E mX11_node (dd + 2, 0, 0) [.ref 0, .int net, .int x] (Hm c) K := by
  have h4 := hT.2.2.1
  refine vX11_node_0 (c_isNet (rngN (by decide) (fun j hj hx h => ldR l0 rfl (ldR l1 rfl ?_)) (fun h => ?_)))
  · subst hx
    have hNj := hN j hj
    have h6 := hNj.2.1
    have hnt := isNt_net hj
    rw [sp_nd, if_pos h, w_nI (by omega)] at k
    refine alR (t := 0) l4 hj (by decide) (nets_at j hj) (ldI hnt.1 rfl ?_)
    rw [hNj.1]
    refine bLt (fun e => ldR l0 rfl (ldI hnt.1 rfl ⟨obj l29, ?_⟩)) (fun e => ?_)
    · rw [if_neg (by omega)] at k
      rw [hNj.1]
      refine c_spread hT h6 (fun c1 f1 r1 => bBn (fun ea => ldR l0 rfl (ldR l29 rfl (ldR l0 rfl (ldR l1 rfl ⟨obj hnt.1, ?_⟩)))) (fun ea => ?_))
      · rw [if_pos ea] at k
        have hT1 : Tab c1 2 n mir N := hT.fr f1 (by decide) (by decide)
        have hN1 : NN c1 sz lb := hN.fr f1 (by decide)
        have hro : ∀ i, i < sz j → c1.1 32 i = nI (rowD x i) ∧ rowD x i < 4 := fun i hi => ⟨(r1 ea i hi).trans (row_ok h4 ea i hi).1, (row_ok h4 ea i hi).2⟩
        refine c_grow (mir := mir) hnt isTab_2 (by omega) (by omega) l32 (by omega) (by omega) hT1.2.2.2.2.2 (hN1 j hj) (by omega) hro (fun c2 f2 n2 => ldI hnt.1 rfl ?_)
        rw [n2.1, nI_sub1 (by omega), Nat.add_sub_cancel]
        exact k c2 ((f1.mono (by simp)).trans ((fr_net hj f2).mono (fun q hq => List.mem_cons_of_mem _ hq))) (hN1.set hj f2 n2)
      · rw [if_neg (by rw [ea]; decide)] at k
        exact k c1 (f1.mono (by simp)) (hN.fr f1 (by decide))
    · rw [if_pos (by omega)] at k
      exact k c Fr.rf hN
  · rw [sp_nd, if_neg (by rw [h]; decide)] at k
    exact k c Fr.rf hN
theorem n_node (hM : MT c n mir N) (hN : MN c sz lb) {net x : Int32} {K : Int32 → gk_H → Prop} (k : ∀ c', Fr [71, 72] c c' → (∀ i, 3 ≤ i → ∀ s l, i < 6 → MNet c i s l → MNet c' i s l) → MN c' (sp_nd n mir sz lb net x).2.1 (sp_nd n mir sz lb net x).2.2 → K (sp_nd n mir sz lb net x).1 (Hm c')) : RnI E mX12_node (dd + 3, 0, 0) [.ref 68, .int net, .int x] (Hm c) K := by
  have h4 := hM.n4
  refine vX12_node_0 (n_isNet (rngN (by decide) (fun j hj hx h => ldR l68 rfl ?_) (fun h => ?_)))
  · subst hx
    have hNj := hN j hj
    have h6 := hNj.2.1
    rw [sp_nd, if_pos h, w_nI (by omega)] at k
    refine alI l71 (by omega) (by decide) ?_
    rw [hNj.1]
    refine bNe (fun e => ⟨obj l68, n_areAtoms (by omega) hM hNj (bBn (fun ea => ⟨obj l68, ?_⟩) (fun ea => ?_))⟩) (fun e => ?_)
    · rw [if_neg e, if_pos ea] at k
      refine n_comes (by omega) hM.row hNj (by omega) (row_ok h4 ea) (fun c1 f1 n1 => ldR l68 rfl (alI l71 (by omega) (by decide) ?_))
      rw [n1.1, nI_sub1 (by omega), Nat.add_sub_cancel]
      exact k c1 f1.1 (fun i hi s l hi6 hm => hm.frN f1 (by omega)) (hN.set f1 n1)
    · rw [if_neg e, if_neg (by rw [ea]; decide)] at k
      exact k c Fr.rf (fun i hi s l _ hm => hm) hN
    · rw [if_pos e] at k
      exact k c Fr.rf (fun i hi s l _ hm => hm) hN
  · rw [sp_nd, if_neg (by rw [h]; decide)] at k
    exact k c Fr.rf (fun i hi s l _ hm => hm) hN
end NA
