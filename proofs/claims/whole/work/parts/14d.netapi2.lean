/-! drop, label, relabel, copy, sound -/
section NA
variable {E : gk_E} {dd : Nat} {c : gm} {n N : Nat} {mir : Nat → Nat} {sz : szT} {lb : lbT}
/-- what other rows of networks keep, when one of the first three changes -/
def Oth (c c' : gm) : Prop := ∀ i, 3 ≤ i → ∀ s l, i < 6 → MNet c i s l → MNet c' i s l
theorem Oth.rf {c : gm} : Oth c c := fun _ _ _ _ _ h => h
theorem Oth.of {c c' : gm} {j : Nat} (hj : j < 3) (h : FrN j c c') : Oth c c' := fun i hi s l _ hm => hm.frN h (by omega)
def sp_dr (sz : szT) (net : Int32) : Int32 × szT := if inR net 0 (3 : Nat) = true then (if sz (w net) = 0 then (-3, sz) else (nI (sz (w net) - 1), fset sz (w net) (sz (w net) - 1))) else (-1, sz)
theorem lset_id {lb : lbT} {j : Nat} : lset lb j (lb j) = lb := by
  funext i
  unfold lset
  split
  · rename_i h; rw [h]
  · rfl
theorem c_drop (hN : NN c sz lb) {net : Int32} {K : Int32 → gk_H → Prop} (k : ∀ c', Fr rN c c' → NN c' (sp_dr sz net).2 lb → K (sp_dr sz net).1 (Hm c')) : RnI E mX11_drop (dd + 1, 0, 0) [.ref 0, .int net] (Hm c) K := by
  refine vX11_drop_0 (c_isNet (rngN (by decide) (fun j hj hx h => ldR l0 rfl (ldR l1 rfl ?_)) (fun h => ?_)))
  · subst hx
    have hNj := hN j hj
    have h6 := hNj.2.1
    have hnt := isNt_net hj
    rw [sp_dr, if_pos h, w_nI (by omega)] at k
    refine alR (t := 0) l4 hj (by decide) (nets_at j hj) (ldI hnt.1 rfl ?_)
    rw [hNj.1]
    refine bN0 (fun e => ldI hnt.1 rfl (stI hnt.1 rfl (ldI hnt.1 rfl ?_))) (fun e => ?_)
    · rw [if_neg e] at k
      rw [hNj.1, nI_sub1 (by omega), mI_s]
      have f1 : Fr [7 + 2 * j, 7 + 2 * j + 1] c (mI c (7 + 2 * j) 0 (nI (sz j - 1))) := Fr.rf.mI (by simp)
      have n1 : NetAt (mI c (7 + 2 * j) 0 (nI (sz j - 1))) (7 + 2 * j) (sz j - 1) (lb j) := ⟨mI_s, by omega, fun p q hp hq => by rw [mI_n (by omega)]; exact hNj.2.2.1 p q (by omega) (by omega), fun p hp => by rw [mI_n (by omega)]; exact hNj.2.2.2 p hp⟩
      have := hN.set hj f1 n1
      rw [lset_id] at this
      exact k _ (fr_net hj f1) this
    · rw [if_pos e] at k
      exact k c Fr.rf hN
  · rw [sp_dr, if_neg (by rw [h]; decide)] at k
    exact k c Fr.rf hN
theorem n_drop (hN : MN c sz lb) {net : Int32} {K : Int32 → gk_H → Prop} (k : ∀ c', Fr [71, 72] c c' → Oth c c' → MN c' (sp_dr sz net).2 lb → K (sp_dr sz net).1 (Hm c')) : RnI E mX12_drop (dd + 2, 0, 0) [.ref 68, .int net] (Hm c) K := by
  refine vX12_drop_0 (n_isNet (rngN (by decide) (fun j hj hx h => ldR l68 rfl ?_) (fun h => ?_)))
  · subst hx
    have hNj := hN j hj
    have h6 := hNj.2.1
    rw [sp_dr, if_pos h, w_nI (by omega)] at k
    refine alI l71 (by omega) (by decide) ?_
    rw [hNj.1]
    refine bN0 (fun e => ldR l68 rfl (alI l71 (by omega) (by decide) (asI l71 (by omega) (by decide) (ldR l68 rfl (alI l71 (by omega) (by decide) ?_))))) (fun e => ?_)
    · rw [if_neg e] at k
      rw [hNj.1, nI_sub1 (by omega), mI_s]
      have f1 : FrN j c (mI c 71 j (nI (sz j - 1))) := FrN.rf.m71
      have n1 : MNet (mI c 71 j (nI (sz j - 1))) j (sz j - 1) (lb j) := ⟨mI_s, by omega, fun p q hp hq hpq => by rw [mI_n (by omega)]; exact hNj.2.2 p q (by omega) (by omega) hpq⟩
      have := hN.set f1 n1
      rw [lset_id] at this
      exact k _ f1.1 (Oth.of hj f1) this
    · rw [if_pos e] at k
      exact k c Fr.rf Oth.rf hN
  · rw [sp_dr, if_neg (by rw [h]; decide)] at k
    exact k c Fr.rf Oth.rf hN
theorem c_isNode (hN : NN c sz lb) {net x : Int32} {K : Int32 → gk_H → Prop} (k : K (bI (inR net 0 (3 : Nat) && inR x 0 (sz (w net)))) (Hm c)) : RnI E mX11_isNode (dd + 1, 0, 0) [.ref 0, .int net, .int x] (Hm c) K := by
  refine vX11_isNode_0 (c_isNet (rng (by decide) (fun h => ?_) (fun j hj hx h => ⟨fun e => ?_, fun e => ldR l0 rfl (ldR l1 rfl ?_)⟩)))
  · rw [h] at k; exact k
  · rw [inR_0 e, Bool.and_false] at k; exact k
  · subst hx
    have hNj := hN j hj
    have h6 := hNj.2.1
    have hnt := isNt_net hj
    rw [h, w_nI (by omega), Bool.true_and] at k
    refine alR (t := 0) l4 hj (by decide) (nets_at j hj) (ldI hnt.1 rfl ?_)
    rw [hNj.1]
    refine ⟨fun e2 => ?_, fun e2 => ?_⟩
    · rw [inR_hi e2 (by omega)] at k; exact k
    · rw [inR_ok0 e e2 (by omega)] at k; exact k
def sp_lb (sz : szT) (lb : lbT) (net x y : Int32) : Int32 := if inR net 0 (3 : Nat) = true ∧ inR x 0 (sz (w net)) = true ∧ inR y 0 (sz (w net)) = true then nI (lb (w net) (w x) (w y)) else -1
theorem c_label (hN : NN c sz lb) {net x y : Int32} {K : Int32 → gk_H → Prop} (k : K (sp_lb sz lb net x y) (Hm c)) : RnI E mX11_label (dd + 2, 0, 0) [.ref 0, .int net, .int x, .int y] (Hm c) K := by
  refine vX11_label_0 ⟨obj l0, c_isNode hN (bB0 (fun h => ?_) (fun h => ⟨obj l0, c_isNode hN (bBn (fun h2 => ldR l0 rfl (ldR l1 rfl ?_)) (fun h2 => ?_))⟩))⟩
  · rw [sp_lb, if_neg (by intro z; rw [z.1, z.2.1] at h; exact absurd h (by decide))] at k; exact k
  · rw [Bool.and_eq_true] at h h2
    obtain ⟨j, hj, rfl⟩ := inR_nI (by decide) h.1
    rw [w_nI (by omega)] at h h2
    have hNj := hN j hj
    have h6 := hNj.2.1
    obtain ⟨p, hp, rfl⟩ := inR_nI (by omega) h.2
    obtain ⟨q, hq, rfl⟩ := inR_nI (by omega) h2.2
    rw [sp_lb, w_nI (by omega), if_pos ⟨h.1, h.2, h2.2⟩, w_nI (by omega), w_nI (by omega)] at k
    refine alR (t := 0) l4 hj (by decide) (nets_at j hj) ⟨obj (isNt_net hj).1, c_at (isNt_net hj) hNj hp hq k⟩
  · rw [sp_lb, if_neg (by intro z; rw [z.1, z.2.2] at h2; exact absurd h2 (by decide))] at k; exact k
theorem n_label (hN : MN c sz lb) (hV : VV n mir sz lb) {net x y : Int32} {K : Int32 → gk_H → Prop} (k : K (sp_lb sz lb net x y) (Hm c)) : RnI E mX12_label (dd + 2, 0, 0) [.ref 68, .int net, .int x, .int y] (Hm c) K := by
  refine vX12_label_0 (n_isNet (rng (by decide) (fun h => ?_) (fun j hj hx h => ⟨obj l68, ?_⟩)))
  · rw [sp_lb, if_neg (by rw [h]; simp)] at k; exact k
  · subst hx
    have hNj := hN j hj
    have h6 := hNj.2.1
    rw [sp_lb, w_nI (by omega)] at k
    refine n_isNode (by omega) hNj (rng (by omega) (fun h1 => ?_) (fun p hp hx h1 => ⟨obj l68, n_isNode (by omega) hNj (rng (by omega) (fun h2 => ?_) (fun q hq hy h2 => ⟨obj l68, ?_⟩))⟩))
    · rw [if_neg (by rw [h1]; simp)] at k; exact k
    · rw [if_neg (by rw [h2]; simp)] at k; exact k
    · subst hx hy
      rw [if_pos ⟨h, h1, h2⟩, w_nI (by omega), w_nI (by omega)] at k
      exact n_labelOf (by omega) hNj (hV j hj).z hp hq k
def rlb (lab : Nat → Nat → Nat) (mir : Nat → Nat) (p q a : Nat) : Nat → Nat → Nat := fun u v => if u = q ∧ v = p then mir a else if u = p ∧ v = q then a else lab u v
def sp_rl (n : Nat) (mir : Nat → Nat) (sz : szT) (lb : lbT) (net x y a : Int32) : Int32 × lbT := if inR net 0 (3 : Nat) = true ∧ inR x 0 (sz (w net)) = true ∧ inR y 0 (sz (w net)) = true ∧ x ≠ y ∧ inR a 1 n = true then (nI (lb (w net) (w x) (w y)), lset lb (w net) (rlb (lb (w net)) mir (w x) (w y) (w a))) else (-1, lb)
theorem fset_id {sz : szT} {j : Nat} : fset sz j (sz j) = sz := by
  funext i
  unfold fset
  split
  · rename_i h; rw [h]
  · rfl
theorem c_relabel (hT : Tab c 2 n mir N) (hN : NN c sz lb) {net x y a : Int32} {K : Int32 → gk_H → Prop} (k : ∀ c', Fr rN c c' → NN c' sz (sp_rl n mir sz lb net x y a).2 → K (sp_rl n mir sz lb net x y a).1 (Hm c')) : RnI E mX11_relabel (dd + 2, 0, 0) [.ref 0, .int net, .int x, .int y, .int a] (Hm c) K := by
  have h4 := hT.2.2.1
  refine vX11_relabel_0 ⟨obj l0, c_isNode hN (bB0 (fun h => ?_) (fun h => ⟨obj l0, c_isNode hN (bB0 (fun h2 => ?_) (fun h2 => ⟨fun e => ?_, fun e => ⟨obj l0, c_isAtomButZero hT (bBn (fun h3 => ldR l0 rfl (ldR l1 rfl ?_)) (fun h3 => ?_))⟩⟩))⟩))⟩
  · rw [sp_rl, if_neg (by intro z; rw [z.1, z.2.1] at h; exact absurd h (by decide))] at k; exact k c Fr.rf hN
  · rw [sp_rl, if_neg (by intro z; rw [z.1, z.2.2.1] at h2; exact absurd h2 (by decide))] at k; exact k c Fr.rf hN
  · rw [sp_rl, if_neg (fun z => z.2.2.2.1 e)] at k; exact k c Fr.rf hN
  · rw [Bool.and_eq_true] at h h2
    obtain ⟨j, hj, rfl⟩ := inR_nI (by decide) h.1
    rw [w_nI (by omega)] at h h2
    have hNj := hN j hj
    have h6 := hNj.2.1
    have hnt := isNt_net hj
    obtain ⟨p, hp, rfl⟩ := inR_nI (by omega) h.2
    obtain ⟨q, hq, rfl⟩ := inR_nI (by omega) h2.2
    obtain ⟨ha1, ha2, ha3⟩ := inR1_nI (by omega) h3
    have hpq : p ≠ q := fun z => e (by rw [z])
    rw [sp_rl, w_nI (by omega), if_pos ⟨h.1, h.2, h2.2, e, h3⟩, w_nI (by omega), w_nI (by omega)] at k
    generalize w a = b at *
    subst ha3
    refine alR (t := 0) l4 hj (by decide) (nets_at j hj) ⟨obj hnt.1, c_at hnt hNj hp hq (ldR l0 rfl (ldR l1 rfl (alR (t := 0) l4 hj (by decide) (nets_at j hj) (ldR l0 rfl (ldR l1 rfl ⟨obj hnt.1, c_link hnt isTab_2 (by omega) hT.2.2.2.2.2 (by omega) (by omega) (by omega) ?_⟩)))))⟩
    have f1 : Fr [7 + 2 * j, 7 + 2 * j + 1] c (mI (mI c (7 + 2 * j + 1) (6 * p + q) (nI b)) (7 + 2 * j + 1) (6 * q + p) (nI (mir b))) := (Fr.rf.mI (by simp)).mI (by simp)
    have n1 : NetAt (mI (mI c (7 + 2 * j + 1) (6 * p + q) (nI b)) (7 + 2 * j + 1) (6 * q + p) (nI (mir b))) (7 + 2 * j) (sz j) (rlb (lb j) mir p q b) := by
      refine ⟨by rw [mI_n (by omega), mI_n (by omega)]; exact hNj.1, h6, fun u v hu hv => ?_, fun u hu => by rw [mI_n (by omega), mI_n (by omega)]; exact hNj.2.2.2 u hu⟩
      unfold rlb
      by_cases e1 : u = q ∧ v = p
      · rw [if_pos e1, e1.1, e1.2, mI_s]
      · rw [if_neg e1, mI_n (by omega)]
        by_cases e2 : u = p ∧ v = q
        · rw [if_pos e2, e2.1, e2.2, mI_s]
        · rw [if_neg e2, mI_n (by omega)]; exact hNj.2.2.1 u v hu hv
    have := hN.set hj f1 n1
    rw [fset_id] at this
    exact k _ (fr_net hj f1) this
  · rw [sp_rl, if_neg (by intro z; rw [z.2.2.2.2] at h3; exact absurd h3 (by decide))] at k; exact k c Fr.rf hN
theorem n_relabel (hM : MT c n mir N) (hN : MN c sz lb) (hV : VV n mir sz lb) {net x y a : Int32} {K : Int32 → gk_H → Prop} (k : ∀ c', Fr [71, 72] c c' → Oth c c' → MN c' sz (sp_rl n mir sz lb net x y a).2 → K (sp_rl n mir sz lb net x y a).1 (Hm c')) : RnI E mX12_relabel (dd + 2, 0, 0) [.ref 68, .int net, .int x, .int y, .int a] (Hm c) K := by
  have h4 := hM.n4
  refine vX12_relabel_0 (n_isNet (rng (by decide) (fun h => ?_) (fun j hj hx h => ⟨obj l68, ?_⟩)))
  · rw [sp_rl, if_neg (by rw [h]; simp)] at k; exact k c Fr.rf Oth.rf hN
  · subst hx
    have hNj := hN j hj
    have h6 := hNj.2.1
    rw [sp_rl, w_nI (by omega)] at k
    refine n_isNode (by omega) hNj (rng (by omega) (fun h1 => ?_) (fun p hp hx h1 => ⟨obj l68, n_isNode (by omega) hNj (rng (by omega) (fun h2 => ?_) (fun q hq hy h2 => ⟨fun e => ?_, fun e => ⟨obj l68, n_isOther hM (bBn (fun h3 => ⟨obj l68, ?_⟩) (fun h3 => ?_))⟩⟩))⟩))
    · rw [if_neg (by rw [h1]; simp)] at k; exact k c Fr.rf Oth.rf hN
    · rw [if_neg (by rw [h2]; simp)] at k; exact k c Fr.rf Oth.rf hN
    · rw [if_neg (fun z => z.2.2.2.1 e)] at k; exact k c Fr.rf Oth.rf hN
    · subst hx hy
      obtain ⟨ha1, ha2, ha3⟩ := inR1_nI (by omega) h3
      have hpq : p ≠ q := fun z => e (by rw [z])
      rw [if_pos ⟨h, h1, h2, e, h3⟩, w_nI (by omega), w_nI (by omega)] at k
      generalize w a = b at *
      subst ha3
      refine n_labelOf (by omega) hNj (hV j hj).z hp hq ⟨obj l68, n_lays (by omega) hM.row (by omega) (by omega) (by omega) ?_⟩
      have f1 : FrN j c (mI (mI c 72 (36 * j + 6 * p + q) (nI b)) 72 (36 * j + 6 * q + p) (nI (mir b))) := (FrN.rf.m72 (by omega) (by omega)).m72 (by omega) (by omega)
      have n1 : MNet (mI (mI c 72 (36 * j + 6 * p + q) (nI b)) 72 (36 * j + 6 * q + p) (nI (mir b))) j (sz j) (rlb (lb j) mir p q b) := by
        refine ⟨by rw [mI_n (by omega), mI_n (by omega)]; exact hNj.1, h6, fun u v hu hv huv => ?_⟩
        unfold rlb
        by_cases e1 : u = q ∧ v = p
        · rw [if_pos e1, e1.1, e1.2, mI_s]
        · rw [if_neg e1, mI_n (by omega)]
          by_cases e2 : u = p ∧ v = q
          · rw [if_pos e2, e2.1, e2.2, mI_s]
          · rw [if_neg e2, mI_n (by omega)]; exact hNj.2.2 u v hu hv huv
      have := hN.set f1 n1
      rw [fset_id] at this
      exact k _ f1.1 (Oth.of hj f1) this
    · rw [if_neg (by intro z; rw [z.2.2.2.2] at h3; exact absurd h3 (by decide))] at k; exact k c Fr.rf Oth.rf hN
end NA
