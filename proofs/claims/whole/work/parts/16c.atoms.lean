/-! atoms, pair -/
/-- rows l, and slots ks of the reference's object, may change -/
def F8 (l ks : List Nat) (c c' : gm) : Prop := Fr (68 :: l) c c' ∧ ∀ k, k ∉ ks → c'.1 68 k = c.1 68 k
theorem F8.rf {l ks : List Nat} {c : gm} : F8 l ks c c := ⟨Fr.rf, fun _ _ => rfl⟩
theorem F8.trans {l ks : List Nat} {c c1 c2 : gm} (h1 : F8 l ks c c1) (h2 : F8 l ks c1 c2) : F8 l ks c c2 := ⟨h1.1.trans h2.1, fun k hk => (h2.2 k hk).trans (h1.2 k hk)⟩
theorem F8.mono {l ks l' ks' : List Nat} {c c' : gm} (h : F8 l ks c c') (hl : ∀ q, q ∈ l → q ∈ l') (hk : ∀ q, q ∈ ks → q ∈ ks') : F8 l' ks' c c' := ⟨h.1.mono (fun q hq => by
  rcases List.mem_cons.mp hq with e | e
  · rw [e]; exact List.mem_cons_self
  · exact List.mem_cons_of_mem _ (hl q e)), fun k hkk => h.2 k (fun z => hkk (hk k z))⟩
theorem F8.of {l ks : List Nat} {c c' : gm} (h : Fr l c c') (h8 : 68 ∉ l) : F8 l ks c c' := ⟨h.mono (fun q hq => List.mem_cons_of_mem _ hq), fun k _ => h.i h8 k⟩
theorem F8.put {l ks : List Nat} {c c1 : gm} {r k : Nat} {x : Int32} (h : F8 l ks c c1) (hr : r ∈ l) (h8 : r ≠ 68) : F8 l ks c (mI c1 r k x) := ⟨h.1.mI (List.mem_cons_of_mem _ hr), fun j hj => by rw [mI_n (fun z => h8 z.1.symm)]; exact h.2 j hj⟩
theorem F8.slot {l ks : List Nat} {c c1 : gm} {k : Nat} {x : Int32} (h : F8 l ks c c1) (hk : k ∈ ks) : F8 l ks c (mI c1 68 k x) := ⟨h.1.mI List.mem_cons_self, fun j hj => by rw [mI_n (fun z => hj (by rw [z.2]; exact hk))]; exact h.2 j hj⟩
theorem F8.putL {l ks : List Nat} {c c1 : gm} {r k : Nat} {x : Int64} (h : F8 l ks c c1) (hr : r ∈ l) : F8 l ks c (mL c1 r k x) := ⟨h.1.mL (List.mem_cons_of_mem _ hr), fun j hj => h.2 j hj⟩
theorem F8.i {l ks : List Nat} {c c' : gm} (h : F8 l ks c c') {q : Nat} (hq : q ∉ 68 :: l) (k : Nat) : c'.1 q k = c.1 q k := h.1.i hq k
theorem F8.l {l ks : List Nat} {c c' : gm} (h : F8 l ks c c') {q : Nat} (hq : q ∉ 68 :: l) (k : Nat) : c'.2.1 q k = c.2.1 q k := h.1.l hq k
theorem MT.f8 {c c' : gm} {n N : Nat} {mir : Nat → Nat} {l ks : List Nat} (h : MT c n mir N) (hf : F8 l ks c c') (h0 : 0 ∉ ks) (h2 : 69 ∉ 68 :: l) (h3 : 70 ∉ 68 :: l) : MT c' n mir N := by
  obtain ⟨B, ⟨a1, a2, a3, a4, a5⟩, hA⟩ := h
  exact ⟨B, ⟨by rw [hf.2 0 h0]; exact a1, a2, a3, fun a ha => by rw [hf.i h2]; exact a4 a ha, fun k hk => by rw [hf.i h3]; exact a5 k hk⟩, hA⟩
section AT
variable {E : gk_E} {dd : Nat} {c : gm} {n N : Nat} {mir : Nat → Nat}
theorem c_forget {K : gk_H → Prop} (k : ∀ c', Fr [1, 7, 9, 11, 52] c c' → (∀ j, j < 3 → c'.1 (7 + 2 * j) 0 = nI 0) → c'.1 1 3 = nI 0 → c'.1 52 1 = nI 0 → K (Hm c')) : RnV E mX11_forgetNetworks (dd + 1, 0, 0) [.ref 0] (Hm c) K := by
  refine vX11_forgetNetworks_0 (ldR l0 rfl ⟨obj l1, vX7_clearNets_0 ?_⟩)
  refine down (P := fun a => ∀ c', Fr [1, 7, 9, 11, 52] c c' → (∀ j, j < a → c'.1 (7 + 2 * j) 0 = nI 0) → pX7_clearNets_2 E dd 1 (nI a) (Hm c') _) 3 ?_ ?_ 0 (Nat.zero_le _) c Fr.rf (fun j hj => absurd hj (by omega))
  · intro c' hf hz
    refine vX7_clearNets_2 (bLe (fun _ => stI l1 rfl (ldR l0 rfl (stI l52 rfl ?_))) (fun h => absurd h (by omega)))
    exact k _ ((hf.mI (by simp)).mI (by simp)) (fun j hj => by rw [mI_n (by omega), mI_n (by omega)]; exact hz j hj) (by rw [mI_n (by omega), mI_s]) mI_s
  · intro a ha ih c' hf hz
    refine vX7_clearNets_2 (bLe (fun h => absurd h (by omega)) (fun _ => ldR l1 rfl (alR (t := 0) l4 ha (by decide) (nets_at a ha) (stI (isNt_net ha).1 rfl ?_))))
    rw [nI_add]
    refine ih _ (hf.mI (match a, ha with | 0, _ => by simp | 1, _ => by simp | 2, _ => by simp)) (fun j hj => ?_)
    by_cases e : j = a
    · subst e; exact mI_s
    · rw [mI_n (by omega)]; exact hz j (by omega)
theorem NN_z {c c' : gm} {sz : szT} {lb : lbT} {l : List Nat} (h : NN c sz lb) (hf : Fr l c c') (h8 : 8 ∉ l) (h10 : 10 ∉ l) (h12 : 12 ∉ l) (hz : ∀ j, j < 3 → c'.1 (7 + 2 * j) 0 = nI 0) : NN c' (fun _ => 0) lb := fun j hj => by
  refine ⟨hz j hj, Nat.zero_le _, fun p q hp => absurd hp (Nat.not_lt_zero _), fun p hp => ?_⟩
  rw [hf.i (by match j, hj with
    | 0, _ => exact h8
    | 1, _ => exact h10
    | 2, _ => exact h12)]
  exact (h j hj).2.2.2 p hp
theorem c_atoms (hT : Tab c 2 n mir N) {x : Int32} {K : Int32 → gk_H → Prop} (k1 : inR x 1 (5 : Nat) = false → K (-2) (Hm c)) (k2 : inR x 1 (5 : Nat) = true → ∀ c', Fr [1, 2, 3, 7, 9, 11, 52] c c' → Tab c' 2 (w x) (fun a => a) (fixB (fun a => a) (w x)) → (∀ j, j < 3 → c'.1 (7 + 2 * j) 0 = nI 0) → c'.1 1 3 = nI 0 → c'.1 52 1 = nI 0 → K (nI n) (Hm c')) : RnI E mX11_atoms (dd + 3, 0, 0) [.ref 0, .int x] (Hm c) K := by
  refine vX11_atoms_0 ⟨fun h => k1 (inR_1 h), fun h => ⟨fun h2 => ldR l0 rfl (ldR l1 rfl (ldI l2 rfl (ldR l0 rfl (ldR l1 rfl ⟨obj l2, ?_⟩)))), fun h2 => k1 (inR_hi ?_ (by decide))⟩⟩
  · have hx : inR x 1 (5 : Nat) = true := by
      refine inR_ok1 h (fun e => ?_) (by decide)
      rw [Int32.le_iff_toInt_le, nI_toInt (by decide)] at h2 e
      omega
    obtain ⟨a1, a2, a3⟩ := inR1_nI (by decide) hx
    rw [hT.1]
    replace k2 := k2 hx
    generalize w x = m at *
    subst a3
    refine c_restart isTab_2 a1 (by omega) (fun c1 f1 t1 => ⟨obj l0, c_forget (fun c2 f2 z1 z2 z3 => ?_)⟩)
    exact k2 c2 ((f1.mono (by simp)).trans (f2.mono (by simp))) (t1.fr f2 (by decide) (by decide)) z1 z2 z3
  · rw [Int32.le_iff_toInt_le, nI_toInt (by decide)] at h2 ⊢
    omega
theorem c_pair (hG : Gd n mir N) (hT : Tab c 2 n mir N) {x y : Int32} {K : Int32 → gk_H → Prop} (k1 : (inR x 1 n && inR y 1 n) = false → K (-1) (Hm c)) (k2 : (inR x 1 n && inR y 1 n) = true → ∀ c', Fr [1, 2, 3, 7, 9, 11, 52] c c' → Tab c' 2 n (cp2 mir (w x) (w y)) (fixB (cp2 mir (w x) (w y)) n) → (∀ j, j < 3 → c'.1 (7 + 2 * j) 0 = nI 0) → c'.1 1 3 = nI 0 → c'.1 52 1 = nI 0 → K (nI (cpd (cp2 mir (w x) (w y)) n)) (Hm c')) : RnI E mX11_pair (dd + 3, 0, 0) [.ref 0, .int x, .int y] (Hm c) K := by
  have h4 := hT.2.2.1
  refine vX11_pair_0 ⟨obj l0, c_isAtomButZero hT (bB0 (fun h => ?_) (fun h => ⟨obj l0, c_isAtomButZero hT (bBn (fun h2 => ldR l0 rfl (ldR l1 rfl ⟨obj l2, ?_⟩)) (fun h2 => ?_))⟩))⟩
  · exact k1 (by rw [h, Bool.false_and])
  · replace k2 := k2 (by rw [h, h2]; rfl)
    obtain ⟨a1, a2, a3⟩ := inR1_nI (by omega) h
    obtain ⟨b1, b2, b3⟩ := inR1_nI (by omega) h2
    generalize w x = a at *
    generalize w y = b at *
    subst a3 b3
    refine c_couple (mir := mir) isTab_2 hT.1 h4 hT.2.2.2.2.2 (by omega) (by omega) hT.2.1 (fun c1 f1 t1 => ⟨obj l0, c_forget (fun c2 f2 z1 z2 z3 => ldR l0 rfl (ldR l1 rfl ⟨obj l2, ?_⟩))⟩)
    rw [cpl_eq hG.mr a2 b2] at t1
    have t2 := t1.fr f2 (by decide) (by decide)
    exact c_coupled isTab_2 t2 (k2 c2 ((f1.mono (by simp)).trans (f2.mono (by simp))) t2 z1 z2 z3)
  · exact k1 (by rw [h2, Bool.and_false])
theorem narZ (b : Bool) : vp_nar .boolean (bI b) = bI b := by cases b <;> rfl
def fxk (mir : Nat → Nat) (k : Nat) : Bool := fx mir (k / 16) (k / 4 % 4) (k % 4)
theorem fxk_ix {mir : Nat → Nat} {a b z : Nat} (hb : b < 4) (hz : z < 4) : fxk mir (ix a b z) = fx mir a b z := by
  unfold fxk ix
  rw [show (16 * a + 4 * b + z) / 16 = a by omega, show (16 * a + 4 * b + z) / 4 % 4 = b by omega, show (16 * a + 4 * b + z) % 4 = z by omega]
theorem n_fixes (hm : Row c 69 mir) {K : gk_H → Prop} (k : ∀ c', F8 [70, 71] [5, 6] c c' → (∀ i, i < 64 → c'.1 70 i = bI (fxk mir i)) → (∀ i, i < 6 → c'.1 71 i = nI 0) → c'.1 68 5 = nI 0 → c'.1 68 6 = nI 0 → K (Hm c')) : RnV E mX12_fixes (dd, 0, 0) [.ref 68] (Hm c) K := by
  refine vX12_fixes_0 ?_
  have fin : ∀ c1, F8 [70, 71] [5, 6] c c1 → (∀ i, i < 64 → c1.1 70 i = bI (fxk mir i)) → pX12_fixes_113 E dd 68 (nI 0) (Hm c1) K := by
    intro c1 f1 h1
    refine down (P := fun a => ∀ c', F8 [70, 71] [5, 6] c c' → (∀ i, i < 64 → c'.1 70 i = bI (fxk mir i)) → (∀ i, i < a → c'.1 71 i = nI 0) → pX12_fixes_113 E dd 68 (nI a) (Hm c') K) 6 ?_ ?_ 0 (Nat.zero_le _) c1 f1 h1 (fun i hi => absurd hi (by omega))
    · intro c' hf h1 h2
      refine vX12_fixes_113 (bLe (fun _ => stI l68 rfl (stI l68 rfl ?_)) (fun h => absurd h (by omega)))
      exact k _ ((hf.slot (by simp)).slot (by simp)) (fun i hi => by rw [mI_n (by omega), mI_n (by omega)]; exact h1 i hi) (fun i hi => by rw [mI_n (by omega), mI_n (by omega)]; exact h2 i hi) (by rw [mI_n (by omega), mI_s]) mI_s
    · intro a ha ih c' hf h1 h2
      refine vX12_fixes_113 (bLe (fun h => absurd h (by omega)) (fun _ => ldR l68 rfl (asI l71 ha (by decide) ?_)))
      rw [nI_add]
      refine ih _ (hf.put (by simp) (by decide)) (fun i hi => by rw [mI_n (by omega)]; exact h1 i hi) (fun i hi => ?_)
      by_cases e : i = a
      · subst e; exact mI_s
      · rw [mI_n (by omega)]; exact h2 i (by omega)
  refine down (P := fun a => ∀ c', F8 [70, 71] [5, 6] c c' → (∀ i, i < 16 * a → c'.1 70 i = bI (fxk mir i)) → pX12_fixes_2 E dd 68 (nI a) (Hm c') K) 4 ?_ ?_ 0 (Nat.zero_le _) c F8.rf (fun i hi => absurd hi (by omega))
  · intro c' hf h1
    exact vX12_fixes_2 (bLe (fun _ => fin c' hf h1) (fun h => absurd h (by omega)))
  intro a ha ih c' hf h1
  refine vX12_fixes_2 (bLe (fun h => absurd h (by omega)) (fun _ => ?_))
  refine down (P := fun b => ∀ c', F8 [70, 71] [5, 6] c c' → (∀ i, i < 16 * a + 4 * b → c'.1 70 i = bI (fxk mir i)) → pX12_fixes_9 E dd 68 (nI a) (nI b) (Hm c') K) 4 ?_ ?_ 0 (Nat.zero_le _) c' hf h1
  · intro c' hf h1
    refine vX12_fixes_9 (bLe (fun _ => ?_) (fun h => absurd h (by omega)))
    rw [nI_add]
    exact ih c' hf h1
  intro b hb ih2 c' hf h1
  refine vX12_fixes_9 (bLe (fun h => absurd h (by omega)) (fun _ => ?_))
  refine down (P := fun z => ∀ c', F8 [70, 71] [5, 6] c c' → (∀ i, i < 16 * a + 4 * b + z → c'.1 70 i = bI (fxk mir i)) → pX12_fixes_16 E dd 68 (nI a) (nI b) (nI z) (Hm c') K) 4 ?_ ?_ 0 (Nat.zero_le _) c' hf h1
  · intro c' hf h1
    refine vX12_fixes_16 (bLe (fun _ => ?_) (fun h => absurd h (by omega)))
    rw [nI_add]
    exact ih2 c' hf h1
  intro z hz ih3 c' hf h1
  have hm' := hm a ha
  have hixl := ix_lt ha hb hz
  have wr : ∀ v, fx mir a b z = v → AsZ (Hm c') 70 (nI 16 * nI a + nI 4 * nI b + nI z) (bI v) fun h2 => pX12_fixes_16 E dd 68 (nI a) (nI b) (nI z + nI 1) h2 K := by
    intro v hv
    rw [ixI, nI_add]
    refine asZ l70 hixl (by decide) ?_
    rw [narZ]
    refine ih3 _ (hf.put (by simp) (by decide)) (fun i hi => ?_)
    by_cases e : i = ix a b z
    · subst e; rw [mI_s, fxk_ix hb hz, hv]
    · rw [mI_n (by omega)]; exact h1 i (by unfold ix at e; omega)
  refine vX12_fixes_16 (bLe (fun h => absurd h (by omega)) (fun _ => bN0 (fun e1 => bN0 (fun e2 => bN0 (fun e3 => ldR l68 rfl (wr false ?_)) (fun e3 => ldR l68 rfl (alI l69 ha (by decide) ?_))) (fun e2 => bNe (fun e3 => ldR l68 rfl (wr false ?_)) (fun e3 => ldR l68 rfl (wr true ?_)))) (fun e1 => bNe (fun e2 => ldR l68 rfl (wr false ?_)) (fun e2 => ldR l68 rfl (wr true ?_)))))
  · unfold fx; rw [if_neg e1, if_neg e2, decide_eq_false e3]; rfl
  · rw [hf.i (by decide), hm'.1]
    refine bNe (fun e4 => ldR l68 rfl (wr false ?_)) (fun e4 => ldR l68 rfl (wr true ?_))
    · unfold fx; rw [if_neg e1, if_neg e2, decide_eq_true e3, decide_eq_false e4]; rfl
    · unfold fx; rw [if_neg e1, if_neg e2, decide_eq_true e3, decide_eq_true e4]; rfl
  · unfold fx; rw [if_neg e1, if_pos e2, decide_eq_false e3]
  · unfold fx; rw [if_neg e1, if_pos e2, decide_eq_true e3]
  · unfold fx; rw [if_pos e1, decide_eq_false e2]
  · unfold fx; rw [if_pos e1, decide_eq_true e2]
theorem MT_fix (h : Mr n mir) (h0 : c.1 68 0 = nI n) (hm : Row c 69 mir) (hb : ∀ i, i < 64 → c.1 70 i = bI (fxk mir i)) : MT c n mir (fixB mir n) := by
  have h4 := h.2.1
  refine ⟨fxk mir, ⟨h0, h.1, h4, hm, hb⟩, fun a b z ha hb hz => ?_, fun a b z ha hb hz e => ?_⟩
  · rw [fixB_bit h (by omega) (by omega) (by omega), decide_eq_true ⟨ha, hb, hz⟩, Bool.true_and, fxk_ix (by omega) (by omega)]
  · rw [fixB_bit h ha hb hz, Bool.and_eq_true] at e
    exact of_decide_eq_true e.1
theorem n_atoms (hM : MT c n mir N) {x : Int32} {K : Int32 → gk_H → Prop} (k1 : inR x 1 (5 : Nat) = false → K (-2) (Hm c)) (k2 : inR x 1 (5 : Nat) = true → ∀ c', F8 [69, 70, 71] [0, 5, 6] c c' → MT c' (w x) (fun a => a) (fixB (fun a => a) (w x)) → (∀ i, i < 6 → c'.1 71 i = nI 0) → c'.1 68 5 = nI 0 → c'.1 68 6 = nI 0 → K (nI n) (Hm c')) : RnI E mX12_atoms (dd + 1, 0, 0) [.ref 68, .int x] (Hm c) K := by
  refine vX12_atoms_0 (n_isFrom (lo := 1) (hi := 4) (by decide) (by decide) (bBn (fun h => ldI l68 rfl (stI l68 rfl ?_)) (fun h => k1 h)))
  replace k2 := k2 h
  obtain ⟨a1, a2, a3⟩ := inR1_nI (by decide) h
  rw [hM.hn]
  generalize w x = m at *
  subst a3
  refine down (P := fun a => ∀ c', F8 [69, 70, 71] [0, 5, 6] c c' → c'.1 68 0 = nI m → (∀ i, i < a → c'.1 69 i = nI i) → pX12_atoms_27 E dd 68 (nI m) (nI n) (nI a) (Hm c') K) 4 ?_ ?_ 0 (Nat.zero_le _) _ (F8.rf.slot (by simp)) mI_s (fun i hi => absurd hi (by omega))
  · intro c' hf h0 hr
    have hrow : Row c' 69 (fun a => a) := fun a ha => ⟨hr a ha, ha⟩
    refine vX12_atoms_27 (bLe (fun _ => ⟨obj l68, n_fixes hrow (fun c2 f2 z1 z2 z3 z4 => ?_)⟩) (fun h => absurd h (by omega)))
    refine k2 c2 (hf.trans (f2.mono (by simp) (by simp))) (MT_fix (Mr_id a1 (by omega)) (by rw [f2.2 0 (by simp)]; exact h0) (fun a ha => by rw [f2.i (by decide)]; exact hrow a ha) z1) z2 z3 z4
  · intro a ha ih c' hf h0 hr
    refine vX12_atoms_27 (bLe (fun h => absurd h (by omega)) (fun _ => ldR l68 rfl (asI l69 ha (by decide) ?_)))
    rw [nI_add]
    refine ih _ (hf.put (by simp) (by decide)) (by rw [mI_n (by omega)]; exact h0) (fun i hi => ?_)
    by_cases e : i = a
    · subst e; exact mI_s
    · rw [mI_n (by omega)]; exact hr i (by omega)
theorem n_pair (hG : Gd n mir N) (hM : MT c n mir N) {x y : Int32} {K : Int32 → gk_H → Prop} (k1 : (inR x 1 n && inR y 1 n) = false → K (-1) (Hm c)) (k2 : (inR x 1 n && inR y 1 n) = true → ∀ c', F8 [69, 70, 71] [0, 5, 6] c c' → MT c' n (cp2 mir (w x) (w y)) (fixB (cp2 mir (w x) (w y)) n) → (∀ i, i < 6 → c'.1 71 i = nI 0) → c'.1 68 5 = nI 0 → c'.1 68 6 = nI 0 → K (nI (cpd (cp2 mir (w x) (w y)) n)) (Hm c')) : RnI E mX12_pair (dd + 2, 0, 0) [.ref 68, .int x, .int y] (Hm c) K := by
  have h4 := hM.n4
  refine vX12_pair_0 ⟨obj l68, n_isOther hM (bB0 (fun h => ?_) (fun h => ⟨obj l68, n_isOther hM (bBn (fun h2 => ldR l68 rfl ?_) (fun h2 => ?_))⟩))⟩
  · exact k1 (by rw [h, Bool.false_and])
  · replace k2 := k2 (by rw [h, h2]; rfl)
    obtain ⟨a1, a2, a3⟩ := inR1_nI (by omega) h
    obtain ⟨b1, b2, b3⟩ := inR1_nI (by omega) h2
    generalize w x = a at *
    generalize w y = b at *
    subst a3 b3
    have ra := hM.row a (by omega)
    have rb := hM.row b (by omega)
    refine alI l69 (by omega) (by decide) (ldR l68 rfl (alI l69 (by omega) (by decide) (ldR l68 rfl ?_)))
    rw [ra.1, rb.1]
    refine asI l69 ra.2 (by decide) (ldR l68 rfl (asI l69 rb.2 (by decide) (ldR l68 rfl (asI l69 (by omega) (by decide) (ldR l68 rfl (asI l69 (by omega) (by decide) ⟨obj l68, ?_⟩))))))
    have hrow := ((((hM.row).set (a := mir a) ra.2).set (a := mir b) rb.2).set (a := a) (b := b) (by omega)).set (a := b) (b := a) (by omega)
    rw [cp3_eq] at hrow
    have hf : F8 [69, 70, 71] [0, 5, 6] c (mI (mI (mI (mI c 69 (mir a) (nI (mir a))) 69 (mir b) (nI (mir b))) 69 a (nI b)) 69 b (nI a)) := (((F8.rf.put (by simp) (by decide)).put (by simp) (by decide)).put (by simp) (by decide)).put (by simp) (by decide)
    have h0 : (mI (mI (mI (mI c 69 (mir a) (nI (mir a))) 69 (mir b) (nI (mir b))) 69 a (nI b)) 69 b (nI a)).1 68 0 = nI n := by rw [mI_n (by omega), mI_n (by omega), mI_n (by omega), mI_n (by omega)]; exact hM.hn
    have hmr := Mr_cp2 hG.mr a1 a2 b1 b2
    refine n_fixes hrow (fun c2 f2 z1 z2 z3 z4 => ?_)
    have hM2 : MT c2 n (cp2 mir a b) (fixB (cp2 mir a b) n) := MT_fix hmr (by rw [f2.2 0 (by simp)]; exact h0) (fun a ha => by rw [f2.i (by decide)]; exact hrow a ha) z1
    have kk := k2 c2 (hf.trans (f2.mono (by simp) (by simp))) hM2 z2 z3 z4
    refine down0 (P := fun i => pX12_pair_73 E (dd + 1) 68 (nI a) (nI b) (nI (mir a)) (nI (mir b)) (nI (cpd (cp2 mir a b) i)) (nI i) (Hm c2) K) n ?_ ?_
    · refine vX12_pair_73 (ldI l68 rfl ?_)
      rw [hM2.hn]
      exact bLe (fun _ => kk) (fun h => absurd h (by omega))
    · intro i hi ih
      have hr := hM2.row i (by omega)
      refine vX12_pair_73 (ldI l68 rfl ?_)
      rw [hM2.hn]
      refine bLe (fun h => absurd h (by omega)) (fun _ => ldR l68 rfl (alI l69 (by omega) (by decide) ?_))
      simp only [hr.1, nI_add]
      refine bNe (fun e => ?_) (fun e => ?_)
      · rw [cpd, if_neg e] at ih; exact ih
      · rw [cpd, if_pos e] at ih; exact ih
  · exact k1 (by rw [h2, Bool.and_false])
end AT
