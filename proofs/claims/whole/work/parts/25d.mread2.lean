/-! read: the reference does it -/
def RdM (c c' : gm) (s : TS) : Prop := MT c' s.1 s.2.1 s.2.2.1 ∧ F8 [69, 70, 71, 80] [0, 5, 6, 20, 21, 22] c c' ∧ (s.2.2.2 = true → (∀ i, i < 6 → c'.1 71 i = nI 0) ∧ c'.1 68 5 = nI 0 ∧ c'.1 68 6 = nI 0) ∧ (s.2.2.2 = false → F8 [70, 80] [20, 21, 22] c c')
theorem RdM.st {c c1 c2 : gm} {s : TS} (h : RdM c c1 s) (hf : F8 [80] [20, 21, 22] c1 c2) : RdM c c2 s := by
  obtain ⟨a1, a2, a3, a4⟩ := h
  refine ⟨a1.f8 hf (by decide) (by decide) (by decide), a2.trans (hf.mono (by simp) (by simp)), fun e => ?_, fun e => (a4 e).trans (hf.mono (by simp) (by simp))⟩
  have := a3 e
  exact ⟨fun i hi => by rw [hf.i (by decide)]; exact this.1 i hi, by rw [hf.2 5 (by decide)]; exact this.2.1, by rw [hf.2 6 (by decide)]; exact this.2.2⟩
theorem neg_lt {v : Int32} (h : ¬ 0 ≤ v) : v < 0 := by
  rw [Int32.lt_iff_toInt_lt]
  rw [Int32.le_iff_toInt_le] at h
  omega
theorem pos_nlt {v : Int32} (h : 0 ≤ v) : ¬ v < 0 := by
  rw [Int32.lt_iff_toInt_lt]
  rw [Int32.le_iff_toInt_le] at h
  omega
section MD2
variable {E : gk_E} {dd : Nat} {c : gm} {t : Nat} {tb : Nat → Nat}
theorem n_isDone {c1 : gm} {s : TS} {p : Nat} (hG : Gd s.1 s.2.1 s.2.2.1) (hR : RdM c c1 s) (hA : AtM c1 t tb p) {i : Nat} (hi : i < 4) {x y z : Int32} (h0 : c1.1 80 0 = x) (h1 : 2 ≤ fg i → c1.1 80 1 = y) (h2 : 3 ≤ fg i → c1.1 80 2 = z) {K : Int32 → gk_H → Prop} (k1 : doS s i x y z = none → K (nI 0) (Hm c1)) (k2 : ∀ s', doS s i x y z = some s' → ∀ c', RdM c c' s' → AtM c' t tb p → c'.1 68 20 = c1.1 68 20 → K (nI 1) (Hm c')) : RnI E mX12_isDone (dd + 3, 0, 0) [.ref 68, .int (nI i)] (Hm c1) K := by
  obtain ⟨rT, rF, rC, rN⟩ := hR
  have hn := rT.n4
  have no : ∀ {v : Int32} {h : gk_H}, ¬ 0 ≤ v → K (nI 0) h → (v < 0 → K (nI 0) h) ∧ (¬ v < 0 → K (nI 1) h) := fun hv kk => ⟨fun _ => kk, fun z => absurd (neg_lt hv) z⟩
  have yes : ∀ {v : Int32} {h : gk_H}, 0 ≤ v → K (nI 1) h → (v < 0 → K (nI 0) h) ∧ (¬ v < 0 → K (nI 1) h) := fun hv kk => ⟨fun z => absurd z (pos_nlt hv), fun _ => kk⟩
  have gone : ∀ c', F8 [69, 70, 71] [0, 5, 6] c1 c' → ∀ n' mir' N', MT c' n' mir' N' → (∀ i, i < 6 → c'.1 71 i = nI 0) → c'.1 68 5 = nI 0 → c'.1 68 6 = nI 0 → RdM c c' (n', mir', N', true) ∧ AtM c' t tb p := fun c' f' n' mir' N' t' a1 a2 a3 => ⟨⟨t', rF.trans (f'.mono (by simp) (by simp)), fun _ => ⟨a1, a2, a3⟩, fun h => absurd h (by simp)⟩, hA.f8 f' (by decide) (by decide) (by decide) (by decide) (by decide)⟩
  have tri : ¬ i = 0 → ¬ i = 1 → ∀ q : Int32, q = nI (if i = 2 then 1 else 0) → RnI E mX12_triangle (dd + 2, 0, 0) [.ref 68, .int x, .int y, .int z, .int q] (Hm c1) (fun v h => (v < 0 → K (nI 0) h) ∧ (¬ v < 0 → K (nI 1) h)) := by
    intro n0 n1 q hq
    subst hq
    refine n_triangle (dd := dd) hG rT (fun r h => no (tri0_neg h) (k1 (by unfold doS; rw [if_neg n0, if_neg n1, h]))) (fun h c' f' t' => yes (nI_le0 (Nat.lt_of_le_of_lt (mkC_64 _ _ _ _ _ _) (by decide))) ?_)
    have hu : i = 2 ∨ i = 3 := by omega
    have eq : (decide (w (nI (if i = 2 then 1 else 0)) = 1)) = decide (i = 2) := by
      rcases hu with h2 | h2
      · subst h2; rfl
      · subst h2; rfl
    rw [eq] at t'
    have g' : F8 [70] [] c1 c' := F8.of f' (by decide)
    refine k2 (s.1, s.2.1, mkN s.2.1 s.2.2.1 (w x) (w y) (w z) (decide (i = 2)), s.2.2.2) (by unfold doS; rw [if_neg n0, if_neg n1, h]) c' ⟨t', rF.trans (g'.mono (by simp) (by simp)), fun hc => ?_, fun hc => (rN hc).trans (g'.mono (by simp) (by simp))⟩ (hA.f8 g' (by simp) (by simp) (by decide) (by decide) (by decide)) (g'.2 20 (by simp))
    have := rC hc
    exact ⟨fun i hi => by rw [g'.i (by decide)]; exact this.1 i hi, by rw [g'.2 5 (by simp)]; exact this.2.1, by rw [g'.2 6 (by simp)]; exact this.2.2⟩
  refine vX12_isDone_0 ⟨fun e => ldR l68 rfl (alI l80 (by decide) (by decide) ⟨obj l68, ?_⟩), fun e => ldR l68 rfl (alI l80 (by decide) (by decide) (ldR l68 rfl (alI l80 (by decide) (by decide) ⟨obj l68, ?_⟩))), fun e e' => ldR l68 rfl (alI l80 (by decide) (by decide) (ldR l68 rfl (alI l80 (by decide) (by decide) (ldR l68 rfl (alI l80 (by decide) (by decide) ?_)))))⟩
  · have e := (nI_eq (by omega) (by decide)).mp e
    subst e
    rw [h0]
    refine n_atoms (dd := dd + 1) rT (fun h => no (by decide) (k1 (by unfold doS; rw [if_pos rfl, if_neg (by rw [h]; decide)]))) (fun h c' f' t' a1 a2 a3 => yes (nI_le0 (by omega)) ?_)
    have g := gone c' f' _ _ _ t' a1 a2 a3
    exact k2 _ (by unfold doS; rw [if_pos rfl, if_pos h]) c' g.1 g.2 (f'.2 20 (by decide))
  · have e := (nI_eq (by omega) (by decide)).mp e
    subst e
    rw [h0, h1 (by decide)]
    refine n_pair (dd := dd) hG rT (fun h => no (by decide) (k1 (by unfold doS; rw [if_neg (by decide), if_pos rfl, if_neg (by rw [h]; decide)]))) (fun h c' f' t' a1 a2 a3 => yes (nI_le0 ?_) ?_)
    · have : ∀ k, cpd (cp2 s.2.1 (w x) (w y)) k ≤ k := fun k => by
        induction k with
        | zero => exact Nat.le_refl _
        | succ k ih => unfold cpd; split <;> omega
      have := this s.1
      omega
    · have g := gone c' f' _ _ _ t' a1 a2 a3
      exact k2 _ (by unfold doS; rw [if_neg (by decide), if_pos rfl, if_pos h]) c' g.1 g.2 (f'.2 20 (by decide))
  · have n0 : ¬ i = 0 := fun q => e (by rw [q])
    have n1 : ¬ i = 1 := fun q => e' (by rw [q])
    have f3 : 3 ≤ fg i := by unfold fg; rw [if_neg n0, if_neg n1]; exact Nat.le_refl _
    rw [h0, h1 (by omega), h2 f3]
    refine bNe (fun q => ⟨obj l68, tri n0 n1 _ (by rw [if_neg q])⟩) (fun q => ⟨obj l68, tri n0 n1 _ (by rw [if_pos q])⟩)
theorem n_read {n N : Nat} {mir : Nat → Nat} (hG : Gd n mir N) (hM : MT c n mir N) (hW : WdM c) (hT : TpM c t tb) (hV : TpV t tb) {K : Int32 → gk_H → Prop} (k : ∀ c', RdM c c' (rdA tb t (n, mir, N, false)).2 → c'.1 68 20 = nI 0 → K (rdA tb t (n, mir, N, false)).1 (Hm c')) : RnI E mX12_read (dd + 4, 0, 0) [.ref 68] (Hm c) K := by
  have t100 := hV.1
  refine vX12_read_0 (ldI l68 rfl ?_)
  rw [hT.1]
  refine stI l68 rfl (stI l68 rfl (stI l68 rfl ?_))
  generalize hc0 : mI (mI (mI c 68 21 (nI t)) 68 20 (nI 0)) 68 22 (nI 0) = c0
  have f0 : F8 [80] [20, 21, 22] c c0 := by rw [← hc0]; exact ((F8.rf.slot (by simp)).slot (by simp)).slot (by simp)
  have e20 : c0.1 68 20 = nI 0 := by rw [← hc0, mI_n (by omega), mI_s]
  have A0 : AtM c0 t tb 0 := ⟨by rw [← hc0, mI_n (by omega), mI_n (by omega), mI_s], by rw [← hc0, mI_s], fun i hi => by rw [f0.i (by decide)]; exact hT.2 i hi, hW.f8 f0 (by decide) (by decide)⟩
  have R0 : RdM c c0 (n, mir, N, false) := RdM.st (c1 := c) ⟨hM, F8.rf, fun h => absurd h (by simp), fun _ => F8.rf⟩ f0
  have pass2 : ∀ fu p u s c1, u + fu = 100 → u ≤ p → (p ≤ t ∧ flt tb t (fu + 1) p = none ∨ p = t + 1) → Gd s.1 s.2.1 s.2.2.1 → RdM c c1 s → c1.1 68 20 = nI 0 → AtM c1 t tb p → (∀ c', RdM c c' (exe tb t fu p u s).2 → c'.1 68 20 = nI 0 → K (exe tb t fu p u s).1 (Hm c')) → ∀ v, pX12_read_96 E (dd + 3) 68 v (nI u) (Hm c1) K := by
    intro fu
    induction fu with
    | zero =>
      intro p u s c1 h1 h2 h3 hG hR h20 hA k v
      refine vX12_read_96 (ldI l68 rfl (ldI l68 rfl ?_))
      rw [hA.1, hA.2.1]
      exact bLe (fun _ => k c1 hR h20) (fun z => absurd z (by omega))
    | succ fu ih =>
      intro p u s c1 h1 h2 h3 hG hR h20 hA k v
      refine vX12_read_96 (ldI l68 rfl (ldI l68 rfl ?_))
      rw [hA.1, hA.2.1]
      rw [exe] at k
      refine bLe (fun z => ?_) (fun z => ⟨obj l68, ?_⟩)
      · rw [if_pos z] at k; exact k c1 hR h20
      · rw [if_neg (by omega)] at k
        rcases h3 with ⟨hp, hfl⟩ | hp
        · obtain ⟨i, e, hps, hnx⟩ := flt_st hp hfl
          have pb := (ps_b (tb := tb) hp).2 i e hps
          rw [hps] at k
          dsimp only at k
          refine n_statement (dd := dd) t100 hV hp hA (fun f hf => absurd (hps.symm.trans hf) (by simp)) (fun i' e' hps' c2 f2 A2 h80 => ⟨obj l68, ?_⟩)
          have e9 := Sum.inr.inj (hps.symm.trans hps')
          rw [Prod.mk.injEq] at e9
          obtain ⟨rfl, rfl⟩ := e9
          have fb := fg_b (i := i)
          refine n_isDone (dd := dd) hG (hR.st (f2.mono (by simp) (by simp))) A2 pb.1 (h80 0 (by omega)) (fun h => h80 1 (by omega)) (fun h => h80 2 (by omega)) (fun hd => ⟨fun z => absurd rfl z, fun _ => ?_⟩) (fun s' hd c3 R3 A3 s20 => ⟨fun _ => ldI l68 rfl ?_, fun z => absurd z (by decide)⟩)
          · have hd : doS s i (figI tb t (e + 1)) (figI tb t (e + 3)) (figI tb t (e + 5)) = none := hd
            rw [hd] at k
            exact k c2 (hR.st (f2.mono (by simp) (by simp))) (by rw [f2.2 20 (by decide)]; exact h20)
          · have hd : doS s i (figI tb t (e + 1)) (figI tb t (e + 3)) (figI tb t (e + 5)) = some s' := hd
            rw [hd] at k
            dsimp only at k
            rw [A3.2.1, nI_add, nI_add]
            have h20' : c3.1 68 20 = nI 0 := by rw [s20, f2.2 20 (by decide)]; exact h20
            refine stI l68 rfl (ih _ _ s' _ (by omega) (by omega) ?_ (doS_G hG hd) (R3.st (F8.rf.slot (by simp))) (by rw [mI_n (by omega)]; exact h20') A3.mv k _)
            rcases hnx with h | ⟨h, h'⟩
            · exact Or.inr (by omega)
            · exact Or.inl ⟨by omega, h'⟩
        · omega
  have kf : ∀ f, flt tb t 101 0 = some f → ∀ c', RdM c c' (n, mir, N, false) → c'.1 68 20 = nI 0 → K (-100 - nI f) (Hm c') := fun f hf c' R' h20 => by
    have : rdA tb t (n, mir, N, false) = (-100 - nI f, (n, mir, N, false)) := by unfold rdA; rw [hf]
    rw [this] at k
    exact k c' R' h20
  have pass1 : ∀ fu p u c1, u + fu = 101 → u ≤ p → p ≤ t → flt tb t 101 0 = flt tb t fu p → RdM c c1 (n, mir, N, false) → c1.1 68 20 = nI 0 → AtM c1 t tb p → pX12_read_20 E (dd + 3) 68 (nI 1) (Hm c1) K := by
    intro fu
    induction fu with
    | zero => intro p u c1 h1 h2 h3; omega
    | succ fu ih =>
      intro p u c1 h1 h2 h3 hfl R1 h20 A1
      have pb := ps_b (tb := tb) h3
      rw [show flt tb t (fu + 1) p = (match ps tb t p with
        | .inl f => some f
        | .inr (i, e) => if e + 2 * fg i = t then none else if tb (e + 2 * fg i) = 59 then flt tb t fu (e + 2 * fg i + 1) else some (e + 2 * fg i)) from rfl] at hfl
      refine vX12_read_20 ⟨fun z => absurd z (by decide), fun _ => ⟨obj l68, n_statement (dd := dd) t100 hV h3 A1 (fun f hf c2 f2 A2 => ⟨fun z => absurd rfl z, fun _ => ldI l68 rfl ?_⟩) (fun i e hps c2 f2 A2 h80 => ?_)⟩⟩
      · rw [hf] at hfl
        rw [A2.2.1]
        exact kf f hfl c2 (R1.st (f2.mono (by simp) (by simp))) (by rw [f2.2 20 (by decide)]; exact h20)
      · have pbb := pb.2 i e hps
        rw [hps] at hfl
        dsimp only at hfl
        have R2 := R1.st (f2.mono (by simp) (by simp))
        have s2 : c2.1 68 20 = nI 0 := by rw [f2.2 20 (by decide)]; exact h20
        refine ⟨fun _ => ⟨obj l68, n_isAt (dd := dd + 2) t100 hV A2 (by omega) (by decide) (by decide) (ldI l68 rfl ?_)⟩, fun z => absurd z (nI_ne1 (by omega))⟩
        rw [A2.2.1]
        generalize hq : e + 2 * fg i = q at *
        refine bB0 (fun e1 => ?_) (fun e1 => ?_)
        · have h1' := of_decide_eq_false e1
          rw [nI_add, Nat.add_zero, e1]
          refine stI l68 rfl ?_
          have A3 := A2.mv (q := q)
          refine vX12_read_20 ⟨fun _ => ldI l68 rfl (ldI l68 rfl ?_), fun z => absurd rfl z⟩
          rw [A3.1, A3.2.1]
          refine bLe (fun z => stI l68 rfl ?_) (fun z => ldI l68 rfl ?_)
          · have qt : q = t := by omega
            rw [if_pos qt] at hfl
            have hr : rdA tb t (n, mir, N, false) = exe tb t 100 0 0 (n, mir, N, false) := by unfold rdA; rw [hfl]
            rw [hr] at k
            exact pass2 100 0 0 (n, mir, N, false) _ rfl (Nat.le_refl _) (Or.inl ⟨Nat.zero_le _, hfl⟩) hG ((R2.st (F8.rf.slot (by simp))).st (F8.rf.slot (by simp))) (by rw [mI_n (by omega), mI_n (by omega)]; exact s2) A3.mv k _
          · rw [A3.2.1]
            rw [if_neg (by omega), if_neg (by omega)] at hfl
            exact kf q hfl _ (R2.st (F8.rf.slot (by simp))) (by rw [mI_n (by omega)]; exact s2)
        · have h1' := of_decide_eq_true e1
          rw [nI_add, e1]
          rw [if_neg (by omega), if_pos (by omega)] at hfl
          exact stI l68 rfl (ih (q + 1) (u + 1) _ (by omega) (by omega) (by omega) hfl (R2.st (F8.rf.slot (by simp))) (by rw [mI_n (by omega)]; exact s2) A2.mv)
  exact pass1 101 0 0 c0 rfl (Nat.le_refl _) (Nat.zero_le _) rfl R0 e20 A0
end MD2
