/-! fills: the reference -/
/-- what stays, when the net in mind is worked on -/
def Fm (c c' : gm) : Prop := F8 [71, 72] [10, 11, 12] c c' ∧ (∀ k, k ≠ 5 → c'.1 71 k = c.1 71 k) ∧ ∀ k, k < 180 → c'.1 72 k = c.1 72 k
theorem Fm.rf {c : gm} : Fm c c := ⟨F8.rf, fun _ _ => rfl, fun _ _ => rfl⟩
theorem Fm.trans {c c1 c2 : gm} (h1 : Fm c c1) (h2 : Fm c1 c2) : Fm c c2 := ⟨h1.1.trans h2.1, fun k hk => (h2.2.1 k hk).trans (h1.2.1 k hk), fun k hk => (h2.2.2 k hk).trans (h1.2.2 k hk)⟩
theorem Fm.m72 {c c1 : gm} {k : Nat} {x : Int32} (h : Fm c c1) (hk : 180 ≤ k) : Fm c (mI c1 72 k x) := ⟨h.1.put (by simp) (by decide), fun j hj => by rw [mI_n (by omega)]; exact h.2.1 j hj, fun j hj => by rw [mI_n (by omega)]; exact h.2.2 j hj⟩
theorem Fm.m71 {c c1 : gm} {x : Int32} (h : Fm c c1) : Fm c (mI c1 71 5 x) := ⟨h.1.put (by simp) (by decide), fun j hj => by rw [mI_n (by omega)]; exact h.2.1 j hj, fun j hj => by rw [mI_n (by omega)]; exact h.2.2 j hj⟩
theorem Fm.slot {c c1 : gm} {k : Nat} {x : Int32} (h : Fm c c1) (hk : k ∈ [10, 11, 12]) : Fm c (mI c1 68 k x) := ⟨h.1.slot hk, fun j hj => by rw [mI_n (by omega)]; exact h.2.1 j hj, fun j hj => by rw [mI_n (by omega)]; exact h.2.2 j hj⟩
theorem Fm.of8 {c c' : gm} (h : F8 [] [10, 11, 12] c c') : Fm c c' := ⟨h.mono (by simp) (by simp), fun k _ => h.i (by decide) k, fun k _ => h.i (by decide) k⟩
theorem Fm.ofN {c c' : gm} (h : FrN 5 c c') : Fm c c' := ⟨F8.of h.1 (by decide), h.2.1, fun k hk => h.2.2 k (Or.inl (by omega))⟩
theorem MNet.fm {c c' : gm} {i s : Nat} {lab : Nat → Nat → Nat} (h : MNet c i s lab) (hf : Fm c c') (hi : i < 5) : MNet c' i s lab := ⟨by rw [hf.2.1 i (by omega)]; exact h.1, h.2.1, fun p q hp hq hpq => by have := h.2.1; rw [hf.2.2 _ (by omega)]; exact h.2.2 p q hp hq hpq⟩
theorem MT.fm {c c' : gm} {n N : Nat} {mir : Nat → Nat} (h : MT c n mir N) (hf : Fm c c') : MT c' n mir N := h.f8 hf.1 (by decide) (by decide) (by decide)
/-- the net in mind, and the atoms to the node that comes, from place p on -/
def MD (c : gm) (s : Nat) (lab : Nat → Nat → Nat) (mir : Nat → Nat) (p : Nat) (f : fT) : Prop := MNet c 5 s lab ∧ ∀ q, p ≤ q → q < s → c.1 72 (180 + 6 * q + s) = nI (f q) ∧ c.1 72 (180 + 6 * s + q) = nI (mir (f q))
theorem MT.at0 {c : gm} {n N : Nat} {mir : Nat → Nat} (h : MT c n mir N) : c.1 68 0 = nI n := by
  obtain ⟨B, hM, _⟩ := h
  exact hM.1
def runL (step : fT → Nat → Option Nat) : List fT → Nat → Nat ⊕ fT
  | [], sn => .inl sn
  | f :: L, sn => match step f sn with
    | none => .inr f
    | some sn' => runL step L sn'
theorem runL_app {step : fT → Nat → Option Nat} : ∀ A B sn, runL step (A ++ B) sn = match runL step A sn with
    | .inl sn' => runL step B sn'
    | .inr g => .inr g
  | [], B, sn => rfl
  | f :: A, B, sn => by
    rw [List.cons_append, runL, runL]
    cases step f sn with
    | none => rfl
    | some sn' => exact runL_app A B sn'
section MI
variable {E : gk_E} {dd : Nat} {c : gm} {s n N : Nat} {mir : Nat → Nat} {lab : Nat → Nat → Nat}
theorem n_labelRaw {i p q : Nat} (hi : i < 6) (hp : p < 6) (hq : q < 6) (h : p ≠ q) {K : Int32 → gk_H → Prop} (k : K (c.1 72 (36 * i + 6 * p + q)) (Hm c)) : RnI E mX12_labelOf (dd, 0, 0) [.ref 68, .int (nI i), .int (nI p), .int (nI q)] (Hm c) K := by
  refine vX12_labelOf_0 (bNe (fun h => ldR l68 rfl ?_) (fun h2 => absurd h2 h))
  simp only [pk_mul, nI_add]
  exact alI l72 (by omega) (by decide) k
theorem n_mayStand (hM : MT c n mir N) (hv : Vl n mir s lab) (hs : s < 6) {p a : Nat} {f : fT} (hD : MD c s lab mir (p + 1) f) (hp : p < s) (ha : a < n) (hf : ∀ q, p < q → q < s → f q < n) {K : Int32 → gk_H → Prop} (k : K (bI (rgd N s lab p (fup f p a))) (Hm c)) : RnI E mX12_mayStand (dd + 1, 0, 0) [.ref 68, .int (nI p), .int (nI a)] (Hm c) K := by
  refine vX12_mayStand_0 (ldR l68 rfl (alI l71 (by decide) (by decide) ?_))
  rw [hD.1.1, nI_add]
  refine downF (P := fun q => (∀ j, p < j → j < q → N.testBit (ix (lab p j) (f j) a) = true) → pX12_mayStand_12 E dd 68 (nI p) (nI a) (nI s) (nI q) (Hm c) K) (p + 1) s (by omega) ?_ ?_ (fun j a1 a2 => absurd a1 (by omega))
  · intro h
    refine vX12_mayStand_12 (bLe (fun _ => ?_) (fun z => absurd z (by omega)))
    rw [show rgd N s lab p (fup f p a) = true from rgd_i.mpr (fun q a1 a2 => by rw [fup_s, fup_n _ _ (by omega)]; exact h q a1 a2)] at k
    exact k
  · intro q h1 h2 ih h
    refine vX12_mayStand_12 (bLe (fun z => absurd z (by omega)) (fun _ => ⟨obj l68, n_labelOf (by decide) hD.1 (fun u hu => ((hv u u hu hu).2.1).mpr rfl) hp h2 ⟨obj l68, n_labelRaw (by decide) (by omega) hs (by omega) ⟨obj l68, ?_⟩⟩⟩))
    rw [(hD.2 q (by omega) h2).1]
    refine n_is hM (hv p q hp h2).1 (hf q (by omega) h2) ha ?_
    rw [nI_add]
    refine bBn (fun e => ih (fun j a1 a2 => ?_)) (fun e => ?_)
    · by_cases ej : j = q
      · subst ej; exact e
      · exact h j a1 (by omega)
    · rw [show rgd N s lab p (fup f p a) = false from rgd_f (q := q) (by omega) h2 (by rw [fup_s, fup_n _ _ (by omega)]; exact e)] at k
      exact k
def LeafC (E : gk_E) (c : gm) (s n : Nat) (lab : Nat → Nat → Nat) (mir : Nat → Nat) (x5 : Int32) (dl : Nat) (step : fT → Nat → Option Nat) (St : Nat → gm → Prop) (Fin : fT → gm → Prop) : Prop := ∀ c1 f sn, Fm c c1 → MD c1 s lab mir 0 f → (∀ q, q < s → 1 ≤ f q ∧ f q < n) → St sn c1 → ∀ (K : Int32 → gk_H → Prop), (∀ sn', step f sn = some sn' → ∀ c', Fm c1 c' → MD c' s lab mir 0 f → St sn' c' → K (nI 0) (Hm c')) → (step f sn = none → ∀ c', Fm c1 c' → MNet c' 5 s lab → Fin f c' → K (nI 1) (Hm c')) → ∀ dd, RnI E mX12_isFilled (dd + dl + 1, 0, 0) [.ref 68, .int (nI (dgD 0 f s)), .int x5] (Hm c1) K
theorem n_fillsFrom (hM : MT c n mir N) (hG : Gd n mir N) (hv : Vl n mir s lab) (hs : s < 6) {g : Nat} (hg : lkB N n s lab g = true) (hg2 : g < 2 ^ 31) {x5 : Int32} {dl : Nat} {step : fT → Nat → Option Nat} {St : Nat → gm → Prop} {Fin : fT → gm → Prop} (hSt : ∀ sn c1 c2, St sn c1 → (∀ k, c2.1 68 k = c1.1 68 k) → St sn c2) (leaf : LeafC E c s n lab mir x5 dl step St Fin) : ∀ p, p ≤ s → ∀ dd c1 f h sn pwr (K : Int32 → gk_H → Prop), (∀ p', p = p' + 1 → pwr = 10 ^ p') → Fm c c1 → MD c1 s lab mir p f → (∀ q, p ≤ q → q < s → 1 ≤ f q ∧ f q < n) → (∀ q, q < s → h q ≤ 9 ∧ (p ≤ q → h q = f q) ∧ (q < p → h q = 0)) → St sn c1 → (∀ sn', runL step (en (fun _ => rg 1 n) (wq (rgd N s lab) (gpQ (g / 1000) (g / 100 % 10) (g / 10 % 10) (mir (g % 10)))) p f) sn = .inl sn' → ∀ c', Fm c1 c' → MD c' s lab mir p f → St sn' c' → K (nI 0) (Hm c')) → (∀ f', runL step (en (fun _ => rg 1 n) (wq (rgd N s lab) (gpQ (g / 1000) (g / 100 % 10) (g / 10 % 10) (mir (g % 10)))) p f) sn = .inr f' → ∀ c', Fm c1 c' → MNet c' 5 s lab → Fin f' c' → K (nI 1) (Hm c')) → RnI E mX12_fillsFrom (dd + dl + p + 2, 0, 0) [.ref 68, .int (nI p - nI 1), .int (nI g), .int (nI pwr), .int (nI (dgD 0 h s)), .int x5] (Hm c1) K := by
  have n4 := hG.n4
  obtain ⟨h1, h2, h3, h4, h5, h6, h7, h8, h9⟩ := lkB_f hG hv hg
  obtain ⟨q1, q2, q3, q4⟩ := gdig hg2
  intro p
  induction p with
  | zero =>
    intro _ dd c1 f h sn pwr K _ f1 hD hf hh hS k1 k2
    refine vX12_fillsFrom_0 (ldR l68 rfl (alI l71 (by decide) (by decide) ⟨fun z => absurd z (by decide), fun _ => ⟨obj l68, ?_⟩⟩))
    have eD : dgD 0 h s = dgD 0 f s := dgD_cg s (fun q hq => (hh q hq).2.1 (Nat.zero_le _))
    rw [eD]
    have := leaf c1 f sn f1 hD (fun q hq => hf q (Nat.zero_le _) hq) hS (fun v5 h5 => bz v5 ∧ K v5 h5) (fun sn' e c' a1 a2 a3 => ⟨Or.inl rfl, k1 sn' (by rw [en, runL, e]; rfl) c' a1 a2 a3⟩) (fun e c' a1 a2 a3 => ⟨Or.inr rfl, k2 f (by rw [en, runL, e]) c' a1 a2 a3⟩) dd
    exact this
  | succ p ih =>
    intro hp dd c1 f h sn pwr K hpw f1 hD hf hh hS k1 k2
    rw [nI_sub1 (by omega), Nat.add_sub_cancel, hpw p rfl]
    have M1 := hM.fm f1
    refine vX12_fillsFrom_0 (ldR l68 rfl (alI l71 (by decide) (by decide) ⟨fun _ => ldR l68 rfl ?_, fun z => absurd (nI_le0 (by omega)) z⟩))
    rw [hD.1.1, q4]
    refine alI l69 (by omega) (by decide) ?_
    rw [(M1.row (g % 10) (by omega)).1, q1, q2, q3]
    have pw : 10 ^ p ≤ 1000000 := p10 (by omega)
    have hDl : dgD 0 h s < 10 ^ s := dgD_lt (u := 0) (f := h) s (fun q hq => (hh q hq).1)
    have hD2 := p10 (m := s) (by omega)
    have go : ∀ v, v ≤ n → 1 ≤ v → ∀ c2 sn, Fm c1 c2 → MD c2 s lab mir (p + 1) f → St sn c2 → (∀ sn', runL step ((rg v n).flatMap (sv (fun _ => rg 1 n) (wq (rgd N s lab) (gpQ (g / 1000) (g / 100 % 10) (g / 10 % 10) (mir (g % 10)))) p f)) sn = .inl sn' → ∀ c', Fm c1 c' → MD c' s lab mir (p + 1) f → St sn' c' → K (nI 0) (Hm c')) → (∀ f', runL step ((rg v n).flatMap (sv (fun _ => rg 1 n) (wq (rgd N s lab) (gpQ (g / 1000) (g / 100 % 10) (g / 10 % 10) (mir (g % 10)))) p f)) sn = .inr f' → ∀ c', Fm c1 c' → MNet c' 5 s lab → Fin f' c' → K (nI 1) (Hm c')) → pX12_fillsFrom_60 E (dd + dl + p + 2) 68 (nI p) (nI g) (nI (10 ^ p)) (nI (dgD 0 h s)) x5 (nI s) (nI (g / 1000)) (nI (g / 100 % 10)) (nI (g / 10 % 10)) (nI (mir (g % 10))) (nI v) (Hm c2) K := by
      refine down (n := n) ?_ ?_
      · intro _ c2 sn f2 hD hS k1 k2
        have M2 := M1.fm f2
        refine vX12_fillsFrom_60 (ldI l68 rfl ?_)
        rw [M2.at0]
        refine bLe (fun _ => ?_) (fun z => absurd z (by omega))
        exact k1 sn (by rw [rg_nil (Nat.le_refl _)]; rfl) c2 f2 hD hS
      · intro v hvn ihv hv1 c2 sn f2 hD hS k1 k2
        have M2 := M1.fm f2
        rw [rg_cons hvn, List.flatMap_cons] at k1 k2
        have nxt : sv (fun _ => rg 1 n) (wq (rgd N s lab) (gpQ (g / 1000) (g / 100 % 10) (g / 10 % 10) (mir (g % 10)))) p f v = [] → pX12_fillsFrom_60 E (dd + dl + p + 2) 68 (nI p) (nI g) (nI (10 ^ p)) (nI (dgD 0 h s)) x5 (nI s) (nI (g / 1000)) (nI (g / 100 % 10)) (nI (g / 10 % 10)) (nI (mir (g % 10))) (nI v + nI 1) (Hm c2) K := fun e => by
          rw [e, List.nil_append] at k1 k2
          rw [nI_add]
          exact ihv (by omega) c2 sn f2 hD hS k1 k2
        have t0 : gpQ (g / 1000) (g / 100 % 10) (g / 10 % 10) (mir (g % 10)) p v = false → pX12_fillsFrom_60 E (dd + dl + p + 2) 68 (nI p) (nI g) (nI (10 ^ p)) (nI (dgD 0 h s)) x5 (nI s) (nI (g / 1000)) (nI (g / 100 % 10)) (nI (g / 10 % 10)) (nI (mir (g % 10))) (nI v + nI 1) (Hm c2) K := fun e => nxt (by
          unfold sv wq
          rw [fup_s, e, Bool.and_false]
          rfl)
        have t1 : gpQ (g / 1000) (g / 100 % 10) (g / 10 % 10) (mir (g % 10)) p v = true → (∃ fs, (Hm c2)[68]? = some (.inr (11, fs))) ∧ RnI E mX12_mayStand (dd + dl + p + 2, 0, 0) [.ref 68, .int (nI p), .int (nI v)] (Hm c2) (fun v2 h2 => (v2 = 0 → pX12_fillsFrom_60 E (dd + dl + p + 2) 68 (nI p) (nI g) (nI (10 ^ p)) (nI (dgD 0 h s)) x5 (nI s) (nI (g / 1000)) (nI (g / 100 % 10)) (nI (g / 10 % 10)) (nI (mir (g % 10))) (nI v + nI 1) h2 K) ∧ (¬ v2 = 0 → (∃ fs, h2[68]? = some (.inr (11, fs))) ∧ RnV E mX12_lays (dd + dl + p + 2, 0, 0) [.ref 68, .int (nI 5), .int (nI p), .int (nI s), .int (nI v)] h2 (fun h3 => (∃ fs, h3[68]? = some (.inr (11, fs))) ∧ RnI E mX12_fillsFrom (dd + dl + p + 2, 0, 0) [.ref 68, .int (nI p - nI 1), .int (nI g), .int (nI (10 ^ p) / nI 10), .int (nI (dgD 0 h s) + (nI (10 ^ p) * nI v)), .int x5] h3 (fun v4 h4 => (v4 = 0 → pX12_fillsFrom_60 E (dd + dl + p + 2) 68 (nI p) (nI g) (nI (10 ^ p)) (nI (dgD 0 h s)) x5 (nI s) (nI (g / 1000)) (nI (g / 100 % 10)) (nI (g / 10 % 10)) (nI (mir (g % 10))) (nI v + nI 1) h4 K) ∧ (¬ v4 = 0 → K (nI 1) h4))))) := fun e => by
          refine ⟨obj l68, n_mayStand (f := f) M2 hv hs hD (by omega) hvn (fun q a1 a2 => (hf q (by omega) a2).2) (bB0 (fun er => nxt (by
            unfold sv wq
            rw [er]
            rfl)) (fun er => ⟨obj l68, n_lays (by decide) M2.row (by omega) (by omega) (by omega) ⟨obj l68, ?_⟩⟩))⟩
          have esv : sv (fun _ => rg 1 n) (wq (rgd N s lab) (gpQ (g / 1000) (g / 100 % 10) (g / 10 % 10) (mir (g % 10)))) p f v = en (fun _ => rg 1 n) (wq (rgd N s lab) (gpQ (g / 1000) (g / 100 % 10) (g / 10 % 10) (mir (g % 10)))) p (fup f p v) := if_pos (by
            unfold wq
            rw [er, fup_s, e]
            rfl)
          rw [esv] at k1 k2
          have hu := dgD_up (h := h) (p := p) (v := v) ((hh p (by omega)).2.2 (by omega)) s
          rw [if_pos (by omega), Nat.mul_comm] at hu
          rw [pk_div (by omega) (by decide) (by decide), pk_mul, nI_add, ← hu]
          generalize hc3 : mI (mI c2 72 (36 * 5 + 6 * p + s) (nI v)) 72 (36 * 5 + 6 * s + p) (nI (mir v)) = c3
          have f3 : Fm c2 c3 := by rw [← hc3]; exact (Fm.rf.m72 (by omega)).m72 (by omega)
          have s3 : ∀ k, c3.1 68 k = c2.1 68 k := fun k => by rw [← hc3, mI_n (by omega), mI_n (by omega)]
          have D3 : MD c3 s lab mir p (fup f p v) := by
            refine ⟨⟨?_, hD.1.2.1, fun a b ha hb hab => ?_⟩, fun q a1 a2 => ?_⟩
            · rw [← hc3, mI_n (by omega), mI_n (by omega)]; exact hD.1.1
            · rw [← hc3, mI_n (by omega), mI_n (by omega)]; exact hD.1.2.2 a b ha hb hab
            · by_cases eq : q = p
              · subst eq
                rw [fup_s, ← hc3]
                exact ⟨by rw [mI_n (by omega), show 180 + 6 * q + s = 36 * 5 + 6 * q + s by omega, mI_s], by rw [show 180 + 6 * s + q = 36 * 5 + 6 * s + q by omega, mI_s]⟩
              · rw [fup_n _ _ eq, ← hc3, mI_n (by omega), mI_n (by omega), mI_n (by omega), mI_n (by omega)]
                exact hD.2 q (by omega) a2
          refine ih (by omega) dd c3 (fup f p v) (fup h p v) sn _ _ (fun p' hp' => ?_) ((f1.trans f2).trans f3) D3 (fun q a1 a2 => ?_) (fun q hq => ⟨?_, fun a => ?_, fun a => ?_⟩) (hSt sn c2 c3 hS s3) (fun sn' hr c4 f4 D4 S4 => ⟨fun _ => ?_, fun z => absurd rfl z⟩) (fun f' hr c4 f4 D4 S4 => ⟨fun z => absurd z (by decide), fun _ => ?_⟩)
          · subst hp'
            rw [Nat.pow_succ, Nat.mul_div_cancel _ (by decide)]
          · unfold fup
            by_cases eq : q = p
            · rw [if_pos eq]; exact ⟨hv1, hvn⟩
            · rw [if_neg eq]; exact hf q (by omega) a2
          · unfold fup
            by_cases eq : q = p
            · rw [if_pos eq]; omega
            · rw [if_neg eq]; exact (hh q hq).1
          · unfold fup
            by_cases eq : q = p
            · rw [if_pos eq, if_pos eq]
            · rw [if_neg eq, if_neg eq]; exact (hh q hq).2.1 (by omega)
          · rw [fup_n _ _ (by omega)]; exact (hh q hq).2.2 (by omega)
          · rw [nI_add]
            refine ihv (by omega) c4 sn' ((f2.trans f3).trans f4) ⟨D4.1, fun q a1 a2 => ?_⟩ S4 (fun sn2 hr2 => k1 sn2 (by rw [runL_app, hr]; exact hr2)) (fun f2 hr2 => k2 f2 (by rw [runL_app, hr]; exact hr2))
            have := D4.2 q (by omega) a2
            rw [fup_n _ _ (by omega)] at this
            exact this
          · exact k2 f' (by rw [runL_app, hr]) c4 ((f2.trans f3).trans f4) D4 S4
        have pne : p < 2 ^ 31 := by omega
        refine vX12_fillsFrom_60 (ldI l68 rfl ?_)
        rw [M2.at0]
        refine bLe (fun z => absurd z (by omega)) (fun _ => ?_)
        have e10 : nI p = nI (g / 1000) ↔ p = g / 1000 := nI_eq (by omega) (by omega)
        have e11 : nI p = nI (g / 100 % 10) ↔ p = g / 100 % 10 := nI_eq (by omega) (by omega)
        have e12 : nI v = nI (g / 10 % 10) ↔ v = g / 10 % 10 := nI_eq (by omega) (by omega)
        have e13 : nI v = nI (mir (g % 10)) ↔ v = mir (g % 10) := nI_eq (by omega) (by omega)
        refine ⟨fun z1 => ⟨fun z2 => ⟨fun z => absurd z (by decide), fun _ => t1 ?_⟩, fun z2 => ⟨fun z3 => ⟨fun _ => t0 ?_, fun z => absurd rfl z⟩, fun z3 => ⟨fun z => absurd z (by decide), fun _ => t1 ?_⟩⟩⟩, fun z1 => ⟨fun z2 => ⟨fun _ => t0 ?_, fun z => absurd rfl z⟩, fun z2 => ⟨fun z3 => ⟨fun z => absurd z (by decide), fun _ => t1 ?_⟩, fun z3 => ⟨fun z4 => ⟨fun _ => t0 ?_, fun z => absurd rfl z⟩, fun z4 => ⟨fun z => absurd z (by decide), fun _ => t1 ?_⟩⟩⟩⟩⟩ <;> simp only [e10, e11, e12, e13] at * <;> unfold gpQ <;> simp_all
    refine go 1 hG.n1 (Nat.le_refl _) c1 sn Fm.rf hD hS k1 k2
end MI
