/-! found: the class -/
theorem isWh56 : isWh 56 5 := ⟨⟨_, l56⟩, l57, l58, l59⟩
theorem WI5 : WI mX5_clash 5 := ⟨Or.inr (Or.inl rfl), cuX10_34_5, by decide⟩
/-- the steps are laid from place p on -/
def PcR (P n N : Nat) (mir : Nat → Nat) (p : Nat) (f : fT) (c : gm) : Prop := c.1 56 5 = nI P ∧ Tab c 2 n mir N ∧ c.1 60 0 = nI 0 ∧ ∀ q, p ≤ q → q < P / 2 → c.1 60 (P / 2 - q) = nI (f q) ∧ c.1 60 (P - (P / 2 - q)) = nI (mir (f q))
section FC
variable {E : gk_E} {dd : Nat} {c : gm} {P n N : Nat} {mir : Nat → Nat} {f : fT}
theorem PcR.st {p e : Nat} (h : PcR P n N mir p f c) (hl : ld (P / 2 - p) e P = true) (he : e < P) : c.1 60 e = nI (stF mir P f e) := by
  unfold ld at hl
  simp only [Bool.or_eq_true, decide_eq_true_eq] at hl
  obtain ⟨_, _, h0, h1⟩ := h
  unfold stF
  by_cases e0 : e = 0
  · rw [if_pos e0, e0]; exact h0
  · rw [if_neg e0]
    by_cases e1 : e ≤ P / 2
    · rw [if_pos e1]
      have := (h1 (P / 2 - e) (by omega) (by omega)).1
      rw [show P / 2 - (P / 2 - e) = e by omega] at this
      exact this
    · rw [if_neg e1]
      have := (h1 (P / 2 - (P - e)) (by omega) (by omega)).2
      rw [show P - (P / 2 - (P / 2 - (P - e))) = e by omega] at this
      exact this
theorem c_goes {p : Nat} (h13 : P ≤ 13) (h : PcR P n N mir p f c) (hp : p < P / 2) (hs : ∀ e, e < P → ld (P / 2 - p) e P = true → stF mir P f e < 4) {K : Int32 → gk_H → Prop} (k : K (bI (lgo N mir P p f)) (Hm c)) : RnI E mX5_goes (dd + 1, 0, 0) [.ref 56, .int (nI (P / 2 - p))] (Hm c) K := by
  have hd : P / 2 - p < P := by omega
  have hd1 : 1 ≤ P / 2 - p := by omega
  have hd2 : P / 2 - p ≤ P - (P / 2 - p) := by omega
  have hT := h.2.1
  have hst : ∀ e, ld (P / 2 - p) e P = true → e < P → c.1 60 e = nI (stF mir P f e) := fun e hl he => h.st hl he
  have h5 := h.1
  unfold lgo at k
  generalize P / 2 - p = d at *
  refine vX5_goes_0 ?_
  refine downF (P := fun e => (∀ q, q < e → lgo1 N mir P d f q = true) → pX5_goes_2 E dd 56 (nI d) (nI e) (Hm c) K) 1 P (by omega) ?_ ?_ (fun q hq => by rw [show q = 0 by omega]; rfl)
  · intro ha
    refine vX5_goes_2 (ldI l56 rfl ?_)
    rw [h5]
    refine bLe (fun _ => ?_) (fun z => absurd z (by omega))
    rw [show (List.range P).all (lgo1 N mir P d f) = true from List.all_eq_true.mpr (fun q hq => ha q (List.mem_range.mp hq))] at k
    exact k
  · intro e he1 he ih ha
    have hr := rs_lt hd he
    have nx : lgo1 N mir P d f e = true → pX5_goes_2 E dd 56 (nI d) (nI e + nI 1) (Hm c) K := fun ht => by
      rw [nI_add]
      refine ih (fun q hq => ?_)
      by_cases eq : q = e
      · subst eq; exact ht
      · exact ha q (by omega)
    have t0 : (ld d e P && ld d (rs d e P) P) = false → pX5_goes_2 E dd 56 (nI d) (nI e + nI 1) (Hm c) K := fun e0 => nx (by unfold lgo1; rw [e0]; simp)
    have t1 : ld d e P = true → ld d (rs d e P) P = true → LdR (Hm c) 56 5 4 fun v3 => LdR (Hm c) 56 5 6 fun v4 => AlI (Hm c) v4 (nI e) fun v5 => LdR (Hm c) 56 5 6 fun v6 => AlI (Hm c) v6 (nI (rs d e P)) fun v7 => LdR (Hm c) 56 5 6 fun v8 => AlI (Hm c) v8 (nI d) fun v9 => (∃ fs, (Hm c)[v3]? = some (.inr (8, fs))) ∧ RnI E mX8_has (dd, 0, 0) [.ref v3, .int v5, .int v7, .int v9] (Hm c) (fun v10 h10 => (¬ v10 = 0 → pX5_goes_2 E dd 56 (nI d) (nI e + nI 1) h10 K) ∧ (v10 = 0 → K (nI 0) h10)) := fun e1 e2 => by
      have ed : ld d d P = true := by unfold ld; simp
      refine ldR l56 rfl (ldR l56 rfl (alI l60 (by omega) (by decide) (ldR l56 rfl (alI l60 (by omega) (by decide) (ldR l56 rfl (alI l60 (by omega) (by decide) ⟨obj l2, ?_⟩))))))
      rw [hst e e1 he, hst _ e2 hr, hst d ed hd]
      refine c_has ⟨l2, l3⟩ hT (hs e he e1) (hs _ hr e2) (hs d hd ed) ?_
      refine bBn (fun e3 => nx (by unfold lgo1; rw [e3]; simp)) (fun e3 => ?_)
      have : (List.range P).all (lgo1 N mir P d f) = false := by
        cases hh : (List.range P).all (lgo1 N mir P d f) with
        | false => rfl
        | true =>
          have := List.all_eq_true.mp hh e (List.mem_range.mpr he)
          unfold lgo1 at this
          rw [e1, e2, e3, show (e == 0) = false by simp; omega] at this
          exact absurd this (by decide)
      rw [this] at k
      exact k
    refine vX5_goes_2 (ldI l56 rfl ?_)
    rw [h5]
    refine bLe (fun z => absurd z (by omega)) (fun _ => bLt (fun hde => ldI l56 rfl ?_) (fun hed => ?_))
    · rw [h5, rsI (by omega), show d + P - e = rs d e P from by unfold rs; rw [if_neg (by omega)]]
      have er : rs d e P = d + P - e := by unfold rs; rw [if_neg (by omega)]
      refine bLe (fun z => absurd z (by omega)) (fun _ => ldI l56 rfl ?_)
      rw [h5, pk_sub (by omega)]
      refine bLt (fun z => ⟨fun _ => t0 ?_, fun z => absurd rfl z⟩) (fun z => bLe (fun z2 => ⟨fun z => absurd z (by decide), fun _ => t1 ?_ ?_⟩) (fun z2 => ldI l56 rfl ?_))
      · rw [show ld d e P = false from by unfold ld; simp; omega]; rfl
      · unfold ld; simp; omega
      · unfold ld; simp; omega
      · rw [h5, pk_sub (by omega)]
        refine bLt (fun z3 => ⟨fun _ => t0 ?_, fun z => absurd rfl z⟩) (fun z3 => ⟨fun z => absurd z (by decide), fun _ => t1 ?_ ?_⟩)
        · rw [show ld d (rs d e P) P = false from by unfold ld; simp; omega, Bool.and_false]
        · unfold ld; simp; omega
        · unfold ld; simp; omega
    · rw [pk_sub hed, show d - e = rs d e P from by unfold rs; rw [if_pos hed]]
      have er : rs d e P = d - e := by unfold rs; rw [if_pos hed]
      refine bLe (fun _ => bLe (fun z2 => ⟨fun z => absurd z (by decide), fun _ => t1 ?_ ?_⟩) (fun z => absurd z (by omega))) (fun z => absurd z (by omega))
      · unfold ld; simp; omega
      · unfold ld; simp; omega
abbrev pcg (N : Nat) (mir : Nat → Nat) (P : Nat) : gT := fun p f => pg0 mir P p f && lgo N mir P p f
theorem pcg_L : Lk (pcg N mir P) := fun p f g h => by
  show (pg0 mir P p f && lgo N mir P p f) = (pg0 mir P p g && lgo N mir P p g)
  rw [pg0_L p f g h, lgo_L p f g h]
theorem c_fcl1 (hn : n ≤ 4) (h13 : P ≤ 13) {p : Nat} (hp : p < P / 2) (hS : c.1 56 0 = nI (P / 2)) (hA : WA c 56 (P / 2) f) (hb : ∀ q, q < P / 2 → f q < n) (hR : PcR P n N mir (p + 1) f c) {x1 : Int32} {K : Int32 → gk_H → Prop} (k1 : pcg N mir P p f = false → ∀ c', Fr [60] c c' → PcR P n N mir (p + 1) f c' → K (nI p) (Hm c')) (k2 : pcg N mir P p f = true → ∀ c', Fr [60] c c' → PcR P n N mir p f c' → pX5_clash_2 E (dd + 1) 56 x1 (nI p + (-1)) (Hm c') K) : pX5_clash_2 E (dd + 1) 56 x1 (nI p) (Hm c) K := by
  obtain ⟨r5, rT, r0, r1⟩ := hR
  have fp := hb p hp
  have m4 := rT.2.2.2.2.2 (f p) (by omega)
  refine vX5_clash_2 ⟨fun z => absurd z (nI_nn (by omega)), fun _ => ldI l56 rfl (ldR l56 rfl (alI l57 (by omega) (by decide) (ldI l56 rfl ?_)))⟩
  rw [hS, hA p hp, r5, pk_sub (by omega)]
  have lay : (2 * (P / 2 - p) = P → mir (f p) = f p) → LdR (Hm c) 56 5 6 fun v5 => AsI (Hm c) v5 (nI (P / 2 - p)) (nI (f p)) fun h6 => LdR h6 56 5 6 fun v7 => LdI h6 56 5 5 fun v8 => LdR h6 56 5 4 fun v9 => LdR h6 v9 8 1 fun v10 => AlI h6 v10 (nI (f p)) fun v11 => AsI h6 v7 (v8 - nI (P / 2 - p)) v11 fun h12 => (∃ fs, h12[56]? = some (.inr (5, fs))) ∧ RnI E mX5_goes (dd + 1, 0, 0) [.ref 56, .int (nI (P / 2 - p))] h12 (fun v13 h13 => (¬ v13 = 0 → pX5_clash_2 E (dd + 1) 56 x1 (nI p + (-1)) h13 K) ∧ (v13 = 0 → K (nI p) h13)) := fun hm => by
    have eg : pg0 mir P p f = true := by
      unfold pg0
      by_cases e : 2 * (P / 2 - p) = P
      · rw [hm e]; simp
      · simp [e]
    refine ldR l56 rfl (asI l60 (by omega) (by decide) (ldR l56 rfl (ldI l56 rfl (ldR l56 rfl (ldR l2 rfl (alI l3 (by omega) (by decide) ?_))))))
    rw [mI_n (by omega), mI_n (by omega), r5, m4.1, pk_sub (by omega)]
    refine asI l60 (by omega) (by decide) ⟨obj l56, ?_⟩
    generalize hc2 : mI (mI c 60 (P / 2 - p) (nI (f p))) 60 (P - (P / 2 - p)) (nI (mir (f p))) = c2
    have f2 : Fr [60] c c2 := by rw [← hc2]; exact (Fr.rf.mI (by simp)).mI (by simp)
    have R2 : PcR P n N mir p f c2 := by
      refine ⟨by rw [f2.i (by decide)]; exact r5, rT.fr f2 (by decide) (by decide), by rw [← hc2, mI_n (by omega), mI_n (by omega)]; exact r0, fun q h1 h2 => ?_⟩
      by_cases eq : q = p
      · subst eq
        rw [← hc2]
        refine ⟨?_, mI_s⟩
        by_cases e : 2 * (P / 2 - q) = P
        · rw [show P - (P / 2 - q) = P / 2 - q by omega, mI_s, hm e]
        · rw [mI_n (by omega), mI_s]
      · have := r1 q (by omega) h2
        rw [← hc2, mI_n (by omega), mI_n (by omega), mI_n (by omega), mI_n (by omega)]
        exact this
    refine c_goes (dd := dd) h13 R2 hp (fun e he hl => ?_) ?_
    · unfold ld at hl
      simp only [Bool.or_eq_true, decide_eq_true_eq] at hl
      unfold stF
      by_cases e0 : e = 0
      · rw [if_pos e0]; decide
      · rw [if_neg e0]
        by_cases e1 : e ≤ P / 2
        · rw [if_pos e1]; have := hb (P / 2 - e) (by omega); omega
        · rw [if_neg e1]; exact (rT.2.2.2.2.2 _ (by have := hb (P / 2 - (P - e)) (by omega); omega)).2
    · refine bBn (fun e => k2 (by show (pg0 mir P p f && lgo N mir P p f) = true; rw [eg, e]; rfl) c2 f2 R2) (fun e => k1 (by show (pg0 mir P p f && lgo N mir P p f) = false; rw [eg, e]; rfl) c2 f2 ⟨R2.1, R2.2.1, R2.2.2.1, fun q a1 a2 => R2.2.2.2 q (by omega) a2⟩)
  rw [pk_mul]
  refine bNe (fun e => lay (fun z => absurd z e)) (fun e => ldR l56 rfl (ldR l2 rfl (alI l3 (by omega) (by decide) ?_)))
  rw [m4.1]
  have m4' := m4.2
  refine bEq (fun e2 => lay (fun _ => e2)) (fun e2 => k1 ?_ c Fr.rf ⟨r5, rT, r0, r1⟩) (by omega) (by omega)
  show (pg0 mir P p f && lgo N mir P p f) = false
  unfold pg0
  rw [decide_eq_false (by omega), show (mir (f p) == f p) = false by simpa using e2]
  rfl
theorem c_fclash (hn : n ≤ 4) (h13 : P ≤ 13) {x1 : Int32} {K : Int32 → gk_H → Prop} : ∀ p c, p < P / 2 → c.1 56 0 = nI (P / 2) → WA c 56 (P / 2) f → (∀ q, q < P / 2 → f q < n) → PcR P n N mir (p + 1) f c → (∀ r, p < r → r < P / 2 → pcg N mir P r f = true) → (∀ q, q ≤ p → pcg N mir P q f = false → (∀ r, q < r → r < P / 2 → pcg N mir P r f = true) → ∀ c', Fr [60] c c' → PcR P n N mir (q + 1) f c' → K (nI q) (Hm c')) → ((∀ q, q < P / 2 → pcg N mir P q f = true) → ∀ c', Fr [60] c c' → PcR P n N mir 0 f c' → K (-1) (Hm c')) → pX5_clash_2 E (dd + 1) 56 x1 (nI p) (Hm c) K := by
  intro p
  induction p with
  | zero =>
    intro c hp hS hA hb hR hg k1 k2
    refine c_fcl1 hn h13 hp hS hA hb hR (fun e c' f' r' => k1 0 (Nat.le_refl _) e hg c' f' r') (fun e c' f' r' => vX5_clash_2 ⟨fun _ => k2 (fun q hq => ?_) c' f' r', fun z => absurd (by decide) z⟩)
    by_cases e0 : q = 0
    · subst e0; exact e
    · exact hg q (by omega) hq
  | succ p ih =>
    intro c hp hS hA hb hR hg k1 k2
    refine c_fcl1 hn h13 hp hS hA hb hR (fun e c' f' r' => k1 _ (Nat.le_refl _) e hg c' f' r') (fun e c' f' r' => ?_)
    rw [pk_m1]
    refine ih c' (by omega) (by rw [f'.i (by decide)]; exact hS) (hA.fr f' (by decide)) hb r' (fun r a1 a2 => ?_) (fun q hq a1 a2 c2 f2 r2 => k1 q (by omega) a1 a2 c2 (f'.trans f2) r2) (fun a1 c2 f2 r2 => k2 a1 c2 (f'.trans f2) r2)
    by_cases e0 : r = p + 1
    · subst e0; exact e
    · exact hg r (by omega) a2
theorem Wpc (hn : n ≤ 4) (h13 : P ≤ 13) : Wcl E mX5_clash 2 56 (P / 2) (fun _ => 1) (fun _ => n) (pcg N mir P) [60] (PcR P n N mir) := by
  refine ⟨fun p f r g c c' h h1 h2 hf => ?_, fun c f p hZ hA hB hR hp hg dd K k1 k2 => ?_, fun c dd K k => ?_, pcg_L, by decide, by decide, by decide, by decide⟩
  · obtain ⟨a1, a2, a3, a4⟩ := h
    refine ⟨by rw [hf.i (by decide)]; exact a1, a2.fr hf (by decide) (by decide), by rw [hf.i (by decide)]; exact a3, fun q b1 b2 => ?_⟩
    rw [hf.i (by decide), hf.i (by decide), ← h2 q b1]
    exact a4 q (by omega) b2
  · exact vX5_clash_0 (c_fclash hn h13 p c hp hZ.1 hA (fun q hq => (hB q hq).2) hR hg k1 k2)
  · exact vX5_clash_0 (vX5_clash_2 ⟨fun _ => k, fun z => absurd (by decide) z⟩)
theorem pcL1_en : pcL1 N n mir P = en (vr (fun _ => 1) (fun _ => n)) (pcg N mir P) (P / 2) (fun _ => 0) := rfl
theorem orM_neg {u : Option Nat} {A B : Prop} (hu : ∀ v, u = some v → v < 2 ^ 31) (f : u ≠ none → A) (g : u = none → B) : (0 ≤ orM u → A) ∧ (¬ 0 ≤ orM u → B) := by
  cases u with
  | none => exact ⟨fun z => absurd z (by decide), fun _ => g rfl⟩
  | some v => exact ⟨fun _ => f (by simp), fun z => absurd (nI_le0 (hu v rfl)) z⟩
abbrev rPc : List Nat := [56, 57, 58, 59, 60, 61]
theorem c_search (hG : Gd n mir N) (hT : Tab c 2 n mir N) (h0 : c.1 60 0 = nI 0) {K : Int32 → gk_H → Prop} (k1 : fdA N n mir = none → ∀ c', Fr rPc c c' → c'.1 60 0 = nI 0 → K (-5) (Hm c')) (k2 : ∀ P g, fdA N n mir = some (P, g) → ∀ c', Fr rPc c c' → c'.1 60 0 = nI 0 → (∀ d, d < P → c'.1 60 d = nI (stF mir P g d)) → K (nI P) (Hm c')) : RnI E mX5_search (dd + 5, 0, 0) [.ref 56] (Hm c) K := by
  have n4 := hG.n4
  have n1 := hG.n1
  refine vX5_search_0 (ldR l56 rfl ⟨obj l2, c_unbalancedF (dd := dd + 2) ⟨l2, l3⟩ hT ?_⟩)
  have br : ∀ v, brkF N n = some v → v < 2 ^ 31 := fun v h => by
    obtain ⟨a, ha, h⟩ := ffrom_ex h
    obtain ⟨b, hb, h⟩ := ffrom_ex h
    obtain ⟨z, hz, h⟩ := ffrom_ex h
    unfold brkZ at h
    by_cases e : unb N n a b z = true
    · rw [if_pos e] at h
      have := Option.some.inj h
      omega
    · rw [if_neg e] at h; exact absurd h (by simp)
  refine orN_5 br (fun hb => ⟨obj l56, c_readDue (dd := dd + 2) hT (fun c1 f1 D1 => ?_)⟩) (fun hb => k1 ?_ c Fr.rf h0)
  · have go : ∀ kk P c2, P + kk = 14 → 2 ≤ P → Fr rPc c c2 → c2.1 60 0 = nI 0 → DuC c2 N n → fdA N n mir = fdK N n mir kk P → pX5_search_22 E (dd + 4) 56 (nI P) (Hm c2) K := by
      intro kk
      induction kk with
      | zero =>
        intro P c2 hP hP2 F2 z2 D2 he
        exact vX5_search_22 (bLt (fun _ => k1 he c2 F2 z2) (fun z => absurd z (by omega)))
      | succ kk ih =>
        intro P c2 hP hP2 F2 z2 D2 he
        have h13 : P ≤ 13 := by omega
        refine vX5_search_22 (bLt (fun z => absurd z (by omega)) (fun _ => stI l56 rfl (ldR l56 rfl (ldI l2 rfl ⟨obj l56, ?_⟩))))
        have T2 := hT.fr F2 (by decide) (by decide)
        rw [mI_n (by omega), T2.1, pk_div (by omega) (by decide) (by decide)]
        refine c_span WI5 isWh56 (by omega) (fun c3 f3 e3 _ s3 z3 => ⟨obj l56, ?_⟩)
        have f23 : Fr [56, 58, 59] c2 c3 := (Fr.rf.mI (r := 56) (k := 5) (x := nI P) (by simp)).trans (f3.mono (by simp))
        have F3 : Fr rPc c c3 := F2.trans (f23.mono (by simp))
        have T3 := hT.fr F3 (by decide) (by decide)
        have Z3 : WZ c3 56 (P / 2) (fun _ => 1) (fun _ => n) := ⟨s3, by omega, fun q hq => ⟨(z3 q hq).1, (z3 q hq).2, show (1 : Nat) ≤ 6 by decide, show n ≤ 6 by omega⟩⟩
        have z3' : c3.1 60 0 = nI 0 := by rw [f23.i (by decide)]; exact z2
        have D3 : DuC c3 N n := fun z hz => by rw [f23.i (by decide)]; exact D2 z hz
        have R3 : PcR P n N mir (P / 2) (fun _ => 0) c3 := ⟨by rw [e3 5 (by decide), mI_s], T3, z3', fun q a1 a2 => absurd a1 (by omega)⟩
        have W := Wpc (E := E) (N := N) (mir := mir) n4 h13
        have nxt : (pcL0 n mir P).find? (tpF N n mir P) = none → ∀ c4, Fr rPc c c4 → c4.1 60 0 = nI 0 → DuC c4 N n → pX5_search_22 E (dd + 4) 56 (nI P + nI 1) (Hm c4) K := fun hn c4 F4 z4 D4 => by
          rw [nI_add]
          refine ih (P + 1) c4 (by omega) (by omega) F4 z4 D4 ?_
          rw [he, fdK, hn]
        have endL : ∀ c4 t, Fr rPc c c4 → c4.1 60 0 = nI 0 → DuC c4 N n → (pcL0 n mir P).find? (tpF N n mir P) = none → pX5_search_57 E (dd + 4) 56 (nI P) (nI 0) t (Hm c4) K := fun c4 t F4 z4 D4 hn => vX5_search_57 ⟨fun _ => nxt hn c4 F4 z4 D4, fun _ => ⟨fun _ => nxt hn c4 F4 z4 D4, fun z => absurd rfl z⟩⟩
        refine c_firstR (dd := dd) WI5 isWh56 W Z3 R3 (fun hE c4 f4 x4 => ?_) (fun g hx0 hE hB hg c4 f4 A4 R4 => ?_)
        · have hE : pcL1 N n mir P = [] := hE
          obtain ⟨_, _, x4⟩ := x4
          exact endL c4 _ (F3.trans (f4.mono (by simp))) x4.2.2.1 (fun z hz => by rw [f4.i (by decide)]; exact D3 z hz) (by rw [← fd_eq hG, hE]; rfl)
        · have lp : ∀ (RL : List fT) g c5 t, (pcL0 n mir P).find? (tpF N n mir P) = (g :: RL).find? (tpF N n mir P) → RL = af (fun _ => 1) (fun _ => n) (pcg N mir P) (P / 2) 0 g → Bd (P / 2) (fun _ => 1) (fun _ => n) g → (∀ q, q < P / 2 → pcg N mir P q g = true) → Fr rPc c c5 → DuC c5 N n → WZ c5 56 (P / 2) (fun _ => 1) (fun _ => n) → WA c5 56 (P / 2) g → PcR P n N mir 0 g c5 → t ≤ cdr g (P / 2) → pX5_search_57 E (dd + 4) 56 (nI P) (nI 1) (nI t) (Hm c5) K := by
            intro RL
            induction RL with
            | nil =>
              intro g c5 t hfd hE hB hg F5 D5 Z5 A5 R5 ht
              have hc := cdr_lt (f := g) (P / 2) (fun q hq => Nat.lt_of_lt_of_le (hB q hq).2 (show n ≤ 6 by omega))
              have h2' : 6 ^ (P / 2) ≤ 6 ^ 6 := Nat.pow_le_pow_right (by decide) (by omega)
              have h3 : (6 : Nat) ^ 6 = 46656 := by decide
              have sl := stF_lt (N := N) hG (P := P) (g := g) (fun q hq => hB q hq)
              have PC : PiC c5 P (stF mir P g) := ⟨R5.1, fun d hd => R5.st (by unfold ld; simp; omega) hd⟩
              have nx : tpF N n mir P g = false → RnI E mX10_next (dd + 4, 0, 0) [.ref 56] (Hm c5) (fun v h => pX5_search_57 E (dd + 4) 56 (nI P) v (nI t + nI 1) h K) := fun hf => by
                refine c_nextR (dd := dd) WI5 isWh56 W hx0 Z5 A5 hB R5 hg (fun he2 c6 f6 x6 => ?_) (fun g2 he2 => absurd (hE.trans he2) (by simp))
                obtain ⟨_, _, x6⟩ := x6
                exact endL c6 _ (F5.trans (f6.mono (by simp))) x6.2.2.1 (fun z hz => by rw [f6.i (by decide)]; exact D5 z hz) (by rw [hfd, List.find?_cons, hf]; rfl)
              refine vX5_search_57 (bLe (fun z => absurd z (by omega)) (fun _ => ⟨fun z => absurd z (by decide), fun _ => ⟨obj l56, c_isFull (dd := dd + 3) R5.2.1 PC h13 sl ?_⟩⟩))
              refine bB0 (fun e1 => ⟨obj l56, nx (by unfold tpF tpB; rw [e1]; rfl)⟩) (fun e1 => ⟨obj l56, c_misfit n4 PC h13 sl D5 (orM_neg (fun v hv => by have := mf_lt h13 v hv; omega) (fun e2 => ⟨obj l56, nx ?_⟩) (fun e2 => ?_))⟩)
              · unfold tpF tpB
                cases h : mfF N n (stF mir P g) P with
                | none => exact absurd h e2
                | some v => simp
              · refine k2 P g ?_ c5 F5 R5.2.2.1 PC.2
                rw [he, fdK, hfd, List.find?_cons, show tpF N n mir P g = true from by unfold tpF tpB; rw [e1, e2]; rfl]
            | cons g2 RL ihl =>
              intro g c5 t hfd hE hB hg F5 D5 Z5 A5 R5 ht
              have hc := cdr_lt (f := g) (P / 2) (fun q hq => Nat.lt_of_lt_of_le (hB q hq).2 (show n ≤ 6 by omega))
              have h2' : 6 ^ (P / 2) ≤ 6 ^ 6 := Nat.pow_le_pow_right (by decide) (by omega)
              have h3 : (6 : Nat) ^ 6 = 46656 := by decide
              have sl := stF_lt (N := N) hG (P := P) (g := g) (fun q hq => hB q hq)
              have PC : PiC c5 P (stF mir P g) := ⟨R5.1, fun d hd => R5.st (by unfold ld; simp; omega) hd⟩
              have nx : tpF N n mir P g = false → RnI E mX10_next (dd + 4, 0, 0) [.ref 56] (Hm c5) (fun v h => pX5_search_57 E (dd + 4) 56 (nI P) v (nI t + nI 1) h K) := fun hf => by
                refine c_nextR (dd := dd) WI5 isWh56 W hx0 Z5 A5 hB R5 hg (fun he2 => absurd (hE.trans he2) (by simp)) (fun g3 he2 hB3 hg3 hlt c6 f6 A6 R6 => ?_)
                have e4 := hE.trans he2
                rw [List.cons.injEq] at e4
                obtain ⟨e5, e6⟩ := e4
                subst e5
                rw [nI_add]
                exact ihl g2 c6 (t + 1) (by rw [hfd, List.find?_cons, hf]) e6 hB3 hg3 (F5.trans (f6.mono (by simp))) (fun z hz => by rw [f6.i (by decide)]; exact D5 z hz) (Z5.fr f6 (by decide) (by decide) (by decide)) A6 R6 (by omega)
              refine vX5_search_57 (bLe (fun z => absurd z (by omega)) (fun _ => ⟨fun z => absurd z (by decide), fun _ => ⟨obj l56, c_isFull (dd := dd + 3) R5.2.1 PC h13 sl ?_⟩⟩))
              refine bB0 (fun e1 => ⟨obj l56, nx (by unfold tpF tpB; rw [e1]; rfl)⟩) (fun e1 => ⟨obj l56, c_misfit n4 PC h13 sl D5 (orM_neg (fun v hv => by have := mf_lt h13 v hv; omega) (fun e2 => ⟨obj l56, nx ?_⟩) (fun e2 => ?_))⟩)
              · unfold tpF tpB
                cases h : mfF N n (stF mir P g) P with
                | none => exact absurd h e2
                | some v => simp
              · refine k2 P g ?_ c5 F5 R5.2.2.1 PC.2
                rw [he, fdK, hfd, List.find?_cons, show tpF N n mir P g = true from by unfold tpF tpB; rw [e1, e2]; rfl]
          refine lp _ g c4 0 ?_ rfl hB hg (F3.trans (f4.mono (by simp))) (fun z hz => by rw [f4.i (by decide)]; exact D3 z hz) (Z3.fr f4 (by decide) (by decide) (by decide)) A4 R4 (Nat.zero_le _)
          have hE : pcL1 N n mir P = _ := hE
          rw [← fd_eq hG, hE]
    exact go 12 2 c1 rfl (by decide) (f1.mono (by simp)) (by rw [f1.i (by decide)]; exact h0) D1 rfl
  · have : ∀ kk P, fdK N n mir kk P = none := by
      intro kk
      induction kk with
      | zero => intro P; rfl
      | succ kk ih => intro P; rw [fdK, fd_brk hG hb]; exact ih _
    exact this _ _
end FC
section FF
variable {E : gk_E} {dd : Nat} {c : gm} {n N : Nat} {mir : Nat → Nat} {ls : lsT} {it : itT}
theorem LsAt.listF {c' : gm} {r1 r2 j : Nat} {x : Int32} {F : Nat → Int64} (h : LsAt c r1 r2 ls it) (hj : j < 3) (h1 : x = -1 ∨ ∃ q, q ≤ 12 ∧ x = nI q) (hi : ∀ i, i < 3 → c'.1 r1 i = if i = j then x else c.1 r1 i) (hl : ∀ k, (k < 12 * j ∨ 12 * j + 12 ≤ k) → c'.2.1 r2 k = c.2.1 r2 k) (hz : ∀ q, x = nI q → q ≤ 12 → ∀ i, i < q → c'.2.1 r2 (12 * j + i) = F i) : LsAt c' r1 r2 (lsS ls j x) (itS it j F) := by
  refine ⟨fun i hi3 => ?_, fun i q m hi3 hq h12 hm => ?_⟩
  · rw [hi i hi3]
    unfold lsS
    by_cases e : i = j
    · rw [if_pos e, if_pos e]; exact ⟨rfl, h1⟩
    · rw [if_neg e, if_neg e]; exact h.1 i hi3
  · unfold lsS at hq
    unfold itS
    by_cases e : i = j
    · rw [if_pos e] at hq ⊢
      subst e
      exact hz q hq h12 m hm
    · rw [if_neg e] at hq ⊢
      rw [hl _ (by omega)]
      exact h.2 i q m hi3 hq h12 hm
theorem c_found (hG : Gd n mir N) (hT : Tab c 2 n mir N) (hL : LsAt c 62 63 ls it) (h0 : c.1 60 0 = nI 0) {l : Int32} {K : Int32 → gk_H → Prop} (k0 : inR l 0 (3 : Nat) = false → K (-1) (Hm c)) (k1 : inR l 0 (3 : Nat) = true → fdA N n mir = none → ∀ c', Fr rPc c c' → c'.1 60 0 = nI 0 → K (-5) (Hm c')) (k2 : inR l 0 (3 : Nat) = true → ∀ P g, fdA N n mir = some (P, g) → ∀ c', Fr [56, 57, 58, 59, 60, 61, 62, 63] c c' → c'.1 60 0 = nI 0 → LsAt c' 62 63 (lsS ls (w l) (nI (P - 1))) (itS it (w l) (fun i => lN (stF mir P g (i + 1)))) → K (nI P) (Hm c')) : RnI E mX11_found (dd + 6, 0, 0) [.ref 0, .int l] (Hm c) K := by
  have n4 := hG.n4
  refine vX11_found_0 (c_isList (rngN (by decide) (fun j hj hx h => ldR l0 rfl ⟨obj l56, ?_⟩) k0))
  subst hx
  rw [w_nI (by omega)] at k2
  refine c_search (dd := dd) hG hT h0 (fun he c1 f1 z1 => ⟨fun z => absurd rfl z, fun _ => k1 h he c1 f1 z1⟩) (fun P g he c1 f1 z1 s1 => ?_)
  obtain ⟨p1, p2, p3⟩ := fdK_ok 12 2 P g he
  have sl := stF_lt (N := N) hG (pcL0_mem p3)
  refine ⟨fun _ => ldR l0 rfl ?_, fun z => absurd z (nI_ne5 (by omega))⟩
  rw [nI_sub1 (by omega)]
  refine asI l62 hj (by decide) ?_
  have L1 := hL.fr f1 (by decide) (by decide)
  refine downF (P := fun d => ∀ c', Fr [62, 63] c1 c' → (∀ i, i < 3 → c'.1 62 i = if i = j then nI (P - 1) else c1.1 62 i) → (∀ k, (k < 12 * j ∨ 12 * j + 12 ≤ k) → c'.2.1 63 k = c1.2.1 63 k) → (∀ i, i + 1 < d → c'.2.1 63 (12 * j + i) = lN (stF mir P g (i + 1))) → pX11_found_37 E (dd + 5) 0 (nI j) (nI P) (nI d) (Hm c') K) 1 P (by omega) ?_ ?_ _ (Fr.rf.mI (by simp)) (fun i hi => ?_) (fun _ _ => rfl) (fun i hi => absurd hi (by omega))
  · intro c' hf h1 h2 h3
    refine vX11_found_37 (bLe (fun _ => ?_) (fun z => absurd z (by omega)))
    refine k2 h P g he c' ((f1.mono (by simp)).trans (hf.mono (by simp))) (by rw [hf.i (by decide)]; exact z1) (L1.listF hj (Or.inr ⟨P - 1, by omega, rfl⟩) h1 h2 (fun q hq h12 i hi => ?_))
    have := (nI_eq (by omega) (by omega)).mp hq
    exact h3 i (by omega)
  · intro d hd1 hd ih c' hf h1 h2 h3
    refine vX11_found_37 (bLe (fun z => absurd z (by omega)) (fun _ => ldR l0 rfl (ldR l0 rfl (ldR l56 rfl (alI l60 (by omega) (by decide) ?_)))))
    rw [hf.i (by decide), s1 d hd, t64 _ (by have := sl d hd; omega), pk_mul, nI_add, nI_sub1 (by omega), nI_add]
    refine asL l63 (by omega) (by decide) (ih _ (hf.mL (by simp)) h1 (fun k hk => ?_) (fun i hi => ?_))
    · rw [mL_n (by omega)]; exact h2 k hk
    · by_cases e : i + 1 = d
      · subst e
        rw [show 12 * j + (i + 1) - 1 = 12 * j + i by omega, mL_s]
      · rw [mL_n (by omega)]; exact h3 i (by omega)
  · by_cases e : i = j
    · subst e; rw [if_pos rfl, mI_s]
    · rw [if_neg e, mI_n (by omega)]
end FF
