/-! wheels -/
def isWh (o ci : Nat) : Prop := (∃ fds, lay[o]? = some (.inl (ci, (0, 0) :: (2, o + 1) :: (2, o + 2) :: (2, o + 3) :: fds))) ∧ lay[o + 1]? = some (.inr (0, 6, [])) ∧ lay[o + 2]? = some (.inr (0, 6, [])) ∧ lay[o + 3]? = some (.inr (0, 6, []))
def WI (Mc : gk_M) (ci : Nat) : Prop := (ci = 4 ∨ ci = 5 ∨ ci = 6) ∧ gk_Cu RX10 34 ⟨"AtomTables$Wheels", "clash", "(I)I"⟩ RX10 Mc ci 1 ∧ 2 ≤ Mc.2.2.1
def WZ (c : gm) (o m : Nat) (lo hx : Nat → Nat) : Prop := c.1 o 0 = nI m ∧ m ≤ 6 ∧ ∀ q, q < m → c.1 (o + 2) q = nI (lo q) ∧ c.1 (o + 3) q = nI (hx q) - nI 1 ∧ lo q ≤ 6 ∧ hx q ≤ 6
def WA (c : gm) (o m : Nat) (f : fT) : Prop := ∀ q, q < m → c.1 (o + 1) q = nI (f q)
theorem WZ.fr {c c' : gm} {o m : Nat} {lo hx : Nat → Nat} {l : List Nat} (h : WZ c o m lo hx) (hf : Fr l c c') (h0 : o ∉ l) (h2 : o + 2 ∉ l) (h3 : o + 3 ∉ l) : WZ c' o m lo hx := ⟨by rw [hf.i h0]; exact h.1, h.2.1, fun q hq => by rw [hf.i h2, hf.i h3]; exact h.2.2 q hq⟩
theorem WA.fr {c c' : gm} {o m : Nat} {f : fT} {l : List Nat} (h : WA c o m f) (hf : Fr l c c') (h0 : o + 1 ∉ l) : WA c' o m f := fun q hq => by rw [hf.i h0]; exact h q hq
def Bd (m : Nat) (lo hx : Nat → Nat) (f : fT) : Prop := ∀ q, q < m → lo q ≤ f q ∧ f q < hx q
theorem hi_lt : ∀ a, a < 7 → ∀ b, b < 7 → (nI a - nI 1 < nI b ↔ a ≤ b) := by decide
theorem nI_le0 {q : Nat} (h : q < 2 ^ 31) : (0 : Int32) ≤ nI q := by
  rw [← nI_0]
  exact (nI_leI (by decide) h).mpr (Nat.zero_le _)
/-- what clash does: d0 frames, rows l change -/
def Wcl (E : gk_E) (Mc : gk_M) (d0 o m : Nat) (lo hx : Nat → Nat) (gd : gT) (l : List Nat) (R : Nat → fT → gm → Prop) : Prop :=
  (∀ p f r g c c', R p f c → p ≤ r → (∀ q, r ≤ q → f q = g q) → Fr [o + 1] c c' → R r g c') ∧
  (∀ c f p, WZ c o m lo hx → WA c o m f → Bd m lo hx f → R (p + 1) f c → p < m → (∀ q, p < q → q < m → gd q f = true) → ∀ dd (K : Int32 → gk_H → Prop), (∀ q, q ≤ p → gd q f = false → (∀ r, q < r → r < m → gd r f = true) → ∀ c', Fr l c c' → R (q + 1) f c' → K (nI q) (Hm c')) → ((∀ q, q < m → gd q f = true) → ∀ c', Fr l c c' → R 0 f c' → K (-1) (Hm c')) → RnI E Mc (dd + d0, 0, 0) [.ref o, .int (nI p)] (Hm c) K) ∧
  (∀ c dd (K : Int32 → gk_H → Prop), K (-1) (Hm c) → RnI E Mc (dd + d0, 0, 0) [.ref o, .int (-1)] (Hm c) K) ∧ Lk gd ∧ o ∉ l ∧ o + 1 ∉ l ∧ o + 2 ∉ l ∧ o + 3 ∉ l
section WH
variable {E : gk_E} {dd d0 : Nat} {c : gm} {o m ci : Nat} {Mc : gk_M} {lo hx : Nat → Nat} {f : fT} {gd : gT} {l : List Nat} {R : Nat → fT → gm → Prop}
theorem c_span (hi : WI Mc ci) (hw : isWh o ci) (hm : m ≤ 6) {x y : Int32} {K : gk_H → Prop} (k : ∀ c', Fr [o, o + 2, o + 3] c c' → (∀ j, j ≠ 0 → c'.1 o j = c.1 o j) → (∀ j, c'.2.2 o j = c.2.2 o j) → c'.1 o 0 = nI m → (∀ q, q < m → c'.1 (o + 2) q = x ∧ c'.1 (o + 3) q = y) → K (Hm c')) : RnV E mX10_span (dd, 0, 0) [.ref o, .int (nI m), .int x, .int y] (Hm c) K := by
  obtain ⟨⟨fds, w0⟩, w1, w2, w3⟩ := hw
  refine vX10_span_0 hi.1 hi.2.1 hi.2.2 (stI w0 rfl ?_)
  refine down (P := fun a => ∀ c', Fr [o, o + 2, o + 3] c c' → (∀ j, j ≠ 0 → c'.1 o j = c.1 o j) → (∀ j, c'.2.2 o j = c.2.2 o j) → c'.1 o 0 = nI m → (∀ q, q < a → c'.1 (o + 2) q = x ∧ c'.1 (o + 3) q = y) → pX10_span_8 E dd ci Mc o (nI m) x y (nI a) (Hm c') K) m ?_ ?_ 0 (Nat.zero_le _) _ (Fr.rf.mI (by simp)) (fun j hj => mI_n (by omega)) (fun _ => rfl) mI_s (fun q hq => absurd hq (by omega))
  · intro c' f1 f2 f5 f3 f4
    refine vX10_span_8 hi.1 hi.2.1 hi.2.2 (ldI w0 rfl ?_)
    rw [f3]
    exact bLe (fun _ => k c' f1 f2 f5 f3 f4) (fun z => absurd z (by omega))
  · intro a ha ih c' f1 f2 f5 f3 f4
    refine vX10_span_8 hi.1 hi.2.1 hi.2.2 (ldI w0 rfl ?_)
    rw [f3]
    refine bLe (fun z => absurd z (by omega)) (fun _ => ldR w0 rfl (asI w2 (by omega) (by decide) (ldR w0 rfl (asI w3 (by omega) (by decide) ?_))))
    rw [nI_add]
    refine ih _ ((f1.mI (by simp)).mI (by simp)) (fun j hj => by rw [mI_n (by omega), mI_n (by omega)]; exact f2 j hj) f5 (by rw [mI_n (by omega), mI_n (by omega)]; exact f3) (fun q hq => ?_)
    by_cases e : q = a
    · subst e
      exact ⟨by rw [mI_n (by omega), mI_s], mI_s⟩
    · rw [mI_n (by omega), mI_n (by omega), mI_n (by omega), mI_n (by omega)]
      exact f4 q (by omega)
theorem c_hold (hi : WI Mc ci) (hw : isWh o ci) {p v : Nat} (hp : p < 6) {K : gk_H → Prop} (k : ∀ c', Fr [o + 2, o + 3] c c' → (∀ q, q ≠ p → c'.1 (o + 2) q = c.1 (o + 2) q ∧ c'.1 (o + 3) q = c.1 (o + 3) q) → c'.1 (o + 2) p = nI v → c'.1 (o + 3) p = nI v → K (Hm c')) : RnV E mX10_hold (dd, 0, 0) [.ref o, .int (nI p), .int (nI v)] (Hm c) K := by
  obtain ⟨⟨fds, w0⟩, w1, w2, w3⟩ := hw
  refine vX10_hold_0 hi.1 hi.2.1 hi.2.2 (ldR w0 rfl (asI w2 hp (by decide) (ldR w0 rfl (asI w3 hp (by decide) ?_))))
  exact k _ ((Fr.rf.mI (by simp)).mI (by simp)) (fun q hq => ⟨by rw [mI_n (by omega), mI_n (by omega)], by rw [mI_n (by omega), mI_n (by omega)]⟩) (by rw [mI_n (by omega), mI_s]) mI_s
theorem c_turn (hi : WI Mc ci) (hw : isWh o ci) (hZ : WZ c o m lo hx) (hA : WA c o m f) (hb : ∀ q, q < m → f q < hx q) {p : Nat} (hp : p ≤ m) {K : Int32 → gk_H → Prop} (k1 : (∀ q, p ≤ q → q < m → hx q ≤ f q + 1) → K (nI m) (Hm c)) (k2 : ∀ r, p ≤ r → r < m → (∀ q, p ≤ q → q < r → hx q ≤ f q + 1) → f r + 1 < hx r → ∀ c', Fr [o + 1] c c' → WA c' o m (tn lo f r) → K (nI r) (Hm c')) : RnI E mX10_turn (dd, 0, 0) [.ref o, .int (nI p)] (Hm c) K := by
  obtain ⟨⟨fds, w0⟩, w1, w2, w3⟩ := hw
  have hm6 := hZ.2.1
  refine vX10_turn_0 hi.1 hi.2.1 hi.2.2 ?_
  refine downF (P := fun r => (∀ q, p ≤ q → q < r → hx q ≤ f q + 1) → pX10_turn_2 E dd ci Mc o (nI p) (nI r) (Hm c) K) p m hp ?_ ?_ (fun q h1 h2 => absurd h1 (by omega))
  · intro hq
    refine vX10_turn_2 hi.1 hi.2.1 hi.2.2 (ldI w0 rfl ?_)
    rw [hZ.1]
    refine bLe (fun _ => ldI w0 rfl ?_) (fun z => absurd z (by omega))
    rw [hZ.1]
    exact bLe (fun _ => k1 hq) (fun z => absurd z (by omega))
  · intro r hpr hr ih hq
    have hbr := hb r hr
    have hz := hZ.2.2 r hr
    refine vX10_turn_2 hi.1 hi.2.1 hi.2.2 (ldI w0 rfl ?_)
    rw [hZ.1]
    refine bLe (fun z => absurd z (by omega)) (fun _ => ldR w0 rfl (alI w1 (by omega) (by decide) (ldR w0 rfl (alI w3 (by omega) (by decide) ?_))))
    rw [hA r hr, hz.2.1, nI_sub1 (by omega)]
    refine bLt (fun hu => ldI w0 rfl ?_) (fun hu => ?_)
    · rw [hZ.1]
      refine bLe (fun z => absurd z (by omega)) (fun _ => ldR w0 rfl (alI w1 (by omega) (by decide) (asI w1 (by omega) (by decide) ?_)))
      rw [hA r hr, nI_add]
      refine down (P := fun q => ∀ c', Fr [o + 1] c c' → (∀ j, j < m → c'.1 (o + 1) j = nI (if j < q then lo j else if j = r then f r + 1 else f j)) → pX10_turn_51 E dd ci Mc o (nI p) (nI r) (nI q) (Hm c') K) r ?_ ?_ 0 (Nat.zero_le _) _ (Fr.rf.mI (by simp)) (fun j hj => ?_)
      · intro c' hf ha
        exact vX10_turn_51 hi.1 hi.2.1 hi.2.2 (bLe (fun _ => k2 r hpr hr hq (by omega) c' hf (fun j hj => ha j hj)) (fun z => absurd z (by omega)))
      · intro q hq2 ih2 c' hf ha
        refine vX10_turn_51 hi.1 hi.2.1 hi.2.2 (bLe (fun z => absurd z (by omega)) (fun _ => ldR w0 rfl (ldR w0 rfl (alI w2 (by omega) (by decide) (asI w1 (by omega) (by decide) ?_)))))
        rw [hf.i (by simp), (hZ.2.2 q (by omega)).1, nI_add]
        refine ih2 _ (hf.mI (by simp)) (fun j hj => ?_)
        by_cases e : j = q
        · subst e; rw [mI_s, if_pos (by omega)]
        · rw [mI_n (by omega), ha j hj]
          by_cases e2 : j < q
          · rw [if_pos e2, if_pos (by omega)]
          · rw [if_neg e2, if_neg (show ¬ j < q + 1 by omega)]
      · rw [if_neg (by omega)]
        by_cases e : j = r
        · subst e; rw [mI_s, if_pos rfl]
        · rw [mI_n (by omega), if_neg e]; exact hA j hj
    · rw [nI_add]
      exact ih (fun q h1 h2 => by
        by_cases e : q = r
        · subst e; omega
        · exact hq q h1 (by omega))
theorem Bd.tn (hx0 : ∀ q, q < m → lo q < hx q) (h : Bd m lo hx f) {r : Nat} (hu : f r + 1 < hx r) : Bd m lo hx (tn lo f r) := fun q hq => by
  by_cases e : q < r
  · rw [tn_lt e]; exact ⟨Nat.le_refl _, hx0 q hq⟩
  · by_cases e2 : q = r
    · subst e2; rw [tn_eq]; have := h q hq; omega
    · rw [tn_gt (by omega)]; exact h q hq
theorem c_settle (hi : WI Mc ci) (hw : isWh o ci) (hc : Wcl E Mc d0 o m lo hx gd l R) (hx0 : ∀ q, q < m → lo q < hx q) {K : Int32 → gk_H → Prop} {x0 : Int32} : ∀ fu, ∀ c f r t, 6 ^ 6 - cdr f m ≤ fu → t ≤ cdr f m → WZ c o m lo hx → WA c o m f → Bd m lo hx f → R (r + 1) f c → r < m → (∀ q, r < q → q < m → gd q f = true) → (∀ q, q < r → f q = lo q) → (cur lo hx gd m r f = [] → ∀ c', Fr ((o + 1) :: l) c c' → (∃ p g, R p g c') → K (nI 0) (Hm c')) → (∀ g, cur lo hx gd m r f = g :: af lo hx gd m 0 g → Bd m lo hx g → (∀ q, q < m → gd q g = true) → cdr f m ≤ cdr g m → ∀ c', Fr ((o + 1) :: l) c c' → WA c' o m g → R 0 g c' → K (nI 1) (Hm c')) → pX10_settle_4 E (dd + d0) ci Mc o x0 (nI r) (nI t) (Hm c) K := by
  have hwo := hw
  obtain ⟨⟨fds, w0⟩, w1, w2, w3⟩ := hw
  obtain ⟨cR, cC, _, hL, n0, n1, n2, n3⟩ := hc
  intro fu
  induction fu with
  | zero =>
    intro c f r t hfu ht hZ hA hB
    exfalso
    have h1 := cdr_lt (f := f) m (fun q hq => by have := hB q hq; have := hZ.2.2 q hq; omega)
    have h2 : 6 ^ m ≤ 6 ^ 6 := Nat.pow_le_pow_right (by decide) hZ.2.1
    omega
  | succ fu ih =>
    intro c f r t hfu ht hZ hA hB hR hr hg hl k1 k2
    have h1 := cdr_lt (f := f) m (fun q hq => by have := hB q hq; have := hZ.2.2 q hq; omega)
    have h2 : 6 ^ m ≤ 6 ^ 6 := Nat.pow_le_pow_right (by decide) hZ.2.1
    have h3 : (6 : Nat) ^ 6 = 46656 := by decide
    have hm6 := hZ.2.1
    refine vX10_settle_4 hi.1 hi.2.1 hi.2.2 (bLe (fun z => absurd z (by omega)) (fun _ => ldI w0 rfl ?_))
    rw [hZ.1]
    refine bLe (fun z => absurd z (by omega)) (fun _ => ⟨obj w0, cC c f r hZ hA hB hR hr hg dd _ (fun q hq hb hg2 c1 f1 r1 => ?_) (fun hg2 c1 f1 r1 => ?_)⟩)
    · refine ⟨fun _ => ⟨obj w0, ?_⟩, fun z => absurd (nI_le0 (by omega)) z⟩
      have e1 : cur lo hx gd m r f = af lo hx gd m q f := cur_bad hb r hq hr (fun j a1 a2 => hg2 j a1 (by omega)) hl hx0
      have Z1 := hZ.fr f1 n0 n2 n3
      have A1 := hA.fr f1 n1
      refine c_turn hi hwo Z1 A1 (fun j hj => (hB j hj).2) (Nat.le_of_lt (Nat.lt_of_le_of_lt hq hr)) (fun hn => ?_) (fun r2 a1 a2 a3 a4 c2 f2 A2 => ?_)
      · have hz : pX10_settle_4 E (dd + d0) ci Mc o x0 (nI m) (nI (t + 1)) (Hm c1) K := by
          refine vX10_settle_4 hi.1 hi.2.1 hi.2.2 (bLe (fun z => absurd z (by omega)) (fun _ => ldI w0 rfl ?_))
          rw [Z1.1]
          refine bLe (fun _ => ?_) (fun z => absurd z (by omega))
          exact k1 (by rw [e1]; exact af_none (by omega) hn) c1 (f1.mono (fun q hq => List.mem_cons_of_mem _ hq)) ⟨_, _, r1⟩
        rw [nI_add]
        exact hz
      · rw [nI_add]
        have e2 : cur lo hx gd m r f = cur lo hx gd m r2 (tn lo f r2) := by rw [e1]; exact af_turn hL a1 a2 a3 a4
        have hlt := cdr_tn (lo := lo) (f := f) (r := r2) (fun j hj => by have := hB j (by omega); have := hZ.2.2 j (by omega); omega) m a2
        have fr : Fr ((o + 1) :: l) c c2 := (f1.mono (fun q hq => List.mem_cons_of_mem _ hq)).trans (f2.mono (fun q hq => by simp at hq; simp [hq]))
        refine ih c2 (tn lo f r2) r2 (t + 1) (by omega) (by omega) (Z1.fr f2 (by simp) (by simp) (by simp)) A2 (hB.tn hx0 a4) (cR (q + 1) f (r2 + 1) _ c1 c2 r1 (by omega) (fun j hj => (tn_gt (by omega)).symm) f2) a2 (fun j b1 b2 => ?_) (fun j hj => tn_lt hj) (fun h c3 f3 x3 => k1 (e2.trans h) c3 (fr.trans f3) x3) (fun g h b1 b2 b3 c3 f3 b4 b5 => k2 g (e2.trans h) b1 b2 (by omega) c3 (fr.trans f3) b4 b5)
        rw [← hg2 j (by omega) b2]
        exact hL j _ _ (fun i hi => tn_gt (by omega))
    · refine ⟨fun z => absurd z (by decide), fun _ => ?_⟩
      refine k2 f (cur_all r hr (fun q hq => hg2 q (by omega)) hl hx0) hB hg2 (Nat.le_refl _) c1 (f1.mono (fun q hq => List.mem_cons_of_mem _ hq)) (hA.fr f1 n1) r1
theorem bI01 {b : Bool} {K : Int32 → gk_H → Prop} {h : gk_H} (k : K (bI b) h) : (bI b = 0 → K (nI 0) h) ∧ (¬ bI b = 0 → K (nI 1) h) := by
  cases b
  · exact ⟨fun _ => k, fun z => absurd rfl z⟩
  · exact ⟨fun z => absurd z (by decide), fun _ => k⟩
theorem c_nextR (hi : WI Mc ci) (hw : isWh o ci) (hc : Wcl E Mc d0 o m lo hx gd l R) (hx0 : ∀ q, q < m → lo q < hx q) (hZ : WZ c o m lo hx) (hA : WA c o m f) (hB : Bd m lo hx f) (hR : R 0 f c) (hg : ∀ q, q < m → gd q f = true) {K : Int32 → gk_H → Prop} (k1 : af lo hx gd m 0 f = [] → ∀ c', Fr ((o + 1) :: l) c c' → (∃ p g, R p g c') → K (nI 0) (Hm c')) (k2 : ∀ g, af lo hx gd m 0 f = g :: af lo hx gd m 0 g → Bd m lo hx g → (∀ q, q < m → gd q g = true) → cdr f m < cdr g m → ∀ c', Fr ((o + 1) :: l) c c' → WA c' o m g → R 0 g c' → K (nI 1) (Hm c')) : RnI E mX10_next (dd + d0 + 2, 0, 0) [.ref o] (Hm c) K := by
  have hwo := hw
  have hco := hc
  obtain ⟨⟨fds, w0⟩, w1, w2, w3⟩ := hw
  obtain ⟨cR, cC, _, hL, n0, n1, n2, n3⟩ := hc
  have hm6 := hZ.2.1
  refine vX10_next_0 hi.1 hi.2.1 hi.2.2 ⟨obj w0, c_turn hi hwo hZ hA (fun j hj => (hB j hj).2) (Nat.zero_le _) (fun hn => ldI w0 rfl ?_) (fun r a1 a2 a3 a4 c1 f1 A1 => ldI w0 rfl ?_)⟩
  · rw [hZ.1]
    refine bLe (fun _ => k1 (af_none (Nat.zero_le _) hn) c Fr.rf ⟨_, _, hR⟩) (fun z => absurd z (by omega))
  · have Z1 := hZ.fr f1 (by simp) (by simp) (by simp)
    rw [Z1.1]
    have e2 : af lo hx gd m 0 f = cur lo hx gd m r (tn lo f r) := af_turn hL a1 a2 a3 a4
    have hlt := cdr_tn (lo := lo) (f := f) (r := r) (fun j hj => by have := hB j (by omega); have := hZ.2.2 j (by omega); omega) m a2
    have fr : Fr ((o + 1) :: l) c c1 := f1.mono (fun q hq => by simp at hq; simp [hq])
    refine bLe (fun z => absurd z (by omega)) (fun _ => ⟨obj w0, vX10_settle_0 hi.1 hi.2.1 hi.2.2 ?_⟩)
    refine c_settle hi hwo hco hx0 _ c1 (tn lo f r) r 0 (Nat.le_refl _) (Nat.zero_le _) Z1 A1 (hB.tn hx0 a4) (cR 0 f (r + 1) _ c c1 hR (by omega) (fun j hj => (tn_gt (by omega)).symm) f1) a2 (fun j b1 b2 => ?_) (fun j hj => tn_lt hj) (fun h c3 f3 x3 => ?_) (fun g h b1 b2 b3 c3 f3 b4 b5 => ?_)
    · rw [← hg j b2]
      exact hL j _ _ (fun i hi => tn_gt (by omega))
    · exact bI01 (b := false) (k1 (e2.trans h) c3 (fr.trans f3) x3)
    · exact bI01 (b := true) (k2 g (e2.trans h) b1 b2 (by omega) c3 (fr.trans f3) b4 b5)
theorem c_next (hi : WI Mc ci) (hw : isWh o ci) (hc : Wcl E Mc d0 o m lo hx gd l R) (hx0 : ∀ q, q < m → lo q < hx q) (hZ : WZ c o m lo hx) (hA : WA c o m f) (hB : Bd m lo hx f) (hR : R 0 f c) (hg : ∀ q, q < m → gd q f = true) {K : Int32 → gk_H → Prop} (k1 : af lo hx gd m 0 f = [] → ∀ c', Fr ((o + 1) :: l) c c' → K (nI 0) (Hm c')) (k2 : ∀ g, af lo hx gd m 0 f = g :: af lo hx gd m 0 g → Bd m lo hx g → (∀ q, q < m → gd q g = true) → cdr f m < cdr g m → ∀ c', Fr ((o + 1) :: l) c c' → WA c' o m g → R 0 g c' → K (nI 1) (Hm c')) : RnI E mX10_next (dd + d0 + 2, 0, 0) [.ref o] (Hm c) K := c_nextR hi hw hc hx0 hZ hA hB hR hg (fun h c' f' _ => k1 h c' f') k2
theorem c_firstR (hi : WI Mc ci) (hw : isWh o ci) (hc : Wcl E Mc d0 o m lo hx gd l R) (hZ : WZ c o m lo hx) {f0 : fT} (hR : R m f0 c) {K : Int32 → gk_H → Prop} (k1 : en (vr lo hx) gd m f0 = [] → ∀ c', Fr ((o + 1) :: l) c c' → (∃ p g, R p g c') → K (nI 0) (Hm c')) (k2 : ∀ g, (∀ q, q < m → lo q < hx q) → en (vr lo hx) gd m f0 = g :: af lo hx gd m 0 g → Bd m lo hx g → (∀ q, q < m → gd q g = true) → ∀ c', Fr ((o + 1) :: l) c c' → WA c' o m g → R 0 g c' → K (nI 1) (Hm c')) : RnI E mX10_first (dd + d0 + 2, 0, 0) [.ref o] (Hm c) K := by
  have hwo := hw
  have hco := hc
  obtain ⟨⟨fds, w0⟩, w1, w2, w3⟩ := hw
  obtain ⟨cR, cC, cM, hL, n0, n1, n2, n3⟩ := hc
  have hm6 := hZ.2.1
  refine vX10_first_0 hi.1 hi.2.1 hi.2.2 ?_
  refine down (P := fun a => ∀ c' (b : Bool), Fr [o + 1] c c' → (∀ q, q < a → c'.1 (o + 1) q = nI (lo q)) → (b = true → ∀ q, q < a → lo q < hx q) → (b = false → ∃ q, q < a ∧ hx q ≤ lo q) → pX10_first_4 E (dd + d0 + 1) ci Mc o (bI b) (nI a) (Hm c') K) m ?_ ?_ 0 (Nat.zero_le _) c true Fr.rf (fun q hq => absurd hq (by omega)) (fun _ q hq => absurd hq (by omega)) (fun h => absurd h (by decide))
  · intro c1 b f1 h1 h2 h3
    have fr : Fr ((o + 1) :: l) c c1 := f1.mono (fun q hq => by simp at hq; simp [hq])
    refine vX10_first_4 hi.1 hi.2.1 hi.2.2 (ldI w0 rfl ?_)
    have Z1 := hZ.fr f1 (by simp) (by simp) (by simp)
    rw [Z1.1]
    refine bLe (fun _ => bB0 (fun e => ?_) (fun e => ldI w0 rfl ?_)) (fun z => absurd z (by omega))
    · obtain ⟨q, hq, hq2⟩ := h3 e
      exact k1 (en_empty (vs := vr lo hx) hq (rg_nil hq2) f0) c1 fr ⟨_, _, cR m f0 m f0 c c1 hR (Nat.le_refl _) (fun _ _ => rfl) f1⟩
    · have hx0 := h2 e
      rw [Z1.1]
      refine ⟨obj w0, vX10_settle_0 hi.1 hi.2.1 hi.2.2 ?_⟩
      by_cases hm : m = 0
      · subst hm
        rw [show nI 0 - nI 1 = (-1 : Int32) from rfl]
        refine vX10_settle_4 hi.1 hi.2.1 hi.2.2 (bLe (fun z => absurd z (by omega)) (fun _ => ldI w0 rfl ?_))
        rw [Z1.1]
        refine ⟨fun z => absurd z (by decide), fun _ => ⟨obj w0, cM c1 _ _ ⟨fun z => absurd z (by decide), fun _ => ?_⟩⟩⟩
        exact bI01 (b := true) (k2 f0 hx0 rfl (fun q hq => absurd hq (by omega)) (fun q hq => absurd hq (by omega)) c1 fr (fun q hq => absurd hq (by omega)) (cR 0 f0 0 f0 c c1 hR (Nat.le_refl _) (fun _ _ => rfl) f1))
      · obtain ⟨r, rfl⟩ : ∃ r, m = r + 1 := ⟨m - 1, by omega⟩
        rw [nI_sub1 (by omega), Nat.add_sub_cancel]
        have e1 : en (vr lo hx) gd (r + 1) f0 = cur lo hx gd (r + 1) r (fun q => if q < r + 1 then lo q else f0 q) := en_start hL rfl hx0 (fun q hq => if_pos hq) (fun q hq => (if_neg (by omega)).symm)
        refine c_settle hi hwo hco hx0 _ c1 (fun q => if q < r + 1 then lo q else f0 q) r 0 (Nat.le_refl _) (Nat.zero_le _) Z1 (fun q hq => by rw [h1 q hq]; exact congrArg nI (if_pos hq).symm) (fun q hq => by simp only [if_pos hq]; exact ⟨Nat.le_refl _, hx0 q hq⟩) (cR (r + 1) f0 (r + 1) _ c c1 hR (Nat.le_refl _) (fun j hj => (if_neg (by omega)).symm) f1) (by omega) (fun j b1 b2 => absurd b2 (by omega)) (fun j hj => if_pos (by omega)) (fun h c3 f3 x3 => ?_) (fun g h b1 b2 b3 c3 f3 b4 b5 => ?_)
        · exact bI01 (b := false) (k1 (e1.trans h) c3 (fr.trans f3) x3)
        · exact bI01 (b := true) (k2 g hx0 (e1.trans h) b1 b2 c3 (fr.trans f3) b4 b5)
  · intro a ha ih c1 b f1 h1 h2 h3
    refine vX10_first_4 hi.1 hi.2.1 hi.2.2 (ldI w0 rfl ?_)
    have Z1 := hZ.fr f1 (by simp) (by simp) (by simp)
    have za := Z1.2.2 a ha
    rw [Z1.1]
    refine bLe (fun z => absurd z (by omega)) (fun _ => ldR w0 rfl (ldR w0 rfl (alI w2 (by omega) (by decide) (asI w1 (by omega) (by decide) ?_))))
    rw [nI_add, za.1]
    have f2 : Fr [o + 1] c (mI c1 (o + 1) a (nI (lo a))) := f1.mI (by simp)
    have g1 : ∀ q, q < a + 1 → (mI c1 (o + 1) a (nI (lo a))).1 (o + 1) q = nI (lo q) := fun q hq => by
      by_cases e : q = a
      · subst e; exact mI_s
      · rw [mI_n (by omega)]; exact h1 q (by omega)
    refine bB0 (fun e => ih _ false f2 g1 (fun z => absurd z (by decide)) (fun _ => ?_)) (fun e => ldR w0 rfl (alI w2 (by omega) (by decide) (ldR w0 rfl (alI w3 (by omega) (by decide) ?_))))
    · obtain ⟨q, hq, hq2⟩ := h3 e
      exact ⟨q, by omega, hq2⟩
    · rw [mI_n (by omega), mI_n (by omega), za.1, za.2.1]
      refine ⟨fun z => ih _ false f2 g1 (fun z => absurd z (by decide)) (fun _ => ⟨a, by omega, (hi_lt _ (by omega) _ (by omega)).mp z⟩), fun z => ih _ true f2 g1 (fun _ q hq => ?_) (fun z => absurd z (by decide))⟩
      by_cases e2 : q = a
      · subst e2
        exact Nat.lt_of_not_le (fun y => z ((hi_lt _ (by omega) _ (by omega)).mpr y))
      · exact h2 e q (by omega)
theorem c_first (hi : WI Mc ci) (hw : isWh o ci) (hc : Wcl E Mc d0 o m lo hx gd l R) (hZ : WZ c o m lo hx) {f0 : fT} (hR : R m f0 c) {K : Int32 → gk_H → Prop} (k1 : en (vr lo hx) gd m f0 = [] → ∀ c', Fr ((o + 1) :: l) c c' → K (nI 0) (Hm c')) (k2 : ∀ g, (∀ q, q < m → lo q < hx q) → en (vr lo hx) gd m f0 = g :: af lo hx gd m 0 g → Bd m lo hx g → (∀ q, q < m → gd q g = true) → ∀ c', Fr ((o + 1) :: l) c c' → WA c' o m g → R 0 g c' → K (nI 1) (Hm c')) : RnI E mX10_first (dd + d0 + 2, 0, 0) [.ref o] (Hm c) K := c_firstR hi hw hc hZ hR (fun h c' f' _ => k1 h c' f') k2
/-- settings as digits -/
def dgD (more : Nat) (f : fT) : Nat → Nat
  | 0 => 0
  | k + 1 => dgD more f k + (f k + more) * 10 ^ k
theorem c_digits (hi : WI Mc ci) (hw : isWh o ci) (hs : c.1 o 0 = nI m) (hm : m ≤ 6) (hA : WA c o m f) {u : Nat} {K : Int32 → gk_H → Prop} (k : K (nI (dgD u f m)) (Hm c)) : RnI E mX10_digits (dd, 0, 0) [.ref o, .int (nI u)] (Hm c) K := by
  obtain ⟨⟨fds, w0⟩, w1, w2, w3⟩ := hw
  refine vX10_digits_0 hi.1 hi.2.1 hi.2.2 (ldI w0 rfl ?_)
  rw [hs]
  have go : ∀ a, a ≤ m → ∀ acc, acc * 10 ^ a + dgD u f a = dgD u f m → pX10_digits_9 E dd ci Mc o (nI u) (nI acc) (nI a - nI 1) (Hm c) K := by
    intro a
    induction a with
    | zero =>
      intro _ acc h
      refine vX10_digits_9 hi.1 hi.2.1 hi.2.2 ⟨fun _ => ?_, fun z => absurd (by decide) z⟩
      rw [dgD, Nat.pow_zero, Nat.mul_one, Nat.add_zero] at h
      rw [h]; exact k
    | succ a ih =>
      intro ha acc h
      rw [nI_sub1 (by omega), Nat.add_sub_cancel]
      refine vX10_digits_9 hi.1 hi.2.1 hi.2.2 ⟨fun z => absurd z (nI_nn (by omega)), fun _ => ldR w0 rfl (alI w1 (by omega) (by decide) ?_)⟩
      rw [hA a (by omega), pk_mul, nI_add, nI_add, show (nI a + -1 : Int32) = nI a - nI 1 from by rw [Int32.sub_eq_add_neg]; rfl]
      refine ih (by omega) _ ?_
      rw [← h, dgD, Nat.pow_succ]
      have e1 : (10 * acc + f a + u) * 10 ^ a = 10 * acc * 10 ^ a + (f a + u) * 10 ^ a := by rw [Nat.add_assoc, Nat.add_mul]
      have e2 : acc * (10 ^ a * 10) = 10 * acc * 10 ^ a := by rw [Nat.mul_comm (10 ^ a) 10, ← Nat.mul_assoc, Nat.mul_comm acc 10]
      omega
  exact go m (Nat.le_refl _) 0 (by omega)
end WH
