/-! fills: the class -/
def isRw (o r : Nat) : Prop := lay[o]? = some (.inl (6, [(0, 0), (2, o + 1), (2, o + 2), (2, o + 3), (2, 2), (2, r)])) ∧ lay[o + 1]? = some (.inr (0, 6, [])) ∧ lay[o + 2]? = some (.inr (0, 6, [])) ∧ lay[o + 3]? = some (.inr (0, 6, [])) ∧ isNt r ∧ r + 1 < o ∧ 30 ≤ r
theorem isRw33 : isRw 33 30 := ⟨l33, l34, l35, l36, ⟨l30, l31⟩, by decide, by decide⟩
theorem isRw44 : isRw 44 38 := ⟨l44, l45, l46, l47, ⟨l38, l39⟩, by decide, by decide⟩
theorem isRw48 : isRw 48 38 := ⟨l48, l49, l50, l51, ⟨l38, l39⟩, by decide, by decide⟩
theorem isRw.wh {o r : Nat} (h : isRw o r) : isWh o 6 := ⟨⟨_, h.1⟩, h.2.1, h.2.2.1, h.2.2.2.1⟩
theorem WI6 : WI mX6_clash 6 := ⟨Or.inr (Or.inr rfl), cuX10_34_6, by decide⟩
def RwR (r s : Nat) (lab : Nat → Nat → Nat) (n : Nat) (mir : Nat → Nat) (N : Nat) (c : gm) : Prop := NetAt c r s lab ∧ Tab c 2 n mir N
section RW
variable {E : gk_E} {dd : Nat} {c : gm} {o r s n N : Nat} {mir : Nat → Nat} {lab : Nat → Nat → Nat} {f : fT} {lo hx : Nat → Nat}
theorem c_rcl1 (hw : isRw o r) (hR : RwR r s lab n mir N c) (v1 : ∀ p q, p < s → q < s → lab p q < 4) (hS : c.1 o 0 = nI s) (hA : WA c o s f) (hb : ∀ q, q < s → f q < 4) {x1 : Int32} {K : Int32 → gk_H → Prop} {p : Nat} (hp : p < s) (k1 : rgd N s lab p f = false → K (nI p) (Hm c)) (k2 : rgd N s lab p f = true → pX6_clash_2 E dd o x1 (nI p + (-1)) (Hm c) K) : pX6_clash_2 E dd o x1 (nI p) (Hm c) K := by
  obtain ⟨w0, w1, w2, w3, w4, w5⟩ := hw
  obtain ⟨n1, hT⟩ := hR
  have m6 := n1.2.1
  refine vX6_clash_2 ⟨fun z => absurd z (nI_nn (by omega)), fun _ => ?_⟩
  rw [nI_add]
  refine downF (P := fun q => (∀ j, p < j → j < q → N.testBit (ix (lab p j) (f j) (f p)) = true) → pX6_clash_10 E dd o x1 (nI p) (nI q) (Hm c) K) (p + 1) s (by omega) ?_ ?_ (fun j a1 a2 => absurd a1 (by omega))
  · intro ha
    refine vX6_clash_10 (ldI w0 rfl ?_)
    rw [hS]
    exact bLe (fun _ => k2 (rgd_i.mpr ha)) (fun z => absurd z (by omega))
  · intro q hq1 hq2 ih ha
    refine vX6_clash_10 (ldI w0 rfl ?_)
    rw [hS]
    refine bLe (fun z => absurd z (by omega)) (fun _ => ldR w0 rfl (ldR w0 rfl ⟨obj w4.1, c_at w4 n1 hp hq2 (ldR w0 rfl (alI w1 (by omega) (by decide) (ldR w0 rfl (alI w1 (by omega) (by decide) ?_))))⟩))
    rw [hA p hp, hA q hq2]
    refine ⟨obj l2, c_has ⟨l2, l3⟩ hT (v1 p q hp hq2) (hb q hq2) (hb p hp) ?_⟩
    rw [nI_add]
    refine bBn (fun e => ih (fun j a1 a2 => ?_)) (fun e => k1 (rgd_f (by omega) hq2 e))
    by_cases ej : j = q
    · subst ej; exact e
    · exact ha j a1 (by omega)
theorem c_rclash (hw : isRw o r) (hR : RwR r s lab n mir N c) (v1 : ∀ p q, p < s → q < s → lab p q < 4) (hS : c.1 o 0 = nI s) (hA : WA c o s f) (hb : ∀ q, q < s → f q < 4) {x1 : Int32} {K : Int32 → gk_H → Prop} : ∀ p, p < s → (∀ r, p < r → r < s → rgd N s lab r f = true) → (∀ q, q ≤ p → rgd N s lab q f = false → (∀ r, q < r → r < s → rgd N s lab r f = true) → K (nI q) (Hm c)) → ((∀ q, q < s → rgd N s lab q f = true) → K (-1) (Hm c)) → pX6_clash_2 E dd o x1 (nI p) (Hm c) K := by
  intro p
  induction p with
  | zero =>
    intro hp hg k1 k2
    refine c_rcl1 hw hR v1 hS hA hb hp (fun e => k1 0 (Nat.le_refl _) e hg) (fun e => vX6_clash_2 ⟨fun _ => k2 (fun q hq => ?_), fun z => absurd (by decide) z⟩)
    by_cases e0 : q = 0
    · subst e0; exact e
    · exact hg q (by omega) hq
  | succ p ih =>
    intro hp hg k1 k2
    refine c_rcl1 hw hR v1 hS hA hb hp (fun e => k1 _ (Nat.le_refl _) e hg) (fun e => ?_)
    rw [pk_m1]
    refine ih (by omega) (fun r a1 a2 => ?_) (fun q hq => k1 q (by omega)) k2
    by_cases e0 : r = p + 1
    · subst e0; exact e
    · exact hg r (by omega) a2
theorem Wrw (hw : isRw o r) (v1 : ∀ p q, p < s → q < s → lab p q < 4) (h4 : ∀ q, q < s → hx q ≤ 4) : Wcl E mX6_clash 1 o s lo hx (rgd N s lab) [] (fun _ _ => RwR r s lab n mir N) := by
  obtain ⟨w0, w1, w2, w3, w4, w5, w6⟩ := id hw
  refine ⟨fun p f r g c c' h _ _ hf => ?_, fun c f p hZ hA hB hR hp hg dd K k1 k2 => ?_, fun c dd K k => ?_, rgd_L, by simp, by simp, by simp, by simp⟩
  · exact ⟨h.1.fr hf (by simp <;> omega) (by simp <;> omega), h.2.fr hf (by simp <;> omega) (by simp <;> omega)⟩
  · exact vX6_clash_0 (c_rclash hw hR v1 hZ.1 hA (fun q hq => Nat.lt_of_lt_of_le (hB q hq).2 (h4 q hq)) p hp hg (fun q a1 a2 a3 => k1 q a1 a2 a3 c Fr.rf hR) (fun a => k2 a c Fr.rf hR))
  · exact vX6_clash_0 (vX6_clash_2 ⟨fun _ => k, fun z => absurd (by decide) z⟩)
theorem c_spanAll (hw : isRw o r) (hT : Tab c 2 n mir N) (n1 : NetAt c r s lab) {K : gk_H → Prop} (k : ∀ c', Fr [o, o + 2, o + 3] c c' → c'.1 o 0 = nI s → (∀ q, q < s → c'.1 (o + 2) q = nI 1 ∧ c'.1 (o + 3) q = nI n - nI 1) → K (Hm c')) : RnV E mX6_spanAll (dd + 1, 0, 0) [.ref o] (Hm c) K := by
  refine vX6_spanAll_0 (ldR hw.1 rfl (ldI hw.2.2.2.2.1.1 rfl (ldR hw.1 rfl (ldI l2 rfl ⟨obj hw.1, ?_⟩))))
  rw [n1.1, hT.1]
  exact c_span WI6 hw.wh n1.2.1 (fun c1 f1 _ _ f3 f4 => k c1 f1 f3 f4)
theorem gl_lt {row : Nat → Nat} {p q : Nat} (hp : p < s) (hq : q < s) : gl s mir row lab p q = lab p q := by
  unfold gl
  rw [if_neg (by omega), if_neg (by omega)]
theorem gl_v {row : Nat → Nat} (hm : ∀ a, a < 4 → mir a < 4) (hr : ∀ i, i < s → row i < 4) (v1 : ∀ p q, p < s → q < s → lab p q < 4) : ∀ p q, p < s + 1 → q < s + 1 → gl s mir row lab p q < 4 := fun p q hp hq => by
  unfold gl
  by_cases e : q = s
  · rw [if_pos e]
    by_cases e2 : p = s
    · rw [if_pos e2]; decide
    · rw [if_neg e2]; exact hr p (by omega)
  · rw [if_neg e]
    by_cases e2 : p = s
    · rw [if_pos e2]; exact hm _ (hr q (by omega))
    · rw [if_neg e2]; exact v1 p q (by omega) (by omega)
/-- the old net again -/
theorem NetAt.back {c c' : gm} {row : Nat → Nat} (h : NetAt c r (s + 1) (gl s mir row lab)) (hf : Fr [r] c c') (h0 : c'.1 r 0 = nI s) : NetAt c' r s lab := ⟨h0, by have := h.2.1; omega, fun p q hp hq => by rw [hf.i (by simp), h.2.2.1 p q (by omega) (by omega), gl_lt hp hq], fun p hp => by rw [hf.i (by simp)]; exact h.2.2.2 p hp⟩
variable {fb : Bool} {fs : Nat} {fl : Nat → Nat → Nat}
/-- what is barred, in the class's memory -/
def BrC (c : gm) (fb : Bool) (fs : Nat) (fl : Nat → Nat → Nat) : Prop := c.1 1 3 = bI fb ∧ (fb = true → NetAt c 5 fs fl ∧ ∀ p q, p < fs → q < fs → fl p q < 4)
theorem BrC.fr {c c' : gm} {l : List Nat} (h : BrC c fb fs fl) (hf : Fr l c c') (h1 : 1 ∉ l) (h5 : 5 ∉ l) (h6 : 6 ∉ l) : BrC c' fb fs fl := ⟨by rw [hf.i h1]; exact h.1, fun e => ⟨(h.2 e).1.fr hf h5 h6, (h.2 e).2⟩⟩
def alw (fb : Bool) (fs : Nat) (fl : Nat → Nat → Nat) (s : Nat) (mir : Nat → Nat) (lab : Nat → Nat → Nat) (g : fT) : Bool := !brd fb fs fl (s + 1) (gl s mir g lab)
theorem c_isAllowed {a : Nat} (hla : lay[a]? = some (.inr (0, 6, []))) (ha : a ≠ 30 ∧ a ≠ 31) (hB : BrC c fb fs fl) (hT : Tab c 2 n mir N) (n1 : NetAt c 30 s lab) (hs : s < 6) (v1 : ∀ p q, p < s → q < s → lab p q < 4) (hrow : ∀ i, i < s → c.1 a i = nI (f i) ∧ f i < 4) {K : Int32 → gk_H → Prop} (k : ∀ c', Fr [25, 26, 27, 28, 30, 31] c c' → NetAt c' 30 s lab → K (bI (alw fb fs fl s mir lab f)) (Hm c')) : RnI E mX1_isAllowed (dd + 4, 0, 0) [.ref 29, .ref a] (Hm c) K := by
  have hm4 : ∀ a, a < 4 → mir a < 4 := fun a ha => (hT.2.2.2.2.2 a ha).2
  refine vX1_isAllowed_0 (ldR l29 rfl (ldR l29 rfl (ldR l1 rfl ⟨obj l30, c_grow ⟨l30, l31⟩ ⟨l2, l3⟩ (by decide) (by decide) hla ha.1 ha.2 hT.2.2.2.2.2 n1 hs hrow (fun c1 f1 g1 => ldR l29 rfl (ldR l29 rfl ⟨obj l25, ?_⟩))⟩)))
  have B1 := hB.fr f1 (by decide) (by decide) (by decide)
  refine c_isBarred (dd := dd) B1.1 (fun e => (B1.2 e).1) ⟨l30, l31⟩ (by decide) (by decide) (by decide) g1 (fun e => (B1.2 e).2) (gl_v hm4 (fun i hi => (hrow i hi).2) v1) (fun c2 f2 => ?_)
  have g2 := g1.fr f2 (by decide) (by decide)
  have f3 : Fr [25, 26, 27, 28, 30, 31] c c2 := (f1.mono (by simp)).trans (f2.mono (by simp))
  have fin : LdI (Hm c2) 30 3 0 fun v9 => StI (Hm c2) 30 3 0 (v9 - (nI 1)) fun h10 => K (bI (alw fb fs fl s mir lab f)) h10 := by
    refine ldI l30 rfl ?_
    rw [g2.1, nI_sub1 (by omega), Nat.add_sub_cancel]
    exact stI l30 rfl (k _ (f3.mI (by simp)) (g2.back (Fr.rf.mI (by simp)) mI_s))
  refine bBn (fun e => ldR l29 rfl ?_) (fun e => ldR l29 rfl ?_)
  · rw [alw, e] at fin
    exact fin
  · rw [alw, e] at fin
    exact fin
/-- the rows that fill a gap -/
def gfL (N n s : Nat) (mir : Nat → Nat) (lab : Nat → Nat → Nat) (g : Nat) : List fT := (rwL N n s lab).filter (fun f => f (g / 1000) == g / 10 % 10 && f (g / 100 % 10) == mir (g % 10))
def flL (fb : Bool) (fs : Nat) (fl : Nat → Nat → Nat) (N n s : Nat) (mir : Nat → Nat) (lab : Nat → Nat → Nat) (g : Nat) : List fT := (gfL N n s mir lab g).filter (alw fb fs fl s mir lab)
/-- what a gap's number says -/
theorem lkB_f (hG : Gd n mir N) (hv : Vl n mir s lab) {g : Nat} (h : lkB N n s lab g = true) : g / 1000 ≤ g / 100 % 10 ∧ g / 100 % 10 < s ∧ 1 ≤ g / 10 % 10 ∧ g / 10 % 10 < n ∧ 1 ≤ g % 10 ∧ g % 10 < n ∧ 1 ≤ mir (g % 10) ∧ mir (g % 10) < n ∧ (g / 1000 = g / 100 % 10 → g / 10 % 10 = mir (g % 10)) := by
  unfold lkB at h
  simp only [Bool.and_eq_true, decide_eq_true_eq] at h
  obtain ⟨⟨h1, h2, h3, h4⟩, h5⟩ := h
  unfold opP opR at h5
  simp only [Bool.and_eq_true, decide_eq_true_eq] at h5
  obtain ⟨⟨h6, h7⟩, h8⟩ := h5
  have n4 := hG.n4
  have e1 : (4 * (g / 10 % 10) + g % 10) / 4 = g / 10 % 10 := by omega
  have e2 : (4 * (g / 10 % 10) + g % 10) % 4 = g % 10 := by omega
  rw [e1, e2] at h6
  have b1 : 1 ≤ mir (g % 10) := by
    rcases Nat.eq_zero_or_pos (mir (g % 10)) with e | e
    · have := hG.mm _ h4
      rw [e, hG.m0] at this
      omega
    · exact e
  refine ⟨h1, h2, h6.1, h3, h6.2.2.1, h4, b1, hG.ml _ h4, fun e => ?_⟩
  have z := ((hv (g / 1000) (g / 100 % 10) (by omega) h2).2.1).mpr e
  rw [z, show 4 * (4 * (g / 10 % 10) + g % 10) + 0 = ix (g / 10 % 10) (g % 10) 0 from by unfold ix; omega, hG.f3 _ _ h3 h4] at h7
  have := of_decide_eq_true h7
  rw [this, hG.mm _ h3]
def gLo (mir : Nat → Nat) (g : Nat) : Nat → Nat := fun p => if p = g / 100 % 10 then mir (g % 10) else if p = g / 1000 then g / 10 % 10 else 1
def gHx (mir : Nat → Nat) (n g : Nat) : Nat → Nat := fun p => if p = g / 100 % 10 then mir (g % 10) + 1 else if p = g / 1000 then g / 10 % 10 + 1 else n
theorem gfL_en (hG : Gd n mir N) (hv : Vl n mir s lab) {g : Nat} (h : lkB N n s lab g = true) : en (vr (gLo mir g) (gHx mir n g)) (rgd N s lab) s (fun _ => 0) = gfL N n s mir lab g := by
  obtain ⟨h1, h2, h3, h4, h5, h6, h7, h8, h9⟩ := lkB_f hG hv h
  have e : vr (gLo mir g) (gHx mir n g) = fun p => (rg 1 n).filter (gpQ (g / 1000) (g / 100 % 10) (g / 10 % 10) (mir (g % 10)) p) := funext fun p => by
    unfold gLo gHx gpQ
    show rg (if p = g / 100 % 10 then mir (g % 10) else if p = g / 1000 then g / 10 % 10 else 1) (if p = g / 100 % 10 then mir (g % 10) + 1 else if p = g / 1000 then g / 10 % 10 + 1 else n) = _
    by_cases e1 : p = g / 100 % 10
    · rw [if_pos e1, if_pos e1, rg_one]
      refine (rg_filter ?_ (fun v hv => ?_) h8 _ 1 rfl h7).symm
      · by_cases e2 : p = g / 1000
        · simp [h9 (e2.symm.trans e1)]
        · simp [e2]
      · simp [e1] at hv
        exact hv.2
    · rw [if_neg e1, if_neg e1]
      by_cases e2 : p = g / 1000
      · rw [if_pos e2, if_pos e2, rg_one]
        refine (rg_filter ?_ (fun v hv => ?_) h4 _ 1 rfl h3).symm
        · simp [e1]
        · simp [e2] at hv
          exact hv.1
      · rw [if_neg e2, if_neg e2]
        symm
        rw [List.filter_eq_self]
        intro v hv
        simp [e1, e2]
  rw [e, ← en_wqA, en_wqB rgd_L]
  unfold gfL rwL
  refine List.filter_congr (fun f _ => ?_)
  exact gpQ_all (by omega) h2 f
abbrev rFl : List Nat := [25, 26, 27, 28, 30, 31, 33, 34, 35, 36]
theorem c_fway {r0 : Nat} (hG : Gd n mir N) (hv : Vl n mir s lab) {g : Nat} (hg : lkB N n s lab g = true) (hg2 : g < 2 ^ 31) (hs : s < 6) (hB : BrC c fb fs fl) (hT : Tab c 2 n mir N) (h0 : isNt r0) (d0 : r0 + 1 < 25) (n0 : NetAt c r0 s lab) {k : Int32} (hk : -1 ≤ k) {K : Int32 → gk_H → Prop} (kk : ∀ c', Fr rFl c c' → K (gAns k 0 ((flL fb fs fl N n s mir lab g).map (fun f => dgD 0 f s))) (Hm c')) : RnI E mX1_way (dd + 5, 0, 0) [.ref 29, .ref r0, .int (nI g), .int k] (Hm c) K := by
  have n4 := hG.n4
  have v1 : ∀ p q, p < s → q < s → lab p q < 4 := fun p q hp hq => Nat.lt_of_lt_of_le (hv p q hp hq).1 n4
  obtain ⟨h1, h2, h3, h4, h5, h6, h7, h8, h9⟩ := lkB_f hG hv hg
  obtain ⟨q1, q2, q3, q4⟩ := gdig hg2
  refine vX1_way_0 (ldR l29 rfl ⟨obj l30, c_become ⟨l30, l31⟩ h0 n0 (by omega) (by omega) (by omega) (fun c1 f1 g1 => ldR l29 rfl ⟨obj l33, ?_⟩)⟩)
  have T1 := hT.fr f1 (by decide) (by decide)
  refine c_spanAll isRw33 T1 g1 (fun c2 f2 e2 z2 => ldR l29 rfl ⟨obj l33, ?_⟩)
  rw [q1, q3]
  refine c_hold WI6 isRw33.wh (by omega) (fun c3 f3 o3 a3 b3 => ldR l29 rfl (ldR l29 rfl (ldR l1 rfl (ldR l2 rfl ?_))))
  rw [q4, q2]
  have T3 : Tab c3 2 n mir N := (T1.fr f2 (by decide) (by decide)).fr f3 (by decide) (by decide)
  refine alI l3 (by omega) (by decide) ?_
  rw [(T3.2.2.2.2.2 (g % 10) (by omega)).1]
  refine ⟨obj l33, c_hold WI6 isRw33.wh (by omega) (fun c4 f4 o4 a4 b4 => ldR l29 rfl ⟨obj l33, ?_⟩)⟩
  have F4 : Fr rFl c c4 := (((f1.mono (by simp)).trans (f2.mono (by simp))).trans (f3.mono (by simp))).trans (f4.mono (by simp))
  have T4 : Tab c4 2 n mir N := T3.fr f4 (by decide) (by decide)
  have g4 : NetAt c4 30 s lab := ((g1.fr f2 (by decide) (by decide)).fr f3 (by decide) (by decide)).fr f4 (by decide) (by decide)
  have Z4 : WZ c4 33 s (gLo mir g) (gHx mir n g) := ⟨by rw [f4.i (by decide), f3.i (by decide)]; exact e2, by omega, fun q hq => by
    unfold gLo gHx
    by_cases e1 : q = g / 100 % 10
    · rw [if_pos e1, if_pos e1, e1, a4, b4, nI_sub1 (by omega), Nat.add_sub_cancel]
      exact ⟨rfl, rfl, by omega, by omega⟩
    · rw [if_neg e1, if_neg e1, (o4 q e1).1, (o4 q e1).2]
      by_cases e2 : q = g / 1000
      · rw [if_pos e2, if_pos e2, e2, a3, b3, nI_sub1 (by omega), Nat.add_sub_cancel]
        exact ⟨rfl, rfl, by omega, by omega⟩
      · rw [if_neg e2, if_neg e2, (o3 q e2).1, (o3 q e2).2, (z2 q hq).1, (z2 q hq).2]
        exact ⟨rfl, rfl, by omega, by omega⟩⟩
  have hx4 : ∀ q, q < s → gHx mir n g q ≤ 4 := fun q hq => by
    unfold gHx
    split
    · omega
    · split
      · omega
      · exact n4
  have W := Wrw (E := E) (n := n) (mir := mir) (lo := gLo mir g) (N := N) isRw33 v1 hx4
  have eL := gfL_en hG hv hg
  refine c_first (dd := dd + 1) (f0 := fun _ => 0) WI6 isRw33.wh W Z4 ⟨g4, T4⟩ (fun he c5 f5 => ?_) (fun f hx0 he hBd hgd c5 f5 A5 R5 => ?_)
  · refine vX1_way_78 (bLe (fun z => absurd z (by omega)) (fun _ => ⟨fun _ => ?_, fun z => absurd rfl z⟩))
    have kk := kk c5 (F4.trans (f5.mono (by simp)))
    rw [flL, ← eL, he, List.filter_nil, List.map_nil, gAns_nil] at kk
    exact ⟨fun z => by rw [if_neg z] at kk; exact kk, fun z => by rw [if_pos z] at kk; exact kk⟩
  · have go : ∀ (RL : List fT) f c2 sn t, RL = af (gLo mir g) (gHx mir n g) (rgd N s lab) s 0 f → Bd s (gLo mir g) (gHx mir n g) f → (∀ q, q < s → rgd N s lab q f = true) → Fr rFl c c2 → WZ c2 33 s (gLo mir g) (gHx mir n g) → WA c2 33 s f → RwR 30 s lab n mir N c2 → t ≤ cdr f s → sn ≤ t → (k = -1 ∨ ∃ q, sn ≤ q ∧ q < 2 ^ 31 ∧ k = nI q) → (∀ c', Fr rFl c c' → K (gAns k sn (((f :: RL).filter (alw fb fs fl s mir lab)).map (fun f => dgD 0 f s))) (Hm c')) → pX1_way_78 E (dd + 4) 29 r0 (nI g) k (nI sn) (nI 1) (nI t) (Hm c2) K := by
      intro RL
      induction RL with
      | nil =>
        intro f c2 sn t he hBd hgd f2 Z2 A2 R2 ht hsn hk2 kk
        have hc := cdr_lt (f := f) s (fun q hq => by have := (hBd q hq).2; have := hx4 q hq; omega)
        have h2' : 6 ^ s ≤ 6 ^ 6 := Nat.pow_le_pow_right (by decide) (by omega)
        have h3 : (6 : Nat) ^ 6 = 46656 := by decide
        refine vX1_way_78 (bLe (fun z => absurd z (by omega)) (fun _ => ⟨fun z => absurd z (by decide), fun _ => ldR l29 rfl (ldR l33 rfl ⟨obj l29, ?_⟩)⟩))
        refine c_isAllowed (dd := dd) (f := f) l34 (by decide) (hB.fr f2 (by decide) (by decide) (by decide)) R2.2 R2.1 hs v1 (fun i hi => ⟨A2 i hi, by have := (hBd i hi).2; have := hx4 i hi; omega⟩) (fun c3 f3 g3 => ?_)
        have F3 : Fr rFl c c3 := f2.trans (f3.mono (by simp))
        have Z3 := Z2.fr f3 (by decide) (by decide) (by decide)
        have A3 := A2.fr f3 (by decide)
        have R3 : RwR 30 s lab n mir N c3 := ⟨g3, R2.2.fr f3 (by decide) (by decide)⟩
        have nx : ∀ sn', sn' ≤ t + 1 → (∀ c', Fr rFl c c' → K (gAns k sn' []) (Hm c')) → RnI E mX10_next (dd + 4, 0, 0) [.ref 33] (Hm c3) (fun v5 h5 => pX1_way_78 E (dd + 4) 29 r0 (nI g) k (nI sn') v5 (nI (t + 1)) h5 K) := by
          intro sn' hsn' kk
          refine c_next (dd := dd + 1) WI6 isRw33.wh W hx0 Z3 A3 hBd R3 hgd (fun he2 c4 f4 => ?_) (fun g2 he2 => absurd (he.trans he2) (by simp))
          refine vX1_way_78 (bLe (fun z => absurd z (by omega)) (fun _ => ⟨fun _ => ?_, fun z => absurd rfl z⟩))
          have kk := kk c4 (F3.trans (f4.mono (by simp)))
          rw [gAns_nil] at kk
          exact ⟨fun z => by rw [if_neg z] at kk; exact kk, fun z => by rw [if_pos z] at kk; exact kk⟩
        simp only [nI_add]
        refine bB0 (fun e => ldR l29 rfl ⟨obj l33, nx sn (by omega) ?_⟩) (fun e => ⟨fun ne => ldR l29 rfl ⟨obj l33, nx (sn + 1) (by omega) ?_⟩, fun eq => ldR l29 rfl ⟨obj l33, ?_⟩⟩)
        · rw [List.filter_cons, if_neg (by rw [e]; decide), List.filter_nil, List.map_nil] at kk
          exact kk
        · rw [List.filter_cons, if_pos e, List.filter_nil, List.map_cons, List.map_nil, gAns_skip (by
            rcases hk2 with h | ⟨q, a1, a2, h⟩
            · exact Or.inl h
            · refine Or.inr ⟨q, ?_, a2, h⟩
              rcases Nat.lt_or_eq_of_le a1 with a | a
              · exact a
              · exact absurd (by rw [h, a]) ne)] at kk
          exact kk
        · have kk := kk c3 F3
          rw [← eq, List.filter_cons, if_pos e, List.map_cons, gAns_hit (by omega)] at kk
          exact c_digits WI6 isRw33.wh Z3.1 (by omega) A3 kk
      | cons f9 RL ih =>
        intro f c2 sn t he hBd hgd f2 Z2 A2 R2 ht hsn hk2 kk
        have hc := cdr_lt (f := f) s (fun q hq => by have := (hBd q hq).2; have := hx4 q hq; omega)
        have h2' : 6 ^ s ≤ 6 ^ 6 := Nat.pow_le_pow_right (by decide) (by omega)
        have h3 : (6 : Nat) ^ 6 = 46656 := by decide
        refine vX1_way_78 (bLe (fun z => absurd z (by omega)) (fun _ => ⟨fun z => absurd z (by decide), fun _ => ldR l29 rfl (ldR l33 rfl ⟨obj l29, ?_⟩)⟩))
        refine c_isAllowed (dd := dd) (f := f) l34 (by decide) (hB.fr f2 (by decide) (by decide) (by decide)) R2.2 R2.1 hs v1 (fun i hi => ⟨A2 i hi, by have := (hBd i hi).2; have := hx4 i hi; omega⟩) (fun c3 f3 g3 => ?_)
        have F3 : Fr rFl c c3 := f2.trans (f3.mono (by simp))
        have Z3 := Z2.fr f3 (by decide) (by decide) (by decide)
        have A3 := A2.fr f3 (by decide)
        have R3 : RwR 30 s lab n mir N c3 := ⟨g3, R2.2.fr f3 (by decide) (by decide)⟩
        have nx : ∀ sn', sn' ≤ t + 1 → (k = -1 ∨ ∃ q, sn' ≤ q ∧ q < 2 ^ 31 ∧ k = nI q) → (∀ c', Fr rFl c c' → K (gAns k sn' (((f9 :: RL).filter (alw fb fs fl s mir lab)).map (fun f => dgD 0 f s))) (Hm c')) → RnI E mX10_next (dd + 4, 0, 0) [.ref 33] (Hm c3) (fun v5 h5 => pX1_way_78 E (dd + 4) 29 r0 (nI g) k (nI sn') v5 (nI (t + 1)) h5 K) := by
          intro sn' hsn' hk3 kk
          refine c_next (dd := dd + 1) WI6 isRw33.wh W hx0 Z3 A3 hBd R3 hgd (fun he2 => absurd (he.trans he2) (by simp)) (fun g2 he2 hB3 hg3 hlt c4 f4 A4 R4 => ?_)
          have e4 := he.trans he2
          rw [List.cons.injEq] at e4
          obtain ⟨e5, e6⟩ := e4
          subst e5
          exact ih f9 c4 sn' (t + 1) e6 hB3 hg3 (F3.trans (f4.mono (by simp))) (Z3.fr f4 (by decide) (by decide) (by decide)) A4 R4 (by omega) hsn' hk3 kk
        simp only [nI_add]
        refine bB0 (fun e => ldR l29 rfl ⟨obj l33, nx sn (by omega) hk2 ?_⟩) (fun e => ⟨fun ne => ?_, fun eq => ldR l29 rfl ⟨obj l33, ?_⟩⟩)
        · rw [List.filter_cons, if_neg (by rw [e]; decide)] at kk
          exact kk
        · have sk : k = -1 ∨ ∃ q, sn < q ∧ q < 2 ^ 31 ∧ k = nI q := by
            rcases hk2 with h | ⟨q, a1, a2, h⟩
            · exact Or.inl h
            · refine Or.inr ⟨q, ?_, a2, h⟩
              rcases Nat.lt_or_eq_of_le a1 with a | a
              · exact a
              · exact absurd (by rw [h, a]) ne
          rw [List.filter_cons, if_pos e, List.map_cons, gAns_skip sk] at kk
          exact ldR l29 rfl ⟨obj l33, nx (sn + 1) (by omega) sk kk⟩
        · have kk := kk c3 F3
          rw [← eq, List.filter_cons, if_pos e, List.map_cons, gAns_hit (by omega)] at kk
          exact c_digits WI6 isRw33.wh Z3.1 (by omega) A3 kk
    refine go _ f c5 0 0 rfl hBd hgd (F4.trans (f5.mono (by simp))) (Z4.fr f5 (by decide) (by decide) (by decide)) A5 R5 (Nat.zero_le _) (Nat.le_refl _) ?_ (fun c' f' => ?_)
    · rcases ge_m1 hk with h | ⟨q, a, h⟩
      · exact Or.inl h
      · exact Or.inr ⟨q, Nat.zero_le _, a, h⟩
    · have kk := kk c' f'
      rw [flL, ← eL, he] at kk
      exact kk
def sp_fi (fb : Bool) (fs : Nat) (fl : Nat → Nat → Nat) (n : Nat) (mir : Nat → Nat) (N : Nat) (sz : szT) (lb : lbT) (net x k : Int32) : Int32 := if inR net 0 (3 : Nat) = true ∧ -1 ≤ k then (if lkX N n (sz (w net)) (lb (w net)) x = true then (if usF N (sz (w net)) (lb (w net)) = none then (if sz (w net) < 6 then gAns k 0 ((flL fb fs fl N n (sz (w net)) mir (lb (w net)) (w x)).map (fun f => dgD 0 f (sz (w net)))) else -4) else -3) else -2) else -1
theorem orN_5 {u : Option Nat} {A B : Prop} (hu : ∀ v, u = some v → v < 2 ^ 31) (f : u = none → A) (g : ¬ u = none → B) : (orN u = -5 → A) ∧ (¬ orN u = -5 → B) := by
  cases u with
  | none => exact ⟨fun _ => f rfl, fun z => absurd rfl z⟩
  | some v => exact ⟨fun z => absurd z (nI_ne5 (hu v rfl)), fun _ => g (by simp)⟩
theorem ffrom_ex {α : Type} {m : Nat} {g : Nat → Option α} {a : Nat} {v : α} (h : ffrom m g a = some v) : ∃ q, q < m ∧ g q = some v := by
  unfold ffrom at h
  obtain ⟨q, hq, e⟩ := List.exists_of_findSome?_eq_some h
  exact ⟨q, List.mem_range.mp (List.mem_of_mem_drop hq), e⟩
theorem usF_lt (hs : s ≤ 6) : ∀ v, usF N s lab = some v → v < 2 ^ 31 := fun v h => by
  obtain ⟨i, hi, h⟩ := ffrom_ex h
  obtain ⟨j, hj, h⟩ := ffrom_ex h
  obtain ⟨k, hk, h⟩ := ffrom_ex h
  unfold usK at h
  split at h
  · exact absurd h (by simp)
  · rw [Option.some.injEq] at h
    omega
theorem lkX_f {x : Int32} (h : lkX N n s lab x = true) : ∃ g, g < 2 ^ 31 ∧ x = nI g ∧ lkB N n s lab g = true := by
  unfold lkX at h
  rcases neg_or (x := x) with e | ⟨q, hq, e⟩
  · rw [if_pos e] at h; exact absurd h (by decide)
  · subst e
    rw [if_neg (nI_nn hq), w_nI hq] at h
    exact ⟨q, hq, rfl, h⟩
theorem c_fills {sz : szT} {lb : lbT} (hG : Gd n mir N) (hV : VV n mir sz lb) (hN : NN c sz lb) (hB : BrC c fb fs fl) (hT : Tab c 2 n mir N) {net x k : Int32} {K : Int32 → gk_H → Prop} (kk : ∀ c', Fr rFl c c' → K (sp_fi fb fs fl n mir N sz lb net x k) (Hm c')) : RnI E mX11_fills (dd + 6, 0, 0) [.ref 0, .int net, .int x, .int k] (Hm c) K := by
  unfold sp_fi at kk
  have n4 := hG.n4
  refine vX11_fills_0 (c_isNet (rng (by decide) (fun h => ?_) (fun j hj hx h => ⟨fun hk => ldR l0 rfl (ldR l1 rfl ?_), fun hk => ?_⟩)))
  · have kk := kk c Fr.rf
    rw [if_neg (by rw [h]; simp)] at kk
    exact kk
  · rw [if_pos ⟨h, hk⟩] at kk
    subst hx
    rw [w_nI (by omega)] at kk
    have hv := hV j hj
    have v1 : ∀ p q, p < sz j → q < sz j → lb j p q < 4 := fun p q hp hq => Nat.lt_of_lt_of_le (hv p q hp hq).1 n4
    refine alR (t := 0) l4 hj (by decide) (nets_at j hj) (ldR l0 rfl (ldR l1 rfl ⟨obj (isNt_net hj).1, c_lacks (isNt_net hj) ⟨l2, l3⟩ hT (hN j hj) v1 ?_⟩))
    refine bBn (fun e => ldR l0 rfl (ldR l1 rfl ⟨obj (isNt_net hj).1, c_unsound (isNt_net hj) ⟨l2, l3⟩ hT (hN j hj) v1 ?_⟩)) (fun e => ?_)
    · rw [if_pos e] at kk
      refine orN_5 (usF_lt (hN j hj).2.1) (fun u => ldI (isNt_net hj).1 rfl ?_) (fun u => ?_)
      · rw [if_pos u] at kk
        rw [(hN j hj).1]
        have := (hN j hj).2.1
        refine bLt (fun h6 => ldR l0 rfl ⟨obj l29, ?_⟩) (fun h6 => ?_)
        · rw [if_pos h6] at kk
          obtain ⟨g, hg, rfl, hl⟩ := lkX_f e
          rw [w_nI hg] at kk
          exact c_fway hG hv hl hg h6 hB hT (isNt_net hj) (by omega) (hN j hj) hk kk
        · have kk := kk c Fr.rf
          rw [if_neg (by omega)] at kk
          exact kk
      · have kk := kk c Fr.rf
        rw [if_neg u] at kk
        exact kk
    · have kk := kk c Fr.rf
      rw [if_neg (by rw [e]; decide)] at kk
      exact kk
  · have kk := kk c Fr.rf
    rw [if_neg (fun z => hk z.2)] at kk
    exact kk
end RW
