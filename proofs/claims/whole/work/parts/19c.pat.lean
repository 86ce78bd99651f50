/-! patterns: the class -/
theorem dgD_cg {u v : Nat} {f g : fT} : ∀ m, (∀ q, q < m → f q + u = g q + v) → dgD u f m = dgD v g m
  | 0, _ => rfl
  | m + 1, h => by
    unfold dgD
    rw [dgD_cg m (fun q hq => h q (by omega)), h m (by omega)]
theorem dgD_lt {u : Nat} {f : fT} : ∀ m, (∀ q, q < m → f q + u ≤ 9) → dgD u f m < 10 ^ m
  | 0, _ => Nat.zero_lt_one
  | m + 1, h => by
    unfold dgD
    have h1 := dgD_lt m (fun q hq => h q (by omega))
    have h2 : (f m + u) * 10 ^ m ≤ 9 * 10 ^ m := Nat.mul_le_mul_right _ (h m (by omega))
    rw [Nat.pow_succ]
    omega
theorem dgD_dig {h : fT} : ∀ m, (∀ q, q < m → h q ≤ 9) → ∀ k, k < m → dgD 0 h m / 10 ^ k % 10 = h k
  | 0, _, k, hk => absurd hk (Nat.not_lt_zero _)
  | m + 1, hh, k, hk => by
    unfold dgD
    have h1 := dgD_lt (u := 0) (f := h) m (fun q hq => hh q (by omega))
    by_cases e : k = m
    · subst e
      rw [Nat.add_mul_div_right _ _ (Nat.pow_pos (by decide)), Nat.div_eq_of_lt h1, Nat.zero_add, Nat.add_zero]
      exact Nat.mod_eq_of_lt (by have := hh k (by omega); omega)
    · have e2 : 10 ^ m = 10 ^ (m - k - 1) * 10 * 10 ^ k := by
        rw [← Nat.pow_succ, ← Nat.pow_add]
        congr 1
        omega
      rw [e2, ← Nat.mul_assoc, Nat.add_mul_div_right _ _ (Nat.pow_pos (by decide)), ← Nat.mul_assoc, Nat.add_mul_mod_self_right]
      exact dgD_dig m (fun q hq => hh q (by omega)) k (by omega)
theorem dgD_up {h : fT} {p v : Nat} (h0 : h p = 0) : ∀ m, dgD 0 (fup h p v) m = dgD 0 h m + (if p < m then v * 10 ^ p else 0)
  | 0 => rfl
  | m + 1 => by
    unfold dgD
    rw [dgD_up h0 m]
    by_cases e : p = m
    · subst e
      rw [fup_s, h0, if_neg (Nat.lt_irrefl _), if_pos (by omega)]
      simp only [Nat.add_zero, Nat.zero_mul]
    · rw [fup_n _ _ (fun z => e z.symm)]
      by_cases e2 : p < m
      · rw [if_pos e2, if_pos (by omega)]; omega
      · rw [if_neg e2, if_neg (by omega)]; omega
theorem en_len {vs : Nat → List Nat} {gd : gT} (hv : ∀ q, (vs q).length ≤ 6) : ∀ p f, (en vs gd p f).length ≤ 6 ^ p
  | 0, f => Nat.le_refl _
  | p + 1, f => by
    unfold en
    have : ∀ (l : List Nat) (F : Nat → List fT), (∀ v, (F v).length ≤ 6 ^ p) → (l.flatMap F).length ≤ l.length * 6 ^ p := by
      intro l F hF
      induction l with
      | nil => simp
      | cons a t ih =>
        rw [List.flatMap_cons, List.length_append, List.length_cons, Nat.add_mul, Nat.one_mul]
        have := hF a
        omega
    refine Nat.le_trans (this _ _ (fun v => ?_)) ?_
    · split
      · exact en_len hv p _
      · exact Nat.zero_le _
    · rw [Nat.pow_succ, Nat.mul_comm (6 ^ p) 6]
      exact Nat.mul_le_mul_right _ (hv p)
theorem rg_len {a b : Nat} : (rg a b).length = b - a := by unfold rg; simp
/-- node p lies as the others do -/
def pgd (m : Nat) (sl bl : Nat → Nat → Nat) : gT := fun p f => (List.range m).all (fun q => decide (q ≤ p) || (f p != f q && sl p q == bl (f p) (f q)))
theorem pgd_i {m : Nat} {sl bl : Nat → Nat → Nat} {p : Nat} {f : fT} : pgd m sl bl p f = true ↔ ∀ q, p < q → q < m → f p ≠ f q ∧ sl p q = bl (f p) (f q) := by
  unfold pgd
  rw [List.all_eq_true]
  constructor
  · intro h q h1 h2
    have := h q (List.mem_range.mpr h2)
    simp only [Bool.or_eq_true, decide_eq_true_eq, Bool.and_eq_true, bne_iff_ne, beq_iff_eq] at this
    rcases this with e | e
    · omega
    · exact e
  · intro h q hq
    simp only [Bool.or_eq_true, decide_eq_true_eq, Bool.and_eq_true, bne_iff_ne, beq_iff_eq]
    by_cases e : q ≤ p
    · exact Or.inl e
    · exact Or.inr (h q (by omega) (List.mem_range.mp hq))
theorem pgd_L {m : Nat} {sl bl : Nat → Nat → Nat} : Lk (pgd m sl bl) := fun p f g h => by
  have : ∀ f g : fT, (∀ q, p ≤ q → f q = g q) → pgd m sl bl p f = true → pgd m sl bl p g = true := fun f g h h1 => by
    rw [pgd_i] at h1 ⊢
    intro q h2 h3
    rw [← h p (Nat.le_refl _), ← h q (by omega)]
    exact h1 q h2 h3
  exact Bool.eq_iff_iff.mpr ⟨this f g h, this g f (fun q hq => (h q hq).symm)⟩
theorem pgd_f {m : Nat} {sl bl : Nat → Nat → Nat} {p q : Nat} {f : fT} (h1 : p < q) (h2 : q < m) (h : f p = f q ∨ sl p q ≠ bl (f p) (f q)) : pgd m sl bl p f = false := by
  cases e : pgd m sl bl p f
  · rfl
  · have := pgd_i.mp e q h1 h2
    rcases h with h | h
    · exact absurd h this.1
    · exact absurd this.2 h
theorem isWh25 : isWh 25 4 := ⟨⟨_, l25⟩, l26, l27, l28⟩
theorem WI4 : WI mX4_clash 4 := ⟨Or.inl rfl, cuX10_34_4, by decide⟩
/-- the nets that are looked at -/
def PtR (r1 s1 : Nat) (sl : Nat → Nat → Nat) (r2 s2 : Nat) (bl : Nat → Nat → Nat) (c : gm) : Prop := c.2.2 25 5 = r1 ∧ c.2.2 25 6 = r2 ∧ NetAt c r1 s1 sl ∧ NetAt c r2 s2 bl
section PT
variable {E : gk_E} {dd : Nat} {c : gm} {r1 s1 r2 s2 : Nat} {sl bl : Nat → Nat → Nat} {f : fT}
theorem c_pcl1 (h1 : isNt r1) (h2 : isNt r2) (hR : PtR r1 s1 sl r2 s2 bl c) (v1 : ∀ p q, p < s1 → q < s1 → sl p q < 4) (v2 : ∀ p q, p < s2 → q < s2 → bl p q < 4) (hS : c.1 25 0 = nI s1) (hA : WA c 25 s1 f) (hb : ∀ q, q < s1 → f q < s2) {x1 : Int32} {K : Int32 → gk_H → Prop} {p : Nat} (hp : p < s1) (k1 : pgd s1 sl bl p f = false → K (nI p) (Hm c)) (k2 : pgd s1 sl bl p f = true → pX4_clash_2 E dd 25 x1 (nI p + (-1)) (Hm c) K) : pX4_clash_2 E dd 25 x1 (nI p) (Hm c) K := by
  obtain ⟨g1, g2, n1, n2⟩ := hR
  have m6 := n1.2.1
  have b6 := n2.2.1
  refine vX4_clash_2 ⟨fun z => absurd z (nI_nn (by omega)), fun _ => ?_⟩
  rw [nI_add]
  refine downF (P := fun q => (∀ j, p < j → j < q → f p ≠ f j ∧ sl p j = bl (f p) (f j)) → pX4_clash_10 E dd 25 x1 (nI p) (nI q) (Hm c) K) (p + 1) s1 (by omega) ?_ ?_ (fun j a1 a2 => absurd a1 (by omega))
  · intro ha
    refine vX4_clash_10 (ldI l25 rfl ?_)
    rw [hS]
    exact bLe (fun _ => k2 (pgd_i.mpr ha)) (fun z => absurd z (by omega))
  · intro q hq1 hq2 ih ha
    refine vX4_clash_10 (ldI l25 rfl ?_)
    rw [hS]
    have b0 := hb p hp
    have bq := hb q hq2
    refine bLe (fun z => absurd z (by omega)) (fun _ => ldM l25 rfl ?_)
    rw [g2]
    refine ldR h2.1 rfl (ldR l25 rfl (alI l26 (by omega) (by decide) (ldR l25 rfl (alI l26 (by omega) (by decide) ?_))))
    rw [hA p hp, hA q hq2, pk_mul, nI_add]
    refine alI h2.2 (by omega) (by decide) (ldR l25 rfl (alI l26 (by omega) (by decide) (ldR l25 rfl (alI l26 (by omega) (by decide) ?_))))
    rw [hA p hp, hA q hq2, n2.2.2.1 _ _ b0 bq]
    refine bEq (fun e => k1 (pgd_f (by omega) hq2 (Or.inl e))) (fun e => ldM l25 rfl ?_) (by omega) (by omega)
    rw [g1, pk_mul, nI_add]
    refine ldR h1.1 rfl (alI h1.2 (by omega) (by decide) ?_)
    rw [n1.2.2.1 p q hp hq2, nI_add]
    have w1 := v1 p q hp hq2
    have w2 := v2 (f p) (f q) b0 bq
    refine bEq (fun e2 => ih (fun j a1 a2 => ?_)) (fun e2 => k1 (pgd_f (by omega) hq2 (Or.inr e2))) (by omega) (by omega)
    by_cases ej : j = q
    · subst ej; exact ⟨e, e2⟩
    · exact ha j a1 (by omega)
theorem c_pclash (h1 : isNt r1) (h2 : isNt r2) (hR : PtR r1 s1 sl r2 s2 bl c) (v1 : ∀ p q, p < s1 → q < s1 → sl p q < 4) (v2 : ∀ p q, p < s2 → q < s2 → bl p q < 4) (hS : c.1 25 0 = nI s1) (hA : WA c 25 s1 f) (hb : ∀ q, q < s1 → f q < s2) {x1 : Int32} {K : Int32 → gk_H → Prop} : ∀ p, p < s1 → (∀ r, p < r → r < s1 → pgd s1 sl bl r f = true) → (∀ q, q ≤ p → pgd s1 sl bl q f = false → (∀ r, q < r → r < s1 → pgd s1 sl bl r f = true) → K (nI q) (Hm c)) → ((∀ q, q < s1 → pgd s1 sl bl q f = true) → K (-1) (Hm c)) → pX4_clash_2 E dd 25 x1 (nI p) (Hm c) K := by
  intro p
  induction p with
  | zero =>
    intro hp hg k1 k2
    refine c_pcl1 h1 h2 hR v1 v2 hS hA hb hp (fun e => k1 0 (Nat.le_refl _) e hg) (fun e => vX4_clash_2 ⟨fun _ => k2 (fun q hq => ?_), fun z => absurd (by decide) z⟩)
    by_cases e0 : q = 0
    · subst e0; exact e
    · exact hg q (by omega) hq
  | succ p ih =>
    intro hp hg k1 k2
    refine c_pcl1 h1 h2 hR v1 v2 hS hA hb hp (fun e => k1 _ (Nat.le_refl _) e hg) (fun e => ?_)
    rw [pk_m1]
    refine ih (by omega) (fun r a1 a2 => ?_) (fun q hq => k1 q (by omega)) k2
    by_cases e0 : r = p + 1
    · subst e0; exact e
    · exact hg r (by omega) a2
theorem Wpt (h1 : isNt r1) (h2 : isNt r2) (d1 : r1 ≠ 26) (d2 : r1 ≠ 25) (d3 : r2 ≠ 26) (d4 : r2 ≠ 25) (v1 : ∀ p q, p < s1 → q < s1 → sl p q < 4) (v2 : ∀ p q, p < s2 → q < s2 → bl p q < 4) : Wcl E mX4_clash 0 25 s1 (fun _ => 0) (fun _ => s2) (pgd s1 sl bl) [] (fun _ _ => PtR r1 s1 sl r2 s2 bl) := by
  refine ⟨fun p f r g c c' h _ _ hf => ?_, fun c f p hZ hA hB hR hp hg dd K k1 k2 => ?_, fun c dd K k => ?_, pgd_L, by simp, by simp, by simp, by simp⟩
  · obtain ⟨g1, g2, n1, n2⟩ := h
    exact ⟨by rw [hf.r (by simp)]; exact g1, by rw [hf.r (by simp)]; exact g2, n1.fr hf (by simp <;> omega) (by simp <;> omega), n2.fr hf (by simp <;> omega) (by simp <;> omega)⟩
  · exact vX4_clash_0 (c_pclash h1 h2 hR v1 v2 hZ.1 hA (fun q hq => (hB q hq).2) p hp hg (fun q a1 a2 a3 => k1 q a1 a2 a3 c Fr.rf hR) (fun a => k2 a c Fr.rf hR))
  · exact vX4_clash_0 (vX4_clash_2 ⟨fun _ => k, fun z => absurd (by decide) z⟩)
theorem mR_n {c : gm} {r k r' k' x : Nat} (h : ¬ (r' = r ∧ k' = k)) : (mR c r k x).2.2 r' k' = c.2.2 r' k' := by simp only [mR, if_neg h]
/-- the wheels of patterns stand for r1 in r2 -/
theorem c_look (h1 : isNt r1) (h2 : isNt r2) (d2 : r1 ≠ 25) (d4 : r2 ≠ 25) (d5 : ∀ q, q ∈ [r1, r1 + 1, r2, r2 + 1] → q ∉ [25, 27, 28]) (n1 : NetAt c r1 s1 sl) (n2 : NetAt c r2 s2 bl) {K : gk_H → Prop} (k : ∀ c', Fr [25, 27, 28] c c' → WZ c' 25 s1 (fun _ => 0) (fun _ => s2) → PtR r1 s1 sl r2 s2 bl c' → K (Hm c')) : RnV E mX4_look (dd + 1, 0, 0) [.ref 25, .ref r1, .ref r2] (Hm c) K := by
  have m6 := n1.2.1
  have b6 := n2.2.1
  refine vX4_look_0 (stR l25 rfl (stR l25 rfl (ldM l25 rfl ?_)))
  rw [mR_n (by omega), mR_s]
  refine ldI h1.1 rfl (ldM l25 rfl ?_)
  rw [mR_s]
  refine ldI h2.1 rfl ⟨obj l25, ?_⟩
  have f0 : Fr [25, 27, 28] c (mR (mR c 25 5 r1) 25 6 r2) := (Fr.rf.mR (by simp)).mR (by simp)
  have e1 : (mR (mR c 25 5 r1) 25 6 r2).1 r1 0 = nI s1 := n1.1
  have e2 : (mR (mR c 25 5 r1) 25 6 r2).1 r2 0 = nI s2 := n2.1
  rw [e1, e2]
  refine c_span WI4 isWh25 m6 (fun c1 f1 _ f2 f3 f4 => ?_)
  have f5 : Fr [25, 27, 28] c c1 := f0.trans f1
  refine k c1 f5 ⟨f3, m6, fun q hq => ⟨(f4 q hq).1, (f4 q hq).2, Nat.zero_le _, b6⟩⟩ ⟨?_, ?_, n1.fr f5 (d5 _ (by simp)) (d5 _ (by simp)), n2.fr f5 (d5 _ (by simp)) (d5 _ (by simp))⟩
  · rw [f2, mR_n (by omega), mR_s]
  · rw [f2, mR_s]
/-- the ways in which one net lies in another -/
def ocL (s1 : Nat) (sl : Nat → Nat → Nat) (s2 : Nat) (bl : Nat → Nat → Nat) : List fT := en (fun _ => rg 0 s2) (pgd s1 sl bl) s1 (fun _ => 0)
theorem gAns_hit {s x : Nat} {R : List Nat} (hs : s < 2 ^ 31) : gAns (nI s) s (x :: R) = nI x := by
  unfold gAns
  rw [if_neg (nI_ne1 hs), w_nI hs, Nat.sub_self]
  rfl
theorem gAns_skip {k : Int32} {s x : Nat} {R : List Nat} (hk : k = -1 ∨ ∃ q, s < q ∧ q < 2 ^ 31 ∧ k = nI q) : gAns k s (x :: R) = gAns k (s + 1) R := by
  unfold gAns
  rcases hk with h | ⟨q, h1, h2, h⟩
  · rw [if_pos h, if_pos h, List.length_cons]
    congr 1
    omega
  · subst h
    rw [if_neg (nI_ne1 h2), if_neg (nI_ne1 h2), w_nI h2, show q - s = (q - (s + 1)) + 1 by omega, List.getElem?_cons_succ]
theorem gAns_nil {k : Int32} {s : Nat} : gAns k s [] = if k = -1 then nI s else -1 := by
  unfold gAns
  rw [List.length_nil, Nat.add_zero]
  rfl
theorem c_pway (h1 : isNt r1) (h2 : isNt r2) (d1 : r1 ≠ 26) (d3 : r2 ≠ 26) (d2 : r1 ≠ 25) (d4 : r2 ≠ 25) (d5 : ∀ q, q ∈ [r1, r1 + 1, r2, r2 + 1] → q ∉ [25, 27, 28]) (n1 : NetAt c r1 s1 sl) (n2 : NetAt c r2 s2 bl) (v1 : ∀ p q, p < s1 → q < s1 → sl p q < 4) (v2 : ∀ p q, p < s2 → q < s2 → bl p q < 4) {k : Int32} (hk : -1 ≤ k) {K : Int32 → gk_H → Prop} (kk : ∀ c', Fr [25, 26, 27, 28] c c' → K (gAns k 0 ((ocL s1 sl s2 bl).map (fun g => dgD 1 g s1))) (Hm c')) : RnI E mX4_way (dd + 3, 0, 0) [.ref 25, .ref r1, .ref r2, .int k] (Hm c) K := by
  refine vX4_way_0 ⟨obj l25, c_look h1 h2 d2 d4 d5 n1 n2 (fun c1 f1 Z1 R1 => ⟨obj l25, ?_⟩)⟩
  have m6 := n1.2.1
  have W := Wpt (E := E) h1 h2 d1 d2 d3 d4 v1 v2
  have f1' : Fr [25, 26, 27, 28] c c1 := f1.mono (by simp)
  refine c_first (dd := dd) (f0 := fun _ => 0) WI4 isWh25 W Z1 R1 (fun he c2 f2 => ?_) (fun g hx0 he hB hg c2 f2 A2 R2 => ?_)
  · refine vX4_way_18 (bLe (fun z => absurd z (by omega)) (fun _ => ⟨fun _ => ?_, fun z => absurd rfl z⟩))
    have kk := kk c2 (f1'.trans (f2.mono (by simp)))
    rw [show ocL s1 sl s2 bl = [] from he, List.map_nil, gAns_nil] at kk
    exact ⟨fun z => by rw [if_neg z] at kk; exact kk, fun z => by rw [if_pos z] at kk; exact kk⟩
  · have go : ∀ (RL : List fT) g c2 s, RL = af (fun _ => 0) (fun _ => s2) (pgd s1 sl bl) s1 0 g → Bd s1 (fun _ => 0) (fun _ => s2) g → (∀ q, q < s1 → pgd s1 sl bl q g = true) → Fr [25, 26, 27, 28] c c2 → WZ c2 25 s1 (fun _ => 0) (fun _ => s2) → WA c2 25 s1 g → PtR r1 s1 sl r2 s2 bl c2 → s ≤ cdr g s1 → (k = -1 ∨ ∃ q, s ≤ q ∧ q < 2 ^ 31 ∧ k = nI q) → (∀ c', Fr [25, 26, 27, 28] c c' → K (gAns k s ((g :: RL).map (fun g => dgD 1 g s1))) (Hm c')) → pX4_way_18 E (dd + 2) 25 r1 r2 k (nI s) (nI 1) (nI s) (Hm c2) K := by
      intro RL
      induction RL with
      | nil =>
        intro g c2 s he hB hg f2 Z2 A2 R2 hs hk2 kk
        have hc := cdr_lt (f := g) s1 (fun q hq => Nat.lt_of_lt_of_le (hB q hq).2 n2.2.1)
        have h2' : 6 ^ s1 ≤ 6 ^ 6 := Nat.pow_le_pow_right (by decide) m6
        have h3 : (6 : Nat) ^ 6 = 46656 := by decide
        refine vX4_way_18 (bLe (fun z => absurd z (by omega)) (fun _ => ⟨fun z => absurd z (by decide), fun _ => ⟨fun e => ⟨obj l25, ?_⟩, fun e => ⟨obj l25, ?_⟩⟩⟩))
        · refine c_next (dd := dd) WI4 isWh25 W hx0 Z2 A2 hB R2 hg (fun he2 c3 f3 => ?_) (fun g2 he2 => absurd (he.trans he2) (by simp))
          simp only [nI_add]
          refine vX4_way_18 (bLe (fun z => absurd z (by omega)) (fun _ => ⟨fun _ => ?_, fun z => absurd rfl z⟩))
          have kk := kk c3 (f2.trans (f3.mono (by simp)))
          rw [List.map_cons, List.map_nil, gAns_skip (by
            rcases hk2 with h | ⟨q, a1, a2, h⟩
            · exact Or.inl h
            · refine Or.inr ⟨q, ?_, a2, h⟩
              rcases Nat.lt_or_eq_of_le a1 with a | a
              · exact a
              · exact absurd (by rw [h, a]) e), gAns_nil] at kk
          exact ⟨fun z => by rw [if_neg z] at kk; exact kk, fun z => by rw [if_pos z] at kk; exact kk⟩
        · have kk := kk c2 f2
          rw [← e, List.map_cons, gAns_hit (by omega)] at kk
          exact c_digits WI4 isWh25 Z2.1 m6 A2 kk
      | cons g2 RL ih =>
        intro g c2 s he hB hg f2 Z2 A2 R2 hs hk2 kk
        have hc := cdr_lt (f := g) s1 (fun q hq => Nat.lt_of_lt_of_le (hB q hq).2 n2.2.1)
        have h2' : 6 ^ s1 ≤ 6 ^ 6 := Nat.pow_le_pow_right (by decide) m6
        have h3 : (6 : Nat) ^ 6 = 46656 := by decide
        refine vX4_way_18 (bLe (fun z => absurd z (by omega)) (fun _ => ⟨fun z => absurd z (by decide), fun _ => ⟨fun e => ⟨obj l25, ?_⟩, fun e => ⟨obj l25, ?_⟩⟩⟩))
        · have sk : k = -1 ∨ ∃ q, s < q ∧ q < 2 ^ 31 ∧ k = nI q := by
            rcases hk2 with h | ⟨q, a1, a2, h⟩
            · exact Or.inl h
            · refine Or.inr ⟨q, ?_, a2, h⟩
              rcases Nat.lt_or_eq_of_le a1 with a | a
              · exact a
              · exact absurd (by rw [h, a]) e
          refine c_next (dd := dd) WI4 isWh25 W hx0 Z2 A2 hB R2 hg (fun he2 => absurd (he.trans he2) (by simp)) (fun g3 he2 hB3 hg3 hlt c3 f3 A3 R3 => ?_)
          have e4 := he.trans he2
          rw [List.cons.injEq] at e4
          obtain ⟨e5, e6⟩ := e4
          subst e5
          simp only [nI_add]
          refine ih g2 c3 (s + 1) e6 hB3 hg3 (f2.trans (f3.mono (by simp))) (Z2.fr f3 (by simp) (by simp) (by simp)) A3 R3 (by omega) ?_ (fun c' f' => ?_)
          · rcases sk with h | ⟨q, a1, a2, h⟩
            · exact Or.inl h
            · exact Or.inr ⟨q, by omega, a2, h⟩
          · have kk := kk c' f'
            rw [List.map_cons, gAns_skip sk] at kk
            exact kk
        · have kk := kk c2 f2
          rw [← e, List.map_cons, gAns_hit (by omega)] at kk
          exact c_digits WI4 isWh25 Z2.1 m6 A2 kk
    refine go _ g c2 0 rfl hB hg (f1'.trans (f2.mono (by simp))) (Z1.fr f2 (by simp) (by simp) (by simp)) A2 R2 (Nat.zero_le _) ?_ (fun c' f' => ?_)
    · rcases ge_m1 hk with h | ⟨q, a, h⟩
      · exact Or.inl h
      · exact Or.inr ⟨q, Nat.zero_le _, a, h⟩
    · have kk := kk c' f'
      rw [show ocL s1 sl s2 bl = _ from he] at kk
      exact kk
/-- whether a pattern lies in a net -/
def brd (fb : Bool) (fs : Nat) (fl : Nat → Nat → Nat) (s : Nat) (lab : Nat → Nat → Nat) : Bool := fb && (fs != 0 && !(ocL fs fl s lab).isEmpty)
theorem en_sound {vs : Nat → List Nat} {gd : gT} {g : fT} (hL : Lk gd) : ∀ m f, g ∈ en vs gd m f → (∀ q, m ≤ q → g q = f q) ∧ ∀ q, q < m → g q ∈ vs q ∧ gd q g = true
  | 0, f, h => by
    rw [en, List.mem_singleton] at h
    subst h
    exact ⟨fun _ _ => rfl, fun q hq => absurd hq (Nat.not_lt_zero _)⟩
  | m + 1, f, h => by
    rw [en, List.mem_flatMap] at h
    obtain ⟨v, hv, h⟩ := h
    by_cases e : gd m (fup f m v) = true
    · rw [if_pos e] at h
      obtain ⟨a1, a2⟩ := en_sound hL m _ h
      refine ⟨fun q hq => by rw [a1 q (by omega), fup_n _ _ (by omega)], fun q hq => ?_⟩
      by_cases eq : q = m
      · subst eq
        refine ⟨by rw [a1 q (Nat.le_refl _), fup_s]; exact hv, ?_⟩
        rw [hL q g _ a1]; exact e
      · exact a2 q (by omega)
    · rw [if_neg e] at h
      exact absurd h (by simp)
theorem ocL_big (h : s2 < s1) : ocL s1 sl s2 bl = [] := by
  cases e : ocL s1 sl s2 bl with
  | nil => rfl
  | cons g t =>
    obtain ⟨_, a⟩ := en_sound (vs := fun _ => rg 0 s2) (gd := pgd s1 sl bl) (g := g) pgd_L s1 (fun _ => 0) (by
      have : g ∈ ocL s1 sl s2 bl := by rw [e]; exact List.mem_cons_self
      exact this)
    obtain ⟨i, j, h1, h2, h3⟩ := php s2 g (fun i hi => ((rg_mem _ 0 rfl).mp (a i (by omega)).1).2)
    exact absurd h3 (pgd_i.mp (a i (by omega)).2 j h1 (by omega)).1
theorem c_isBarred {fb : Bool} {fs : Nat} {fl : Nat → Nat → Nat} (hb : c.1 1 3 = bI fb) (hbar : fb = true → NetAt c 5 fs fl) (h2 : isNt r2) (d3 : r2 ≠ 26) (d4 : r2 ≠ 25) (d5 : ∀ q, q ∈ [r2, r2 + 1] → q ∉ [25, 27, 28]) (n2 : NetAt c r2 s2 bl) (v1 : fb = true → ∀ p q, p < fs → q < fs → fl p q < 4) (v2 : ∀ p q, p < s2 → q < s2 → bl p q < 4) {K : Int32 → gk_H → Prop} (k : ∀ c', Fr [25, 26, 27, 28] c c' → K (bI (brd fb fs fl s2 bl)) (Hm c')) : RnI E mX4_isBarred (dd + 3, 0, 0) [.ref 25, .ref r2] (Hm c) K := by
  have b6 := n2.2.1
  refine vX4_isBarred_0 (ldR l25 rfl (ldI l1 rfl ?_))
  rw [hb]
  refine bB0 (fun e => ⟨fun _ => ?_, fun z => absurd rfl z⟩) (fun e => ldR l25 rfl (ldR l1 rfl (ldI l5 rfl ?_)))
  · subst e; exact k c Fr.rf
  · have n1 := hbar e
    subst e
    have m6 := n1.2.1
    rw [n1.1]
    refine bE0 (fun e => ?_) (fun e => ldI h2.1 rfl ?_)
    · subst e; exact k c Fr.rf
    · rw [n2.1]
      refine bLe (fun e2 => ldR l25 rfl (ldR l1 rfl ⟨obj l25, ?_⟩)) (fun e2 => ?_)
      · refine c_look ⟨l5, l6⟩ h2 (by decide) d4 (fun q hq => ?_) n1 n2 (fun c1 f1 Z1 R1 => ⟨obj l25, ?_⟩)
        · simp only [List.mem_cons, List.not_mem_nil, or_false] at hq
          rcases hq with hq | hq | hq | hq
          · subst hq; decide
          · subst hq; decide
          · exact d5 q (by simp [hq])
          · exact d5 q (by simp [hq])
        · have W := Wpt (E := E) (r1 := 5) ⟨l5, l6⟩ h2 (by decide) (by decide) d3 d4 (v1 rfl) v2
          have f1' : Fr [25, 26, 27, 28] c c1 := f1.mono (by simp)
          refine c_first (dd := dd) (f0 := fun _ => 0) WI4 isWh25 W Z1 R1 (fun he c2 f2 => ?_) (fun g hx0 he hB hg c2 f2 A2 R2 => ?_)
          · have k := k c2 (f1'.trans (f2.mono (by simp)))
            rw [brd, show ocL fs fl s2 bl = [] from he] at k
            refine ⟨Or.inl rfl, ?_⟩
            rw [show (true && (fs != 0 && !([] : List fT).isEmpty)) = false by simp] at k
            exact k
          · have k := k c2 (f1'.trans (f2.mono (by simp)))
            rw [brd, show ocL fs fl s2 bl = _ from he] at k
            refine ⟨Or.inr rfl, ?_⟩
            rw [show (fs != 0) = true by simpa using e] at k
            exact k
      · have k := k c Fr.rf
        rw [brd, ocL_big e2, show (true && (fs != 0 && !([] : List fT).isEmpty)) = false by simp] at k
        exact k
def sp_oc (sz : szT) (lb : lbT) (net oth k : Int32) : Int32 := if inR net 0 (3 : Nat) = true ∧ inR oth 0 (3 : Nat) = true ∧ -1 ≤ k then gAns k 0 ((ocL (sz (w net)) (lb (w net)) (sz (w oth)) (lb (w oth))).map (fun g => dgD 1 g (sz (w net)))) else -1
theorem c_occurs {sz : szT} {lb : lbT} (hN : NN c sz lb) (hv : ∀ j, j < 3 → ∀ p q, p < sz j → q < sz j → lb j p q < 4) {x y k : Int32} {K : Int32 → gk_H → Prop} (kk : ∀ c', Fr [25, 26, 27, 28] c c' → K (sp_oc sz lb x y k) (Hm c')) : RnI E mX11_occurs (dd + 4, 0, 0) [.ref 0, .int x, .int y, .int k] (Hm c) K := by
  unfold sp_oc at kk
  refine vX11_occurs_0 (c_isNet (rng (by decide) (fun h => ?_) (fun j hj hx h => c_isNet (rng (by decide) (fun h2 => ?_) (fun i hi hy h2 => ⟨fun hk => ldR l0 rfl (ldR l0 rfl (ldR l1 rfl ?_)), fun hk => ?_⟩)))))
  · have kk := kk c Fr.rf
    rw [if_neg (by rw [h]; simp)] at kk
    exact kk
  · have kk := kk c Fr.rf
    rw [if_neg (by rw [h2]; simp)] at kk
    exact kk
  · rw [if_pos ⟨h, h2, hk⟩] at kk
    subst hx hy
    rw [w_nI (by omega), w_nI (by omega)] at kk
    refine alR (t := 0) l4 hj (by decide) (nets_at j hj) (ldR l0 rfl (ldR l1 rfl (alR (t := 0) l4 hi (by decide) (nets_at i hi) ⟨obj l25, ?_⟩)))
    exact c_pway (isNt_net hj) (isNt_net hi) (by omega) (by omega) (by omega) (by omega) (fun q hq => by simp at hq ⊢; omega) (hN j hj) (hN i hi) (hv j hj) (hv i hi) hk kk
  · have kk := kk c Fr.rf
    rw [if_neg (fun z => hk z.2.2)] at kk
    exact kk
end PT
