/-! patterns: the reference -/
theorem itd_nI {D : Nat} (hD : D < 2 ^ 31) : ∀ k, itd (nI D) k = nI (D / 10 ^ k)
  | 0 => by rw [itd, Nat.pow_zero, Nat.div_one]
  | k + 1 => by
    rw [itd, itd_nI hD k, pk_div (Nat.lt_of_le_of_lt (Nat.div_le_self _ _) hD) (by decide) (by decide), Nat.div_div_eq_div_mul, Nat.pow_succ]
theorem rm_nI {D k : Nat} (hD : D < 2 ^ 31) : rm10 (itd (nI D) k) = nI (D / 10 ^ k % 10) := by
  rw [itd_nI hD, rm10, pk_rem (Nat.lt_of_le_of_lt (Nat.div_le_self _ _) hD) (by decide) (by decide)]
theorem p10 {m : Nat} (h : m ≤ 6) : 10 ^ m ≤ 1000000 := Nat.le_trans (Nat.pow_le_pow_right (by decide) h) (by decide)
section SK
variable {E : gk_E} {dd : Nat} {c : gm} {i j m s : Nat} {sl bl : Nat → Nat → Nat} {f h : fT}
theorem n_isLike (hi : i < 6) (hj : j < 6) (n1 : MNet c i m sl) (n2 : MNet c j s bl) (z1 : ∀ p, p < m → sl p p = 0) (z2 : ∀ p, p < s → bl p p = 0) (v1 : ∀ p q, p < m → q < m → sl p q < 4) (v2 : ∀ p q, p < s → q < s → bl p q < 4) {p v : Nat} (hp : p < m) (hvs : v < s) (hf : ∀ q, p < q → q < m → f q < s) (hh : ∀ q, q < m → h q ≤ 9 ∧ (p < q → h q = f q + 1)) {K : Int32 → gk_H → Prop} (k : K (bI (pgd m sl bl p (fup f p v))) (Hm c)) : RnI E mX12_isLike (dd + 1, 0, 0) [.ref 68, .int (nI i), .int (nI j), .int (nI p), .int (nI v), .int (nI (dgD 0 h m))] (Hm c) K := by
  have m6 := n1.2.1
  have b6 := n2.2.1
  have hD : dgD 0 h m < 2 ^ 31 := by
    have a := dgD_lt (u := 0) (f := h) m (fun q hq => (hh q hq).1)
    have b := p10 m6
    omega
  refine vX12_isLike_0 (ldR l68 rfl (alI l71 (by omega) (by decide) ?_))
  rw [n1.1]
  have go : ∀ u t, t = p + 1 + u → t ≤ m → (∀ q, t ≤ q → q < m → v ≠ f q ∧ sl p q = bl v (f q)) → pX12_isLike_14 E dd 68 (nI i) (nI j) (nI p) (nI v) (nI (dgD 0 h m)) (nI (dgD 0 h m)) (nI t - nI 1) (Hm c) K := by
    intro u
    induction u with
    | zero =>
      intro t ht htm ha
      subst ht
      rw [nI_sub1 (by omega), show p + 1 + 0 - 1 = p by omega]
      refine vX12_isLike_14 (bLe (fun _ => ?_) (fun z => absurd z (by omega)))
      rw [show pgd m sl bl p (fup f p v) = true from pgd_i.mpr (fun q a1 a2 => by rw [fup_s, fup_n _ _ (by omega)]; exact ha q (by omega) a2)] at k
      exact k
    | succ u ih =>
      intro t ht htm ha
      obtain ⟨q, hq⟩ : ∃ q, t = q + 1 := ⟨t - 1, by omega⟩
      subst hq
      rw [nI_sub1 (by omega), Nat.add_sub_cancel]
      refine vX12_isLike_14 (bLe (fun z => absurd z (by omega)) (fun _ => n_digit (by omega) ?_))
      have fq := hf q (by omega) (by omega)
      rw [rm_nI hD, dgD_dig m (fun q hq => (hh q hq).1) q (by omega), (hh q (by omega)).2 (by omega), nI_sub1 (by omega), Nat.add_sub_cancel]
      have bad : (v = f q ∨ sl p q ≠ bl v (f q)) → K (nI 0) (Hm c) := fun e => by
        rw [show pgd m sl bl p (fup f p v) = false from pgd_f (q := q) (by omega) (by omega) (by rw [fup_s, fup_n _ _ (by omega)]; exact e)] at k
        exact k
      refine bEq (fun e => bad (Or.inl e.symm)) (fun e => ⟨obj l68, n_labelOf hi n1 z1 hp (by omega) ⟨obj l68, n_labelOf hj n2 z2 hvs fq ?_⟩⟩)
      have w1 := v1 p q hp (by omega)
      have w2 := v2 v (f q) hvs fq
      refine bEq (fun e2 => ?_) (fun e2 => bad (Or.inr e2))
      rw [show (nI q + -1 : Int32) = nI q - nI 1 from by rw [Int32.sub_eq_add_neg]; rfl]
      refine ih q (by omega) (by omega) (fun r a1 a2 => ?_)
      by_cases er : r = q
      · subst er; exact ⟨fun z => e z.symm, e2⟩
      · exact ha r (by omega) a2
  exact go (m - (p + 1)) m (by omega) (Nat.le_refl _) (fun q a1 a2 => absurd a1 (by omega))
/-- the sought one among the numbers L, s seen before -/
def skK (c : gm) (k : Int32) (s : Nat) (L : List Nat) (K : Int32 → gk_H → Prop) : Prop := ((∀ i, i < L.length → k ≠ nI (s + i)) → ∀ c', F8 [] [10, 12] c c' → c'.1 68 10 = nI (s + L.length) → c'.1 68 12 = -5 → K (nI 0) (Hm c')) ∧ ∀ i x, L[i]? = some x → k = nI (s + i) → ∀ c', F8 [] [10, 12] c c' → c'.1 68 12 = nI x → K (nI 1) (Hm c')
theorem nI_ne5 {q : Nat} (h : q < 2 ^ 31) : ¬ nI q = -5 := fun z => by
  have h1 : (nI q).toInt = (q : Int) := nI_toInt h
  rw [z] at h1
  have h2 : ((-5 : Int32)).toInt = -5 := by decide
  omega
theorem n_seeks (hi : i < 6) (hj : j < 6) (n1 : MNet c i m sl) (n2 : MNet c j s bl) (z1 : ∀ p, p < m → sl p p = 0) (z2 : ∀ p, p < s → bl p p = 0) (v1 : ∀ p q, p < m → q < m → sl p q < 4) (v2 : ∀ p q, p < s → q < s → bl p q < 4) {k : Int32} : ∀ p, p ≤ m → ∀ dd c1 f h sn pwr (K : Int32 → gk_H → Prop), (∀ p', p = p' + 1 → pwr = 10 ^ p') → F8 [] [10, 12] c c1 → c1.1 68 11 = k → c1.1 68 10 = nI sn → c1.1 68 12 = -5 → sn + (en (fun _ => rg 0 s) (pgd m sl bl) p f).length < 2 ^ 31 → (∀ q, p ≤ q → q < m → f q < s) → (∀ q, q < m → h q ≤ 9 ∧ (p ≤ q → h q = f q + 1) ∧ (q < p → h q = 0)) → skK c1 k sn ((en (fun _ => rg 0 s) (pgd m sl bl) p f).map (fun g => dgD 1 g m)) K → RnI E mX12_seeks (dd + p + 2, 0, 0) [.ref 68, .int (nI i), .int (nI j), .int (nI p - nI 1), .int (nI pwr), .int (nI (dgD 0 h m))] (Hm c1) K := by
  have m6 := n1.2.1
  have b6 := n2.2.1
  intro p
  induction p with
  | zero =>
    intro _ dd c1 f h sn pwr K _ f1 e1 e2 e3 hb hf hh hk
    refine vX12_seeks_0 ⟨fun z => absurd z (by decide), fun _ => ldI l68 rfl (ldI l68 rfl ?_)⟩
    rw [e1, e2]
    have hb : sn + 1 < 2 ^ 31 := hb
    have eD : dgD 0 h m = dgD 1 f m := dgD_cg m (fun q hq => (hh q hq).2.1 (Nat.zero_le _))
    have hD : dgD 0 h m < 2 ^ 31 := by
      have a := dgD_lt (u := 0) (f := h) m (fun q hq => (hh q hq).1)
      have b := p10 m6
      omega
    refine ⟨fun ne => ldI l68 rfl (stI l68 rfl (ldI l68 rfl ?_)), fun eq => stI l68 rfl (ldI l68 rfl ?_)⟩
    · rw [mI_n (by omega), e2, e3, nI_add]
      refine stI l68 rfl (ldI l68 rfl ?_)
      rw [mI_n (by omega), mI_s]
      refine ⟨fun _ => hk.1 (fun i hi => ?_) _ ((F8.rf.slot (by simp)).slot (by simp)) mI_s (by rw [mI_n (by omega), mI_s]), fun z => absurd rfl z⟩
      rw [show i = 0 from by
        have : i < 1 := hi
        omega]
      exact fun z => ne z.symm
    · rw [mI_n (by omega), e2, nI_add]
      refine stI l68 rfl (ldI l68 rfl ?_)
      rw [mI_n (by omega), mI_s]
      refine ⟨fun z => absurd z (nI_ne5 hD), fun _ => hk.2 0 (dgD 1 f m) rfl eq.symm _ ((F8.rf.slot (by simp)).slot (by simp)) (by rw [mI_n (by omega), mI_s, eD])⟩
  | succ p ih =>
    intro hp dd c1 f h sn pwr K hpw f1 e1 e2 e3 hb hf hh hk
    rw [nI_sub1 (by omega), Nat.add_sub_cancel]
    refine vX12_seeks_0 ⟨fun _ => ?_, fun z => absurd (nI_le0 (by omega)) z⟩
    have pw : 10 ^ p ≤ 1000000 := p10 (by omega)
    have hD : dgD 0 h m < 10 ^ m := dgD_lt (u := 0) (f := h) m (fun q hq => (hh q hq).1)
    have hD2 := p10 m6
    rw [hpw p rfl]
    have go : ∀ v, v ≤ s → ∀ c2 sn, F8 [] [10, 12] c1 c2 → c2.1 68 10 = nI sn → c2.1 68 12 = -5 → sn + ((rg v s).flatMap (sv (fun _ => rg 0 s) (pgd m sl bl) p f)).length < 2 ^ 31 → skK c2 k sn (((rg v s).flatMap (sv (fun _ => rg 0 s) (pgd m sl bl) p f)).map (fun g => dgD 1 g m)) K → pX12_seeks_56 E (dd + p + 2) 68 (nI i) (nI j) (nI p) (nI (10 ^ p)) (nI (dgD 0 h m)) (nI v) (Hm c2) K := by
      refine down (n := s) ?_ ?_
      · intro c2 sn f2 e2 e3 hb hk
        have fc : Fr [68] c c2 := f1.1.trans f2.1
        refine vX12_seeks_56 (ldR l68 rfl (alI l71 (by omega) (by decide) ?_))
        rw [(n2.fr fc (by decide) (by decide)).1]
        refine bLe (fun _ => ?_) (fun z => absurd z (by omega))
        rw [rg_nil (Nat.le_refl _), List.flatMap_nil, List.map_nil] at hk
        exact hk.1 (fun i hi => absurd hi (Nat.not_lt_zero _)) c2 F8.rf (by rw [e2]; rfl) e3
      · intro v hv ihv c2 sn f2 e2 e3 hb hk
        have fc : Fr [68] c c2 := f1.1.trans f2.1
        refine vX12_seeks_56 (ldR l68 rfl (alI l71 (by omega) (by decide) ?_))
        rw [(n2.fr fc (by decide) (by decide)).1]
        refine bLe (fun z => absurd z (by omega)) (fun _ => ⟨obj l68, n_isLike (f := f) (h := h) hi hj (n1.fr fc (by decide) (by decide)) (n2.fr fc (by decide) (by decide)) z1 z2 v1 v2 (p := p) (v := v) (by omega) hv (fun q a1 a2 => hf q (by omega) a2) (fun q hq => ⟨(hh q hq).1, fun a => (hh q hq).2.1 (by omega)⟩) ?_⟩)
        rw [rg_cons hv, List.flatMap_cons] at hb hk
        refine bB0 (fun e => ?_) (fun e => ⟨obj l68, ?_⟩)
        · rw [nI_add]
          rw [show sv (fun _ => rg 0 s) (pgd m sl bl) p f v = [] from by unfold sv; rw [if_neg (by rw [e]; decide)], List.nil_append] at hb hk
          exact ihv c2 sn f2 e2 e3 hb hk
        · rw [show sv (fun _ => rg 0 s) (pgd m sl bl) p f v = en (fun _ => rg 0 s) (pgd m sl bl) p (fup f p v) from if_pos e] at hb hk
          rw [List.length_append] at hb
          rw [List.map_append] at hk
          have e11 : c2.1 68 11 = k := by rw [f2.2 11 (by decide)]; exact e1
          have hu := dgD_up (h := h) (p := p) (v := v + 1) ((hh p (by omega)).2.2 (by omega)) m
          rw [if_pos (by omega), Nat.mul_comm] at hu
          rw [pk_div (by omega) (by decide) (by decide)]
          simp only [pk_mul, nI_add]
          rw [← hu]
          refine ih (by omega) dd c2 (fup f p v) (fup h p (v + 1)) sn _ _ (fun p' hp' => ?_) (f1.trans f2) e11 e2 e3 (by omega) (fun q a1 a2 => ?_) (fun q hq => ⟨?_, fun a => ?_, fun a => ?_⟩) ⟨fun hn c3 f3 b1 b2 => ⟨fun _ => ?_, fun z => absurd rfl z⟩, fun i x hx hki c3 f3 b2 => ⟨fun z => absurd z (by decide), fun _ => ?_⟩⟩
          · subst hp'
            rw [Nat.pow_succ, Nat.mul_div_cancel _ (by decide)]
          · unfold fup
            by_cases eq : q = p
            · rw [if_pos eq]; exact hv
            · rw [if_neg eq]; exact hf q (by omega) a2
          · unfold fup
            by_cases eq : q = p
            · rw [if_pos eq]; omega
            · rw [if_neg eq]; exact (hh q hq).1
          · unfold fup
            by_cases eq : q = p
            · rw [if_pos eq, if_pos eq]
            · rw [if_neg eq, if_neg eq]; exact (hh q hq).2.1 (by omega)
          · rw [fup_n _ _ (by omega)]; exact (hh q hq).2.2 (by omega)
          · rw [List.length_map] at hn b1
            refine ihv c3 _ (f2.trans f3) b1 b2 (by omega) ⟨fun hn2 c4 f4 b3 b4 => hk.1 (fun i hi => ?_) c4 (f3.trans f4) ?_ b4, fun i x hx hki c4 f4 b3 => hk.2 ((en (fun _ => rg 0 s) (pgd m sl bl) p (fup f p v)).length + i) x ?_ ?_ c4 (f3.trans f4) b3⟩
            · rw [List.length_append, List.length_map] at hi
              by_cases e4 : i < (en (fun _ => rg 0 s) (pgd m sl bl) p (fup f p v)).length
              · exact hn i e4
              · have := hn2 (i - (en (fun _ => rg 0 s) (pgd m sl bl) p (fup f p v)).length) (by omega)
                rw [show sn + (en (fun _ => rg 0 s) (pgd m sl bl) p (fup f p v)).length + (i - (en (fun _ => rg 0 s) (pgd m sl bl) p (fup f p v)).length) = sn + i by omega] at this
                exact this
            · rw [b3]; simp only [List.length_append, List.length_map]; congr 1; omega
            · rw [List.getElem?_append_right (by rw [List.length_map]; omega), List.length_map, Nat.add_sub_cancel_left]; exact hx
            · rw [hki]; congr 1; omega
          · refine hk.2 i x ?_ hki c3 f3 b2
            rw [List.getElem?_append_left (by
              have := (List.getElem?_eq_some_iff.mp hx).1
              exact this)]
            exact hx
    exact go 0 (Nat.zero_le _) c1 sn F8.rf e2 e3 hb hk
theorem F8.o {l ks : List Nat} {c c' : gm} (h : F8 l ks c c') {k : Nat} (hk : k ∉ ks) : c'.1 68 k = c.1 68 k := h.2 k hk
/-- what was looked for: how many were seen, the one that was sought -/
def lkK (c : gm) (k : Int32) (L : List Nat) (K : gk_H → Prop) : Prop := ((∀ i, i < L.length → k ≠ nI i) → ∀ c', F8 [] [10, 11, 12] c c' → c'.1 68 10 = nI L.length → c'.1 68 12 = -5 → K (Hm c')) ∧ ∀ i x, L[i]? = some x → k = nI i → x < 2 ^ 31 → ∀ c', F8 [] [10, 11, 12] c c' → c'.1 68 12 = nI x → K (Hm c')
theorem ocL_dg {x a : Nat} (b6 : s ≤ 6) (m6 : m ≤ 6) (hx : ((ocL m sl s bl).map (fun g => dgD 1 g m))[a]? = some x) : x < 2 ^ 31 := by
  have := List.mem_of_getElem? hx
  rw [List.mem_map] at this
  obtain ⟨g, hg, rfl⟩ := this
  obtain ⟨_, h⟩ := en_sound pgd_L m _ hg
  have h1 := dgD_lt (u := 1) (f := g) m (fun q hq => by
    have := (rg_mem _ 0 rfl).mp (h q hq).1
    omega)
  have := p10 m6
  omega
theorem n_looks (hi : i < 6) (hj : j < 6) (n1 : MNet c i m sl) (n2 : MNet c j s bl) (z1 : ∀ p, p < m → sl p p = 0) (z2 : ∀ p, p < s → bl p p = 0) (v1 : ∀ p q, p < m → q < m → sl p q < 4) (v2 : ∀ p q, p < s → q < s → bl p q < 4) {k : Int32} {K : gk_H → Prop} (hk : lkK c k ((ocL m sl s bl).map (fun g => dgD 1 g m)) K) : RnV E mX12_looks (dd + 9, 0, 0) [.ref 68, .int (nI i), .int (nI j), .int k] (Hm c) K := by
  have m6 := n1.2.1
  have b6 := n2.2.1
  refine vX12_looks_0 (stI l68 rfl (stI l68 rfl (stI l68 rfl ?_)))
  have f0 : F8 [] [10, 11, 12] c (mI (mI (mI c 68 10 (nI 0)) 68 11 k) 68 12 (-5)) := ((F8.rf.slot (by simp)).slot (by simp)).slot (by simp)
  generalize hc1 : mI (mI (mI c 68 10 (nI 0)) 68 11 k) 68 12 (-5) = c1 at f0
  have e1 : c1.1 68 11 = k := by rw [← hc1, mI_n (by omega), mI_s]
  have e2 : c1.1 68 10 = nI 0 := by rw [← hc1, mI_n (by omega), mI_n (by omega), mI_s]
  have e3 : c1.1 68 12 = -5 := by rw [← hc1, mI_s]
  have n1' := n1.fr f0.1 (by decide) (by decide)
  have n2' := n2.fr f0.1 (by decide) (by decide)
  have fin : ∀ t pwr, m ≤ t → (∀ p', m = p' + 1 → pwr = 10 ^ p') → t < 2 ^ 31 → pX12_looks_22 E (dd + 8) 68 (nI i) (nI j) k (nI pwr) (nI t) (Hm c1) K := by
    intro t pwr ht hpw ht2
    refine vX12_looks_22 (ldR l68 rfl (alI l71 (by omega) (by decide) ?_))
    rw [n1'.1]
    refine bLe (fun _ => ldR l68 rfl (alI l71 (by omega) (by decide) ?_)) (fun z => absurd z (by omega))
    rw [n1'.1]
    refine ⟨obj l68, ?_⟩
    have hlen := en_len (vs := fun _ => rg 0 s) (gd := pgd m sl bl) (fun q => by rw [rg_len]; omega) m (fun _ => 0)
    have h6 : 6 ^ m ≤ 6 ^ 6 := Nat.pow_le_pow_right (by decide) m6
    have h7 : (6 : Nat) ^ 6 = 46656 := by decide
    have hd : dd + 8 = (dd + (6 - m)) + m + 2 := by omega
    rw [hd, show nI 0 = nI (dgD 0 (fun _ => 0) m) from by
      congr 1
      have : ∀ m, dgD 0 (fun _ => 0) m = 0 := fun m => by
        induction m with
        | zero => rfl
        | succ m ih => rw [dgD, ih]; simp
      exact (this m).symm]
    refine n_seeks hi hj n1' n2' z1 z2 v1 v2 m (Nat.le_refl _) _ c1 (fun _ => 0) (fun _ => 0) 0 pwr _ hpw F8.rf e1 e2 e3 (by omega) (fun q a1 a2 => absurd a1 (by omega)) (fun q hq => ⟨by omega, fun a => absurd a (by omega), fun _ => rfl⟩) ⟨fun hn c2 f2 a1 a2 => ?_, fun a x hx hka c2 f2 a2 => ?_⟩
    · refine hk.1 (fun a ha => ?_) c2 (f0.trans (f2.mono (by simp) (by simp))) ?_ a2
      · have := hn a ha
        rw [Nat.zero_add] at this
        exact this
      · rw [a1, Nat.zero_add]; rfl
    · rw [Nat.zero_add] at hka
      exact hk.2 a x hx hka (ocL_dg b6 m6 hx) c2 (f0.trans (f2.mono (by simp) (by simp))) a2
  by_cases hm : m ≤ 1
  · refine fin 1 1 hm (fun p' hp' => ?_) (by decide)
    rw [show p' = 0 by omega]
  · have go := downF (P := fun t => pX12_looks_22 E (dd + 8) 68 (nI i) (nI j) k (nI (10 ^ (t - 1))) (nI t) (Hm c1) K) 1 m (by omega) (fin m _ (Nat.le_refl _) (fun p' hp' => by rw [hp', Nat.add_sub_cancel]) (by omega)) (fun t h1 h2 ih => by
      refine vX12_looks_22 (ldR l68 rfl (alI l71 (by omega) (by decide) ?_))
      rw [n1'.1]
      refine bLe (fun z => absurd z (by omega)) (fun _ => ?_)
      rw [pk_mul, nI_add, ← Nat.pow_succ, show (t - 1).succ = t + 1 - 1 by omega]
      exact ih)
    exact go
end SK
section BR
variable {E : gk_E} {dd : Nat} {c : gm} {j s : Nat} {bl : Nat → Nat → Nat} {fb : Bool} {fs : Nat} {fl : Nat → Nat → Nat}
theorem n_isBarred (hj : j < 6) (hb : c.1 68 5 = bI fb) (hbar : fb = true → MNet c 3 fs fl) (n2 : MNet c j s bl) (z1 : fb = true → ∀ p, p < fs → fl p p = 0) (z2 : ∀ p, p < s → bl p p = 0) (v1 : fb = true → ∀ p q, p < fs → q < fs → fl p q < 4) (v2 : ∀ p q, p < s → q < s → bl p q < 4) {K : Int32 → gk_H → Prop} (k : ∀ c', F8 [] [10, 11, 12] c c' → K (bI (brd fb fs fl s bl)) (Hm c')) : RnI E mX12_isBarred (dd + 10, 0, 0) [.ref 68, .int (nI j)] (Hm c) K := by
  refine vX12_isBarred_0 (ldI l68 rfl ?_)
  rw [hb]
  refine bB0 (fun e => ?_) (fun e => ldR l68 rfl (alI l71 (by decide) (by decide) ?_))
  · subst e; exact k c F8.rf
  · have n1 := hbar e
    subst e
    have m6 := n1.2.1
    rw [n1.1]
    refine bN0 (fun e => ⟨obj l68, n_looks (by decide) hj n1 n2 (z1 rfl) z2 (v1 rfl) v2 ⟨fun hn c1 f1 a1 a2 => ldI l68 rfl ?_, fun a x hx hka hx2 c1 f1 a2 => ldI l68 rfl ?_⟩⟩) (fun e => ?_)
    · rw [a2]
      refine ⟨fun _ => ?_, fun z => absurd rfl z⟩
      have k := k c1 f1
      cases e3 : ocL fs fl s bl with
      | nil =>
        rw [brd, e3, show (true && (fs != 0 && !([] : List fT).isEmpty)) = false by simp] at k
        exact k
      | cons g t => exact absurd rfl (hn 0 (by rw [e3]; simp))
    · rw [a2]
      refine ⟨fun z => absurd z (nI_ne5 hx2), fun _ => ?_⟩
      have k := k c1 f1
      have ne : ocL fs fl s bl ≠ [] := fun z => by rw [z] at hx; exact absurd hx (by simp)
      rw [brd, show (fs != 0) = true by simpa using e, show (ocL fs fl s bl).isEmpty = false from by simpa using ne] at k
      exact k
    · subst e; exact k c F8.rf
variable {sz : szT} {lb : lbT}
theorem n_occurs (hN : MN c sz lb) (hz : ∀ j, j < 3 → ∀ p, p < sz j → lb j p p = 0) (hv : ∀ j, j < 3 → ∀ p q, p < sz j → q < sz j → lb j p q < 4) {x y k : Int32} {K : Int32 → gk_H → Prop} (kk : ∀ c', F8 [] [10, 11, 12] c c' → K (sp_oc sz lb x y k) (Hm c')) : RnI E mX12_occurs (dd + 10, 0, 0) [.ref 68, .int x, .int y, .int k] (Hm c) K := by
  unfold sp_oc at kk
  refine vX12_occurs_0 (n_isNet (rng (by decide) (fun h => ?_) (fun j hj hx h => n_isNet (rng (by decide) (fun h2 => ?_) (fun i hi hy h2 => ⟨fun hk => ⟨obj l68, ?_⟩, fun hk => ?_⟩)))))
  · have kk := kk c F8.rf
    rw [if_neg (by rw [h]; simp)] at kk
    exact kk
  · have kk := kk c F8.rf
    rw [if_neg (by rw [h2]; simp)] at kk
    exact kk
  · rw [if_pos ⟨h, h2, hk⟩] at kk
    subst hx hy
    rw [w_nI (by omega), w_nI (by omega)] at kk
    refine n_looks (by omega) (by omega) (hN j hj) (hN i hi) (hz j hj) (hz i hi) (hv j hj) (hv i hi) ⟨fun hn c1 f1 a1 a2 => ?_, fun a x hx hka hx2 c1 f1 a2 => ?_⟩
    · have kk := kk c1 f1
      refine ⟨fun e => ldI l68 rfl ?_, fun e => ldI l68 rfl ?_⟩
      · rw [a2]
        refine ⟨fun z => absurd rfl z, fun _ => ?_⟩
        rcases ge_m1 hk with e1 | ⟨q, hq, e1⟩
        · exact absurd e1 e
        · subst e1
          rw [gAns, if_neg e, w_nI hq, Nat.sub_zero, List.getElem?_eq_none (Nat.le_of_not_lt (fun z => hn q z rfl))] at kk
          exact kk
      · rw [a1]
        rw [gAns, if_pos e, Nat.zero_add] at kk
        exact kk
    · have kk := kk c1 f1
      have ha := (List.getElem?_eq_some_iff.mp hx).1
      have ha2 : a < 2 ^ 31 := by
        have hlen := en_len (vs := fun _ => rg 0 (sz i)) (gd := pgd (sz j) (lb j) (lb i)) (fun q => by rw [rg_len]; have := (hN i hi).2.1; omega) (sz j) (fun _ => 0)
        have h6 : 6 ^ (sz j) ≤ 6 ^ 6 := Nat.pow_le_pow_right (by decide) (hN j hj).2.1
        have h7 : (6 : Nat) ^ 6 = 46656 := by decide
        rw [List.length_map] at ha
        have : (ocL (sz j) (lb j) (sz i) (lb i)).length ≤ 6 ^ sz j := hlen
        omega
      subst hka
      refine ⟨fun e => ldI l68 rfl ?_, fun e => absurd e (nI_ne1 ha2)⟩
      rw [a2]
      rw [gAns, if_neg (nI_ne1 ha2), w_nI ha2, Nat.sub_zero, hx] at kk
      exact ⟨fun _ => ldI l68 rfl (by rw [a2]; exact kk), fun z => absurd z (nI_ne5 hx2)⟩
  · have kk := kk c F8.rf
    rw [if_neg (fun z => hk z.2.2)] at kk
    exact kk
end BR
