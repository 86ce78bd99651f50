/-! read: the reference -/
/-- the text, and where it is read -/
def AtM (c : gm) (t : Nat) (tb : Nat → Nat) (p : Nat) : Prop := c.1 68 21 = nI t ∧ c.1 68 22 = nI p ∧ (∀ i, i < t → c.1 79 i = nI (tb i)) ∧ WdM c
theorem AtM.f8 {c c' : gm} {t p : Nat} {tb : Nat → Nat} {l ks : List Nat} (h : AtM c t tb p) (hf : F8 l ks c c') (h1 : 21 ∉ ks) (h2 : 22 ∉ ks) (h3 : 79 ∉ 68 :: l) (h4 : 77 ∉ 68 :: l) (h5 : 78 ∉ 68 :: l) : AtM c' t tb p := ⟨by rw [hf.2 21 h1]; exact h.1, by rw [hf.2 22 h2]; exact h.2.1, fun i hi => by rw [hf.i h3]; exact h.2.2.1 i hi, h.2.2.2.f8 hf h4 h5⟩
theorem AtM.mv {c : gm} {t p q : Nat} {tb : Nat → Nat} (h : AtM c t tb p) : AtM (mI c 68 22 (nI q)) t tb q := ⟨by rw [mI_n (by omega)]; exact h.1, mI_s, fun i hi => by rw [mI_n (by omega)]; exact h.2.2.1 i hi, h.2.2.2.f8 (F8.rf.slot (ks := [22]) (l := []) (by simp)) (by decide) (by decide)⟩
def bg : Nat → Nat
  | 0 => 0
  | 1 => 6
  | 2 => 11
  | _ => 14
theorem bg_w : ∀ i, i < 4 → ∀ j, j < gk_len.getD i 0 → chS i j = nI (wds.getD (bg i + j) 0) ∧ wds.getD (bg i + j) 0 ≠ 32 ∧ wds.getD (bg i + j) 0 < 128 := by decide
theorem bg_e : ∀ i, i < 4 → wds.getD (bg i + gk_len.getD i 0) 0 = 32 ∧ bg i + gk_len.getD i 0 < 18 ∧ (i < 3 → bg i + gk_len.getD i 0 + 1 = bg (i + 1)) := by decide
theorem ls32 {k : Nat} (h : k < 2 ^ 31) : (nI k).toInt64.toInt = (k : Int) := by rw [ti64, nI_toInt h]
section MR
variable {E : gk_E} {dd : Nat} {c : gm} {t : Nat} {tb : Nat → Nat}
theorem n_isAt (t100 : t ≤ 100) (hV : TpV t tb) {p : Nat} (hA : AtM c t tb p) (hp : p < 2 ^ 30) {lo hi : Nat} (hlo : lo < 2 ^ 30) (hhi : hi < 2 ^ 30) {K : Int32 → gk_H → Prop} (k : K (bI (decide (p < t ∧ lo ≤ tb p ∧ tb p ≤ hi))) (Hm c)) : RnI E mX12_isAt (dd + 1, 0, 0) [.ref 68, .int (nI lo), .int (nI hi)] (Hm c) K := by
  refine vX12_isAt_0 (ldI l68 rfl (ldI l68 rfl ?_))
  rw [hA.1, hA.2.1]
  refine bLe (fun z => ?_) (fun z => ldR l68 rfl (ldI l68 rfl ?_))
  · rw [decide_eq_false (by omega)] at k; exact k
  · rw [hA.2.1]
    refine alI l79 (by omega) (by decide) ?_
    have vb := hV.2 p z
    rw [hA.2.2.1 p z]
    refine m_isFrom ?_
    rw [ls32 (by omega), ls32 (by omega), ls32 (by omega)]
    refine bB0 (fun e => ?_) (fun e => ?_)
    · have := of_decide_eq_false e
      rw [decide_eq_false (by omega)] at k; exact k
    · have := of_decide_eq_true e
      rw [decide_eq_true (by omega)] at k; exact k
theorem n_word (t100 : t ≤ 100) (hV : TpV t tb) {p : Nat} (hp : p ≤ t) (hA : AtM c t tb p) {K : Int32 → gk_H → Prop} (k1 : kd tb p (we tb t p) = none → ∀ c', F8 [] [22] c c' → AtM c' t tb p → K (-1) (Hm c')) (k2 : ∀ i, kd tb p (we tb t p) = some i → ∀ c', F8 [] [22] c c' → AtM c' t tb (we tb t p) → K (nI i) (Hm c')) : RnI E mX12_word (dd + 2, 0, 0) [.ref 68] (Hm c) K := by
  have wb := we_b (tb := tb) hp
  refine vX12_word_0 (ldI l68 rfl ?_)
  rw [hA.2.1]
  have fin : ∀ c1, F8 [] [22] c c1 → AtM c1 t tb (we tb t p) → pX12_word_33 E (dd + 1) 68 (nI p) (nI 0) (nI 0) (Hm c1) K := by
    intro c1 f1 A1
    generalize we tb t p = e at *
    refine down (P := fun i => kd tb p e = ffrom 4 (fun i => if wdB tb p e i = true then some i else none) i → pX12_word_33 E (dd + 1) 68 (nI p) (nI (if i < 4 then bg i else 18)) (nI i) (Hm c1) K) 4 ?_ ?_ 0 (Nat.zero_le _) rfl
    · intro hk
      rw [ffrom_end] at hk
      exact vX12_word_33 (bLe (fun _ => stI l68 rfl (k1 hk _ (f1.slot (by simp)) A1.mv)) (fun z => absurd z (by omega)))
    · intro i hi ih hk
      have hb := bg_e i hi
      have l5 := len5 i (by omega)
      rw [if_pos hi]
      refine vX12_word_33 (bLe (fun z => absurd z (by omega)) (fun _ => ?_))
      have nxt : wdB tb p e i = false → pX12_word_33 E (dd + 1) 68 (nI p) (nI (bg i + gk_len.getD i 0) + nI 1) (nI i + nI 1) (Hm c1) K := fun h => by
        have ih := ih (by rw [hk, ffrom_none hi (if_neg (by rw [h]; decide))])
        rw [nI_add, nI_add]
        by_cases i3 : i + 1 < 4
        · rw [if_pos i3, ← hb.2.2 (by omega)] at ih; exact ih
        · have : i = 3 := by omega
          subst this
          exact ih
      refine down (P := fun j => pX12_word_41 E (dd + 1) 68 (nI p) (nI (bg i)) (nI i) (nI (bg i + j)) (Hm c1) K) (gk_len.getD i 0) ?_ ?_ 0 (Nat.zero_le _)
      · refine vX12_word_41 (ldR l68 rfl (alC l77 hb.2.1 (by decide) ?_))
        rw [A1.2.2.2.1 _ hb.2.1, hb.1]
        refine ⟨fun _ => ldI l68 rfl ?_, fun z => absurd rfl z⟩
        rw [A1.2.1, pk_sub (by omega), Nat.add_sub_cancel_left, pk_sub wb.1]
        have z0 : wdB tb p e i = false → ∀ j, pX12_word_82 E (dd + 1) 68 (nI p) (nI (bg i)) (nI i) (nI (bg i + gk_len.getD i 0)) (nI 0) j (Hm c1) K := fun h j => vX12_word_82 ⟨fun _ => ⟨fun _ => nxt h, fun z => absurd rfl z⟩, fun z => absurd rfl z⟩
        refine bNe (fun ne => z0 ?_ _) (fun eq => ?_) (by omega) (by omega)
        · unfold wdB; rw [decide_eq_false (fun z => ne z.symm)]; rfl
        · have ew : wdB tb p e i = (ffrom (gk_len.getD i 0) (isWdF tb p i) 0).isNone := by unfold wdB; rw [decide_eq_true eq.symm]; rfl
          refine down (P := fun j => ffrom (gk_len.getD i 0) (isWdF tb p i) 0 = ffrom (gk_len.getD i 0) (isWdF tb p i) j → pX12_word_82 E (dd + 1) 68 (nI p) (nI (bg i)) (nI i) (nI (bg i + gk_len.getD i 0)) (nI 1) (nI j) (Hm c1) K) (gk_len.getD i 0) ?_ ?_ 0 (Nat.zero_le _) rfl
          · intro hj
            rw [ffrom_end] at hj
            refine vX12_word_82 ⟨fun z => absurd z (by decide), fun _ => ldI l68 rfl ?_⟩
            rw [A1.2.1, pk_sub wb.1]
            refine bLe (fun _ => ⟨fun z => absurd z (by decide), fun _ => k2 i ?_ c1 f1 A1⟩) (fun z => absurd z (by omega))
            rw [hk]
            exact ffrom_some hi (if_pos (by rw [ew, hj]; rfl))
          · intro j hj ihj hjj
            refine vX12_word_82 ⟨fun z => absurd z (by decide), fun _ => ldI l68 rfl ?_⟩
            rw [A1.2.1, pk_sub wb.1]
            simp only [nI_add]
            have bw := bg_w i hi j hj
            refine bLe (fun z => absurd z (by omega)) (fun _ => ldR l68 rfl (alC l77 (by omega) (by decide) (ldR l68 rfl (alI l79 (by omega) (by decide) ?_))))
            rw [A1.2.2.2.1 _ (by omega), A1.2.2.1 (p + j) (by omega), ← bw.1]
            refine ⟨fun ne => z0 ?_ _, fun eq2 => ihj ?_⟩
            · rw [ew, hjj, ffrom_some (v := 0) hj (if_neg (fun z => ne z.symm))]; rfl
            · rw [hjj, ffrom_none hj (if_pos eq2.symm)]
      · intro j hj ihj
        have bw := bg_w i hi j hj
        refine vX12_word_41 (ldR l68 rfl (alC l77 (by omega) (by decide) ?_))
        rw [A1.2.2.2.1 _ (by omega), nI_add]
        exact bEq (fun z => absurd z bw.2.1) (fun _ => ihj) (by omega) (by decide)
  refine downF (P := fun q => ∀ c1, F8 [] [22] c c1 → AtM c1 t tb q → we tb t p = we tb t q → pX12_word_5 E (dd + 1) 68 (nI p) (Hm c1) K) p t hp ?_ ?_ c F8.rf hA rfl
  · intro c1 f1 A1 he
    have : we tb t t = t := by unfold we; rw [ffrom_end]; rfl
    refine vX12_word_5 ⟨obj l68, n_isAt (dd := dd) t100 hV A1 (by omega) (by decide) (by decide) ?_⟩
    rw [decide_eq_false (by omega)]
    exact ⟨fun _ => fin c1 f1 (by rw [he, this]; exact A1), fun z => absurd rfl z⟩
  · intro q hq1 hq ih c1 f1 A1 he
    refine vX12_word_5 ⟨obj l68, n_isAt (dd := dd) t100 hV A1 (by omega) (by decide) (by decide) ?_⟩
    refine bB0 (fun e => ?_) (fun e => ldI l68 rfl ?_)
    · have h := of_decide_eq_false e
      have : we tb t q = q := by unfold we; rw [ffrom_some hq (if_neg (by unfold low; rw [decide_eq_false (by omega)]; decide))]; rfl
      exact fin c1 f1 (by rw [he, this]; exact A1)
    · have h := of_decide_eq_true e
      rw [A1.2.1, nI_add]
      refine stI l68 rfl (ih _ (f1.slot (by simp)) A1.mv ?_)
      rw [he]
      unfold we
      rw [ffrom_none hq (if_pos (by unfold low; exact decide_eq_true (by omega)))]
theorem n_statement (t100 : t ≤ 100) (hV : TpV t tb) {p : Nat} (hp : p ≤ t) (hA : AtM c t tb p) {K : Int32 → gk_H → Prop} (k1 : ∀ f, ps tb t p = .inl f → ∀ c', F8 [80] [22] c c' → AtM c' t tb f → K (-1) (Hm c')) (k2 : ∀ i e, ps tb t p = .inr (i, e) → ∀ c', F8 [80] [22] c c' → AtM c' t tb (e + 2 * fg i) → (∀ q, q < fg i → c'.1 80 q = figI tb t (e + 1 + 2 * q)) → K (nI i) (Hm c')) : RnI E mX12_statement (dd + 3, 0, 0) [.ref 68] (Hm c) K := by
  have wb := we_b (tb := tb) hp
  refine vX12_statement_0 ⟨obj l68, n_word (dd := dd) t100 hV hp hA (fun hk c1 f1 A1 => ⟨fun z => absurd rfl z, fun _ => k1 p (by unfold ps; rw [hk]) c1 (f1.mono (by simp) (by simp)) A1⟩) (fun i hk c1 f1 A1 => ?_)⟩
  have hi := (kd_lt hk).1
  refine ⟨fun _ => ?_, fun z => absurd z (nI_ne1 (by omega))⟩
  have fb := fg_b (i := i)
  have hfg : ∀ i, i < 4 → ([1, 2, 3, 3] : List Nat).getD i 0 = fg i := by decide
  have e1 : ∀ f, gf tb t (we tb t p) (fg i) = f → f < 2 * fg i → ps tb t p = .inl (we tb t p + f) := fun f h1 h2 => by
    unfold ps; rw [hk]; dsimp only; rw [h1, if_pos h2]
  have e2 : gf tb t (we tb t p) (fg i) = 2 * fg i → ps tb t p = .inr (i, we tb t p) := fun h1 => by
    unfold ps; rw [hk]; dsimp only; rw [h1, if_neg (by omega)]
  generalize hee : we tb t p = e at *
  have ge : ∀ {g : Nat}, (ffrom (2 * fg i) (fun g => if e + g < t ∧ due g (tb (e + g)) = true then none else some g) 0 = some g) → gf tb t e (fg i) = g := fun {g} h => by unfold gf; rw [h]; rfl
  have step : ∀ g, g < 2 * fg i → (e + g < t ∧ due g (tb (e + g)) = true) → ffrom (2 * fg i) (fun g => if e + g < t ∧ due g (tb (e + g)) = true then none else some g) g = ffrom (2 * fg i) (fun g => if e + g < t ∧ due g (tb (e + g)) = true then none else some g) (g + 1) := fun g hg h => ffrom_none hg (if_pos h)
  have stop : ∀ g, g < 2 * fg i → ¬ (e + g < t ∧ due g (tb (e + g)) = true) → ffrom (2 * fg i) (fun g => if e + g < t ∧ due g (tb (e + g)) = true then none else some g) g = some g := fun g hg h => ffrom_some hg (if_neg h)
  refine down (P := fun q => ∀ c', F8 [80] [22] c c' → AtM c' t tb (e + 2 * q) → (∀ r, r < q → c'.1 80 r = figI tb t (e + 1 + 2 * r)) → e + 2 * q ≤ t → ffrom (2 * fg i) (fun g => if e + g < t ∧ due g (tb (e + g)) = true then none else some g) 0 = ffrom (2 * fg i) (fun g => if e + g < t ∧ due g (tb (e + g)) = true then none else some g) (2 * q) → pX12_statement_14 E (dd + 2) 68 (nI i) (nI q) (Hm c') K) (fg i) ?_ ?_ 0 (Nat.zero_le _) c1 (f1.mono (by simp) (by simp)) A1 (fun r hr => absurd hr (by omega)) (by omega) rfl
  · intro c' f' A' h80 ht hfr
    refine vX12_statement_14 (ldR l68 rfl (alI l78 (by omega) (by decide) ?_))
    rw [A'.2.2.2.2 i hi, hfg i hi]
    rw [ffrom_end] at hfr
    exact bLe (fun _ => k2 i e (e2 (by unfold gf; rw [hfr]; rfl)) c' f' A' h80) (fun z => absurd z (by omega))
  · intro q hq ih c' f' A' h80 ht hfr
    refine vX12_statement_14 (ldR l68 rfl (alI l78 (by omega) (by decide) ?_))
    rw [A'.2.2.2.2 i hi, hfg i hi]
    refine bLe (fun z => absurd z (by omega)) (fun _ => ⟨obj l68, n_isAt (dd := dd + 1) t100 hV A' (by omega) (by decide) (by decide) ?_⟩)
    have m0 : 2 * q % 2 = 0 := by omega
    have m1 : (2 * q + 1) % 2 = 1 := by omega
    refine bBn (fun e3 => ldI l68 rfl ?_) (fun e3 => ?_)
    · have h3 := of_decide_eq_true e3
      have d0 : e + 2 * q < t ∧ due (2 * q) (tb (e + 2 * q)) = true := ⟨h3.1, by unfold due; rw [if_neg (by omega)]; simp; omega⟩
      rw [A'.2.1, nI_add]
      refine stI l68 rfl ⟨obj l68, n_isAt (p := e + 2 * q + 1) (dd := dd + 1) t100 hV A'.mv (by omega) (by decide) (by decide) ?_⟩
      refine bBn (fun e4 => ldR l68 rfl (ldR l68 rfl (ldI l68 rfl ?_))) (fun e4 => ?_)
      · have h4 := of_decide_eq_true e4
        have d1 : e + (2 * q + 1) < t ∧ due (2 * q + 1) (tb (e + (2 * q + 1))) = true := ⟨by omega, by unfold due; rw [if_pos m1]; exact decide_eq_true (by rw [show e + (2 * q + 1) = e + 2 * q + 1 by omega]; exact h4.2)⟩
        rw [mI_s]
        refine alI l79 (by omega) (by decide) ?_
        rw [mI_n (by omega), A'.2.2.1 _ h4.1]
        refine asI l80 (by omega) (by decide) (ldI l68 rfl ?_)
        rw [mI_n (by omega), mI_s, nI_add, nI_add]
        refine stI l68 rfl (ih _ (((f'.slot (by simp)).put (by simp) (by decide)).slot (by simp)) ?_ (fun r hr => ?_) (by omega) ?_)
        · have a1 : AtM (mI (mI c' 68 22 (nI (e + 2 * q + 1))) 80 q (nI (tb (e + 2 * q + 1)) - nI 48)) t tb (e + 2 * q + 1) := A'.mv.f8 (F8.rf.put (l := [80]) (ks := []) (by simp) (by decide)) (by simp) (by simp) (by decide) (by decide) (by decide)
          have := a1.mv (q := e + 2 * q + 1 + 1)
          rw [show e + 2 * (q + 1) = e + 2 * q + 1 + 1 by omega]
          exact this
        · rw [mI_n (by omega)]
          by_cases er : r = q
          · subst er
            rw [mI_s]
            unfold figI
            rw [show e + 1 + 2 * r = e + 2 * r + 1 by omega, if_pos h4.1]
          · rw [mI_n (by omega), mI_n (by omega)]
            exact h80 r (by omega)
        · rw [hfr, step _ (by omega) d0, step _ (by omega) d1]
          rfl
      · have h4 := of_decide_eq_false e4
        have nd : ¬ (e + (2 * q + 1) < t ∧ due (2 * q + 1) (tb (e + (2 * q + 1))) = true) := fun y => by
          have y2 := y.2
          unfold due at y2
          rw [if_pos m1] at y2
          have y3 := of_decide_eq_true y2
          exact h4 ⟨by omega, by rw [show e + 2 * q + 1 = e + (2 * q + 1) by omega]; exact y3⟩
        have hg := ge (hfr.trans ((step _ (by omega) d0).trans (stop _ (by omega) nd)))
        refine k1 (e + (2 * q + 1)) (e1 _ hg (by omega)) _ (f'.slot (by simp)) ?_
        have := A'.mv (q := e + 2 * q + 1)
        rw [show e + (2 * q + 1) = e + 2 * q + 1 by omega]
        exact this
    · have h3 := of_decide_eq_false e3
      have nd : ¬ (e + 2 * q < t ∧ due (2 * q) (tb (e + 2 * q)) = true) := fun y => by
        have y2 := y.2
        unfold due at y2
        rw [if_neg (by omega)] at y2
        have y3 : tb (e + 2 * q) = 32 := by simpa using y2
        exact h3 ⟨y.1, by omega, by omega⟩
      have hg := ge (hfr.trans (stop _ (by omega) nd))
      exact k1 (e + 2 * q) (e1 _ hg (by omega)) c' f' A'
end MR
