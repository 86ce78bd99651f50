/-! found: the reference -/
def PmR (P : Nat) (mir : Nat → Nat) (p : Nat) (f : fT) (c : gm) : Prop := c.1 68 13 = nI P ∧ c.1 74 0 = nI 0 ∧ ∀ q, p ≤ q → q < P / 2 → c.1 74 (P / 2 - q) = nI (f q) ∧ c.1 74 (P - (P / 2 - q)) = nI (mir (f q))
section FM
variable {E : gk_E} {dd : Nat} {c : gm} {P n N : Nat} {mir : Nat → Nat} {ls : lsT} {it : itT}
theorem PmR.st {f : fT} {e : Nat} (h : PmR P mir 0 f c) (he : e < P) : c.1 74 e = nI (stF mir P f e) := by
  obtain ⟨_, h0, h1⟩ := h
  unfold stF
  by_cases e0 : e = 0
  · rw [if_pos e0, e0]; exact h0
  · rw [if_neg e0]
    by_cases e1 : e ≤ P / 2
    · rw [if_pos e1]
      have := (h1 (P / 2 - e) (Nat.zero_le _) (by omega)).1
      rw [show P / 2 - (P / 2 - e) = e by omega] at this
      exact this
    · rw [if_neg e1]
      have := (h1 (P / 2 - (P - e)) (Nat.zero_le _) (by omega)).2
      rw [show P - (P / 2 - (P / 2 - (P - e))) = e by omega] at this
      exact this
theorem n_isPictured (hG : Gd n mir N) (hM : MT c n mir N) (h13 : P ≤ 13) (h2 : 2 ≤ P) : ∀ r, r ≤ P / 2 → ∀ dd d c1 f (K : Int32 → gk_H → Prop), d = P / 2 - r + 1 → F8 [74] [] c c1 → PmR P mir r f c1 → (∀ q, r ≤ q → q < P / 2 → 1 ≤ f q ∧ f q < n) → ((en (fun _ => rg 1 n) (pg0 mir P) r f).find? (tpF N n mir P) = none → ∀ c', F8 [74] [] c c' → PmR P mir r f c' → K (nI 0) (Hm c')) → (∀ g, (en (fun _ => rg 1 n) (pg0 mir P) r f).find? (tpF N n mir P) = some g → ∀ c', F8 [74] [] c c' → PmR P mir 0 g c' → K (nI 1) (Hm c')) → RnI E mX12_isPictured (dd + r + 2, 0, 0) [.ref 68, .int (nI d)] (Hm c1) K := by
  have n4 := hG.n4
  intro r
  induction r with
  | zero =>
    intro _ dd d c1 f K hdq f1 hR hf k1 k2
    subst hdq
    refine vX12_isPictured_0 (ldI l68 rfl ?_)
    rw [hR.1, pk_mul]
    have M1 := hM.f8 f1 (by decide) (by decide) (by decide)
    have sl := stF_lt (N := N) hG (P := P) (g := f) (fun q hq => hf q (Nat.zero_le _) hq)
    have PM : PiM c1 P (stF mir P f) := ⟨hR.1, fun d hd => hR.st hd⟩
    refine bLe (fun z => absurd z (by omega)) (fun _ => ⟨obj l68, n_isAllHad M1 PM h13 sl ?_⟩)
    refine bB0 (fun e => ?_) (fun e => ⟨obj l68, n_falseStep (dd := dd) M1 PM h13 sl ((orN_5 (fun v hv => by have := mf_lt h13 v hv; omega) (fun u => ?_) (fun u => ?_)).symm)⟩)
    · refine k1 ?_ c1 f1 hR
      rw [en, List.find?_cons, show tpF N n mir P f = false from by unfold tpF tpB; rw [e]; rfl]
      rfl
    · refine k2 f ?_ c1 f1 hR
      rw [en, List.find?_cons, show tpF N n mir P f = true from by unfold tpF tpB; rw [e, u]; rfl]
    · refine k1 ?_ c1 f1 hR
      rw [en, List.find?_cons, show tpF N n mir P f = false from by
        unfold tpF tpB
        cases h : mfF N n (stF mir P f) P with
        | none => exact absurd h u
        | some v => simp]
      rfl
  | succ r ih =>
    intro hr dd d c1 f K hdq f1 hR hf k1 k2
    subst hdq
    refine vX12_isPictured_0 (ldI l68 rfl ?_)
    have hdd : P / 2 - (r + 1) + 1 = P / 2 - r := by omega
    rw [hR.1, pk_mul, hdd]
    refine bLe (fun _ => ?_) (fun z => absurd z (by omega))
    have go : ∀ a, a ≤ n → 1 ≤ a → ∀ c2, F8 [74] [] c c2 → PmR P mir (r + 1) f c2 → (((rg a n).flatMap (sv (fun _ => rg 1 n) (pg0 mir P) r f)).find? (tpF N n mir P) = none → ∀ c', F8 [74] [] c c' → PmR P mir (r + 1) f c' → K (nI 0) (Hm c')) → (∀ g, ((rg a n).flatMap (sv (fun _ => rg 1 n) (pg0 mir P) r f)).find? (tpF N n mir P) = some g → ∀ c', F8 [74] [] c c' → PmR P mir 0 g c' → K (nI 1) (Hm c')) → pX12_isPictured_34 E (dd + r + 2) 68 (nI (P / 2 - r)) (nI a) (Hm c2) K := by
      refine down (n := n) ?_ ?_
      · intro _ c2 f2 hR k1 k2
        refine vX12_isPictured_34 (ldI l68 rfl ?_)
        rw [(hM.f8 f2 (by decide) (by decide) (by decide)).hn]
        refine bLe (fun _ => k1 ?_ c2 f2 hR) (fun z => absurd z (by omega))
        rw [rg_nil (Nat.le_refl _)]; rfl
      · intro a ha iha ha1 c2 f2 hR k1 k2
        have M2 := hM.f8 f2 (by decide) (by decide) (by decide)
        have m4 := M2.row a (by omega)
        rw [rg_cons ha, List.flatMap_cons, List.find?_append] at k1 k2
        have lay : pg0 mir P r (fup f r a) = true → (2 * (P / 2 - r) = P → mir a = a) → LdR (Hm c2) 68 11 14 fun v3 => AsI (Hm c2) v3 (nI (P / 2 - r)) (nI a) fun h4 => LdR h4 68 11 14 fun v5 => LdI h4 68 11 13 fun v6 => LdR h4 68 11 1 fun v7 => AlI h4 v7 (nI a) fun v8 => AsI h4 v5 (v6 - nI (P / 2 - r)) v8 fun h9 => (∃ fs, h9[68]? = some (.inr (11, fs))) ∧ RnI E mX12_isPictured (dd + r + 2, 0, 0) [.ref 68, .int (nI (P / 2 - r) + nI 1)] h9 (fun v10 h10 => (v10 = 0 → pX12_isPictured_34 E (dd + r + 2) 68 (nI (P / 2 - r)) (nI a + nI 1) h10 K) ∧ (¬ v10 = 0 → K (nI 1) h10)) := fun eg hm => by
          rw [show sv (fun _ => rg 1 n) (pg0 mir P) r f a = en (fun _ => rg 1 n) (pg0 mir P) r (fup f r a) from if_pos eg] at k1 k2
          refine ldR l68 rfl (asI l74 (by omega) (by decide) (ldR l68 rfl (ldI l68 rfl (ldR l68 rfl (alI l69 (by omega) (by decide) ?_)))))
          rw [mI_n (by omega), mI_n (by omega), hR.1, m4.1, pk_sub (by omega), nI_add]
          refine asI l74 (by omega) (by decide) ⟨obj l68, ?_⟩
          generalize hc3 : mI (mI c2 74 (P / 2 - r) (nI a)) 74 (P - (P / 2 - r)) (nI (mir a)) = c3
          have f3 : F8 [74] [] c c3 := by rw [← hc3]; exact (f2.put (by simp) (by decide)).put (by simp) (by decide)
          have R3 : PmR P mir r (fup f r a) c3 := by
            refine ⟨by rw [← hc3, mI_n (by omega), mI_n (by omega)]; exact hR.1, by rw [← hc3, mI_n (by omega), mI_n (by omega)]; exact hR.2.1, fun q h1 h2 => ?_⟩
            by_cases eq : q = r
            · subst eq
              rw [fup_s, ← hc3]
              refine ⟨?_, mI_s⟩
              by_cases e : 2 * (P / 2 - q) = P
              · rw [show P - (P / 2 - q) = P / 2 - q by omega, mI_s, hm e]
              · rw [mI_n (by omega), mI_s]
            · have := hR.2.2 q (by omega) h2
              rw [fup_n _ _ eq, ← hc3, mI_n (by omega), mI_n (by omega), mI_n (by omega), mI_n (by omega)]
              exact this
          refine ih (by omega) dd _ c3 (fup f r a) _ rfl f3 R3 (fun q h1 h2 => ?_) (fun hn c4 f4 R4 => ⟨fun _ => ?_, fun z => absurd rfl z⟩) (fun g hg c4 f4 R4 => ⟨fun z => absurd z (by decide), fun _ => ?_⟩)
          · by_cases eq : q = r
            · subst eq; rw [fup_s]; exact ⟨ha1, ha⟩
            · rw [fup_n _ _ eq]; exact hf q (by omega) h2
          · rw [hn] at k1 k2
            rw [nI_add]
            refine iha (by omega) c4 f4 ⟨R4.1, R4.2.1, fun q h1 h2 => ?_⟩ (fun h => k1 h) (fun g h => k2 g h)
            have := R4.2.2 q (by omega) h2
            rw [fup_n _ _ (by omega)] at this
            exact this
          · exact k2 g (by rw [hg]; rfl) c4 f4 R4
        refine vX12_isPictured_34 (ldI l68 rfl ?_)
        rw [M2.hn]
        refine bLe (fun z => absurd z (by omega)) (fun _ => ldI l68 rfl ?_)
        rw [hR.1, pk_mul]
        have m4' := m4.2
        refine bNe (fun e => lay (by unfold pg0; simp [e]) (fun z => absurd z e)) (fun e => ldR l68 rfl (alI l69 (by omega) (by decide) ?_))
        rw [m4.1]
        refine bNe (fun e2 => ?_) (fun e2 => lay (by unfold pg0; rw [fup_s, e2]; simp) (fun _ => e2)) (by omega) (by omega)
        rw [show sv (fun _ => rg 1 n) (pg0 mir P) r f a = [] from by
          unfold sv pg0
          rw [fup_s, decide_eq_false (by omega), show (mir a == a) = false by simpa using e2]
          rfl] at k1 k2
        rw [nI_add]
        exact iha (by omega) c2 f2 hR (fun h => k1 h) (fun g h => k2 g h)
    exact go 1 hG.n1 (Nat.le_refl _) c1 f1 hR k1 k2
theorem n_found (hG : Gd n mir N) (hM : MT c n mir N) (hL : LsAt c 75 76 ls it) {l : Int32} {K : Int32 → gk_H → Prop} (k0 : inR l 0 (3 : Nat) = false → K (-1) (Hm c)) (k1 : inR l 0 (3 : Nat) = true → fdA N n mir = none → ∀ c', F8 [74] [13] c c' → K (-5) (Hm c')) (k2 : inR l 0 (3 : Nat) = true → ∀ P g, fdA N n mir = some (P, g) → ∀ c', F8 [74, 75, 76] [13] c c' → LsAt c' 75 76 (lsS ls (w l) (nI (P - 1))) (itS it (w l) (fun i => lN (stF mir P g (i + 1)))) → K (nI P) (Hm c')) : RnI E mX12_found (dd + 9, 0, 0) [.ref 68, .int l] (Hm c) K := by
  have n4 := hG.n4
  refine vX12_found_0 (n_isList (rngN (by decide) (fun j hj hx h => ldR l68 rfl (asI l74 (by decide) (by decide) (stI l68 rfl ?_))) k0))
  subst hx
  rw [w_nI (by omega)] at k2
  have k1 := k1 h
  have k2 := k2 h
  have go : ∀ kk P c1, P + kk = 14 → 2 ≤ P → F8 [74] [13] c c1 → c1.1 68 13 = nI P → c1.1 74 0 = nI 0 → fdA N n mir = fdK N n mir kk P → pX12_found_21 E (dd + 8) 68 (nI j) (Hm c1) K := by
    intro kk
    induction kk with
    | zero =>
      intro P c1 hP hP2 f1 e13 z1 he
      refine vX12_found_21 (ldI l68 rfl ?_)
      rw [e13]
      exact bLt (fun _ => k1 he c1 f1) (fun z => absurd z (by omega))
    | succ kk ih =>
      intro P c1 hP hP2 f1 e13 z1 he
      refine vX12_found_21 (ldI l68 rfl ?_)
      rw [e13]
      have M1 := hM.f8 f1 (by decide) (by decide) (by decide)
      refine bLt (fun z => absurd z (by omega)) (fun _ => ⟨obj l68, ?_⟩)
      rw [show dd + 8 = (dd + (6 - P / 2)) + P / 2 + 2 by omega]
      refine n_isPictured hG M1 (by omega) hP2 (P / 2) (Nat.le_refl _) _ 1 c1 (fun _ => 0) _ (by omega) F8.rf ⟨e13, z1, fun q a1 a2 => absurd a1 (by omega)⟩ (fun q a1 a2 => absurd a1 (by omega)) (fun hn c2 f2 R2 => ⟨fun _ => ldI l68 rfl ?_, fun z => absurd rfl z⟩) (fun g hg c2 f2 R2 => ⟨fun z => absurd z (by decide), fun _ => ldR l68 rfl (ldI l68 rfl ?_)⟩)
      · rw [R2.1, nI_add]
        refine stI l68 rfl ?_
        rw [show (dd + (6 - P / 2)) + P / 2 + 2 = dd + 8 by omega]
        refine ih (P + 1) _ (by omega) (by omega) ((f1.trans (f2.mono (by simp) (by simp))).slot (by simp)) mI_s (by rw [mI_n (by omega)]; exact R2.2.1) ?_
        have hn : (pcL0 n mir P).find? (tpF N n mir P) = none := hn
        rw [he, fdK, hn]
      · have hg : (pcL0 n mir P).find? (tpF N n mir P) = some g := hg
        have he2 : fdA N n mir = some (P, g) := by rw [he, fdK, hg]
        have sl := stF_lt (N := N) hG (pcL0_mem (List.mem_of_find?_eq_some hg))
        rw [R2.1, nI_sub1 (by omega), show (dd + (6 - P / 2)) + P / 2 + 2 = dd + 8 by omega]
        refine asI l75 hj (by decide) ?_
        have F2 : F8 [74] [13] c c2 := f1.trans (f2.mono (by simp) (by simp))
        have L2 : LsAt c2 75 76 ls it := hL.fr F2.1 (by decide) (by decide)
        refine downF (P := fun d => ∀ c', F8 [75, 76] [] c2 c' → (∀ i, i < 3 → c'.1 75 i = if i = j then nI (P - 1) else c2.1 75 i) → (∀ k, (k < 12 * j ∨ 12 * j + 12 ≤ k) → c'.2.1 76 k = c2.2.1 76 k) → (∀ i, i + 1 < d → c'.2.1 76 (12 * j + i) = lN (stF mir P g (i + 1))) → pX12_found_52 E (dd + 8) 68 (nI j) (nI d) (Hm c') K) 1 P (by omega) ?_ ?_ _ (F8.rf.put (by simp) (by decide)) (fun i hi => ?_) (fun _ _ => rfl) (fun i hi => absurd hi (by omega))
        · intro c' hf h1 h2 h3
          refine vX12_found_52 (ldI l68 rfl ?_)
          rw [hf.2 13 (by simp), R2.1]
          refine bLe (fun _ => ldI l68 rfl ?_) (fun z => absurd z (by omega))
          rw [hf.2 13 (by simp), R2.1]
          refine k2 P g he2 c' ((F2.mono (by simp) (by simp)).trans (hf.mono (by simp) (by simp))) (L2.listF hj (Or.inr ⟨P - 1, by omega, rfl⟩) h1 h2 (fun q hq h12 i hi => ?_))
          have := (nI_eq (by omega) (by omega)).mp hq
          exact h3 i (by omega)
        · intro d hd1 hd ihd c' hf h1 h2 h3
          refine vX12_found_52 (ldI l68 rfl ?_)
          rw [hf.2 13 (by simp), R2.1]
          refine bLe (fun z => absurd z (by omega)) (fun _ => ldR l68 rfl (ldR l68 rfl (alI l74 (by omega) (by decide) ?_)))
          rw [hf.i (by decide), R2.st hd, t64 _ (by have := sl d hd; omega), pk_mul, nI_add, nI_sub1 (by omega), nI_add]
          refine asL l76 (by omega) (by decide) (ihd _ (hf.putL (by simp)) h1 (fun k hk => ?_) (fun i hi => ?_))
          · rw [mL_n (by omega)]; exact h2 k hk
          · by_cases e : i + 1 = d
            · subst e
              rw [show 12 * j + (i + 1) - 1 = 12 * j + i by omega, mL_s]
            · rw [mL_n (by omega)]; exact h3 i (by omega)
        · by_cases e : i = j
          · subst e; rw [if_pos rfl, mI_s]
          · rw [if_neg e, mI_n (by omega)]
  exact go 12 2 _ rfl (by decide) ((F8.rf.put (by simp) (by decide)).slot (by simp)) mI_s (by rw [mI_n (by omega), mI_s]) rfl
end FM
