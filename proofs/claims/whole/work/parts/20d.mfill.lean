/-! fills: the reference's ways -/
def BrM (c : gm) (fb : Bool) (fs : Nat) (fl : Nat → Nat → Nat) : Prop := c.1 68 5 = bI fb ∧ (fb = true → MNet c 3 fs fl ∧ (∀ p, p < fs → fl p p = 0) ∧ ∀ p q, p < fs → q < fs → fl p q < 4)
theorem BrM.fm {c c' : gm} {fb : Bool} {fs : Nat} {fl : Nat → Nat → Nat} (h : BrM c fb fs fl) (hf : Fm c c') : BrM c' fb fs fl := ⟨by rw [hf.1.2 5 (by decide)]; exact h.1, fun e => ⟨(h.2 e).1.fm hf (by decide), (h.2 e).2⟩⟩
section MF
variable {E : gk_E} {dd : Nat} {c : gm} {s n N : Nat} {mir : Nat → Nat} {lab : Nat → Nat → Nat} {fb : Bool} {fs : Nat} {fl : Nat → Nat → Nat} {f : fT}
theorem gl_z (hv : Vl n mir s lab) : ∀ p, p < s + 1 → gl s mir f lab p p = 0 := fun p hp => by
  unfold gl
  by_cases e : p = s
  · rw [if_pos e, if_pos e]
  · rw [if_neg e, if_neg e]; exact ((hv p p (by omega) (by omega)).2.1).mpr rfl
theorem gl_Vl (hG : Gd n mir N) (hv : Vl n mir s lab) (hf : ∀ q, q < s → 1 ≤ f q ∧ f q < n) : Vl n mir (s + 1) (gl s mir f lab) := fun p q hp hq => by
  have n1 := hG.n1
  have mz : ∀ a, 1 ≤ a → a < n → 1 ≤ mir a := fun a h1 h2 => by
    rcases Nat.eq_zero_or_pos (mir a) with e | e
    · have := hG.mm a h2
      rw [e, hG.m0] at this
      omega
    · exact e
  unfold gl
  by_cases e : q = s
  · rw [if_pos e]
    by_cases e2 : p = s
    · rw [if_pos e2, if_pos e2, if_pos e, hG.m0]
      exact ⟨by omega, ⟨fun _ => by omega, fun _ => rfl⟩, rfl⟩
    · have := hf p (by omega)
      rw [if_neg e2, if_neg e2, if_pos e]
      exact ⟨this.2, ⟨fun z => absurd z (by omega), fun z => absurd z (by omega)⟩, rfl⟩
  · rw [if_neg e]
    by_cases e2 : p = s
    · have := hf q (by omega)
      have m1 := mz _ this.1 this.2
      rw [if_pos e2, if_pos e2, if_neg e]
      exact ⟨hG.ml _ this.2, ⟨fun z => absurd z (by omega), fun z => absurd z (by omega)⟩, (hG.mm _ this.2).symm⟩
    · rw [if_neg e2, if_neg e2, if_neg e]
      exact hv p q (by omega) (by omega)
theorem MD.grow {c1 : gm} (hD : MD c s lab mir 0 f) (hs : s < 6) (h1 : c1.1 71 5 = nI (s + 1)) (h2 : ∀ k, c1.1 72 k = c.1 72 k) : MNet c1 5 (s + 1) (gl s mir f lab) := ⟨h1, by omega, fun a b ha hb hab => by
  rw [h2]
  unfold gl
  by_cases e : b = s
  · subst e
    rw [if_pos rfl, if_neg hab, show 36 * 5 + 6 * a + b = 180 + 6 * a + b by omega]
    exact (hD.2 a (Nat.zero_le _) (by omega)).1
  · rw [if_neg e]
    by_cases e2 : a = s
    · subst e2
      rw [if_pos rfl, show 36 * 5 + 6 * a + b = 180 + 6 * a + b by omega]
      exact (hD.2 b (Nat.zero_le _) (by omega)).2
    · rw [if_neg e2]
      exact hD.1.2.2 a b (by omega) (by omega) hab⟩
theorem MD.back {c1 : gm} {row : Nat → Nat} (hD : MNet c 5 (s + 1) (gl s mir row lab)) (h1 : c1.1 71 5 = nI s) (h2 : ∀ k, c1.1 72 k = c.1 72 k) : MD c1 s lab mir 0 row := by
  have := hD.2.1
  refine ⟨⟨h1, by omega, fun a b ha hb hab => ?_⟩, fun q _ hq => ⟨?_, ?_⟩⟩
  · rw [h2, hD.2.2 a b (by omega) (by omega) hab, gl_lt ha hb]
  · rw [h2, show 180 + 6 * q + s = 36 * 5 + 6 * q + s by omega, hD.2.2 q s (by omega) (by omega) (by omega)]
    unfold gl
    rw [if_pos rfl, if_neg (by omega)]
  · rw [h2, show 180 + 6 * s + q = 36 * 5 + 6 * s + q by omega, hD.2.2 s q (by omega) (by omega) (by omega)]
    unfold gl
    rw [if_neg (by omega), if_pos rfl]
theorem n_dec5 {φ : gk_H → Prop} (h : c.1 71 5 = nI (s + 1)) (k : φ (Hm (mI c 71 5 (nI s)))) : LdR (Hm c) 68 11 3 fun v11 => AlI (Hm c) v11 (nI 5) fun v12 => AsI (Hm c) v11 (nI 5) (v12 - nI 1) fun h13 => φ h13 := by
  refine ldR l68 rfl (alI l71 (by decide) (by decide) ?_)
  rw [h, nI_sub1 (by omega), Nat.add_sub_cancel]
  exact asI l71 (by decide) (by decide) k
def stC (fb : Bool) (fs : Nat) (fl : Nat → Nat → Nat) (s : Nat) (mir : Nat → Nat) (lab : Nat → Nat → Nat) (k : Int32) : fT → Nat → Option Nat := fun f sn => if alw fb fs fl s mir lab f = true then (if nI sn = k then none else some (sn + 1)) else some sn
def StC (k : Int32) (sn : Nat) (c : gm) : Prop := c.1 68 10 = nI sn ∧ c.1 68 11 = k ∧ c.1 68 12 = -5
theorem leafC (hG : Gd n mir N) (hv : Vl n mir s lab) (hs : s < 6) (hB : BrM c fb fs fl) {k : Int32} : LeafC E c s n lab mir (-1) 10 (stC fb fs fl s mir lab k) (StC k) (fun f c' => c'.1 68 12 = nI (dgD 0 f s)) := by
  intro c1 f sn f1 hD hf hS K k1 k2 dd
  obtain ⟨S1, S2, S3⟩ := hS
  have n4 := hG.n4
  have hdg : dgD 0 f s < 2 ^ 31 := by
    have a := dgD_lt (u := 0) (f := f) s (fun q hq => by have := (hf q hq).2; omega)
    have b := p10 (m := s) (by omega)
    omega
  refine vX12_isFilled_0 (ldI l68 rfl (ldI l68 rfl (ldI l68 rfl (ldR l68 rfl (alI l71 (by decide) (by decide) ?_)))))
  rw [hD.1.1, S1, S2, S3, nI_add]
  refine asI l71 (by decide) (by decide) ⟨obj l68, ?_⟩
  have f2 : Fm c1 (mI c1 71 5 (nI (s + 1))) := Fm.rf.m71
  have B2 := (hB.fm f1).fm f2
  have N2 : MNet (mI c1 71 5 (nI (s + 1))) 5 (s + 1) (gl s mir f lab) := hD.grow hs mI_s (fun k => mI_n (by omega))
  refine n_isBarred (by decide) B2.1 (fun e => (B2.2 e).1) N2 (fun e => (B2.2 e).2.1) (gl_z hv) (fun e => (B2.2 e).2.2) (gl_v hG.m4 (fun i hi => by have := (hf i hi).2; omega) (fun p q hp hq => Nat.lt_of_lt_of_le (hv p q hp hq).1 n4)) (fun c3 f3 => ?_)
  have N3 : MNet c3 5 (s + 1) (gl s mir f lab) := N2.fr f3.1 (by decide) (by decide)
  have F3 : Fm c1 c3 := f2.trans (Fm.of8 f3)
  refine bBn (fun e => stI l68 rfl (stI l68 rfl (stI l68 rfl ⟨fun _ => ⟨fun _ => ?_, fun z => absurd rfl z⟩, fun z => absurd rfl z⟩))) (fun e => stI l68 rfl (stI l68 rfl (stI l68 rfl ⟨fun z => absurd z (by decide), fun _ => ⟨fun z => absurd rfl z, fun _ => ldI l68 rfl (ldI l68 rfl ?_)⟩⟩)))
  · refine n_dec5 (s := s) (by rw [mI_n (by omega), mI_n (by omega), mI_n (by omega)]; exact N3.1) ?_
    refine k1 sn (by unfold stC alw; rw [e]; rfl) _ ((((F3.slot (by simp)).slot (by simp)).slot (by simp)).m71) (MD.back N3 mI_s (fun k => by rw [mI_n (by omega), mI_n (by omega), mI_n (by omega), mI_n (by omega)])) ⟨?_, ?_, ?_⟩
    · rw [mI_n (by omega), mI_n (by omega), mI_n (by omega), mI_s]
    · rw [mI_n (by omega), mI_n (by omega), mI_s]
    · rw [mI_n (by omega), mI_s]
  · rw [show (mI (mI (mI c3 68 10 (nI sn)) 68 11 k) 68 12 (-5)).1 68 10 = nI sn from by rw [mI_n (by omega), mI_n (by omega), mI_s], show (mI (mI (mI c3 68 10 (nI sn)) 68 11 k) 68 12 (-5)).1 68 11 = k from by rw [mI_n (by omega), mI_s]]
    refine ⟨fun ne => ldI l68 rfl ?_, fun eq => stI l68 rfl (ldI l68 rfl ?_)⟩
    · rw [mI_s]
      refine stI l68 rfl (ldI l68 rfl ?_)
      rw [show (mI (mI (mI (mI c3 68 10 (nI sn)) 68 11 k) 68 12 (-5)) 68 12 (-5)).1 68 10 = nI sn from by rw [mI_n (by omega), mI_n (by omega), mI_n (by omega), mI_s], nI_add]
      refine stI l68 rfl (ldI l68 rfl ?_)
      rw [mI_n (by omega), mI_s]
      refine ⟨fun _ => ?_, fun z => absurd rfl z⟩
      refine n_dec5 (s := s) (by rw [mI_n (by omega), mI_n (by omega), mI_n (by omega), mI_n (by omega), mI_n (by omega)]; exact N3.1) ?_
      refine k1 (sn + 1) (by unfold stC alw; rw [e]; exact if_neg ne) _ ((((((F3.slot (by simp)).slot (by simp)).slot (by simp)).slot (by simp)).slot (by simp)).m71) (MD.back N3 mI_s (fun k => by rw [mI_n (by omega), mI_n (by omega), mI_n (by omega), mI_n (by omega), mI_n (by omega), mI_n (by omega)])) ⟨?_, ?_, ?_⟩
      · rw [mI_n (by omega), mI_s]
      · rw [mI_n (by omega), mI_n (by omega), mI_n (by omega), mI_n (by omega), mI_s]
      · rw [mI_n (by omega), mI_n (by omega), mI_s]
    · rw [show (mI (mI (mI (mI c3 68 10 (nI sn)) 68 11 k) 68 12 (-5)) 68 12 (nI (dgD 0 f s))).1 68 10 = nI sn from by rw [mI_n (by omega), mI_n (by omega), mI_n (by omega), mI_s], nI_add]
      refine stI l68 rfl (ldI l68 rfl ?_)
      rw [mI_n (by omega), mI_s]
      refine ⟨fun z => absurd z (nI_ne5 hdg), fun _ => ?_⟩
      refine n_dec5 (s := s) (by rw [mI_n (by omega), mI_n (by omega), mI_n (by omega), mI_n (by omega), mI_n (by omega)]; exact N3.1) ?_
      refine k2 (by unfold stC alw; rw [e]; exact if_pos eq) _ ((((((F3.slot (by simp)).slot (by simp)).slot (by simp)).slot (by simp)).slot (by simp)).m71) (MD.back N3 mI_s (fun k => by rw [mI_n (by omega), mI_n (by omega), mI_n (by omega), mI_n (by omega), mI_n (by omega), mI_n (by omega)])).1 ?_
      show (mI _ 71 5 (nI s)).1 68 12 = nI (dgD 0 f s)
      rw [mI_n (by omega), mI_n (by omega), mI_s]
/-- a gap's rows, one after the other -/
theorem n_isFillable (hM : MT c n mir N) (hG : Gd n mir N) (hv : Vl n mir s lab) (hs : s < 6) (hN : MNet c 5 s lab) {g : Nat} (hg : lkB N n s lab g = true) (hg2 : g < 2 ^ 31) {x5 : Int32} {dl : Nat} {step : fT → Nat → Option Nat} {St : Nat → gm → Prop} {Fin : fT → gm → Prop} (hSt : ∀ sn c1 c2, St sn c1 → (∀ k, c2.1 68 k = c1.1 68 k) → St sn c2) (leaf : LeafC E c s n lab mir x5 dl step St Fin) {sn : Nat} (hS : St sn c) {K : Int32 → gk_H → Prop} (k1 : ∀ sn', runL step (gfL N n s mir lab g) sn = .inl sn' → ∀ c', Fm c c' → MNet c' 5 s lab → St sn' c' → K (nI 0) (Hm c')) (k2 : ∀ f', runL step (gfL N n s mir lab g) sn = .inr f' → ∀ c', Fm c c' → MNet c' 5 s lab → Fin f' c' → K (nI 1) (Hm c')) : RnI E mX12_isFillable (dd + dl + 9, 0, 0) [.ref 68, .int (nI g), .int x5] (Hm c) K := by
  obtain ⟨h1, h2, h3, h4, h5, h6, h7, h8, h9⟩ := lkB_f hG hv hg
  have eL : en (fun _ => rg 1 n) (wq (rgd N s lab) (gpQ (g / 1000) (g / 100 % 10) (g / 10 % 10) (mir (g % 10)))) s (fun _ => 0) = gfL N n s mir lab g := by
    rw [en_wqB rgd_L]
    unfold gfL rwL
    exact List.filter_congr (fun f _ => gpQ_all (by omega) h2 f)
  have fin : ∀ t pwr, s ≤ t → (∀ p', s = p' + 1 → pwr = 10 ^ p') → t < 2 ^ 31 → pX12_isFillable_5 E (dd + dl + 8) 68 (nI g) x5 (nI pwr) (nI t) (Hm c) K := by
    intro t pwr ht hpw ht2
    refine vX12_isFillable_5 (ldR l68 rfl (alI l71 (by decide) (by decide) ?_))
    rw [hN.1]
    refine bLe (fun _ => ldR l68 rfl (alI l71 (by decide) (by decide) ?_)) (fun z => absurd z (by omega))
    rw [hN.1]
    refine ⟨obj l68, ?_⟩
    have hd : dd + dl + 8 = (dd + (6 - s)) + dl + s + 2 := by omega
    rw [hd, show nI 0 = nI (dgD 0 (fun _ => 0) s) from by
      congr 1
      have : ∀ m, dgD 0 (fun _ => 0) m = 0 := fun m => by
        induction m with
        | zero => rfl
        | succ m ih => rw [dgD, ih]; simp
      exact (this s).symm]
    refine n_fillsFrom hM hG hv hs hg hg2 hSt leaf s (Nat.le_refl _) _ c (fun _ => 0) (fun _ => 0) sn pwr _ hpw Fm.rf ⟨hN, fun q a1 a2 => absurd a1 (by omega)⟩ (fun q a1 a2 => absurd a1 (by omega)) (fun q hq => ⟨by omega, fun a => absurd a (by omega), fun _ => rfl⟩) hS (fun sn' hr c' a1 a2 a3 => ⟨Or.inl rfl, k1 sn' (by rw [← eL]; exact hr) c' a1 a2.1 a3⟩) (fun f' hr c' a1 a2 a3 => ⟨Or.inr rfl, k2 f' (by rw [← eL]; exact hr) c' a1 a2 a3⟩)
  refine vX12_isFillable_0 ?_
  by_cases hm : s ≤ 1
  · refine fin 1 1 hm (fun p' hp' => ?_) (by decide)
    rw [show p' = 0 by omega]
  · have go := downF (P := fun t => pX12_isFillable_5 E (dd + dl + 8) 68 (nI g) x5 (nI (10 ^ (t - 1))) (nI t) (Hm c) K) 1 s (by omega) (fin s _ (Nat.le_refl _) (fun p' hp' => by rw [hp', Nat.add_sub_cancel]) (by omega)) (fun t h1 h2 ih => by
      refine vX12_isFillable_5 (ldR l68 rfl (alI l71 (by decide) (by decide) ?_))
      rw [hN.1]
      refine bLe (fun z => absurd z (by omega)) (fun _ => ?_)
      rw [pk_mul, nI_add, ← Nat.pow_succ, show (t - 1).succ = t + 1 - 1 by omega]
      exact ih)
    exact go
theorem runC {k : Int32} : ∀ (L : List fT) sn, (∀ sn', runL (stC fb fs fl s mir lab k) L sn = .inl sn' → sn' = sn + (L.filter (alw fb fs fl s mir lab)).length ∧ ∀ i, i < (L.filter (alw fb fs fl s mir lab)).length → nI (sn + i) ≠ k) ∧ ∀ f, runL (stC fb fs fl s mir lab k) L sn = .inr f → ∃ i, (L.filter (alw fb fs fl s mir lab))[i]? = some f ∧ nI (sn + i) = k
  | [], sn => ⟨fun sn' h => ⟨(Sum.inl.inj h).symm, fun i hi => absurd hi (Nat.not_lt_zero _)⟩, fun f h => nomatch h⟩
  | f :: L, sn => by
    rw [runL, stC]
    by_cases e : alw fb fs fl s mir lab f = true
    · rw [if_pos e, List.filter_cons, if_pos e]
      by_cases e2 : nI sn = k
      · rw [if_pos e2]
        exact ⟨fun sn' h => (nomatch h), fun f' h => ⟨0, by rw [← Sum.inr.inj h]; rfl, e2⟩⟩
      · rw [if_neg e2]
        obtain ⟨a, b⟩ := runC (k := k) L (sn + 1)
        refine ⟨fun sn' h => ?_, fun f' h => ?_⟩
        · obtain ⟨a1, a2⟩ := a sn' h
          refine ⟨by rw [a1, List.length_cons]; omega, fun i hi => ?_⟩
          cases i with
          | zero => exact e2
          | succ i =>
            have := a2 i (by rw [List.length_cons] at hi; omega)
            rw [show sn + 1 + i = sn + (i + 1) by omega] at this
            exact this
        · obtain ⟨i, b1, b2⟩ := b f' h
          exact ⟨i + 1, b1, by rw [← b2]; congr 1; omega⟩
    · rw [if_neg e, List.filter_cons, if_neg e]
      exact runC L sn
theorem rwL_len (hn : n ≤ 4) (hs : s ≤ 6) (P : fT → Bool) (Q : fT → Bool) : (((rwL N n s lab).filter P).filter Q).length < 2 ^ 31 := by
  have h1 := List.length_filter_le Q ((rwL N n s lab).filter P)
  have h2 := List.length_filter_le P (rwL N n s lab)
  have hlen := en_len (vs := fun _ => rg 1 n) (gd := rgd N s lab) (fun q => by rw [rg_len]; omega) s (fun _ => 0)
  have h6 : 6 ^ s ≤ 6 ^ 6 := Nat.pow_le_pow_right (by decide) hs
  have h7 : (6 : Nat) ^ 6 = 46656 := by decide
  have : (rwL N n s lab).length ≤ 6 ^ s := hlen
  omega
theorem n_fills {sz : szT} {lb : lbT} (hG : Gd n mir N) (hV : VV n mir sz lb) (hN : MN c sz lb) (hB : BrM c fb fs fl) (hM : MT c n mir N) {net x k : Int32} {K : Int32 → gk_H → Prop} (kk : ∀ c', Fm c c' → K (sp_fi fb fs fl n mir N sz lb net x k) (Hm c')) : RnI E mX12_fills (dd + 21, 0, 0) [.ref 68, .int net, .int x, .int k] (Hm c) K := by
  unfold sp_fi at kk
  have n4 := hG.n4
  refine vX12_fills_0 (n_isNet (rng (by decide) (fun h => ?_) (fun j hj hx h => ⟨fun hk => ⟨obj l68, ?_⟩, fun hk => ?_⟩)))
  · have kk := kk c Fm.rf
    rw [if_neg (by rw [h]; simp)] at kk
    exact kk
  · rw [if_pos ⟨h, hk⟩] at kk
    subst hx
    rw [w_nI (by omega)] at kk
    have hv := hV j hj
    have s6 := (hN j hj).2.1
    refine n_isGapOf (by omega) hM (hN j hj) hv ?_
    refine bBn (fun e => ⟨obj l68, n_unsound (by omega) hG hM (hN j hj) hv ?_⟩) (fun e => ?_)
    · rw [if_pos e] at kk
      refine orN_5 (usF_lt (hN j hj).2.1) (fun u => ldR l68 rfl (alI l71 (by omega) (by decide) ?_)) (fun u => ?_)
      · rw [if_pos u] at kk
        rw [(hN j hj).1]
        refine bNe (fun h6 => ⟨obj l68, ?_⟩) (fun h6 => ?_)
        · rw [if_pos (by omega)] at kk
          obtain ⟨g, hg, rfl, hl⟩ := lkX_f e
          rw [w_nI hg] at kk
          refine vX12_looksToFill_0 ⟨obj l68, n_likens (i := j) (j := 5) (by omega) (by decide) (by omega) (hN j hj) (fun c1 f1 N1 => stI l68 rfl (stI l68 rfl (stI l68 rfl ⟨obj l68, ?_⟩)))⟩
          have F1 : Fm c (mI (mI (mI c1 68 10 (nI 0)) 68 11 k) 68 12 (-5)) := (((Fm.ofN f1).slot (by simp)).slot (by simp)).slot (by simp)
          generalize hc2 : mI (mI (mI c1 68 10 (nI 0)) 68 11 k) 68 12 (-5) = c2 at F1
          have N2 : MNet c2 5 (sz j) (lb j) := N1.fr (l := [68]) (by rw [← hc2]; exact ((Fr.rf.mI (by simp)).mI (by simp)).mI (by simp)) (by decide) (by decide)
          have S2 : StC k 0 c2 := by
            rw [← hc2]
            exact ⟨by rw [mI_n (by omega), mI_n (by omega), mI_s], by rw [mI_n (by omega), mI_s], mI_s⟩
          refine n_isFillable (dd := dd) (hM.fm F1) hG hv (by omega) N2 hl hg (fun sn c3 c4 hS h68 => ⟨by rw [h68]; exact hS.1, by rw [h68]; exact hS.2.1, by rw [h68]; exact hS.2.2⟩) (leafC hG hv (by omega) (hB.fm F1)) S2 (fun sn' hr c3 f3 N3 S3 => ?_) (fun f' hr c3 f3 N3 S3 => ?_)
          · obtain ⟨a1, a2⟩ := (runC (k := k) _ 0).1 sn' hr
            have kk := kk c3 (F1.trans f3)
            refine ⟨fun e => ldI l68 rfl ?_, fun e => ldI l68 rfl ?_⟩
            · rw [S3.2.2]
              refine ⟨fun z => absurd rfl z, fun _ => ?_⟩
              rcases ge_m1 hk with e1 | ⟨q, hq, e1⟩
              · exact absurd e1 e
              · subst e1
                rw [gAns, if_neg e, w_nI hq, Nat.sub_zero, List.getElem?_eq_none (Nat.le_of_not_lt (fun z => a2 q (by rw [List.length_map] at z; exact z) (by rw [Nat.zero_add])))] at kk
                exact kk
            · rw [S3.1, a1]
              rw [gAns, if_pos e, List.length_map] at kk
              exact kk
          · obtain ⟨i, a1, a2⟩ := (runC (k := k) _ 0).2 f' hr
            have kk := kk c3 (F1.trans f3)
            have hi : i < 2 ^ 31 := Nat.lt_trans (List.getElem?_eq_some_iff.mp a1).1 (rwL_len n4 s6 _ _)
            rw [Nat.zero_add] at a2
            subst a2
            refine ⟨fun _ => ldI l68 rfl ?_, fun e => absurd e (nI_ne1 hi)⟩
            rw [S3]
            have hx2 : dgD 0 f' (sz j) < 2 ^ 31 := by
              have hm : f' ∈ rwL N n (sz j) (lb j) := (List.mem_filter.mp (List.mem_filter.mp (List.mem_of_getElem? a1)).1).1
              obtain ⟨_, a⟩ := en_sound rgd_L _ _ hm
              have b1 := dgD_lt (u := 0) (f := f') (sz j) (fun q hq => by
                have := (rg_mem _ 1 rfl).mp (a q hq).1
                omega)
              have b2 := p10 s6
              omega
            rw [gAns, if_neg (nI_ne1 hi), w_nI hi, Nat.sub_zero, List.getElem?_map, flL, a1] at kk
            exact ⟨fun _ => ldI l68 rfl (by rw [S3]; exact kk), fun z => absurd z (nI_ne5 hx2)⟩
        · have kk := kk c Fm.rf
          rw [if_neg (by omega)] at kk
          exact kk
      · have kk := kk c Fm.rf
        rw [if_neg u] at kk
        exact kk
    · have kk := kk c Fm.rf
      rw [if_neg (by rw [e]; decide)] at kk
      exact kk
  · have kk := kk c Fm.rf
    rw [if_neg (fun z => hk z.2)] at kk
    exact kk
end MF
