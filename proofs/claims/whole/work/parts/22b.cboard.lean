/-! begin, answer: the class -/
def AqC (c : gm) (aq : List Nat) : Prop := c.1 52 4 = nI aq.length ∧ ∀ i g, aq[i]? = some g → c.1 55 i = nI g
/-- the asks, and slot 4 of the board, may change -/
def FB (c c' : gm) : Prop := Fr [52, 55] c c' ∧ ∀ k, k ≠ 4 → c'.1 52 k = c.1 52 k
theorem FB.rf {c : gm} : FB c c := ⟨Fr.rf, fun _ _ => rfl⟩
theorem FB.trans {c c1 c2 : gm} (h1 : FB c c1) (h2 : FB c1 c2) : FB c c2 := ⟨h1.1.trans h2.1, fun k hk => (h2.2 k hk).trans (h1.2 k hk)⟩
theorem FB.a {c c1 : gm} {i : Nat} {x : Int32} (h : FB c c1) : FB c (mI c1 55 i x) := ⟨h.1.mI (by simp), fun k hk => by rw [mI_n (by omega)]; exact h.2 k hk⟩
theorem FB.n {c c1 : gm} {x : Int32} (h : FB c c1) : FB c (mI c1 52 4 x) := ⟨h.1.mI (by simp), fun k hk => by rw [mI_n (by omega)]; exact h.2 k hk⟩
section CB
variable {E : gk_E} {dd : Nat} {c : gm} {s n N : Nat} {mir : Nat → Nat} {lab : Nat → Nat → Nat} {f : fT} {fb : Bool} {fs : Nat} {fl : Nat → Nat → Nat}
theorem AqC.snoc {c : gm} {A : List Nat} {g : Nat} (h : AqC c A) : AqC (mI (mI c 55 A.length (nI g)) 52 4 (nI (A.length + 1))) (A ++ [g]) := by
  refine ⟨by rw [mI_s, List.length_append]; rfl, fun i v hv => ?_⟩
  rw [mI_n (by omega)]
  by_cases e : i < A.length
  · rw [List.getElem?_append_left e] at hv
    rw [mI_n (by omega)]
    exact h.2 i v hv
  · have hl := (List.getElem?_eq_some_iff.mp hv).1
    rw [List.length_append, List.length_singleton] at hl
    have ei : i = A.length := by omega
    subst ei
    rw [List.getElem?_append_right (Nat.le_refl _), Nat.sub_self] at hv
    rw [mI_s, ← Option.some.inj hv]
theorem c_asksUp (hT : Tab c 2 n mir N) (hN : NetAt c 53 s lab) (v1 : ∀ p q, p < s → q < s → lab p q < 4) {i j : Nat} (hi : i < s) (hj : j < s) {aq : List Nat} (hA : AqC c aq) (hl : aq.length + (blk N n s lab i j).length ≤ 153) {K : gk_H → Prop} (k : ∀ c', FB c c' → AqC c' (aq ++ blk N n s lab i j) → K (Hm c')) : RnV E mX0_append (dd + 2, 0, 0) [.ref 52, .int (nI i), .int (nI j)] (Hm c) K := by
  refine vX0_append_0 (ldR l52 rfl (ldR l52 rfl ⟨obj l53, c_open ⟨l53, l54⟩ ⟨l2, l3⟩ hT hN v1 hi hj ?_⟩))
  refine down (P := fun m => ∀ c' A, FB c c' → AqC c' A → A.length + (((((List.range 16).drop m).filter (opP N n lab i j s))).map (gC i j)).length ≤ 153 → (∀ c', FB c c' → AqC c' (A ++ ((((List.range 16).drop m).filter (opP N n lab i j s))).map (gC i j)) → K (Hm c')) → pX0_append_17 E (dd + 1) 52 (nI i) (nI j) (nI (opn N n s lab i j)) (nI m) (Hm c') K) 16 ?_ ?_ 0 (Nat.zero_le _) c aq FB.rf hA (by rw [List.drop_zero]; exact hl) (by rw [List.drop_zero]; exact k)
  · intro c' A hf hA hl k
    rw [drop_end] at k
    exact vX0_append_17 (bLe (fun _ => k c' hf (by rw [List.filter_nil, List.map_nil, List.append_nil]; exact hA)) (fun z => absurd z (by omega)))
  · intro m hm ih c' A hf hA hl k
    rw [drop_cons hm, List.filter_cons] at hl k
    refine vX0_append_17 (bLe (fun z => absurd z (by omega)) (fun _ => ldI l52 rfl ?_))
    rw [hA.1]
    refine bLe (fun h153 => ?_) (fun h153 => ?_)
    · refine k c' hf ?_
      have : ((if opP N n lab i j s m = true then m :: ((List.range 16).drop (m + 1)).filter (opP N n lab i j s) else ((List.range 16).drop (m + 1)).filter (opP N n lab i j s)).map (gC i j)) = [] := List.eq_nil_of_length_eq_zero (by omega)
      rw [this, List.append_nil]
      exact hA
    · refine bBit (fun e => ?_) (fun e => ldR l52 rfl (ldI l52 rfl ?_)) bfl (by omega)
      · rw [opn, bfn_bit, decide_eq_true hm, Bool.true_and] at e
        rw [if_neg (by rw [e]; decide)] at hl k
        rw [nI_add]
        exact ih c' A hf hA hl k
      · rw [opn, bfn_bit, decide_eq_true hm, Bool.true_and] at e
        rw [if_pos e, List.map_cons] at hl k
        rw [hA.1]
        refine c_gapNumber hm (asI l55 (by omega) (by decide) (ldI l52 rfl ?_))
        rw [mI_n (by omega), hA.1]
        simp only [nI_add]
        refine stI l52 rfl (ih _ (A ++ [gC i j m]) (hf.a.n) hA.snoc ?_ (fun c2 f2 a2 => k c2 f2 ?_))
        · rw [List.length_cons] at hl
          rw [List.length_append, List.length_singleton]
          omega
        · rw [List.append_assoc] at a2
          exact a2
theorem gpL_drop {i : Nat} (hi : i < s) : ((List.range s).drop i).flatMap (fun i => ((List.range s).drop i).flatMap (fun j => blk N n s lab i j)) = ((List.range s).drop i).flatMap (fun j => blk N n s lab i j) ++ ((List.range s).drop (i + 1)).flatMap (fun i => ((List.range s).drop i).flatMap (fun j => blk N n s lab i j)) := by
  rw [drop_cons hi, List.flatMap_cons, ← drop_cons hi]
theorem c_lay {r0 : Nat} (hG : Gd n mir N) (hv : Vl n mir s lab) (hT : Tab c 2 n mir N) (h0 : isNt r0) (d0 : r0 + 1 < 25) (hN : NetAt c r0 s lab) {K : gk_H → Prop} (k : ∀ c', Fr [52, 53, 54, 55] c c' → BdC c' true s lab (gpL N n s lab) 0 → K (Hm c')) : RnV E mX0_lay (dd + 3, 0, 0) [.ref 52, .ref r0] (Hm c) K := by
  have n4 := hG.n4
  have s6 := hN.2.1
  have v1 : ∀ p q, p < s → q < s → lab p q < 4 := fun p q hp hq => Nat.lt_of_lt_of_le (hv p q hp hq).1 n4
  have hle := gpL_153 hG hv s6
  refine vX0_lay_0 (ldR l52 rfl ⟨obj l53, c_become ⟨l53, l54⟩ h0 hN (by omega) (by omega) (by omega) (fun c1 f1 N1 => stI l52 rfl (stI l52 rfl (stI l52 rfl ?_)))⟩)
  generalize hc2 : mI (mI (mI c1 52 1 (nI 1)) 52 4 (nI 0)) 52 5 (nI 0) = c2
  have f2 : Fr [52] c1 c2 := by rw [← hc2]; exact ((Fr.rf.mI (by simp)).mI (by simp)).mI (by simp)
  have e1 : c2.1 52 1 = bI true := by rw [← hc2, mI_n (by omega), mI_n (by omega), mI_s]; rfl
  have e4 : c2.1 52 4 = nI 0 := by rw [← hc2, mI_n (by omega), mI_s]
  have e5 : c2.1 52 5 = nI 0 := by rw [← hc2, mI_s]
  have N2 := N1.fr f2 (by decide) (by decide)
  have T2 := (hT.fr f1 (by decide) (by decide)).fr f2 (by decide) (by decide)
  have F2 : Fr [52, 53, 54, 55] c c2 := (f1.mono (by simp)).trans (f2.mono (by simp))
  refine down (P := fun i => ∀ c' A, FB c2 c' → AqC c' A → A ++ ((List.range s).drop i).flatMap (fun i => ((List.range s).drop i).flatMap (fun j => blk N n s lab i j)) = gpL N n s lab → pX0_lay_25 E (dd + 2) 52 r0 (nI i) (Hm c') K) s ?_ ?_ 0 (Nat.zero_le _) c2 [] FB.rf ⟨e4, fun i g h => nomatch h⟩ (by rw [List.drop_zero]; rfl)
  · intro c' A hf hA he
    have N' := N2.fr hf.1 (by decide) (by decide)
    refine vX0_lay_25 (ldR l52 rfl (ldI l53 rfl ?_))
    rw [N'.1]
    refine bLe (fun _ => ?_) (fun z => absurd z (by omega))
    rw [drop_end, List.flatMap_nil, List.append_nil] at he
    subst he
    exact k c' (F2.trans (hf.1.mono (by simp))) ⟨by rw [hf.2 1 (by decide)]; exact e1, fun _ => ⟨N', hA.1, hle, hA.2, by rw [hf.2 5 (by decide)]; exact e5⟩⟩
  · intro i hi ih c' A hf hA he
    have N' := N2.fr hf.1 (by decide) (by decide)
    refine vX0_lay_25 (ldR l52 rfl (ldI l53 rfl ?_))
    rw [N'.1]
    refine bLe (fun z => absurd z (by omega)) (fun _ => ?_)
    rw [gpL_drop hi] at he
    refine downF (P := fun j => ∀ c' A, FB c2 c' → AqC c' A → A ++ (((List.range s).drop j).flatMap (fun j => blk N n s lab i j) ++ ((List.range s).drop (i + 1)).flatMap (fun i => ((List.range s).drop i).flatMap (fun j => blk N n s lab i j))) = gpL N n s lab → pX0_lay_38 E (dd + 2) 52 r0 (nI i) (nI j) (Hm c') K) i s (by omega) ?_ ?_ c' A hf hA he
    · intro c' A hf hA he
      have N' := N2.fr hf.1 (by decide) (by decide)
      refine vX0_lay_38 (ldR l52 rfl (ldI l53 rfl ?_))
      rw [N'.1, nI_add]
      refine bLe (fun _ => ih c' A hf hA ?_) (fun z => absurd z (by omega))
      rw [drop_end, List.flatMap_nil, List.nil_append] at he
      exact he
    · intro j hj1 hj2 ihj c' A hf hA he
      have N' := N2.fr hf.1 (by decide) (by decide)
      have T' := T2.fr hf.1 (by decide) (by decide)
      refine vX0_lay_38 (ldR l52 rfl (ldI l53 rfl ?_))
      rw [N'.1]
      rw [drop_cons hj2, List.flatMap_cons] at he
      refine bLe (fun z => absurd z (by omega)) (fun _ => ⟨obj l52, c_asksUp T' N' v1 hi hj2 hA ?_ (fun c3 f3 a3 => ?_)⟩)
      · have := congrArg List.length he
        simp only [List.length_append] at this
        omega
      · rw [nI_add]
        refine ihj c3 _ (hf.trans f3) a3 ?_
        rw [← he]
        simp only [List.append_assoc]
theorem c_dropClosed (hT : Tab c 2 n mir N) (hN : NetAt c 53 s lab) (v1 : ∀ p q, p < s → q < s → lab p q < 4) {aq : List Nat} (hA : AqC c aq) (hl : aq.length ≤ 153) (hq : ∀ g, g ∈ aq → g < 2 ^ 31) {K : gk_H → Prop} (k : ∀ c', FB c c' → AqC c' (aq.filter (lkB N n s lab)) → K (Hm c')) : RnV E mX0_dropClosed (dd + 3, 0, 0) [.ref 52] (Hm c) K := by
  refine vX0_dropClosed_0 ?_
  have go : ∀ (R P : List Nat) c', aq = P ++ R → FB c c' → c'.1 52 4 = nI aq.length → (∀ i g, (P.filter (lkB N n s lab))[i]? = some g → c'.1 55 i = nI g) → (∀ i, P.length ≤ i → c'.1 55 i = c.1 55 i) → pX0_dropClosed_4 E (dd + 2) 52 (nI (P.filter (lkB N n s lab)).length) (nI P.length) (Hm c') K := by
    intro R
    induction R with
    | nil =>
      intro P c' he hf h4 h1 h2
      rw [List.append_nil] at he
      subst he
      refine vX0_dropClosed_4 (ldI l52 rfl ?_)
      rw [h4]
      refine bLe (fun _ => stI l52 rfl (k _ hf.n ⟨mI_s, fun i g hg => by rw [mI_n (by omega)]; exact h1 i g hg⟩)) (fun z => absurd z (by omega))
    | cons g R ih =>
      intro P c' he hf h4 h1 h2
      have hlen : aq.length = P.length + (R.length + 1) := by rw [he, List.length_append, List.length_cons]
      have hg : aq[P.length]? = some g := by rw [he, List.getElem?_append_right (Nat.le_refl _), Nat.sub_self]; rfl
      have hfl := List.length_filter_le (lkB N n s lab) P
      have hg2 := hq g (by rw [he]; simp)
      refine vX0_dropClosed_4 (ldI l52 rfl ?_)
      rw [h4]
      refine bLe (fun z => absurd z (by omega)) (fun _ => ldR l52 rfl (ldR l52 rfl (ldR l52 rfl (alI l55 (by omega) (by decide) ⟨obj l53, ?_⟩))))
      rw [h2 _ (Nat.le_refl _), hA.2 _ g hg]
      refine c_lacks ⟨l53, l54⟩ ⟨l2, l3⟩ (hT.fr hf.1 (by decide) (by decide)) (hN.fr hf.1 (by decide) (by decide)) v1 ?_
      have ex : lkX N n s lab (nI g) = lkB N n s lab g := by unfold lkX; rw [if_neg (nI_nn hg2), w_nI hg2]
      rw [ex]
      have eP : P ++ g :: R = (P ++ [g]) ++ R := by rw [List.append_assoc]; rfl
      refine bB0 (fun e => ?_) (fun e => ldR l52 rfl (ldR l52 rfl (alI l55 (by omega) (by decide) ?_)))
      · have ih := ih (P ++ [g]) c' (he.trans eP) hf h4 (by rw [List.filter_append, List.filter_cons, if_neg (by rw [e]; decide), List.filter_nil, List.append_nil]; exact h1) (fun i hi => h2 i (by rw [List.length_append] at hi; omega))
        rw [List.filter_append, List.filter_cons, if_neg (by rw [e]; decide), List.filter_nil, List.append_nil, List.length_append, List.length_singleton] at ih
        rw [nI_add]
        exact ih
      · rw [h2 _ (Nat.le_refl _), hA.2 _ g hg]
        refine asI l55 (by omega) (by decide) ?_
        have ih := ih (P ++ [g]) (mI c' 55 (P.filter (lkB N n s lab)).length (nI g)) (he.trans eP) hf.a (by rw [mI_n (by omega)]; exact h4) (fun i v hv => ?_) (fun i hi => by rw [List.length_append, List.length_singleton] at hi; rw [mI_n (by omega)]; exact h2 i (by omega))
        · rw [List.filter_append, List.filter_cons, if_pos e, List.filter_nil, List.length_append, List.length_append, List.length_singleton] at ih
          simp only [nI_add]
          exact ih
        · rw [List.filter_append, List.filter_cons, if_pos e, List.filter_nil] at hv
          by_cases ei : i < (P.filter (lkB N n s lab)).length
          · rw [List.getElem?_append_left ei] at hv
            rw [mI_n (by omega)]
            exact h1 i v hv
          · have hl2 := (List.getElem?_eq_some_iff.mp hv).1
            rw [List.length_append, List.length_singleton] at hl2
            have ee : i = (P.filter (lkB N n s lab)).length := by omega
            subst ee
            rw [List.getElem?_append_right (Nat.le_refl _), Nat.sub_self] at hv
            rw [mI_s, ← Option.some.inj hv]
  exact go aq [] c rfl FB.rf hA.1 (fun i g h => nomatch h) (fun _ _ => rfl)
theorem c_extend {bl : Nat → Nat → Nat} {an : Nat} (hG : Gd n mir N) (hv : Vl n mir (s + 1) (gl s mir f lab)) (hT : Tab c 2 n mir N) (hs : s < 6) {aq : List Nat} (hB : BdC c true s lab aq an) (hrow : ∀ i, i < s → c.1 32 i = nI (f i) ∧ f i < 4) (hq : ∀ g, g ∈ aq → g < 2 ^ 31) (hlen : (aq.filter (lkB N n (s + 1) (gl s mir f lab)) ++ nwL N n s (gl s mir f lab)).length ≤ 153) {K : gk_H → Prop} (k : ∀ c', Fr [52, 53, 54, 55] c c' → BdC c' true (s + 1) (gl s mir f lab) (aq.filter (lkB N n (s + 1) (gl s mir f lab)) ++ nwL N n s (gl s mir f lab)) (an + 1) → K (Hm c')) : RnV E mX0_extend (dd + 4, 0, 0) [.ref 52, .ref 32] (Hm c) K := by
  have n4 := hG.n4
  have v1 : ∀ p q, p < s + 1 → q < s + 1 → gl s mir f lab p q < 4 := fun p q hp hq => Nat.lt_of_lt_of_le (hv p q hp hq).1 n4
  obtain ⟨b1, b2, b3, b4, b5⟩ := hB.2 rfl
  refine vX0_extend_0 (ldR l52 rfl (ldR l52 rfl ⟨obj l53, c_grow ⟨l53, l54⟩ ⟨l2, l3⟩ (by decide) (by decide) l32 (by decide) (by decide) hT.2.2.2.2.2 b1 hs hrow (fun c1 f1 N1 => ldI l52 rfl ?_)⟩))
  rw [f1.i (by decide), b5, nI_add]
  refine stI l52 rfl ⟨obj l52, ?_⟩
  have f2 : Fr [52] c1 (mI c1 52 5 (nI (an + 1))) := Fr.rf.mI (by simp)
  have N2 := N1.fr f2 (by decide) (by decide)
  have T2 := (hT.fr f1 (by decide) (by decide)).fr f2 (by decide) (by decide)
  have A2 : AqC (mI c1 52 5 (nI (an + 1))) aq := ⟨by rw [mI_n (by omega), f1.i (by decide)]; exact b2, fun i g hg => by rw [mI_n (by omega), f1.i (by decide)]; exact b4 i g hg⟩
  refine c_dropClosed (dd := dd) T2 N2 v1 A2 b3 hq (fun c3 f3 A3 => ldR l52 rfl (ldI l53 rfl ?_))
  have N3 := N2.fr f3.1 (by decide) (by decide)
  have T3 := T2.fr f3.1 (by decide) (by decide)
  rw [N3.1, nI_sub1 (by omega), Nat.add_sub_cancel]
  have F3 : Fr [52, 53, 54, 55] c c3 := ((f1.mono (by simp)).trans (f2.mono (by simp))).trans (f3.1.mono (by simp))
  have e5 : c3.1 52 5 = nI (an + 1) := by rw [f3.2 5 (by decide), mI_s]
  have e1 : c3.1 52 1 = bI true := by rw [f3.2 1 (by decide), mI_n (by omega), f1.i (by decide)]; exact hB.1
  refine down (P := fun i => ∀ c' A, FB c3 c' → AqC c' A → A ++ ((List.range (s + 1)).drop i).flatMap (fun i => blk N n (s + 1) (gl s mir f lab) i s) = aq.filter (lkB N n (s + 1) (gl s mir f lab)) ++ nwL N n s (gl s mir f lab) → pX0_extend_38 E (dd + 3) 52 32 (nI s) (nI i) (Hm c') K) (s + 1) ?_ ?_ 0 (Nat.zero_le _) c3 _ FB.rf A3 (by rw [List.drop_zero]; rfl)
  · intro c' A hf hA he
    refine vX0_extend_38 (bLt (fun _ => ?_) (fun z => absurd z (by omega)))
    rw [drop_end, List.flatMap_nil, List.append_nil] at he
    subst he
    exact k c' (F3.trans (hf.1.mono (by simp))) ⟨by rw [hf.2 1 (by decide)]; exact e1, fun _ => ⟨N3.fr hf.1 (by decide) (by decide), hA.1, hlen, hA.2, by rw [hf.2 5 (by decide)]; exact e5⟩⟩
  · intro i hi ih c' A hf hA he
    rw [drop_cons hi, List.flatMap_cons] at he
    refine vX0_extend_38 (bLt (fun z => absurd z (by omega)) (fun _ => ⟨obj l52, c_asksUp (dd := dd + 1) (T3.fr hf.1 (by decide) (by decide)) (N3.fr hf.1 (by decide) (by decide)) v1 hi (Nat.lt_succ_self s) hA ?_ (fun c4 f4 a4 => ?_)⟩))
    · have := congrArg List.length he
      rw [List.length_append] at hlen
      simp only [List.length_append] at this
      omega
    · rw [nI_add]
      refine ih c4 _ (hf.trans f4) a4 ?_
      rw [← he, List.append_assoc]
/-- whether digits fill a gap -/
def flO (fb : Bool) (fs : Nat) (fl : Nat → Nat → Nat) (N n : Nat) (mir : Nat → Nat) (s : Nat) (lab : Nat → Nat → Nat) (g : Nat) (x : Int32) : Bool := lkB N n s lab g && (aAt n x s 0 && ((rowD x (g / 1000) == g / 10 % 10 && rowD x (g / 100 % 10) == mir (g % 10)) && ply fb fs fl N (s + 1) (gl s mir (rowD x) lab)))
theorem row_ok1 {x : Int32} (h4 : n ≤ 4) (h : aAt n x s 0 = true) : ∀ a, a < s → 1 ≤ rowD x a ∧ rowD x a < n := fun a ha => by
  have h1 := (aAt_all s (Nat.le_refl _) h a ha).1
  have h2 := inR1_nI (by omega) h1
  exact ⟨h2.1, h2.2.1⟩
theorem c_isFilledBy (hG : Gd n mir N) (hv : Vl n mir s lab) (hT : Tab c 2 n mir N) (hs : s < 6) (hN : NetAt c 53 s lab) (hB : BrC c fb fs fl) {g : Nat} (hg : g < 2 ^ 31) {x : Int32} {K : Int32 → gk_H → Prop} (k : ∀ c', Fr [25, 26, 27, 28, 30, 31, 32] c c' → (flO fb fs fl N n mir s lab g x = true → ∀ i, i < s → c'.1 32 i = nI (rowD x i) ∧ rowD x i < 4) → K (bI (flO fb fs fl N n mir s lab g x)) (Hm c')) : RnI E mX1_isFilledBy (dd + 4, 0, 0) [.ref 29, .ref 53, .int (nI g), .int x] (Hm c) K := by
  have n4 := hG.n4
  have v1 : ∀ p q, p < s → q < s → lab p q < 4 := fun p q hp hq => Nat.lt_of_lt_of_le (hv p q hp hq).1 n4
  refine vX1_isFilledBy_0 (ldR l29 rfl (ldR l1 rfl ⟨obj l53, c_lacks (dd := dd + 1) ⟨l53, l54⟩ ⟨l2, l3⟩ hT hN v1 ?_⟩))
  rw [show lkX N n s lab (nI g) = lkB N n s lab g from by unfold lkX; rw [if_neg (nI_nn hg), w_nI hg]]
  refine bB0 (fun e => ?_) (fun e => ldI l53 rfl ⟨obj l29, ?_⟩)
  · have k := k c Fr.rf (fun h => by rw [flO, e] at h; exact absurd h (by simp))
    rw [flO, e] at k
    exact k
  · rw [hN.1]
    obtain ⟨h1, h2, h3, h4, h5, h6, h7, h8, h9⟩ := lkB_f hG hv e
    obtain ⟨q1, q2, q3, q4⟩ := gdig hg
    refine c_spread hT (by omega) (fun c1 f1 r1 => bBn (fun ea => ldR l29 rfl ?_) (fun ea => ?_))
    · have T1 := hT.fr f1 (by decide) (by decide)
      have N1 := hN.fr f1 (by decide) (by decide)
      have B1 := hB.fr f1 (by decide) (by decide) (by decide)
      have F1 : Fr [25, 26, 27, 28, 30, 31, 32] c c1 := f1.mono (by simp)
      have row1 : ∀ i, i < s → c1.1 32 i = nI (rowD x i) ∧ rowD x i < 4 := fun i hi => ⟨(r1 ea i hi).trans (row_ok n4 ea i hi).1, (row_ok n4 ea i hi).2⟩
      have rk := row_ok1 n4 ea
      rw [q1, q2, q3, q4]
      have tail : ∀ b : Bool, (b = (rowD x (g / 1000) == g / 10 % 10 && rowD x (g / 100 % 10) == mir (g % 10))) → LdR (Hm c1) 29 1 2 fun v8 => (∃ fs, (Hm c1)[v8]? = some (.inr (3, fs))) ∧ RnV E mX3_become (dd + 3, 0, 0) [.ref v8, .ref 53] (Hm c1) (fun h9 => LdR h9 29 1 2 fun v10 => LdR h9 29 1 4 fun v11 => LdR h9 29 1 0 fun v12 => LdR h9 v12 7 0 fun v13 => (∃ fs, h9[v10]? = some (.inr (3, fs))) ∧ RnV E mX3_grow (dd + 3, 0, 0) [.ref v10, .ref v11, .ref v13] h9 (fun h14 => ((bI b) = 0 → K (nI 0) h14) ∧ (¬ (bI b) = 0 → LdR h14 29 1 2 fun v15 => LdR h14 29 1 0 fun v16 => LdR h14 v16 7 0 fun v17 => (∃ fs, h14[v15]? = some (.inr (3, fs))) ∧ RnI E mX3_unsound (dd + 3, 0, 0) [.ref v15, .ref v17] h14 (fun v18 h18 => (¬ v18 = ((-5)) → K (nI 0) h18) ∧ (v18 = ((-5)) → LdR h18 29 1 1 fun v19 => LdR h18 29 1 2 fun v20 => (∃ fs, h18[v19]? = some (.inr (4, fs))) ∧ RnI E mX4_isBarred (dd + 3, 0, 0) [.ref v19, .ref v20] h18 (fun v21 h21 => (¬ v21 = 0 → K (nI 0) h21) ∧ (v21 = 0 → K (nI 1) h21))))))) := by
        intro b hb
        refine ldR l29 rfl ⟨obj l30, c_become ⟨l30, l31⟩ ⟨l53, l54⟩ N1 (by omega) (by omega) (by omega) (fun c2 f2 N2 => ldR l29 rfl (ldR l29 rfl (ldR l29 rfl (ldR l1 rfl ⟨obj l30, ?_⟩))))⟩
        have T2 := T1.fr f2 (by decide) (by decide)
        have row2 : ∀ i, i < s → c2.1 32 i = nI (rowD x i) ∧ rowD x i < 4 := fun i hi => by rw [f2.i (by decide)]; exact row1 i hi
        refine c_grow ⟨l30, l31⟩ ⟨l2, l3⟩ (by decide) (by decide) l32 (by decide) (by decide) T2.2.2.2.2.2 N2 hs row2 (fun c3 f3 N3 => ?_)
        have F3 : Fr [25, 26, 27, 28, 30, 31, 32] c c3 := (F1.trans (f2.mono (by simp))).trans (f3.mono (by simp))
        have row3 : ∀ i, i < s → c3.1 32 i = nI (rowD x i) ∧ rowD x i < 4 := fun i hi => by rw [f3.i (by decide)]; exact row2 i hi
        have T3 := T2.fr f3 (by decide) (by decide)
        have B3 := (B1.fr f2 (by decide) (by decide) (by decide)).fr f3 (by decide) (by decide) (by decide)
        have vg := gl_v (s := s) (lab := lab) hG.m4 (fun i hi => (row1 i hi).2) v1
        refine bB0 (fun e0 => ?_) (fun e0 => ldR l29 rfl (ldR l29 rfl (ldR l1 rfl ⟨obj l30, c_unsound ⟨l30, l31⟩ ⟨l2, l3⟩ T3 N3 vg ((orN_5 (usF_lt N3.2.1) (fun u => ldR l29 rfl (ldR l29 rfl ⟨obj l25, ?_⟩)) (fun u => ?_)).symm)⟩)))
        · have k := k c3 F3 (fun _ => row3)
          rw [flO, e, ea, ← hb, e0] at k
          exact k
        · have k := k c3 F3 (fun _ => row3)
          rw [flO, e, ea, ← hb, e0, ply, show (usF N (s + 1) (gl s mir (rowD x) lab)).isNone = false from by cases h : usF N (s + 1) (gl s mir (rowD x) lab) with
            | none => exact absurd h u
            | some v => rfl] at k
          exact k
        · refine c_isBarred (dd := dd) B3.1 (fun e => (B3.2 e).1) ⟨l30, l31⟩ (by decide) (by decide) (by decide) N3 (fun e => (B3.2 e).2) vg (fun c4 f4 => ?_)
          have k := k c4 (F3.trans (f4.mono (by simp))) (fun _ i hi => by rw [f4.i (by decide)]; exact row3 i hi)
          rw [flO, e, ea, ← hb, e0, ply, u] at k
          exact bBn (fun e => by rw [e] at k; exact k) (fun e => by rw [e] at k; exact k)
      refine alI l32 (by omega) (by decide) ?_
      rw [(row1 _ (by omega)).1]
      have ri := (row1 (g / 1000) (by omega)).2
      have rj := (row1 (g / 100 % 10) h2).2
      refine bNe (fun e1 => ⟨fun _ => ?_, fun z => absurd rfl z⟩) (fun e1 => ⟨fun z => absurd z (by decide), fun _ => ldR l29 rfl (alI l32 (by omega) (by decide) (ldR l29 rfl (ldR l1 rfl (ldR l2 rfl (alI l3 (by omega) (by decide) ?_)))))⟩) (by omega) (by omega)
      · exact tail false (by rw [show (rowD x (g / 1000) == g / 10 % 10) = false by simpa using e1]; rfl)
      · rw [(row1 _ h2).1, (T1.2.2.2.2.2 (g % 10) (by omega)).1]
        refine bNe (fun e2 => ?_) (fun e2 => ?_) (by omega) (by omega)
        · exact tail false (by rw [show (rowD x (g / 100 % 10) == mir (g % 10)) = false by simpa using e2, Bool.and_false])
        · exact tail true (by rw [e1, e2]; simp)
    · have k := k c1 (f1.mono (by simp)) (fun h => by rw [flO, e, ea] at h; exact absurd h (by simp))
      rw [flO, e, ea] at k
      exact k
/-- what the board's asks are: numbers of gaps of s nodes (they were gaps once) -/
def AqV (_ _ s : Nat) (_ : Nat → Nat → Nat) (aq : List Nat) : Prop := aq.Nodup ∧ ∀ g, g ∈ aq → g < 6000 ∧ g / 100 % 10 < s
theorem gpL_lt {g : Nat} (hs : s ≤ 6) (h : g ∈ gpL N n s lab) : g < 6000 := by
  obtain ⟨i, hi, hi2⟩ := List.getElem_of_mem h
  exact (gpL_len hs i g (by rw [List.getElem?_eq_some_iff]; exact ⟨hi, hi2⟩)).2
theorem gpL_j {g : Nat} (hs : s ≤ 6) (h : g ∈ gpL N n s lab) : g / 100 % 10 < s := by
  obtain ⟨i, j, m, h1, h2, h3, h4, rfl⟩ := gpL_mem h
  rw [gC_j (by omega) h3]
  exact h2
theorem AqV.of {aq : List Nat} (hs : s ≤ 6) (h1 : aq.Nodup) (h2 : ∀ g, g ∈ aq → g ∈ gpL N n s lab) : AqV N n s lab aq := ⟨h1, fun g hg => ⟨gpL_lt hs (h2 g hg), gpL_j hs (h2 g hg)⟩⟩
theorem AqV.new (hG : Gd n mir N) (hs : s + 1 ≤ 6) {lab2 : Nat → Nat → Nat} (hv : Vl n mir (s + 1) lab2) {aq : List Nat} (h : AqV N n s lab aq) : AqV N n (s + 1) lab2 (aq.filter (lkB N n (s + 1) lab2) ++ nwL N n s lab2) ∧ (aq.filter (lkB N n (s + 1) lab2) ++ nwL N n s lab2).length ≤ 153 := by
  have key : (aq.filter (lkB N n (s + 1) lab2) ++ nwL N n s lab2).Nodup ∧ ∀ g, g ∈ aq.filter (lkB N n (s + 1) lab2) ++ nwL N n s lab2 → g ∈ gpL N n (s + 1) lab2 := by
    rw [← nwL_eq hs]
    refine ⟨?_, fun g hg => ?_⟩
    · rw [List.nodup_append]
      refine ⟨h.1.filter _, ((gpL_sorted hs).imp (fun h => Nat.ne_of_lt h)).filter _, fun a ha b hb e => ?_⟩
      have h1 := (h.2 a (List.mem_filter.mp ha).1).2
      have h2 := (List.mem_filter.mp hb).2
      rw [beq_iff_eq] at h2
      rw [e] at h1
      omega
    · rcases List.mem_append.mp hg with hg | hg
      · exact (lkB_gp hG.n4 hs).mp (List.mem_filter.mp hg).2
      · exact (List.mem_filter.mp hg).1
  exact ⟨AqV.of hs key.1 key.2, Nat.le_trans (nodup_len _ _ key.1 key.2) (gpL_153 hG hv hs)⟩
/-- begin(): a refusal -/
def bg0 (fb : Bool) (fs : Nat) (fl : Nat → Nat → Nat) (N : Nat) (sz : szT) (lb : lbT) (x : Int32) : Option Int32 := if inR x 0 (3 : Nat) = true then (if ply fb fs fl N (sz (w x)) (lb (w x)) = true then none else some (-3)) else some (-1)
theorem c_begin {sz : szT} {lb : lbT} (hG : Gd n mir N) (hV : VV n mir sz lb) (hN : NN c sz lb) (hB : BrC c fb fs fl) (hT : Tab c 2 n mir N) {x : Int32} {K : Int32 → gk_H → Prop} (k1 : ∀ r, bg0 fb fs fl N sz lb x = some r → ∀ c', Fr [25, 26, 27, 28] c c' → K r (Hm c')) (k2 : bg0 fb fs fl N sz lb x = none → ∀ c', Fr [25, 26, 27, 28, 52, 53, 54, 55] c c' → BdC c' true (sz (w x)) (lb (w x)) (gpL N n (sz (w x)) (lb (w x))) 0 → K (nI (gpL N n (sz (w x)) (lb (w x))).length) (Hm c')) : RnI E mX11_begin (dd + 5, 0, 0) [.ref 0, .int x] (Hm c) K := by
  unfold bg0 at k1 k2
  refine vX11_begin_0 (c_isNet (rngN (by decide) (fun j hj hx h => ldR l0 rfl (ldR l1 rfl ?_)) (fun h => k1 _ (by rw [if_neg (by rw [h]; decide)]) c Fr.rf)))
  rw [if_pos h] at k1 k2
  subst hx
  rw [w_nI (by omega)] at k1 k2
  refine alR (t := 0) l4 hj (by decide) (nets_at j hj) ⟨obj l0, c_isPlayable hG (hV j hj) hT (isNt_net hj) (by omega) (hN j hj) hB (fun c1 f1 => bBn (fun e => ldR l0 rfl (ldR l0 rfl (ldR l1 rfl ?_))) (fun e => k1 _ (by rw [if_neg (by rw [e]; decide)]) c1 f1))⟩
  refine alR (t := 0) l4 hj (by decide) (nets_at j hj) ⟨obj l52, c_lay (dd := dd + 1) hG (hV j hj) (hT.fr f1 (by decide) (by decide)) (isNt_net hj) (by omega) ((hN j hj).fr f1 (by simp; omega) (by simp; omega)) (fun c2 f2 b2 => ldR l0 rfl (ldI l52 rfl ?_))⟩
  rw [(b2.2 rfl).2.1]
  exact k2 (by rw [if_pos e]) c2 ((f1.mono (by simp)).trans (f2.mono (by simp))) b2
/-- answer(): a refusal -/
def an0 (fb : Bool) (fs : Nat) (fl : Nat → Nat → Nat) (N n : Nat) (mir : Nat → Nat) (bd : Bool) (bs : Nat) (bl : Nat → Nat → Nat) (aq : List Nat) (x : Int32) : Option Int32 := if bd = true then (match aq with
  | [] => some (-3)
  | g :: _ => if bs < 6 then (if flO fb fs fl N n mir bs bl g x = true then none else some (-5)) else some (-4)) else some (-3)
theorem c_answer {bd : Bool} {bs an : Nat} {bl : Nat → Nat → Nat} {aq : List Nat} (hG : Gd n mir N) (hv : bd = true → Vl n mir bs bl) (hB : BrC c fb fs fl) (hT : Tab c 2 n mir N) (hD : BdC c bd bs bl aq an) (hq : bd = true → AqV N n bs bl aq) {x : Int32} {K : Int32 → gk_H → Prop} (k1 : ∀ r, an0 fb fs fl N n mir bd bs bl aq x = some r → ∀ c', Fr [25, 26, 27, 28, 30, 31, 32] c c' → K r (Hm c')) (k2 : an0 fb fs fl N n mir bd bs bl aq x = none → ∀ c', Fr [25, 26, 27, 28, 30, 31, 32, 52, 53, 54, 55] c c' → BdC c' true (bs + 1) (gl bs mir (rowD x) bl) (aq.filter (lkB N n (bs + 1) (gl bs mir (rowD x) bl)) ++ nwL N n bs (gl bs mir (rowD x) bl)) (an + 1) → K (nI (aq.filter (lkB N n (bs + 1) (gl bs mir (rowD x) bl)) ++ nwL N n bs (gl bs mir (rowD x) bl)).length) (Hm c')) : RnI E mX11_answer (dd + 5, 0, 0) [.ref 0, .int x] (Hm c) K := by
  unfold an0 at k1 k2
  have n4 := hG.n4
  refine vX11_answer_0 (ldR l0 rfl (ldI l52 rfl ?_))
  rw [hD.1]
  refine bB0 (fun e => k1 _ (by rw [if_neg (by rw [e]; decide)]) c Fr.rf) (fun e => ldR l0 rfl (ldI l52 rfl ?_))
  rw [if_pos e] at k1 k2
  subst e
  obtain ⟨b1, b2, b3, b4, b5⟩ := hD.2 rfl
  have hv := hv rfl
  have hq := hq rfl
  have s6 := b1.2.1
  rw [b2]
  cases aq with
  | nil => exact ⟨fun z => absurd rfl z, fun _ => k1 _ rfl c Fr.rf⟩
  | cons g t =>
    dsimp only at k1 k2
    refine bN0 (fun _ => ldR l0 rfl (ldR l52 rfl (ldI l53 rfl ?_))) (fun z => absurd z (by simp))
    rw [b1.1]
    refine bLt (fun h6 => ldR l0 rfl (ldR l0 rfl (ldR l52 rfl (ldR l0 rfl (ldR l52 rfl (alI l55 (by decide) (by decide) ⟨obj l29, ?_⟩)))))) (fun h6 => k1 _ (by rw [if_neg (by omega)]) c Fr.rf)
    rw [if_pos h6] at k1 k2
    rw [b4 0 g rfl]
    have hg : g < 2 ^ 31 := by have := (hq.2 g List.mem_cons_self).1; omega
    refine c_isFilledBy (dd := dd) hG hv hT h6 b1 hB hg (fun c1 f1 row => bBn (fun e => ldR l0 rfl (ldR l0 rfl (ldR l29 rfl ⟨obj l52, ?_⟩))) (fun e => k1 _ (by rw [if_neg (by rw [e]; decide)]) c1 f1))
    have k2 := k2 (by rw [if_pos e])
    have ea : aAt n x bs 0 = true := by
      unfold flO at e
      simp only [Bool.and_eq_true] at e
      exact e.2.1
    have vg : Vl n mir (bs + 1) (gl bs mir (rowD x) bl) := gl_Vl hG hv (row_ok1 n4 ea)
    have nw := hq.new hG (by omega) vg
    have D1 : BdC c1 true bs bl (g :: t) an := ⟨by rw [f1.i (by decide)]; exact hD.1, fun _ => ⟨b1.fr f1 (by decide) (by decide), by rw [f1.i (by decide)]; exact b2, b3, fun i v hv => by rw [f1.i (by decide)]; exact b4 i v hv, by rw [f1.i (by decide)]; exact b5⟩⟩
    refine c_extend (dd := dd) (bl := bl) hG vg (hT.fr f1 (by decide) (by decide)) h6 D1 (row e) (fun y hy => by have := (hq.2 y hy).1; omega) nw.2 (fun c2 f2 d2 => ldR l0 rfl (ldI l52 rfl ?_))
    rw [(d2.2 rfl).2.1]
    exact k2 c2 ((f1.mono (by simp)).trans (f2.mono (by simp))) d2
end CB
