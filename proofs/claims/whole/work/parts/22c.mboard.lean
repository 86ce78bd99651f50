/-! begin, answer: the reference -/
def FD (c c' : gm) : Prop := F8 [71, 72, 73] [6, 8, 9, 10, 11, 12] c c' ∧ ∀ i s l, i < 4 → MNet c i s l → MNet c' i s l
theorem FD.rf {c : gm} : FD c c := ⟨F8.rf, fun _ _ _ _ h => h⟩
theorem FD.trans {c c1 c2 : gm} (h1 : FD c c1) (h2 : FD c1 c2) : FD c c2 := ⟨h1.1.trans h2.1, fun i s l hi h => h2.2 i s l hi (h1.2 i s l hi h)⟩
theorem FD.fm {c c' : gm} (h : Fm c c') : FD c c' := ⟨h.1.mono (by simp) (by simp), fun i s l hi hm => hm.fm h (by omega)⟩
theorem FD.n4 {c c' : gm} (h : FrN 4 c c') : FD c c' := ⟨F8.of (h.1.mono (by simp)) (by decide), fun i s l hi hm => hm.frN h (by omega)⟩
theorem FD.slot {c c1 : gm} {k : Nat} {x : Int32} (h : FD c c1) (hk : k ∈ [6, 8, 9, 10, 11, 12]) : FD c (mI c1 68 k x) := ⟨h.1.slot hk, fun i s l hi hm => (h.2 i s l hi hm).fr (l := [68]) (Fr.rf.mI (by simp)) (by decide) (by decide)⟩
theorem FD.a {c c1 : gm} {k : Nat} {x : Int32} (h : FD c c1) : FD c (mI c1 73 k x) := ⟨h.1.put (by simp) (by decide), fun i s l hi hm => (h.2 i s l hi hm).fr (l := [73]) (Fr.rf.mI (by simp)) (by decide) (by decide)⟩
theorem MT.fd {c c' : gm} {n N : Nat} {mir : Nat → Nat} (h : MT c n mir N) (hf : FD c c') : MT c' n mir N := h.f8 hf.1 (by decide) (by decide) (by decide)
def AqM (c : gm) (aq : List Nat) : Prop := c.1 68 8 = nI aq.length ∧ ∀ i g, aq[i]? = some g → c.1 73 i = nI g
section MB
variable {E : gk_E} {dd : Nat} {c : gm} {s n N : Nat} {mir : Nat → Nat} {lab : Nat → Nat → Nat} {f : fT} {fb : Bool} {fs : Nat} {fl : Nat → Nat → Nat}
theorem AqM.snoc {c : gm} {A : List Nat} {g : Nat} (h : AqM c A) : AqM (mI (mI c 73 A.length (nI g)) 68 8 (nI (A.length + 1))) (A ++ [g]) := by
  refine ⟨by rw [mI_s, List.length_append]; rfl, fun i v hv => ?_⟩
  rw [mI_n (by omega)]
  by_cases e : i < A.length
  · rw [List.getElem?_append_left e] at hv
    rw [mI_n (by omega)]
    exact h.2 i v hv
  · have hl := (List.getElem?_eq_some_iff.mp hv).1
    rw [List.length_append, List.length_singleton] at hl
    have ei : i = A.length := by omega
    subst ei
    rw [List.getElem?_append_right (Nat.le_refl _), Nat.sub_self] at hv
    rw [mI_s, ← Option.some.inj hv]
theorem get_dropc {α : Type} {M L : List α} {m : Nat} {g : α} (h : M.drop m = g :: L) : M[m]? = some g := by
  have := congrArg List.head? h
  rw [List.head?_drop] at this
  exact this
theorem n_begin {sz : szT} {lb : lbT} (hG : Gd n mir N) (hV : VV n mir sz lb) (hN : MN c sz lb) (hB : BrM c fb fs fl) (hM : MT c n mir N) {x : Int32} {K : Int32 → gk_H → Prop} (k1 : ∀ r, bg0 fb fs fl N sz lb x = some r → ∀ c', F8 [] [10, 11, 12] c c' → K r (Hm c')) (k2 : bg0 fb fs fl N sz lb x = none → ∀ c', FD c c' → BdM c' true (sz (w x)) (lb (w x)) (gpL N n (sz (w x)) (lb (w x))) 0 → K (nI (gpL N n (sz (w x)) (lb (w x))).length) (Hm c')) : RnI E mX12_begin (dd + 12, 0, 0) [.ref 68, .int x] (Hm c) K := by
  unfold bg0 at k1 k2
  refine vX12_begin_0 (n_isNet (rngN (by decide) (fun j hj hx h => ⟨obj l68, ?_⟩) (fun h => k1 _ (by rw [if_neg (by rw [h]; decide)]) c F8.rf)))
  rw [if_pos h] at k1 k2
  subst hx
  rw [w_nI (by omega)] at k1 k2
  have hv := hV j hj
  have s6 := (hN j hj).2.1
  have hle := gpL_153 hG hv s6
  refine n_isPlayed (by omega) hM hG hv (hN j hj) hB (fun c1 f1 => bBn (fun e => ⟨obj l68, ?_⟩) (fun e => k1 _ (by rw [if_neg (by rw [e]; decide)]) c1 f1))
  have k2 := k2 (by rw [if_pos e])
  refine n_likens (i := j) (j := 4) (by omega) (by decide) (by omega) ((hN j hj).fr f1.1 (by decide) (by decide)) (fun c2 f2 N2 => stI l68 rfl (stI l68 rfl (stI l68 rfl ⟨obj l68, ?_⟩)))
  have F3 : FD c (mI (mI (mI c2 68 6 (nI 1)) 68 8 (nI 0)) 68 9 (nI 0)) := ((((FD.fm (Fm.of8 f1)).trans (FD.n4 f2)).slot (by simp)).slot (by simp)).slot (by simp)
  generalize hc3 : mI (mI (mI c2 68 6 (nI 1)) 68 8 (nI 0)) 68 9 (nI 0) = c3 at F3
  have N3 : MNet c3 4 (sz j) (lb j) := N2.fr (l := [68]) (by rw [← hc3]; exact ((Fr.rf.mI (by simp)).mI (by simp)).mI (by simp)) (by decide) (by decide)
  have e6 : c3.1 68 6 = bI true := by rw [← hc3, mI_n (by omega), mI_n (by omega), mI_s]; rfl
  have e8 : c3.1 68 8 = nI 0 := by rw [← hc3, mI_n (by omega), mI_s]
  have e9 : c3.1 68 9 = nI 0 := by rw [← hc3, mI_s]
  refine n_gapFirst (dd := dd + 9) (by decide) (hM.fd F3) N3 hv ?_
  have go : ∀ (L A : List Nat) c', gpL N n (sz j) (lb j) = A ++ L → FD c c' → MNet c' 4 (sz j) (lb j) → c'.1 68 6 = bI true → c'.1 68 9 = nI 0 → AqM c' A → pX12_begin_48 E (dd + 11) 68 (nI j) (orM (gpL N n (sz j) (lb j))[A.length]?) (Hm c') K := by
    intro L
    induction L with
    | nil =>
      intro A c' he F N' h6 h9 hA
      rw [List.append_nil] at he
      rw [List.getElem?_eq_none (by rw [he]; exact Nat.le_refl _)]
      refine vX12_begin_48 ⟨fun _ => ldI l68 rfl ?_, fun z => absurd rfl z⟩
      rw [hA.1, ← he]
      rw [← he] at hA
      exact k2 c' F ⟨h6, fun _ => ⟨N', hA.1, hle, hA.2, h9⟩⟩
    | cons g L ih =>
      intro A c' he F N' h6 h9 hA
      have hg : (gpL N n (sz j) (lb j))[A.length]? = some g := by rw [he, List.getElem?_append_right (Nat.le_refl _), Nat.sub_self]; rfl
      have hgl := gpL_len s6 _ g hg
      have hAl : A.length < 153 := by
        have := congrArg List.length he
        rw [List.length_append, List.length_cons] at this
        omega
      rw [hg]
      refine vX12_begin_48 ⟨fun z => absurd z (nI_ne1 (by omega)), fun _ => ldR l68 rfl (ldI l68 rfl ?_)⟩
      rw [hA.1]
      refine asI l73 (by omega) (by decide) (ldI l68 rfl ?_)
      rw [mI_n (by omega), hA.1, nI_add]
      refine stI l68 rfl ⟨obj l68, ?_⟩
      have F2 : FD c (mI (mI c' 73 A.length (nI g)) 68 8 (nI (A.length + 1))) := F.a.slot (by simp)
      have N2 : MNet (mI (mI c' 73 A.length (nI g)) 68 8 (nI (A.length + 1))) 4 (sz j) (lb j) := N'.fr (l := [73, 68]) ((Fr.rf.mI (by simp)).mI (by simp)) (by decide) (by decide)
      refine n_gapNext (dd := dd + 9) (by decide) (hM.fd F2) N2 hv hg ?_
      have := ih (A ++ [g]) _ (by rw [he, List.append_assoc]; rfl) F2 N2 (by rw [mI_n (by omega), mI_n (by omega)]; exact h6) (by rw [mI_n (by omega), mI_n (by omega)]; exact h9) hA.snoc
      rw [List.length_append, List.length_singleton] at this
      exact this
  exact go _ [] c3 rfl F3 N3 e6 e9 ⟨e8, fun i g h => nomatch h⟩
theorem n_isFillOf (hG : Gd n mir N) (hv : Vl n mir s lab) (hM : MT c n mir N) (hs : s < 6) (hN : MNet c 4 s lab) (hB : BrM c fb fs fl) {g : Nat} (hg : g < 2 ^ 31) {x : Int32} {K : Int32 → gk_H → Prop} (k : ∀ c', Fm c c' → K (bI (flO fb fs fl N n mir s lab g x)) (Hm c')) : RnI E mX12_isFillOf (dd + 12, 0, 0) [.ref 68, .int (nI g), .int x] (Hm c) K := by
  have n4 := hG.n4
  refine vX12_isFillOf_0 ⟨obj l68, n_isGapOf (dd := dd + 9) (by decide) hM hN hv ?_⟩
  rw [show lkX N n s lab (nI g) = lkB N n s lab g from by unfold lkX; rw [if_neg (nI_nn hg), w_nI hg]]
  refine bB0 (fun e => ?_) (fun e => ⟨obj l68, n_areAtoms (dd := dd + 9) (by decide) hM hN ?_⟩)
  · have k := k c Fm.rf
    rw [flO, e] at k
    exact k
  · obtain ⟨h1, h2, h3, h4, h5, h6, h7, h8, h9⟩ := lkB_f hG hv e
    obtain ⟨q1, q2, q3, q4⟩ := gdig hg
    refine bB0 (fun ea => ?_) (fun ea => ?_)
    · have k := k c Fm.rf
      rw [flO, e, ea] at k
      exact k
    · have rk := row_ok n4 ea
      rw [q1, q2, q3, q4]
      refine n_digit (by omega) ?_
      rw [(rk _ (by omega)).1]
      have r1 := (rk (g / 1000) (by omega)).2
      have r2 := (rk (g / 100 % 10) h2).2
      refine bNe (fun e1 => ?_) (fun e1 => n_digit (by omega) (ldR l68 rfl (alI l69 (by omega) (by decide) ?_))) (by omega) (by omega)
      · have k := k c Fm.rf
        rw [flO, e, ea, show (rowD x (g / 1000) == g / 10 % 10) = false by simpa using e1] at k
        exact k
      · rw [(rk _ h2).1, (hM.row (g % 10) (by omega)).1]
        refine bEq (fun e2 => ⟨obj l68, ?_⟩) (fun e2 => ?_) (by omega) (by omega)
        · refine n_likens (i := 4) (j := 5) (by decide) (by decide) (by decide) hN (fun c1 f1 N1 => ⟨obj l68, n_comes (dd := dd + 10) (by decide) (hM.fm (Fm.ofN f1)).row N1 hs rk (fun c2 f2 N2 => ⟨obj l68, ?_⟩)⟩)
          have F2 : Fm c c2 := (Fm.ofN f1).trans (Fm.ofN f2)
          have vg := gl_Vl hG hv (row_ok1 n4 ea)
          have B2 := hB.fm F2
          refine n_unsound (dd := dd + 10) (by decide) hG (hM.fm F2) N2 vg ((orN_5 (usF_lt N2.2.1) (fun u => ⟨obj l68, ?_⟩) (fun u => ?_)).symm)
          · have k := k c2 F2
            rw [flO, e, ea, e1, e2, ply, show (usF N (s + 1) (gl s mir (rowD x) lab)).isNone = false from by cases h : usF N (s + 1) (gl s mir (rowD x) lab) with
              | none => exact absurd h u
              | some v => rfl, Bool.false_and, Bool.and_false] at k
            exact k
          · refine n_isBarred (dd := dd + 1) (by decide) B2.1 (fun e => (B2.2 e).1) N2 (fun e => (B2.2 e).2.1) (fun p hp => ((vg p p hp hp).2.1).mpr rfl) (fun e => (B2.2 e).2.2) (fun p q hp hq => Nat.lt_of_lt_of_le (vg p q hp hq).1 n4) (fun c3 f3 => ?_)
            have k := k c3 (F2.trans (Fm.of8 f3))
            rw [flO, e, ea, e1, e2, ply, u] at k
            simp only [beq_self_eq_true, Bool.true_and] at k
            exact bBn (fun e => by rw [e] at k; exact k) (fun e => by rw [e] at k; exact k)
        · have k := k c Fm.rf
          rw [flO, e, ea, show (rowD x (g / 100 % 10) == mir (g % 10)) = false by simpa using e2, Bool.and_false] at k
          exact k
theorem n_answer {bd : Bool} {bs an : Nat} {bl : Nat → Nat → Nat} {aq : List Nat} (hG : Gd n mir N) (hv : bd = true → Vl n mir bs bl) (hB : BrM c fb fs fl) (hM : MT c n mir N) (hD : BdM c bd bs bl aq an) (hq : bd = true → AqV N n bs bl aq) {x : Int32} {K : Int32 → gk_H → Prop} (k1 : ∀ r, an0 fb fs fl N n mir bd bs bl aq x = some r → ∀ c', Fm c c' → K r (Hm c')) (k2 : an0 fb fs fl N n mir bd bs bl aq x = none → ∀ c', FD c c' → BdM c' true (bs + 1) (gl bs mir (rowD x) bl) (aq.filter (lkB N n (bs + 1) (gl bs mir (rowD x) bl)) ++ nwL N n bs (gl bs mir (rowD x) bl)) (an + 1) → K (nI (aq.filter (lkB N n (bs + 1) (gl bs mir (rowD x) bl)) ++ nwL N n bs (gl bs mir (rowD x) bl)).length) (Hm c')) : RnI E mX12_answer (dd + 13, 0, 0) [.ref 68, .int x] (Hm c) K := by
  unfold an0 at k1 k2
  have n4 := hG.n4
  refine vX12_answer_0 (ldI l68 rfl ?_)
  rw [hD.1]
  refine bB0 (fun e => k1 _ (by rw [if_neg (by rw [e]; decide)]) c Fm.rf) (fun e => ldI l68 rfl ?_)
  rw [if_pos e] at k1 k2
  subst e
  obtain ⟨b1, b2, b3, b4, b5⟩ := hD.2 rfl
  have hv := hv rfl
  have hq := hq rfl
  have s6 := b1.2.1
  rw [b2]
  cases aq with
  | nil => exact ⟨fun z => absurd rfl z, fun _ => k1 _ rfl c Fm.rf⟩
  | cons g0 t0 =>
    dsimp only at k1 k2
    refine bN0 (fun _ => ldR l68 rfl (alI l71 (by decide) (by decide) ?_)) (fun z => absurd z (by simp))
    rw [b1.1]
    refine bNe (fun h6 => ldR l68 rfl (alI l73 (by decide) (by decide) ⟨obj l68, ?_⟩)) (fun h6 => k1 _ (by rw [if_neg (by omega)]) c Fm.rf)
    rw [if_pos (by omega)] at k1 k2
    rw [b4 0 g0 rfl]
    have hg : g0 < 2 ^ 31 := by have := (hq.2 g0 List.mem_cons_self).1; omega
    refine n_isFillOf (dd := dd) hG hv hM (by omega) b1 hB hg (fun c1 f1 => bBn (fun e => ⟨obj l68, ?_⟩) (fun e => k1 _ (by rw [if_neg (by rw [e]; decide)]) c1 f1))
    have k2 := k2 (by rw [if_pos e])
    have ea : aAt n x bs 0 = true := by
      unfold flO at e
      simp only [Bool.and_eq_true] at e
      exact e.2.1
    have vg : Vl n mir (bs + 1) (gl bs mir (rowD x) bl) := gl_Vl hG hv (row_ok1 n4 ea)
    have nw := hq.new hG (by omega) vg
    generalize haq : g0 :: t0 = aq at *
    refine n_comes (dd := dd + 11) (by decide) (hM.fm f1).row (b1.fm f1 (by decide)) (by omega) (row_ok n4 ea) (fun c2 f2 N2 => ?_)
    have F2 : FD c c2 := (FD.fm f1).trans (FD.n4 f2)
    have e68 : ∀ j, j ∉ [10, 11, 12] → c2.1 68 j = c.1 68 j := fun j hj => by rw [f2.1.i (by decide), f1.1.2 j hj]
    have e73 : ∀ j, c2.1 73 j = c.1 73 j := fun j => by rw [f2.1.i (by decide), f1.1.i (by decide)]
    generalize hlab : gl bs mir (rowD x) bl = lab at *
    have T2 := hM.fd F2
    have tl : ∀ c3, FD c c3 → MNet c3 4 (bs + 1) lab → c3.1 68 6 = bI true → c3.1 68 9 = nI an → AqM c3 (aq.filter (lkB N n (bs + 1) lab)) → RnI E mX12_gapBehind (dd + 12, 0, 0) [.ref 68, .int (nI 4), .int (-1)] (Hm c3) (fun v5 h5 => pX12_answer_123 E (dd + 12) 68 x (nI (aq.filter (lkB N n (bs + 1) lab)).length) (nI bs) v5 h5 K) := by
      intro c3 F3 N3 h6 h9 A3
      refine n_gapFirst (dd := dd + 10) (by decide) (hM.fd F3) N3 vg ?_
      have go : ∀ (L P : List Nat) c', gpL N n (bs + 1) lab = P ++ L → FD c c' → MNet c' 4 (bs + 1) lab → c'.1 68 6 = bI true → c'.1 68 9 = nI an → AqM c' (aq.filter (lkB N n (bs + 1) lab) ++ P.filter (fun g => g / 100 % 10 == bs)) → pX12_answer_123 E (dd + 12) 68 x (nI (aq.filter (lkB N n (bs + 1) lab)).length) (nI bs) (orM (gpL N n (bs + 1) lab)[P.length]?) (Hm c') K := by
        intro L
        induction L with
        | nil =>
          intro P c' he F N' h6 h9 hA
          rw [List.append_nil] at he
          rw [List.getElem?_eq_none (by rw [he]; exact Nat.le_refl _)]
          refine vX12_answer_123 ⟨fun _ => ldI l68 rfl ?_, fun z => absurd rfl z⟩
          rw [h9, nI_add]
          refine stI l68 rfl (ldI l68 rfl ?_)
          rw [← he, nwL_eq (by omega)] at hA
          rw [mI_n (by omega), hA.1]
          exact k2 _ (F.slot (by simp)) ⟨by rw [mI_n (by omega)]; exact h6, fun _ => ⟨N'.fr (l := [68]) (Fr.rf.mI (by simp)) (by decide) (by decide), by rw [mI_n (by omega)]; exact hA.1, nw.2, fun i g hg => by rw [mI_n (by omega)]; exact hA.2 i g hg, mI_s⟩⟩
        | cons g L ih =>
          intro P c' he F N' h6 h9 hA
          have hg : (gpL N n (bs + 1) lab)[P.length]? = some g := by rw [he, List.getElem?_append_right (Nat.le_refl _), Nat.sub_self]; rfl
          have hgl := gpL_len (by omega) _ g hg
          obtain ⟨q1, q2, q3, q4⟩ := gdig (g := g) (by omega)
          have eP : P ++ g :: L = (P ++ [g]) ++ L := by rw [List.append_assoc]; rfl
          have sub : (aq.filter (lkB N n (bs + 1) lab) ++ (P ++ [g]).filter (fun g => g / 100 % 10 == bs)).length ≤ 153 := by
            refine Nat.le_trans ?_ nw.2
            rw [← nwL_eq (by omega), he, eP]
            simp only [List.length_append, List.filter_append]
            omega
          have hm10 : g / 100 % 10 < 10 := Nat.mod_lt _ (by decide)
          rw [hg]
          refine vX12_answer_123 ⟨fun z => absurd z (nI_ne1 (by omega)), fun _ => ?_⟩
          rw [show orM (some g) = nI g from rfl, q2]
          clear q1 q2 q3 q4
          generalize hd : g / 100 % 10 = d at *
          refine bNe (fun e1 => ⟨obj l68, n_gapNext (dd := dd + 10) (by decide) (hM.fd F) N' vg hg ?_⟩) (fun e1 => ldR l68 rfl (ldI l68 rfl ?_)) (by omega) (by omega)
          · have := ih (P ++ [g]) c' (he.trans eP) F N' h6 h9 (by rw [List.filter_append, List.filter_cons, if_neg (by rw [hd]; simpa using e1), List.filter_nil, List.append_nil]; exact hA)
            rw [List.length_append, List.length_singleton] at this
            exact this
          · rw [List.filter_append, List.filter_cons, if_pos (by rw [hd]; simpa using e1), List.filter_nil, ← List.append_assoc, List.length_append, List.length_singleton] at sub
            rw [hA.1]
            refine asI l73 (by omega) (by decide) (ldI l68 rfl ?_)
            rw [mI_n (by omega), hA.1, nI_add]
            refine stI l68 rfl ⟨obj l68, ?_⟩
            have F9 : FD c (mI (mI c' 73 (aq.filter (lkB N n (bs + 1) lab) ++ P.filter (fun g => g / 100 % 10 == bs)).length (nI g)) 68 8 (nI ((aq.filter (lkB N n (bs + 1) lab) ++ P.filter (fun g => g / 100 % 10 == bs)).length + 1))) := F.a.slot (by simp)
            have N9 : MNet (mI (mI c' 73 (aq.filter (lkB N n (bs + 1) lab) ++ P.filter (fun g => g / 100 % 10 == bs)).length (nI g)) 68 8 (nI ((aq.filter (lkB N n (bs + 1) lab) ++ P.filter (fun g => g / 100 % 10 == bs)).length + 1))) 4 (bs + 1) lab := N'.fr (l := [73, 68]) ((Fr.rf.mI (by simp)).mI (by simp)) (by decide) (by decide)
            refine n_gapNext (dd := dd + 10) (by decide) (hM.fd F9) N9 vg hg ?_
            have := ih (P ++ [g]) _ (he.trans eP) F9 N9 (by rw [mI_n (by omega), mI_n (by omega)]; exact h6) (by rw [mI_n (by omega), mI_n (by omega)]; exact h9) (by rw [List.filter_append, List.filter_cons, if_pos (by rw [hd]; simpa using e1), List.filter_nil, ← List.append_assoc]; exact hA.snoc)
            rw [List.length_append, List.length_singleton] at this
            exact this
      exact go _ [] c3 rfl F3 N3 h6 h9 (by rw [List.filter_nil, List.append_nil]; exact A3)
    have lp : ∀ (R P : List Nat) c', aq = P ++ R → FD c c' → MNet c' 4 (bs + 1) lab → c'.1 68 6 = bI true → c'.1 68 9 = nI an → c'.1 68 8 = nI aq.length → (∀ i g, (P.filter (lkB N n (bs + 1) lab))[i]? = some g → c'.1 73 i = nI g) → (∀ i, P.length ≤ i → c'.1 73 i = c.1 73 i) → pX12_answer_58 E (dd + 12) 68 x (nI (P.filter (lkB N n (bs + 1) lab)).length) (nI P.length) (Hm c') K := by
      intro R
      induction R with
      | nil =>
        intro P c' he F N' h6 h9 h8 h1 h2
        rw [List.append_nil] at he
        subst he
        refine vX12_answer_58 (ldI l68 rfl ?_)
        rw [h8]
        refine bLe (fun _ => stI l68 rfl (ldR l68 rfl (alI l71 (by decide) (by decide) ⟨obj l68, ?_⟩))) (fun z => absurd z (by omega))
        have N9 : MNet (mI c' 68 8 (nI (aq.filter (lkB N n (bs + 1) lab)).length)) 4 (bs + 1) lab := N'.fr (l := [68]) (Fr.rf.mI (by simp)) (by decide) (by decide)
        rw [N9.1, nI_sub1 (by omega), Nat.add_sub_cancel]
        exact tl _ (F.slot (by simp)) N9 (by rw [mI_n (by omega)]; exact h6) (by rw [mI_n (by omega)]; exact h9) ⟨mI_s, fun i g hg => by rw [mI_n (by omega)]; exact h1 i g hg⟩
      | cons g R ih =>
        intro P c' he F N' h6 h9 h8 h1 h2
        have hlen : aq.length = P.length + (R.length + 1) := by rw [he, List.length_append, List.length_cons]
        have hgi : aq[P.length]? = some g := by rw [he, List.getElem?_append_right (Nat.le_refl _), Nat.sub_self]; rfl
        have hfl := List.length_filter_le (lkB N n (bs + 1) lab) P
        have hg2 : g < 2 ^ 31 := by have := (hq.2 g (by rw [he]; simp)).1; omega
        have eP : P ++ g :: R = (P ++ [g]) ++ R := by rw [List.append_assoc]; rfl
        refine vX12_answer_58 (ldI l68 rfl ?_)
        rw [h8]
        refine bLe (fun z => absurd z (by omega)) (fun _ => ldR l68 rfl (alI l73 (by omega) (by decide) ⟨obj l68, ?_⟩))
        rw [h2 _ (Nat.le_refl _), b4 _ g hgi]
        refine n_isGapOf (dd := dd + 10) (by decide) (hM.fd F) N' vg ?_
        rw [show lkX N n (bs + 1) lab (nI g) = lkB N n (bs + 1) lab g from by unfold lkX; rw [if_neg (nI_nn hg2), w_nI hg2]]
        refine bB0 (fun e => ?_) (fun e => ldR l68 rfl (ldR l68 rfl (alI l73 (by omega) (by decide) ?_)))
        · have ih := ih (P ++ [g]) c' (he.trans eP) F N' h6 h9 h8 (by rw [List.filter_append, List.filter_cons, if_neg (by rw [e]; decide), List.filter_nil, List.append_nil]; exact h1) (fun i hi => h2 i (by rw [List.length_append] at hi; omega))
          rw [List.filter_append, List.filter_cons, if_neg (by rw [e]; decide), List.filter_nil, List.append_nil, List.length_append, List.length_singleton] at ih
          rw [nI_add]
          exact ih
        · rw [h2 _ (Nat.le_refl _), b4 _ g hgi]
          refine asI l73 (by omega) (by decide) ?_
          have ih := ih (P ++ [g]) (mI c' 73 (P.filter (lkB N n (bs + 1) lab)).length (nI g)) (he.trans eP) F.a (N'.fr (l := [73]) (Fr.rf.mI (by simp)) (by decide) (by decide)) (by rw [mI_n (by omega)]; exact h6) (by rw [mI_n (by omega)]; exact h9) (by rw [mI_n (by omega)]; exact h8) (fun i v hv => ?_) (fun i hi => by rw [List.length_append, List.length_singleton] at hi; rw [mI_n (by omega)]; exact h2 i (by omega))
          · rw [List.filter_append, List.filter_cons, if_pos e, List.filter_nil, List.length_append, List.length_append, List.length_singleton] at ih
            simp only [nI_add]
            exact ih
          · rw [List.filter_append, List.filter_cons, if_pos e, List.filter_nil] at hv
            by_cases ei : i < (P.filter (lkB N n (bs + 1) lab)).length
            · rw [List.getElem?_append_left ei] at hv
              rw [mI_n (by omega)]
              exact h1 i v hv
            · have hl2 := (List.getElem?_eq_some_iff.mp hv).1
              rw [List.length_append, List.length_singleton] at hl2
              have ee : i = (P.filter (lkB N n (bs + 1) lab)).length := by omega
              subst ee
              rw [List.getElem?_append_right (Nat.le_refl _), Nat.sub_self] at hv
              rw [mI_s, ← Option.some.inj hv]
    exact lp aq [] c2 rfl F2 N2 (by rw [e68 6 (by decide)]; exact hD.1) (by rw [e68 9 (by decide)]; exact b5) (by rw [e68 8 (by decide)]; exact b2) (fun i g h => nomatch h) (fun i _ => e73 i)
end MB
