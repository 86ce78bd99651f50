/-! the game: the reference -/
section GD
variable (fb : Bool) (fs : Nat) (fl : Nat → Nat → Nat) (N n : Nat) (mir : Nat → Nat)
/-- the first gap, with r rounds to go, to which nothing is an answer -/
def kil : Nat → Nat → (Nat → Nat → Nat) → Option Nat
  | 0, _, _ => none
  | r + 1, s, lab => (gpL N n s lab).find? (fun g => !(gfL N n s mir lab g).any (fun f => alw fb fs fl s mir lab f && (kil r (s + 1) (gl s mir f lab)).isNone))
/-- the row may be put, and the rounds behind it are won -/
def stn (r s : Nat) (lab : Nat → Nat → Nat) (f : fT) : Bool := alw fb fs fl s mir lab f && (kil fb fs fl N n mir r (s + 1) (gl s mir f lab)).isNone
theorem kil_s {r s : Nat} {lab : Nat → Nat → Nat} : kil fb fs fl N n mir (r + 1) s lab = (gpL N n s lab).find? (fun g => !(gfL N n s mir lab g).any (stn fb fs fl N n mir r s lab)) := rfl
def stG (r s : Nat) (lab : Nat → Nat → Nat) : fT → Nat → Option Nat := fun f sn => if stn fb fs fl N n mir r s lab f = true then none else some sn
def WonC (E : gk_E) (r : Nat) : Prop := ∀ c s lab, MT c n mir N → Vl n mir s lab → s + r ≤ 6 → MNet c 5 s lab → BrM c fb fs fl → ∀ dd (K : Int32 → gk_H → Prop), (∀ c', Fm c c' → MNet c' 5 s lab → K (bI (kil fb fs fl N n mir r s lab).isNone) (Hm c')) → RnI E mX12_isWon (dd + (10 + 11 * r), 0, 0) [.ref 68, .int (nI r)] (Hm c) K
end GD
section GM
variable {E : gk_E} {dd : Nat} {c : gm} {s n N : Nat} {mir : Nat → Nat} {lab : Nat → Nat → Nat} {fb : Bool} {fs : Nat} {fl : Nat → Nat → Nat}
theorem runG {r : Nat} : ∀ (L : List fT) sn, (∀ sn', runL (stG fb fs fl N n mir r s lab) L sn = .inl sn' → L.any (stn fb fs fl N n mir r s lab) = false) ∧ ∀ f, runL (stG fb fs fl N n mir r s lab) L sn = .inr f → L.any (stn fb fs fl N n mir r s lab) = true
  | [], sn => ⟨fun _ _ => rfl, fun f h => nomatch h⟩
  | f :: L, sn => by
    rw [runL, stG, List.any_cons]
    cases e : stn fb fs fl N n mir r s lab f with
    | true => exact ⟨fun sn' h => (nomatch h), fun _ _ => rfl⟩
    | false => exact runG L sn
theorem leafG (hM : MT c n mir N) (hG : Gd n mir N) (hv : Vl n mir s lab) {r : Nat} (hs : s + 1 + r ≤ 6) (hB : BrM c fb fs fl) (hW : WonC fb fs fl N n mir E r) : LeafC E c s n lab mir (nI r) (10 + 11 * r) (stG fb fs fl N n mir r s lab) (fun _ _ => True) (fun _ _ => True) := by
  intro c1 f sn f1 hD hf _ K k1 k2 dd
  have n4 := hG.n4
  refine vX12_isFilled_0 (ldI l68 rfl (ldI l68 rfl (ldI l68 rfl (ldR l68 rfl (alI l71 (by decide) (by decide) ?_)))))
  rw [hD.1.1, nI_add]
  refine asI l71 (by decide) (by decide) ⟨obj l68, ?_⟩
  have f2 : Fm c1 (mI c1 71 5 (nI (s + 1))) := Fm.rf.m71
  have B2 := (hB.fm f1).fm f2
  have N2 : MNet (mI c1 71 5 (nI (s + 1))) 5 (s + 1) (gl s mir f lab) := hD.grow (by omega) mI_s (fun k => mI_n (by omega))
  rw [show dd + (10 + 11 * r) = (dd + 11 * r) + 10 by omega]
  refine n_isBarred (by decide) B2.1 (fun e => (B2.2 e).1) N2 (fun e => (B2.2 e).2.1) (gl_z hv) (fun e => (B2.2 e).2.2) (gl_v hG.m4 (fun i hi => by have := (hf i hi).2; omega) (fun p q hp hq => Nat.lt_of_lt_of_le (hv p q hp hq).1 n4)) (fun c3 f3 => ?_)
  have N3 : MNet c3 5 (s + 1) (gl s mir f lab) := N2.fr f3.1 (by decide) (by decide)
  have F3 : Fm c1 c3 := f2.trans (Fm.of8 f3)
  refine bBn (fun e => stI l68 rfl (stI l68 rfl (stI l68 rfl ⟨fun _ => ⟨fun _ => ?_, fun z => absurd rfl z⟩, fun z => absurd rfl z⟩))) (fun e => stI l68 rfl (stI l68 rfl (stI l68 rfl ⟨fun z => absurd z (by decide), fun _ => ⟨fun _ => ⟨fun z => absurd z (by decide), fun _ => ⟨obj l68, ?_⟩⟩, fun z => absurd z (nI_ne1 (by omega))⟩⟩)))
  · refine n_dec5 (s := s) (by rw [mI_n (by omega), mI_n (by omega), mI_n (by omega)]; exact N3.1) ?_
    exact k1 sn (by unfold stG stn alw; rw [e]; rfl) _ ((((F3.slot (by simp)).slot (by simp)).slot (by simp)).m71) (MD.back N3 mI_s (fun k => by rw [mI_n (by omega), mI_n (by omega), mI_n (by omega), mI_n (by omega)])) trivial
  · have F4 : Fm c1 (mI (mI (mI c3 68 10 (c1.1 68 10)) 68 11 (c1.1 68 11)) 68 12 (c1.1 68 12)) := ((F3.slot (by simp)).slot (by simp)).slot (by simp)
    rw [show dd + 11 * r + 10 = dd + (10 + 11 * r) by omega]
    refine hW _ (s + 1) (gl s mir f lab) ((hM.fm f1).fm F4) (gl_Vl hG hv hf) (by omega) (N3.fr (l := [68]) (((Fr.rf.mI (by simp)).mI (by simp)).mI (by simp)) (by decide) (by decide)) ((hB.fm f1).fm F4) dd _ (fun c5 f5 N5 => ?_)
    refine n_dec5 (s := s) N5.1 ⟨bI_bz _, ?_⟩
    have D6 : MD (mI c5 71 5 (nI s)) s lab mir 0 f := MD.back N5 mI_s (fun k => mI_n (by omega))
    have ea : alw fb fs fl s mir lab f = true := by unfold alw; rw [e]; rfl
    cases ek : (kil fb fs fl N n mir r (s + 1) (gl s mir f lab)).isNone with
    | true => exact k2 (by unfold stG stn; rw [ea, ek]; rfl) _ (F4.trans f5).m71 D6.1 trivial
    | false => exact k1 sn (by unfold stG stn; rw [ea, ek]; rfl) _ (F4.trans f5).m71 D6 trivial
theorem n_killerOf (hM : MT c n mir N) (hG : Gd n mir N) (hv : Vl n mir s lab) {r : Nat} (hs : s + (r + 1) ≤ 6) (hN : MNet c 5 s lab) (hB : BrM c fb fs fl) (hW : WonC fb fs fl N n mir E r) {K : Int32 → gk_H → Prop} (k : ∀ c', Fm c c' → MNet c' 5 s lab → K (orN (kil fb fs fl N n mir (r + 1) s lab)) (Hm c')) : RnI E mX12_killerOf (dd + (10 + 11 * r) + 10, 0, 0) [.ref 68, .int (nI (r + 1))] (Hm c) K := by
  have s6 := hN.2.1
  refine vX12_killerOf_0 ⟨fun _ => ⟨obj l68, ?_⟩, fun z => absurd ((nI_eq (a := r + 1) (b := 0) (by omega) (by decide)).mp z) (by omega)⟩
  rw [show dd + (10 + 11 * r) + 9 = (dd + (10 + 11 * r) + 7) + 2 by omega]
  refine n_gapFirst (by decide) hM hN hv ?_
  have go : ∀ (L : List Nat) m c1, (gpL N n s lab).drop m = L → Fm c c1 → MNet c1 5 s lab → kil fb fs fl N n mir (r + 1) s lab = L.find? (fun g => !(gfL N n s mir lab g).any (stn fb fs fl N n mir r s lab)) → pX12_killerOf_14 E (dd + (10 + 11 * r) + 9) 68 (nI (r + 1)) (orM (gpL N n s lab)[m]?) (Hm c1) K := by
    intro L
    induction L with
    | nil =>
      intro m c1 hL f1 N1 he
      rw [List.getElem?_eq_none (by rw [List.drop_eq_nil_iff] at hL; exact hL)]
      refine vX12_killerOf_14 ⟨fun _ => ?_, fun z => absurd rfl z⟩
      have k := k c1 f1 N1
      rw [he] at k
      exact k
    | cons g L ih =>
      intro m c1 hL f1 N1 he
      have hg : (gpL N n s lab)[m]? = some g := by
        have := congrArg List.head? hL
        rw [List.head?_drop] at this
        exact this
      have hgl := gpL_len s6 m g hg
      rw [hg]
      have hlk : lkB N n s lab g = true := (lkB_gp hG.n4 s6).mpr (List.mem_of_getElem? hg)
      have M1 := hM.fm f1
      refine vX12_killerOf_14 ⟨fun z => absurd z (nI_ne1 (by omega)), fun _ => ⟨obj l68, ?_⟩⟩
      rw [show nI (r + 1) - nI 1 = nI r from by rw [nI_sub1 (by omega), Nat.add_sub_cancel]]
      refine n_isFillable (dd := dd) (sn := 0) M1 hG hv (by omega) N1 hlk (by omega) (fun _ _ _ _ _ => trivial) (leafG M1 hG hv (by omega) (hB.fm f1) hW) trivial (fun sn' hr c2 f2 N2 _ => ⟨fun z => absurd rfl z, fun _ => ?_⟩) (fun f' hr c2 f2 N2 _ => ⟨fun _ => ⟨obj l68, ?_⟩, fun z => absurd z (by decide)⟩)
      · have k := k c2 (f1.trans f2) N2
        rw [he, List.find?_cons, (runG _ _).1 sn' hr] at k
        exact k
      · rw [show dd + (10 + 11 * r) + 9 = (dd + (10 + 11 * r) + 7) + 2 by omega]
        refine n_gapNext (by decide) (hM.fm (f1.trans f2)) N2 hv hg ?_
        refine ih (m + 1) c2 ?_ (f1.trans f2) N2 ?_
        · rw [← List.tail_drop, hL]; rfl
        · rw [he, List.find?_cons, (runG _ _).2 f' hr]; rfl
  exact go _ 0 c rfl Fm.rf hN rfl
theorem orN_isN {u : Option Nat} (hu : ∀ v, u = some v → v < 2 ^ 31) {K : Int32 → gk_H → Prop} {h : gk_H} (k : K (bI u.isNone) h) : (¬ orN u = -5 → K (nI 0) h) ∧ (orN u = -5 → K (nI 1) h) := by
  cases u with
  | none => exact ⟨fun z => absurd rfl z, fun _ => k⟩
  | some v => exact ⟨fun _ => k, fun z => absurd z (nI_ne5 (hu v rfl))⟩
theorem kil_lt {r : Nat} (hs : s ≤ 6) : ∀ v, kil fb fs fl N n mir r s lab = some v → v < 2 ^ 31 := fun v h => by
  cases r with
  | zero => exact nomatch h
  | succ r =>
    rw [kil_s] at h
    have hm := List.mem_of_find?_eq_some h
    obtain ⟨i, hi, hi2⟩ := List.getElem_of_mem hm
    have := gpL_len (N := N) (n := n) (lab := lab) hs i v (by rw [List.getElem?_eq_some_iff]; exact ⟨hi, hi2⟩)
    omega
theorem wonC (hG : Gd n mir N) : ∀ r, WonC fb fs fl N n mir E r
  | 0 => fun c s lab hM hv hs hN hB dd K k => by
    refine vX12_isWon_0 ⟨fun z => absurd rfl z, fun _ => k c Fm.rf hN⟩
  | r + 1 => fun c s lab hM hv hs hN hB dd K k => by
    rw [show dd + (10 + 11 * (r + 1)) = dd + (10 + 11 * r) + 10 + 1 by omega]
    refine vX12_isWon_0 ⟨fun _ => ⟨obj l68, n_killerOf hM hG hv hs hN hB (wonC hG r) (fun c1 f1 N1 => orN_isN (kil_lt hN.2.1) (k c1 f1 N1))⟩, fun z => absurd ((nI_eq (a := r + 1) (b := 0) (by omega) (by decide)).mp z) (by omega)⟩
/-- why a game is not played -/
def ply (fb : Bool) (fs : Nat) (fl : Nat → Nat → Nat) (N s : Nat) (lab : Nat → Nat → Nat) : Bool := (usF N s lab).isNone && !brd fb fs fl s lab
theorem n_isPlayed {i : Nat} (hi : i < 5) (hM : MT c n mir N) (hG : Gd n mir N) (hv : Vl n mir s lab) (hN : MNet c i s lab) (hB : BrM c fb fs fl) {K : Int32 → gk_H → Prop} (k : ∀ c', F8 [] [10, 11, 12] c c' → K (bI (ply fb fs fl N s lab)) (Hm c')) : RnI E mX12_isPlayed (dd + 11, 0, 0) [.ref 68, .int (nI i)] (Hm c) K := by
  have n4 := hG.n4
  refine vX12_isPlayed_0 ⟨obj l68, n_unsound (by omega) hG hM hN hv ((orN_5 (usF_lt hN.2.1) (fun u => ⟨obj l68, ?_⟩) (fun u => ?_)).symm)⟩
  · have k := k c F8.rf
    rw [ply, show (usF N s lab).isNone = false from by cases h : usF N s lab with
      | none => exact absurd h u
      | some v => rfl] at k
    exact k
  · refine n_isBarred (by omega) hB.1 (fun e => (hB.2 e).1) hN (fun e => (hB.2 e).2.1) (fun p hp => ((hv p p hp hp).2.1).mpr rfl) (fun e => (hB.2 e).2.2) (fun p q hp hq => Nat.lt_of_lt_of_le (hv p q hp hq).1 n4) (fun c1 f1 => ?_)
    have k := k c1 f1
    rw [ply, u] at k
    exact bBn (fun e => by rw [e] at k; exact k) (fun e => by rw [e] at k; exact k)
def whN (fb : Bool) (fs : Nat) (fl : Nat → Nat → Nat) (N : Nat) (sz : szT) (lb : lbT) (net r : Int32) : Int32 := if inR net 0 (3 : Nat) = true then (if inR r 0 (3 : Nat) = true then (if (ply fb fs fl N (sz (w net)) (lb (w net)) && decide (sz (w net) ≤ 3)) = true then 0 else -3) else -2) else -1
theorem n_whyNot {sz : szT} {lb : lbT} (hG : Gd n mir N) (hV : VV n mir sz lb) (hN : MN c sz lb) (hB : BrM c fb fs fl) (hM : MT c n mir N) {x r : Int32} {K : Int32 → gk_H → Prop} (k : ∀ c', F8 [] [10, 11, 12] c c' → K (whN fb fs fl N sz lb x r) (Hm c')) : RnI E mX12_whyNot (dd + 12, 0, 0) [.ref 68, .int x, .int r] (Hm c) K := by
  unfold whN at k
  refine vX12_whyNot_0 (n_isNet (rngN (by decide) (fun j hj hx h => ?_) (fun h => ?_)))
  · rw [if_pos h] at k
    subst hx
    rw [w_nI (by omega)] at k
    refine n_isFrom (lo := 0) (hi := 2) (by decide) (by decide) ?_
    show (¬ bI (inR r 0 (3 : Nat)) = 0 → _) ∧ (bI (inR r 0 (3 : Nat)) = 0 → _)
    refine bBn (fun e => ⟨obj l68, n_isPlayed (by omega) hM hG (hV j hj) (hN j hj) hB (fun c1 f1 => ?_)⟩) (fun e => ?_)
    · rw [if_pos e] at k
      have k := k c1 f1
      refine bB0 (fun e2 => ?_) (fun e2 => ldR l68 rfl (alI l71 (by omega) (by decide) ?_))
      · rw [e2] at k; exact k
      · rw [((hN j hj).fr f1.1 (by decide) (by decide)).1]
        have := (hN j hj).2.1
        rw [e2, Bool.true_and] at k
        exact bLt (fun z => by rw [if_neg (by simpa using z)] at k; exact k) (fun z => by rw [if_pos (by simpa using z)] at k; exact k)
    · rw [if_neg (by rw [e]; decide)] at k
      exact k c F8.rf
  · have k := k c F8.rf
    rw [if_neg (by rw [h]; decide)] at k
    exact k
def sp_wo (fb : Bool) (fs : Nat) (fl : Nat → Nat → Nat) (N n : Nat) (mir : Nat → Nat) (sz : szT) (lb : lbT) (net r : Int32) : Int32 := if whN fb fs fl N sz lb net r = 0 then bI (kil fb fs fl N n mir (w r) (sz (w net)) (lb (w net))).isNone else whN fb fs fl N sz lb net r
def sp_ki (fb : Bool) (fs : Nat) (fl : Nat → Nat → Nat) (N n : Nat) (mir : Nat → Nat) (sz : szT) (lb : lbT) (net r : Int32) : Int32 := if whN fb fs fl N sz lb net r = 0 then orN (kil fb fs fl N n mir (w r) (sz (w net)) (lb (w net))) else whN fb fs fl N sz lb net r
def sp_la (fb : Bool) (fs : Nat) (fl : Nat → Nat → Nat) (N n : Nat) (mir : Nat → Nat) (sz : szT) (lb : lbT) (net : Int32) : Int32 := if whN fb fs fl N sz lb net (nI 0) = 0 then (if (kil fb fs fl N n mir 1 (sz (w net)) (lb (w net))).isNone then (if (kil fb fs fl N n mir 2 (sz (w net)) (lb (w net))).isNone then nI 2 else nI 1) else nI 0) else whN fb fs fl N sz lb net (nI 0)
theorem whN_0 {sz : szT} {lb : lbT} {x r : Int32} (h : whN fb fs fl N sz lb x r = 0) : ∃ j q, j < 3 ∧ q < 3 ∧ x = nI j ∧ r = nI q ∧ sz j ≤ 3 := by
  unfold whN at h
  by_cases e1 : inR x 0 (3 : Nat) = true
  · rw [if_pos e1] at h
    by_cases e2 : inR r 0 (3 : Nat) = true
    · rw [if_pos e2] at h
      obtain ⟨j, hj, rfl⟩ := inR_nI (by decide) e1
      obtain ⟨q, hq, rfl⟩ := inR_nI (by decide) e2
      rw [w_nI (by omega)] at h
      refine ⟨j, q, hj, hq, rfl, rfl, ?_⟩
      by_cases e3 : (ply fb fs fl N (sz j) (lb j) && decide (sz j ≤ 3)) = true
      · simp only [Bool.and_eq_true, decide_eq_true_eq] at e3
        exact e3.2
      · rw [if_neg e3] at h; exact absurd h (by decide)
    · rw [if_neg e2] at h; exact absurd h (by decide)
  · rw [if_neg e1] at h; exact absurd h (by decide)
theorem n_won {sz : szT} {lb : lbT} (hG : Gd n mir N) (hV : VV n mir sz lb) (hN : MN c sz lb) (hB : BrM c fb fs fl) (hM : MT c n mir N) {x r : Int32} {K : Int32 → gk_H → Prop} (k : ∀ c', Fm c c' → K (sp_wo fb fs fl N n mir sz lb x r) (Hm c')) : RnI E mX12_won (dd + 33, 0, 0) [.ref 68, .int x, .int r] (Hm c) K := by
  unfold sp_wo at k
  refine vX12_won_0 ⟨obj l68, n_whyNot (dd := dd + 20) hG hV hN hB hM (fun c1 f1 => ⟨fun e => ?_, fun e => ?_⟩)⟩
  · rw [if_pos e] at k
    obtain ⟨j, q, hj, hq, rfl, rfl, h3⟩ := whN_0 e
    rw [w_nI (by omega), w_nI (by omega)] at k
    have F1 := Fm.of8 f1
    refine ⟨obj l68, n_likens (i := j) (j := 5) (by omega) (by decide) (by omega) ((hN j hj).fm F1 (by omega)) (fun c2 f2 N2 => ⟨obj l68, ?_⟩)⟩
    have F2 : Fm c c2 := F1.trans (Fm.ofN f2)
    rw [show dd + 32 = (dd + (22 - 11 * q)) + (10 + 11 * q) by omega]
    exact wonC hG q c2 _ _ (hM.fm F2) (hV j hj) (by omega) N2 (hB.fm F2) _ _ (fun c3 f3 _ => bI01 (k c3 (F2.trans f3)))
  · rw [if_neg e] at k
    exact k c1 (Fm.of8 f1)
theorem n_killer {sz : szT} {lb : lbT} (hG : Gd n mir N) (hV : VV n mir sz lb) (hN : MN c sz lb) (hB : BrM c fb fs fl) (hM : MT c n mir N) {x r : Int32} {K : Int32 → gk_H → Prop} (k : ∀ c', Fm c c' → K (sp_ki fb fs fl N n mir sz lb x r) (Hm c')) : RnI E mX12_killer (dd + 33, 0, 0) [.ref 68, .int x, .int r] (Hm c) K := by
  unfold sp_ki at k
  refine vX12_killer_0 ⟨obj l68, n_whyNot (dd := dd + 20) hG hV hN hB hM (fun c1 f1 => ⟨fun e => ?_, fun e => ?_⟩)⟩
  · rw [if_pos e] at k
    obtain ⟨j, q, hj, hq, rfl, rfl, h3⟩ := whN_0 e
    rw [w_nI (by omega), w_nI (by omega)] at k
    have F1 := Fm.of8 f1
    refine ⟨obj l68, n_likens (i := j) (j := 5) (by omega) (by decide) (by omega) ((hN j hj).fm F1 (by omega)) (fun c2 f2 N2 => ⟨obj l68, ?_⟩)⟩
    have F2 : Fm c c2 := F1.trans (Fm.ofN f2)
    cases q with
    | zero => exact vX12_killerOf_0 ⟨fun z => absurd rfl z, fun _ => k c2 F2⟩
    | succ q =>
      rw [show dd + 32 = (dd + (12 - 11 * q)) + (10 + 11 * q) + 10 by omega]
      exact n_killerOf (hM.fm F2) hG (hV j hj) (by omega) N2 (hB.fm F2) (wonC hG q) (fun c3 f3 _ => k c3 (F2.trans f3))
  · rw [if_neg e] at k
    exact k c1 (Fm.of8 f1)
theorem n_lasts {sz : szT} {lb : lbT} (hG : Gd n mir N) (hV : VV n mir sz lb) (hN : MN c sz lb) (hB : BrM c fb fs fl) (hM : MT c n mir N) {x : Int32} {K : Int32 → gk_H → Prop} (k : ∀ c', Fm c c' → K (sp_la fb fs fl N n mir sz lb x) (Hm c')) : RnI E mX12_lasts (dd + 33, 0, 0) [.ref 68, .int x] (Hm c) K := by
  unfold sp_la at k
  refine vX12_lasts_0 ⟨obj l68, n_whyNot (dd := dd + 20) hG hV hN hB hM (fun c1 f1 => ⟨fun e => ?_, fun e => ?_⟩)⟩
  · rw [if_pos e] at k
    obtain ⟨j, q, hj, hq, rfl, _, h3⟩ := whN_0 e
    rw [w_nI (by omega)] at k
    have F1 := Fm.of8 f1
    refine ⟨obj l68, n_likens (i := j) (j := 5) (by omega) (by decide) (by omega) ((hN j hj).fm F1 (by omega)) (fun c2 f2 N2 => ⟨obj l68, ?_⟩)⟩
    have F2 : Fm c c2 := F1.trans (Fm.ofN f2)
    rw [show dd + 32 = (dd + 11) + (10 + 11 * 1) by omega]
    refine wonC hG 1 c2 _ _ (hM.fm F2) (hV j hj) (by omega) N2 (hB.fm F2) _ _ (fun c3 f3 N3 => ?_)
    have F3 := F2.trans f3
    refine bBn (fun e1 => ⟨obj l68, ?_⟩) (fun e1 => ?_)
    · rw [show dd + 11 + (10 + 11 * 1) = dd + (10 + 11 * 2) by omega]
      refine wonC hG 2 c3 _ _ (hM.fm F3) (hV j hj) (by omega) N3 (hB.fm F3) _ _ (fun c4 f4 _ => ?_)
      have k := k c4 (F3.trans f4)
      rw [e1] at k
      refine bB0 (fun e2 => ?_) (fun e2 => ?_)
      · rw [e2] at k; exact k
      · rw [e2] at k; exact k
    · have k := k c3 F3
      rw [e1] at k
      exact k
  · rw [if_neg e] at k
    exact k c1 (Fm.of8 f1)
end GM
