/-! judge -/
theorem t64 : ∀ a, a < 16 → (nI a).toInt64 = lN a := by decide
theorem t32 : ∀ a, a < 16 → (lN a).toInt32 = nI a := by decide
theorem ltL {a b : Int64} : a < b ↔ a.toInt < b.toInt := Int64.lt_iff_toInt_lt
theorem lOf {v : Int64} {n : Nat} (hn : n ≤ 4) (h1 : ¬ v < lN 1) (h2 : v < lN n) : ∃ a, 1 ≤ a ∧ a < n ∧ v = lN a := by
  have e1 : (lN 1).toInt = 1 := pk_lT (by decide)
  have e2 : (lN n).toInt = n := pk_lT (by omega)
  rw [ltL, e1] at h1
  rw [ltL, e2] at h2
  have e0 : ((0 : Int64)).toInt = 0 := rfl
  obtain ⟨k, hk, rfl⟩ := pk_lOf (x := v) (by rw [ltL, e0]; omega)
  rw [pk_lT hk] at h1 h2
  exact ⟨k, by omega, by omega, rfl⟩
def okJ (n : Nat) (mir : Nat → Nat) (it : Nat → Int64) (m p : Nat) : Bool := (List.range n).any (fun a => decide (1 ≤ a) && (it p == lN a && it (m - 1 - p) == lN (mir a)))
theorem okJ_i {n : Nat} {mir : Nat → Nat} {it : Nat → Int64} {m p : Nat} : okJ n mir it m p = true ↔ ∃ a, 1 ≤ a ∧ a < n ∧ it p = lN a ∧ it (m - 1 - p) = lN (mir a) := by
  unfold okJ
  rw [List.any_eq_true]
  constructor
  · rintro ⟨a, ha, h⟩
    simp only [Bool.and_eq_true, decide_eq_true_eq, beq_iff_eq] at h
    exact ⟨a, h.1, List.mem_range.mp ha, h.2.1, h.2.2⟩
  · rintro ⟨a, h1, h2, h3, h4⟩
    refine ⟨a, List.mem_range.mpr h2, ?_⟩
    simp only [Bool.and_eq_true, decide_eq_true_eq, beq_iff_eq]
    exact ⟨h1, h3, h4⟩
theorem okJ_f {n : Nat} {mir : Nat → Nat} {it : Nat → Int64} {m p : Nat} (h : ¬ ∃ a, 1 ≤ a ∧ a < n ∧ it p = lN a ∧ it (m - 1 - p) = lN (mir a)) : okJ n mir it m p = false := by
  cases e : okJ n mir it m p
  · rfl
  · exact absurd (okJ_i.mp e) h
def stJ (it : Nat → Int64) : Nat → Nat
  | 0 => 0
  | d + 1 => (it d).toInt.toNat
theorem stJ_s {it : Nat → Int64} {d a : Nat} (ha : a < 16) (h : it d = lN a) : stJ it (d + 1) = a := by
  rw [stJ, h, pk_lT (by omega)]
  exact Int.toNat_natCast a
def jF (n : Nat) (mir : Nat → Nat) (it : Nat → Int64) (m : Nat) : Option Nat := ffrom m (fun p => if okJ n mir it m p = true then none else some p) 0
def sp_j1 (N n : Nat) (mir : Nat → Nat) (it : Nat → Int64) (m : Nat) : Int32 := match jF n mir it m with
  | some p => nI p
  | none => if hadB (stJ it) (m + 1) = 2 ^ n - 1 then (match mfF N n (stJ it) (m + 1) with
    | none => -5
    | some d => nI (100 + d)) else nI 200
def sp_ju (N n : Nat) (mir : Nat → Nat) (ls : lsT) (it : itT) (l : Int32) : Int32 := if inR l 0 (3 : Nat) = true then (if ls (w l) = -1 then -11 else if ls (w l) = 0 then -2 else sp_j1 N n mir (it (w l)) (w (ls (w l)))) else -1
section JU
variable {E : gk_E} {dd : Nat} {c : gm} {n N m : Nat} {mir : Nat → Nat} {it1 : Nat → Int64}
theorem jF_ok (h : jF n mir it1 m = none) : ∀ p, p < m → ∃ a, 1 ≤ a ∧ a < n ∧ it1 p = lN a ∧ it1 (m - 1 - p) = lN (mir a) := fun p hp => by
  have := ffrom_all h p (Nat.zero_le _) hp
  by_cases e : okJ n mir it1 m p = true
  · exact okJ_i.mp e
  · rw [if_neg e] at this; exact absurd this (by simp)
theorem stJ_lt (hG : Gd n mir N) (h : jF n mir it1 m = none) : ∀ d, d < m + 1 → stJ it1 d < n := fun d hd => by
  have := hG.n1
  have := hG.n4
  cases d with
  | zero => exact hG.n1
  | succ d =>
    obtain ⟨a, h1, h2, h3, _⟩ := jF_ok h d (by omega)
    rw [stJ_s (by omega) h3]
    exact h2
theorem mf_lt {st : Nat → Nat} {P : Nat} (hP : P ≤ 13) : ∀ d, mfF N n st P = some d → d < 13 := fun d h => by
  obtain ⟨q, hq, h1⟩ := ffrom_ex h
  by_cases e : sB st P q P = pinA N n (st q) n
  · rw [if_pos e] at h1; exact absurd h1 (by simp)
  · rw [if_neg e] at h1
    have := Option.some.inj h1
    omega
theorem c_verdict (hG : Gd n mir N) (hT : Tab c 2 n mir N) {j : Nat} (hj : j < 3) (hm : m ≤ 12) (hm1 : 1 ≤ m) (h0 : c.1 60 0 = nI 0) (hi : ∀ i, i < m → c.2.1 63 (12 * j + i) = it1 i) {K : Int32 → gk_H → Prop} (k : ∀ c', Fr [56, 60, 61] c c' → c'.1 60 0 = nI 0 → K (sp_j1 N n mir it1 m) (Hm c')) : RnI E mX5_verdict (dd + 3, 0, 0) [.ref 56, .ref 63, .int (nI (12 * j)), .int (nI m)] (Hm c) K := by
  have n4 := hG.n4
  refine vX5_verdict_0 ?_
  have bad : ∀ p c', jF n mir it1 m = some p → Fr [56, 60, 61] c c' → c'.1 60 0 = nI 0 → K (nI p) (Hm c') := fun p c' e f h => by
    have k := k c' f h
    rw [sp_j1, e] at k
    exact k
  refine down (P := fun p => ∀ c', Fr [60] c c' → (∀ q, q < p + 1 → c'.1 60 q = nI (stJ it1 q)) → jF n mir it1 m = ffrom m (fun p => if okJ n mir it1 m p = true then none else some p) p → pX5_verdict_3 E (dd + 2) 56 63 (nI (12 * j)) (nI m) (nI p) (Hm c') K) m ?_ ?_ 0 (Nat.zero_le _) c Fr.rf (fun q hq => by rw [show q = 0 by omega]; exact h0) rfl
  · intro c1 f1 h1 he
    rw [ffrom_end] at he
    refine vX5_verdict_3 (bLe (fun _ => stI l56 rfl ?_) (fun z => absurd z (by omega)))
    rw [nI_add]
    have sl := stJ_lt hG he
    have F2 : Fr [56, 60, 61] c (mI c1 56 5 (nI (m + 1))) := (f1.mono (by simp)).mI (by simp)
    have P2 : PiC (mI c1 56 5 (nI (m + 1))) (m + 1) (stJ it1) := ⟨mI_s, fun d hd => by rw [mI_n (by omega)]; exact h1 d hd⟩
    have T2 := hT.fr F2 (by decide) (by decide)
    refine ⟨obj l56, c_isFull (dd := dd + 1) T2 P2 (by omega) sl ?_⟩
    refine bBn (fun e => ⟨obj l56, c_readDue (dd := dd) T2 (fun c3 f3 D3 => ⟨obj l56, ?_⟩)⟩) (fun e => ?_)
    · have P3 : PiC c3 (m + 1) (stJ it1) := ⟨by rw [f3.i (by decide)]; exact P2.1, fun d hd => by rw [f3.i (by decide)]; exact P2.2 d hd⟩
      refine c_misfit n4 P3 (by omega) sl D3 ?_
      have k := k c3 (F2.trans (f3.mono (by simp))) (by rw [P3.2 0 (by omega)]; rfl)
      rw [sp_j1, he] at k
      dsimp only at k
      rw [if_pos (of_decide_eq_true e)] at k
      cases h : mfF N n (stJ it1) (m + 1) with
      | none =>
        rw [h] at k
        exact ⟨fun z => absurd z (by decide), fun _ => k⟩
      | some d =>
        rw [h] at k
        have := mf_lt (by omega) d h
        refine ⟨fun _ => ?_, fun z => absurd (nI_le0 (by omega)) z⟩
        show K (nI 100 + nI d) (Hm c3)
        rw [nI_add]
        exact k
    · have k := k _ F2 (by rw [P2.2 0 (by omega)]; rfl)
      rw [sp_j1, he] at k
      dsimp only at k
      rw [if_neg (of_decide_eq_false e)] at k
      exact k
  · intro p hp ih c1 f1 h1 he
    refine vX5_verdict_3 (bLe (fun z => absurd z (by omega)) (fun _ => ?_))
    simp only [nI_add]
    rw [nI_sub1 (by omega), pk_sub (by omega)]
    have e63 : ∀ i, i < m → c1.2.1 63 (12 * j + i) = it1 i := fun i hi2 => by rw [f1.l (by decide)]; exact hi i hi2
    refine alL l63 (by omega) (by decide) ?_
    rw [e63 p hp]
    have F1 : Fr [56, 60, 61] c c1 := f1.mono (by simp)
    have z1 : c1.1 60 0 = nI 0 := h1 0 (by omega)
    have no : (¬ ∃ a, 1 ≤ a ∧ a < n ∧ it1 p = lN a ∧ it1 (m - 1 - p) = lN (mir a)) → jF n mir it1 m = some p := fun h => by
      rw [he]
      exact ffrom_some hp (if_neg (by rw [okJ_f h]; decide))
    have T1 := hT.fr f1 (by decide) (by decide)
    refine ⟨fun h => bad p c1 (no ?_) F1 z1, fun h => ldR l56 rfl (ldI l2 rfl ?_)⟩
    · rintro ⟨a, a1, a2, a3, _⟩
      rw [lg_cmp_lt, a3, ltL, pk_lT (by omega), pk_lT (by decide)] at h
      omega
    · rw [T1.1, t64 n (by omega)]
      refine ⟨fun h2 => ldR l56 rfl ?_, fun h2 => bad p c1 (no ?_) F1 z1⟩
      · rw [lg_cmp_lt] at h h2
        obtain ⟨a, a1, a2, a3⟩ := lOf n4 h h2
        rw [a3, t32 a (by omega)]
        refine asI l60 (by omega) (by decide) ?_
        rw [show 12 * j + m - 1 - p = 12 * j + (m - 1 - p) by omega]
        refine alL l63 (by omega) (by decide) (ldR l56 rfl (ldR l2 rfl (ldR l56 rfl (alI l60 (by omega) (by decide) ?_))))
        rw [mI_s]
        refine alI l3 (by omega) (by decide) ?_
        have m4 := T1.2.2.2.2.2 a (by omega)
        rw [mI_n (by omega), m4.1, t64 _ (by omega)]
        have f2 : Fr [60] c (mI c1 60 (p + 1) (nI a)) := f1.mI (by simp)
        have ev : (mI c1 60 (p + 1) (nI a)).2.1 63 (12 * j + (m - 1 - p)) = it1 (m - 1 - p) := e63 _ (by omega)
        rw [ev, lg_cmp_eq]
        refine ⟨fun h3 => ?_, fun h3 => bad p _ (no ?_) (f2.mono (by simp)) (by rw [mI_n (by omega)]; exact z1)⟩
        · refine ih _ f2 (fun q hq => ?_) ?_
          · by_cases eq : q = p + 1
            · subst eq; rw [mI_s, stJ_s (by omega) a3]
            · rw [mI_n (by omega)]; exact h1 q (by omega)
          · rw [he, ffrom_none hp (if_pos (okJ_i.mpr ⟨a, a1, a2, a3, h3⟩))]
        · rintro ⟨b, b1, b2, b3, b4⟩
          rw [a3] at b3
          have := (pk_lEQ (by omega) (by omega)).mp b3
          subst this
          exact h3 b4
      · rintro ⟨a, a1, a2, a3, _⟩
        rw [lg_cmp_lt, a3, ltL, pk_lT (by omega), pk_lT (by omega)] at h2
        omega
theorem c_judge {ls : lsT} {it : itT} (hG : Gd n mir N) (hT : Tab c 2 n mir N) (hL : LsAt c 62 63 ls it) (h0 : c.1 60 0 = nI 0) {l : Int32} {K : Int32 → gk_H → Prop} (k : ∀ c', Fr [56, 60, 61] c c' → c'.1 60 0 = nI 0 → K (sp_ju N n mir ls it l) (Hm c')) : RnI E mX11_judge (dd + 4, 0, 0) [.ref 0, .int l] (Hm c) K := by
  unfold sp_ju at k
  refine vX11_judge_0 (c_isList (rngN (by decide) (fun j hj hx h => ldR l0 rfl ?_) (fun h => ?_)))
  · rw [if_pos h] at k
    subst hx
    rw [w_nI (by omega)] at k
    refine alI l62 hj (by decide) ?_
    rw [(hL.1 j hj).1]
    rcases (hL.1 j hj).2 with e | ⟨q, hq, e⟩
    · have k := k c Fr.rf h0
      rw [e] at k ⊢
      exact ⟨fun z => absurd z (by decide), fun _ => k⟩
    · rw [e, if_neg (nI_ne1 (by omega)), w_nI (by omega)] at k
      rw [e]
      refine ⟨fun _ => ldR l0 rfl (alI l62 hj (by decide) ?_), fun z => absurd (nI_le0 (by omega)) z⟩
      rw [(hL.1 j hj).1, e]
      refine bN0 (fun e1 => ldR l0 rfl (ldR l0 rfl (ldR l0 rfl (alI l62 hj (by decide) ⟨obj l56, ?_⟩)))) (fun e1 => ?_)
      · rw [(hL.1 j hj).1, e, pk_mul]
        rw [if_neg (fun z : nI q = 0 => e1 ((nI_eq (b := 0) (by omega) (by decide)).mp z))] at k
        exact c_verdict hG hT hj hq (by omega) h0 (fun i hi => hL.2 j q i hj e hq hi) k
      · have k := k c Fr.rf h0
        subst e1
        exact k
  · have k := k c Fr.rf h0
    rw [if_neg (by rw [h]; decide)] at k
    exact k
theorem n_judge {ls : lsT} {it : itT} (hG : Gd n mir N) (hM : MT c n mir N) (hL : LsAt c 75 76 ls it) {l : Int32} {K : Int32 → gk_H → Prop} (k : ∀ c', F8 [74] [13] c c' → K (sp_ju N n mir ls it l) (Hm c')) : RnI E mX12_judge (dd + 2, 0, 0) [.ref 68, .int l] (Hm c) K := by
  unfold sp_ju at k
  have n4 := hG.n4
  have n1 := hG.n1
  refine vX12_judge_0 (n_isList (rngN (by decide) (fun j hj hx h => ldR l68 rfl ?_) (fun h => ?_)))
  · rw [if_pos h] at k
    subst hx
    rw [w_nI (by omega)] at k
    refine alI l75 hj (by decide) ?_
    rw [(hL.1 j hj).1]
    rcases (hL.1 j hj).2 with e | ⟨m, hm, e⟩
    · have k := k c F8.rf
      rw [e] at k ⊢
      exact ⟨fun z => absurd rfl z, fun _ => k⟩
    · rw [e, if_neg (nI_ne1 (by omega)), w_nI (by omega)] at k
      rw [e]
      refine ⟨fun _ => ldR l68 rfl (alI l75 hj (by decide) ?_), fun z => absurd z (nI_ne1 (by omega))⟩
      rw [(hL.1 j hj).1, e]
      refine bN0 (fun e1 => ldR l68 rfl (alI l75 hj (by decide) ?_)) (fun e1 => ?_)
      · rw [(hL.1 j hj).1, e, nI_add]
        rw [if_neg (fun z : nI m = 0 => e1 ((nI_eq (b := 0) (by omega) (by decide)).mp z))] at k
        refine stI l68 rfl ?_
        have bad : ∀ p c', jF n mir (it j) m = some p → F8 [74] [13] c c' → K (nI p) (Hm c') := fun p c' e f => by
          have k := k c' f
          rw [sp_j1, e] at k
          exact k
        have hi : ∀ i, i < m → c.2.1 76 (12 * j + i) = it j i := fun i hi => hL.2 j m i hj e hm hi
        refine down (P := fun p => ∀ c', F8 [74] [13] c c' → c'.1 68 13 = nI (m + 1) → (∀ q, 1 ≤ q → q < p + 1 → c'.1 74 q = nI (stJ (it j) q)) → jF n mir (it j) m = ffrom m (fun p => if okJ n mir (it j) m p = true then none else some p) p → pX12_judge_48 E (dd + 1) 68 (nI j) (nI (p + 1)) (Hm c') K) m ?_ ?_ 0 (Nat.zero_le _) _ (F8.rf.slot (by simp)) mI_s (fun q h1 hq => absurd hq (by omega)) rfl
        · intro c1 f1 e13 h1 he
          rw [ffrom_end] at he
          refine vX12_judge_48 (ldI l68 rfl ?_)
          rw [e13]
          refine bLe (fun _ => ldR l68 rfl (asI l74 (by decide) (by decide) ⟨obj l68, ?_⟩)) (fun z => absurd z (by omega))
          have sl := stJ_lt hG he
          have F2 : F8 [74] [13] c (mI c1 74 0 (nI 0)) := f1.put (by simp) (by decide)
          have P2 : PiM (mI c1 74 0 (nI 0)) (m + 1) (stJ (it j)) := ⟨by rw [mI_n (by omega)]; exact e13, fun d hd => by
            by_cases ed : d = 0
            · subst ed; rw [mI_s]; rfl
            · rw [mI_n (by omega)]; exact h1 d (by omega) hd⟩
          have M2 := hM.f8 F2 (by decide) (by decide) (by decide)
          refine n_isAllHad M2 P2 (by omega) sl ?_
          have k := k _ F2
          rw [sp_j1, he] at k
          dsimp only at k
          refine bBn (fun e => ⟨obj l68, n_falseStep M2 P2 (by omega) sl ?_⟩) (fun e => ?_)
          · rw [if_pos (of_decide_eq_true e)] at k
            cases h : mfF N n (stJ (it j)) (m + 1) with
            | none =>
              rw [h] at k
              exact ⟨fun z => absurd rfl z, fun _ => k⟩
            | some d =>
              rw [h] at k
              have := mf_lt (by omega) d h
              refine ⟨fun _ => ?_, fun z => absurd z (nI_ne5 (by omega))⟩
              show K (nI 100 + nI d) _
              rw [nI_add]
              exact k
          · rw [if_neg (of_decide_eq_false e)] at k
            exact k
        · intro p hp ih c1 f1 e13 h1 he
          have M1 := hM.f8 f1 (by decide) (by decide) (by decide)
          have e76 : ∀ i, i < m → c1.2.1 76 (12 * j + i) = it j i := fun i hi2 => by rw [f1.l (by decide)]; exact hi i hi2
          refine vX12_judge_48 (ldI l68 rfl ?_)
          rw [e13]
          refine bLe (fun z => absurd z (by omega)) (fun _ => ldR l68 rfl ?_)
          rw [pk_mul, nI_add, nI_sub1 (by omega), nI_sub1 (by omega), show 12 * j + (p + 1) - 1 = 12 * j + p by omega, Nat.add_sub_cancel]
          refine alL l76 (by omega) (by decide) (ldR l68 rfl (ldI l68 rfl ?_))
          rw [e76 p hp, e13, nI_add, pk_sub (by omega), nI_sub1 (by omega), show 12 * j + (m + 1) - (p + 1) - 1 = 12 * j + (m - 1 - p) by omega]
          refine alL l76 (by omega) (by decide) (ldI l68 rfl ?_)
          rw [e76 _ (by omega), M1.hn, nI_sub1 n1, t64 _ (by omega)]
          have no : (¬ ∃ a, 1 ≤ a ∧ a < n ∧ it j p = lN a ∧ it j (m - 1 - p) = lN (mir a)) → jF n mir (it j) m = some p := fun h => by
            rw [he]
            exact ffrom_some hp (if_neg (by rw [okJ_f h]; decide))
          have fr : ∀ v : Int64, decide ((lN 1).toInt ≤ v.toInt ∧ v.toInt ≤ (lN (n - 1)).toInt) = true ↔ ∃ a, 1 ≤ a ∧ a < n ∧ v = lN a := fun v => by
            rw [decide_eq_true_eq, pk_lT (by decide), pk_lT (by omega)]
            constructor
            · intro ⟨a1, a2⟩
              exact lOf n4 (by rw [ltL, pk_lT (by decide)]; omega) (by rw [ltL, pk_lT (by omega)]; omega)
            · rintro ⟨a, a1, a2, rfl⟩
              rw [pk_lT (by omega)]
              omega
          refine m_isFrom (bB0 (fun e2 => bad p c1 (no ?_) f1) (fun e2 => ldI l68 rfl ?_))
          · rintro ⟨a, a1, a2, a3, _⟩
            rw [(fr _).mpr ⟨a, a1, a2, a3⟩] at e2
            exact absurd e2 (by decide)
          · obtain ⟨a, a1, a2, a3⟩ := (fr _).mp e2
            rw [M1.hn, nI_sub1 n1, t64 _ (by omega)]
            refine m_isFrom (bB0 (fun e4 => bad p c1 (no ?_) f1) (fun e4 => ldR l68 rfl ?_))
            · rintro ⟨b, b1, b2, b3, b4⟩
              have mb : 1 ≤ mir b := by
                rcases Nat.eq_zero_or_pos (mir b) with z | z
                · have := hG.mm b b2
                  rw [z, hG.m0] at this
                  omega
                · exact z
              rw [(fr _).mpr ⟨mir b, mb, hG.ml b b2, b4⟩] at e4
              exact absurd e4 (by decide)
            · obtain ⟨b, b1, b2, b3⟩ := (fr _).mp e4
              rw [b3, t32 b (by omega)]
              refine alI l69 (by omega) (by decide) ?_
              have m4 := M1.row b (by omega)
              rw [m4.1, t64 _ (by omega), a3, lg_cmp_eq]
              refine ⟨fun e5 => ldR l68 rfl ?_, fun e5 => bad p c1 (no ?_) f1⟩
              · have e6 := (pk_lEQ (by omega) (by omega)).mp e5
                rw [t32 a (by omega)]
                refine asI l74 (by omega) (by decide) ?_
                rw [nI_add]
                refine ih _ (f1.put (by simp) (by decide)) (by rw [mI_n (by omega)]; exact e13) (fun q hq1 hq => ?_) ?_
                · by_cases eq : q = p + 1
                  · subst eq; rw [mI_s, stJ_s (by omega) a3]
                  · rw [mI_n (by omega)]; exact h1 q hq1 (by omega)
                · rw [he, ffrom_none hp (if_pos (okJ_i.mpr ⟨a, a1, a2, a3, by rw [b3, ← e6, hG.mm b b2]⟩))]
              · rintro ⟨a', c1', c2', c3', c4'⟩
                rw [a3] at c3'
                rw [b3] at c4'
                have x1 := (pk_lEQ (by omega) (by omega)).mp c3'
                have x2 := (pk_lEQ (by omega) (by have := hG.ml a' c2'; omega)).mp c4'
                subst x1
                exact e5 (by rw [x2, hG.mm a c2'])
      · have k := k c F8.rf
        subst e1
        exact k
  · have k := k c F8.rf
    rw [if_neg (by rw [h]; decide)] at k
    exact k
end JU
