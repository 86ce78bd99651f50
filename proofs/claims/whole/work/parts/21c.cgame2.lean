/-! the game: the class plays -/
section CP
variable {E : gk_E} {dd : Nat} {c : gm} {s n N : Nat} {mir : Nat → Nat} {lab : Nat → Nat → Nat} {fb : Bool} {fs : Nat} {fl : Nat → Nat → Nat}
/-- the gaps that no row of P answers -/
def FP (st : fT → Bool) (N n s : Nat) (lab : Nat → Nat → Nat) (mir : Nat → Nat) (P : List fT) : gF := fun i j m => opP N n lab i j s m && P.all (fun g => !(st g && 4 * g i + mir (g j) == m))
theorem FP_snoc {st : fT → Bool} {P : List fT} {g : fT} {i j m : Nat} : FP st N n s lab mir (P ++ [g]) i j m = (FP st N n s lab mir P i j m && !(st g && 4 * g i + mir (g j) == m)) := by
  unfold FP
  rw [List.all_append]
  simp [Bool.and_assoc]
theorem gC_d {i j m : Nat} (hj : j < 10) (hm : m < 16) : gC i j m / 1000 = i ∧ gC i j m / 100 % 10 = j ∧ gC i j m / 10 % 10 = m / 4 ∧ gC i j m % 10 = m % 4 := by
  unfold gC
  have ha : m / 4 < 4 := by omega
  have hb : m % 4 < 4 := by omega
  generalize m / 4 = a at *
  generalize m % 4 = b at *
  refine ⟨by omega, ?_, ?_, by omega⟩
  · have : (1000 * i + 100 * j + 10 * a + b) / 100 = 10 * i + j := by omega
    rw [this]; omega
  · have : (1000 * i + 100 * j + 10 * a + b) / 10 = 100 * i + 10 * j + a := by omega
    rw [this]; omega
theorem rw_mem {g : fT} (h : g ∈ rwL N n s lab) : (∀ q, q < s → 1 ≤ g q ∧ g q < n) ∧ ∀ q, q < s → rgd N s lab q g = true := by
  obtain ⟨_, a⟩ := en_sound rgd_L s _ h
  exact ⟨fun q hq => (rg_mem _ 1 rfl).mp (a q hq).1, fun q hq => (a q hq).2⟩
theorem kil_kG (hG : Gd n mir N) (hs : s ≤ 6) {r : Nat} : kil fb fs fl N n mir (r + 1) s lab = kG s (FP (stn fb fs fl N n mir r s lab) N n s lab mir (rwL N n s lab)) := by
  have n4 := hG.n4
  rw [kil_s]
  unfold gpL
  rw [List.find?_flatMap]
  unfold kG
  have e0 : ∀ g : Nat → Option Nat, (List.range s).findSome? g = ffrom s g 0 := fun g => by unfold ffrom; rw [List.drop_zero]
  rw [e0]
  refine ffrom_cg (fun i _ hi _ => ?_)
  rw [List.find?_flatMap]
  refine ffrom_cg (fun j hj1 hj2 _ => ?_)
  unfold blk kG1
  rw [List.find?_map, ← List.head?_filter, List.filter_filter]
  congr 2
  refine List.filter_congr (fun m hm => ?_)
  have hm16 := List.mem_range.mp hm
  obtain ⟨d1, d2, d3, d4⟩ := gC_d (i := i) (j := j) (m := m) (by omega) hm16
  unfold FP
  cases ho : opP N n lab i j s m with
  | false => simp
  | true =>
    have hr : opR n m = true := by
      unfold opP at ho
      simp only [Bool.and_eq_true] at ho
      exact ho.1.1
    unfold opR at hr
    obtain ⟨r1, r2, r3, r4⟩ := of_decide_eq_true hr
    rw [Bool.and_true, Bool.true_and]
    show (!(gfL N n s mir lab (gC i j m)).any (stn fb fs fl N n mir r s lab)) = _
    unfold gfL
    rw [d1, d2, d3, d4, List.any_filter, List.not_any_eq_all_not, Bool.eq_iff_iff, List.all_eq_true, List.all_eq_true]
    clear d1 d2 d3 d4
    have key : ∀ f : fT, f ∈ rwL N n s lab → ((f i == m / 4 && f j == mir (m % 4)) && stn fb fs fl N n mir r s lab f) = (stn fb fs fl N n mir r s lab f && 4 * f i + mir (f j) == m) := fun f hf => by
      obtain ⟨a, _⟩ := rw_mem hf
      have a1 := a i hi
      have a2 := a j hj2
      have m1 := hG.ml _ a2.2
      have m2 := hG.mm _ a2.2
      have m3 := hG.mm _ r4
      rw [Bool.and_comm]
      congr 1
      rw [Bool.eq_iff_iff]
      simp only [Bool.and_eq_true, beq_iff_eq]
      constructor
      · intro ⟨h1, h2⟩
        rw [h2, m3, h1]
        omega
      · intro h
        have e1 : f i = m / 4 := by omega
        have e2 : mir (f j) = m % 4 := by omega
        exact ⟨e1, by rw [← e2, m2]⟩
    exact ⟨fun h f hf => by rw [← key f hf]; exact h f hf, fun h f hf => by rw [key f hf]; exact h f hf⟩
def rG : Nat → List Nat
  | 0 => [25, 26, 27, 28, 38, 39]
  | 1 => [25, 26, 27, 28, 38, 39, 42, 44, 45, 46, 47]
  | _ => [25, 26, 27, 28, 38, 39, 42, 43, 44, 45, 46, 47, 48, 49, 50, 51]
theorem rG_s {r q : Nat} (hr : r < 2) (h : q ∈ rG r) : q ∈ rG (r + 1) := match r, hr with
  | 0, _ => by
    have : ∀ q, q ∈ rG 0 → q ∈ rG 1 := by decide
    exact this q h
  | 1, _ => by
    have : ∀ q, q ∈ rG 1 → q ∈ rG 2 := by decide
    exact this q h
theorem rG_own {r : Nat} (hr : r < 2) : ∀ q, q ∈ [42 + r, 44 + 4 * r, 44 + 4 * r + 1, 44 + 4 * r + 2, 44 + 4 * r + 3] → q ∈ rG (r + 1) ∧ q ∉ rG r := match r, hr with
  | 0, _ => by decide
  | 1, _ => by decide
theorem rG_f {r : Nat} (hr : r < 3) : ∀ q, q ∈ [1, 2, 3, 5, 6] → q ∉ rG r := match r, hr with
  | 0, _ => by decide
  | 1, _ => by decide
  | 2, _ => by decide
def OutC (fb : Bool) (fs : Nat) (fl : Nat → Nat → Nat) (N n : Nat) (mir : Nat → Nat) (E : gk_E) (r : Nat) : Prop := ∀ c s lab, Tab c 2 n mir N → Vl n mir s lab → s + r ≤ 6 → NetAt c 38 s lab → BrC c fb fs fl → ∀ dd (K : Int32 → gk_H → Prop), (∀ c', Fr (rG r) c c' → NetAt c' 38 s lab → (∀ r', r = r' + 1 → kil fb fs fl N n mir r s lab ≠ none → GA c' (42 + r') s (FP (stn fb fs fl N n mir r' s lab) N n s lab mir (rwL N n s lab))) → K (bI (kil fb fs fl N n mir r s lab).isNone) (Hm c')) → RnI E mX2_outlives (dd + (5 + 2 * r), 0, 0) [.ref 37, .int (nI r)] (Hm c) K
theorem c_stands {r b : Nat} (hr : r < 2) (hO : OutC fb fs fl N n mir E r) (hG : Gd n mir N) (hv : Vl n mir s lab) (hT : Tab c 2 n mir N) (hs : s + 1 + r ≤ 6) (hN : NetAt c 38 s lab) (hB : BrC c fb fs fl) (hlb : lay[b]? = some (.inr (0, 6, []))) (hb1 : b ≠ 38) (hb2 : b ≠ 39) {f : fT} (hf : ∀ q, q < s → c.1 b q = nI (f q) ∧ 1 ≤ f q ∧ f q < n) {K : Int32 → gk_H → Prop} (k : ∀ c', Fr (rG r) c c' → NetAt c' 38 s lab → K (bI (stn fb fs fl N n mir r s lab f)) (Hm c')) : RnI E mX2_stands (dd + (5 + 2 * r) + 1, 0, 0) [.ref 37, .ref b, .int (nI r)] (Hm c) K := by
  have n4 := hG.n4
  have v1 : ∀ p q, p < s → q < s → lab p q < 4 := fun p q hp hq => Nat.lt_of_lt_of_le (hv p q hp hq).1 n4
  have bs : ∀ q, q ∈ [25, 26, 27, 28, 38, 39] → q ∈ rG r := match r, hr with
    | 0, _ => by decide
    | 1, _ => by decide
  rw [show dd + (5 + 2 * r) + 1 = (dd + 2 * r + 1 + 3) + 1 + 1 by omega]
  refine vX2_stands_0 (ldR l37 rfl (ldR l37 rfl (ldR l1 rfl ⟨obj l38, c_grow ⟨l38, l39⟩ ⟨l2, l3⟩ (by decide) (by decide) hlb hb1 hb2 hT.2.2.2.2.2 hN (by omega) (fun i hi => ⟨(hf i hi).1, by have := (hf i hi).2; omega⟩) (fun c1 f1 g1 => ldR l37 rfl (ldR l37 rfl ⟨obj l25, ?_⟩))⟩)))
  have B1 := hB.fr f1 (by decide) (by decide) (by decide)
  have hg4 : ∀ i, i < s → f i < 4 := fun i hi => by have := (hf i hi).2; omega
  rw [show dd + 2 * r + 1 + 3 + 1 = (dd + 2 * r + 2) + 3 by omega]
  refine c_isBarred B1.1 (fun e => (B1.2 e).1) ⟨l38, l39⟩ (by decide) (by decide) (by decide) g1 (fun e => (B1.2 e).2) (gl_v hG.m4 hg4 v1) (fun c2 f2 => ?_)
  have g2 := g1.fr f2 (by decide) (by decide)
  have F2 : Fr (rG r) c c2 := (f1.mono (fun q hq => bs q (by simp at hq ⊢; omega))).trans (f2.mono (fun q hq => bs q (by simp at hq ⊢; omega)))
  have fin : ∀ c3, Fr (rG r) c c3 → NetAt c3 38 (s + 1) (gl s mir f lab) → LdI (Hm c3) 38 3 0 fun v9 => StI (Hm c3) 38 3 0 (v9 - (nI 1)) fun h10 => K (bI (stn fb fs fl N n mir r s lab f)) h10 := by
    intro c3 F3 g3
    refine ldI l38 rfl ?_
    rw [g3.1, nI_sub1 (by omega), Nat.add_sub_cancel]
    exact stI l38 rfl (k _ (F3.mI (bs 38 (by simp))) (g3.back (Fr.rf.mI (by simp)) mI_s))
  refine bBn (fun e => ldR l37 rfl ?_) (fun e => ⟨obj l37, ?_⟩)
  · have fin := fin c2 F2 g2
    rw [stn, alw, e] at fin
    exact fin
  · rw [show dd + 2 * r + 2 + 3 = dd + (5 + 2 * r) by omega]
    refine hO c2 (s + 1) (gl s mir f lab) ((hT.fr f1 (by decide) (by decide)).fr f2 (by decide) (by decide)) (gl_Vl hG hv (fun q hq => (hf q hq).2)) (by omega) g2 (B1.fr f2 (by decide) (by decide) (by decide)) dd _ (fun c3 f3 g3 _ => ?_)
    have fin := fin c3 (F2.trans f3) g3
    rw [stn, alw, e, show (!false && (kil fb fs fl N n mir r (s + 1) (gl s mir f lab)).isNone) = (kil fb fs fl N n mir r (s + 1) (gl s mir f lab)).isNone from rfl] at fin
    exact bB0 (fun e2 => ldR l37 rfl (by rw [e2] at fin; exact fin)) (fun e2 => ldR l37 rfl (by rw [e2] at fin; exact fin))
theorem anO_n {F : gF} {g : fT} : anO s mir F g = none ↔ ∀ i j, i ≤ j → j < s → F i j (4 * g i + mir (g j)) = false := by
  unfold anO
  rw [ffrom_nn]
  constructor
  · intro h i j h1 h2
    have := ffrom_nn.mp (h i (Nat.zero_le _) (by omega)) j h1 h2
    cases e : F i j (4 * g i + mir (g j)) with
    | false => rfl
    | true => rw [if_pos e] at this; exact absurd this (by simp)
  · intro h i _ hi
    exact ffrom_nn.mpr (fun j h1 h2 => if_neg (by rw [h i j h1 h2]; decide))
theorem outC (hG : Gd n mir N) : ∀ r, r < 3 → OutC fb fs fl N n mir E r
  | 0, _ => fun c s lab hT hv hs hN hB dd K k => by
    exact vX2_outlives_0 ⟨fun _ => k c Fr.rf hN (fun r' h => absurd h (by omega)), fun z => absurd (by decide) z⟩
  | r + 1, hr3 => fun c s lab hT hv hs hN hB dd K k => by
    have hr : r < 2 := by omega
    have hO := outC hG r (by omega)
    have n4 := hG.n4
    have s6 := hN.2.1
    have v1 : ∀ p q, p < s → q < s → lab p q < 4 := fun p q hp hq => Nat.lt_of_lt_of_le (hv p q hp hq).1 n4
    have hla : lay[42 + r]? = some (.inr (0, 36, [])) := match r, hr with
      | 0, _ => l42
      | 1, _ => l43
    have hat : ([42, 43] : List Nat)[r]? = some (42 + r) := match r, hr with
      | 0, _ => rfl
      | 1, _ => rfl
    have hat2 : ([44, 48] : List Nat)[r]? = some (44 + 4 * r) := match r, hr with
      | 0, _ => rfl
      | 1, _ => rfl
    have hw : isRw (44 + 4 * r) 38 := match r, hr with
      | 0, _ => isRw44
      | 1, _ => isRw48
    have own : ∀ q, q ∈ [42 + r, 44 + 4 * r, 44 + 4 * r + 1, 44 + 4 * r + 2, 44 + 4 * r + 3] → q ∈ rG (r + 1) ∧ q ∉ rG r := rG_own hr
    have hkk := kil_kG (fb := fb) (fs := fs) (fl := fl) (r := r) (lab := lab) hG s6
    have ho : 44 + 4 * r < 52 := by omega
    generalize hoo : 44 + 4 * r = o at *
    generalize haa : 42 + r = a at *
    have ea : a < o := by omega
    have ea2 : 42 ≤ a := by omega
    have own1 := own a (by simp)
    have own2 := own o (by simp)
    have own3 := own (o + 1) (by simp)
    have own4 := own (o + 2) (by simp)
    have own5 := own (o + 3) (by simp)
    have fixed := rG_f (r := r + 1) (by omega)
    generalize hst : stn fb fs fl N n mir r s lab = st at *
    rw [show dd + (5 + 2 * (r + 1)) = (dd + (5 + 2 * r) + 1) + 1 by omega]
    refine vX2_outlives_0 (bLt (fun z => absurd z (by omega)) (fun _ => bLe (fun _ => ldR l37 rfl ?_) (fun z => absurd z (by omega))))
    rw [nI_sub1 (by omega), Nat.add_sub_cancel]
    refine alR (t := 2) l41 hr (by decide) hat (ldR l37 rfl (alR (t := 1) l40 hr (by decide) hat2 ⟨obj l37, ?_⟩))
    rw [show dd + (5 + 2 * r) + 1 = (dd + 2 * r + 4) + 2 by omega]
    refine c_findGaps hla ea2 hT hN v1 (fun c1 f1 A1 => ⟨obj hw.1, ?_⟩)
    have T1 := hT.fr f1 (by simp <;> omega) (by simp <;> omega)
    have N1 := hN.fr f1 (by simp <;> omega) (by simp <;> omega)
    refine c_spanAll (dd := dd + 2 * r + 5) hw T1 N1 (fun c2 f2 e2 z2 => ⟨obj l37, ?_⟩)
    have F2 : Fr (rG (r + 1)) c c2 := (f1.mono (fun q hq => by simp at hq; rw [hq]; exact own1.1)).trans (f2.mono (fun q hq => by
      simp at hq
      rcases hq with h | h | h
      · rw [h]; exact own2.1
      · rw [h]; exact own4.1
      · rw [h]; exact own5.1))
    have T2 := T1.fr f2 (by simp <;> omega) (by simp <;> omega)
    have N2 := N1.fr f2 (by simp <;> omega) (by simp <;> omega)
    have A2 : GA c2 a s (FP st N n s lab mir []) := fun i j h1 h2 => by
      rw [f2.i (by simp <;> omega), A1 i j h1 h2]
      congr 1
      exact bfn_cg (fun m _ => by unfold FP; simp)
    have Z2 : WZ c2 o s (fun _ => 1) (fun _ => n) := ⟨e2, s6, fun q hq => ⟨(z2 q hq).1, (z2 q hq).2, show (1 : Nat) ≤ 6 by decide, show n ≤ 6 by omega⟩⟩
    refine c_isOpen hla N2 A2 ⟨obj hw.1, ?_⟩
    have W := Wrw (E := E) (n := n) (mir := mir) (lo := fun _ => 1) (hx := fun _ => n) (N := N) hw v1 (fun _ _ => n4)
    rw [show dd + 2 * r + 4 + 2 = (dd + 2 * r + 3) + 1 + 2 by omega]
    have endC : ∀ c3 t, t < 2 ^ 31 → Fr (rG (r + 1)) c c3 → NetAt c3 38 s lab → GA c3 a s (FP st N n s lab mir (rwL N n s lab)) → pX2_outlives_55 E (dd + 2 * r + 3 + 1 + 2) 37 (nI (r + 1)) a o (bI (kG s (FP st N n s lab mir (rwL N n s lab))).isSome) (nI 0) (nI t) (Hm c3) K := by
      intro c3 t ht F3 N3 A3
      have hk : kG s (FP st N n s lab mir (rwL N n s lab)) = none → K (nI 1) (Hm c3) := fun e => by
        have k := k c3 F3 N3 (fun r' hr' hne => absurd (by rw [hkk, e]) hne)
        rw [hkk, e] at k
        exact k
      have hk2 : kG s (FP st N n s lab mir (rwL N n s lab)) ≠ none → K (nI 0) (Hm c3) := fun e => by
        have k := k c3 F3 N3 (fun r' hr' hne => by
          have : r' = r := by omega
          subst this
          rw [haa, hst]; exact A3)
        rw [hkk] at k
        cases h : kG s (FP st N n s lab mir (rwL N n s lab)) with
        | none => exact absurd h e
        | some v => rw [h] at k; exact k
      have both : (¬ bI (kG s (FP st N n s lab mir (rwL N n s lab))).isSome = 0 → K (nI 0) (Hm c3)) ∧ (bI (kG s (FP st N n s lab mir (rwL N n s lab))).isSome = 0 → K (nI 1) (Hm c3)) := bBn (fun e => hk2 (fun z => by rw [z] at e; exact absurd e (by decide))) (fun e => hk (by simpa using e))
      exact vX2_outlives_55 ⟨fun _ => both, fun _ => ⟨fun _ => both, fun z => absurd rfl z⟩⟩
    refine c_first (dd := dd + 2 * r + 3) (f0 := fun _ => 0) WI6 hw.wh W Z2 ⟨N2, T2⟩ (fun he c3 f3 => ?_) (fun g hx0 he hBd hgd c3 f3 A3 R3 => ?_)
    · have he : rwL N n s lab = [] := he
      have A3 := A2.fr f3 (by simp <;> omega)
      have := endC c3 0 (by decide) (F2.trans (f3.mono (fun q hq => by simp at hq; rw [hq]; exact own3.1))) (N2.fr f3 (by simp <;> omega) (by simp <;> omega)) (by rw [he]; exact A3)
      rw [he] at this
      exact this
    · have step : ∀ P g RL c2 t, rwL N n s lab = P ++ g :: RL → t < 100000 → Bd s (fun _ => 1) (fun _ => n) g → Fr (rG (r + 1)) c c2 → WA c2 o s g → RwR 38 s lab n mir N c2 → GA c2 a s (FP st N n s lab mir P) → (∀ c3, Fr (a :: rG r) c2 c3 → NetAt c3 38 s lab → GA c3 a s (FP st N n s lab mir (P ++ [g])) → RnI E mX10_next (dd + 2 * r + 3 + 1 + 2, 0, 0) [.ref o] (Hm c3) (fun v h => pX2_outlives_55 E (dd + 2 * r + 3 + 1 + 2) 37 (nI (r + 1)) a o (bI (kG s (FP st N n s lab mir (P ++ [g]))).isSome) v (nI (t + 1)) h K)) → pX2_outlives_55 E (dd + 2 * r + 3 + 1 + 2) 37 (nI (r + 1)) a o (bI (kG s (FP st N n s lab mir P)).isSome) (nI 1) (nI t) (Hm c2) K := by
        intro P g RL c2 t hP ht hBd F2 A2 R2 G2 nx
        have hf4 : ∀ q, q < s → c2.1 (o + 1) q = nI (g q) ∧ g q < 4 := fun q hq => ⟨A2 q hq, Nat.lt_of_lt_of_le (hBd q hq).2 n4⟩
        have hf1 : ∀ q, q < s → c2.1 (o + 1) q = nI (g q) ∧ 1 ≤ g q ∧ g q < n := fun q hq => ⟨A2 q hq, (hBd q hq).1, (hBd q hq).2⟩
        have T2 := R2.2
        refine vX2_outlives_55 (bLe (fun z => absurd z (by omega)) (fun _ => ⟨fun z => absurd z (by decide), fun _ => bB0 (fun e => ?_) (fun e => ldR hw.1 rfl ⟨obj l37, c_answers hla hw.2.1 T2 R2.1 G2 hf4 ?_⟩)⟩))
        · have e0 : kG s (FP st N n s lab mir P) = none := by simpa using e
          have e1 : kG s (FP st N n s lab mir (rwL N n s lab)) = none := kG_n.mpr (fun i j m h1 h2 h3 => by
            have := kG_n.mp e0 i j m h1 h2 h3
            rw [hP]
            unfold FP at this ⊢
            rw [List.all_append, ← Bool.and_assoc, this, Bool.false_and])
          have k := k c2 F2 R2.1 (fun r' hr' hne => absurd (by rw [hkk, e1]) hne)
          rw [hkk, e1] at k
          rw [e]
          exact ⟨fun z => absurd rfl z, fun _ => k⟩
        · have same : (∀ i j m, i ≤ j → j < s → m < 16 → FP st N n s lab mir P i j m = FP st N n s lab mir (P ++ [g]) i j m) → ∀ c3, Fr (rG r) c2 c3 → NetAt c3 38 s lab → RnI E mX10_next (dd + 2 * r + 3 + 1 + 2, 0, 0) [.ref o] (Hm c3) (fun v h => pX2_outlives_55 E (dd + 2 * r + 3 + 1 + 2) 37 (nI (r + 1)) a o (bI (kG s (FP st N n s lab mir P)).isSome) v (nI t + nI 1) h K) := fun hs c3 f3 N3 => by
            rw [kG_cg hs, nI_add]
            exact nx c3 (f3.mono (fun q hq => List.mem_cons_of_mem _ hq)) N3 (fun i j h1 h2 => by rw [(G2.fr f3 own1.2) i j h1 h2]; congr 1; exact bfn_cg (fun m hm => hs i j m h1 h2 hm))
          refine bB0 (fun e3 => ⟨obj hw.1, same (fun i j m h1 h2 h3 => ?_) c2 Fr.rf R2.1⟩) (fun e3 => ldR hw.1 rfl ⟨obj l37, ?_⟩)
          · rw [FP_snoc]
            have := anO_n.mp (by simpa using e3) i j h1 h2
            by_cases em : 4 * g i + mir (g j) = m
            · rw [← em, this]; rfl
            · rw [show (4 * g i + mir (g j) == m) = false by simpa using em, Bool.and_false]
              simp
          · rw [nI_sub1 (by omega), Nat.add_sub_cancel, show dd + 2 * r + 3 + 1 + 2 = dd + (5 + 2 * r) + 1 by omega]
            refine c_stands (f := g) hr hO hG hv T2 (by omega) R2.1 (hB.fr F2 (fixed 1 (by simp)) (fixed 5 (by simp)) (fixed 6 (by simp))) hw.2.1 (by omega) (by omega) hf1 (fun c3 f3 N3 => ?_)
            rw [hst, show dd + (5 + 2 * r) + 1 = dd + 2 * r + 3 + 1 + 2 by omega]
            have fx0 := rG_f (r := r) (by omega)
            refine bB0 (fun e4 => ⟨obj hw.1, same (fun i j m h1 h2 h3 => ?_) c3 f3 N3⟩) (fun e4 => ldR hw.1 rfl ⟨obj l37, c_strike (f := g) hla (by omega) ea2 hw.2.1 (T2.fr f3 (fx0 2 (by simp)) (fx0 3 (by simp))) N3 (G2.fr f3 own1.2) (fun q hq => by rw [f3.i own3.2]; exact hf4 q hq) (fun c4 f4 G4 => ⟨obj l37, ?_⟩)⟩)
            · rw [FP_snoc, e4]
              simp
            · have N4 := N3.fr f4 (by simp <;> omega) (by simp <;> omega)
              have G5 : GA c4 a s (FP st N n s lab mir (P ++ [g])) := fun i j h1 h2 => by
                rw [G4 i j h1 h2]
                congr 1
                refine bfn_cg (fun m _ => ?_)
                rw [FP_snoc, e4, Bool.true_and]
                show (FP st N n s lab mir P i j m && !(m == 4 * g i + mir (g j))) = _
                rw [Bool.beq_comm]
              refine c_isOpen hla N4 G5 ⟨obj hw.1, ?_⟩
              rw [nI_add]
              exact nx c4 ((f3.mono (fun q hq => List.mem_cons_of_mem _ hq)).trans (f4.mono (fun q hq => by simp at hq; rw [hq]; exact List.mem_cons_self))) N4 G5
      have ar : ∀ q, q ∈ a :: rG r → q ∈ rG (r + 1) := fun q hq => by
        rcases List.mem_cons.mp hq with h | h
        · rw [h]; exact own1.1
        · exact rG_s hr h
      have nar : ∀ q, q ∈ [o, o + 1, o + 2, o + 3] → q ∉ a :: rG r := fun q hq hh => by
        rcases List.mem_cons.mp hh with h | h
        · simp at hq; omega
        · exact (own q (List.mem_cons_of_mem _ hq)).2 h
      have fxr : ∀ q, q ∈ [1, 2, 3, 5, 6] → q ∉ a :: rG r := fun q hq hh => fixed q hq (ar q hh)
      have go : ∀ (RL : List fT) P g c2 t, rwL N n s lab = P ++ g :: RL → RL = af (fun _ => 1) (fun _ => n) (rgd N s lab) s 0 g → Bd s (fun _ => 1) (fun _ => n) g → (∀ q, q < s → rgd N s lab q g = true) → Fr (rG (r + 1)) c c2 → WZ c2 o s (fun _ => 1) (fun _ => n) → WA c2 o s g → RwR 38 s lab n mir N c2 → GA c2 a s (FP st N n s lab mir P) → t ≤ cdr g s → pX2_outlives_55 E (dd + 2 * r + 3 + 1 + 2) 37 (nI (r + 1)) a o (bI (kG s (FP st N n s lab mir P)).isSome) (nI 1) (nI t) (Hm c2) K := by
        intro RL
        induction RL with
        | nil =>
          intro P g c2 t hP he hBd hgd F2 Z2 A2 R2 G2 ht
          have hc := cdr_lt (f := g) s (fun q hq => Nat.lt_of_lt_of_le (hBd q hq).2 (show n ≤ 6 by omega))
          have h2' : 6 ^ s ≤ 6 ^ 6 := Nat.pow_le_pow_right (by decide) (by omega)
          have h3 : (6 : Nat) ^ 6 = 46656 := by decide
          refine step P g [] c2 t hP (by omega) hBd F2 A2 R2 G2 (fun c3 f3 N3 G3 => ?_)
          refine c_next (dd := dd + 2 * r + 3) WI6 hw.wh W hx0 (Z2.fr f3 (nar _ (by simp)) (nar _ (by simp)) (nar _ (by simp))) (A2.fr f3 (nar _ (by simp))) hBd ⟨N3, R2.2.fr f3 (fxr 2 (by simp)) (fxr 3 (by simp))⟩ hgd (fun he2 c4 f4 => ?_) (fun g2 he2 => absurd (he.trans he2) (by simp))
          have e : rwL N n s lab = P ++ [g] := hP
          rw [← e]
          exact endC c4 _ (by omega) (F2.trans ((f3.mono ar).trans (f4.mono (fun q hq => by simp at hq; rw [hq]; exact own3.1)))) (N3.fr f4 (by simp <;> omega) (by simp <;> omega)) (by rw [e]; exact G3.fr f4 (by simp <;> omega))
        | cons g2 RL ih =>
          intro P g c2 t hP he hBd hgd F2 Z2 A2 R2 G2 ht
          have hc := cdr_lt (f := g) s (fun q hq => Nat.lt_of_lt_of_le (hBd q hq).2 (show n ≤ 6 by omega))
          have h2' : 6 ^ s ≤ 6 ^ 6 := Nat.pow_le_pow_right (by decide) (by omega)
          have h3 : (6 : Nat) ^ 6 = 46656 := by decide
          refine step P g (g2 :: RL) c2 t hP (by omega) hBd F2 A2 R2 G2 (fun c3 f3 N3 G3 => ?_)
          have Z3 := Z2.fr f3 (nar o (by simp)) (nar (o + 2) (by simp)) (nar (o + 3) (by simp))
          refine c_next (dd := dd + 2 * r + 3) WI6 hw.wh W hx0 Z3 (A2.fr f3 (nar _ (by simp))) hBd ⟨N3, R2.2.fr f3 (fxr 2 (by simp)) (fxr 3 (by simp))⟩ hgd (fun he2 => absurd (he.trans he2) (by simp)) (fun g3 he2 hB3 hg3 hlt c4 f4 A4 R4 => ?_)
          have e4 := he.trans he2
          rw [List.cons.injEq] at e4
          obtain ⟨e5, e6⟩ := e4
          subst e5
          exact ih (P ++ [g]) g2 c4 (t + 1) (by rw [hP, List.append_assoc]; rfl) e6 hB3 hg3 (F2.trans ((f3.mono ar).trans (f4.mono (fun q hq => by simp at hq; rw [hq]; exact own3.1)))) (Z3.fr f4 (by simp) (by simp) (by simp)) A4 R4 (G3.fr f4 (by simp <;> omega)) (by omega)
      exact go _ [] g c3 0 (by rw [List.nil_append]; exact he) rfl hBd hgd (F2.trans (f3.mono (fun q hq => by simp at hq; rw [hq]; exact own3.1))) (Z2.fr f3 (by simp) (by simp) (by simp)) A3 R3 (A2.fr f3 (by simp <;> omega)) (Nat.zero_le _)
theorem c_isWon {r r0 : Nat} (hr : r < 3) (hG : Gd n mir N) (hv : Vl n mir s lab) (hT : Tab c 2 n mir N) (hs : s + r ≤ 6) (h0 : isNt r0) (d0 : r0 + 1 < 25) (hN : NetAt c r0 s lab) (hB : BrC c fb fs fl) {K : Int32 → gk_H → Prop} (k : ∀ c', Fr (rG r) c c' → NetAt c' 38 s lab → (∀ r', r = r' + 1 → kil fb fs fl N n mir r s lab ≠ none → GA c' (42 + r') s (FP (stn fb fs fl N n mir r' s lab) N n s lab mir (rwL N n s lab))) → K (bI (kil fb fs fl N n mir r s lab).isNone) (Hm c')) : RnI E mX2_isWon (dd + (5 + 2 * r) + 1, 0, 0) [.ref 37, .ref r0, .int (nI r)] (Hm c) K := by
  have bs : ∀ q, q ∈ [38, 38 + 1] → q ∈ rG r := match r, hr with
    | 0, _ => by decide
    | 1, _ => by decide
    | 2, _ => by decide
  refine vX2_isWon_0 (ldR l37 rfl ⟨obj l38, c_become ⟨l38, l39⟩ h0 hN (by omega) (by omega) (by omega) (fun c1 f1 N1 => ⟨obj l37, ?_⟩)⟩)
  exact outC hG r hr c1 s lab (hT.fr f1 (by decide) (by decide)) hv hs N1 (hB.fr f1 (by decide) (by decide) (by decide)) dd _ (fun c2 f2 N2 h2 => ⟨bI_bz _, k c2 ((f1.mono bs).trans f2) N2 h2⟩)
theorem c_isPlayable {r0 : Nat} (hG : Gd n mir N) (hv : Vl n mir s lab) (hT : Tab c 2 n mir N) (h0 : isNt r0) (d0 : r0 + 1 < 25) (hN : NetAt c r0 s lab) (hB : BrC c fb fs fl) {K : Int32 → gk_H → Prop} (k : ∀ c', Fr [25, 26, 27, 28] c c' → K (bI (ply fb fs fl N s lab)) (Hm c')) : RnI E mX11_isPlayable (dd + 4, 0, 0) [.ref 0, .ref r0] (Hm c) K := by
  have n4 := hG.n4
  have v1 : ∀ p q, p < s → q < s → lab p q < 4 := fun p q hp hq => Nat.lt_of_lt_of_le (hv p q hp hq).1 n4
  refine vX11_isPlayable_0 (ldR l0 rfl (ldR l1 rfl ⟨obj h0.1, c_unsound h0 ⟨l2, l3⟩ hT hN v1 ((orN_5 (usF_lt hN.2.1) (fun u => ldR l0 rfl ⟨obj l25, ?_⟩) (fun u => ?_)).symm)⟩))
  · have k := k c Fr.rf
    rw [ply, show (usF N s lab).isNone = false from by cases h : usF N s lab with
      | none => exact absurd h u
      | some v => rfl] at k
    exact k
  · refine c_isBarred hB.1 (fun e => (hB.2 e).1) h0 (by omega) (by omega) (fun q hq => by simp at hq ⊢; omega) hN (fun e => (hB.2 e).2) v1 (fun c1 f1 => ?_)
    have k := k c1 f1
    rw [ply, u] at k
    exact bBn (fun e => by rw [e] at k; exact k) (fun e => by rw [e] at k; exact k)
theorem c_refusal {sz : szT} {lb : lbT} (hG : Gd n mir N) (hV : VV n mir sz lb) (hN : NN c sz lb) (hB : BrC c fb fs fl) (hT : Tab c 2 n mir N) {x r : Int32} {K : Int32 → gk_H → Prop} (k : ∀ c', Fr [25, 26, 27, 28] c c' → K (whN fb fs fl N sz lb x r) (Hm c')) : RnI E mX11_gameRefusal (dd + 5, 0, 0) [.ref 0, .int x, .int r] (Hm c) K := by
  unfold whN at k
  refine vX11_gameRefusal_0 (c_isNet (rngN (by decide) (fun j hj hx h => ?_) (fun h => ?_)))
  · rw [if_pos h] at k
    subst hx
    rw [w_nI (by omega)] at k
    have bad : inR r 0 (3 : Nat) = false → K (-2) (Hm c) := fun e => by
      have k := k c Fr.rf
      rw [if_neg (by rw [e]; decide)] at k
      exact k
    rcases neg_or (x := r) with e | ⟨q, hq, e⟩
    · refine ⟨fun _ => bad ?_, fun z => absurd e z⟩
      unfold inR
      refine decide_eq_false (fun z => ?_)
      have : r.toInt < 0 := by
        have := Int32.lt_iff_toInt_lt.mp e
        simpa using this
      omega
    · subst e
      refine ⟨fun z => absurd z (nI_nn hq), fun _ => bLe (fun h2 => ldR l0 rfl (ldR l1 rfl ?_)) (fun h2 => bad ?_)⟩
      · have e : inR (nI q) 0 (3 : Nat) = true := by
          unfold inR
          rw [nI_toInt hq]
          exact decide_eq_true (by omega)
        rw [if_pos e] at k
        have := (hN j hj).2.1
        refine alR (t := 0) l4 hj (by decide) (nets_at j hj) (ldI (isNt_net hj).1 rfl ?_)
        rw [(hN j hj).1]
        refine bLt (fun h3 => ?_) (fun h3 => ldR l0 rfl (ldR l1 rfl (alR (t := 0) l4 hj (by decide) (nets_at j hj) ⟨obj l0, ?_⟩)))
        · have k := k c Fr.rf
          rw [if_neg (by simp; omega)] at k
          exact k
        · refine c_isPlayable hG (hV j hj) hT (isNt_net hj) (by omega) (hN j hj) hB (fun c1 f1 => ?_)
          have k := k c1 f1
          rw [decide_eq_true h3, Bool.and_true] at k
          exact bBn (fun e => by rw [if_pos e] at k; exact k) (fun e => by rw [if_neg (by rw [e]; decide)] at k; exact k)
      · unfold inR
        rw [nI_toInt hq]
        exact decide_eq_false (by omega)
  · have k := k c Fr.rf
    rw [if_neg (by rw [h]; decide)] at k
    exact k
theorem rG_25 {r : Nat} (hr : r < 3) : ∀ q, q ∈ [25, 26, 27, 28] → q ∈ rG 2 := by decide
theorem rG_2 {r : Nat} (hr : r < 3) : ∀ q, q ∈ rG r → q ∈ rG 2 := match r, hr with
  | 0, _ => by decide
  | 1, _ => by decide
  | 2, _ => fun _ h => h
theorem c_won {sz : szT} {lb : lbT} (hG : Gd n mir N) (hV : VV n mir sz lb) (hN : NN c sz lb) (hB : BrC c fb fs fl) (hT : Tab c 2 n mir N) {x r : Int32} {K : Int32 → gk_H → Prop} (k : ∀ c', Fr (rG 2) c c' → K (sp_wo fb fs fl N n mir sz lb x r) (Hm c')) : RnI E mX11_won (dd + 11, 0, 0) [.ref 0, .int x, .int r] (Hm c) K := by
  unfold sp_wo at k
  refine vX11_won_0 ⟨obj l0, c_refusal (dd := dd + 5) hG hV hN hB hT (fun c1 f1 => ⟨fun e => ldR l0 rfl (ldR l0 rfl (ldR l1 rfl ?_)), fun e => ?_⟩)⟩
  · rw [if_pos e] at k
    obtain ⟨j, q, hj, hq, rfl, rfl, h3⟩ := whN_0 e
    rw [w_nI (by omega), w_nI (by omega)] at k
    refine alR (t := 0) l4 hj (by decide) (nets_at j hj) ⟨obj l37, ?_⟩
    rw [show dd + 10 = (dd + (4 - 2 * q)) + (5 + 2 * q) + 1 by omega]
    exact c_isWon hq hG (hV j hj) (hT.fr f1 (by decide) (by decide)) (by omega) (isNt_net hj) (by omega) ((hN j hj).fr f1 (by simp; omega) (by simp; omega)) (hB.fr f1 (by decide) (by decide) (by decide)) (fun c2 f2 _ _ => bI01 (k c2 ((f1.mono (by decide)).trans (f2.mono (rG_2 hq)))))
  · rw [if_neg e] at k
    exact k c1 (f1.mono (by decide))
theorem c_killer {sz : szT} {lb : lbT} (hG : Gd n mir N) (hV : VV n mir sz lb) (hN : NN c sz lb) (hB : BrC c fb fs fl) (hT : Tab c 2 n mir N) {x r : Int32} {K : Int32 → gk_H → Prop} (k : ∀ c', Fr (rG 2) c c' → K (sp_ki fb fs fl N n mir sz lb x r) (Hm c')) : RnI E mX11_killer (dd + 11, 0, 0) [.ref 0, .int x, .int r] (Hm c) K := by
  unfold sp_ki at k
  refine vX11_killer_0 ⟨obj l0, c_refusal (dd := dd + 5) hG hV hN hB hT (fun c1 f1 => ⟨fun e => ldR l0 rfl (ldR l0 rfl (ldR l1 rfl ?_)), fun e => ?_⟩)⟩
  · rw [if_pos e] at k
    obtain ⟨j, q, hj, hq, rfl, rfl, h3⟩ := whN_0 e
    rw [w_nI (by omega), w_nI (by omega)] at k
    refine alR (t := 0) l4 hj (by decide) (nets_at j hj) ⟨obj l37, ?_⟩
    rw [show dd + 10 = (dd + (4 - 2 * q)) + (5 + 2 * q) + 1 by omega]
    refine c_isWon hq hG (hV j hj) (hT.fr f1 (by decide) (by decide)) (by omega) (isNt_net hj) (by omega) ((hN j hj).fr f1 (by simp; omega) (by simp; omega)) (hB.fr f1 (by decide) (by decide) (by decide)) (fun c2 f2 N2 h2 => ?_)
    have F2 : Fr (rG 2) c c2 := (f1.mono (by decide)).trans (f2.mono (rG_2 hq))
    refine bB0 (fun e2 => ldR l0 rfl ⟨obj l37, ?_⟩) (fun e2 => ?_)
    · cases q with
      | zero => exact absurd e2 (by unfold kil; decide)
      | succ q =>
        have hne : kil fb fs fl N n mir (q + 1) (sz j) (lb j) ≠ none := fun z => by rw [z] at e2; exact absurd e2 (by decide)
        have k := k c2 F2
        rw [kil_kG hG (hN j hj).2.1] at k
        exact c_firstLeft (by omega) N2 (h2 q rfl hne) k
    · have k := k c2 F2
      rw [show kil fb fs fl N n mir q (sz j) (lb j) = none by simpa using e2] at k
      exact k
  · rw [if_neg e] at k
    exact k c1 (f1.mono (by decide))
theorem c_lasts {sz : szT} {lb : lbT} (hG : Gd n mir N) (hV : VV n mir sz lb) (hN : NN c sz lb) (hB : BrC c fb fs fl) (hT : Tab c 2 n mir N) {x : Int32} {K : Int32 → gk_H → Prop} (k : ∀ c', Fr (rG 2) c c' → K (sp_la fb fs fl N n mir sz lb x) (Hm c')) : RnI E mX11_lasts (dd + 11, 0, 0) [.ref 0, .int x] (Hm c) K := by
  unfold sp_la at k
  refine vX11_lasts_0 ⟨obj l0, c_refusal (dd := dd + 5) hG hV hN hB hT (fun c1 f1 => ⟨fun e => ?_, fun e => ?_⟩)⟩
  · rw [if_pos e] at k
    rw [e]
    obtain ⟨j, q, hj, hq, rfl, _, h3⟩ := whN_0 e
    rw [w_nI (by omega)] at k
    have F1 : Fr (rG 2) c c1 := f1.mono (by decide)
    refine vX11_lasts_15 (bLe (fun z => absurd z (by omega)) (fun _ => ldR l0 rfl (ldR l0 rfl (ldR l1 rfl (alR (t := 0) l4 hj (by decide) (nets_at j hj) ⟨obj l37, ?_⟩)))))
    rw [nI_add, show dd + 10 = (dd + 2) + (5 + 2 * 1) + 1 by omega]
    have nf : ∀ q, q ∈ [2, 3, 1, 5, 6, 7, 8, 9, 10, 11, 12] → q ∉ rG 2 := by decide
    have mj : 7 + 2 * j ∈ [2, 3, 1, 5, 6, 7, 8, 9, 10, 11, 12] ∧ 7 + 2 * j + 1 ∈ [2, 3, 1, 5, 6, 7, 8, 9, 10, 11, 12] := by simp; omega
    have T1 := hT.fr F1 (by decide) (by decide)
    refine c_isWon (r := 1) (by decide) hG (hV j hj) T1 (by omega) (isNt_net hj) (by omega) ((hN j hj).fr F1 (nf _ mj.1) (nf _ mj.2)) (hB.fr F1 (by decide) (by decide) (by decide)) (fun c2 f2 N2 _ => ?_)
    have F2 : Fr (rG 2) c c2 := F1.trans (f2.mono (rG_2 (by decide)))
    refine bB0 (fun e2 => ?_) (fun e2 => ?_)
    · have k := k c2 F2
      rw [e2] at k
      exact k
    · refine vX11_lasts_15 (bLe (fun z => absurd z (by omega)) (fun _ => ldR l0 rfl (ldR l0 rfl (ldR l1 rfl (alR (t := 0) l4 hj (by decide) (nets_at j hj) ⟨obj l37, ?_⟩)))))
      rw [nI_add, show dd + 2 + (5 + 2 * 1) + 1 = dd + (5 + 2 * 2) + 1 by omega]
      refine c_isWon (r := 2) (by decide) hG (hV j hj) (hT.fr F2 (by decide) (by decide)) (by omega) (isNt_net hj) (by omega) ((hN j hj).fr F2 (nf _ mj.1) (nf _ mj.2)) (hB.fr F2 (by decide) (by decide) (by decide)) (fun c3 f3 N3 _ => ?_)
      have k := k c3 (F2.trans f3)
      rw [e2] at k
      refine bB0 (fun e3 => ?_) (fun e3 => ?_)
      · rw [e3] at k; exact k
      · rw [e3] at k
        exact vX11_lasts_15 (bLe (fun _ => k) (fun z => absurd z (by omega)))
  · rw [if_neg e] at k
    exact k c1 (f1.mono (by decide))
end CP
