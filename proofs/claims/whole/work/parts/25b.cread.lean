/-! read: the class -/
/-- atoms, converses, threes; whether the networks were forgotten -/
abbrev TS : Type := Nat × (Nat → Nat) × Nat × Bool
def doS (s : TS) (i : Nat) (x y z : Int32) : Option TS :=
  if i = 0 then (if inR x 1 (5 : Nat) = true then some (w x, fun a => a, fixB (fun a => a) (w x), true) else none)
  else if i = 1 then (if (inR x 1 s.1 && inR y 1 s.1) = true then some (s.1, cp2 s.2.1 (w x) (w y), fixB (cp2 s.2.1 (w x) (w y)) s.1, true) else none)
  else (match tri0 s.1 x y z (nI (if i = 2 then 1 else 0)) with
    | none => some (s.1, s.2.1, mkN s.2.1 s.2.2.1 (w x) (w y) (w z) (decide (i = 2)), s.2.2.2)
    | some _ => none)
def figI (tb : Nat → Nat) (t p : Nat) : Int32 := if p < t then nI (tb p) - nI 48 else -1
def exe (tb : Nat → Nat) (t : Nat) : Nat → Nat → Nat → TS → Int32 × TS
  | 0, _, dn, s => (nI dn, s)
  | k + 1, p, dn, s => if t ≤ p then (nI dn, s) else match ps tb t p with
    | .inl _ => (nI dn, s)
    | .inr (i, e) => match doS s i (figI tb t (e + 1)) (figI tb t (e + 3)) (figI tb t (e + 5)) with
      | none => (-300 - nI dn, s)
      | some s' => exe tb t k (e + 2 * fg i + 1) (dn + 1) s'
theorem doS_G {s s' : TS} {i : Nat} {x y z : Int32} (hG : Gd s.1 s.2.1 s.2.2.1) (h : doS s i x y z = some s') : Gd s'.1 s'.2.1 s'.2.2.1 := by
  obtain ⟨n, mir, N, cl⟩ := s
  have n4 := hG.n4
  unfold doS at h
  by_cases i0 : i = 0
  · rw [if_pos i0] at h
    by_cases e : inR x 1 (5 : Nat) = true
    · rw [if_pos e] at h
      rw [← Option.some.inj h]
      have := inR1_nI (by decide) e
      exact Gd_fix (Mr_id this.1 (by omega))
    · rw [if_neg e] at h; exact absurd h (by simp)
  · rw [if_neg i0] at h
    by_cases i1 : i = 1
    · rw [if_pos i1] at h
      by_cases e : (inR x 1 n && inR y 1 n) = true
      · rw [if_pos e] at h
        rw [← Option.some.inj h]
        rw [Bool.and_eq_true] at e
        have a := inR1_nI (n := n) (by have := hG.n4; show n < 2 ^ 31; have : n ≤ 4 := hG.n4; omega) e.1
        have b := inR1_nI (n := n) (by have : n ≤ 4 := hG.n4; omega) e.2
        exact Gd_fix (Mr_cp2 ⟨hG.n1, hG.n4, hG.m0, hG.ml, hG.mh, hG.mm⟩ a.1 a.2.1 b.1 b.2.1)
      · rw [if_neg e] at h; exact absurd h (by simp)
    · rw [if_neg i1] at h
      cases e : tri0 n x y z (nI (if i = 2 then 1 else 0)) with
      | none =>
        rw [show (n, mir, N, cl).1 = n from rfl, e] at h
        dsimp only at h
        rw [← Option.some.inj h]
        have := tri0_at hG.n4 e
        exact Gd_mk hG this.1.1 this.1.2.1 this.2.1.1 this.2.1.2.1 this.2.2.1.1 this.2.2.1.2.1
      | some r =>
        rw [show (n, mir, N, cl).1 = n from rfl, e] at h
        exact absurd h (by simp)
/-- what of the class's memory a text leaves -/
def RdC (c c' : gm) (s : TS) : Prop := Tab c' 2 s.1 s.2.1 s.2.2.1 ∧ Fr [1, 2, 3, 7, 9, 11, 52] c c' ∧ (s.2.2.2 = true → (∀ j, j < 3 → c'.1 (7 + 2 * j) 0 = nI 0) ∧ c'.1 1 3 = nI 0 ∧ c'.1 52 1 = nI 0) ∧ (s.2.2.2 = false → Fr [2] c c')
theorem tri0_neg {n : Nat} {x y z q r : Int32} (h : tri0 n x y z q = some r) : ¬ 0 ≤ r := by
  unfold tri0 at h
  split at h
  · split at h
    · split at h
      · rw [← Option.some.inj h]; decide
      · exact absurd h (by simp)
    · rw [← Option.some.inj h]; decide
  · rw [← Option.some.inj h]; decide
theorem cs_b1 (g : Nat → Bool) : ∀ m, cs (fun k => b1 (g k)) m ≤ m
  | 0 => Nat.zero_le _
  | m + 1 => by
    have ih := cs_b1 g m
    have : b1 (g m) ≤ 1 := by unfold b1; split <;> omega
    show cs _ m + b1 (g m) ≤ m + 1
    omega
theorem mkD_le (mir : Nat → Nat) (N a b z : Nat) (is : Bool) (u m : Nat) : mkD mir N a b z is u m ≤ m := cs_b1 _ m
theorem mkC_64 (mir : Nat → Nat) (N a b z : Nat) (is : Bool) : mkC mir N a b z is 6 ≤ 64 := mkD_le mir N a b z is 6 64
section RC
variable {E : gk_E} {dd : Nat} {c : gm} {t : Nat} {tb : Nat → Nat}
theorem c_figure (hT : TpC c 64 t tb) {p : Nat} (hp : p < 2 ^ 30) {K : Int32 → gk_H → Prop} (k : K (figI tb t p) (Hm c)) : RnI E mX9_figure (dd, 0, 0) [.ref 64, .int (nI p)] (Hm c) K := by
  have t100 := hT.2.1
  unfold figI at k
  refine vX9_figure_0 (ldI l64 rfl ?_)
  rw [hT.1]
  refine bLe (fun z => ?_) (fun z => ldR l64 rfl (alB l65 (by omega) (by decide) ?_))
  · rw [if_neg (by omega)] at k; exact k
  · rw [hT.2.2 p z]
    rw [if_pos z] at k
    exact k
theorem c_statement {c1 : gm} {s : TS} (hG : Gd s.1 s.2.1 s.2.2.1) (hR : RdC c c1 s) (hT : TpC c1 64 t tb) {i e : Nat} (hi : i < 4) (he : e ≤ t) {K : Int32 → gk_H → Prop} (k1 : doS s i (figI tb t (e + 1)) (figI tb t (e + 3)) (figI tb t (e + 5)) = none → ∀ v : Int32, ¬ 0 ≤ v → K v (Hm c1)) (k2 : ∀ s', doS s i (figI tb t (e + 1)) (figI tb t (e + 3)) (figI tb t (e + 5)) = some s' → ∀ v : Int32, 0 ≤ v → ∀ c', RdC c c' s' → TpC c' 64 t tb → K v (Hm c')) : RnI E mX11_statement (dd + 4, 0, 0) [.ref 0, .int (nI i), .int (nI e)] (Hm c1) K := by
  have t100 := hT.2.1
  obtain ⟨rT, rF, rC, rN⟩ := hR
  refine vX11_statement_0 (ldR l0 rfl ⟨obj l64, ?_⟩)
  simp only [nI_add]
  refine c_figure hT (by omega) (ldR l0 rfl ⟨obj l64, c_figure hT (by omega) (ldR l0 rfl ⟨obj l64, c_figure hT (by omega) ?_⟩)⟩)
  generalize figI tb t (e + 1) = x at *
  generalize figI tb t (e + 3) = y at *
  generalize figI tb t (e + 5) = z at *
  have hn := rT.2.2.1
  have gone : ∀ c', Fr [1, 2, 3, 7, 9, 11, 52] c1 c' → ∀ n' mir' N', Tab c' 2 n' mir' N' → (∀ j, j < 3 → c'.1 (7 + 2 * j) 0 = nI 0) → c'.1 1 3 = nI 0 → c'.1 52 1 = nI 0 → RdC c c' (n', mir', N', true) ∧ TpC c' 64 t tb := fun c' f' n' mir' N' t' a1 a2 a3 => ⟨⟨t', rF.trans f', fun _ => ⟨a1, a2, a3⟩, fun h => absurd h (by simp)⟩, ⟨by rw [f'.i (by decide)]; exact hT.1, hT.2.1, fun q hq => by rw [f'.i (by decide)]; exact hT.2.2 q hq⟩⟩
  have tri : ∀ u, (u = 2 ∨ u = 3) → i = u → ∀ q : Int32, q = nI (if u = 2 then 1 else 0) → RnI E mX11_triangle (dd + 3, 0, 0) [.ref 0, .int x, .int y, .int z, .int q] (Hm c1) K := by
    intro u hu hiu q hq
    subst hiu hq
    have n0 : ¬ i = 0 := by omega
    have n1 : ¬ i = 1 := by omega
    refine c_triangle (dd := dd) rT (fun r h => ?_) (fun h c' f' t' => ?_)
    · have : doS s i x y z = none := by unfold doS; rw [if_neg n0, if_neg n1, h]
      refine k1 this r ?_
      exact tri0_neg h
    · have eq : (decide (w (nI (if i = 2 then 1 else 0)) = 1)) = decide (i = 2) := by
        rcases hu with h2 | h2
        · subst h2; rfl
        · subst h2; rfl
      rw [eq] at t' ⊢
      refine k2 (s.1, s.2.1, mkN s.2.1 s.2.2.1 (w x) (w y) (w z) (decide (i = 2)), s.2.2.2) (by unfold doS; rw [if_neg n0, if_neg n1, h]) _ (nI_le0 (Nat.lt_of_le_of_lt (mkC_64 _ _ _ _ _ _) (by decide))) c' ⟨t', rF.trans (f'.mono (by simp)), fun hc => ?_, fun hc => (rN hc).trans f'⟩ ⟨by rw [f'.i (by decide)]; exact hT.1, hT.2.1, fun q hq => by rw [f'.i (by decide)]; exact hT.2.2 q hq⟩
      have := rC hc
      exact ⟨fun j hj => by rw [f'.i (by simp; omega)]; exact this.1 j hj, by rw [f'.i (by decide)]; exact this.2.1, by rw [f'.i (by decide)]; exact this.2.2⟩
  refine ⟨⟨fun hi0 => ⟨obj l0, ?_⟩, fun hi1 => ⟨obj l0, ?_⟩, fun hi2 => ⟨obj l0, ?_⟩, fun hi3 => ⟨obj l0, ?_⟩⟩, fun h => absurd rfl (h i hi)⟩
  · have hi0 := (nI_eq (by omega) (by decide)).mp hi0
    subst hi0
    refine c_atoms (dd := dd) rT (fun h => k1 ?_ _ (by decide)) (fun h c' f' t' a1 a2 a3 => ?_)
    · unfold doS; rw [if_pos rfl, if_neg (by rw [h]; decide)]
    · have g := gone c' f' _ _ _ t' a1 a2 a3
      exact k2 _ (by unfold doS; rw [if_pos rfl, if_pos h]) _ (nI_le0 (by omega)) c' g.1 g.2
  · have hi1 := (nI_eq (by omega) (by decide)).mp hi1
    subst hi1
    refine c_pair (dd := dd) hG rT (fun h => k1 ?_ _ (by decide)) (fun h c' f' t' a1 a2 a3 => ?_)
    · unfold doS; rw [if_neg (by decide), if_pos rfl, if_neg (by rw [h]; decide)]
    · have g := gone c' f' _ _ _ t' a1 a2 a3
      refine k2 _ (by unfold doS; rw [if_neg (by decide), if_pos rfl, if_pos h]) _ (nI_le0 ?_) c' g.1 g.2
      have : ∀ k, cpd (cp2 s.2.1 (w x) (w y)) k ≤ k := fun k => by
        induction k with
        | zero => exact Nat.le_refl _
        | succ k ih => unfold cpd; split <;> omega
      have := this s.1
      omega
  · exact tri 2 (by decide) ((nI_eq (by omega) (by decide)).mp hi2) (nI 1) rfl
  · exact tri 3 (by decide) ((nI_eq (by omega) (by decide)).mp hi3) (nI 0) rfl
theorem flt_st {k p : Nat} (hp : p ≤ t) (h : flt tb t (k + 1) p = none) : ∃ i e, ps tb t p = .inr (i, e) ∧ (e + 2 * fg i = t ∨ (e + 2 * fg i < t ∧ flt tb t k (e + 2 * fg i + 1) = none)) := by
  rw [flt] at h
  have pb := ps_b (tb := tb) hp
  cases hq : ps tb t p with
  | inl f => rw [hq] at h; exact absurd h (by simp)
  | inr q =>
    obtain ⟨i, e⟩ := q
    rw [hq] at h
    dsimp only at h
    have := pb.2 i e hq
    by_cases z : e + 2 * fg i = t
    · exact ⟨i, e, rfl, Or.inl z⟩
    · rw [if_neg z] at h
      by_cases z2 : tb (e + 2 * fg i) = 59
      · rw [if_pos z2] at h
        exact ⟨i, e, rfl, Or.inr ⟨by omega, h⟩⟩
      · rw [if_neg z2] at h; exact absurd h (by simp)
theorem ps_kd {p i e : Nat} (h : ps tb t p = .inr (i, e)) : kd tb p (we tb t p) = some i ∧ e = we tb t p := by
  unfold ps at h
  cases hk : kd tb p (we tb t p) with
  | none => rw [hk] at h; exact absurd h (by simp)
  | some j =>
    rw [hk] at h
    dsimp only at h
    by_cases z : gf tb t (we tb t p) (fg j) < 2 * fg j
    · rw [if_pos z] at h; exact absurd h (by simp)
    · rw [if_neg z] at h
      have := Sum.inr.inj h
      rw [Prod.mk.injEq] at this
      exact ⟨by rw [this.1], this.2.symm⟩
theorem c_perform {s : TS} (hG : Gd s.1 s.2.1 s.2.2.1) (hR : RdC c c s) (hT : TpC c 64 t tb) (hV : TpV t tb) (hf : flt tb t 101 0 = none) {K : Int32 → gk_H → Prop} (k : ∀ c', RdC c c' (exe tb t 100 0 0 s).2 → K (exe tb t 100 0 0 s).1 (Hm c')) : RnI E mX11_perform (dd + 6, 0, 0) [.ref 0] (Hm c) K := by
  have t100 := hT.2.1
  refine vX11_perform_0 ?_
  have go : ∀ fu p u s c1, u + fu = 100 → u ≤ p → (p ≤ t ∧ flt tb t (fu + 1) p = none ∨ p = t + 1) → Gd s.1 s.2.1 s.2.2.1 → RdC c c1 s → TpC c1 64 t tb → exe tb t 100 0 0 s = exe tb t 100 0 0 s → (∀ c', RdC c c' (exe tb t fu p u s).2 → K (exe tb t fu p u s).1 (Hm c')) → pX11_perform_6 E (dd + 5) 0 (nI p) (nI u) (nI u) (Hm c1) K := by
    intro fu
    induction fu with
    | zero =>
      intro p u s c1 h1 h2 h3 hG hR hT _ k
      exact vX11_perform_6 (bLe (fun _ => k c1 hR) (fun z => absurd z (by omega)))
    | succ fu ih =>
      intro p u s c1 h1 h2 h3 hG hR hT _ k
      refine vX11_perform_6 (bLe (fun z => absurd z (by omega)) (fun _ => ldR l0 rfl (ldI l64 rfl ?_)))
      rw [hT.1]
      rw [exe] at k
      refine bLe (fun z => ?_) (fun z => ldR l0 rfl ⟨obj l64, ?_⟩)
      · rw [if_pos z] at k; exact k c1 hR
      · rw [if_neg (by omega)] at k
        rcases h3 with ⟨hp, hfl⟩ | hp
        · obtain ⟨i, e, hps, hnx⟩ := flt_st hp hfl
          have pb := (ps_b (tb := tb) hp).2 i e hps
          have pk := ps_kd hps
          have wb := we_b (tb := tb) hp
          refine c_wordEnd hT hV hp (ldR l0 rfl ⟨obj l64, c_wordKind (dd := dd) hT wb.1 wb.2 ⟨obj l0, ?_⟩⟩)
          rw [pk.1, ← pk.2, show orM (some i) = nI i from rfl]
          rw [hps] at k
          dsimp only at k
          refine c_statement (dd := dd + 1) hG hR hT pb.1 (by omega) (fun hd v hv => ⟨fun z => absurd z hv, fun _ => ?_⟩) (fun s' hd v hv c2 R2 T2 => ⟨fun _ => ldR l0 rfl ⟨obj l64, c_figuresOf pb.1 ?_⟩, fun z => absurd hv z⟩)
          · rw [hd] at k
            exact k c1 hR
          · rw [hd] at k
            dsimp only at k
            rw [pk_mul]
            simp only [nI_add]
            refine ih _ _ s' c2 (by omega) (by omega) ?_ (doS_G hG hd) R2 T2 rfl k
            rcases hnx with h | ⟨h, h'⟩
            · exact Or.inr (by omega)
            · exact Or.inl ⟨by omega, h'⟩
        · omega
  exact go 100 0 0 s c rfl (Nat.le_refl _) (Or.inl ⟨Nat.zero_le _, hf⟩) hG hR hT rfl k
/-- what read() answers, and the table behind it -/
def rdA (tb : Nat → Nat) (t : Nat) (s : TS) : Int32 × TS := match flt tb t 101 0 with
  | some f => (-100 - nI f, s)
  | none => exe tb t 100 0 0 s
theorem flt_lt : ∀ k p f, p ≤ t → flt tb t k p = some f → f ≤ t
  | 0, p, f, hp, h => by rw [← Option.some.inj h]; exact hp
  | k + 1, p, f, hp, h => by
    rw [flt] at h
    have pb := ps_b (tb := tb) hp
    cases hq : ps tb t p with
    | inl g => rw [hq] at h; rw [← Option.some.inj h]; exact (pb.1 g hq).2
    | inr q =>
      obtain ⟨i, e⟩ := q
      rw [hq] at h
      dsimp only at h
      have := pb.2 i e hq
      by_cases z : e + 2 * fg i = t
      · rw [if_pos z] at h; exact absurd h (by simp)
      · rw [if_neg z] at h
        by_cases z2 : tb (e + 2 * fg i) = 59
        · rw [if_pos z2] at h
          exact flt_lt k _ f (by omega) h
        · rw [if_neg z2] at h
          rw [← Option.some.inj h]
          omega
theorem c_read {n N : Nat} {mir : Nat → Nat} (hG : Gd n mir N) (hT2 : Tab c 2 n mir N) (hT : TpC c 64 t tb) (hV : TpV t tb) {K : Int32 → gk_H → Prop} (k : ∀ c1 c', RdC c c1 (rdA tb t (n, mir, N, false)).2 → Fr [64] c1 c' → c'.1 64 0 = nI 0 → K (rdA tb t (n, mir, N, false)).1 (Hm c')) : RnI E mX11_read (dd + 7, 0, 0) [.ref 0] (Hm c) K := by
  have t100 := hT.2.1
  have R0 : RdC c c (n, mir, N, false) := ⟨hT2, Fr.rf, fun h => absurd h (by simp), fun _ => Fr.rf⟩
  unfold rdA at k
  refine vX11_read_0 (ldR l0 rfl ⟨obj l64, c_faultPlace (dd := dd) hT hV ?_⟩)
  cases hf : flt tb t 101 0 with
  | some f =>
    rw [hf] at k
    have := flt_lt 101 0 f (Nat.zero_le _) hf
    refine ⟨fun _ => ldR l0 rfl (stI l64 rfl ?_), fun z => absurd z (nI_ne5 (by omega))⟩
    exact k c _ R0 (Fr.rf.mI (by simp)) mI_s
  | none =>
    rw [hf] at k
    refine ⟨fun z => absurd rfl z, fun _ => ⟨obj l0, c_perform (dd := dd) hG R0 hT hV hf (fun c' R' => ldR l0 rfl (stI l64 rfl ?_))⟩⟩
    exact k c' _ R' (Fr.rf.mI (by simp)) mI_s
end RC
