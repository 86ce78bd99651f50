/-! read: the class -/
/-- atoms, converses, threes; whether the networks were forgotten -/
abbrev TS : Type := Nat × (Nat → Nat) × Nat × Bool
def doS (s : TS) (i : Nat) (x y z : Int32) : Option TS :=
  if i = 0 then (if inR x 1 (5 : Nat) = true then some (w x, fun a => a, fixB (fun a => a) (w x), true) else none)
  else if i = 1 then (if (inR x 1 s.1 && inR y 1 s.1) = true then some (s.1, cp2 s.2.1 (w x) (w y), fixB (cp2 s.2.1 (w x) (w y)) s.1, true) else none)
  else (match tri0 s.1 x y z (nI (if i = 2 then 1 else 0)) with
    | none => some (s.1, s.2.1, mkN s.2.1 s.2.2.1 (w x) (w y) (w z) (decide (i = 2)), s.2.2.2)
    | some _ => none)
def figI (tb : Nat → Nat) (t p : Nat) : Int32 := if p < t then nI (tb p) - nI 48 else -1
def exe (tb : Nat → Nat) (t : Nat) : Nat → Nat → Nat → TS → Int32 × TS
  | 0, _, dn, s => (nI dn, s)
  | k + 1, p, dn, s => if t ≤ p then (nI dn, s) else match ps tb t p with
    | .inl _ => (nI dn, s)
    | .inr (i, e) => match doS s i (figI tb t (e + 1)) (figI tb t (e + 3)) (figI tb t (e + 5)) with
      | none => (-300 - nI dn, s)
      | some s' => exe tb t k (e + 2 * fg i + 1) (dn + 1) s'
theorem doS_G {s s' : TS} {i : Nat} {x y z : Int32} (hG : Gd s.1 s.2.1 s.2.2.1) (h : doS s i x y z = some s') : Gd s'.1 s'.2.1 s'.2.2.1 := by
  obtain ⟨n, mir, N, cl⟩ := s
  have n4 := hG.n4
  unfold doS at h
  by_cases i0 : i = 0
  · rw [if_pos i0] at h
    by_cases e : inR x 1 (5 : Nat) = true
    · rw [if_pos e] at h
      rw [← Option.some.inj h]
      have := inR1_nI (by decide) e
      exact Gd_fix (Mr_id this.1 (by omega))
    · rw [if_neg e] at h; exact absurd h (by simp)
  · rw [if_neg i0] at h
    by_cases i1 : i = 1
    · rw [if_pos i1] at h
      by_cases e : (inR x 1 n && inR y 1 n) = true
      · rw [if_pos e] at h
        rw [← Option.some.inj h]
        rw [Bool.and_eq_true] at e
        have a := inR1_nI (n := n) (by have := hG.n4; show n < 2 ^ 31; have : n ≤ 4 := hG.n4; omega) e.1
        have b := inR1_nI (n := n) (by have : n ≤ 4 := hG.n4; omega) e.2
        exact Gd_fix (Mr_cp2 ⟨hG.n1, hG.n4, hG.m0, hG.ml, hG.mh, hG.mm⟩ a.1 a.2.1 b.1 b.2.1)
      · rw [if_neg e] at h; exact absurd h (by simp)
    · rw [if_neg i1] at h
      cases e : tri0 n x y z (nI (if i = 2 then 1 else 0)) with
      | none =>
        rw [show (n, mir, N, cl).1 = n from rfl, e] at h
        dsimp only at h
        rw [← Option.some.inj h]
        have := tri0_at hG.n4 e
        exact Gd_mk hG this.1.1 this.1.2.1 this.2.1.1 this.2.1.2.1 this.2.2.1.1 this.2.2.1.2.1
      | some r =>
        rw [show (n, mir, N, cl).1 = n from rfl, e] at h
        exact absurd h (by simp)
/-- what of the class's memory a text leaves -/
def RdC (c c' : gm) (s : TS) : Prop := Tab c' 2 s.1 s.2.1 s.2.2.1 ∧ Fr [1, 2, 3, 7, 9, 11, 52] c c' ∧ (s.2.2.2 = true → (∀ j, j < 3 → c'.1 (7 + 2 * j) 0 = nI 0) ∧ c'.1 1 3 = nI 0 ∧ c'.1 52 1 = nI 0) ∧ (s.2.2.2 = false → Fr [2] c c')
section RC
variable {E : gk_E} {dd : Nat} {c : gm} {t : Nat} {tb : Nat → Nat}
theorem c_figure (hT : TpC c 64 t tb) {p : Nat} (hp : p < 2 ^ 30) {K : Int32 → gk_H → Prop} (k : K (figI tb t p) (Hm c)) : RnI E mX9_figure (dd, 0, 0) [.ref 64, .int (nI p)] (Hm c) K := by
  have t100 := hT.2.1
  unfold figI at k
  refine vX9_figure_0 (ldI l64 rfl ?_)
  rw [hT.1]
  refine bLe (fun z => ?_) (fun z => ldR l64 rfl (alB l65 (by omega) (by decide) ?_))
  · rw [if_neg (by omega)] at k; exact k
  · rw [hT.2.2 p z]
    rw [if_pos z] at k
    exact k
theorem c_statement {c1 : gm} {s : TS} (hG : Gd s.1 s.2.1 s.2.2.1) (hR : RdC c c1 s) (hT : TpC c1 64 t tb) {i e : Nat} (hi : i < 4) (he : e ≤ t) {K : Int32 → gk_H → Prop} (k1 : doS s i (figI tb t (e + 1)) (figI tb t (e + 3)) (figI tb t (e + 5)) = none → ∀ v : Int32, ¬ 0 ≤ v → K v (Hm c1)) (k2 : ∀ s', doS s i (figI tb t (e + 1)) (figI tb t (e + 3)) (figI tb t (e + 5)) = some s' → ∀ v : Int32, 0 ≤ v → ∀ c', RdC c c' s' → TpC c' 64 t tb → K v (Hm c')) : RnI E mX11_statement (dd + 4, 0, 0) [.ref 0, .int (nI i), .int (nI e)] (Hm c1) K := by
  have t100 := hT.2.1
  obtain ⟨rT, rF, rC, rN⟩ := hR
  refine vX11_statement_0 (ldR l0 rfl ⟨obj l64, ?_⟩)
  simp only [nI_add]
  refine c_figure hT (by omega) (ldR l0 rfl ⟨obj l64, c_figure hT (by omega) (ldR l0 rfl ⟨obj l64, c_figure hT (by omega) ?_⟩)⟩)
  generalize figI tb t (e + 1) = x at *
  generalize figI tb t (e + 3) = y at *
  generalize figI tb t (e + 5) = z at *
  have hn := rT.2.2.1
  have gone : ∀ c', Fr [1, 2, 3, 7, 9, 11, 52] c1 c' → ∀ n' mir' N', Tab c' 2 n' mir' N' → (∀ j, j < 3 → c'.1 (7 + 2 * j) 0 = nI 0) → c'.1 1 3 = nI 0 → c'.1 52 1 = nI 0 → RdC c c' (n', mir', N', true) ∧ TpC c' 64 t tb := fun c' f' n' mir' N' t' a1 a2 a3 => ⟨⟨t', rF.trans f', fun _ => ⟨a1, a2, a3⟩, fun h => absurd h (by simp)⟩, ⟨by rw [f'.i (by decide)]; exact hT.1, hT.2.1, fun q hq => by rw [f'.i (by decide)]; exact hT.2.2 q hq⟩⟩
  refine ⟨⟨fun hi0 => ⟨obj l0, ?_⟩, fun hi1 => ⟨obj l0, ?_⟩, fun hi2 => ⟨obj l0, ?_⟩, fun hi3 => ⟨obj l0, ?_⟩⟩, fun h => absurd rfl (h i hi)⟩
  · have hi0 := (nI_eq (by omega) (by decide)).mp hi0
    subst hi0
    refine c_atoms (dd := dd) rT (fun h => k1 ?_ _ (by decide)) (fun h c' f' t' a1 a2 a3 => ?_)
    · unfold doS; rw [if_pos rfl, if_neg (by rw [h]; decide)]
    · have g := gone c' f' _ _ _ t' a1 a2 a3
      exact k2 _ (by unfold doS; rw [if_pos rfl, if_pos h]) _ (nI_le0 (by omega)) c' g.1 g.2
  · have hi1 := (nI_eq (by omega) (by decide)).mp hi1
    subst hi1
    refine c_pair (dd := dd) hG rT (fun h => k1 ?_ _ (by decide)) (fun h c' f' t' a1 a2 a3 => ?_)
    · unfold doS; rw [if_neg (by decide), if_pos rfl, if_neg (by rw [h]; decide)]
    · have g := gone c' f' _ _ _ t' a1 a2 a3
      refine k2 _ (by unfold doS; rw [if_neg (by decide), if_pos rfl, if_pos h]) _ (nI_le0 ?_) c' g.1 g.2
      have : ∀ k, cpd (cp2 s.2.1 (w x) (w y)) k ≤ k := fun k => by
        induction k with
        | zero => exact Nat.le_refl _
        | succ k ih => unfold cpd; split <;> omega
      have := this s.1
      omega
  · have hi2 := (nI_eq (by omega) (by decide)).mp hi2
    subst hi2
    refine c_triangle (dd := dd) rT (fun r h => ?_) (fun h c' f' t' => ?_)
    · have : doS s 2 x y z = none := by unfold doS; rw [if_neg (by decide), if_neg (by decide), if_pos rfl, h]
      refine k1 this r ?_
      unfold tri0 at h
      split at h
      · split at h
        · split at h
          · rw [← Option.some.inj h]; decide
          · exact absurd h (by simp)
        · rw [← Option.some.inj h]; decide
      · rw [← Option.some.inj h]; decide
    · sorry
  · sorry
end RC
