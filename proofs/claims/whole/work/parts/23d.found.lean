/-! found: what is gone through -/
theorem en_and {vs : Nat → List Nat} {gd G : gT} (hL : Lk gd) (hG : Lk G) : ∀ m f, en vs (fun p f => gd p f && G p f) m f = (en vs gd m f).filter (fun g => (List.range m).all (fun p => G p g))
  | 0, f => rfl
  | m + 1, f => by
    unfold en
    rw [List.filter_flatMap]
    refine congrArg (fun F => List.flatMap F (vs m)) (funext fun v => ?_)
    cases hg : gd m (fup f m v) with
    | false => simp
    | true =>
      have ih := en_and (vs := vs) (gd := gd) (G := G) hL hG m (fup f m v)
      have e : ∀ g, g ∈ en vs gd m (fup f m v) → (List.range (m + 1)).all (fun p => G p g) = ((List.range m).all (fun p => G p g) && G m (fup f m v)) := fun g hm => by
        have e9 : G m g = G m (fup f m v) := hG m g _ (en_sound hL m _ hm).1
        rw [List.range_succ, List.all_append, ← e9]
        simp
      rw [Bool.true_and, if_pos rfl, List.filter_congr e]
      cases hh : G m (fup f m v) with
      | false => simp
      | true => simp only [if_pos, ih, Bool.and_true]
/-- the steps that a setting tells -/
def stF (mir : Nat → Nat) (P : Nat) (f : fT) (d : Nat) : Nat := if d = 0 then 0 else if d ≤ P / 2 then f (P / 2 - d) else mir (f (P / 2 - (P - d)))
def pg0 (mir : Nat → Nat) (P : Nat) : gT := fun p f => decide (2 * (P / 2 - p) ≠ P) || mir (f p) == f p
def ld (d e P : Nat) : Bool := decide (e ≤ d) || decide (P - d ≤ e)
def lgo1 (N : Nat) (mir : Nat → Nat) (P d : Nat) (f : fT) (e : Nat) : Bool := e == 0 || (!(ld d e P && ld d (rs d e P) P) || N.testBit (ix (stF mir P f e) (stF mir P f (rs d e P)) (stF mir P f d)))
def lgo (N : Nat) (mir : Nat → Nat) (P : Nat) : gT := fun p f => (List.range P).all (lgo1 N mir P (P / 2 - p) f)
section FO
variable {N n P : Nat} {mir : Nat → Nat}
theorem pg0_L : Lk (pg0 mir P) := fun p f g h => by unfold pg0; rw [h p (Nat.le_refl _)]
theorem stF_cg {f g : fT} {p e : Nat} (h : ∀ q, p ≤ q → f q = g q) (hl : ld (P / 2 - p) e P = true) (he : e < P) (h0 : e ≠ 0) : stF mir P f e = stF mir P g e := by
  unfold ld at hl
  simp only [Bool.or_eq_true, decide_eq_true_eq] at hl
  unfold stF
  rw [if_neg h0, if_neg h0]
  by_cases e1 : e ≤ P / 2
  · rw [if_pos e1, if_pos e1]
    exact h _ (by omega)
  · rw [if_neg e1, if_neg e1, h _ (by omega)]
theorem stF_cg0 {f g : fT} {p e : Nat} (h : ∀ q, p ≤ q → f q = g q) (hl : ld (P / 2 - p) e P = true) (he : e < P) : stF mir P f e = stF mir P g e := by
  by_cases h0 : e = 0
  · subst h0; rfl
  · exact stF_cg h hl he h0
theorem lgo_L : Lk (lgo N mir P) := fun p f g h => by
  unfold lgo
  rw [Bool.eq_iff_iff, List.all_eq_true, List.all_eq_true]
  have key : ∀ e, e ∈ List.range P → lgo1 N mir P (P / 2 - p) f e = lgo1 N mir P (P / 2 - p) g e := fun e he => by
    have he := List.mem_range.mp he
    unfold lgo1
    by_cases e0 : e = 0
    · subst e0; rfl
    · cases hl : ld (P / 2 - p) e P && ld (P / 2 - p) (rs (P / 2 - p) e P) P with
      | false => rfl
      | true =>
        rw [Bool.and_eq_true] at hl
        have hd : P / 2 - p < P := by omega
        rw [stF_cg0 h hl.1 he, stF_cg0 h hl.2 (rs_lt hd he), stF_cg0 (e := P / 2 - p) h (by unfold ld; simp) hd]
  exact ⟨fun a e he => by rw [← key e he]; exact a e he, fun a e he => by rw [key e he]; exact a e he⟩
def pcL0 (n : Nat) (mir : Nat → Nat) (P : Nat) : List fT := en (fun _ => rg 1 n) (pg0 mir P) (P / 2) (fun _ => 0)
def pcL1 (N n : Nat) (mir : Nat → Nat) (P : Nat) : List fT := en (fun _ => rg 1 n) (fun p f => pg0 mir P p f && lgo N mir P p f) (P / 2) (fun _ => 0)
def tpF (N n : Nat) (mir : Nat → Nat) (P : Nat) (g : fT) : Bool := tpB N n (stF mir P g) P
theorem stF_lt (hG : Gd n mir N) {g : fT} (hg : ∀ q, q < P / 2 → 1 ≤ g q ∧ g q < n) : ∀ d, d < P → stF mir P g d < n := fun d hd => by
  have := hG.n1
  unfold stF
  by_cases e0 : d = 0
  · rw [if_pos e0]; omega
  · rw [if_neg e0]
    by_cases e1 : d ≤ P / 2
    · rw [if_pos e1]; exact (hg _ (by omega)).2
    · rw [if_neg e1]; exact hG.ml _ (hg _ (by omega)).2
theorem pcL0_mem {g : fT} (h : g ∈ pcL0 n mir P) : ∀ q, q < P / 2 → 1 ≤ g q ∧ g q < n := fun q hq => (rg_mem _ 1 rfl).mp ((en_sound pg0_L _ _ h).2 q hq).1
theorem tpF_go (hG : Gd n mir N) {g : fT} (hg : ∀ q, q < P / 2 → 1 ≤ g q ∧ g q < n) (h : tpF N n mir P g = true) : (List.range (P / 2)).all (fun p => lgo N mir P p g) = true := by
  rw [List.all_eq_true]
  intro p hp
  have hp := List.mem_range.mp hp
  unfold lgo
  rw [List.all_eq_true]
  intro e he
  have he := List.mem_range.mp he
  unfold lgo1
  have hm : mfF N n (stF mir P g) P = none := by
    unfold tpF tpB at h
    simp only [Bool.and_eq_true] at h
    cases e : mfF N n (stF mir P g) P with
    | none => rfl
    | some v => rw [e] at h; exact absurd h.2 (by simp)
  rw [tp_in hG.n4 (stF_lt hG hg) hm (show P / 2 - p < P by omega) he]
  simp
theorem fd_eq (hG : Gd n mir N) : (pcL1 N n mir P).find? (tpF N n mir P) = (pcL0 n mir P).find? (tpF N n mir P) := by
  unfold pcL1
  rw [en_and pg0_L lgo_L]
  show ((pcL0 n mir P).filter _).find? _ = _
  have : ∀ L : List fT, (∀ g, g ∈ L → g ∈ pcL0 n mir P) → (L.filter (fun g => (List.range (P / 2)).all (fun p => lgo N mir P p g))).find? (tpF N n mir P) = L.find? (tpF N n mir P) := by
    intro L
    induction L with
    | nil => intro _; rfl
    | cons g L ih =>
      intro h
      have ih := ih (fun x hx => h x (List.mem_cons_of_mem _ hx))
      rw [List.filter_cons]
      cases ht : tpF N n mir P g with
      | true =>
        rw [if_pos (tpF_go hG (pcL0_mem (h g List.mem_cons_self)) ht), List.find?_cons, List.find?_cons, ht]
      | false =>
        split
        · rw [List.find?_cons, List.find?_cons, ht, ih]
        · rw [List.find?_cons, ht, ih]
  exact this _ (fun g hg => hg)
theorem fd_brk (hG : Gd n mir N) (hb : brkF N n ≠ none) : (pcL0 n mir P).find? (tpF N n mir P) = none := by
  rw [List.find?_eq_none]
  intro g hg h
  exact hb (tp_brk hG.n4 hG.in_ (stF_lt hG (pcL0_mem hg)) h)
/-- from P points on: how many points, and a setting -/
def fdK (N n : Nat) (mir : Nat → Nat) : Nat → Nat → Option (Nat × fT)
  | 0, _ => none
  | k + 1, P => match (pcL0 n mir P).find? (tpF N n mir P) with
    | some g => some (P, g)
    | none => fdK N n mir k (P + 1)
def fdA (N n : Nat) (mir : Nat → Nat) : Option (Nat × fT) := fdK N n mir 12 2
theorem fdK_ok : ∀ k P0 P g, fdK N n mir k P0 = some (P, g) → P0 ≤ P ∧ P < P0 + k ∧ g ∈ pcL0 n mir P
  | 0, P0, P, g, h => nomatch h
  | k + 1, P0, P, g, h => by
    unfold fdK at h
    cases e : (pcL0 n mir P0).find? (tpF N n mir P0) with
    | some g' =>
      rw [e] at h
      dsimp only at h
      rw [Option.some.injEq, Prod.mk.injEq] at h
      obtain ⟨h1, h2⟩ := h
      subst h1 h2
      exact ⟨Nat.le_refl _, by omega, List.mem_of_find?_eq_some e⟩
    | none =>
      rw [e] at h
      have := fdK_ok k (P0 + 1) P g h
      exact ⟨by omega, by omega, this.2.2⟩
end FO
