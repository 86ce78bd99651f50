/-! read: the text taken apart -/
def low (v : Nat) : Bool := decide (97 ≤ v ∧ v ≤ 122)
def we (tb : Nat → Nat) (t p : Nat) : Nat := (ffrom t (fun e => if low (tb e) = true then none else some e) p).getD t
def kd (tb : Nat → Nat) (a b : Nat) : Option Nat := ffrom 4 (fun i => if wdB tb a b i = true then some i else none) 0
def fg (i : Nat) : Nat := if i = 0 then 1 else if i = 1 then 2 else 3
def due (g v : Nat) : Bool := if g % 2 = 1 then decide (48 ≤ v ∧ v ≤ 57) else v == 32
def gf (tb : Nat → Nat) (t e f : Nat) : Nat := (ffrom (2 * f) (fun g => if e + g < t ∧ due g (tb (e + g)) = true then none else some g) 0).getD (2 * f)
theorem fg_b {i : Nat} : 1 ≤ fg i ∧ fg i ≤ 3 := by unfold fg; split <;> (try split) <;> omega
theorem we_b {tb : Nat → Nat} {t p : Nat} (hp : p ≤ t) : p ≤ we tb t p ∧ we tb t p ≤ t := by
  unfold we
  cases h : ffrom t (fun e => if low (tb e) = true then none else some e) p with
  | none => exact ⟨hp, Nat.le_refl _⟩
  | some v =>
    unfold ffrom at h
    obtain ⟨q, hq, e⟩ := List.exists_of_findSome?_eq_some h
    have := mem_drop_range.mp hq
    by_cases el : low (tb q) = true
    · rw [if_pos el] at e; exact absurd e (by simp)
    · rw [if_neg el] at e
      rw [← Option.some.inj e]
      exact ⟨this.1, Nat.le_of_lt this.2⟩
theorem gf_b {tb : Nat → Nat} {t e f : Nat} (he : e ≤ t) : gf tb t e f ≤ 2 * f ∧ e + gf tb t e f ≤ t := by
  unfold gf
  cases h : ffrom (2 * f) (fun g => if e + g < t ∧ due g (tb (e + g)) = true then none else some g) 0 with
  | none =>
    refine ⟨Nat.le_refl _, ?_⟩
    by_cases hf : f = 0
    · subst hf; exact he
    · have := ffrom_all h (2 * f - 1) (Nat.zero_le _) (by omega)
      by_cases z : e + (2 * f - 1) < t ∧ due (2 * f - 1) (tb (e + (2 * f - 1))) = true
      · show e + 2 * f ≤ t
        omega
      · rw [if_neg z] at this; exact absurd this (by simp)
  | some v =>
    have hv : v < 2 * f ∧ (v = 0 ∨ e + (v - 1) < t) := by
      obtain ⟨q, hq, eq⟩ := ffrom_ex h
      by_cases z : e + q < t ∧ due q (tb (e + q)) = true
      · rw [if_pos z] at eq; exact absurd eq (by simp)
      · rw [if_neg z] at eq
        have := Option.some.inj eq
        subst this
        refine ⟨hq, ?_⟩
        by_cases q0 : q = 0
        · exact Or.inl q0
        · right
          have key : ∀ k a, a + k = q → a ≤ q → ffrom (2 * f) (fun g => if e + g < t ∧ due g (tb (e + g)) = true then none else some g) a = some q → e + (q - 1) < t ∨ a = q := by
            intro k
            induction k with
            | zero => intro a ha _ _; exact Or.inr (by omega)
            | succ k ih =>
              intro a ha _ hs
              by_cases z2 : e + a < t ∧ due a (tb (e + a)) = true
              · rw [ffrom_none (by omega) (if_pos z2)] at hs
                rcases ih (a + 1) (by omega) (by omega) hs with h1 | h1
                · exact Or.inl h1
                · left; have : a = q - 1 := by omega
                  rw [← this]; exact z2.1
              · rw [ffrom_some (by omega) (if_neg z2)] at hs
                have := Option.some.inj hs
                omega
          rcases key q 0 (by omega) (by omega) h with h1 | h1
          · exact h1
          · omega
    show v ≤ 2 * f ∧ e + v ≤ t
    omega
/-- a statement at p: its fault, or its word and where that ends -/
def ps (tb : Nat → Nat) (t p : Nat) : Nat ⊕ Nat × Nat := match kd tb p (we tb t p) with
  | none => .inl p
  | some i => if gf tb t (we tb t p) (fg i) < 2 * fg i then .inl (we tb t p + gf tb t (we tb t p) (fg i)) else .inr (i, we tb t p)
theorem kd_lt {tb : Nat → Nat} {a b i : Nat} (h : kd tb a b = some i) : i < 4 ∧ wdB tb a b i = true := by
  obtain ⟨q, hq, e⟩ := ffrom_ex h
  by_cases z : wdB tb a b q = true
  · rw [if_pos z] at e
    rw [← Option.some.inj e]
    exact ⟨hq, z⟩
  · rw [if_neg z] at e; exact absurd e (by simp)
theorem ps_b {tb : Nat → Nat} {t p : Nat} (hp : p ≤ t) : (∀ f, ps tb t p = .inl f → p ≤ f ∧ f ≤ t) ∧ ∀ i e, ps tb t p = .inr (i, e) → i < 4 ∧ e = we tb t p ∧ p < e ∧ e + 2 * fg i ≤ t ∧ gf tb t e (fg i) = 2 * fg i := by
  have wb := we_b (tb := tb) hp
  unfold ps
  cases h : kd tb p (we tb t p) with
  | none => exact ⟨fun f hf => by rw [← Sum.inl.inj hf]; exact ⟨Nat.le_refl _, hp⟩, fun i e he => nomatch he⟩
  | some i =>
    have gb := gf_b (tb := tb) (f := fg i) wb.2
    dsimp only
    by_cases z : gf tb t (we tb t p) (fg i) < 2 * fg i
    · rw [if_pos z]
      exact ⟨fun f hf => by rw [← Sum.inl.inj hf]; omega, fun i e he => nomatch he⟩
    · rw [if_neg z]
      refine ⟨fun f hf => (nomatch hf), fun i' e he => ?_⟩
      have := Sum.inr.inj he
      rw [Prod.mk.injEq] at this
      obtain ⟨e1, e2⟩ := this
      subst e1 e2
      have hk := kd_lt h
      have hw := hk.2
      unfold wdB at hw
      rw [Bool.and_eq_true] at hw
      have hw1 := of_decide_eq_true hw.1
      have l1 : ∀ i, i < 4 → 1 ≤ gk_len.getD i 0 := by decide
      have := l1 i hk.1
      exact ⟨hk.1, rfl, by omega, by omega, by omega⟩
/-- where the text goes wrong -/
def flt (tb : Nat → Nat) (t : Nat) : Nat → Nat → Option Nat
  | 0, p => some p
  | k + 1, p => match ps tb t p with
    | .inl f => some f
    | .inr (i, e) => if e + 2 * fg i = t then none else if tb (e + 2 * fg i) = 59 then flt tb t k (e + 2 * fg i + 1) else some (e + 2 * fg i)
section PA
variable {E : gk_E} {dd : Nat} {c : gm} {t : Nat} {tb : Nat → Nat}
theorem c_wordEnd (hT : TpC c 64 t tb) (hV : TpV t tb) {p : Nat} (hp : p ≤ t) {K : Int32 → gk_H → Prop} (k : K (nI (we tb t p)) (Hm c)) : RnI E mX9_wordEnd (dd, 0, 0) [.ref 64, .int (nI p)] (Hm c) K := by
  have t100 := hT.2.1
  unfold we at k
  refine vX9_wordEnd_0 ?_
  refine downF (P := fun e => K (nI ((ffrom t (fun e => if low (tb e) = true then none else some e) e).getD t)) (Hm c) → pX9_wordEnd_2 E dd 64 (nI p) (nI e) (Hm c) K) p t hp ?_ ?_ k
  · intro k
    refine vX9_wordEnd_2 (ldI l64 rfl ?_)
    rw [hT.1]
    rw [ffrom_end] at k
    exact bLe (fun _ => k) (fun z => absurd z (by omega))
  · intro e he1 he ih k
    have vb := hV.2 e he
    refine vX9_wordEnd_2 (ldI l64 rfl ?_)
    rw [hT.1, nI_add]
    refine bLe (fun z => absurd z (by omega)) (fun _ => ldR l64 rfl (alB l65 (by omega) (by decide) ?_))
    rw [hT.2.2 e he]
    have no : low (tb e) = false → K (nI e) (Hm c) := fun z => by
      rw [ffrom_some he (if_neg (by rw [z]; decide))] at k
      exact k
    refine bLt (fun z => no (by unfold low; exact decide_eq_false (by omega))) (fun z => ldR l64 rfl (alB l65 (by omega) (by decide) ?_))
    rw [hT.2.2 e he]
    refine bLt (fun z2 => no (by unfold low; exact decide_eq_false (by omega))) (fun z2 => ih ?_)
    rw [ffrom_none he (if_pos (by unfold low; exact decide_eq_true (by omega)))] at k
    exact k
theorem c_wordKind (hT : TpC c 64 t tb) {a b : Nat} (hab : a ≤ b) (hb : b ≤ t) {K : Int32 → gk_H → Prop} (k : K (orM (kd tb a b)) (Hm c)) : RnI E mX9_wordKind (dd + 5, 0, 0) [.ref 64, .int (nI a), .int (nI b)] (Hm c) K := by
  unfold kd at k
  refine vX9_wordKind_0 ⟨obj l64, c_isWord (i := 0) (dd := dd) hT (by decide) hab hb (bB0 (fun e0 => ⟨obj l64, c_isWord (i := 1) (dd := dd) hT (by decide) hab hb (bB0 (fun e1 => ⟨obj l64, c_isWord (i := 2) (dd := dd) hT (by decide) hab hb (bB0 (fun e2 => ⟨obj l64, c_isWord (i := 3) (dd := dd) hT (by decide) hab hb (bB0 (fun e3 => ?_) (fun e3 => ?_))⟩) (fun e2 => ?_))⟩) (fun e1 => ?_))⟩) (fun e0 => ?_))⟩
  · rw [ffrom_none (by decide) (if_neg (by rw [e0]; decide)), ffrom_none (by decide) (if_neg (by rw [e1]; decide)), ffrom_none (by decide) (if_neg (by rw [e2]; decide)), ffrom_none (by decide) (if_neg (by rw [e3]; decide)), ffrom_end] at k
    exact k
  · rw [ffrom_none (by decide) (if_neg (by rw [e0]; decide)), ffrom_none (by decide) (if_neg (by rw [e1]; decide)), ffrom_none (by decide) (if_neg (by rw [e2]; decide)), ffrom_some (v := 3) (by decide) (if_pos e3)] at k
    exact k
  · rw [ffrom_none (by decide) (if_neg (by rw [e0]; decide)), ffrom_none (by decide) (if_neg (by rw [e1]; decide)), ffrom_some (v := 2) (by decide) (if_pos e2)] at k
    exact k
  · rw [ffrom_none (by decide) (if_neg (by rw [e0]; decide)), ffrom_some (v := 1) (by decide) (if_pos e1)] at k
    exact k
  · rw [ffrom_some (v := 0) (by decide) (if_pos e0)] at k
    exact k
theorem c_figuresOf {i : Nat} (hi : i < 4) {h : gk_H} {K : Int32 → gk_H → Prop} (k : K (nI (fg i)) h) : RnI E mX9_figuresOf (dd, 0, 0) [.ref 64, .int (nI i)] h K := by
  unfold fg at k
  refine vX9_figuresOf_0 (bN0 (fun e => bNe (fun e2 => ?_) (fun e2 => ?_)) (fun e => ?_))
  · rw [if_neg e, if_neg e2] at k; exact k
  · rw [if_neg e, if_pos e2] at k; exact k
  · rw [if_pos e] at k; exact k
theorem c_goodFigures (hT : TpC c 64 t tb) (hV : TpV t tb) {e f : Nat} (he : e ≤ t) (hf : f ≤ 3) {K : Int32 → gk_H → Prop} (k : K (nI (gf tb t e f)) (Hm c)) : RnI E mX9_goodFigures (dd + 1, 0, 0) [.ref 64, .int (nI e), .int (nI f)] (Hm c) K := by
  have t100 := hT.2.1
  unfold gf at k
  refine vX9_goodFigures_0 ?_
  refine down (P := fun g => K (nI ((ffrom (2 * f) (fun g => if e + g < t ∧ due g (tb (e + g)) = true then none else some g) g).getD (2 * f))) (Hm c) → pX9_goodFigures_2 E dd 64 (nI e) (nI f) (nI g) (Hm c) K) (2 * f) ?_ ?_ 0 (Nat.zero_le _) k
  · intro k
    rw [ffrom_end] at k
    refine vX9_goodFigures_2 ?_
    rw [pk_mul]
    exact bLe (fun _ => k) (fun z => absurd z (by omega))
  · intro g hg ih k
    refine vX9_goodFigures_2 ?_
    rw [pk_mul]
    refine bLe (fun z => absurd z (by omega)) (fun _ => ldI l64 rfl ?_)
    rw [hT.1]
    simp only [nI_add]
    rw [pk_rem (by omega) (by decide) (by decide)]
    have no : ¬ (e + g < t ∧ due g (tb (e + g)) = true) → K (nI g) (Hm c) := fun z => by
      rw [ffrom_some hg (if_neg z)] at k
      exact k
    have yes : (e + g < t ∧ due g (tb (e + g)) = true) → pX9_goodFigures_2 E dd 64 (nI e) (nI f) (nI (g + 1)) (Hm c) K := fun z => by
      rw [ffrom_none hg (if_pos z)] at k
      exact ih k
    refine bLe (fun z => no (fun y => absurd y.1 (by omega))) (fun z => ?_)
    have vb := hV.2 (e + g) z
    have h2 : g % 2 < 2 := Nat.mod_lt _ (by decide)
    refine bNe (fun e1 => ⟨obj l64, vX9_isDue_0 (ldR l64 rfl (alB l65 (by omega) (by decide) ?_))⟩) (fun e1 => ⟨obj l64, vX9_isDue_0 (ldR l64 rfl (alB l65 (by omega) (by decide) ?_))⟩) (by omega) (by decide)
    · rw [hT.2.2 _ z]
      refine ⟨fun _ => bNe (fun e2 => ⟨fun _ => no (fun y => ?_), fun z => absurd rfl z⟩) (fun e2 => ⟨fun z => absurd z (by decide), fun _ => yes ⟨z, ?_⟩⟩) (by omega) (by decide), fun z => absurd rfl z⟩
      · have := y.2
        unfold due at this
        rw [if_neg e1] at this
        exact e2 (by simpa using this)
      · unfold due
        rw [if_neg e1, e2]
        rfl
    · rw [hT.2.2 _ z]
      refine ⟨fun z => absurd z (by decide), fun _ => bLt (fun e2 => ⟨fun _ => no (fun y => ?_), fun z => absurd rfl z⟩) (fun e2 => bLt (fun e3 => ⟨fun _ => no (fun y => ?_), fun z => absurd rfl z⟩) (fun e3 => ⟨fun z => absurd z (by decide), fun _ => yes ⟨z, ?_⟩⟩))⟩
      · have := y.2
        unfold due at this
        rw [if_pos e1] at this
        have := of_decide_eq_true this
        omega
      · have := y.2
        unfold due at this
        rw [if_pos e1] at this
        have := of_decide_eq_true this
        omega
      · unfold due
        rw [if_pos e1]
        exact decide_eq_true ⟨e2, e3⟩
theorem c_faultPlace (hT : TpC c 64 t tb) (hV : TpV t tb) {K : Int32 → gk_H → Prop} (k : K (orN (flt tb t 101 0)) (Hm c)) : RnI E mX9_faultPlace (dd + 6, 0, 0) [.ref 64] (Hm c) K := by
  have t100 := hT.2.1
  refine vX9_faultPlace_0 ?_
  have go : ∀ fu p u, u + fu = 101 → u ≤ p → p ≤ t → K (orN (flt tb t fu p)) (Hm c) → pX9_faultPlace_4 E (dd + 5) 64 (nI p) (nI u) (Hm c) K := by
    intro fu
    induction fu with
    | zero =>
      intro p u h1 h2 h3 k
      omega
    | succ fu ih =>
      intro p u h1 h2 h3 k
      have wb := we_b (tb := tb) h3
      refine vX9_faultPlace_4 (bLt (fun z => absurd z (by omega)) (fun _ => ⟨obj l64, c_wordEnd hT hV h3 ⟨obj l64, c_wordKind (dd := dd) hT wb.1 wb.2 ?_⟩⟩))
      rw [flt] at k
      cases h : kd tb p (we tb t p) with
      | none =>
        rw [show ps tb t p = .inl p from by unfold ps; rw [h]] at k
        exact ⟨fun z => absurd z (by decide), fun _ => k⟩
      | some i =>
        have hi := (kd_lt h).1
        have fb := fg_b (i := i)
        have gb := gf_b (tb := tb) (f := fg i) wb.2
        refine ⟨fun _ => ⟨obj l64, c_figuresOf hi ⟨obj l64, c_goodFigures (dd := dd + 4) hT hV wb.2 fb.2 ?_⟩⟩, fun z => absurd (nI_le0 (by omega)) z⟩
        rw [pk_mul]
        simp only [nI_add]
        refine bLe (fun z => ldI l64 rfl ?_) (fun z => ?_)
        · have ge : gf tb t (we tb t p) (fg i) = 2 * fg i := by omega
          rw [show ps tb t p = .inr (i, we tb t p) from by unfold ps; rw [h]; dsimp only; rw [if_neg (by omega)]] at k
          dsimp only at k
          rw [hT.1, ge]
          refine bNe (fun e => ldR l64 rfl (alB l65 (by omega) (by decide) ?_)) (fun e => ?_)
          · rw [if_neg e] at k
            have vb := hV.2 (we tb t p + 2 * fg i) (by omega)
            rw [hT.2.2 _ (by omega)]
            refine bEq (fun e2 => ?_) (fun e2 => ?_) (by omega) (by decide)
            · rw [if_pos e2] at k
              exact ih _ _ (by omega) (by omega) (by omega) k
            · rw [if_neg e2] at k
              exact k
          · rw [if_pos e] at k
            exact k
        · rw [show ps tb t p = .inl (we tb t p + gf tb t (we tb t p) (fg i)) from by unfold ps; rw [h]; dsimp only; rw [if_pos z]] at k
          exact k
  exact go 101 0 0 rfl (Nat.le_refl _) (Nat.zero_le _) k
end PA
