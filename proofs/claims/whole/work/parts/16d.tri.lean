/-! turns of a three; triangle -/
def tt (mir : Nat → Nat) (a b z : Nat) : Nat → Nat × Nat × Nat
  | 0 => (a, b, z)
  | 1 => (mir a, z, b)
  | 2 => (z, mir b, a)
  | 3 => (mir b, mir a, mir z)
  | 4 => (b, mir z, mir a)
  | _ => (mir z, a, mir b)
def ixp (p : Nat × Nat × Nat) : Nat := ix p.1 p.2.1 p.2.2
def tv (mir : Nat → Nat) (a b z w : Nat) : Nat := ixp (tt mir a b z w)
def inT (mir : Nat → Nat) (a b z k w : Nat) : Bool := (List.range w).any (fun u => tv mir a b z u == k)
theorem inT_iff {mir : Nat → Nat} {a b z k w : Nat} : inT mir a b z k w = true ↔ ∃ u, u < w ∧ tv mir a b z u = k := by
  unfold inT
  rw [List.any_eq_true]
  constructor
  · rintro ⟨u, h1, h2⟩; exact ⟨u, List.mem_range.mp h1, by simpa using h2⟩
  · rintro ⟨u, h1, h2⟩; exact ⟨u, List.mem_range.mpr h1, by simpa using h2⟩
theorem inT_sc {mir : Nat → Nat} {a b z k w : Nat} : inT mir a b z k (w + 1) = (inT mir a b z k w || tv mir a b z w == k) := by
  unfold inT
  rw [List.range_succ, List.any_append]
  simp
theorem six {P : Nat → Prop} : (∃ u, u < 6 ∧ P u) ↔ P 0 ∨ P 1 ∨ P 2 ∨ P 3 ∨ P 4 ∨ P 5 := by
  constructor
  · rintro ⟨u, h, p⟩
    match u, h with
    | 0, _ => exact Or.inl p
    | 1, _ => exact Or.inr (Or.inl p)
    | 2, _ => exact Or.inr (Or.inr (Or.inl p))
    | 3, _ => exact Or.inr (Or.inr (Or.inr (Or.inl p)))
    | 4, _ => exact Or.inr (Or.inr (Or.inr (Or.inr (Or.inl p))))
    | 5, _ => exact Or.inr (Or.inr (Or.inr (Or.inr (Or.inr p))))
  · rintro (p | p | p | p | p | p)
    · exact ⟨0, by decide, p⟩
    · exact ⟨1, by decide, p⟩
    · exact ⟨2, by decide, p⟩
    · exact ⟨3, by decide, p⟩
    · exact ⟨4, by decide, p⟩
    · exact ⟨5, by decide, p⟩
theorem trn_bit {mir : Nat → Nat} {a b z k : Nat} : (trn mir a b z).testBit k = inT mir a b z k 6 := by
  rw [Bool.eq_iff_iff, inT_iff, six]
  unfold trn
  simp only [Nat.testBit_or, Nat.testBit_two_pow, Bool.or_eq_true, decide_eq_true_iff]
  show _ ↔ ix a b z = k ∨ ix (mir a) z b = k ∨ ix z (mir b) a = k ∨ ix (mir b) (mir a) (mir z) = k ∨ ix b (mir z) (mir a) = k ∨ ix (mir z) a (mir b) = k
  constructor
  · rintro (((((h | h) | h) | h) | h) | h)
    · exact Or.inl h
    · exact Or.inr (Or.inl h)
    · exact Or.inr (Or.inr (Or.inl h))
    · exact Or.inr (Or.inr (Or.inr (Or.inl h)))
    · exact Or.inr (Or.inr (Or.inr (Or.inr (Or.inl h))))
    · exact Or.inr (Or.inr (Or.inr (Or.inr (Or.inr h))))
  · rintro (h | h | h | h | h | h)
    · exact Or.inl (Or.inl (Or.inl (Or.inl (Or.inl h))))
    · exact Or.inl (Or.inl (Or.inl (Or.inl (Or.inr h))))
    · exact Or.inl (Or.inl (Or.inl (Or.inr h)))
    · exact Or.inl (Or.inl (Or.inr h))
    · exact Or.inl (Or.inr h)
    · exact Or.inr h
/-- each of the three is an atom but 0 -/
def At3 (n : Nat) (p : Nat × Nat × Nat) : Prop := (1 ≤ p.1 ∧ p.1 < n) ∧ (1 ≤ p.2.1 ∧ p.2.1 < n) ∧ (1 ≤ p.2.2 ∧ p.2.2 < n)
section TU
variable {n : Nat} {mir : Nat → Nat} {a b z : Nat}
theorem mir1 (h : Mr n mir) (ha1 : 1 ≤ a) (ha : a < n) : 1 ≤ mir a ∧ mir a < n := by
  have := h.z ha
  have := h.2.2.2.1 a ha
  omega
theorem tt_at (h : Mr n mir) (ha1 : 1 ≤ a) (ha : a < n) (hb1 : 1 ≤ b) (hb : b < n) (hz1 : 1 ≤ z) (hz : z < n) : ∀ u, At3 n (tt mir a b z u)
  | 0 => ⟨⟨ha1, ha⟩, ⟨hb1, hb⟩, ⟨hz1, hz⟩⟩
  | 1 => ⟨mir1 h ha1 ha, ⟨hz1, hz⟩, ⟨hb1, hb⟩⟩
  | 2 => ⟨⟨hz1, hz⟩, mir1 h hb1 hb, ⟨ha1, ha⟩⟩
  | 3 => ⟨mir1 h hb1 hb, mir1 h ha1 ha, mir1 h hz1 hz⟩
  | 4 => ⟨⟨hb1, hb⟩, mir1 h hz1 hz, mir1 h ha1 ha⟩
  | _ + 5 => ⟨mir1 h hz1 hz, ⟨ha1, ha⟩, mir1 h hb1 hb⟩
theorem tt_t1 (h : Mr n mir) (ha : a < n) (hb : b < n) (hz : z < n) {a' b' z' : Nat} : (∃ u, u < 6 ∧ tt mir a b z u = (a', b', z')) → ∃ u, u < 6 ∧ tt mir a b z u = (mir a', z', b') := by
  have ma := h.2.2.2.2.2 a ha
  have mb := h.2.2.2.2.2 b hb
  have mz := h.2.2.2.2.2 z hz
  rintro ⟨u, hu, e⟩
  match u, hu with
  | 0, _ => obtain ⟨rfl, rfl, rfl⟩ : a = a' ∧ b = b' ∧ z = z' := by simpa [tt] using e
            exact ⟨1, by decide, rfl⟩
  | 1, _ => obtain ⟨rfl, rfl, rfl⟩ : mir a = a' ∧ z = b' ∧ b = z' := by simpa [tt] using e
            exact ⟨0, by decide, by rw [ma]; rfl⟩
  | 2, _ => obtain ⟨rfl, rfl, rfl⟩ : z = a' ∧ mir b = b' ∧ a = z' := by simpa [tt] using e
            exact ⟨5, by decide, rfl⟩
  | 3, _ => obtain ⟨rfl, rfl, rfl⟩ : mir b = a' ∧ mir a = b' ∧ mir z = z' := by simpa [tt] using e
            exact ⟨4, by decide, by rw [mb]; rfl⟩
  | 4, _ => obtain ⟨rfl, rfl, rfl⟩ : b = a' ∧ mir z = b' ∧ mir a = z' := by simpa [tt] using e
            exact ⟨3, by decide, rfl⟩
  | 5, _ => obtain ⟨rfl, rfl, rfl⟩ : mir z = a' ∧ a = b' ∧ mir b = z' := by simpa [tt] using e
            exact ⟨2, by decide, by rw [mz]; rfl⟩
theorem tt_t2 (h : Mr n mir) (ha : a < n) (hb : b < n) (hz : z < n) {a' b' z' : Nat} : (∃ u, u < 6 ∧ tt mir a b z u = (a', b', z')) → ∃ u, u < 6 ∧ tt mir a b z u = (z', mir b', a') := by
  have ma := h.2.2.2.2.2 a ha
  have mb := h.2.2.2.2.2 b hb
  have mz := h.2.2.2.2.2 z hz
  rintro ⟨u, hu, e⟩
  match u, hu with
  | 0, _ => obtain ⟨rfl, rfl, rfl⟩ : a = a' ∧ b = b' ∧ z = z' := by simpa [tt] using e
            exact ⟨2, by decide, rfl⟩
  | 1, _ => obtain ⟨rfl, rfl, rfl⟩ : mir a = a' ∧ z = b' ∧ b = z' := by simpa [tt] using e
            exact ⟨4, by decide, rfl⟩
  | 2, _ => obtain ⟨rfl, rfl, rfl⟩ : z = a' ∧ mir b = b' ∧ a = z' := by simpa [tt] using e
            exact ⟨0, by decide, by rw [mb]; rfl⟩
  | 3, _ => obtain ⟨rfl, rfl, rfl⟩ : mir b = a' ∧ mir a = b' ∧ mir z = z' := by simpa [tt] using e
            exact ⟨5, by decide, by rw [ma]; rfl⟩
  | 4, _ => obtain ⟨rfl, rfl, rfl⟩ : b = a' ∧ mir z = b' ∧ mir a = z' := by simpa [tt] using e
            exact ⟨1, by decide, by rw [mz]; rfl⟩
  | 5, _ => obtain ⟨rfl, rfl, rfl⟩ : mir z = a' ∧ a = b' ∧ mir b = z' := by simpa [tt] using e
            exact ⟨3, by decide, rfl⟩
theorem inT_tt (h : Mr n mir) (ha1 : 1 ≤ a) (ha : a < n) (hb1 : 1 ≤ b) (hb : b < n) (hz1 : 1 ≤ z) (hz : z < n) {a' b' z' : Nat} (hb' : b' < 4) (hz' : z' < 4) : inT mir a b z (ix a' b' z') 6 = true ↔ ∃ u, u < 6 ∧ tt mir a b z u = (a', b', z') := by
  have h4 := h.2.1
  rw [inT_iff]
  constructor
  · rintro ⟨u, hu, e⟩
    have at3 := tt_at h ha1 ha hb1 hb hz1 hz u
    have := (ix_inj (by have := at3.2.1.2; omega) (by have := at3.2.2.2; omega) hb' hz').mp e
    exact ⟨u, hu, by rw [← this.1, ← this.2.1, ← this.2.2]⟩
  · rintro ⟨u, hu, e⟩
    exact ⟨u, hu, by rw [tv, e]; rfl⟩
/-- the threes behind triangle() -/
def mkN (mir : Nat → Nat) (N a b z : Nat) (is : Bool) : Nat := bfn (fun k => if inT mir a b z k 6 then is else N.testBit k) 64
theorem mkN_bit {N k : Nat} {is : Bool} (hk : k < 64) : (mkN mir N a b z is).testBit k = if inT mir a b z k 6 then is else N.testBit k := by
  rw [mkN, bfn_bit, decide_eq_true hk, Bool.true_and]
theorem Gd_mk {N : Nat} {is : Bool} (hG : Gd n mir N) (ha1 : 1 ≤ a) (ha : a < n) (hb1 : 1 ≤ b) (hb : b < n) (hz1 : 1 ≤ z) (hz : z < n) : Gd n mir (mkN mir N a b z is) := by
  have h := hG.mr
  have h4 := hG.n4
  have out : ∀ a' b' z', a' < 4 → b' < 4 → z' < 4 → ¬ At3 n (a', b', z') → (mkN mir N a b z is).testBit (ix a' b' z') = N.testBit (ix a' b' z') := fun a' b' z' h1 h2 h3 hn => by
    rw [mkN_bit (ix_lt h1 h2 h3), if_neg (fun e => ?_)]
    obtain ⟨u, _, e⟩ := (inT_tt h ha1 ha hb1 hb hz1 hz h2 h3).mp e
    exact hn (e ▸ tt_at h ha1 ha hb1 hb hz1 hz u)
  refine ⟨hG.n1, h4, hG.m0, hG.ml, hG.mh, hG.mm, ?_, bfn_lt _ 64, ?_, ?_, ?_, ?_, ?_⟩
  · intro a' b' z' h1 h2 h3 e
    by_cases hn : At3 n (a', b', z')
    · exact ⟨hn.1.2, hn.2.1.2, hn.2.2.2⟩
    · rw [out a' b' z' h1 h2 h3 hn] at e
      exact hG.in_ a' b' z' h1 h2 h3 e
  · intro b' z' h1 h2
    rw [out 0 b' z' (by omega) (by omega) (by omega) (fun z => absurd (show 1 ≤ 0 from z.1.1) (by decide))]
    exact hG.f1 b' z' h1 h2
  · intro a' z' h1 h2
    rw [out a' 0 z' (by omega) (by omega) (by omega) (fun z => absurd (show 1 ≤ 0 from z.2.1.1) (by decide))]
    exact hG.f2 a' z' h1 h2
  · intro a' b' h1 h2
    rw [out a' b' 0 (by omega) (by omega) (by omega) (fun z => absurd (show 1 ≤ 0 from z.2.2.1) (by decide))]
    exact hG.f3 a' b' h1 h2
  · intro a' b' z' h1 h2 h3
    have hm := hG.ml a' h1
    rw [mkN_bit (ix_lt (by omega) (by omega) (by omega)), mkN_bit (ix_lt (by omega) (by omega) (by omega)), hG.t1 a' b' z' h1 h2 h3]
    have : inT mir a b z (ix (mir a') z' b') 6 = inT mir a b z (ix a' b' z') 6 := by
      rw [Bool.eq_iff_iff, inT_tt h ha1 ha hb1 hb hz1 hz (by omega) (by omega), inT_tt h ha1 ha hb1 hb hz1 hz (by omega) (by omega)]
      constructor
      · intro e
        have := tt_t1 h ha hb hz e
        rw [hG.mm a' h1] at this
        exact this
      · exact tt_t1 h ha hb hz
    rw [this]
  · intro a' b' z' h1 h2 h3
    have hm := hG.ml b' h2
    rw [mkN_bit (ix_lt (by omega) (by omega) (by omega)), mkN_bit (ix_lt (by omega) (by omega) (by omega)), hG.t2 a' b' z' h1 h2 h3]
    have : inT mir a b z (ix z' (mir b') a') 6 = inT mir a b z (ix a' b' z') 6 := by
      rw [Bool.eq_iff_iff, inT_tt h ha1 ha hb1 hb hz1 hz (by omega) (by omega), inT_tt h ha1 ha hb1 hb hz1 hz (by omega) (by omega)]
      constructor
      · intro e
        have := tt_t2 h ha hb hz e
        rw [hG.mm b' h2] at this
        exact this
      · exact tt_t2 h ha hb hz
    rw [this]
/-- how many threes triangle() changed -/
def mkD (mir : Nat → Nat) (N a b z : Nat) (is : Bool) (w m : Nat) : Nat := cs (fun k => b1 ((if inT mir a b z k w then is else N.testBit k) != N.testBit k)) m
def mkC (mir : Nat → Nat) (N a b z : Nat) (is : Bool) (w : Nat) : Nat := mkD mir N a b z is w 64
theorem cs_upd {f g : Nat → Nat} {t : Nat} (ht : ∀ k, k ≠ t → f k = g k) (h1 : g t = f t + 1) : ∀ {m : Nat}, t < m → cs g m = cs f m + 1
  | 0, h => absurd h (by omega)
  | m + 1, h => by
    by_cases e : t = m
    · subst e
      rw [cs, cs, cs_cg (g := f) (f := g) (fun k hk => (ht k (by omega)).symm), h1]
      omega
    · rw [cs, cs, cs_upd ht h1 (by omega), ht m (fun z => e z.symm)]
      omega
theorem mkD_sc {N : Nat} {is : Bool} {w m : Nat} (hw : tv mir a b z w < m) : mkD mir N a b z is (w + 1) m = mkD mir N a b z is w m + b1 ((if inT mir a b z (tv mir a b z w) w then is else N.testBit (tv mir a b z w)) != is) := by
  unfold mkD
  by_cases e : (if inT mir a b z (tv mir a b z w) w then is else N.testBit (tv mir a b z w)) = is
  · have e0 : ((if inT mir a b z (tv mir a b z w) w then is else N.testBit (tv mir a b z w)) != is) = false := by rw [e]; simp
    rw [e0, show b1 false = 0 from rfl, Nat.add_zero]
    refine cs_cg (fun k hk => ?_)
    rw [inT_sc]
    by_cases e1 : tv mir a b z w = k
    · subst e1
      rw [e]
      simp
    · have : (tv mir a b z w == k) = false := by simpa using e1
      rw [this, Bool.or_false]
  · have e0 : ((if inT mir a b z (tv mir a b z w) w then is else N.testBit (tv mir a b z w)) != is) = true := by simpa using e
    rw [e0, show b1 true = 1 from rfl]
    refine cs_upd (t := tv mir a b z w) (fun k hk => ?_) ?_ hw
    · rw [inT_sc]
      have : (tv mir a b z w == k) = false := by simpa using (fun z => hk z.symm)
      rw [this, Bool.or_false]
    · rw [inT_sc]
      have e2 : inT mir a b z (tv mir a b z w) w = false := by
        cases hq : inT mir a b z (tv mir a b z w) w with
        | false => rfl
        | true => rw [hq] at e; simp at e
      rw [e2] at e ⊢
      simp at e
      simp [b1]
      cases hN : N.testBit (tv mir a b z w) <;> cases is <;> simp_all
theorem mkC_sc {N : Nat} {is : Bool} {w : Nat} (hw : tv mir a b z w < 64) : mkC mir N a b z is (w + 1) = mkC mir N a b z is w + b1 ((if inT mir a b z (tv mir a b z w) w then is else N.testBit (tv mir a b z w)) != is) := mkD_sc hw
theorem mkC_pop {N : Nat} {is : Bool} : mkC mir N a b z is 6 = pop (N ^^^ mkN mir N a b z is) 64 := by
  unfold mkC mkD pop
  refine cs_cg (fun k hk => ?_)
  rw [Nat.testBit_xor, mkN_bit hk]
  congr 1
  cases N.testBit k <;> cases (if inT mir a b z k 6 = true then is else _) <;> rfl
end TU
