/-! what of the memory stays -/
/-- rows but those of l are as they were -/
def Fr (l : List Nat) (c c' : gm) : Prop := ∀ q, q ∉ l → c'.1 q = c.1 q ∧ c'.2.1 q = c.2.1 q ∧ c'.2.2 q = c.2.2 q
theorem Fr.rf {l : List Nat} {c : gm} : Fr l c c := fun _ _ => ⟨rfl, rfl, rfl⟩
theorem Fr.trans {l : List Nat} {c c1 c2 : gm} (h1 : Fr l c c1) (h2 : Fr l c1 c2) : Fr l c c2 := fun q hq => ⟨(h2 q hq).1.trans (h1 q hq).1, (h2 q hq).2.1.trans (h1 q hq).2.1, (h2 q hq).2.2.trans (h1 q hq).2.2⟩
theorem Fr.mono {l l' : List Nat} {c c' : gm} (h : Fr l c c') (hl : ∀ q, q ∈ l → q ∈ l') : Fr l' c c' := fun q hq => h q (fun z => hq (hl q z))
theorem Fr.i {l : List Nat} {c c' : gm} (h : Fr l c c') {q : Nat} (hq : q ∉ l) (k : Nat) : c'.1 q k = c.1 q k := congrFun (h q hq).1 k
theorem Fr.l {l : List Nat} {c c' : gm} (h : Fr l c c') {q : Nat} (hq : q ∉ l) (k : Nat) : c'.2.1 q k = c.2.1 q k := congrFun (h q hq).2.1 k
theorem Fr.r {l : List Nat} {c c' : gm} (h : Fr l c c') {q : Nat} (hq : q ∉ l) (k : Nat) : c'.2.2 q k = c.2.2 q k := congrFun (h q hq).2.2 k
theorem Fr.mI {l : List Nat} {c c1 : gm} {r k : Nat} {x : Int32} (h : Fr l c c1) (hr : r ∈ l) : Fr l c (mI c1 r k x) := fun q hq => by
  have hne : q ≠ r := fun e => hq (by rw [e]; exact hr)
  exact ⟨(mI_row hne).trans (h q hq).1, (h q hq).2.1, (h q hq).2.2⟩
theorem Fr.mL {l : List Nat} {c c1 : gm} {r k : Nat} {x : Int64} (h : Fr l c c1) (hr : r ∈ l) : Fr l c (mL c1 r k x) := fun q hq => by
  have hne : q ≠ r := fun e => hq (by rw [e]; exact hr)
  exact ⟨(h q hq).1, (mL_row hne).trans (h q hq).2.1, (h q hq).2.2⟩
theorem Fr.mR {l : List Nat} {c c1 : gm} {r k x : Nat} (h : Fr l c c1) (hr : r ∈ l) : Fr l c (mR c1 r k x) := fun q hq => by
  have hne : q ≠ r := fun e => hq (by rw [e]; exact hr)
  exact ⟨(h q hq).1, (h q hq).2.1, (mR_row hne).trans (h q hq).2.2⟩
theorem mI_s {c : gm} {r k : Nat} {x : Int32} : (mI c r k x).1 r k = x := by simp [mI]
theorem mI_n {c : gm} {r k r' k' : Nat} {x : Int32} (h : ¬ (r' = r ∧ k' = k)) : (mI c r k x).1 r' k' = c.1 r' k' := by simp only [mI, if_neg h]
theorem mL_s {c : gm} {r k : Nat} {x : Int64} : (mL c r k x).2.1 r k = x := by simp [mL]
theorem mL_n {c : gm} {r k r' k' : Nat} {x : Int64} (h : ¬ (r' = r ∧ k' = k)) : (mL c r k x).2.1 r' k' = c.2.1 r' k' := by simp only [mL, if_neg h]
theorem mR_s {c : gm} {r k x : Nat} : (mR c r k x).2.2 r k = x := by simp [mR]
theorem mL_mL {c : gm} {r k : Nat} {x y : Int64} : mL (mL c r k x) r k y = mL c r k y := by
  unfold mL
  congr 2
  funext a b
  by_cases h : a = r ∧ b = k <;> simp [h]
theorem mI_mI {c : gm} {r k : Nat} {x y : Int32} : mI (mI c r k x) r k y = mI c r k y := by
  unfold mI
  congr 1
  funext a b
  by_cases h : a = r ∧ b = k <;> simp [h]
theorem mI_id {c : gm} {r k : Nat} {x : Int32} (h : c.1 r k = x) : mI c r k x = c := by
  obtain ⟨f, g⟩ := c
  unfold mI
  congr 1
  funext a b
  by_cases h1 : a = r ∧ b = k
  · rw [if_pos h1, h1.1, h1.2]; exact h.symm
  · rw [if_neg h1]
