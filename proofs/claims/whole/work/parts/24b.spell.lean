/-! spelled -/
def wl : Nat → List Nat
  | 0 => [97, 116, 111, 109, 115]
  | 1 => [112, 97, 105, 114]
  | 2 => [105, 110]
  | 3 => [111, 117, 116]
  | 4 => [59, 112, 97, 105, 114]
  | _ => [59, 105, 110]
theorem wl_len : ∀ i, i < 6 → (wl i).length = gk_len.getD i 0 := by decide
theorem wl_ch : ∀ i, i < 6 → ∀ j, j < gk_len.getD i 0 → chS i j = nI ((wl i).getD j 0) := by decide
theorem wl_128 : ∀ i, i < 6 → ∀ v, v ∈ wl i → v < 128 := by decide
def fgT (v : Nat) : List Nat := [32, 48 + v]
def prT (mir : Nat → Nat) (a : Nat) : List Nat := if a < mir a then wl 4 ++ (fgT a ++ fgT (mir a)) else []
def inT3 (mir : Nat → Nat) (N a b z : Nat) : List Nat := if (N.testBit (ix a b z) && lsB mir a b z) = true then wl 5 ++ (fgT a ++ (fgT b ++ fgT z)) else []
/-- the text of a table -/
def spT (n : Nat) (mir : Nat → Nat) (N : Nat) : List Nat := (wl 0 ++ fgT n) ++ ((rg 1 n).flatMap (prT mir) ++ (rg 1 n).flatMap (fun a => (rg 1 n).flatMap (fun b => (rg 1 n).flatMap (inT3 mir N a b))))
def mf4 (x y z : Nat) : Nat → Nat := fun k => if k = 1 then x else if k = 2 then y else if k = 3 then z else 0
def in3L (mir : Nat → Nat) (a b z : Nat) : Nat := if lsB mir a b z = true then 9 else 0
def prL (mir : Nat → Nat) (a : Nat) : Nat := if a < mir a then 9 else 0
def fullL (n : Nat) (mir : Nat → Nat) : Nat := 7 + (((rg 1 n).map (prL mir)).sum + ((rg 1 n).map (fun a => ((rg 1 n).map (fun b => ((rg 1 n).map (in3L mir a b)).sum)).sum)).sum)
def invB (n : Nat) (mir : Nat → Nat) : Bool := (rg 1 n).all (fun a => decide (mir a < n) && mir (mir a) == a)
theorem full100 : ∀ n, n ≤ 4 → ∀ x, x < 4 → ∀ y, y < 4 → ∀ z, z < 4 → invB n (mf4 x y z) = true → fullL n (mf4 x y z) ≤ 100 := by decide +kernel
theorem flat_le {f : Nat → List Nat} {b : Nat → Nat} : ∀ (L : List Nat), (∀ x, x ∈ L → (f x).length ≤ b x) → (L.flatMap f).length ≤ (L.map b).sum
  | [], _ => Nat.le_refl _
  | x :: L, h => by
    rw [List.flatMap_cons, List.length_append, List.map_cons, List.sum_cons]
    have := h x List.mem_cons_self
    have := flat_le L (fun y hy => h y (List.mem_cons_of_mem _ hy))
    omega
theorem spT_100 {n N : Nat} {mir : Nat → Nat} (hG : Gd n mir N) : (spT n mir N).length ≤ 100 := by
  have n4 := hG.n4
  have em : ∀ a, a ∈ rg 1 n → mf4 (mir 1) (mir 2) (mir 3) a = mir a := fun a ha => by
    have ha := (rg_mem _ 1 rfl).mp ha
    have : a = 1 ∨ a = 2 ∨ a = 3 := by omega
    rcases this with rfl | rfl | rfl <;> rfl
  have hinv : invB n (mf4 (mir 1) (mir 2) (mir 3)) = true := by
    unfold invB
    rw [List.all_eq_true]
    intro a ha
    have ha' := (rg_mem _ 1 rfl).mp ha
    have hm := hG.ml a ha'.2
    have mz : 1 ≤ mir a := by
      rcases Nat.eq_zero_or_pos (mir a) with z | z
      · have := hG.mm a ha'.2
        rw [z, hG.m0] at this
        omega
      · exact z
    rw [em a ha, em (mir a) ((rg_mem _ 1 rfl).mpr ⟨mz, hm⟩), hG.mm a ha'.2, decide_eq_true hm]
    simp
  refine Nat.le_trans ?_ (full100 n n4 (mir 1) (hG.m4 1 (by decide)) (mir 2) (hG.m4 2 (by decide)) (mir 3) (hG.m4 3 (by decide)) hinv)
  unfold spT fullL
  rw [List.length_append, List.length_append, List.length_append]
  have h0 : (wl 0).length + (fgT n).length = 7 := rfl
  have h1 : ((rg 1 n).flatMap (prT mir)).length ≤ ((rg 1 n).map (prL (mf4 (mir 1) (mir 2) (mir 3)))).sum := flat_le _ (fun a ha => by
    unfold prT prL
    rw [em a ha]
    split
    · exact Nat.le_refl _
    · exact Nat.le_refl _)
  have h2 : ((rg 1 n).flatMap (fun a => (rg 1 n).flatMap (fun b => (rg 1 n).flatMap (inT3 mir N a b)))).length ≤ ((rg 1 n).map (fun a => ((rg 1 n).map (fun b => ((rg 1 n).map (in3L (mf4 (mir 1) (mir 2) (mir 3)) a b)).sum)).sum)).sum := flat_le _ (fun a ha => flat_le _ (fun b hb => flat_le _ (fun z hz => by
    have e : lsB (mf4 (mir 1) (mir 2) (mir 3)) a b z = lsB mir a b z := by
      unfold lsB tv tt
      simp only [List.range, List.range.loop, List.all_cons, List.all_nil, em a ha, em b hb, em z hz]
    unfold inT3 in3L
    rw [e]
    cases lsB mir a b z with
    | true =>
      split
      · exact Nat.le_refl _
      · exact Nat.zero_le _
    | false =>
      rw [Bool.and_false]
      exact Nat.le_refl _)))
  omega
theorem spT_128 {n N : Nat} {mir : Nat → Nat} (hG : Gd n mir N) : ∀ v, v ∈ spT n mir N → v < 128 := sorry
