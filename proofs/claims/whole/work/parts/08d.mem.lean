/-- flat memory: ints, longs, moving references, by cell and place -/
abbrev gm : Type := (Nat → Nat → Int32) × (Nat → Nat → Int64) × (Nat → Nat → Nat)
/-- what a cell is: an object (class, fields: 0 int, 1 long, 2 a fixed reference, 3 a moving one), or an array (type, length, fixed references) -/
abbrev gcd : Type := (Nat × List (Nat × Nat)) ⊕ (Nat × Nat × List Nat)
def fv (c : gm) (r k : Nat) (d : Nat × Nat) : Value := match d.1 with
  | 0 => .int (c.1 r k)
  | 1 => .long (c.2.1 r k)
  | 2 => .ref d.2
  | _ => .ref (c.2.2 r k)
def fvs (c : gm) (r : Nat) : Nat → List (Nat × Nat) → List Value
  | _, [] => []
  | k, d :: ds => fv c r k d :: fvs c r (k + 1) ds
def cellOf (c : gm) (r : Nat) (d : gcd) : gk_X := match d with
  | .inl (ci, fds) => .inr (ci, fvs c r 0 fds)
  | .inr (t, n, rf) => .inl (t, n, match t with
    | 0 => .inl (c.1 r)
    | 1 => .inr (.inl (c.2.1 r))
    | 2 => .inl (c.1 r)
    | 3 => .inl (c.1 r)
    | 4 => .inl (c.1 r)
    | _ => .inr (.inr (.inr (.inr (fun j => rf[j]?)))))
def HP (c : gm) : Nat → List gcd → gk_H
  | _, [] => []
  | r, d :: l => cellOf c r d :: HP c (r + 1) l
def lay : List gcd := [
  .inl (10, [(2, 1), (2, 13), (0, 0), (2, 25), (2, 29), (2, 37), (2, 52), (2, 56), (2, 62), (2, 63), (2, 64), (2, 66)]),
  .inl (7, [(2, 2), (2, 4), (2, 5), (0, 0)]),
  .inl (8, [(0, 0), (2, 3), (1, 0)]),
  .inr (0, 4, []),
  .inr (5, 3, [7, 9, 11]),
  .inl (3, [(0, 0), (2, 6)]),
  .inr (0, 36, []),
  .inl (3, [(0, 0), (2, 8)]),
  .inr (0, 36, []),
  .inl (3, [(0, 0), (2, 10)]),
  .inr (0, 36, []),
  .inl (3, [(0, 0), (2, 12)]),
  .inr (0, 36, []),
  .inl (7, [(2, 14), (2, 16), (2, 17), (0, 0)]),
  .inl (8, [(0, 0), (2, 15), (1, 0)]),
  .inr (0, 4, []),
  .inr (5, 3, [19, 21, 23]),
  .inl (3, [(0, 0), (2, 18)]),
  .inr (0, 36, []),
  .inl (3, [(0, 0), (2, 20)]),
  .inr (0, 36, []),
  .inl (3, [(0, 0), (2, 22)]),
  .inr (0, 36, []),
  .inl (3, [(0, 0), (2, 24)]),
  .inr (0, 36, []),
  .inl (4, [(0, 0), (2, 26), (2, 27), (2, 28), (2, 1), (3, 0), (3, 0)]),
  .inr (0, 6, []),
  .inr (0, 6, []),
  .inr (0, 6, []),
  .inl (1, [(2, 1), (2, 25), (2, 30), (2, 33), (2, 32)]),
  .inl (3, [(0, 0), (2, 31)]),
  .inr (0, 36, []),
  .inr (0, 6, []),
  .inl (6, [(0, 0), (2, 34), (2, 35), (2, 36), (2, 2), (2, 30)]),
  .inr (0, 6, []),
  .inr (0, 6, []),
  .inr (0, 6, []),
  .inl (2, [(2, 1), (2, 25), (2, 38), (2, 40), (2, 41)]),
  .inl (3, [(0, 0), (2, 39)]),
  .inr (0, 36, []),
  .inr (6, 2, [44, 48]),
  .inr (7, 2, [42, 43]),
  .inr (0, 36, []),
  .inr (0, 36, []),
  .inl (6, [(0, 0), (2, 45), (2, 46), (2, 47), (2, 2), (2, 38)]),
  .inr (0, 6, []),
  .inr (0, 6, []),
  .inr (0, 6, []),
  .inl (6, [(0, 0), (2, 49), (2, 50), (2, 51), (2, 2), (2, 38)]),
  .inr (0, 6, []),
  .inr (0, 6, []),
  .inr (0, 6, []),
  .inl (0, [(2, 2), (0, 0), (2, 53), (2, 55), (0, 0), (0, 0)]),
  .inl (3, [(0, 0), (2, 54)]),
  .inr (0, 36, []),
  .inr (0, 153, []),
  .inl (5, [(0, 0), (2, 57), (2, 58), (2, 59), (2, 2), (0, 0), (2, 60), (2, 61)]),
  .inr (0, 6, []),
  .inr (0, 6, []),
  .inr (0, 6, []),
  .inr (0, 13, []),
  .inr (0, 4, []),
  .inr (0, 3, []),
  .inr (1, 36, []),
  .inl (9, [(0, 0), (2, 65)]),
  .inr (2, 100, []),
  .inl (9, [(0, 0), (2, 67)]),
  .inr (2, 100, []),
  .inl (11, [(0, 0), (2, 69), (2, 70), (2, 71), (2, 72), (0, 0), (0, 0), (2, 73), (0, 0), (0, 0), (0, 0), (0, 0), (0, 0), (0, 0), (2, 74), (2, 75), (2, 76), (2, 77), (2, 78), (2, 79), (0, 0), (0, 0), (0, 0), (2, 80), (0, 0), (0, 0), (0, 0), (0, 0), (0, 0), (2, 81), (2, 82), (2, 83), (2, 84), (0, 0)]),
  .inr (0, 4, []),
  .inr (3, 64, []),
  .inr (0, 6, []),
  .inr (0, 216, []),
  .inr (0, 256, []),
  .inr (0, 13, []),
  .inr (0, 3, []),
  .inr (1, 36, []),
  .inr (4, 18, []),
  .inr (0, 4, []),
  .inr (0, 100, []),
  .inr (0, 3, []),
  .inr (0, 4, []),
  .inr (3, 64, []),
  .inr (0, 6, []),
  .inr (0, 216, [])]
/-- the heap of a memory -/
def Hm (c : gm) : gk_H := HP c 0 lay
def mI (c : gm) (r k : Nat) (x : Int32) : gm := (fun a b => if a = r ∧ b = k then x else c.1 a b, c.2)
def mL (c : gm) (r k : Nat) (x : Int64) : gm := (c.1, fun a b => if a = r ∧ b = k then x else c.2.1 a b, c.2.2)
def mR (c : gm) (r k : Nat) (x : Nat) : gm := (c.1, c.2.1, fun a b => if a = r ∧ b = k then x else c.2.2 a b)
theorem fvs_at (c : gm) (r : Nat) : ∀ (l : List (Nat × Nat)) (k i : Nat), (fvs c r k l)[i]? = (l[i]?).map (fv c r (k + i))
  | [], k, i => by simp [fvs]
  | d :: l, k, 0 => by simp [fvs]
  | d :: l, k, i + 1 => by
    simp only [fvs, List.getElem?_cons_succ]
    rw [fvs_at c r l (k + 1) i, show k + 1 + i = k + (i + 1) by omega]
theorem fvs_len (c : gm) (r : Nat) : ∀ (l : List (Nat × Nat)) (k : Nat), (fvs c r k l).length = l.length
  | [], k => rfl
  | d :: l, k => by simp only [fvs, List.length_cons, fvs_len c r l (k + 1)]
theorem HP_at (c : gm) : ∀ (l : List gcd) (r i : Nat), (HP c r l)[i]? = (l[i]?).map (cellOf c (r + i))
  | [], r, i => by simp [HP]
  | d :: l, r, 0 => by simp [HP]
  | d :: l, r, i + 1 => by
    simp only [HP, List.getElem?_cons_succ]
    rw [HP_at c l (r + 1) i, show r + 1 + i = r + (i + 1) by omega]
theorem HP_len (c : gm) : ∀ (l : List gcd) (r : Nat), (HP c r l).length = l.length
  | [], r => rfl
  | d :: l, r => by simp only [HP, List.length_cons, HP_len c l (r + 1)]
theorem Hm_at {c : gm} {r : Nat} {d : gcd} (h : lay[r]? = some d) : (Hm c)[r]? = some (cellOf c r d) := by rw [Hm, HP_at, h, Nat.zero_add]; rfl
theorem fvs_congr {c c' : gm} {r : Nat} (h1 : c'.1 r = c.1 r) (h2 : c'.2.1 r = c.2.1 r) (h3 : c'.2.2 r = c.2.2 r) : ∀ (l : List (Nat × Nat)) (k : Nat), fvs c' r k l = fvs c r k l
  | [], k => rfl
  | d :: l, k => by
    simp only [fvs]
    rw [fvs_congr h1 h2 h3 l (k + 1)]
    congr 1
    simp only [fv, h1, h2, h3]
theorem cell_congr {c c' : gm} {r : Nat} (h1 : c'.1 r = c.1 r) (h2 : c'.2.1 r = c.2.1 r) (h3 : c'.2.2 r = c.2.2 r) (d : gcd) : cellOf c' r d = cellOf c r d := by
  obtain ⟨ci, fds⟩ | ⟨t, n, rf⟩ := d
  · show Sum.inr _ = Sum.inr _
    rw [fvs_congr h1 h2 h3]
  · simp only [cellOf, h1, h2]
/-- a store of one cell is the memory with its row changed -/
theorem Hm_set {c c' : gm} {r : Nat} {d : gcd} (h : lay[r]? = some d) {x : gk_X} (hx : x = cellOf c' r d) (ho : ∀ q, q ≠ r → c'.1 q = c.1 q ∧ c'.2.1 q = c.2.1 q ∧ c'.2.2 q = c.2.2 q) : (Hm c).set r x = Hm c' := by
  subst hx
  have hr : r < lay.length := (List.getElem?_eq_some_iff.mp h).1
  apply List.ext_getElem?
  intro i
  by_cases hi : i = r
  · subst hi
    rw [List.getElem?_set_self (by rw [Hm, HP_len]; exact hr), Hm_at h]
  · rw [List.getElem?_set_ne (fun e => hi e.symm), Hm, Hm, HP_at, HP_at]
    cases hq : lay[i]? with
    | none => rfl
    | some d' =>
      obtain ⟨h1, h2, h3⟩ := ho i hi
      simp only [Option.map_some, Nat.zero_add]
      rw [cell_congr h1 h2 h3]
theorem mI_row {c : gm} {r k : Nat} {x : Int32} {q : Nat} (h : q ≠ r) : (mI c r k x).1 q = c.1 q := by funext b; simp [mI, h]
theorem mL_row {c : gm} {r k : Nat} {x : Int64} {q : Nat} (h : q ≠ r) : (mL c r k x).2.1 q = c.2.1 q := by funext b; simp [mL, h]
theorem mR_row {c : gm} {r k : Nat} {x : Nat} {q : Nat} (h : q ≠ r) : (mR c r k x).2.2 q = c.2.2 q := by funext b; simp [mR, h]
section MEM
variable {c : gm} {r ci k z n j : Nat} {fds : List (Nat × Nat)} {rf : List Nat}
theorem obj (h : lay[r]? = some (.inl (ci, fds))) : ∃ fs, (Hm c)[r]? = some (.inr (ci, fs)) := ⟨_, Hm_at h⟩
theorem ldI {φ : Int32 → Prop} (h : lay[r]? = some (.inl (ci, fds))) (hk : fds[k]? = some (0, z)) (p : φ (c.1 r k)) : LdI (Hm c) r ci k φ := ⟨_, _, Hm_at h, by rw [fvs_at, hk, Nat.zero_add]; rfl, p⟩
theorem ldL {φ : Int64 → Prop} (h : lay[r]? = some (.inl (ci, fds))) (hk : fds[k]? = some (1, z)) (p : φ (c.2.1 r k)) : LdL (Hm c) r ci k φ := ⟨_, _, Hm_at h, by rw [fvs_at, hk, Nat.zero_add]; rfl, p⟩
theorem ldR {φ : Nat → Prop} (h : lay[r]? = some (.inl (ci, fds))) (hk : fds[k]? = some (2, z)) (p : φ z) : LdR (Hm c) r ci k φ := ⟨_, _, Hm_at h, by rw [fvs_at, hk, Nat.zero_add]; rfl, p⟩
theorem ldM {φ : Nat → Prop} (h : lay[r]? = some (.inl (ci, fds))) (hk : fds[k]? = some (3, z)) (p : φ (c.2.2 r k)) : LdR (Hm c) r ci k φ := ⟨_, _, Hm_at h, by rw [fvs_at, hk, Nat.zero_add]; rfl, p⟩
theorem fvs_setI {x : Int32} : ∀ (l : List (Nat × Nat)) (i k0 : Nat), l[i]? = some (0, z) → (fvs c r k0 l).set i (.int x) = fvs (mI c r (k0 + i) x) r k0 l := by
  intro l i k0 hk
  apply List.ext_getElem?
  intro q
  by_cases hq : q = i
  · subst hq
    have hl : q < (fvs c r k0 l).length := by rw [fvs_len]; exact (List.getElem?_eq_some_iff.mp hk).1
    rw [List.getElem?_set_self hl, fvs_at, hk]
    simp [fv, mI]
  · rw [List.getElem?_set_ne (fun e => hq e.symm), fvs_at, fvs_at]
    cases l[q]? with
    | none => rfl
    | some d =>
      simp only [Option.map_some, Option.some.injEq]
      simp only [fv, mI, show ¬ (k0 + q = k0 + i) by omega, and_false, if_false]
theorem fvs_setL {x : Int64} : ∀ (l : List (Nat × Nat)) (i k0 : Nat), l[i]? = some (1, z) → (fvs c r k0 l).set i (.long x) = fvs (mL c r (k0 + i) x) r k0 l := by
  intro l i k0 hk
  apply List.ext_getElem?
  intro q
  by_cases hq : q = i
  · subst hq
    have hl : q < (fvs c r k0 l).length := by rw [fvs_len]; exact (List.getElem?_eq_some_iff.mp hk).1
    rw [List.getElem?_set_self hl, fvs_at, hk]
    simp [fv, mL]
  · rw [List.getElem?_set_ne (fun e => hq e.symm), fvs_at, fvs_at]
    cases l[q]? with
    | none => rfl
    | some d =>
      simp only [Option.map_some, Option.some.injEq]
      simp only [fv, mL, show ¬ (k0 + q = k0 + i) by omega, and_false, if_false]
theorem fvs_setR {x : Nat} : ∀ (l : List (Nat × Nat)) (i k0 : Nat), l[i]? = some (3, z) → (fvs c r k0 l).set i (.ref x) = fvs (mR c r (k0 + i) x) r k0 l := by
  intro l i k0 hk
  apply List.ext_getElem?
  intro q
  by_cases hq : q = i
  · subst hq
    have hl : q < (fvs c r k0 l).length := by rw [fvs_len]; exact (List.getElem?_eq_some_iff.mp hk).1
    rw [List.getElem?_set_self hl, fvs_at, hk]
    simp [fv, mR]
  · rw [List.getElem?_set_ne (fun e => hq e.symm), fvs_at, fvs_at]
    cases l[q]? with
    | none => rfl
    | some d =>
      simp only [Option.map_some, Option.some.injEq]
      simp only [fv, mR, show ¬ (k0 + q = k0 + i) by omega, and_false, if_false]
theorem stI {x : Int32} {φ : gk_H → Prop} (h : lay[r]? = some (.inl (ci, fds))) (hk : fds[k]? = some (0, z)) (p : φ (Hm (mI c r k x))) : StI (Hm c) r ci k x φ := by
  refine ⟨_, Hm_at h, by rw [fvs_len]; exact (List.getElem?_eq_some_iff.mp hk).1, ?_⟩
  rw [Hm_set (c := c) (c' := mI c r k x) h (by rw [fvs_setI fds k 0 hk, Nat.zero_add]; rfl) (fun q hq => ⟨mI_row hq, rfl, rfl⟩)]
  exact p
theorem stZ {x : Int32} {φ : gk_H → Prop} (h : lay[r]? = some (.inl (ci, fds))) (hk : fds[k]? = some (0, z)) (hb : bz x) (p : φ (Hm (mI c r k x))) : StZ (Hm c) r ci k x φ := ⟨hb, stI h hk p⟩
theorem stL {x : Int64} {φ : gk_H → Prop} (h : lay[r]? = some (.inl (ci, fds))) (hk : fds[k]? = some (1, z)) (p : φ (Hm (mL c r k x))) : StL (Hm c) r ci k x φ := by
  refine ⟨_, Hm_at h, by rw [fvs_len]; exact (List.getElem?_eq_some_iff.mp hk).1, ?_⟩
  rw [Hm_set (c := c) (c' := mL c r k x) h (by rw [fvs_setL fds k 0 hk, Nat.zero_add]; rfl) (fun q hq => ⟨rfl, mL_row hq, rfl⟩)]
  exact p
theorem stR {x : Nat} {φ : gk_H → Prop} (h : lay[r]? = some (.inl (ci, fds))) (hk : fds[k]? = some (3, z)) (p : φ (Hm (mR c r k x))) : StR (Hm c) r ci k x φ := by
  refine ⟨_, Hm_at h, by rw [fvs_len]; exact (List.getElem?_eq_some_iff.mp hk).1, ?_⟩
  rw [Hm_set (c := c) (c' := mR c r k x) h (by rw [fvs_setR fds k 0 hk, Nat.zero_add]; rfl) (fun q hq => ⟨rfl, rfl, mR_row hq⟩)]
  exact p
theorem lenA {φ : Int32 → Prop} {t : Nat} (h : lay[r]? = some (.inr (t, n, rf))) (ht : t < 8) (p : φ (nI n)) : Len (Hm c) r φ := ⟨t, _, _, Hm_at h, ht, rfl, p⟩
theorem alR {φ : Nat → Prop} {t : Nat} {a : Nat} (h : lay[r]? = some (.inr (t + 5, n, rf))) (hj : j < n) (hn : n < 2 ^ 31) (ha : rf[j]? = some a) (p : φ a) : AlR (t + 5) (Hm c) r (nI j) φ := ⟨_, _, a, Hm_at h, vp_in_nI hj hn, by rw [nI_clamp (by omega)]; exact ha, p⟩
theorem alI {φ : Int32 → Prop} (h : lay[r]? = some (.inr (0, n, rf))) (hj : j < n) (hn : n < 2 ^ 31) (p : φ (c.1 r j)) : AlI (Hm c) r (nI j) φ := ⟨_, _, Hm_at h, vp_in_nI hj hn, by rw [nI_clamp (by omega)]; exact p⟩
theorem asI {x : Int32} {φ : gk_H → Prop} (h : lay[r]? = some (.inr (0, n, rf))) (hj : j < n) (hn : n < 2 ^ 31) (p : φ (Hm (mI c r j x))) : AsI (Hm c) r (nI j) x φ := by
  refine ⟨_, _, Hm_at h, vp_in_nI hj hn, ?_⟩
  rw [nI_clamp (by omega), Hm_set (c := c) (c' := mI c r j x) h (by
    show Sum.inl _ = Sum.inl _
    refine congrArg (fun f => Sum.inl (0, n, Sum.inl f)) (funext fun b => ?_)
    simp [upd, mI]) (fun q hq => ⟨mI_row hq, rfl, rfl⟩)]
  exact p
theorem alB {φ : Int32 → Prop} (h : lay[r]? = some (.inr (2, n, rf))) (hj : j < n) (hn : n < 2 ^ 31) (p : φ (c.1 r j)) : AlB (Hm c) r (nI j) φ := ⟨_, _, Hm_at h, vp_in_nI hj hn, by rw [nI_clamp (by omega)]; exact p⟩
theorem asB {x : Int32} {φ : gk_H → Prop} (h : lay[r]? = some (.inr (2, n, rf))) (hj : j < n) (hn : n < 2 ^ 31) (p : φ (Hm (mI c r j (vp_nar .byte x)))) : AsB (Hm c) r (nI j) x φ := by
  refine ⟨_, _, Hm_at h, vp_in_nI hj hn, ?_⟩
  rw [nI_clamp (by omega), Hm_set (c := c) (c' := mI c r j (vp_nar .byte x)) h (by
    show Sum.inl _ = Sum.inl _
    refine congrArg (fun f => Sum.inl (2, n, Sum.inl f)) (funext fun b => ?_)
    simp [upd, mI]) (fun q hq => ⟨mI_row hq, rfl, rfl⟩)]
  exact p
theorem alZ {φ : Int32 → Prop} (h : lay[r]? = some (.inr (3, n, rf))) (hj : j < n) (hn : n < 2 ^ 31) (p : φ (c.1 r j)) : AlZ (Hm c) r (nI j) φ := ⟨_, _, Hm_at h, vp_in_nI hj hn, by rw [nI_clamp (by omega)]; exact p⟩
theorem asZ {x : Int32} {φ : gk_H → Prop} (h : lay[r]? = some (.inr (3, n, rf))) (hj : j < n) (hn : n < 2 ^ 31) (p : φ (Hm (mI c r j (vp_nar .boolean x)))) : AsZ (Hm c) r (nI j) x φ := by
  refine ⟨_, _, Hm_at h, vp_in_nI hj hn, ?_⟩
  rw [nI_clamp (by omega), Hm_set (c := c) (c' := mI c r j (vp_nar .boolean x)) h (by
    show Sum.inl _ = Sum.inl _
    refine congrArg (fun f => Sum.inl (3, n, Sum.inl f)) (funext fun b => ?_)
    simp [upd, mI]) (fun q hq => ⟨mI_row hq, rfl, rfl⟩)]
  exact p
theorem alC {φ : Int32 → Prop} (h : lay[r]? = some (.inr (4, n, rf))) (hj : j < n) (hn : n < 2 ^ 31) (p : φ (c.1 r j)) : AlC (Hm c) r (nI j) φ := ⟨_, _, Hm_at h, vp_in_nI hj hn, by rw [nI_clamp (by omega)]; exact p⟩
theorem asC {x : Int32} {φ : gk_H → Prop} (h : lay[r]? = some (.inr (4, n, rf))) (hj : j < n) (hn : n < 2 ^ 31) (p : φ (Hm (mI c r j (vp_nar .char x)))) : AsC (Hm c) r (nI j) x φ := by
  refine ⟨_, _, Hm_at h, vp_in_nI hj hn, ?_⟩
  rw [nI_clamp (by omega), Hm_set (c := c) (c' := mI c r j (vp_nar .char x)) h (by
    show Sum.inl _ = Sum.inl _
    refine congrArg (fun f => Sum.inl (4, n, Sum.inl f)) (funext fun b => ?_)
    simp [upd, mI]) (fun q hq => ⟨mI_row hq, rfl, rfl⟩)]
  exact p
theorem alL {φ : Int64 → Prop} (h : lay[r]? = some (.inr (1, n, rf))) (hj : j < n) (hn : n < 2 ^ 31) (p : φ (c.2.1 r j)) : AlL (Hm c) r (nI j) φ := ⟨_, _, Hm_at h, vp_in_nI hj hn, by rw [nI_clamp (by omega)]; exact p⟩
theorem asL {x : Int64} {φ : gk_H → Prop} (h : lay[r]? = some (.inr (1, n, rf))) (hj : j < n) (hn : n < 2 ^ 31) (p : φ (Hm (mL c r j x))) : AsL (Hm c) r (nI j) x φ := by
  refine ⟨_, _, Hm_at h, vp_in_nI hj hn, ?_⟩
  rw [nI_clamp (by omega), Hm_set (c := c) (c' := mL c r j x) h (by
    show Sum.inl _ = Sum.inl _
    refine congrArg (fun f => Sum.inl (1, n, Sum.inr (Sum.inl f))) (funext fun b => ?_)
    simp [vp_updL, mL]) (fun q hq => ⟨rfl, mL_row hq, rfl⟩)]
  exact p
end MEM
