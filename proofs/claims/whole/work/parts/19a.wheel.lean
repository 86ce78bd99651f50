/-! settings: places m less 1 down to 0, the highest first -/
abbrev fT : Type := Nat → Nat
def fup (f : fT) (p v : Nat) : fT := fun q => if q = p then v else f q
theorem fup_s (f : fT) (p v : Nat) : fup f p v p = v := if_pos rfl
theorem fup_n (f : fT) {p q : Nat} (v : Nat) (h : q ≠ p) : fup f p v q = f q := if_neg h
theorem fup_id {f : fT} {p v : Nat} (h : f p = v) : fup f p v = f := funext fun q => by
  unfold fup
  by_cases e : q = p
  · rw [if_pos e, e, h]
  · rw [if_neg e]
theorem fup_cg {f g : fT} {p : Nat} (v : Nat) (h : ∀ q, p + 1 ≤ q → f q = g q) : ∀ q, p ≤ q → fup f p v q = fup g p v q := fun q hq => by
  unfold fup
  by_cases e : q = p
  · rw [if_pos e, if_pos e]
  · rw [if_neg e, if_neg e]; exact h q (by omega)
abbrev gT : Type := Nat → fT → Bool
/-- the good settings of the places below p, those above standing -/
def en (vs : Nat → List Nat) (gd : gT) : Nat → fT → List fT
  | 0, f => [f]
  | p + 1, f => (vs p).flatMap (fun v => if gd p (fup f p v) = true then en vs gd p (fup f p v) else [])
/-- values from a to b less 1 -/
def rg (a b : Nat) : List Nat := (List.range b).drop a
theorem rg_nil {a b : Nat} (h : b ≤ a) : rg a b = [] := by
  unfold rg
  rw [List.drop_eq_nil_iff]
  simpa using h
theorem rg_cons {a b : Nat} (h : a < b) : rg a b = a :: rg (a + 1) b := by
  unfold rg
  rw [List.drop_eq_getElem_cons (by simpa using h)]
  simp
theorem rg_mem {b v : Nat} : ∀ k a, b - a = k → (v ∈ rg a b ↔ a ≤ v ∧ v < b)
  | 0, a, h => by
    rw [rg_nil (by omega)]
    simp
    omega
  | k + 1, a, h => by
    rw [rg_cons (by omega), List.mem_cons, rg_mem k (a + 1) (by omega)]
    omega
/-- gd p looks at the places from p on alone -/
def Lk (gd : gT) : Prop := ∀ p f g, (∀ q, p ≤ q → f q = g q) → gd p f = gd p g
section PW
variable {vs : Nat → List Nat} {gd : gT} {m : Nat} {lo hx : Nat → Nat}
theorem en_cg (hL : Lk gd) : ∀ p f g, (∀ q, p ≤ q → f q = g q) → en vs gd p f = en vs gd p g
  | 0, f, g, h => by rw [show f = g from funext fun q => h q (Nat.zero_le _)]
  | p + 1, f, g, h => by
    unfold en
    refine congrArg (fun F => List.flatMap F (vs p)) (funext fun v => ?_)
    rw [hL p _ _ (fup_cg v h), en_cg hL p _ _ (fup_cg v h)]
abbrev vr (lo hx : Nat → Nat) : Nat → List Nat := fun p => rg (lo p) (hx p)
/-- one value at place p -/
def sv (vs : Nat → List Nat) (gd : gT) (p : Nat) (f : fT) (v : Nat) : List fT := if gd p (fup f p v) = true then en vs gd p (fup f p v) else []
theorem sv_cg (hL : Lk gd) {p : Nat} {f g : fT} (h : ∀ q, p + 1 ≤ q → f q = g q) : sv vs gd p f = sv vs gd p g := funext fun v => by
  unfold sv
  rw [hL p _ _ (fup_cg v h), en_cg hL p _ _ (fup_cg v h)]
/-- what comes behind, another at some of the highest k places -/
def afK (lo hx : Nat → Nat) (gd : gT) (m : Nat) : Nat → fT → List fT
  | 0, _ => []
  | k + 1, f => (rg (f (m - (k + 1)) + 1) (hx (m - (k + 1)))).flatMap (sv (vr lo hx) gd (m - (k + 1)) f) ++ afK lo hx gd m k f
def af (lo hx : Nat → Nat) (gd : gT) (m p : Nat) (f : fT) : List fT := afK lo hx gd m (m - p) f
theorem af_top {f : fT} : af lo hx gd m m f = [] := by unfold af; rw [Nat.sub_self]; rfl
theorem af_st {p : Nat} {f : fT} (h : p < m) : af lo hx gd m p f = (rg (f p + 1) (hx p)).flatMap (sv (vr lo hx) gd p f) ++ af lo hx gd m (p + 1) f := by
  unfold af
  rw [show m - p = (m - (p + 1)) + 1 by omega, afK, show m - (m - (p + 1) + 1) = p by omega]
theorem af_cg (hL : Lk gd) {f g : fT} : ∀ k p, m - p = k → (∀ q, p ≤ q → f q = g q) → p ≤ m → af lo hx gd m p f = af lo hx gd m p g
  | 0, p, hk, h, hp => by rw [show p = m by omega, af_top, af_top]
  | k + 1, p, hk, h, hp => by
    rw [af_st (f := f) (p := p) (by omega), af_st (f := g) (p := p) (by omega), af_cg hL k (p + 1) (by omega) (fun q hq => h q (by omega)) (by omega), h p (Nat.le_refl _), sv_cg hL (fun q hq => h q (by omega))]
def cur (lo hx : Nat → Nat) (gd : gT) (m r : Nat) (f : fT) : List fT := (if gd r f = true then en (vr lo hx) gd r f else []) ++ af lo hx gd m r f
theorem cur_dn {r : Nat} {f : fT} (h : r + 1 < m) (hg : gd (r + 1) f = true) (hl : f r = lo r) (hr : lo r < hx r) : cur lo hx gd m (r + 1) f = cur lo hx gd m r f := by
  unfold cur
  rw [if_pos hg, af_st (p := r) (by omega), en, show vr lo hx r = lo r :: rg (lo r + 1) (hx r) from rg_cons hr, List.flatMap_cons, fup_id hl, hl, List.append_assoc]
  rfl
theorem cur_0 {f : fT} (hg : gd 0 f = true) : cur lo hx gd m 0 f = f :: af lo hx gd m 0 f := by
  unfold cur
  rw [if_pos hg]
  rfl
theorem cur_all {f : fT} : ∀ r, r < m → (∀ q, q ≤ r → gd q f = true) → (∀ q, q < r → f q = lo q) → (∀ q, q < m → lo q < hx q) → cur lo hx gd m r f = f :: af lo hx gd m 0 f
  | 0, _, hg, _, _ => cur_0 (hg 0 (Nat.le_refl _))
  | r + 1, h, hg, hl, hx => by rw [cur_dn h (hg _ (Nat.le_refl _)) (hl r (by omega)) (hx r (by omega))]; exact cur_all r (by omega) (fun q hq => hg q (by omega)) (fun q hq => hl q (by omega)) hx
theorem cur_bad {f : fT} {p : Nat} (hp : gd p f = false) : ∀ r, p ≤ r → r < m → (∀ q, p < q → q ≤ r → gd q f = true) → (∀ q, q < r → f q = lo q) → (∀ q, q < m → lo q < hx q) → cur lo hx gd m r f = af lo hx gd m p f
  | r, hpr, h, hg, hl, hx => by
    by_cases e : r = p
    · subst e; unfold cur; rw [if_neg (by rw [hp]; decide)]; rfl
    · obtain ⟨r', rfl⟩ : ∃ r', r = r' + 1 := ⟨r - 1, by omega⟩
      rw [cur_dn h (hg _ (by omega) (Nat.le_refl _)) (hl r' (by omega)) (hx r' (by omega))]
      exact cur_bad hp r' (by omega) (by omega) (fun q h1 h2 => hg q h1 (by omega)) (fun q hq => hl q (by omega)) hx
/-- place r rises, those below it begin anew -/
def tn (lo : Nat → Nat) (f : fT) (r : Nat) : fT := fun q => if q < r then lo q else if q = r then f r + 1 else f q
theorem tn_lt {f : fT} {r q : Nat} (h : q < r) : tn lo f r q = lo q := if_pos h
theorem tn_eq {f : fT} {r : Nat} : tn lo f r r = f r + 1 := by unfold tn; rw [if_neg (Nat.lt_irrefl _), if_pos rfl]
theorem tn_gt {f : fT} {r q : Nat} (h : r < q) : tn lo f r q = f q := by unfold tn; rw [if_neg (by omega), if_neg (by omega)]
theorem af_skip {f : fT} {r : Nat} (hr : r ≤ m) : ∀ k p, r - p = k → p ≤ r → (∀ q, p ≤ q → q < r → hx q ≤ f q + 1) → af lo hx gd m p f = af lo hx gd m r f
  | 0, p, hk, h, _ => by rw [show p = r by omega]
  | k + 1, p, hk, h, hq => by
    rw [af_st (by omega), rg_nil (hq p (Nat.le_refl _) (by omega)), List.flatMap_nil, List.nil_append]
    exact af_skip hr k (p + 1) (by omega) (by omega) (fun q h1 h2 => hq q (by omega) h2)
theorem af_none {f : fT} {p : Nat} (h : p ≤ m) (hq : ∀ q, p ≤ q → q < m → hx q ≤ f q + 1) : af lo hx gd m p f = [] := by rw [af_skip (Nat.le_refl m) _ p rfl h hq, af_top]
theorem af_turn (hL : Lk gd) {f : fT} {p r : Nat} (hpr : p ≤ r) (hr : r < m) (hq : ∀ q, p ≤ q → q < r → hx q ≤ f q + 1) (hu : f r + 1 < hx r) : af lo hx gd m p f = cur lo hx gd m r (tn lo f r) := by
  have ag : ∀ q, r + 1 ≤ q → f q = tn lo f r q := fun q h => (tn_gt (by omega)).symm
  rw [af_skip (Nat.le_of_lt hr) _ p rfl hpr hq, af_st hr, rg_cons hu, List.flatMap_cons]
  unfold cur
  rw [af_st (f := tn lo f r) hr, tn_eq, sv_cg hL ag, af_cg hL _ (r + 1) rfl ag (by omega), List.append_assoc]
  congr 1
  unfold sv
  rw [fup_id tn_eq]
theorem en_empty {p : Nat} (hp : p < m) (hv : vs p = []) : ∀ f, en vs gd m f = [] := by
  induction m with
  | zero => omega
  | succ k ih =>
    intro f
    unfold en
    by_cases e : p = k
    · subst e; rw [hv]; rfl
    · rw [List.flatMap_eq_nil_iff]
      intro v _
      rw [ih (by omega)]
      split <;> rfl
theorem en_start (hL : Lk gd) {f g : fT} {r : Nat} (hm : m = r + 1) (hx0 : ∀ q, q < m → lo q < hx q) (hg : ∀ q, q < m → g q = lo q) (hf : ∀ q, m ≤ q → f q = g q) : en (vr lo hx) gd m f = cur lo hx gd m r g := by
  rw [en_cg hL m f g hf]
  subst hm
  unfold cur
  rw [en, af_st (by omega), af_top, List.append_nil, show vr lo hx r = lo r :: rg (lo r + 1) (hx r) from rg_cons (hx0 r (by omega)), List.flatMap_cons, fup_id (hg r (by omega)), hg r (by omega)]
  rfl
/-- a number for a setting -/
def cdr (f : fT) : Nat → Nat
  | 0 => 0
  | m + 1 => cdr f m + f m * 6 ^ m
theorem cdr_lt {f : fT} : ∀ m, (∀ q, q < m → f q < 6) → cdr f m < 6 ^ m
  | 0, _ => Nat.zero_lt_one
  | m + 1, h => by
    unfold cdr
    have h1 := cdr_lt m (fun q hq => h q (by omega))
    have h2 : f m * 6 ^ m ≤ 5 * 6 ^ m := Nat.mul_le_mul_right _ (by have := h m (by omega); omega)
    rw [Nat.pow_succ]
    omega
theorem cdr_tn {f : fT} {r : Nat} (h : ∀ q, q < r → f q < 6) : ∀ m, r < m → cdr f m < cdr (tn lo f r) m
  | 0, h0 => absurd h0 (Nat.not_lt_zero _)
  | m + 1, hm => by
    unfold cdr
    by_cases e : m = r
    · subst e
      have := cdr_lt m h
      rw [tn_eq, Nat.add_mul, Nat.one_mul]
      omega
    · rw [tn_gt (by omega)]
      have := cdr_tn h m (by omega)
      omega
end PW
