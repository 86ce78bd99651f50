/-! lists -/
abbrev lsT : Type := Nat → Int32
abbrev itT : Type := Nat → Nat → Int64
def LsAt (c : gm) (r1 r2 : Nat) (ls : lsT) (it : itT) : Prop := (∀ j, j < 3 → c.1 r1 j = ls j ∧ (ls j = -1 ∨ ∃ q, q ≤ 12 ∧ ls j = nI q)) ∧ ∀ j q i, j < 3 → ls j = nI q → q ≤ 12 → i < q → c.2.1 r2 (12 * j + i) = it j i
theorem LsAt.fr {c c' : gm} {r1 r2 : Nat} {ls : lsT} {it : itT} {l : List Nat} (h : LsAt c r1 r2 ls it) (hf : Fr l c c') (h1 : r1 ∉ l) (h2 : r2 ∉ l) : LsAt c' r1 r2 ls it := ⟨fun j hj => by rw [hf.i h1]; exact h.1 j hj, fun j q i hj hq h12 hi => by rw [hf.l h2]; exact h.2 j q i hj hq h12 hi⟩
def lsS (ls : lsT) (j : Nat) (x : Int32) : lsT := fun i => if i = j then x else ls i
def itS (it : itT) (j : Nat) (f : Nat → Int64) : itT := fun i => if i = j then f else it i
/-- 0 .. s less 1 -/
def inS (x s : Int32) : Bool := decide (0 ≤ x.toInt ∧ x.toInt < s.toInt)
theorem inS_nI {x : Int32} {q : Nat} (hq : q < 2 ^ 31) : inS x (nI q) = inR x 0 q := by
  unfold inS inR
  rw [nI_toInt hq]
theorem inS_m1 {x : Int32} : inS x (-1) = false := by
  unfold inS
  have : (-1 : Int32).toInt = -1 := rfl
  exact decide_eq_false (by omega)
theorem i0 {x : Int32} : x < 0 ↔ x.toInt < 0 := Int32.lt_iff_toInt_lt
def lst0 (l x : Int32) : Option Int32 := if inR l 0 (3 : Nat) = true then (if x ≤ nI 12 then (if -1 ≤ x then none else some (-14)) else some (-2)) else some (-1)
def put0 (ls : lsT) (l x : Int32) : Option Int32 := if inR l 0 (3 : Nat) = true then (if ls (w l) = -1 then some (-11) else if inS x (ls (w l)) = true then none else some (-13)) else some (-1)
def sp_gt (ls : lsT) (it : itT) (l x : Int32) : Int64 := if inR l 0 (3 : Nat) = true then (if inS x (ls (w l)) = true then it (w l) (w x) else -9223372036854775808) else -9223372036854775808
theorem ls_ok {x : Int32} (h1 : x ≤ nI 12) (h2 : -1 ≤ x) : x = -1 ∨ ∃ q, q ≤ 12 ∧ x = nI q := by
  rcases ge_m1 h2 with e | ⟨q, hq, e⟩
  · exact Or.inl e
  · subst e
    exact Or.inr ⟨q, (nI_leI hq (by decide)).mp h1, rfl⟩
section LI
variable {E : gk_E} {dd : Nat} {c : gm} {ls : lsT} {it : itT}
theorem LsAt.list {c' : gm} {r1 r2 j : Nat} {x : Int32} (h : LsAt c r1 r2 ls it) (hj : j < 3) (h1 : x = -1 ∨ ∃ q, q ≤ 12 ∧ x = nI q) (hi : ∀ i, i < 3 → c'.1 r1 i = if i = j then x else c.1 r1 i) (hl : ∀ k, (k < 12 * j ∨ 12 * j + 12 ≤ k) → c'.2.1 r2 k = c.2.1 r2 k) (hz : ∀ q, x = nI q → q ≤ 12 → ∀ i, i < q → c'.2.1 r2 (12 * j + i) = lN 0) : LsAt c' r1 r2 (lsS ls j x) (itS it j (fun _ => lN 0)) := by
  refine ⟨fun i hi3 => ?_, fun i q m hi3 hq h12 hm => ?_⟩
  · rw [hi i hi3]
    unfold lsS
    by_cases e : i = j
    · rw [if_pos e, if_pos e]; exact ⟨rfl, h1⟩
    · rw [if_neg e, if_neg e]; exact h.1 i hi3
  · unfold lsS at hq
    unfold itS
    by_cases e : i = j
    · rw [if_pos e] at hq ⊢
      subst e
      exact hz q hq h12 m hm
    · rw [if_neg e] at hq ⊢
      rw [hl _ (by omega)]
      exact h.2 i q m hi3 hq h12 hm
theorem c_list (hL : LsAt c 62 63 ls it) {l x : Int32} {K : Int32 → gk_H → Prop} (k1 : ∀ r, lst0 l x = some r → K r (Hm c)) (k2 : lst0 l x = none → ∀ c', Fr [62, 63] c c' → LsAt c' 62 63 (lsS ls (w l) x) (itS it (w l) (fun _ => lN 0)) → K (nI 1) (Hm c')) : RnI E mX11_list (dd + 1, 0, 0) [.ref 0, .int l, .int x] (Hm c) K := by
  refine vX11_list_0 (c_isList (rngN (by decide) (fun j hj hx h => ⟨fun e => ⟨fun e2 => ldR l0 rfl ?_, fun e2 => k1 _ (by unfold lst0; rw [if_pos h, if_pos e, if_neg e2])⟩, fun e => k1 _ (by unfold lst0; rw [if_pos h, if_neg e])⟩) (fun h => k1 _ (by unfold lst0; rw [if_neg (by rw [h]; decide)]))))
  have k2 := k2 (by unfold lst0; rw [if_pos h, if_pos e, if_pos e2])
  subst hx
  rw [w_nI (by omega)] at k2
  refine asI l62 hj (by decide) ?_
  have ok := ls_ok e e2
  have fin : ∀ m, (x = -1 ∧ m = 0 ∨ m ≤ 12 ∧ x = nI m) → pX11_list_35 E dd 0 (nI j) x (nI 0) (Hm (mI c 62 j x)) K := by
    intro m hm
    refine down (P := fun a => ∀ c', Fr [63] (mI c 62 j x) c' → (∀ k, (k < 12 * j ∨ 12 * j + 12 ≤ k) → c'.2.1 63 k = c.2.1 63 k) → (∀ i, i < a → c'.2.1 63 (12 * j + i) = lN 0) → pX11_list_35 E dd 0 (nI j) x (nI a) (Hm c') K) m ?_ ?_ 0 (Nat.zero_le _) _ Fr.rf (fun _ _ => rfl) (fun i hi => absurd hi (by omega))
    · intro c' hf h1 h2
      refine vX11_list_35 ⟨fun _ => k2 c' ((Fr.rf.mI (r := 62) (k := j) (x := x) (by simp)).trans (hf.mono (by simp))) (hL.list hj ok (fun i hi => ?_) h1 (fun q hq h12 i hi => ?_)), fun e3 => absurd ?_ e3⟩
      · rw [hf.i (by decide)]
        by_cases e : i = j
        · subst e; rw [if_pos rfl, mI_s]
        · rw [if_neg e, mI_n (by omega)]
      · rcases hm with ⟨h3, h4⟩ | ⟨h3, h4⟩
        · rw [h3] at hq; exact absurd hq.symm (nI_ne1 (by omega))
        · rw [h4] at hq
          have := (nI_eq (by omega) (by omega)).mp hq
          exact h2 i (by omega)
      · rcases hm with ⟨h3, h4⟩ | ⟨h3, h4⟩
        · rw [h3, h4]; decide
        · rw [h4]; exact (nI_leI (by omega) (by omega)).mpr (Nat.le_refl _)
    · intro a ha ih c' hf h1 h2
      have hm' : m ≤ 12 ∧ x = nI m := hm.resolve_left (fun z => by omega)
      rw [hm'.2] at ih ⊢
      refine vX11_list_35 (bLe (fun z => absurd z (by omega)) (fun _ => ldR l0 rfl ?_))
      rw [pk_mul, nI_add, nI_add]
      refine asL l63 (by omega) (by decide) (ih _ ?_ (fun k hk => ?_) (fun i hi => ?_))
      · rw [hm'.2] at hf; exact hf.mL (by simp)
      · rw [mL_n (by omega)]; exact h1 k hk
      · by_cases e : i = a
        · subst e; exact mL_s
        · rw [mL_n (by omega)]; exact h2 i (by omega)
  rcases ok with e3 | ⟨q, hq, e3⟩
  · exact fin 0 (Or.inl ⟨e3, rfl⟩)
  · exact fin q (Or.inr ⟨hq, e3⟩)
theorem n_isList {x : Int32} {h : gk_H} {K : Int32 → gk_H → Prop} (k : K (bI (inR x 0 (3 : Nat))) h) : RnI E mX12_isList (dd + 1, 0, 0) [.int x] h K := vX12_isList_0 (n_isFrom (lo := 0) (hi := 2) (by decide) (by decide) ⟨bI_bz _, k⟩)
theorem n_list (hL : LsAt c 75 76 ls it) {l x : Int32} {K : Int32 → gk_H → Prop} (k1 : ∀ r, lst0 l x = some r → K r (Hm c)) (k2 : lst0 l x = none → ∀ c', Fr [75, 76] c c' → LsAt c' 75 76 (lsS ls (w l) x) (itS it (w l) (fun _ => lN 0)) → K (nI 1) (Hm c')) : RnI E mX12_list (dd + 2, 0, 0) [.ref 68, .int l, .int x] (Hm c) K := by
  refine vX12_list_0 (n_isList (rngN (by decide) (fun j hj hx h => ⟨fun e => ⟨fun e2 => ldR l68 rfl ?_, fun e2 => k1 _ (by unfold lst0; rw [if_pos h, if_pos e, if_neg e2])⟩, fun e => k1 _ (by unfold lst0; rw [if_pos h, if_neg e])⟩) (fun h => k1 _ (by unfold lst0; rw [if_neg (by rw [h]; decide)]))))
  have k2 := k2 (by unfold lst0; rw [if_pos h, if_pos e, if_pos e2])
  subst hx
  rw [w_nI (by omega)] at k2
  refine asI l75 hj (by decide) ?_
  refine down (P := fun a => ∀ c', Fr [76] (mI c 75 j x) c' → (∀ k, (k < 12 * j ∨ 12 * j + 12 ≤ k) → c'.2.1 76 k = c.2.1 76 k) → (∀ i, i < a → c'.2.1 76 (12 * j + i) = lN 0) → pX12_list_35 E (dd + 1) 68 (nI j) x (nI a) (Hm c') K) 12 ?_ ?_ 0 (Nat.zero_le _) _ Fr.rf (fun _ _ => rfl) (fun i hi => absurd hi (by omega))
  · intro c' hf h1 h2
    refine vX12_list_35 (bLe (fun _ => k2 c' ((Fr.rf.mI (r := 75) (k := j) (x := x) (by simp)).trans (hf.mono (by simp))) (hL.list hj (ls_ok e e2) (fun i hi => ?_) h1 (fun q hq h12 i hi => h2 i (by omega)))) (fun z => absurd z (by omega)))
    rw [hf.i (by decide)]
    by_cases e : i = j
    · subst e; rw [if_pos rfl, mI_s]
    · rw [if_neg e, mI_n (by omega)]
  · intro a ha ih c' hf h1 h2
    refine vX12_list_35 (bLe (fun z => absurd z (by omega)) (fun _ => ldR l68 rfl ?_))
    rw [pk_mul, nI_add, nI_add]
    refine asL l76 (by omega) (by decide) (ih _ (hf.mL (by simp)) (fun k hk => ?_) (fun i hi => ?_))
    · rw [mL_n (by omega)]; exact h1 k hk
    · by_cases e : i = a
      · subst e; exact mL_s
      · rw [mL_n (by omega)]; exact h2 i (by omega)
/-- one item more -/
def itP (it : itT) (j p : Nat) (v : Int64) : itT := fun i m => if i = j ∧ m = p then v else it i m
theorem LsAt.put {r1 r2 j p : Nat} {v : Int64} (h : LsAt c r1 r2 ls it) (hp : p < 12) : LsAt (mL c r2 (12 * j + p) v) r1 r2 ls (itP it j p v) := by
  refine ⟨h.1, fun i q m hi3 hq h12 hm => ?_⟩
  unfold itP
  by_cases e : i = j ∧ m = p
  · rw [if_pos e, e.1, e.2]; exact mL_s
  · rw [if_neg e, mL_n (by omega)]
    exact h.2 i q m hi3 hq h12 hm
theorem inS_ok {x : Int32} {s : Int32} (hs : s = -1 ∨ ∃ q, q ≤ 12 ∧ s = nI q) (h : inS x s = true) : ∃ q p, s = nI q ∧ q ≤ 12 ∧ p < q ∧ x = nI p := by
  rcases hs with e | ⟨q, hq, e⟩
  · rw [e, inS_m1] at h; exact absurd h (by decide)
  · subst e
    rw [inS_nI (by omega)] at h
    obtain ⟨p, hp, rfl⟩ := inR_nI (by omega) h
    exact ⟨q, p, rfl, hq, hp, rfl⟩
theorem inS_cl {x s : Int32} {A B : Prop} (f : inS x s = false → A) (g : inS x s = true → B) : (x < 0 → A) ∧ (¬ x < 0 → (x < s → B) ∧ (¬ x < s → A)) := by
  have h0 : (0 : Int32).toInt = 0 := rfl
  unfold inS at f g
  refine ⟨fun h => f (decide_eq_false ?_), fun h => ⟨fun h2 => g (decide_eq_true ?_), fun h2 => f (decide_eq_false ?_)⟩⟩
  · rw [Int32.lt_iff_toInt_lt] at h; omega
  · rw [Int32.lt_iff_toInt_lt] at h h2; omega
  · rw [Int32.lt_iff_toInt_lt] at h h2; omega
/-- the reference's check against a size -/
theorem n_inS {x s : Int32} (hs : s = -1 ∨ ∃ q, q < 2 ^ 30 ∧ s = nI q) {h : gk_H} {K : Int32 → gk_H → Prop} (k : K (bI (inS x s)) h) : RnI E mX12_isFrom (dd, 0, 0) [.long x.toInt64, .long (lN 0), .long (s - nI 1).toInt64] h K := by
  refine m_isFrom ?_
  rw [ti64, ti64, show (lN 0).toInt = 0 from rfl]
  have e : decide (0 ≤ x.toInt ∧ x.toInt ≤ (s - nI 1).toInt) = inS x s := by
    unfold inS
    congr 1
    apply propext
    rcases hs with e | ⟨q, hq, e⟩
    · subst e
      have h1 : (-1 - nI 1 : Int32).toInt = -2 := rfl
      have h2 : (-1 : Int32).toInt = -1 := rfl
      omega
    · subst e
      rw [pk_sub_toInt (by omega) (by decide), nI_toInt (by omega)]
      omega
  rw [e]
  exact k
theorem c_put (hL : LsAt c 62 63 ls it) {l x : Int32} {v : Int64} {K : Int32 → gk_H → Prop} (k1 : ∀ r, put0 ls l x = some r → K r (Hm c)) (k2 : put0 ls l x = none → ∀ c', Fr [63] c c' → LsAt c' 62 63 ls (itP it (w l) (w x) v) → K (nI 1) (Hm c')) : RnI E mX11_put (dd + 1, 0, 0) [.ref 0, .int l, .int x, .long v] (Hm c) K := by
  refine vX11_put_0 (c_isList (rngN (by decide) (fun j hj hx h => ldR l0 rfl ?_) (fun h => k1 _ (by unfold put0; rw [if_neg (by rw [h]; decide)]))))
  subst hx
  obtain ⟨hj1, hj2⟩ := hL.1 j hj
  have e0 : put0 ls (nI j) x = if ls j = -1 then some (-11) else if inS x (ls j) = true then none else some (-13) := by unfold put0; rw [if_pos h, w_nI (by omega)]
  refine alI l62 hj (by decide) ?_
  rw [hj1]
  have hneg : ¬ 0 ≤ ls j → ls j = -1 := fun e => by
    rcases hj2 with z | ⟨q, hq, z⟩
    · exact z
    · rw [z] at e; exact absurd (Int32.le_iff_toInt_le.mpr (by rw [nI_toInt (by omega)]; exact Int.natCast_nonneg q)) e
  refine ⟨fun e => ?_, fun e => k1 _ (by rw [e0, if_pos (hneg e)])⟩
  · have hne : ¬ ls j = -1 := fun z => by rw [z] at e; exact absurd e (by decide)
    rw [if_neg hne] at e0
    have := inS_cl (x := x) (s := ls j) (A := K (-13) (Hm c)) (B := LdR (Hm c) 0 10 9 fun v6 => AsL (Hm c) v6 (nI 12 * nI j + x) v fun h7 => K (nI 1) h7) (fun e2 => k1 _ (by rw [e0, e2]; rfl)) (fun e2 => ldR l0 rfl ?_)
    · refine ⟨this.1, fun z => ldR l0 rfl (alI l62 hj (by decide) ?_)⟩
      rw [hj1]
      exact this.2 z
    · rw [e2, if_pos rfl] at e0
      have k2 := k2 e0
      obtain ⟨q, p, h1, h2, h3, rfl⟩ := inS_ok hj2 e2
      rw [w_nI (by omega), w_nI (by omega)] at k2
      rw [pk_mul, nI_add]
      exact asL l63 (by omega) (by decide) (k2 _ (Fr.rf.mL (by simp)) (hL.put (by omega)))
theorem n_put (hL : LsAt c 75 76 ls it) {l x : Int32} {v : Int64} {K : Int32 → gk_H → Prop} (k1 : ∀ r, put0 ls l x = some r → K r (Hm c)) (k2 : put0 ls l x = none → ∀ c', Fr [76] c c' → LsAt c' 75 76 ls (itP it (w l) (w x) v) → K (nI 1) (Hm c')) : RnI E mX12_put (dd + 2, 0, 0) [.ref 68, .int l, .int x, .long v] (Hm c) K := by
  refine vX12_put_0 (n_isList (rngN (by decide) (fun j hj hx h => ldR l68 rfl ?_) (fun h => k1 _ (by unfold put0; rw [if_neg (by rw [h]; decide)]))))
  subst hx
  obtain ⟨hj1, hj2⟩ := hL.1 j hj
  have e0 : put0 ls (nI j) x = if ls j = -1 then some (-11) else if inS x (ls j) = true then none else some (-13) := by unfold put0; rw [if_pos h, w_nI (by omega)]
  refine alI l75 hj (by decide) ?_
  rw [hj1]
  refine ⟨fun e => ldR l68 rfl (alI l75 hj (by decide) ?_), fun e => k1 _ (by rw [e0, if_pos e])⟩
  rw [hj1]
  rw [if_neg e] at e0
  refine n_inS (by rcases hj2 with z | ⟨q, hq, z⟩; exact Or.inl z; exact Or.inr ⟨q, by omega, z⟩) (bBn (fun e2 => ldR l68 rfl ?_) (fun e2 => k1 _ (by rw [e0, e2]; rfl)))
  rw [e2, if_pos rfl] at e0
  have k2 := k2 e0
  obtain ⟨q, p, h1, h2, h3, rfl⟩ := inS_ok hj2 e2
  rw [w_nI (by omega), w_nI (by omega)] at k2
  rw [pk_mul, nI_add]
  exact asL l76 (by omega) (by decide) (k2 _ (Fr.rf.mL (by simp)) (hL.put (by omega)))
theorem c_get (hL : LsAt c 62 63 ls it) {l x : Int32} {K : Int64 → gk_H → Prop} (k : K (sp_gt ls it l x) (Hm c)) : RnL E mX11_get (dd + 1, 0, 0) [.ref 0, .int l, .int x] (Hm c) K := by
  refine vX11_get_0 (c_isList (rng (by decide) (fun h => ?_) (fun j hj hx h => ?_)))
  · rw [sp_gt, if_neg (by rw [h]; decide)] at k; exact k
  · subst hx
    obtain ⟨hj1, hj2⟩ := hL.1 j hj
    rw [sp_gt, if_pos h, w_nI (by omega)] at k
    have := inS_cl (x := x) (s := ls j) (A := K (-9223372036854775808) (Hm c)) (B := LdR (Hm c) 0 10 9 fun v4 => AlL (Hm c) v4 (nI 12 * nI j + x) fun v5 => K v5 (Hm c)) (fun e2 => by rw [e2] at k; exact k) (fun e2 => ldR l0 rfl ?_)
    · refine ⟨this.1, fun z => ldR l0 rfl (alI l62 hj (by decide) ?_)⟩
      rw [hj1]
      exact this.2 z
    · rw [if_pos e2] at k
      obtain ⟨q, p, h1, h2, h3, rfl⟩ := inS_ok hj2 e2
      rw [w_nI (by omega)] at k
      rw [pk_mul, nI_add]
      refine alL l63 (by omega) (by decide) ?_
      rw [hL.2 j q p hj h1 h2 h3]
      exact k
theorem n_get (hL : LsAt c 75 76 ls it) {l x : Int32} {K : Int64 → gk_H → Prop} (k : K (sp_gt ls it l x) (Hm c)) : RnL E mX12_get (dd + 2, 0, 0) [.ref 68, .int l, .int x] (Hm c) K := by
  refine vX12_get_0 (n_isList (rng (by decide) (fun h => ?_) (fun j hj hx h => ldR l68 rfl ?_)))
  · rw [sp_gt, if_neg (by rw [h]; decide)] at k; exact k
  · subst hx
    obtain ⟨hj1, hj2⟩ := hL.1 j hj
    rw [sp_gt, if_pos h, w_nI (by omega)] at k
    refine alI l75 hj (by decide) ?_
    rw [hj1]
    refine n_inS (by rcases hj2 with z | ⟨q, hq, z⟩; exact Or.inl z; exact Or.inr ⟨q, by omega, z⟩) (bB0 (fun e2 => ?_) (fun e2 => ldR l68 rfl ?_))
    · rw [e2] at k; exact k
    · rw [if_pos e2] at k
      obtain ⟨q, p, h1, h2, h3, rfl⟩ := inS_ok hj2 e2
      rw [w_nI (by omega)] at k
      rw [pk_mul, nI_add]
      refine alL l76 (by omega) (by decide) ?_
      rw [hL.2 j q p hj h1 h2 h3]
      exact k
end LI
