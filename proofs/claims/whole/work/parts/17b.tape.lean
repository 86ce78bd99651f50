/-! feed, wipe -/
def TpC (c : gm) (r t : Nat) (tb : Nat → Nat) : Prop := c.1 r 0 = nI t ∧ t ≤ 100 ∧ ∀ i, i < t → c.1 (r + 1) i = nI (tb i)
def TpM (c : gm) (t : Nat) (tb : Nat → Nat) : Prop := c.1 68 20 = nI t ∧ ∀ i, i < t → c.1 79 i = nI (tb i)
def TpV (t : Nat) (tb : Nat → Nat) : Prop := t ≤ 100 ∧ ∀ i, i < t → 32 ≤ tb i ∧ tb i ≤ 126
def isTp (r : Nat) : Prop := lay[r]? = some (.inl (9, [(0, 0), (2, r + 1)])) ∧ lay[r + 1]? = some (.inr (2, 100, []))
theorem isTp_64 : isTp 64 := ⟨l64, l65⟩
theorem isTp_66 : isTp 66 := ⟨l66, l67⟩
theorem by8 : ∀ v, v < 128 → (nI v).toInt8.toInt32 = nI v := by decide +kernel
theorem TpV.feed {t v : Nat} {tb : Nat → Nat} (h : TpV t tb) (ht : t < 100) (h1 : 32 ≤ v) (h2 : v ≤ 126) : TpV (t + 1) (fset tb t v) := ⟨by omega, fun i hi => by
  unfold fset
  split
  · exact ⟨h1, h2⟩
  · exact h.2 i (by omega)⟩
section TP
variable {E : gk_E} {dd : Nat} {c : gm} {t : Nat} {tb : Nat → Nat}
theorem c_append {r : Nat} (hr : isTp r) (hT : TpC c r t tb) (ht : t < 100) {v : Nat} (hv : v < 128) {K : gk_H → Prop} (k : ∀ c', Fr [r, r + 1] c c' → TpC c' r (t + 1) (fset tb t v) → K (Hm c')) : RnV E mX9_append (dd, 0, 0) [.ref r, .int (nI v)] (Hm c) K := by
  refine vX9_append_0 (ldI hr.1 rfl ?_)
  rw [hT.1]
  refine bLe (fun e => absurd e (by omega)) (fun _ => ldR hr.1 rfl (ldI hr.1 rfl ?_))
  rw [hT.1]
  refine asB hr.2 (by omega) (by decide) (ldI hr.1 rfl (stI hr.1 rfl ?_))
  rw [mI_n (by omega), hT.1, nI_add, vp_nar_byte, by8 v hv, by8 v hv]
  refine k _ ((Fr.rf.mI (by simp)).mI (by simp)) ⟨mI_s, by omega, fun i hi => ?_⟩
  rw [mI_n (by omega)]
  unfold fset
  by_cases e : i = t
  · rw [if_pos e, e, mI_s]
  · rw [if_neg e, mI_n (by omega)]; exact hT.2.2 i (by omega)
def fd0 (t : Nat) (x : Int32) : Option Int32 := if inR x (32 : Nat) (127 : Nat) = true then (if t < 100 then none else some (-4)) else some (-2)
theorem fd_nI {x : Int32} (h : inR x (32 : Nat) (127 : Nat) = true) : 32 ≤ w x ∧ w x ≤ 126 ∧ x = nI (w x) := by
  obtain ⟨h1, h2⟩ := of_decide_eq_true h
  obtain ⟨j, hj, rfl⟩ := inR_nI (x := x) (n := 127) (by decide) (decide_eq_true ⟨by omega, h2⟩)
  rw [nI_toInt (by omega)] at h1
  rw [w_nI (by omega)]
  exact ⟨by omega, by omega, rfl⟩
theorem c_feed (hT : TpC c 64 t tb) {x : Int32} {K : Int32 → gk_H → Prop} (k1 : ∀ r, fd0 t x = some r → K r (Hm c)) (k2 : fd0 t x = none → ∀ c', Fr [64, 65] c c' → TpC c' 64 (t + 1) (fset tb t (w x)) → K (nI (t + 1)) (Hm c')) : RnI E mX11_feed (dd + 1, 0, 0) [.ref 0, .int x] (Hm c) K := by
  have h100 := hT.2.1
  refine vX11_feed_0 ⟨fun e => k1 _ (by unfold fd0; rw [inR_lo e (by decide)]; rfl), fun e => ⟨fun e2 => ldR l0 rfl (ldI l64 rfl ?_), fun e2 => k1 _ (by
    unfold fd0
    rw [inR_hi (n := 127) ?_ (by decide)]; rfl
    rw [Int32.le_iff_toInt_le, nI_toInt (by decide)] at e2 ⊢
    omega)⟩⟩
  have hx : inR x (32 : Nat) (127 : Nat) = true := inR_ok e (fun z => by rw [Int32.le_iff_toInt_le, nI_toInt (by decide)] at e2 z; omega) (by decide) (by decide)
  rw [hT.1]
  refine bLt (fun e3 => ldR l0 rfl ⟨obj l64, ?_⟩) (fun e3 => k1 _ (by unfold fd0; rw [if_pos hx, if_neg (by omega)]))
  have k2 := k2 (by unfold fd0; rw [if_pos hx, if_pos e3])
  obtain ⟨h1, h2, h3⟩ := fd_nI hx
  rw [h3]
  refine c_append isTp_64 hT e3 (by omega) (fun c' f' t' => ldR l0 rfl (ldI l64 rfl ?_))
  rw [t'.1]
  exact k2 c' f' t'
theorem n_feed (hT : TpM c t tb) (h100 : t ≤ 100) {x : Int32} {K : Int32 → gk_H → Prop} (k1 : ∀ r, fd0 t x = some r → K r (Hm c)) (k2 : fd0 t x = none → ∀ c', F8 [79] [20] c c' → TpM c' (t + 1) (fset tb t (w x)) → K (nI (t + 1)) (Hm c')) : RnI E mX12_feed (dd + 1, 0, 0) [.ref 68, .int x] (Hm c) K := by
  refine vX12_feed_0 (n_isFrom (lo := 32) (hi := 126) (by decide) (by decide) (bBn (fun hx => ldI l68 rfl ?_) (fun hx => k1 _ (by unfold fd0; rw [if_neg (by rw [show inR x (32 : Nat) (127 : Nat) = false from hx]; decide)]))))
  rw [hT.1]
  refine bNe (fun e3 => ldR l68 rfl (ldI l68 rfl ?_)) (fun e3 => k1 _ (by unfold fd0; rw [if_pos hx, if_neg (by omega)]))
  have k2 := k2 (by unfold fd0; rw [if_pos hx, if_pos (by omega)])
  obtain ⟨h1, h2, h3⟩ := fd_nI hx
  rw [hT.1]
  refine asI l79 (by omega) (by decide) (ldI l68 rfl (stI l68 rfl (ldI l68 rfl ?_)))
  rw [mI_s, mI_n (r' := 68) (k' := 20) (c := c) (r := 79) (by omega), hT.1, nI_add]
  refine k2 _ ((F8.rf.put (by simp) (by decide)).slot (by simp)) ⟨mI_s, fun i hi => ?_⟩
  rw [mI_n (by omega)]
  unfold fset
  by_cases e : i = t
  · rw [if_pos e, e, mI_s]; exact h3
  · rw [if_neg e, mI_n (by omega)]; exact hT.2 i (by omega)
theorem c_wipe (hT : TpC c 64 t tb) {K : Int32 → gk_H → Prop} (k : ∀ c', Fr [64] c c' → TpC c' 64 0 tb → K (nI t) (Hm c')) : RnI E mX11_wipe (dd, 0, 0) [.ref 0] (Hm c) K := by
  refine vX11_wipe_0 (ldR l0 rfl (ldI l64 rfl (ldR l0 rfl (stI l64 rfl ?_))))
  rw [hT.1]
  exact k _ (Fr.rf.mI (by simp)) ⟨mI_s, by omega, fun i hi => absurd hi (by omega)⟩
theorem n_wipe (hT : TpM c t tb) {K : Int32 → gk_H → Prop} (k : ∀ c', F8 [] [20] c c' → TpM c' 0 tb → K (nI t) (Hm c')) : RnI E mX12_wipe (dd, 0, 0) [.ref 68] (Hm c) K := by
  refine vX12_wipe_0 (ldI l68 rfl (stI l68 rfl ?_))
  rw [hT.1]
  exact k _ (F8.rf.slot (by simp)) ⟨mI_s, fun i hi => absurd hi (by omega)⟩
end TP
