/-! good tables; copy, sound -/
theorem ffrom_skip {α : Type} {n : Nat} {g : Nat → Option α} {i j : Nat} (hij : i ≤ j) (hj : j ≤ n) (h : ∀ k, i ≤ k → k < j → g k = none) : ffrom n g i = ffrom n g j := by
  induction hd : j - i generalizing i with
  | zero => rw [show i = j by omega]
  | succ d ih => rw [ffrom_none (by omega) (h i (Nat.le_refl _) (by omega))]; exact ih (by omega) (fun k h1 h2 => h k (by omega) h2) (by omega)
theorem ffrom_all {α : Type} {n : Nat} {g : Nat → Option α} {i : Nat} (h : ffrom n g i = none) : ∀ k, i ≤ k → k < n → g k = none := by
  intro k h1 h2
  unfold ffrom at h
  rw [List.findSome?_eq_none_iff] at h
  refine h k ?_
  rw [List.mem_iff_getElem]
  refine ⟨k - i, by simp; omega, ?_⟩
  rw [List.getElem_drop, List.getElem_range]
  omega
theorem ffrom_cg {α : Type} {n : Nat} {f g : Nat → Option α} {i : Nat} (h : ∀ k, i ≤ k → k < n → (∀ k', i ≤ k' → k' < k → f k' = none) → f k = g k) : ffrom n f i = ffrom n g i := by
  by_cases hi : i < n
  · induction hd : n - i generalizing i with
    | zero => omega
    | succ d ih =>
      have h0 := h i (Nat.le_refl _) hi (fun k' h1 h2 => absurd h1 (by omega))
      rw [ffrom_step f hi, ffrom_step g hi, h0]
      cases hg : g i with
      | some v => rfl
      | none =>
        simp only [Option.none_or]
        by_cases hi2 : i + 1 < n
        · refine ih (fun k h1 h2 h3 => h k (by omega) h2 (fun k' h4 h5 => ?_)) hi2 (by omega)
          by_cases e : k' = i
          · subst e; rw [h0]; exact hg
          · exact h3 k' (by omega) h5
        · rw [show i + 1 = n by omega, ffrom_end, ffrom_end]
  · unfold ffrom
    rw [List.drop_eq_nil_of_le (by simp; omega)]; rfl
/-- what a table keeps to -/
def Gd (n : Nat) (mir : Nat → Nat) (N : Nat) : Prop := (1 ≤ n) ∧ (n ≤ 4) ∧ (mir 0 = 0) ∧ (∀ a, a < n → mir a < n) ∧ (∀ a, n ≤ a → a < 4 → mir a = a) ∧ (∀ a, a < n → mir (mir a) = a) ∧ (∀ a b z, a < 4 → b < 4 → z < 4 → N.testBit (ix a b z) = true → a < n ∧ b < n ∧ z < n) ∧ (N < 2 ^ 64) ∧ (∀ b z, b < n → z < n → N.testBit (ix 0 b z) = decide (b = z)) ∧ (∀ a z, a < n → z < n → N.testBit (ix a 0 z) = decide (a = z)) ∧ (∀ a b, a < n → b < n → N.testBit (ix a b 0) = decide (b = mir a)) ∧ (∀ a b z, a < n → b < n → z < n → N.testBit (ix (mir a) z b) = N.testBit (ix a b z)) ∧ (∀ a b z, a < n → b < n → z < n → N.testBit (ix z (mir b) a) = N.testBit (ix a b z))
theorem Gd.n1 {n : Nat} {mir : Nat → Nat} {N : Nat} (h : Gd n mir N) : 1 ≤ n := h.1
theorem Gd.n4 {n : Nat} {mir : Nat → Nat} {N : Nat} (h : Gd n mir N) : n ≤ 4 := h.2.1
theorem Gd.m0 {n : Nat} {mir : Nat → Nat} {N : Nat} (h : Gd n mir N) : mir 0 = 0 := h.2.2.1
theorem Gd.ml {n : Nat} {mir : Nat → Nat} {N : Nat} (h : Gd n mir N) : ∀ a, a < n → mir a < n := h.2.2.2.1
theorem Gd.mh {n : Nat} {mir : Nat → Nat} {N : Nat} (h : Gd n mir N) : ∀ a, n ≤ a → a < 4 → mir a = a := h.2.2.2.2.1
theorem Gd.mm {n : Nat} {mir : Nat → Nat} {N : Nat} (h : Gd n mir N) : ∀ a, a < n → mir (mir a) = a := h.2.2.2.2.2.1
theorem Gd.in_ {n : Nat} {mir : Nat → Nat} {N : Nat} (h : Gd n mir N) : ∀ a b z, a < 4 → b < 4 → z < 4 → N.testBit (ix a b z) = true → a < n ∧ b < n ∧ z < n := h.2.2.2.2.2.2.1
theorem Gd.lt {n : Nat} {mir : Nat → Nat} {N : Nat} (h : Gd n mir N) : N < 2 ^ 64 := h.2.2.2.2.2.2.2.1
theorem Gd.f1 {n : Nat} {mir : Nat → Nat} {N : Nat} (h : Gd n mir N) : ∀ b z, b < n → z < n → N.testBit (ix 0 b z) = decide (b = z) := h.2.2.2.2.2.2.2.2.1
theorem Gd.f2 {n : Nat} {mir : Nat → Nat} {N : Nat} (h : Gd n mir N) : ∀ a z, a < n → z < n → N.testBit (ix a 0 z) = decide (a = z) := h.2.2.2.2.2.2.2.2.2.1
theorem Gd.f3 {n : Nat} {mir : Nat → Nat} {N : Nat} (h : Gd n mir N) : ∀ a b, a < n → b < n → N.testBit (ix a b 0) = decide (b = mir a) := h.2.2.2.2.2.2.2.2.2.2.1
theorem Gd.t1 {n : Nat} {mir : Nat → Nat} {N : Nat} (h : Gd n mir N) : ∀ a b z, a < n → b < n → z < n → N.testBit (ix (mir a) z b) = N.testBit (ix a b z) := h.2.2.2.2.2.2.2.2.2.2.2.1
theorem Gd.t2 {n : Nat} {mir : Nat → Nat} {N : Nat} (h : Gd n mir N) : ∀ a b z, a < n → b < n → z < n → N.testBit (ix z (mir b) a) = N.testBit (ix a b z) := h.2.2.2.2.2.2.2.2.2.2.2.2
theorem Gd.m4 {n : Nat} {mir : Nat → Nat} {N : Nat} (h : Gd n mir N) : ∀ a, a < 4 → mir a < 4 := fun a ha => by
  have := h.n4
  by_cases e : a < n
  · have := h.ml a e; omega
  · rw [h.mh a (by omega) ha]; exact ha
theorem Gd.t3 {n : Nat} {mir : Nat → Nat} {N : Nat} (h : Gd n mir N) : ∀ a b z, a < n → b < n → z < n → N.testBit (ix (mir b) (mir a) (mir z)) = N.testBit (ix a b z) := fun a b z ha hb hz => by
  rw [h.t1 b (mir z) (mir a) hb (h.ml z hz) (h.ml a ha), h.t2 (mir a) z b (h.ml a ha) hz hb, h.t1 a b z ha hb hz]
/-- a three of nodes goes -/
def Tr (N : Nat) (lab : Nat → Nat → Nat) (i j k : Nat) : Bool := N.testBit (ix (lab i j) (lab j k) (lab i k))
theorem usK_none {N : Nat} {lab : Nat → Nat → Nat} {i j k : Nat} : usK N lab i j k = none ↔ Tr N lab i j k = true := by
  unfold usK Tr
  split
  · rename_i h; simp [h]
  · rename_i h; simp [h]
section SO
variable {n N s : Nat} {mir : Nat → Nat} {lab : Nat → Nat → Nat}
theorem Tr_12 (h : Gd n mir N) (hv : Vl n mir s lab) {i j k : Nat} (hi : i < s) (hj : j < s) (hk : k < s) : Tr N lab j i k = Tr N lab i j k := by
  unfold Tr
  rw [(hv i j hi hj).2.2]
  exact h.t1 _ _ _ (hv i j hi hj).1 (hv j k hj hk).1 (hv i k hi hk).1
theorem Tr_23 (h : Gd n mir N) (hv : Vl n mir s lab) {i j k : Nat} (hi : i < s) (hj : j < s) (hk : k < s) : Tr N lab i k j = Tr N lab i j k := by
  unfold Tr
  rw [(hv j k hj hk).2.2]
  exact h.t2 _ _ _ (hv i j hi hj).1 (hv j k hj hk).1 (hv i k hi hk).1
theorem Tr_eq (h : Gd n mir N) (hv : Vl n mir s lab) {i k : Nat} (hi : i < s) (hk : k < s) : Tr N lab i i k = true := by
  unfold Tr
  rw [hv.z i hi, h.f1 _ _ (hv i k hi hk).1 (hv i k hi hk).1]
  simp
/-- the same, over all threes of nodes -/
def usA (N s : Nat) (lab : Nat → Nat → Nat) : Option Nat := ffrom s (fun i => ffrom s (fun j => ffrom s (usK N lab i j) 0) 0) 0
theorem usA_eq (h : Gd n mir N) (hv : Vl n mir s lab) : usA N s lab = usF N s lab := by
  unfold usA usF
  refine ffrom_cg (fun i _ hi hp => ?_)
  have hlow : ∀ i' j k, i' < i → j < s → k < s → Tr N lab i' j k = true := fun i' j k h1 h2 h3 => usK_none.mp (ffrom_all (ffrom_all (hp i' (Nat.zero_le _) h1) j (Nat.zero_le _) h2) k (Nat.zero_le _) h3)
  rw [ffrom_skip (j := i + 1) (Nat.zero_le _) (by omega) (fun j _ hj => ?_)]
  · refine ffrom_cg (fun j hj1 hj hq => ?_)
    refine ffrom_skip (Nat.zero_le _) (by omega) (fun k _ hk => usK_none.mpr ?_)
    by_cases e1 : k < i
    · rw [← Tr_23 h hv hi hj (by omega), ← Tr_12 h hv hi (by omega : k < s) hj]; exact hlow k i j e1 hi hj
    · by_cases e2 : k = i
      · subst e2
        rw [← Tr_23 h hv hi hj hi]; exact Tr_eq h hv hi hj
      · by_cases e3 : k = j
        · subst e3
          rw [← Tr_12 h hv hi hj hj, ← Tr_23 h hv hj hi hj]; exact Tr_eq h hv hj hi
        · rw [← Tr_23 h hv hi hj (by omega)]
          exact usK_none.mp (ffrom_all (hq k (by omega) (by omega)) j (Nat.zero_le _) hj)
  · rw [ffrom_skip (j := s) (Nat.zero_le _) (Nat.le_refl _) (fun k _ hk => usK_none.mpr ?_), ffrom_end]
    by_cases e1 : j < i
    · rw [← Tr_12 h hv hi (by omega : j < s) hk]; exact hlow j i k e1 hi hk
    · rw [show j = i by omega]; exact Tr_eq h hv hi hk
end SO
section NA
variable {E : gk_E} {dd : Nat} {c : gm} {n N : Nat} {mir : Nat → Nat} {sz : szT} {lb : lbT}
theorem n_unsound {i s : Nat} {lab : Nat → Nat → Nat} (hi6 : i < 6) (hG : Gd n mir N) (hM : MT c n mir N) (hN : MNet c i s lab) (hv : Vl n mir s lab) {K : Int32 → gk_H → Prop} (k : K (orN (usF N s lab)) (Hm c)) : RnI E mX12_unsound (dd + 1, 0, 0) [.ref 68, .int (nI i)] (Hm c) K := by
  have h6 := hN.2.1
  rw [← usA_eq hG hv] at k
  refine vX12_unsound_0 ?_
  refine down (P := fun a => K (orN (ffrom s (fun i => ffrom s (fun j => ffrom s (usK N lab i j) 0) 0) a)) (Hm c) → pX12_unsound_2 E dd 68 (nI i) (nI a) (Hm c) K) s ?_ ?_ 0 (Nat.zero_le _) k
  · intro k
    rw [ffrom_end] at k
    refine vX12_unsound_2 (ldR l68 rfl (alI l71 hi6 (by decide) ?_))
    rw [hN.1]
    exact bLe (fun _ => k) (fun h => absurd h (by omega))
  · intro a ha ih k
    refine vX12_unsound_2 (ldR l68 rfl (alI l71 hi6 (by decide) ?_))
    rw [hN.1]
    refine bLe (fun h => absurd h (by omega)) (fun _ => ?_)
    rw [ffrom_step _ ha] at k
    refine down (P := fun j => K (orN ((ffrom s (fun j => ffrom s (usK N lab a j) 0) j).or (ffrom s (fun i => ffrom s (fun j => ffrom s (usK N lab i j) 0) 0) (a + 1)))) (Hm c) → pX12_unsound_14 E dd 68 (nI i) (nI a) (nI j) (Hm c) K) s ?_ ?_ 0 (Nat.zero_le _) k
    · intro k
      rw [ffrom_end, Option.none_or] at k
      refine vX12_unsound_14 (ldR l68 rfl (alI l71 hi6 (by decide) ?_))
      rw [hN.1, nI_add]
      exact bLe (fun _ => ih k) (fun h => absurd h (by omega))
    · intro j hj ih2 k
      refine vX12_unsound_14 (ldR l68 rfl (alI l71 hi6 (by decide) ?_))
      rw [hN.1]
      refine bLe (fun h => absurd h (by omega)) (fun _ => ?_)
      rw [ffrom_step _ hj, Option.or_assoc] at k
      refine down (P := fun l => K (orN ((ffrom s (usK N lab a j) l).or ((ffrom s (fun j => ffrom s (usK N lab a j) 0) (j + 1)).or (ffrom s (fun i => ffrom s (fun j => ffrom s (usK N lab i j) 0) 0) (a + 1))))) (Hm c) → pX12_unsound_27 E dd 68 (nI i) (nI a) (nI j) (nI l) (Hm c) K) s ?_ ?_ 0 (Nat.zero_le _) k
      · intro k
        rw [ffrom_end, Option.none_or] at k
        refine vX12_unsound_27 (ldR l68 rfl (alI l71 hi6 (by decide) ?_))
        rw [hN.1, nI_add]
        exact bLe (fun _ => ih2 k) (fun h => absurd h (by omega))
      · intro l hl ih3 k
        refine vX12_unsound_27 (ldR l68 rfl (alI l71 hi6 (by decide) ?_))
        simp only [hN.1, nI_add, pk_mul]
        refine bLe (fun h => absurd h (by omega)) (fun _ => ⟨obj l68, n_labelOf hi6 hN hv.z ha hj ⟨obj l68, n_labelOf hi6 hN hv.z hj hl ⟨obj l68, n_labelOf hi6 hN hv.z ha hl ⟨obj l68, n_is hM (hv a j ha hj).1 (hv j l hj hl).1 (hv a l ha hl).1 (bBn (fun e => ?_) (fun e => ?_))⟩⟩⟩⟩)
        · rw [ffrom_none hl (by rw [usK, if_pos e])] at k
          exact ih3 k
        · rw [ffrom_some hl (show usK N lab a j l = some (100 * a + 10 * j + l) by rw [usK, if_neg (by rw [e]; decide)])] at k
          exact k
def sp_sd (N : Nat) (sz : szT) (lb : lbT) (net : Int32) : Int32 := if inR net 0 (3 : Nat) = true then orN (usF N (sz (w net)) (lb (w net))) else -1
theorem c_sound (hT : Tab c 2 n mir N) (hN : NN c sz lb) (hV : VV n mir sz lb) {net : Int32} {K : Int32 → gk_H → Prop} (k : K (sp_sd N sz lb net) (Hm c)) : RnI E mX11_sound (dd + 2, 0, 0) [.ref 0, .int net] (Hm c) K := by
  refine vX11_sound_0 (c_isNet (rng (by decide) (fun h => ?_) (fun j hj hx h => ldR l0 rfl (ldR l1 rfl ?_))))
  · rw [sp_sd, if_neg (by rw [h]; decide)] at k; exact k
  · subst hx
    rw [sp_sd, if_pos h, w_nI (by omega)] at k
    exact alR (t := 0) l4 hj (by decide) (nets_at j hj) (ldR l0 rfl (ldR l1 rfl ⟨obj (isNt_net hj).1, c_unsound (isNt_net hj) isTab_2 hT (hN j hj) ((hV j hj).lt hT.2.2.1) k⟩))
theorem n_sound (hG : Gd n mir N) (hM : MT c n mir N) (hN : MN c sz lb) (hV : VV n mir sz lb) {net : Int32} {K : Int32 → gk_H → Prop} (k : K (sp_sd N sz lb net) (Hm c)) : RnI E mX12_sound (dd + 2, 0, 0) [.ref 68, .int net] (Hm c) K := by
  refine vX12_sound_0 (n_isNet (rng (by decide) (fun h => ?_) (fun j hj hx h => ⟨obj l68, ?_⟩)))
  · rw [sp_sd, if_neg (by rw [h]; decide)] at k; exact k
  · subst hx
    rw [sp_sd, if_pos h, w_nI (by omega)] at k
    exact n_unsound (by omega) hG hM (hN j hj) (hV j hj) k
theorem c_becomeSelf {r : Nat} (hr : isNt r) {K : gk_H → Prop} (k : K (Hm c)) : RnV E mX3_become (dd, 0, 0) [.ref r, .ref r] (Hm c) K := by
  refine vX3_become_0 (ldI hr.1 rfl (stI hr.1 rfl ?_))
  rw [mI_id rfl]
  refine down0 (P := fun a => pX3_become_10 E dd r r (nI a) (Hm c) K) 36 ?_ ?_
  · exact vX3_become_10 (ldR hr.1 rfl (lenA hr.2 (by decide) (bLe (fun _ => k) (fun h => absurd h (by omega)))))
  · intro a ha ih
    refine vX3_become_10 (ldR hr.1 rfl (lenA hr.2 (by decide) (bLe (fun h => absurd h (by omega)) (fun _ => ldR hr.1 rfl (ldR hr.1 rfl (alI hr.2 ha (by decide) (asI hr.2 ha (by decide) ?_)))))))
    rw [nI_add, mI_id rfl]
    exact ih
theorem n_likensSelf {i : Nat} (hi : i < 6) {K : gk_H → Prop} (k : K (Hm c)) : RnV E mX12_likens (dd, 0, 0) [.ref 68, .int (nI i), .int (nI i)] (Hm c) K := by
  refine vX12_likens_0 (ldR l68 rfl (ldR l68 rfl (alI l71 hi (by decide) (asI l71 hi (by decide) ?_))))
  rw [mI_id rfl]
  refine down0 (P := fun a => pX12_likens_14 E dd 68 (nI i) (nI i) (nI a) (Hm c) K) 36 ?_ ?_
  · exact vX12_likens_14 (bLe (fun _ => k) (fun h => absurd h (by omega)))
  · intro a ha ih
    refine vX12_likens_14 (bLe (fun h => absurd h (by omega)) (fun _ => ldR l68 rfl (ldR l68 rfl ?_)))
    simp only [pk_mul, nI_add]
    refine alI l72 (by omega) (by decide) (asI l72 (by omega) (by decide) ?_)
    rw [mI_id rfl]
    exact ih
def sp_cy (sz : szT) (lb : lbT) (net oth : Int32) : Int32 × szT × lbT := if inR net 0 (3 : Nat) = true ∧ inR oth 0 (3 : Nat) = true then (nI (sz (w net)), fset sz (w oth) (sz (w net)), lset lb (w oth) (lb (w net))) else (-1, sz, lb)
theorem c_copy (hN : NN c sz lb) {net oth : Int32} {K : Int32 → gk_H → Prop} (k : ∀ c', Fr rN c c' → NN c' (sp_cy sz lb net oth).2.1 (sp_cy sz lb net oth).2.2 → K (sp_cy sz lb net oth).1 (Hm c')) : RnI E mX11_copy (dd + 1, 0, 0) [.ref 0, .int net, .int oth] (Hm c) K := by
  refine vX11_copy_0 (c_isNet (rng (by decide) (fun h => ?_) (fun j hj hx h => c_isNet (rngN (by decide) (fun i hi hy h2 => ldR l0 rfl (ldR l1 rfl ?_)) (fun h2 => ?_)))))
  · rw [sp_cy, if_neg (by rw [h]; simp)] at k; exact k c Fr.rf hN
  · subst hx hy
    rw [sp_cy, if_pos ⟨h, h2⟩, w_nI (by omega), w_nI (by omega)] at k
    refine alR (t := 0) l4 hi (by decide) (nets_at i hi) (ldR l0 rfl (ldR l1 rfl (alR (t := 0) l4 hj (by decide) (nets_at j hj) ⟨obj (isNt_net hi).1, ?_⟩)))
    by_cases e : i = j
    · subst e
      refine c_becomeSelf (isNt_net hi) (ldR l0 rfl (ldR l1 rfl (alR (t := 0) l4 hi (by decide) (nets_at i hi) (ldI (isNt_net hi).1 rfl ?_))))
      rw [fset_id, lset_id] at k
      rw [(hN i hi).1]
      exact k c Fr.rf hN
    · refine c_become (isNt_net hi) (isNt_net hj) (hN j hj) (by omega) (by omega) (by omega) (fun c1 f1 n1 => ldR l0 rfl (ldR l1 rfl (alR (t := 0) l4 hi (by decide) (nets_at i hi) (ldI (isNt_net hi).1 rfl ?_))))
      rw [n1.1]
      exact k c1 (fr_net hi f1) (hN.set hi f1 n1)
  · rw [sp_cy, if_neg (by rw [h2]; simp)] at k; exact k c Fr.rf hN
theorem n_copy (hN : MN c sz lb) {net oth : Int32} {K : Int32 → gk_H → Prop} (k : ∀ c', Fr [71, 72] c c' → Oth c c' → MN c' (sp_cy sz lb net oth).2.1 (sp_cy sz lb net oth).2.2 → K (sp_cy sz lb net oth).1 (Hm c')) : RnI E mX12_copy (dd + 2, 0, 0) [.ref 68, .int net, .int oth] (Hm c) K := by
  refine vX12_copy_0 (n_isNet (rng (by decide) (fun h => ?_) (fun j hj hx h => n_isNet (rngN (by decide) (fun i hi hy h2 => ⟨obj l68, ?_⟩) (fun h2 => ?_)))))
  · rw [sp_cy, if_neg (by rw [h]; simp)] at k; exact k c Fr.rf Oth.rf hN
  · subst hx hy
    rw [sp_cy, if_pos ⟨h, h2⟩, w_nI (by omega), w_nI (by omega)] at k
    by_cases e : i = j
    · subst e
      refine n_likensSelf (by omega) (ldR l68 rfl (alI l71 (by omega) (by decide) ?_))
      rw [fset_id, lset_id] at k
      rw [(hN i hi).1]
      exact k c Fr.rf Oth.rf hN
    · refine n_likens (by omega) (by omega) (fun z => e z.symm) (hN j hj) (fun c1 f1 n1 => ldR l68 rfl (alI l71 (by omega) (by decide) ?_))
      rw [n1.1]
      exact k c1 f1.1 (Oth.of hi f1) (hN.set f1 n1)
  · rw [sp_cy, if_neg (by rw [h2]; simp)] at k; exact k c Fr.rf Oth.rf hN
end NA
