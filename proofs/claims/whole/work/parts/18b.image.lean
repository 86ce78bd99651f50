/-! image, undo -/
def isSh (b : Nat) : Prop := lay[b]? = some (.inl (7, [(2, b + 1), (2, b + 3), (2, b + 4), (0, 0)])) ∧ isTab (b + 1) ∧ lay[b + 3]? = some (.inr (5, 3, [b + 6, b + 8, b + 10])) ∧ isNt (b + 4) ∧ ∀ j, j < 3 → isNt (b + 6 + 2 * j)
theorem sh_at (b : Nat) : ∀ j, j < 3 → ([b + 6, b + 8, b + 10] : List Nat)[j]? = some (b + 6 + 2 * j) := fun j hj => match j, hj with
  | 0, _ => rfl
  | 1, _ => rfl
  | 2, _ => rfl
theorem isSh1 : isSh 1 := ⟨l1, ⟨l2, l3⟩, l4, ⟨l5, l6⟩, fun j hj => match j, hj with
  | 0, _ => ⟨l7, l8⟩
  | 1, _ => ⟨l9, l10⟩
  | 2, _ => ⟨l11, l12⟩⟩
theorem isSh13 : isSh 13 := ⟨l13, ⟨l14, l15⟩, l16, ⟨l17, l18⟩, fun j hj => match j, hj with
  | 0, _ => ⟨l19, l20⟩
  | 1, _ => ⟨l21, l22⟩
  | 2, _ => ⟨l23, l24⟩⟩
/-- the class's sheet at b -/
def ShC (c : gm) (b n : Nat) (mir : Nat → Nat) (N : Nat) (sz : szT) (lb : lbT) (fb : Bool) (fs : Nat) (fl : Nat → Nat → Nat) : Prop := Tab c (b + 1) n mir N ∧ (∀ j, j < 3 → NetAt c (b + 6 + 2 * j) (sz j) (lb j)) ∧ (∃ s0 q0, NetAt c (b + 4) s0 q0 ∧ (fb = true → s0 = fs ∧ q0 = fl)) ∧ c.1 b 3 = bI fb
abbrev rSh (b : Nat) : List Nat := [b, b + 1, b + 2, b + 4, b + 5, b + 6, b + 7, b + 8, b + 9, b + 10, b + 11]
theorem rSh_mem {b q : Nat} : q ∈ rSh b ↔ b ≤ q ∧ q ≤ b + 11 ∧ q ≠ b + 3 := by
  simp only [rSh, List.mem_cons, List.not_mem_nil, or_false]
  omega
theorem ShC.fr {c c' : gm} {b n N : Nat} {mir : Nat → Nat} {sz : szT} {lb : lbT} {fb : Bool} {fs : Nat} {fl : Nat → Nat → Nat} {l : List Nat} (h : ShC c b n mir N sz lb fb fs fl) (hf : Fr l c c') (hl : ∀ q, q ∈ rSh b → q ∉ l) : ShC c' b n mir N sz lb fb fs fl := by
  obtain ⟨h1, h2, ⟨s0, q0, h3, h4⟩, h5⟩ := h
  have m : ∀ q, b ≤ q → q ≤ b + 11 → q ≠ b + 3 → q ∉ l := fun q a1 a2 a3 => hl q (rSh_mem.mpr ⟨a1, a2, a3⟩)
  exact ⟨h1.fr hf (m _ (by omega) (by omega) (by omega)) (m _ (by omega) (by omega) (by omega)), fun j hj => (h2 j hj).fr hf (m _ (by omega) (by omega) (by omega)) (m _ (by omega) (by omega) (by omega)), ⟨s0, q0, h3.fr hf (m _ (by omega) (by omega) (by omega)) (m _ (by omega) (by omega) (by omega)), h4⟩, by rw [hf.i (m _ (by omega) (by omega) (by omega))]; exact h5⟩
section IM
variable {E : gk_E} {dd : Nat} {c : gm} {b b2 n N : Nat} {mir : Nat → Nat} {sz : szT} {lb : lbT} {fb : Bool} {fs : Nat} {fl : Nat → Nat → Nat}
theorem c_sheet (hb : isSh b) (hb2 : isSh b2) (hd : b + 12 ≤ b2 ∨ b2 + 12 ≤ b) (hS : ShC c b2 n mir N sz lb fb fs fl) {K : gk_H → Prop} (k : ∀ c', Fr (rSh b) c c' → ShC c' b n mir N sz lb fb fs fl → K (Hm c')) : RnV E mX7_become (dd + 1, 0, 0) [.ref b, .ref b2] (Hm c) K := by
  refine vX7_become_0 (ldR hb.1 rfl (ldR hb2.1 rfl ⟨obj hb.2.1.1, c_tabBecome hb.2.1 hb2.2.1 (by omega) (by omega) (by omega) hS.1 (fun c1 f1 t1 => ?_)⟩))
  have g1 : Fr (rSh b) c c1 := f1.mono (fun q hq => by rw [rSh_mem]; simp at hq; omega)
  have dj : ∀ q, q ∈ rSh b2 → q ∉ rSh b := fun q h1 h2 => by
    rw [rSh_mem] at h1 h2
    omega
  refine down (P := fun a => ∀ c', Fr (rSh b) c c' → Tab c' (b + 1) n mir N → (∀ j, j < a → NetAt c' (b + 6 + 2 * j) (sz j) (lb j)) → pX7_become_13 E dd b b2 (nI a) (Hm c') K) 3 ?_ ?_ 0 (Nat.zero_le _) c1 g1 t1 (fun j hj => absurd hj (by omega))
  · intro c' hf ht hn
    have hS' := hS.fr hf dj
    obtain ⟨s0, q0, h3, h4⟩ := hS'.2.2.1
    refine vX7_become_13 (bLe (fun _ => ldR hb.1 rfl (ldR hb2.1 rfl ⟨obj hb.2.2.2.1.1, c_become hb.2.2.2.1 hb2.2.2.2.1 h3 (by omega) (by omega) (by omega) (fun c2 f2 n2 => ldI hb2.1 rfl ?_)⟩)) (fun h => absurd h (by omega)))
    have e5 : c2.1 b2 3 = bI fb := by rw [f2.i (by simp; omega)]; exact hS'.2.2.2
    rw [e5]
    refine stZ hb.1 rfl (bI_bz fb) ?_
    refine k _ ((hf.trans (f2.mono (fun q hq => by rw [rSh_mem]; simp at hq; omega))).mI (by rw [rSh_mem]; omega)) ⟨?_, fun j hj => ?_, ⟨s0, q0, ?_, h4⟩, mI_s⟩
    · refine (ht.fr f2 (by simp <;> omega) (by simp <;> omega)).fr (Fr.rf.mI (l := [b]) (by simp)) (by simp <;> omega) (by simp <;> omega)
    · exact ((hn j hj).fr f2 (by simp; omega) (by simp; omega)).fr (Fr.rf.mI (l := [b]) (by simp)) (by simp; omega) (by simp; omega)
    · exact n2.fr (Fr.rf.mI (l := [b]) (by simp)) (by simp <;> omega) (by simp <;> omega)
  · intro a ha ih c' hf ht hn
    have hS' := hS.fr hf dj
    refine vX7_become_13 (bLe (fun h => absurd h (by omega)) (fun _ => ldR hb.1 rfl (alR (t := 0) hb.2.2.1 ha (by decide) (sh_at b a ha) (ldR hb2.1 rfl (alR (t := 0) hb2.2.2.1 ha (by decide) (sh_at b2 a ha) ⟨obj (hb.2.2.2.2 a ha).1, c_become (hb.2.2.2.2 a ha) (hb2.2.2.2.2 a ha) (hS'.2.1 a ha) (by omega) (by omega) (by omega) (fun c2 f2 n2 => ?_)⟩)))))
    rw [nI_add]
    refine ih c2 (hf.trans (f2.mono (fun q hq => by rw [rSh_mem]; simp at hq; omega))) (ht.fr f2 (by simp; omega) (by simp; omega)) (fun j hj => ?_)
    by_cases e : j = a
    · subst e; exact n2
    · exact (hn j (by omega)).fr f2 (by simp; omega) (by simp; omega)
theorem c_image (hS : ShC c 1 n mir N sz lb fb fs fl) {K : Int32 → gk_H → Prop} (k : ∀ c', Fr (0 :: rSh 13) c c' → ShC c' 13 n mir N sz lb fb fs fl → c'.1 0 2 = nI 1 → K (nI n) (Hm c')) : RnI E mX11_image (dd + 2, 0, 0) [.ref 0] (Hm c) K := by
  refine vX11_image_0 (ldR l0 rfl (ldR l0 rfl ⟨obj l13, c_sheet isSh13 isSh1 (by omega) hS (fun c1 f1 s1 => stI l0 rfl (ldR l0 rfl (ldR l1 rfl (ldI l2 rfl ?_))))⟩))
  rw [mI_n (by omega), f1.i (by decide), hS.1.1]
  exact k _ ((f1.mono (fun q hq => List.mem_cons_of_mem _ hq)).mI (by simp)) (s1.fr (Fr.rf.mI (l := [0]) (by simp)) (by decide)) mI_s
theorem c_undo {b0 : Bool} (h0 : c.1 0 2 = bI b0) (hS : b0 = true → ShC c 13 n mir N sz lb fb fs fl) {K : Int32 → gk_H → Prop} (k1 : b0 = false → K (-3) (Hm c)) (k2 : b0 = true → ∀ c', Fr (52 :: rSh 1) c c' → ShC c' 1 n mir N sz lb fb fs fl → c'.1 52 1 = nI 0 → (∀ k, k ≠ 1 → c'.1 52 k = c.1 52 k) → K (nI n) (Hm c')) : RnI E mX11_undo (dd + 2, 0, 0) [.ref 0] (Hm c) K := by
  refine vX11_undo_0 (ldI l0 rfl ?_)
  rw [h0]
  refine bBn (fun e => ldR l0 rfl (ldR l0 rfl ⟨obj l1, c_sheet isSh1 isSh13 (by omega) (hS e) (fun c1 f1 s1 => ldR l0 rfl (stI l52 rfl (ldR l0 rfl (ldR l1 rfl (ldI l2 rfl ?_)))))⟩)) k1
  rw [mI_n (by omega), s1.1.1]
  exact k2 e _ ((f1.mono (fun q hq => List.mem_cons_of_mem _ hq)).mI (by simp)) (s1.fr (Fr.rf.mI (l := [52]) (by simp)) (by decide)) mI_s (fun k hk => by rw [mI_n (by omega)]; exact f1.i (by decide) k)
/-- the reference's sheet -/
def ShM (c : gm) (n : Nat) (mir : Nat → Nat) (N : Nat) (sz : szT) (lb : lbT) (fb : Bool) (fs : Nat) (fl : Nat → Nat → Nat) : Prop := MT c n mir N ∧ MN c sz lb ∧ c.1 68 5 = bI fb ∧ (fb = true → MNet c 3 fs fl)
def AgS (c c' : gm) : Prop := c'.1 68 0 = c.1 68 0 ∧ c'.1 68 5 = c.1 68 5 ∧ (∀ a, a < 4 → c'.1 69 a = c.1 69 a) ∧ (∀ a, a < 64 → c'.1 70 a = c.1 70 a) ∧ (∀ a, a < 4 → c'.1 71 a = c.1 71 a) ∧ ∀ a, a < 144 → c'.1 72 a = c.1 72 a
theorem ShM.ag {c c' : gm} (h : ShM c n mir N sz lb fb fs fl) (g : AgS c c') : ShM c' n mir N sz lb fb fs fl := by
  obtain ⟨⟨B, ⟨a1, a2, a3, a4, a5⟩, hA⟩, h2, h3, h4⟩ := h
  obtain ⟨g1, g2, g3, g4, g5, g6⟩ := g
  have hn : ∀ j s lab, j < 4 → MNet c j s lab → MNet c' j s lab := fun j s lab hj hm => ⟨by rw [g5 j hj]; exact hm.1, hm.2.1, fun p q hp hq hpq => by
    have := hm.2.1
    rw [g6 _ (by omega)]
    exact hm.2.2 p q hp hq hpq⟩
  exact ⟨⟨B, ⟨by rw [g1]; exact a1, a2, a3, fun a ha => by rw [g3 a ha]; exact a4 a ha, fun k hk => by rw [g4 k hk]; exact a5 k hk⟩, hA⟩, fun j hj => hn j _ _ (by omega) (h2 j hj), by rw [g2]; exact h3, fun e => hn 3 _ _ (by decide) (h4 e)⟩
/-- what is kept, as it would lie -/
def kp (c : gm) : gm := (fun q k => if q = 68 then (if k = 0 then c.1 68 28 else if k = 5 then c.1 68 33 else c.1 68 k) else if 69 ≤ q ∧ q ≤ 72 then c.1 (q + 12) k else c.1 q k, c.2)
theorem kp0 (c : gm) : (kp c).1 68 0 = c.1 68 28 := rfl
theorem kp5 (c : gm) : (kp c).1 68 5 = c.1 68 33 := rfl
theorem kpr (c : gm) (q k : Nat) (h1 : 69 ≤ q) (h2 : q ≤ 72) : (kp c).1 q k = c.1 (q + 12) k := by
  show (if q = 68 then _ else if 69 ≤ q ∧ q ≤ 72 then c.1 (q + 12) k else c.1 q k) = _
  rw [if_neg (by omega), if_pos ⟨h1, h2⟩]
theorem AgS.kf {c c' : gm} {l ks : List Nat} (hf : F8 l ks c c') (h1 : 28 ∉ ks) (h2 : 33 ∉ ks) (h3 : ∀ q, 81 ≤ q → q ≤ 84 → q ∉ 68 :: l) : AgS (kp c) (kp c') := ⟨by rw [kp0, kp0]; exact hf.2 28 h1, by rw [kp5, kp5]; exact hf.2 33 h2, fun a _ => by rw [kpr _ _ _ (by decide) (by decide), kpr _ _ _ (by decide) (by decide)]; exact hf.i (h3 81 (by decide) (by decide)) a, fun a _ => by rw [kpr _ _ _ (by decide) (by decide), kpr _ _ _ (by decide) (by decide)]; exact hf.i (h3 82 (by decide) (by decide)) a, fun a _ => by rw [kpr _ _ _ (by decide) (by decide), kpr _ _ _ (by decide) (by decide)]; exact hf.i (h3 83 (by decide) (by decide)) a, fun a _ => by rw [kpr _ _ _ (by decide) (by decide), kpr _ _ _ (by decide) (by decide)]; exact hf.i (h3 84 (by decide) (by decide)) a⟩
theorem n_image (hS : ShM c n mir N sz lb fb fs fl) {K : Int32 → gk_H → Prop} (k : ∀ c', F8 [81, 82, 83, 84] [27, 28, 33] c c' → ShM (kp c') n mir N sz lb fb fs fl → c'.1 68 27 = nI 1 → K (nI n) (Hm c')) : RnI E mX12_image (dd, 0, 0) [.ref 68] (Hm c) K := by
  have hS0 := hS
  obtain ⟨⟨B, ⟨a1, a2, a3, a4, a5⟩, hA⟩, h2, h3, h4⟩ := hS
  refine vX12_image_0 (stI l68 rfl (ldI l68 rfl (stI l68 rfl ?_)))
  rw [mI_n (by omega)]
  have f0 : F8 [81, 82, 83, 84] [27, 28, 33] c (mI (mI c 68 27 (nI 1)) 68 28 (c.1 68 0)) := (F8.rf.slot (by simp)).slot (by simp)
  refine down (P := fun a => ∀ c', F8 [81, 82, 83, 84] [27, 28, 33] c c' → c'.1 68 27 = nI 1 → c'.1 68 28 = c.1 68 0 → (∀ i, i < a → c'.1 81 i = c.1 69 i) → pX12_image_15 E dd 68 (nI a) (Hm c') K) 4 ?_ ?_ 0 (Nat.zero_le _) _ f0 (by rw [mI_n (by omega), mI_s]) mI_s (fun i hi => absurd hi (by omega))
  · intro c1 f1 e27 e28 e81
    refine vX12_image_15 (bLe (fun _ => ?_) (fun h => absurd h (by omega)))
    refine down (P := fun a => ∀ c', F8 [81, 82, 83, 84] [27, 28, 33] c c' → c'.1 68 27 = nI 1 → c'.1 68 28 = c.1 68 0 → (∀ i, i < 4 → c'.1 81 i = c.1 69 i) → (∀ i, i < a → c'.1 82 i = c.1 70 i) → pX12_image_40 E dd 68 (nI a) (Hm c') K) 64 ?_ ?_ 0 (Nat.zero_le _) c1 f1 e27 e28 e81 (fun i hi => absurd hi (by omega))
    · intro c1 f1 e27 e28 e81 e82
      refine vX12_image_40 (bLe (fun _ => ?_) (fun h => absurd h (by omega)))
      refine down (P := fun a => ∀ c', F8 [81, 82, 83, 84] [27, 28, 33] c c' → c'.1 68 27 = nI 1 → c'.1 68 28 = c.1 68 0 → (∀ i, i < 4 → c'.1 81 i = c.1 69 i) → (∀ i, i < 64 → c'.1 82 i = c.1 70 i) → (∀ i, i < a → c'.1 83 i = c.1 71 i) → pX12_image_66 E dd 68 (nI a) (Hm c') K) 4 ?_ ?_ 0 (Nat.zero_le _) c1 f1 e27 e28 e81 e82 (fun i hi => absurd hi (by omega))
      · intro c1 f1 e27 e28 e81 e82 e83
        refine vX12_image_66 (bLt (fun _ => ?_) (fun h => absurd h (by omega)))
        refine down (P := fun a => ∀ c', F8 [81, 82, 83, 84] [27, 28, 33] c c' → c'.1 68 27 = nI 1 → c'.1 68 28 = c.1 68 0 → (∀ i, i < 4 → c'.1 81 i = c.1 69 i) → (∀ i, i < 64 → c'.1 82 i = c.1 70 i) → (∀ i, i < 4 → c'.1 83 i = c.1 71 i) → (∀ i, i < a → c'.1 84 i = c.1 72 i) → pX12_image_91 E dd 68 (nI a) (Hm c') K) 144 ?_ ?_ 0 (Nat.zero_le _) c1 f1 e27 e28 e81 e82 e83 (fun i hi => absurd hi (by omega))
        · intro c1 f1 e27 e28 e81 e82 e83 e84
          refine vX12_image_91 (bLe (fun _ => ldI l68 rfl ?_) (fun h => absurd h (by omega)))
          rw [f1.2 5 (by decide), h3]
          refine stZ l68 rfl (bI_bz fb) (ldI l68 rfl ?_)
          rw [mI_n (by omega), f1.2 0 (by decide), a1]
          refine k _ (f1.slot (by simp)) (hS0.ag ⟨?_, ?_, fun a ha => ?_, fun a ha => ?_, fun a ha => ?_, fun a ha => ?_⟩) (by rw [mI_n (by omega)]; exact e27)
          · rw [kp0, mI_n (by omega)]; exact e28
          · rw [kp5, mI_s]; exact h3.symm
          · rw [kpr _ _ _ (by decide) (by decide), mI_n (by omega)]; exact e81 a ha
          · rw [kpr _ _ _ (by decide) (by decide), mI_n (by omega)]; exact e82 a ha
          · rw [kpr _ _ _ (by decide) (by decide), mI_n (by omega)]; exact e83 a ha
          · rw [kpr _ _ _ (by decide) (by decide), mI_n (by omega)]; exact e84 a ha
        · intro a ha ih c1 f1 e27 e28 e81 e82 e83 e84
          refine vX12_image_91 (bLe (fun h => absurd h (by omega)) (fun _ => ldR l68 rfl (ldR l68 rfl (alI l72 (by omega) (by decide) (asI l84 (by omega) (by decide) ?_)))))
          rw [nI_add, f1.i (by decide)]
          refine ih _ (f1.put (by simp) (by decide)) (by rw [mI_n (by omega)]; exact e27) (by rw [mI_n (by omega)]; exact e28) (fun i hi => by rw [mI_n (by omega)]; exact e81 i hi) (fun i hi => by rw [mI_n (by omega)]; exact e82 i hi) (fun i hi => by rw [mI_n (by omega)]; exact e83 i hi) (fun i hi => ?_)
          by_cases e : i = a
          · rw [e, mI_s]
          · rw [mI_n (by omega)]; exact e84 i (by omega)
      · intro a ha ih c1 f1 e27 e28 e81 e82 e83
        refine vX12_image_66 (bLt (fun h => absurd h (by omega)) (fun _ => ldR l68 rfl (ldR l68 rfl (alI l71 (by omega) (by decide) (asI l83 (by omega) (by decide) ?_)))))
        rw [nI_add, f1.i (by decide)]
        refine ih _ (f1.put (by simp) (by decide)) (by rw [mI_n (by omega)]; exact e27) (by rw [mI_n (by omega)]; exact e28) (fun i hi => by rw [mI_n (by omega)]; exact e81 i hi) (fun i hi => by rw [mI_n (by omega)]; exact e82 i hi) (fun i hi => ?_)
        by_cases e : i = a
        · rw [e, mI_s]
        · rw [mI_n (by omega)]; exact e83 i (by omega)
    · intro a ha ih c1 f1 e27 e28 e81 e82
      refine vX12_image_40 (bLe (fun h => absurd h (by omega)) (fun _ => ldR l68 rfl (ldR l68 rfl (alZ l70 (by omega) (by decide) (asZ l82 (by omega) (by decide) ?_)))))
      rw [nI_add, f1.i (by decide), a5 a ha, narZ]
      refine ih _ (f1.put (by simp) (by decide)) (by rw [mI_n (by omega)]; exact e27) (by rw [mI_n (by omega)]; exact e28) (fun i hi => by rw [mI_n (by omega)]; exact e81 i hi) (fun i hi => ?_)
      by_cases e : i = a
      · rw [e, mI_s, a5 a ha]
      · rw [mI_n (by omega)]; exact e82 i (by omega)
  · intro a ha ih c1 f1 e27 e28 e81
    refine vX12_image_15 (bLe (fun h => absurd h (by omega)) (fun _ => ldR l68 rfl (ldR l68 rfl (alI l69 (by omega) (by decide) (asI l81 (by omega) (by decide) ?_)))))
    rw [nI_add, f1.i (by decide)]
    refine ih _ (f1.put (by simp) (by decide)) (by rw [mI_n (by omega)]; exact e27) (by rw [mI_n (by omega)]; exact e28) (fun i hi => ?_)
    by_cases e : i = a
    · rw [e, mI_s]
    · rw [mI_n (by omega)]; exact e81 i (by omega)
theorem n_undo {b0 : Bool} (h0 : c.1 68 27 = bI b0) (hS : b0 = true → ShM (kp c) n mir N sz lb fb fs fl) {K : Int32 → gk_H → Prop} (k1 : b0 = false → K (-3) (Hm c)) (k2 : b0 = true → ∀ c', F8 [69, 70, 71, 72] [0, 5, 6] c c' → ShM c' n mir N sz lb fb fs fl → c'.1 68 6 = nI 0 → K (nI n) (Hm c')) : RnI E mX12_undo (dd, 0, 0) [.ref 68] (Hm c) K := by
  refine vX12_undo_0 (ldI l68 rfl ?_)
  rw [h0]
  refine bBn (fun e0 => ldI l68 rfl (stI l68 rfl ?_)) k1
  have k2 := k2 e0
  have hS0 := hS e0
  obtain ⟨⟨B, ⟨a1, a2, a3, a4, a5⟩, hA⟩, h2, h3, h4⟩ := hS e0
  have a5 : ∀ k, k < 64 → c.1 82 k = bI (B k) := fun k hk => by rw [← a5 k hk, kpr _ _ _ (by decide) (by decide)]
  rw [kp5] at h3
  rw [kp0] at a1
  have f0 : F8 [69, 70, 71, 72] [0, 5, 6] c (mI c 68 0 (c.1 68 28)) := F8.rf.slot (by simp)
  refine down (P := fun a => ∀ c', F8 [69, 70, 71, 72] [0, 5, 6] c c' → c'.1 68 0 = c.1 68 28 → (∀ i, i < a → c'.1 69 i = c.1 81 i) → pX12_undo_20 E dd 68 (nI a) (Hm c') K) 4 ?_ ?_ 0 (Nat.zero_le _) _ f0 mI_s (fun i hi => absurd hi (by omega))
  · intro c1 f1 e28 e81
    refine vX12_undo_20 (bLe (fun _ => ?_) (fun h => absurd h (by omega)))
    refine down (P := fun a => ∀ c', F8 [69, 70, 71, 72] [0, 5, 6] c c' → c'.1 68 0 = c.1 68 28 → (∀ i, i < 4 → c'.1 69 i = c.1 81 i) → (∀ i, i < a → c'.1 70 i = c.1 82 i) → pX12_undo_45 E dd 68 (nI a) (Hm c') K) 64 ?_ ?_ 0 (Nat.zero_le _) c1 f1 e28 e81 (fun i hi => absurd hi (by omega))
    · intro c1 f1 e28 e81 e82
      refine vX12_undo_45 (bLe (fun _ => ?_) (fun h => absurd h (by omega)))
      refine down (P := fun a => ∀ c', F8 [69, 70, 71, 72] [0, 5, 6] c c' → c'.1 68 0 = c.1 68 28 → (∀ i, i < 4 → c'.1 69 i = c.1 81 i) → (∀ i, i < 64 → c'.1 70 i = c.1 82 i) → (∀ i, i < a → c'.1 71 i = c.1 83 i) → pX12_undo_71 E dd 68 (nI a) (Hm c') K) 4 ?_ ?_ 0 (Nat.zero_le _) c1 f1 e28 e81 e82 (fun i hi => absurd hi (by omega))
      · intro c1 f1 e28 e81 e82 e83
        refine vX12_undo_71 (bLt (fun _ => ?_) (fun h => absurd h (by omega)))
        refine down (P := fun a => ∀ c', F8 [69, 70, 71, 72] [0, 5, 6] c c' → c'.1 68 0 = c.1 68 28 → (∀ i, i < 4 → c'.1 69 i = c.1 81 i) → (∀ i, i < 64 → c'.1 70 i = c.1 82 i) → (∀ i, i < 4 → c'.1 71 i = c.1 83 i) → (∀ i, i < a → c'.1 72 i = c.1 84 i) → pX12_undo_96 E dd 68 (nI a) (Hm c') K) 144 ?_ ?_ 0 (Nat.zero_le _) c1 f1 e28 e81 e82 e83 (fun i hi => absurd hi (by omega))
        · intro c1 f1 e28 e81 e82 e83 e84
          refine vX12_undo_96 (bLe (fun _ => ldI l68 rfl ?_) (fun h => absurd h (by omega)))
          rw [f1.2 33 (by decide), h3]
          refine stZ l68 rfl (bI_bz fb) (stI l68 rfl (ldI l68 rfl ?_))
          rw [mI_n (by omega), mI_n (by omega), e28, a1]
          refine k2 _ ((f1.slot (by simp)).slot (by simp)) (hS0.ag ⟨?_, ?_, fun a ha => ?_, fun a ha => ?_, fun a ha => ?_, fun a ha => ?_⟩) mI_s
          · rw [kp0, mI_n (by omega), mI_n (by omega)]; exact e28
          · rw [kp5, mI_n (by omega), mI_s]; exact h3.symm
          · rw [kpr _ _ _ (by decide) (by decide), mI_n (by omega), mI_n (by omega)]; exact e81 a ha
          · rw [kpr _ _ _ (by decide) (by decide), mI_n (by omega), mI_n (by omega)]; exact e82 a ha
          · rw [kpr _ _ _ (by decide) (by decide), mI_n (by omega), mI_n (by omega)]; exact e83 a ha
          · rw [kpr _ _ _ (by decide) (by decide), mI_n (by omega), mI_n (by omega)]; exact e84 a ha
        · intro a ha ih c1 f1 e28 e81 e82 e83 e84
          refine vX12_undo_96 (bLe (fun h => absurd h (by omega)) (fun _ => ldR l68 rfl (ldR l68 rfl (alI l84 (by omega) (by decide) (asI l72 (by omega) (by decide) ?_)))))
          rw [nI_add, f1.i (by decide)]
          refine ih _ (f1.put (by simp) (by decide)) (by rw [mI_n (by omega)]; exact e28) (fun i hi => by rw [mI_n (by omega)]; exact e81 i hi) (fun i hi => by rw [mI_n (by omega)]; exact e82 i hi) (fun i hi => by rw [mI_n (by omega)]; exact e83 i hi) (fun i hi => ?_)
          by_cases e : i = a
          · rw [e, mI_s]
          · rw [mI_n (by omega)]; exact e84 i (by omega)
      · intro a ha ih c1 f1 e28 e81 e82 e83
        refine vX12_undo_71 (bLt (fun h => absurd h (by omega)) (fun _ => ldR l68 rfl (ldR l68 rfl (alI l83 (by omega) (by decide) (asI l71 (by omega) (by decide) ?_)))))
        rw [nI_add, f1.i (by decide)]
        refine ih _ (f1.put (by simp) (by decide)) (by rw [mI_n (by omega)]; exact e28) (fun i hi => by rw [mI_n (by omega)]; exact e81 i hi) (fun i hi => by rw [mI_n (by omega)]; exact e82 i hi) (fun i hi => ?_)
        by_cases e : i = a
        · rw [e, mI_s]
        · rw [mI_n (by omega)]; exact e83 i (by omega)
    · intro a ha ih c1 f1 e28 e81 e82
      refine vX12_undo_45 (bLe (fun h => absurd h (by omega)) (fun _ => ldR l68 rfl (ldR l68 rfl (alZ l82 (by omega) (by decide) (asZ l70 (by omega) (by decide) ?_)))))
      rw [nI_add, f1.i (by decide), a5 a ha, narZ]
      refine ih _ (f1.put (by simp) (by decide)) (by rw [mI_n (by omega)]; exact e28) (fun i hi => by rw [mI_n (by omega)]; exact e81 i hi) (fun i hi => ?_)
      by_cases e : i = a
      · rw [e, mI_s, a5 a ha]
      · rw [mI_n (by omega)]; exact e82 i (by omega)
  · intro a ha ih c1 f1 e28 e81
    refine vX12_undo_20 (bLe (fun h => absurd h (by omega)) (fun _ => ldR l68 rfl (ldR l68 rfl (alI l81 (by omega) (by decide) (asI l69 (by omega) (by decide) ?_)))))
    rw [nI_add, f1.i (by decide)]
    refine ih _ (f1.put (by simp) (by decide)) (by rw [mI_n (by omega)]; exact e28) (fun i hi => ?_)
    by_cases e : i = a
    · rw [e, mI_s]
    · rw [mI_n (by omega)]; exact e81 i (by omega)
end IM
