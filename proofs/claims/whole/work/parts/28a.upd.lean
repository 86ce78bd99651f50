/-! the relation after a call -/
section RS
variable {c c' : gm} {s s' s2 : shT} {b b' : bdT} {ls ls' : lsT} {it it' : itT} {t : Nat} {tb : Nat → Nat} {kb : Bool} {l ks : List Nat}
theorem ClsP.upd (h : ClsP c s b ls it t tb kb s2) (hf : Fr l c c') (hS : ShC' c' 1 s') (hB : BdC' c' b') (hl : ∀ q, q ∈ l → (q < 13 ∨ 25 ≤ q) ∧ q ≠ 0 ∧ q ≠ 60 ∧ q ≠ 62 ∧ q ≠ 63 ∧ q ≠ 64 ∧ q ≠ 65) : ClsP c' s' b' ls it t tb kb s2 := by
  obtain ⟨-, -, h3, h4, h5, h6, h7⟩ := h
  have n : ∀ q, q ∈ [0, 60, 62, 63, 64, 65] → q ∉ l := fun q hq z => by
    have := hl q z
    simp only [List.mem_cons, List.not_mem_nil, or_false] at hq
    omega
  exact ⟨hS, hB, h3.fr hf (n _ (by decide)) (n _ (by decide)), TpC.fr h4 hf (n _ (by decide)) (n _ (by decide)), by rw [hf.i (n _ (by decide))]; exact h5, by rw [hf.i (n _ (by decide))]; exact h6, fun e => (h7 e).fr hf (fun q hq z => by rw [rSh_mem] at hq; have := hl q z; omega)⟩
theorem RefP.upd (h : RefP c s b ls it t tb kb s2) (hf : F8 l ks c c') (hS : ShM' c' s') (hB : BdM' c' b') (hl : ∀ q, q ∈ l → q ≤ 74 ∨ q = 80) (hk : ∀ k, k ∈ ks → k ≠ 20 ∧ k ≠ 27 ∧ k ≠ 28 ∧ k ≠ 33) : RefP c' s' b' ls it t tb kb s2 := by
  obtain ⟨-, -, h3, h4, h5, h6, h7⟩ := h
  have n : ∀ q, 74 < q → q ≠ 80 → q ∉ 68 :: l := fun q h1 h2 z => by
    rcases List.mem_cons.mp z with e | e
    · omega
    · have := hl q e; omega
  have m : ∀ k, k ∈ [20, 27, 28, 33] → k ∉ ks := fun k hq z => by
    have := hk k z
    simp only [List.mem_cons, List.not_mem_nil, or_false] at hq
    omega
  exact ⟨hS, hB, h3.fr hf.1 (n _ (by decide) (by decide)) (n _ (by decide) (by decide)), ⟨by rw [hf.2 20 (m _ (by decide))]; exact h4.1, fun i hi => by rw [hf.i (n _ (by decide) (by decide))]; exact h4.2 i hi⟩, h5.f8 hf (n _ (by decide) (by decide)) (n _ (by decide) (by decide)), by rw [hf.2 27 (m _ (by decide))]; exact h6, fun e => (h7 e).ag (AgS.kf hf (m _ (by decide)) (m _ (by decide)) (fun q a1 a2 => n q (by omega) (by omega)))⟩
theorem ClsP.lists (h : ClsP c s b ls it t tb kb s2) (hf : Fr l c c') (hL : LsAt c' 62 63 ls' it') (h0 : c'.1 60 0 = nI 0) (hl : ∀ q, q ∈ l → 56 ≤ q ∧ q ≤ 63) : ClsP c' s b ls' it' t tb kb s2 := by
  obtain ⟨h1, h2, -, h4, h5, h6, h7⟩ := h
  have n : ∀ q, (q < 56 ∨ 63 < q) → q ∉ l := fun q hq z => by have := hl q z; omega
  exact ⟨h1.fr hf (fun q hq z => by rw [rSh_mem] at hq; have := hl q z; omega), BdC.fr9 h2 hf (n _ (by decide)) (n _ (by decide)) (n _ (by decide)) (n _ (by decide)), hL, TpC.fr h4 hf (n _ (by decide)) (n _ (by decide)), h0, by rw [hf.i (n _ (by decide))]; exact h6, fun e => (h7 e).fr hf (fun q hq z => by rw [rSh_mem] at hq; have := hl q z; omega)⟩
theorem RefP.lists (h : RefP c s b ls it t tb kb s2) (hf : F8 l ks c c') (hL : LsAt c' 75 76 ls' it') (hl : ∀ q, q ∈ l → q = 74 ∨ q = 75 ∨ q = 76) (hk : ∀ k, k ∈ ks → k = 13) : RefP c' s b ls' it' t tb kb s2 := by
  obtain ⟨h1, h2, -, h4, h5, h6, h7⟩ := h
  have n : ∀ q, 68 < q → q ≠ 74 → q ≠ 75 → q ≠ 76 → q ∉ 68 :: l := fun q a1 a2 a3 a4 z => by
    rcases List.mem_cons.mp z with e | e
    · omega
    · have := hl q e; omega
  have m : ∀ k, k ≠ 13 → k ∉ ks := fun k a z => a (hk k z)
  refine ⟨h1.ag ⟨hf.2 _ (m _ (by decide)), hf.2 _ (m _ (by decide)), fun a _ => hf.i (n _ (by decide) (by decide) (by decide) (by decide)) a, fun a _ => hf.i (n _ (by decide) (by decide) (by decide) (by decide)) a, fun a _ => hf.i (n _ (by decide) (by decide) (by decide) (by decide)) a, fun a _ => hf.i (n _ (by decide) (by decide) (by decide) (by decide)) a⟩, ⟨by rw [hf.2 6 (m _ (by decide))]; exact h2.1, fun e => ?_⟩, hL, ⟨by rw [hf.2 20 (m _ (by decide))]; exact h4.1, fun i hi => by rw [hf.i (n _ (by decide) (by decide) (by decide) (by decide))]; exact h4.2 i hi⟩, h5.f8 hf (n _ (by decide) (by decide) (by decide) (by decide)) (n _ (by decide) (by decide) (by decide) (by decide)), by rw [hf.2 27 (m _ (by decide))]; exact h6, fun e => (h7 e).ag (AgS.kf hf (m _ (by decide)) (m _ (by decide)) (fun q a1 a2 => n q (by omega) (by omega) (by omega) (by omega)))⟩
  obtain ⟨a1, a2, a3, a4, a5⟩ := h2.2 e
  exact ⟨a1.fr hf.1 (n _ (by decide) (by decide) (by decide) (by decide)) (n _ (by decide) (by decide) (by decide) (by decide)), by rw [hf.2 8 (m _ (by decide))]; exact a2, a3, fun i g hg => by rw [hf.i (n _ (by decide) (by decide) (by decide) (by decide))]; exact a4 i g hg, by rw [hf.2 9 (m _ (by decide))]; exact a5⟩
theorem ClsP.tape {t' : Nat} {tb' : Nat → Nat} (h : ClsP c s b ls it t tb kb s2) (hf : Fr l c c') (hT : TpC c' 64 t' tb') (hl : ∀ q, q ∈ l → q = 64 ∨ q = 65) : ClsP c' s b ls it t' tb' kb s2 := by
  obtain ⟨h1, h2, h3, -, h5, h6, h7⟩ := h
  have n : ∀ q, (q ≠ 64 ∧ q ≠ 65) → q ∉ l := fun q hq z => by have := hl q z; omega
  exact ⟨h1.fr hf (fun q hq z => by rw [rSh_mem] at hq; have := hl q z; omega), BdC.fr9 h2 hf (n _ (by decide)) (n _ (by decide)) (n _ (by decide)) (n _ (by decide)), h3.fr hf (n _ (by decide)) (n _ (by decide)), hT, by rw [hf.i (n _ (by decide))]; exact h5, by rw [hf.i (n _ (by decide))]; exact h6, fun e => (h7 e).fr hf (fun q hq z => by rw [rSh_mem] at hq; have := hl q z; omega)⟩
theorem RefP.tape {t' : Nat} {tb' : Nat → Nat} (h : RefP c s b ls it t tb kb s2) (hf : F8 l ks c c') (hT : TpM c' t' tb') (hl : ∀ q, q ∈ l → q = 79) (hk : ∀ k, k ∈ ks → k = 20) : RefP c' s b ls it t' tb' kb s2 := by
  obtain ⟨h1, h2, h3, -, h5, h6, h7⟩ := h
  have n : ∀ q, 68 < q → q ≠ 79 → q ∉ 68 :: l := fun q a1 a2 z => by
    rcases List.mem_cons.mp z with e | e
    · omega
    · have := hl q e; omega
  have m : ∀ k, k ≠ 20 → k ∉ ks := fun k a z => a (hk k z)
  refine ⟨h1.ag ⟨hf.2 _ (m _ (by decide)), hf.2 _ (m _ (by decide)), fun a _ => hf.i (n _ (by decide) (by decide)) a, fun a _ => hf.i (n _ (by decide) (by decide)) a, fun a _ => hf.i (n _ (by decide) (by decide)) a, fun a _ => hf.i (n _ (by decide) (by decide)) a⟩, ⟨by rw [hf.2 6 (m _ (by decide))]; exact h2.1, fun e => ?_⟩, h3.fr hf.1 (n _ (by decide) (by decide)) (n _ (by decide) (by decide)), hT, h5.f8 hf (n _ (by decide) (by decide)) (n _ (by decide) (by decide)), by rw [hf.2 27 (m _ (by decide))]; exact h6, fun e => (h7 e).ag (AgS.kf hf (m _ (by decide)) (m _ (by decide)) (fun q a1 a2 => n q (by omega) (by omega)))⟩
  obtain ⟨a1, a2, a3, a4, a5⟩ := h2.2 e
  exact ⟨a1.fr hf.1 (n _ (by decide) (by decide)) (n _ (by decide) (by decide)), by rw [hf.2 8 (m _ (by decide))]; exact a2, a3, fun i g hg => by rw [hf.i (n _ (by decide) (by decide))]; exact a4 i g hg, by rw [hf.2 9 (m _ (by decide))]; exact a5⟩
end RS
section RT
variable {c c' : gm} {n N N' : Nat} {mir : Nat → Nat} {sz sz' : szT} {lb lb' : lbT} {fb : Bool} {fs : Nat} {fl : Nat → Nat → Nat} {b : bdT} {s2 : shT} {ls : lsT} {it : itT} {t : Nat} {tb : Nat → Nat} {kb : Bool} {l ks : List Nat}
theorem ClsP.nets (h : ClsP c (n, mir, N, sz, lb, fb, fs, fl) b ls it t tb kb s2) (hf : Fr (32 :: rN) c c') (hN : NN c' sz' lb') : ClsP c' (n, mir, N, sz', lb', fb, fs, fl) b ls it t tb kb s2 := by
  obtain ⟨a1, a2, ⟨s0, q0, a3, a4⟩, a5⟩ := h.1
  refine h.upd hf ⟨Tab.fr a1 hf (by decide) (by decide), fun j hj => ?_, ⟨s0, q0, NetAt.fr a3 hf (by decide) (by decide), a4⟩, by rw [hf.i (by decide)]; exact a5⟩ (BdC.fr9 h.2.1 hf (by decide) (by decide) (by decide) (by decide)) (by decide)
  have := hN j hj
  rw [show 1 + 6 + 2 * j = 7 + 2 * j by omega]
  exact this
theorem RefP.nets (h : RefP c (n, mir, N, sz, lb, fb, fs, fl) b ls it t tb kb s2) (hf : Fr [71, 72] c c') (ho : Oth c c') (hN : MN c' sz' lb') : RefP c' (n, mir, N, sz', lb', fb, fs, fl) b ls it t tb kb s2 := by
  obtain ⟨a1, a2, a3, a4⟩ := h.1
  refine h.upd (F8.of (ks := []) hf (by decide)) ⟨MT.fr a1 hf (by decide) (by decide) (by decide), hN, by rw [hf.i (by decide)]; exact a3, fun e => ho 3 (by decide) _ _ (by decide) (a4 e)⟩ ⟨by rw [hf.i (by decide)]; exact h.2.1.1, fun e => ?_⟩ (by decide) (by decide)
  obtain ⟨b1, b2, b3, b4, b5⟩ := h.2.1.2 e
  exact ⟨ho 4 (by decide) _ _ (by decide) b1, by rw [hf.i (by decide)]; exact b2, b3, fun i g hg => by rw [hf.i (by decide)]; exact b4 i g hg, by rw [hf.i (by decide)]; exact b5⟩
/-- the board's asks and labels don't depend on the threes -/
theorem InvB.thr (h : InvB (n, mir, N, sz, lb, fb, fs, fl) b) : InvB (n, mir, N', sz', lb', fb, fs, fl) b := fun e => ⟨(h e).1, (h e).2⟩
theorem ClsP.thr (h : ClsP c (n, mir, N, sz, lb, fb, fs, fl) b ls it t tb kb s2) (hf : Fr [2] c c') (hT : Tab c' 2 n mir N') : ClsP c' (n, mir, N', sz, lb, fb, fs, fl) b ls it t tb kb s2 := by
  obtain ⟨a1, a2, ⟨s0, q0, a3, a4⟩, a5⟩ := h.1
  exact h.upd hf ⟨hT, fun j hj => NetAt.fr (a2 j hj) hf (by simp; omega) (by simp; omega), ⟨s0, q0, NetAt.fr a3 hf (by decide) (by decide), a4⟩, by rw [hf.i (by decide)]; exact a5⟩ (BdC.fr9 h.2.1 hf (by decide) (by decide) (by decide) (by decide)) (by decide)
theorem RefP.thr (h : RefP c (n, mir, N, sz, lb, fb, fs, fl) b ls it t tb kb s2) (hf : F8 l ks c c') (hl : ∀ q, q ∈ l → q = 70 ∨ q = 80) (hk : ∀ k, k ∈ ks → k = 21 ∨ k = 22) (hT : MT c' n mir N') : RefP c' (n, mir, N', sz, lb, fb, fs, fl) b ls it t tb kb s2 := by
  obtain ⟨a1, a2, a3, a4⟩ := h.1
  have nn : ∀ q, 68 < q → q ≠ 70 → q ≠ 80 → q ∉ 68 :: l := fun q h1 h2 h3 z => by
    rcases List.mem_cons.mp z with e | e
    · omega
    · have := hl q e; omega
  have m : ∀ k, (k ≠ 21 ∧ k ≠ 22) → k ∉ ks := fun k a z => by have := hk k z; omega
  refine h.upd hf ⟨hT, fun j hj => MNet.fr (a2 j hj) hf.1 (nn _ (by decide) (by decide) (by decide)) (nn _ (by decide) (by decide) (by decide)), by rw [hf.2 5 (m _ (by decide))]; exact a3, fun e => MNet.fr (a4 e) hf.1 (nn _ (by decide) (by decide) (by decide)) (nn _ (by decide) (by decide) (by decide))⟩ ⟨by rw [hf.2 6 (m _ (by decide))]; exact h.2.1.1, fun e => ?_⟩ (fun q hq => by have := hl q hq; omega) (fun k hq => by have := hk k hq; omega)
  obtain ⟨b1, b2, b3, b4, b5⟩ := h.2.1.2 e
  exact ⟨MNet.fr b1 hf.1 (nn _ (by decide) (by decide) (by decide)) (nn _ (by decide) (by decide) (by decide)), by rw [hf.2 8 (m _ (by decide))]; exact b2, b3, fun i g hg => by rw [hf.i (nn _ (by decide) (by decide) (by decide))]; exact b4 i g hg, by rw [hf.2 9 (m _ (by decide))]; exact b5⟩
end RT
/-- a sheet with atoms alone, no board -/
abbrev fSh (n : Nat) (mir : Nat → Nat) (N : Nat) : shT := (n, mir, N, fun _ => 0, fun _ _ _ => 0, false, 0, fun _ _ => 0)
abbrev fBd : bdT := (false, 0, fun _ _ => 0, [], 0)
section RU
variable {c c' : gm} {s s2 : shT} {n N : Nat} {mir : Nat → Nat} {b : bdT} {ls : lsT} {it : itT} {t : Nat} {tb : Nat → Nat} {kb : Bool} {l ks : List Nat}
theorem InvS.fresh (h : Gd n mir N) : InvS (fSh n mir N) := ⟨h, fun _ _ p q hp => absurd hp (Nat.not_lt_zero _), fun e => by cases e⟩
theorem InvB.fresh : InvB s fBd := fun e => by cases e
theorem ClsP.fresh (h : ClsP c s b ls it t tb kb s2) (hf : Fr [1, 2, 3, 7, 9, 11, 52] c c') (hT : Tab c' 2 n mir N) (hz : ∀ j, j < 3 → c'.1 (7 + 2 * j) 0 = nI 0) (h1 : c'.1 1 3 = nI 0) (h2 : c'.1 52 1 = nI 0) : ClsP c' (fSh n mir N) fBd ls it t tb kb s2 := by
  obtain ⟨a1, a2, ⟨s0, q0, a3, a4⟩, a5⟩ := h.1
  refine h.upd hf ⟨hT, fun j hj => ⟨?_, Nat.zero_le _, fun p q hp => absurd hp (Nat.not_lt_zero _), fun p hp => ?_⟩, ⟨s0, q0, NetAt.fr a3 hf (by decide) (by decide), fun e => by cases e⟩, h1⟩ ⟨h2, fun e => by cases e⟩ (by decide)
  · rw [show 1 + 6 + 2 * j = 7 + 2 * j by omega]
    exact hz j hj
  · rw [hf.i (by simp; omega)]
    exact (a2 j hj).2.2.2 p hp
theorem RefP.fresh (h : RefP c s b ls it t tb kb s2) (hf : F8 l ks c c') (hl : ∀ q, q ∈ l → q ≤ 74 ∨ q = 80) (hk : ∀ k, k ∈ ks → k ≠ 20 ∧ k ≠ 27 ∧ k ≠ 28 ∧ k ≠ 33) (hT : MT c' n mir N) (hz : ∀ i, i < 6 → c'.1 71 i = nI 0) (h1 : c'.1 68 5 = nI 0) (h2 : c'.1 68 6 = nI 0) : RefP c' (fSh n mir N) fBd ls it t tb kb s2 :=
  h.upd hf ⟨hT, fun j hj => ⟨hz j (by omega), Nat.zero_le _, fun p q hp => absurd hp (Nat.not_lt_zero _)⟩, h1, fun e => by cases e⟩ ⟨h2, fun e => by cases e⟩ hl hk
end RU
section RV
variable {n N : Nat} {mir : Nat → Nat} {sz : szT} {lb : lbT}
theorem VV_set {a s' : Nat} {l' : Nat → Nat → Nat} (h : VV n mir sz lb) (h' : Vl n mir s' l') : VV n mir (fset sz a s') (lset lb a l') := fun j hj => by
  unfold fset lset
  by_cases e : j = a
  · rw [if_pos e, if_pos e]; exact h'
  · rw [if_neg e, if_neg e]; exact h j hj
theorem VV_nd (hG : Gd n mir N) (h : VV n mir sz lb) {net x : Int32} : VV n mir (sp_nd n mir sz lb net x).2.1 (sp_nd n mir sz lb net x).2.2 := by
  unfold sp_nd
  by_cases e1 : inR net 0 (3 : Nat) = true
  · obtain ⟨j, hj, rfl⟩ := inR_nI (by decide) e1
    rw [if_pos e1, w_nI (by omega)]
    by_cases e2 : sz j = 6
    · rw [if_pos e2]; exact h
    · rw [if_neg e2]
      by_cases e3 : aAt n x (sz j) 0 = true
      · rw [if_pos e3]
        exact VV_set h (gl_Vl hG (h j hj) (row_ok1 hG.n4 e3))
      · rw [if_neg e3]; exact h
  · rw [if_neg e1]; exact h
theorem VV_dr (h : VV n mir sz lb) {net : Int32} : VV n mir (sp_dr sz net).2 lb := by
  unfold sp_dr
  by_cases e1 : inR net 0 (3 : Nat) = true
  · rw [if_pos e1]
    by_cases e2 : sz (w net) = 0
    · rw [if_pos e2]; exact h
    · rw [if_neg e2]
      intro j hj
      show Vl n mir (fset sz (w net) (sz (w net) - 1) j) (lb j)
      unfold fset
      by_cases e : j = w net
      · rw [if_pos e, ← e]
        exact fun p q hp hq => h j hj p q (by omega) (by omega)
      · rw [if_neg e]; exact h j hj
  · rw [if_neg e1]; exact h
theorem Vl_rl (hG : Gd n mir N) {s p q a : Nat} {lab : Nat → Nat → Nat} (hv : Vl n mir s lab) (hpq : p ≠ q) (ha1 : 1 ≤ a) (ha : a < n) : Vl n mir s (rlb lab mir p q a) := fun u v hu hv2 => by
  have m1 := mir1 hG.mr ha1 ha
  have mm := hG.mm a ha
  unfold rlb
  by_cases c1 : u = q ∧ v = p
  · rw [if_pos c1, if_neg (fun z => by omega), if_pos ⟨c1.2, c1.1⟩]
    exact ⟨m1.2, ⟨fun z => by omega, fun z => by omega⟩, mm.symm⟩
  · rw [if_neg c1]
    by_cases c2 : u = p ∧ v = q
    · rw [if_pos c2, if_pos ⟨c2.2, c2.1⟩]
      exact ⟨ha, ⟨fun z => by omega, fun z => by omega⟩, rfl⟩
    · rw [if_neg c2, if_neg (fun z => c2 ⟨z.2, z.1⟩), if_neg (fun z => c1 ⟨z.2, z.1⟩)]
      exact hv u v hu hv2
theorem VV_rl (hG : Gd n mir N) (h : VV n mir sz lb) {net x y a : Int32} : VV n mir sz (sp_rl n mir sz lb net x y a).2 := by
  unfold sp_rl
  by_cases e1 : inR net 0 (3 : Nat) = true ∧ inR x 0 (sz (w net)) = true ∧ inR y 0 (sz (w net)) = true ∧ x ≠ y ∧ inR a 1 n = true
  · rw [if_pos e1]
    obtain ⟨h1, h2, h3, h4, h5⟩ := e1
    have n4 := hG.n4
    have ha := inR1_nI (by omega) h5
    intro j hj
    show Vl n mir (sz j) (lset lb (w net) _ j)
    unfold lset
    by_cases e : j = w net
    · rw [if_pos e, ← e]
      refine Vl_rl hG (h j hj) (fun z => h4 ?_) ha.1 ha.2.1
      rw [← e] at h2 h3
      unfold inR at h2 h3
      have g2 := of_decide_eq_true h2
      have g3 := of_decide_eq_true h3
      apply Int32.toInt_inj.mp
      have z2 : x.toInt.toNat = y.toInt.toNat := z
      omega
    · rw [if_neg e]; exact h j hj
  · rw [if_neg e1]; exact h
theorem VV_cy (h : VV n mir sz lb) {net oth : Int32} : VV n mir (sp_cy sz lb net oth).2.1 (sp_cy sz lb net oth).2.2 := by
  unfold sp_cy
  by_cases e1 : inR net 0 (3 : Nat) = true ∧ inR oth 0 (3 : Nat) = true
  · rw [if_pos e1]
    obtain ⟨j, hj, rfl⟩ := inR_nI (by decide) e1.1
    rw [w_nI (by omega)]
    exact VV_set h (h j hj)
  · rw [if_neg e1]; exact h
end RV
