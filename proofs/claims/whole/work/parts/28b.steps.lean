/-! each call: both answer alike, and the relation holds again -/
def TwI (E : gk_E) (dd : Nat) (M1 M2 : gk_M) (as : List Value) (c : gm) : Prop := ∀ K : gk_H → Prop, (∀ c', Rel c' → K (Hm c')) → RnI E M1 (dd, 0, 0) (.ref 0 :: as) (Hm c) (fun v1 h1 => (∃ fs, h1[68]? = some (.inr (11, fs))) ∧ RnI E M2 (dd, 0, 0) (.ref 68 :: as) h1 (fun v2 h2 => v2 = v1 ∧ K h2))
def TwL (E : gk_E) (dd : Nat) (M1 M2 : gk_M) (as : List Value) (c : gm) : Prop := ∀ K : gk_H → Prop, (∀ c', Rel c' → K (Hm c')) → RnL E M1 (dd, 0, 0) (.ref 0 :: as) (Hm c) (fun v1 h1 => (∃ fs, h1[68]? = some (.inr (11, fs))) ∧ RnL E M2 (dd, 0, 0) (.ref 68 :: as) h1 (fun v2 h2 => v2 = v1 ∧ K h2))
section SX
variable {c c' : gm} {n N N' : Nat} {mir : Nat → Nat} {sz : szT} {lb : lbT} {fb fb' : Bool} {fs fs' : Nat} {fl fl' : Nat → Nat → Nat} {b b' : bdT} {s s' s2 : shT} {ls : lsT} {it : itT} {t t' : Nat} {tb tb' : Nat → Nat} {kb : Bool} {l ks : List Nat}
theorem brC (hG : Gd n mir N) (hF : fb = true → Vl n mir fs fl) (h : ClsP c (n, mir, N, sz, lb, fb, fs, fl) b ls it t tb kb s2) : BrC c fb fs fl := by
  obtain ⟨a1, a2, ⟨s0, q0, a3, a4⟩, a5⟩ := h.1
  exact ⟨a5, fun e => by
    obtain ⟨e1, e2⟩ := a4 e
    subst e1; subst e2
    exact ⟨a3, (hF e).lt hG.n4⟩⟩
theorem brM (hG : Gd n mir N) (hF : fb = true → Vl n mir fs fl) (h : RefP c (n, mir, N, sz, lb, fb, fs, fl) b ls it t tb kb s2) : BrM c fb fs fl := ⟨h.1.2.2.1, fun e => ⟨h.1.2.2.2 e, (hF e).z, (hF e).lt hG.n4⟩⟩
theorem ClsP.bar (h : ClsP c (n, mir, N, sz, lb, fb, fs, fl) b ls it t tb kb s2) (hf : Fr [1, 5, 6] c c') (hb : c'.1 1 3 = bI fb') (h5 : ∃ s0 q0, NetAt c' 5 s0 q0 ∧ (fb' = true → s0 = fs' ∧ q0 = fl')) : ClsP c' (n, mir, N, sz, lb, fb', fs', fl') b ls it t tb kb s2 := by
  obtain ⟨a1, a2, -, -⟩ := h.1
  exact h.upd hf ⟨Tab.fr a1 hf (by decide) (by decide), fun j hj => NetAt.fr (a2 j hj) hf (by simp; omega) (by simp; omega), h5, hb⟩ (BdC.fr9 h.2.1 hf (by decide) (by decide) (by decide) (by decide)) (by decide)
theorem RefP.bar (h : RefP c (n, mir, N, sz, lb, fb, fs, fl) b ls it t tb kb s2) (hf : F8 [71, 72] [5] c c') (ho : ∀ i s l, i ≠ 3 → MNet c i s l → MNet c' i s l) (hb : c'.1 68 5 = bI fb') (h3 : fb' = true → MNet c' 3 fs' fl') : RefP c' (n, mir, N, sz, lb, fb', fs', fl') b ls it t tb kb s2 := by
  obtain ⟨a1, a2, -, -⟩ := h.1
  refine h.upd hf ⟨MT.f8 a1 hf (by decide) (by decide) (by decide), fun j hj => ho j _ _ (by omega) (a2 j hj), hb, h3⟩ ⟨by rw [hf.2 6 (by decide)]; exact h.2.1.1, fun e => ?_⟩ (by decide) (by decide)
  obtain ⟨b1, b2, b3, b4, b5⟩ := h.2.1.2 e
  exact ⟨ho 4 _ _ (by decide) b1, by rw [hf.2 8 (by decide)]; exact b2, b3, fun i g hg => by rw [hf.i (by decide)]; exact b4 i g hg, by rw [hf.2 9 (by decide)]; exact b5⟩
theorem ClsP.desk (h : ClsP c s b ls it t tb kb s2) {l : List Nat} (hf : Fr l c c') (hB : BdC' c' b') (hl : ∀ q, q ∈ l → 25 ≤ q ∧ q < 56 := by decide) : ClsP c' s b' ls it t tb kb s2 := h.upd hf (h.1.fr hf (fun q hq z => by rw [rSh_mem] at hq; have := hl q z; omega)) hB (fun q hq => by have := hl q hq; omega)
theorem RefP.desk (h : RefP c (n, mir, N, sz, lb, fb, fs, fl) b ls it t tb kb s2) (hf : FD c c') (hB : BdM' c' b') : RefP c' (n, mir, N, sz, lb, fb, fs, fl) b' ls it t tb kb s2 := by
  obtain ⟨a1, a2, a3, a4⟩ := h.1
  exact h.upd hf.1 ⟨MT.fd a1 hf, fun j hj => hf.2 j _ _ (by omega) (a2 j hj), by rw [hf.1.2 5 (by decide)]; exact a3, fun e => hf.2 3 _ _ (by decide) (a4 e)⟩ hB (by decide) (by decide)
theorem AqV.rot {s0 : Nat} {lab : Nat → Nat → Nat} {aq : List Nat} (h : AqV N n s0 lab aq) : AqV N n s0 lab (rotL aq) := by
  cases aq with
  | nil => exact h
  | cons g r =>
    have p : (rotL (g :: r)).Perm (g :: r) := List.perm_append_singleton g r
    exact ⟨p.nodup_iff.mpr h.1, fun x hx => h.2 x (p.mem_iff.mp hx)⟩
theorem RefP.updT (h : RefP c s b ls it t tb kb s2) (hf : F8 l ks c c') (hS : ShM' c' s') (hB : BdM' c' b') (hl : ∀ q, q ∈ l → q ≤ 74 ∨ q = 80) (hk : ∀ k, k ∈ ks → k ≠ 27 ∧ k ≠ 28 ∧ k ≠ 33) (hT : TpM c' t' tb') : RefP c' s' b' ls it t' tb' kb s2 := by
  obtain ⟨-, -, h3, -, h5, h6, h7⟩ := h
  have n : ∀ q, 74 < q → q ≠ 80 → q ∉ 68 :: l := fun q h1 h2 z => by
    rcases List.mem_cons.mp z with e | e
    · omega
    · have := hl q e; omega
  have m : ∀ k, k ∈ [27, 28, 33] → k ∉ ks := fun k hq z => by
    have := hk k z
    simp only [List.mem_cons, List.not_mem_nil, or_false] at hq
    omega
  exact ⟨hS, hB, h3.fr hf.1 (n _ (by decide) (by decide)) (n _ (by decide) (by decide)), hT, h5.f8 hf (n _ (by decide) (by decide)) (n _ (by decide) (by decide)), by rw [hf.2 27 (m _ (by decide))]; exact h6, fun e => (h7 e).ag (AgS.kf hf (m _ (by decide)) (m _ (by decide)) (fun q a1 a2 => n q (by omega) (by omega)))⟩
theorem RefP.freshT (h : RefP c s b ls it t tb kb s2) (hf : F8 l ks c c') (hl : ∀ q, q ∈ l → q ≤ 74 ∨ q = 80) (hk : ∀ k, k ∈ ks → k ≠ 27 ∧ k ≠ 28 ∧ k ≠ 33) (hT : MT c' n mir N) (hz : ∀ i, i < 6 → c'.1 71 i = nI 0) (h1 : c'.1 68 5 = nI 0) (h2 : c'.1 68 6 = nI 0) (hP : TpM c' t' tb') : RefP c' (fSh n mir N) fBd ls it t' tb' kb s2 :=
  h.updT hf ⟨hT, fun j hj => ⟨hz j (by omega), Nat.zero_le _, fun p q hp => absurd hp (Nat.not_lt_zero _)⟩, h1, fun e => by cases e⟩ ⟨h2, fun e => by cases e⟩ hl hk hP
theorem RefP.thrT (h : RefP c (n, mir, N, sz, lb, fb, fs, fl) b ls it t tb kb s2) (hf : F8 l ks c c') (hl : ∀ q, q ∈ l → q = 70 ∨ q = 80) (hk : ∀ k, k ∈ ks → k = 20 ∨ k = 21 ∨ k = 22) (hT : MT c' n mir N') (hP : TpM c' t' tb') : RefP c' (n, mir, N', sz, lb, fb, fs, fl) b ls it t' tb' kb s2 := by
  obtain ⟨a1, a2, a3, a4⟩ := h.1
  have nn : ∀ q, 68 < q → q ≠ 70 → q ≠ 80 → q ∉ 68 :: l := fun q h1 h2 h3 z => by
    rcases List.mem_cons.mp z with e | e
    · omega
    · have := hl q e; omega
  have m : ∀ k, (k ≠ 20 ∧ k ≠ 21 ∧ k ≠ 22) → k ∉ ks := fun k a z => by have := hk k z; omega
  refine h.updT hf ⟨hT, fun j hj => MNet.fr (a2 j hj) hf.1 (nn _ (by decide) (by decide) (by decide)) (nn _ (by decide) (by decide) (by decide)), by rw [hf.2 5 (m _ (by decide))]; exact a3, fun e => MNet.fr (a4 e) hf.1 (nn _ (by decide) (by decide) (by decide)) (nn _ (by decide) (by decide) (by decide))⟩ ⟨by rw [hf.2 6 (m _ (by decide))]; exact h.2.1.1, fun e => ?_⟩ (fun q hq => by have := hl q hq; omega) (fun k hq => by have := hk k hq; omega) hP
  obtain ⟨b1, b2, b3, b4, b5⟩ := h.2.1.2 e
  exact ⟨MNet.fr b1 hf.1 (nn _ (by decide) (by decide) (by decide)) (nn _ (by decide) (by decide) (by decide)), by rw [hf.2 8 (m _ (by decide))]; exact b2, b3, fun i g hg => by rw [hf.i (nn _ (by decide) (by decide) (by decide))]; exact b4 i g hg, by rw [hf.2 9 (m _ (by decide))]; exact b5⟩
theorem ClsP.keep (h : ClsP c s b ls it t tb kb s2) (hf : Fr (0 :: rSh 13) c c') (hS : ShC' c' 13 s) (h1 : c'.1 0 2 = nI 1) : ClsP c' s b ls it t tb true s :=
  ⟨h.1.fr hf (fun q hq z => by
    rw [rSh_mem] at hq
    rcases List.mem_cons.mp z with e | e
    · omega
    · rw [rSh_mem] at e; omega), BdC.fr9 h.2.1 hf (by decide) (by decide) (by decide) (by decide), h.2.2.1.fr hf (by decide) (by decide), TpC.fr h.2.2.2.1 hf (by decide) (by decide), by rw [hf.i (by decide)]; exact h.2.2.2.2.1, h1, fun _ => hS⟩
theorem RefP.keep (h : RefP c s b ls it t tb kb s2) (hf : F8 [81, 82, 83, 84] [27, 28, 33] c c') (hS : ShM' (kp c') s) (h1 : c'.1 68 27 = nI 1) : RefP c' s b ls it t tb true s := by
  obtain ⟨g1, g2, g3, g4, g5, -, -⟩ := h
  refine ⟨g1.ag ⟨hf.2 _ (by decide), hf.2 _ (by decide), fun a _ => hf.i (by decide) a, fun a _ => hf.i (by decide) a, fun a _ => hf.i (by decide) a, fun a _ => hf.i (by decide) a⟩, ⟨by rw [hf.2 6 (by decide)]; exact g2.1, fun e => ?_⟩, g3.fr hf.1 (by decide) (by decide), ⟨by rw [hf.2 20 (by decide)]; exact g4.1, fun i hi => by rw [hf.i (by decide)]; exact g4.2 i hi⟩, g5.f8 hf (by decide) (by decide), h1, fun _ => hS⟩
  obtain ⟨b1, b2, b3, b4, b5⟩ := g2.2 e
  exact ⟨MNet.fr b1 hf.1 (by decide) (by decide), by rw [hf.2 8 (by decide)]; exact b2, b3, fun i g hg => by rw [hf.i (by decide)]; exact b4 i g hg, by rw [hf.2 9 (by decide)]; exact b5⟩
theorem doS_K {s s' : TS} {i : Nat} {x y z : Int32} (h : doS s i x y z = some s') (hf : s'.2.2.2 = false) : s.2.2.2 = false ∧ s'.1 = s.1 ∧ s'.2.1 = s.2.1 := by
  unfold doS at h
  by_cases i0 : i = 0
  · rw [if_pos i0] at h
    by_cases e : inR x 1 (5 : Nat) = true
    · rw [if_pos e] at h
      rw [← Option.some.inj h] at hf
      cases hf
    · rw [if_neg e] at h; cases h
  · rw [if_neg i0] at h
    by_cases i1 : i = 1
    · rw [if_pos i1] at h
      by_cases e : (inR x 1 s.1 && inR y 1 s.1) = true
      · rw [if_pos e] at h
        rw [← Option.some.inj h] at hf
        cases hf
      · rw [if_neg e] at h; cases h
    · rw [if_neg i1] at h
      cases e : tri0 s.1 x y z (nI (if i = 2 then 1 else 0)) with
      | none =>
        rw [e] at h
        dsimp only at h
        rw [← Option.some.inj h] at hf ⊢
        exact ⟨hf, rfl, rfl⟩
      | some r =>
        rw [e] at h
        cases h
theorem exe_GK : ∀ (k p dn : Nat) (s : TS), Gd s.1 s.2.1 s.2.2.1 → Gd (exe tb t k p dn s).2.1 (exe tb t k p dn s).2.2.1 (exe tb t k p dn s).2.2.2.1 ∧ ((exe tb t k p dn s).2.2.2.2 = false → s.2.2.2 = false ∧ (exe tb t k p dn s).2.1 = s.1 ∧ (exe tb t k p dn s).2.2.1 = s.2.1)
  | 0, _, _, s, hG => ⟨hG, fun h => ⟨h, rfl, rfl⟩⟩
  | k + 1, p, dn, s, hG => by
    unfold exe
    by_cases h1 : t ≤ p
    · rw [if_pos h1]
      exact ⟨hG, fun h => ⟨h, rfl, rfl⟩⟩
    · rw [if_neg h1]
      cases ps tb t p with
      | inl q => exact ⟨hG, fun h => ⟨h, rfl, rfl⟩⟩
      | inr q =>
        obtain ⟨i, e⟩ := q
        dsimp only
        cases hd : doS s i (figI tb t (e + 1)) (figI tb t (e + 3)) (figI tb t (e + 5)) with
        | none => exact ⟨hG, fun h => ⟨h, rfl, rfl⟩⟩
        | some s' =>
          have ih := exe_GK k (e + 2 * fg i + 1) (dn + 1) s' (doS_G hG hd)
          refine ⟨ih.1, fun h => ?_⟩
          obtain ⟨a1, a2, a3⟩ := ih.2 h
          obtain ⟨b1, b2, b3⟩ := doS_K hd a1
          exact ⟨b1, a2.trans b2, a3.trans b3⟩
theorem rdA_G {s : TS} (hG : Gd s.1 s.2.1 s.2.2.1) : Gd (rdA tb t s).2.1 (rdA tb t s).2.2.1 (rdA tb t s).2.2.2.1 := by
  unfold rdA
  cases flt tb t 101 0 with
  | some f => exact hG
  | none => exact (exe_GK 100 0 0 s hG).1
theorem rdA_K {s : TS} (hG : Gd s.1 s.2.1 s.2.2.1) : (rdA tb t s).2.2.2.2 = false → (rdA tb t s).2.1 = s.1 ∧ (rdA tb t s).2.2.1 = s.2.1 := by
  unfold rdA
  cases flt tb t 101 0 with
  | some f => exact fun _ => ⟨rfl, rfl⟩
  | none => exact fun h => ((exe_GK 100 0 0 s hG).2 h).2
end SX
section ST
variable {E : gk_E} {dd : Nat} {c : gm}
set_option maxHeartbeats 1000000 in
theorem s_converse (hR : Rel c) {x : Int32} : TwI E (dd + 40) mX11_converse mX12_converse [.int x] c := by
  intro K k
  have hR' := hR
  obtain ⟨⟨n, mir, N, sz, lb, fb, fs, fl⟩, ⟨bd, bs, bl, aq, an⟩, ls, it, t, tb, kb, s2, hS, hB, hP, h2, hC, hM⟩ := hR
  have hG : Gd n mir N := hS.1
  have hV : VV n mir sz lb := hS.2.1
  have hF : fb = true → Vl n mir fs fl := hS.2.2
  have hT : Tab c 2 n mir N := hC.1.1
  have hN : NN c sz lb := hC.1.2.1
  have hBr := brC hG hF hC
  have hBC : BdC c bd bs bl aq an := hC.2.1
  have hLC : LsAt c 62 63 ls it := hC.2.2.1
  have hTC : TpC c 64 t tb := hC.2.2.2.1
  have h60 : c.1 60 0 = nI 0 := hC.2.2.2.2.1
  have hMT : MT c n mir N := hM.1.1
  have hMN : MN c sz lb := hM.1.2.1
  have hBrM := brM hG hF hM
  have hBM : BdM c bd bs bl aq an := hM.2.1
  have hLM : LsAt c 75 76 ls it := hM.2.2.1
  have hTM : TpM c t tb := hM.2.2.2.1
  have hW : WdM c := hM.2.2.2.2.1
  exact c_converse hT ⟨obj l68, n_converse hMT ⟨rfl, k c hR'⟩⟩
set_option maxHeartbeats 1000000 in
theorem s_isIn (hR : Rel c) {x : Int32} {y : Int32} {z : Int32} : TwI E (dd + 40) mX11_isIn mX12_isIn [.int x, .int y, .int z] c := by
  intro K k
  have hR' := hR
  obtain ⟨⟨n, mir, N, sz, lb, fb, fs, fl⟩, ⟨bd, bs, bl, aq, an⟩, ls, it, t, tb, kb, s2, hS, hB, hP, h2, hC, hM⟩ := hR
  have hG : Gd n mir N := hS.1
  have hV : VV n mir sz lb := hS.2.1
  have hF : fb = true → Vl n mir fs fl := hS.2.2
  have hT : Tab c 2 n mir N := hC.1.1
  have hN : NN c sz lb := hC.1.2.1
  have hBr := brC hG hF hC
  have hBC : BdC c bd bs bl aq an := hC.2.1
  have hLC : LsAt c 62 63 ls it := hC.2.2.1
  have hTC : TpC c 64 t tb := hC.2.2.2.1
  have h60 : c.1 60 0 = nI 0 := hC.2.2.2.2.1
  have hMT : MT c n mir N := hM.1.1
  have hMN : MN c sz lb := hM.1.2.1
  have hBrM := brM hG hF hM
  have hBM : BdM c bd bs bl aq an := hM.2.1
  have hLM : LsAt c 75 76 ls it := hM.2.2.1
  have hTM : TpM c t tb := hM.2.2.2.1
  have hW : WdM c := hM.2.2.2.2.1
  exact c_isIn hT ⟨obj l68, n_isIn hMT ⟨rfl, k c hR'⟩⟩
set_option maxHeartbeats 1000000 in
theorem s_compose (hR : Rel c) {x : Int32} {y : Int32} : TwI E (dd + 40) mX11_compose mX12_compose [.int x, .int y] c := by
  intro K k
  have hR' := hR
  obtain ⟨⟨n, mir, N, sz, lb, fb, fs, fl⟩, ⟨bd, bs, bl, aq, an⟩, ls, it, t, tb, kb, s2, hS, hB, hP, h2, hC, hM⟩ := hR
  have hG : Gd n mir N := hS.1
  have hV : VV n mir sz lb := hS.2.1
  have hF : fb = true → Vl n mir fs fl := hS.2.2
  have hT : Tab c 2 n mir N := hC.1.1
  have hN : NN c sz lb := hC.1.2.1
  have hBr := brC hG hF hC
  have hBC : BdC c bd bs bl aq an := hC.2.1
  have hLC : LsAt c 62 63 ls it := hC.2.2.1
  have hTC : TpC c 64 t tb := hC.2.2.2.1
  have h60 : c.1 60 0 = nI 0 := hC.2.2.2.2.1
  have hMT : MT c n mir N := hM.1.1
  have hMN : MN c sz lb := hM.1.2.1
  have hBrM := brM hG hF hM
  have hBM : BdM c bd bs bl aq an := hM.2.1
  have hLM : LsAt c 75 76 ls it := hM.2.2.1
  have hTM : TpM c t tb := hM.2.2.2.1
  have hW : WdM c := hM.2.2.2.2.1
  exact c_compose hT ⟨obj l68, n_compose hMT ⟨rfl, k c hR'⟩⟩
set_option maxHeartbeats 1000000 in
theorem s_over (hR : Rel c) {x : Int32} {y : Int32} {z : Int32} : TwI E (dd + 40) mX11_over mX12_over [.int x, .int y, .int z] c := by
  intro K k
  have hR' := hR
  obtain ⟨⟨n, mir, N, sz, lb, fb, fs, fl⟩, ⟨bd, bs, bl, aq, an⟩, ls, it, t, tb, kb, s2, hS, hB, hP, h2, hC, hM⟩ := hR
  have hG : Gd n mir N := hS.1
  have hV : VV n mir sz lb := hS.2.1
  have hF : fb = true → Vl n mir fs fl := hS.2.2
  have hT : Tab c 2 n mir N := hC.1.1
  have hN : NN c sz lb := hC.1.2.1
  have hBr := brC hG hF hC
  have hBC : BdC c bd bs bl aq an := hC.2.1
  have hLC : LsAt c 62 63 ls it := hC.2.2.1
  have hTC : TpC c 64 t tb := hC.2.2.2.1
  have h60 : c.1 60 0 = nI 0 := hC.2.2.2.2.1
  have hMT : MT c n mir N := hM.1.1
  have hMN : MN c sz lb := hM.1.2.1
  have hBrM := brM hG hF hM
  have hBM : BdM c bd bs bl aq an := hM.2.1
  have hLM : LsAt c 75 76 ls it := hM.2.2.1
  have hTM : TpM c t tb := hM.2.2.2.1
  have hW : WdM c := hM.2.2.2.2.1
  exact c_over hT ⟨obj l68, n_over hMT ⟨rfl, k c hR'⟩⟩
set_option maxHeartbeats 1000000 in
theorem s_solved (hR : Rel c) {x : Int32} {y : Int32} {z : Int32} {q : Int32} : TwI E (dd + 40) mX11_solved mX12_solved [.int x, .int y, .int z, .int q] c := by
  intro K k
  have hR' := hR
  obtain ⟨⟨n, mir, N, sz, lb, fb, fs, fl⟩, ⟨bd, bs, bl, aq, an⟩, ls, it, t, tb, kb, s2, hS, hB, hP, h2, hC, hM⟩ := hR
  have hG : Gd n mir N := hS.1
  have hV : VV n mir sz lb := hS.2.1
  have hF : fb = true → Vl n mir fs fl := hS.2.2
  have hT : Tab c 2 n mir N := hC.1.1
  have hN : NN c sz lb := hC.1.2.1
  have hBr := brC hG hF hC
  have hBC : BdC c bd bs bl aq an := hC.2.1
  have hLC : LsAt c 62 63 ls it := hC.2.2.1
  have hTC : TpC c 64 t tb := hC.2.2.2.1
  have h60 : c.1 60 0 = nI 0 := hC.2.2.2.2.1
  have hMT : MT c n mir N := hM.1.1
  have hMN : MN c sz lb := hM.1.2.1
  have hBrM := brM hG hF hM
  have hBM : BdM c bd bs bl aq an := hM.2.1
  have hLM : LsAt c 75 76 ls it := hM.2.2.1
  have hTM : TpM c t tb := hM.2.2.2.1
  have hW : WdM c := hM.2.2.2.2.1
  exact c_solved hT ⟨obj l68, n_solved hMT ⟨rfl, k c hR'⟩⟩
set_option maxHeartbeats 1000000 in
theorem s_equivalence (hR : Rel c) {q : Int32} : TwI E (dd + 40) mX11_equivalence mX12_equivalence [.int q] c := by
  intro K k
  have hR' := hR
  obtain ⟨⟨n, mir, N, sz, lb, fb, fs, fl⟩, ⟨bd, bs, bl, aq, an⟩, ls, it, t, tb, kb, s2, hS, hB, hP, h2, hC, hM⟩ := hR
  have hG : Gd n mir N := hS.1
  have hV : VV n mir sz lb := hS.2.1
  have hF : fb = true → Vl n mir fs fl := hS.2.2
  have hT : Tab c 2 n mir N := hC.1.1
  have hN : NN c sz lb := hC.1.2.1
  have hBr := brC hG hF hC
  have hBC : BdC c bd bs bl aq an := hC.2.1
  have hLC : LsAt c 62 63 ls it := hC.2.2.1
  have hTC : TpC c 64 t tb := hC.2.2.2.1
  have h60 : c.1 60 0 = nI 0 := hC.2.2.2.2.1
  have hMT : MT c n mir N := hM.1.1
  have hMN : MN c sz lb := hM.1.2.1
  have hBrM := brM hG hF hM
  have hBM : BdM c bd bs bl aq an := hM.2.1
  have hLM : LsAt c 75 76 ls it := hM.2.2.1
  have hTM : TpM c t tb := hM.2.2.2.1
  have hW : WdM c := hM.2.2.2.2.1
  exact c_equivalence hT ⟨obj l68, n_equivalence hMT ⟨rfl, k c hR'⟩⟩
set_option maxHeartbeats 1000000 in
theorem s_broken (hR : Rel c) {q : Int32} : TwI E (dd + 40) mX11_broken mX12_broken [.int q] c := by
  intro K k
  have hR' := hR
  obtain ⟨⟨n, mir, N, sz, lb, fb, fs, fl⟩, ⟨bd, bs, bl, aq, an⟩, ls, it, t, tb, kb, s2, hS, hB, hP, h2, hC, hM⟩ := hR
  have hG : Gd n mir N := hS.1
  have hV : VV n mir sz lb := hS.2.1
  have hF : fb = true → Vl n mir fs fl := hS.2.2
  have hT : Tab c 2 n mir N := hC.1.1
  have hN : NN c sz lb := hC.1.2.1
  have hBr := brC hG hF hC
  have hBC : BdC c bd bs bl aq an := hC.2.1
  have hLC : LsAt c 62 63 ls it := hC.2.2.1
  have hTC : TpC c 64 t tb := hC.2.2.2.1
  have h60 : c.1 60 0 = nI 0 := hC.2.2.2.2.1
  have hMT : MT c n mir N := hM.1.1
  have hMN : MN c sz lb := hM.1.2.1
  have hBrM := brM hG hF hM
  have hBM : BdM c bd bs bl aq an := hM.2.1
  have hLM : LsAt c 75 76 ls it := hM.2.2.1
  have hTM : TpM c t tb := hM.2.2.2.1
  have hW : WdM c := hM.2.2.2.2.1
  exact c_broken hT ⟨obj l68, n_broken hMT ⟨rfl, k c hR'⟩⟩
set_option maxHeartbeats 1000000 in
theorem s_cycles (hR : Rel c) {q : Int32} : TwI E (dd + 40) mX11_cycles mX12_cycles [.int q] c := by
  intro K k
  have hR' := hR
  obtain ⟨⟨n, mir, N, sz, lb, fb, fs, fl⟩, ⟨bd, bs, bl, aq, an⟩, ls, it, t, tb, kb, s2, hS, hB, hP, h2, hC, hM⟩ := hR
  have hG : Gd n mir N := hS.1
  have hV : VV n mir sz lb := hS.2.1
  have hF : fb = true → Vl n mir fs fl := hS.2.2
  have hT : Tab c 2 n mir N := hC.1.1
  have hN : NN c sz lb := hC.1.2.1
  have hBr := brC hG hF hC
  have hBC : BdC c bd bs bl aq an := hC.2.1
  have hLC : LsAt c 62 63 ls it := hC.2.2.1
  have hTC : TpC c 64 t tb := hC.2.2.2.1
  have h60 : c.1 60 0 = nI 0 := hC.2.2.2.2.1
  have hMT : MT c n mir N := hM.1.1
  have hMN : MN c sz lb := hM.1.2.1
  have hBrM := brM hG hF hM
  have hBM : BdM c bd bs bl aq an := hM.2.1
  have hLM : LsAt c 75 76 ls it := hM.2.2.1
  have hTM : TpM c t tb := hM.2.2.2.1
  have hW : WdM c := hM.2.2.2.2.1
  exact c_cycles hT ⟨obj l68, n_cycles hG hMT ⟨rfl, k c hR'⟩⟩
set_option maxHeartbeats 1000000 in
theorem s_label (hR : Rel c) {x : Int32} {y : Int32} {z : Int32} : TwI E (dd + 40) mX11_label mX12_label [.int x, .int y, .int z] c := by
  intro K k
  have hR' := hR
  obtain ⟨⟨n, mir, N, sz, lb, fb, fs, fl⟩, ⟨bd, bs, bl, aq, an⟩, ls, it, t, tb, kb, s2, hS, hB, hP, h2, hC, hM⟩ := hR
  have hG : Gd n mir N := hS.1
  have hV : VV n mir sz lb := hS.2.1
  have hF : fb = true → Vl n mir fs fl := hS.2.2
  have hT : Tab c 2 n mir N := hC.1.1
  have hN : NN c sz lb := hC.1.2.1
  have hBr := brC hG hF hC
  have hBC : BdC c bd bs bl aq an := hC.2.1
  have hLC : LsAt c 62 63 ls it := hC.2.2.1
  have hTC : TpC c 64 t tb := hC.2.2.2.1
  have h60 : c.1 60 0 = nI 0 := hC.2.2.2.2.1
  have hMT : MT c n mir N := hM.1.1
  have hMN : MN c sz lb := hM.1.2.1
  have hBrM := brM hG hF hM
  have hBM : BdM c bd bs bl aq an := hM.2.1
  have hLM : LsAt c 75 76 ls it := hM.2.2.1
  have hTM : TpM c t tb := hM.2.2.2.1
  have hW : WdM c := hM.2.2.2.2.1
  exact c_label hN ⟨obj l68, n_label hMN hV ⟨rfl, k c hR'⟩⟩
set_option maxHeartbeats 1000000 in
theorem s_sound (hR : Rel c) {x : Int32} : TwI E (dd + 40) mX11_sound mX12_sound [.int x] c := by
  intro K k
  have hR' := hR
  obtain ⟨⟨n, mir, N, sz, lb, fb, fs, fl⟩, ⟨bd, bs, bl, aq, an⟩, ls, it, t, tb, kb, s2, hS, hB, hP, h2, hC, hM⟩ := hR
  have hG : Gd n mir N := hS.1
  have hV : VV n mir sz lb := hS.2.1
  have hF : fb = true → Vl n mir fs fl := hS.2.2
  have hT : Tab c 2 n mir N := hC.1.1
  have hN : NN c sz lb := hC.1.2.1
  have hBr := brC hG hF hC
  have hBC : BdC c bd bs bl aq an := hC.2.1
  have hLC : LsAt c 62 63 ls it := hC.2.2.1
  have hTC : TpC c 64 t tb := hC.2.2.2.1
  have h60 : c.1 60 0 = nI 0 := hC.2.2.2.2.1
  have hMT : MT c n mir N := hM.1.1
  have hMN : MN c sz lb := hM.1.2.1
  have hBrM := brM hG hF hM
  have hBM : BdM c bd bs bl aq an := hM.2.1
  have hLM : LsAt c 75 76 ls it := hM.2.2.1
  have hTM : TpM c t tb := hM.2.2.2.1
  have hW : WdM c := hM.2.2.2.2.1
  exact c_sound hT hN hV ⟨obj l68, n_sound hG hMT hMN hV ⟨rfl, k c hR'⟩⟩
set_option maxHeartbeats 1000000 in
theorem s_gap (hR : Rel c) {x : Int32} {q : Int32} : TwI E (dd + 40) mX11_gap mX12_gap [.int x, .int q] c := by
  intro K k
  have hR' := hR
  obtain ⟨⟨n, mir, N, sz, lb, fb, fs, fl⟩, ⟨bd, bs, bl, aq, an⟩, ls, it, t, tb, kb, s2, hS, hB, hP, h2, hC, hM⟩ := hR
  have hG : Gd n mir N := hS.1
  have hV : VV n mir sz lb := hS.2.1
  have hF : fb = true → Vl n mir fs fl := hS.2.2
  have hT : Tab c 2 n mir N := hC.1.1
  have hN : NN c sz lb := hC.1.2.1
  have hBr := brC hG hF hC
  have hBC : BdC c bd bs bl aq an := hC.2.1
  have hLC : LsAt c 62 63 ls it := hC.2.2.1
  have hTC : TpC c 64 t tb := hC.2.2.2.1
  have h60 : c.1 60 0 = nI 0 := hC.2.2.2.2.1
  have hMT : MT c n mir N := hM.1.1
  have hMN : MN c sz lb := hM.1.2.1
  have hBrM := brM hG hF hM
  have hBM : BdM c bd bs bl aq an := hM.2.1
  have hLM : LsAt c 75 76 ls it := hM.2.2.1
  have hTM : TpM c t tb := hM.2.2.2.1
  have hW : WdM c := hM.2.2.2.2.1
  exact c_gap hT hN hV ⟨obj l68, n_gap hMT hMN hV ⟨rfl, k c hR'⟩⟩
set_option maxHeartbeats 1000000 in
theorem s_ask (hR : Rel c) {x : Int32} : TwI E (dd + 40) mX11_ask mX12_ask [.int x] c := by
  intro K k
  have hR' := hR
  obtain ⟨⟨n, mir, N, sz, lb, fb, fs, fl⟩, ⟨bd, bs, bl, aq, an⟩, ls, it, t, tb, kb, s2, hS, hB, hP, h2, hC, hM⟩ := hR
  have hG : Gd n mir N := hS.1
  have hV : VV n mir sz lb := hS.2.1
  have hF : fb = true → Vl n mir fs fl := hS.2.2
  have hT : Tab c 2 n mir N := hC.1.1
  have hN : NN c sz lb := hC.1.2.1
  have hBr := brC hG hF hC
  have hBC : BdC c bd bs bl aq an := hC.2.1
  have hLC : LsAt c 62 63 ls it := hC.2.2.1
  have hTC : TpC c 64 t tb := hC.2.2.2.1
  have h60 : c.1 60 0 = nI 0 := hC.2.2.2.2.1
  have hMT : MT c n mir N := hM.1.1
  have hMN : MN c sz lb := hM.1.2.1
  have hBrM := brM hG hF hM
  have hBM : BdM c bd bs bl aq an := hM.2.1
  have hLM : LsAt c 75 76 ls it := hM.2.2.1
  have hTM : TpM c t tb := hM.2.2.2.1
  have hW : WdM c := hM.2.2.2.2.1
  exact c_ask hBC ⟨obj l68, n_ask hBM ⟨rfl, k c hR'⟩⟩
set_option maxHeartbeats 1000000 in
theorem s_board (hR : Rel c) {x : Int32} : TwI E (dd + 40) mX11_board mX12_board [.int x] c := by
  intro K k
  have hR' := hR
  obtain ⟨⟨n, mir, N, sz, lb, fb, fs, fl⟩, ⟨bd, bs, bl, aq, an⟩, ls, it, t, tb, kb, s2, hS, hB, hP, h2, hC, hM⟩ := hR
  have hG : Gd n mir N := hS.1
  have hV : VV n mir sz lb := hS.2.1
  have hF : fb = true → Vl n mir fs fl := hS.2.2
  have hT : Tab c 2 n mir N := hC.1.1
  have hN : NN c sz lb := hC.1.2.1
  have hBr := brC hG hF hC
  have hBC : BdC c bd bs bl aq an := hC.2.1
  have hLC : LsAt c 62 63 ls it := hC.2.2.1
  have hTC : TpC c 64 t tb := hC.2.2.2.1
  have h60 : c.1 60 0 = nI 0 := hC.2.2.2.2.1
  have hMT : MT c n mir N := hM.1.1
  have hMN : MN c sz lb := hM.1.2.1
  have hBrM := brM hG hF hM
  have hBM : BdM c bd bs bl aq an := hM.2.1
  have hLM : LsAt c 75 76 ls it := hM.2.2.1
  have hTM : TpM c t tb := hM.2.2.2.1
  have hW : WdM c := hM.2.2.2.2.1
  exact c_board hBC ⟨obj l68, n_board hBM ⟨rfl, k c hR'⟩⟩
set_option maxHeartbeats 1000000 in
theorem s_get (hR : Rel c) {x : Int32} {y : Int32} : TwL E (dd + 40) mX11_get mX12_get [.int x, .int y] c := by
  intro K k
  have hR' := hR
  obtain ⟨⟨n, mir, N, sz, lb, fb, fs, fl⟩, ⟨bd, bs, bl, aq, an⟩, ls, it, t, tb, kb, s2, hS, hB, hP, h2, hC, hM⟩ := hR
  have hG : Gd n mir N := hS.1
  have hV : VV n mir sz lb := hS.2.1
  have hF : fb = true → Vl n mir fs fl := hS.2.2
  have hT : Tab c 2 n mir N := hC.1.1
  have hN : NN c sz lb := hC.1.2.1
  have hBr := brC hG hF hC
  have hBC : BdC c bd bs bl aq an := hC.2.1
  have hLC : LsAt c 62 63 ls it := hC.2.2.1
  have hTC : TpC c 64 t tb := hC.2.2.2.1
  have h60 : c.1 60 0 = nI 0 := hC.2.2.2.2.1
  have hMT : MT c n mir N := hM.1.1
  have hMN : MN c sz lb := hM.1.2.1
  have hBrM := brM hG hF hM
  have hBM : BdM c bd bs bl aq an := hM.2.1
  have hLM : LsAt c 75 76 ls it := hM.2.2.1
  have hTM : TpM c t tb := hM.2.2.2.1
  have hW : WdM c := hM.2.2.2.2.1
  exact c_get hLC ⟨obj l68, n_get hLM ⟨rfl, k c hR'⟩⟩
set_option maxHeartbeats 1000000 in
theorem s_count (hR : Rel c) {x : Int32} : TwI E (dd + 40) mX11_count mX12_count [.int x] c := by
  intro K k
  have hR' := hR
  obtain ⟨⟨n, mir, N, sz, lb, fb, fs, fl⟩, ⟨bd, bs, bl, aq, an⟩, ls, it, t, tb, kb, s2, hS, hB, hP, h2, hC, hM⟩ := hR
  have hG : Gd n mir N := hS.1
  have hV : VV n mir sz lb := hS.2.1
  have hF : fb = true → Vl n mir fs fl := hS.2.2
  have hT : Tab c 2 n mir N := hC.1.1
  have hN : NN c sz lb := hC.1.2.1
  have hBr := brC hG hF hC
  have hBC : BdC c bd bs bl aq an := hC.2.1
  have hLC : LsAt c 62 63 ls it := hC.2.2.1
  have hTC : TpC c 64 t tb := hC.2.2.2.1
  have h60 : c.1 60 0 = nI 0 := hC.2.2.2.2.1
  have hMT : MT c n mir N := hM.1.1
  have hMN : MN c sz lb := hM.1.2.1
  have hBrM := brM hG hF hM
  have hBM : BdM c bd bs bl aq an := hM.2.1
  have hLM : LsAt c 75 76 ls it := hM.2.2.1
  have hTM : TpM c t tb := hM.2.2.2.1
  have hW : WdM c := hM.2.2.2.2.1
  exact c_count hT hN hLC hTC hBr.1 (fun e => (hBr.2 e).1) ⟨obj l68, n_count hMT hMN hLM hTM hBrM.1 (fun e => (hBrM.2 e).1) ⟨rfl, k c hR'⟩⟩
set_option maxHeartbeats 1000000 in
theorem s_power (hR : Rel c) {x : Int32} {q : Int32} : TwI E (dd + 40) mX11_power mX12_power [.int x, .int q] c := by
  intro K k
  have hR' := hR
  obtain ⟨⟨n, mir, N, sz, lb, fb, fs, fl⟩, ⟨bd, bs, bl, aq, an⟩, ls, it, t, tb, kb, s2, hS, hB, hP, h2, hC, hM⟩ := hR
  have hG : Gd n mir N := hS.1
  have hV : VV n mir sz lb := hS.2.1
  have hF : fb = true → Vl n mir fs fl := hS.2.2
  have hT : Tab c 2 n mir N := hC.1.1
  have hN : NN c sz lb := hC.1.2.1
  have hBr := brC hG hF hC
  have hBC : BdC c bd bs bl aq an := hC.2.1
  have hLC : LsAt c 62 63 ls it := hC.2.2.1
  have hTC : TpC c 64 t tb := hC.2.2.2.1
  have h60 : c.1 60 0 = nI 0 := hC.2.2.2.2.1
  have hMT : MT c n mir N := hM.1.1
  have hMN : MN c sz lb := hM.1.2.1
  have hBrM := brM hG hF hM
  have hBM : BdM c bd bs bl aq an := hM.2.1
  have hLM : LsAt c 75 76 ls it := hM.2.2.1
  have hTM : TpM c t tb := hM.2.2.2.1
  have hW : WdM c := hM.2.2.2.2.1
  by_cases e : inR x 0 (2 ^ n : Nat) = true
  · have n4 := hG.n4
    have h16 : 2 ^ n ≤ 16 := Nat.pow_le_pow_right (by decide) n4
    obtain ⟨j, hj, hx⟩ := inR_nI (by omega) e
    obtain ⟨U, T, hPW⟩ := PW_ex hG (x := w x) (by rw [hx, w_nI (by omega)]; exact hj)
    exact c_power hG hT (fun _ => hPW) ⟨obj l68, n_power hG hMT (fun _ => hPW) ⟨rfl, k c hR'⟩⟩
  · exact c_power (U := 0) (T := 0) hG hT (fun z => absurd z e) ⟨obj l68, n_power (U := 0) (T := 0) hG hMT (fun z => absurd z e) ⟨rfl, k c hR'⟩⟩
set_option maxHeartbeats 1000000 in
theorem s_atoms (hR : Rel c) {x : Int32} : TwI E (dd + 40) mX11_atoms mX12_atoms [.int x] c := by
  intro K k
  have hR' := hR
  obtain ⟨⟨n, mir, N, sz, lb, fb, fs, fl⟩, ⟨bd, bs, bl, aq, an⟩, ls, it, t, tb, kb, s2, hS, hB, hP, h2, hC, hM⟩ := hR
  have hG : Gd n mir N := hS.1
  have hV : VV n mir sz lb := hS.2.1
  have hF : fb = true → Vl n mir fs fl := hS.2.2
  have hT : Tab c 2 n mir N := hC.1.1
  have hN : NN c sz lb := hC.1.2.1
  have hBr := brC hG hF hC
  have hBC : BdC c bd bs bl aq an := hC.2.1
  have hLC : LsAt c 62 63 ls it := hC.2.2.1
  have hTC : TpC c 64 t tb := hC.2.2.2.1
  have h60 : c.1 60 0 = nI 0 := hC.2.2.2.2.1
  have hMT : MT c n mir N := hM.1.1
  have hMN : MN c sz lb := hM.1.2.1
  have hBrM := brM hG hF hM
  have hBM : BdM c bd bs bl aq an := hM.2.1
  have hLM : LsAt c 75 76 ls it := hM.2.2.1
  have hTM : TpM c t tb := hM.2.2.2.1
  have hW : WdM c := hM.2.2.2.2.1
  by_cases e : inR x 1 (5 : Nat) = true
  · refine c_atoms hT (fun z => by rw [z] at e; cases e) (fun _ c1 f1 T1 z1 b1 d1 => ⟨obj l68, ?_⟩)
    have hM1 := hM.fr f1 (by decide)
    refine n_atoms hM1.1.1 (fun z => by rw [z] at e; cases e) (fun _ c2 f2 T2 z2 b2 d2 => ⟨rfl, k c2 ?_⟩)
    have g := inR1_nI (by decide) e
    exact ⟨fSh (w x) (fun a => a) (fixB (fun a => a) (w x)), fBd, ls, it, t, tb, kb, s2, InvS.fresh (Gd_fix (Mr_id g.1 (by omega))), InvB.fresh, hP, h2, (hC.fresh f1 T1 z1 b1 d1).fr f2.1 (by decide), hM1.fresh f2 (by decide) (by decide) T2 z2 b2 d2⟩
  · exact c_atoms hT (fun _ => ⟨obj l68, n_atoms hMT (fun _ => ⟨rfl, k c hR'⟩) (fun z => absurd z e)⟩) (fun z => absurd z e)
set_option maxHeartbeats 1000000 in
theorem s_pair (hR : Rel c) {x : Int32} {y : Int32} : TwI E (dd + 40) mX11_pair mX12_pair [.int x, .int y] c := by
  intro K k
  have hR' := hR
  obtain ⟨⟨n, mir, N, sz, lb, fb, fs, fl⟩, ⟨bd, bs, bl, aq, an⟩, ls, it, t, tb, kb, s2, hS, hB, hP, h2, hC, hM⟩ := hR
  have hG : Gd n mir N := hS.1
  have hV : VV n mir sz lb := hS.2.1
  have hF : fb = true → Vl n mir fs fl := hS.2.2
  have hT : Tab c 2 n mir N := hC.1.1
  have hN : NN c sz lb := hC.1.2.1
  have hBr := brC hG hF hC
  have hBC : BdC c bd bs bl aq an := hC.2.1
  have hLC : LsAt c 62 63 ls it := hC.2.2.1
  have hTC : TpC c 64 t tb := hC.2.2.2.1
  have h60 : c.1 60 0 = nI 0 := hC.2.2.2.2.1
  have hMT : MT c n mir N := hM.1.1
  have hMN : MN c sz lb := hM.1.2.1
  have hBrM := brM hG hF hM
  have hBM : BdM c bd bs bl aq an := hM.2.1
  have hLM : LsAt c 75 76 ls it := hM.2.2.1
  have hTM : TpM c t tb := hM.2.2.2.1
  have hW : WdM c := hM.2.2.2.2.1
  by_cases e : (inR x 1 n && inR y 1 n) = true
  · refine c_pair hG hT (fun z => by rw [z] at e; cases e) (fun _ c1 f1 T1 z1 b1 d1 => ⟨obj l68, ?_⟩)
    have hM1 := hM.fr f1 (by decide)
    refine n_pair hG hM1.1.1 (fun z => by rw [z] at e; cases e) (fun _ c2 f2 T2 z2 b2 d2 => ⟨rfl, k c2 ?_⟩)
    have n4 := hG.n4
    rw [Bool.and_eq_true] at e
    have g1 := inR1_nI (n := n) (by omega) e.1
    have g2 := inR1_nI (n := n) (by omega) e.2
    exact ⟨fSh n (cp2 mir (w x) (w y)) (fixB (cp2 mir (w x) (w y)) n), fBd, ls, it, t, tb, kb, s2, InvS.fresh (Gd_fix (Mr_cp2 hG.mr g1.1 g1.2.1 g2.1 g2.2.1)), InvB.fresh, hP, h2, (hC.fresh f1 T1 z1 b1 d1).fr f2.1 (by decide), hM1.fresh f2 (by decide) (by decide) T2 z2 b2 d2⟩
  · exact c_pair hG hT (fun _ => ⟨obj l68, n_pair hG hMT (fun _ => ⟨rfl, k c hR'⟩) (fun z => absurd z e)⟩) (fun z => absurd z e)
set_option maxHeartbeats 1000000 in
theorem s_triangle (hR : Rel c) {x : Int32} {y : Int32} {z : Int32} {q : Int32} : TwI E (dd + 40) mX11_triangle mX12_triangle [.int x, .int y, .int z, .int q] c := by
  intro K k
  have hR' := hR
  obtain ⟨⟨n, mir, N, sz, lb, fb, fs, fl⟩, ⟨bd, bs, bl, aq, an⟩, ls, it, t, tb, kb, s2, hS, hB, hP, h2, hC, hM⟩ := hR
  have hG : Gd n mir N := hS.1
  have hV : VV n mir sz lb := hS.2.1
  have hF : fb = true → Vl n mir fs fl := hS.2.2
  have hT : Tab c 2 n mir N := hC.1.1
  have hN : NN c sz lb := hC.1.2.1
  have hBr := brC hG hF hC
  have hBC : BdC c bd bs bl aq an := hC.2.1
  have hLC : LsAt c 62 63 ls it := hC.2.2.1
  have hTC : TpC c 64 t tb := hC.2.2.2.1
  have h60 : c.1 60 0 = nI 0 := hC.2.2.2.2.1
  have hMT : MT c n mir N := hM.1.1
  have hMN : MN c sz lb := hM.1.2.1
  have hBrM := brM hG hF hM
  have hBM : BdM c bd bs bl aq an := hM.2.1
  have hLM : LsAt c 75 76 ls it := hM.2.2.1
  have hTM : TpM c t tb := hM.2.2.2.1
  have hW : WdM c := hM.2.2.2.2.1
  cases e : tri0 n x y z q with
  | some r => exact c_triangle hT (fun r1 e1 => ⟨obj l68, n_triangle hG hMT (fun r2 e2 => ⟨by rw [e1] at e2; exact (Option.some.inj e2).symm, k c hR'⟩) (fun e2 => by rw [e] at e2; cases e2)⟩) (fun e1 => by rw [e] at e1; cases e1)
  | none =>
    refine c_triangle hT (fun r1 e1 => by rw [e] at e1; cases e1) (fun _ c1 f1 T1 => ⟨obj l68, ?_⟩)
    have hM1 := hM.fr f1 (by decide)
    refine n_triangle hG hM1.1.1 (fun r2 e2 => by rw [e] at e2; cases e2) (fun _ c2 f2 T2 => ⟨rfl, k c2 ?_⟩)
    have g := tri0_at hG.n4 e
    exact ⟨(n, mir, mkN mir N (w x) (w y) (w z) (decide (w q = 1)), sz, lb, fb, fs, fl), (bd, bs, bl, aq, an), ls, it, t, tb, kb, s2, ⟨Gd_mk hG g.1.1 g.1.2.1 g.2.1.1 g.2.1.2.1 g.2.2.1.1 g.2.2.1.2.1, hV, hF⟩, hB.thr, hP, h2, (hC.thr f1 T1).fr f2 (by decide), hM1.thr (F8.of (ks := []) f2 (by decide)) (by decide) (by decide) T2⟩
set_option maxHeartbeats 1000000 in
theorem s_node (hR : Rel c) {x : Int32} {y : Int32} : TwI E (dd + 40) mX11_node mX12_node [.int x, .int y] c := by
  intro K k
  have hR' := hR
  obtain ⟨⟨n, mir, N, sz, lb, fb, fs, fl⟩, ⟨bd, bs, bl, aq, an⟩, ls, it, t, tb, kb, s2, hS, hB, hP, h2, hC, hM⟩ := hR
  have hG : Gd n mir N := hS.1
  have hV : VV n mir sz lb := hS.2.1
  have hF : fb = true → Vl n mir fs fl := hS.2.2
  have hT : Tab c 2 n mir N := hC.1.1
  have hN : NN c sz lb := hC.1.2.1
  have hBr := brC hG hF hC
  have hBC : BdC c bd bs bl aq an := hC.2.1
  have hLC : LsAt c 62 63 ls it := hC.2.2.1
  have hTC : TpC c 64 t tb := hC.2.2.2.1
  have h60 : c.1 60 0 = nI 0 := hC.2.2.2.2.1
  have hMT : MT c n mir N := hM.1.1
  have hMN : MN c sz lb := hM.1.2.1
  have hBrM := brM hG hF hM
  have hBM : BdM c bd bs bl aq an := hM.2.1
  have hLM : LsAt c 75 76 ls it := hM.2.2.1
  have hTM : TpM c t tb := hM.2.2.2.1
  have hW : WdM c := hM.2.2.2.2.1
  refine c_node hT hN (fun c1 f1 N1 => ⟨obj l68, ?_⟩)
  have hM1 := hM.fr f1 (by decide)
  exact n_node hM1.1.1 hM1.1.2.1 (fun c2 f2 o2 N2 => ⟨rfl, k c2 ⟨(n, mir, N, (sp_nd n mir sz lb x y).2.1, (sp_nd n mir sz lb x y).2.2, fb, fs, fl), (bd, bs, bl, aq, an), ls, it, t, tb, kb, s2, ⟨hG, VV_nd hG hV, hF⟩, hB.thr, hP, h2, (hC.nets f1 N1).fr f2 (by decide), hM1.nets f2 o2 N2⟩⟩)
set_option maxHeartbeats 1000000 in
theorem s_drop (hR : Rel c) {x : Int32} : TwI E (dd + 40) mX11_drop mX12_drop [.int x] c := by
  intro K k
  have hR' := hR
  obtain ⟨⟨n, mir, N, sz, lb, fb, fs, fl⟩, ⟨bd, bs, bl, aq, an⟩, ls, it, t, tb, kb, s2, hS, hB, hP, h2, hC, hM⟩ := hR
  have hG : Gd n mir N := hS.1
  have hV : VV n mir sz lb := hS.2.1
  have hF : fb = true → Vl n mir fs fl := hS.2.2
  have hT : Tab c 2 n mir N := hC.1.1
  have hN : NN c sz lb := hC.1.2.1
  have hBr := brC hG hF hC
  have hBC : BdC c bd bs bl aq an := hC.2.1
  have hLC : LsAt c 62 63 ls it := hC.2.2.1
  have hTC : TpC c 64 t tb := hC.2.2.2.1
  have h60 : c.1 60 0 = nI 0 := hC.2.2.2.2.1
  have hMT : MT c n mir N := hM.1.1
  have hMN : MN c sz lb := hM.1.2.1
  have hBrM := brM hG hF hM
  have hBM : BdM c bd bs bl aq an := hM.2.1
  have hLM : LsAt c 75 76 ls it := hM.2.2.1
  have hTM : TpM c t tb := hM.2.2.2.1
  have hW : WdM c := hM.2.2.2.2.1
  refine c_drop hN (fun c1 f1 N1 => ⟨obj l68, ?_⟩)
  have hM1 := hM.fr f1 (by decide)
  exact n_drop hM1.1.2.1 (fun c2 f2 o2 N2 => ⟨rfl, k c2 ⟨(n, mir, N, (sp_dr sz x).2, lb, fb, fs, fl), (bd, bs, bl, aq, an), ls, it, t, tb, kb, s2, ⟨hG, VV_dr hV, hF⟩, hB.thr, hP, h2, (hC.nets (f1.mono (fun q hq => List.mem_cons_of_mem _ hq)) N1).fr f2 (by decide), hM1.nets f2 o2 N2⟩⟩)
set_option maxHeartbeats 1000000 in
theorem s_relabel (hR : Rel c) {x : Int32} {y : Int32} {z : Int32} {q : Int32} : TwI E (dd + 40) mX11_relabel mX12_relabel [.int x, .int y, .int z, .int q] c := by
  intro K k
  have hR' := hR
  obtain ⟨⟨n, mir, N, sz, lb, fb, fs, fl⟩, ⟨bd, bs, bl, aq, an⟩, ls, it, t, tb, kb, s2, hS, hB, hP, h2, hC, hM⟩ := hR
  have hG : Gd n mir N := hS.1
  have hV : VV n mir sz lb := hS.2.1
  have hF : fb = true → Vl n mir fs fl := hS.2.2
  have hT : Tab c 2 n mir N := hC.1.1
  have hN : NN c sz lb := hC.1.2.1
  have hBr := brC hG hF hC
  have hBC : BdC c bd bs bl aq an := hC.2.1
  have hLC : LsAt c 62 63 ls it := hC.2.2.1
  have hTC : TpC c 64 t tb := hC.2.2.2.1
  have h60 : c.1 60 0 = nI 0 := hC.2.2.2.2.1
  have hMT : MT c n mir N := hM.1.1
  have hMN : MN c sz lb := hM.1.2.1
  have hBrM := brM hG hF hM
  have hBM : BdM c bd bs bl aq an := hM.2.1
  have hLM : LsAt c 75 76 ls it := hM.2.2.1
  have hTM : TpM c t tb := hM.2.2.2.1
  have hW : WdM c := hM.2.2.2.2.1
  refine c_relabel hT hN (fun c1 f1 N1 => ⟨obj l68, ?_⟩)
  have hM1 := hM.fr f1 (by decide)
  exact n_relabel hM1.1.1 hM1.1.2.1 hV (fun c2 f2 o2 N2 => ⟨rfl, k c2 ⟨(n, mir, N, sz, (sp_rl n mir sz lb x y z q).2, fb, fs, fl), (bd, bs, bl, aq, an), ls, it, t, tb, kb, s2, ⟨hG, VV_rl hG hV, hF⟩, hB.thr, hP, h2, (hC.nets (f1.mono (fun q hq => List.mem_cons_of_mem _ hq)) N1).fr f2 (by decide), hM1.nets f2 o2 N2⟩⟩)
set_option maxHeartbeats 1000000 in
theorem s_copy (hR : Rel c) {x : Int32} {y : Int32} : TwI E (dd + 40) mX11_copy mX12_copy [.int x, .int y] c := by
  intro K k
  have hR' := hR
  obtain ⟨⟨n, mir, N, sz, lb, fb, fs, fl⟩, ⟨bd, bs, bl, aq, an⟩, ls, it, t, tb, kb, s2, hS, hB, hP, h2, hC, hM⟩ := hR
  have hG : Gd n mir N := hS.1
  have hV : VV n mir sz lb := hS.2.1
  have hF : fb = true → Vl n mir fs fl := hS.2.2
  have hT : Tab c 2 n mir N := hC.1.1
  have hN : NN c sz lb := hC.1.2.1
  have hBr := brC hG hF hC
  have hBC : BdC c bd bs bl aq an := hC.2.1
  have hLC : LsAt c 62 63 ls it := hC.2.2.1
  have hTC : TpC c 64 t tb := hC.2.2.2.1
  have h60 : c.1 60 0 = nI 0 := hC.2.2.2.2.1
  have hMT : MT c n mir N := hM.1.1
  have hMN : MN c sz lb := hM.1.2.1
  have hBrM := brM hG hF hM
  have hBM : BdM c bd bs bl aq an := hM.2.1
  have hLM : LsAt c 75 76 ls it := hM.2.2.1
  have hTM : TpM c t tb := hM.2.2.2.1
  have hW : WdM c := hM.2.2.2.2.1
  refine c_copy hN (fun c1 f1 N1 => ⟨obj l68, ?_⟩)
  have hM1 := hM.fr f1 (by decide)
  exact n_copy hM1.1.2.1 (fun c2 f2 o2 N2 => ⟨rfl, k c2 ⟨(n, mir, N, (sp_cy sz lb x y).2.1, (sp_cy sz lb x y).2.2, fb, fs, fl), (bd, bs, bl, aq, an), ls, it, t, tb, kb, s2, ⟨hG, VV_cy hV, hF⟩, hB.thr, hP, h2, (hC.nets (f1.mono (fun q hq => List.mem_cons_of_mem _ hq)) N1).fr f2 (by decide), hM1.nets f2 o2 N2⟩⟩)
set_option maxHeartbeats 1000000 in
theorem s_take (hR : Rel c) {x : Int32} : TwI E (dd + 40) mX11_take mX12_take [.int x] c := by
  intro K k
  have hR' := hR
  obtain ⟨⟨n, mir, N, sz, lb, fb, fs, fl⟩, ⟨bd, bs, bl, aq, an⟩, ls, it, t, tb, kb, s2, hS, hB, hP, h2, hC, hM⟩ := hR
  have hG : Gd n mir N := hS.1
  have hV : VV n mir sz lb := hS.2.1
  have hF : fb = true → Vl n mir fs fl := hS.2.2
  have hT : Tab c 2 n mir N := hC.1.1
  have hN : NN c sz lb := hC.1.2.1
  have hBr := brC hG hF hC
  have hBC : BdC c bd bs bl aq an := hC.2.1
  have hLC : LsAt c 62 63 ls it := hC.2.2.1
  have hTC : TpC c 64 t tb := hC.2.2.2.1
  have h60 : c.1 60 0 = nI 0 := hC.2.2.2.2.1
  have hMT : MT c n mir N := hM.1.1
  have hMN : MN c sz lb := hM.1.2.1
  have hBrM := brM hG hF hM
  have hBM : BdM c bd bs bl aq an := hM.2.1
  have hLM : LsAt c 75 76 ls it := hM.2.2.1
  have hTM : TpM c t tb := hM.2.2.2.1
  have hW : WdM c := hM.2.2.2.2.1
  cases e : tk0 bd x with
  | some r => exact c_take hBC hN (fun r1 e1 => ⟨obj l68, n_take hBM hMN (fun r2 e2 => ⟨by rw [e1] at e2; exact (Option.some.inj e2).symm, k c hR'⟩) (fun e2 => by rw [e] at e2; cases e2)⟩) (fun e1 => by rw [e] at e1; cases e1)
  | none =>
    have eb : bd = true := by
      unfold tk0 at e
      cases bd
      · by_cases z : inR x 0 (3 : Nat) = true
        · rw [if_pos z] at e; cases e
        · rw [if_neg z] at e; cases e
      · rfl
    refine c_take hBC hN (fun r1 e1 => by rw [e] at e1; cases e1) (fun _ c1 f1 N1 => ⟨obj l68, ?_⟩)
    have hM1 := hM.fr f1 (by decide)
    exact n_take hM1.2.1 hM1.1.2.1 (fun r2 e2 => by rw [e] at e2; cases e2) (fun _ c2 f2 o2 N2 => ⟨rfl, k c2 ⟨(n, mir, N, fset sz (w x) bs, lset lb (w x) bl, fb, fs, fl), (bd, bs, bl, aq, an), ls, it, t, tb, kb, s2, ⟨hG, VV_set hV (hB eb).1, hF⟩, hB.thr, hP, h2, (hC.nets (f1.mono (fun q hq => List.mem_cons_of_mem _ hq)) N1).fr f2 (by decide), hM1.nets f2 o2 N2⟩⟩)
set_option maxHeartbeats 1000000 in
theorem s_occurs (hR : Rel c) {x : Int32} {y : Int32} {q : Int32} : TwI E (dd + 40) mX11_occurs mX12_occurs [.int x, .int y, .int q] c := by
  intro K k
  have hR' := hR
  obtain ⟨⟨n, mir, N, sz, lb, fb, fs, fl⟩, ⟨bd, bs, bl, aq, an⟩, ls, it, t, tb, kb, s2, hS, hB, hP, h2, hC, hM⟩ := hR
  have hG : Gd n mir N := hS.1
  have hV : VV n mir sz lb := hS.2.1
  have hF : fb = true → Vl n mir fs fl := hS.2.2
  have hT : Tab c 2 n mir N := hC.1.1
  have hN : NN c sz lb := hC.1.2.1
  have hBr := brC hG hF hC
  have hBC : BdC c bd bs bl aq an := hC.2.1
  have hLC : LsAt c 62 63 ls it := hC.2.2.1
  have hTC : TpC c 64 t tb := hC.2.2.2.1
  have h60 : c.1 60 0 = nI 0 := hC.2.2.2.2.1
  have hMT : MT c n mir N := hM.1.1
  have hMN : MN c sz lb := hM.1.2.1
  have hBrM := brM hG hF hM
  have hBM : BdM c bd bs bl aq an := hM.2.1
  have hLM : LsAt c 75 76 ls it := hM.2.2.1
  have hTM : TpM c t tb := hM.2.2.2.1
  have hW : WdM c := hM.2.2.2.2.1
  refine c_occurs hN (fun j hj => (hV j hj).lt hG.n4) (fun c1 f1 => ⟨obj l68, ?_⟩)
  have hM1 := hM.fr f1 (by decide)
  exact n_occurs hM1.1.2.1 (fun j hj => (hV j hj).z) (fun j hj => (hV j hj).lt hG.n4) (fun c2 f2 => ⟨rfl, k c2 ⟨(n, mir, N, sz, lb, fb, fs, fl), (bd, bs, bl, aq, an), ls, it, t, tb, kb, s2, ⟨hG, hV, hF⟩, hB, hP, h2, (hC.idle f1 (by decide)).fr f2.1 (by decide), hM1.idle f2 (by decide) (by decide)⟩⟩)
set_option maxHeartbeats 1000000 in
theorem s_fills (hR : Rel c) {x : Int32} {y : Int32} {q : Int32} : TwI E (dd + 40) mX11_fills mX12_fills [.int x, .int y, .int q] c := by
  intro K k
  have hR' := hR
  obtain ⟨⟨n, mir, N, sz, lb, fb, fs, fl⟩, ⟨bd, bs, bl, aq, an⟩, ls, it, t, tb, kb, s2, hS, hB, hP, h2, hC, hM⟩ := hR
  have hG : Gd n mir N := hS.1
  have hV : VV n mir sz lb := hS.2.1
  have hF : fb = true → Vl n mir fs fl := hS.2.2
  have hT : Tab c 2 n mir N := hC.1.1
  have hN : NN c sz lb := hC.1.2.1
  have hBr := brC hG hF hC
  have hBC : BdC c bd bs bl aq an := hC.2.1
  have hLC : LsAt c 62 63 ls it := hC.2.2.1
  have hTC : TpC c 64 t tb := hC.2.2.2.1
  have h60 : c.1 60 0 = nI 0 := hC.2.2.2.2.1
  have hMT : MT c n mir N := hM.1.1
  have hMN : MN c sz lb := hM.1.2.1
  have hBrM := brM hG hF hM
  have hBM : BdM c bd bs bl aq an := hM.2.1
  have hLM : LsAt c 75 76 ls it := hM.2.2.1
  have hTM : TpM c t tb := hM.2.2.2.1
  have hW : WdM c := hM.2.2.2.2.1
  refine c_fills hG hV hN hBr hT (fun c1 f1 => ⟨obj l68, ?_⟩)
  have hM1 := hM.fr f1 (by decide)
  exact n_fills hG hV hM1.1.2.1 (brM hG hF hM1) hM1.1.1 (fun c2 f2 => ⟨rfl, k c2 ⟨(n, mir, N, sz, lb, fb, fs, fl), (bd, bs, bl, aq, an), ls, it, t, tb, kb, s2, ⟨hG, hV, hF⟩, hB, hP, h2, (hC.idle f1 (by decide)).fr f2.1.1 (by decide), hM1.mind f2⟩⟩)
set_option maxHeartbeats 1000000 in
theorem s_won (hR : Rel c) {x : Int32} {y : Int32} : TwI E (dd + 40) mX11_won mX12_won [.int x, .int y] c := by
  intro K k
  have hR' := hR
  obtain ⟨⟨n, mir, N, sz, lb, fb, fs, fl⟩, ⟨bd, bs, bl, aq, an⟩, ls, it, t, tb, kb, s2, hS, hB, hP, h2, hC, hM⟩ := hR
  have hG : Gd n mir N := hS.1
  have hV : VV n mir sz lb := hS.2.1
  have hF : fb = true → Vl n mir fs fl := hS.2.2
  have hT : Tab c 2 n mir N := hC.1.1
  have hN : NN c sz lb := hC.1.2.1
  have hBr := brC hG hF hC
  have hBC : BdC c bd bs bl aq an := hC.2.1
  have hLC : LsAt c 62 63 ls it := hC.2.2.1
  have hTC : TpC c 64 t tb := hC.2.2.2.1
  have h60 : c.1 60 0 = nI 0 := hC.2.2.2.2.1
  have hMT : MT c n mir N := hM.1.1
  have hMN : MN c sz lb := hM.1.2.1
  have hBrM := brM hG hF hM
  have hBM : BdM c bd bs bl aq an := hM.2.1
  have hLM : LsAt c 75 76 ls it := hM.2.2.1
  have hTM : TpM c t tb := hM.2.2.2.1
  have hW : WdM c := hM.2.2.2.2.1
  refine c_won hG hV hN hBr hT (fun c1 f1 => ⟨obj l68, ?_⟩)
  have hM1 := hM.fr f1 (by decide)
  exact n_won hG hV hM1.1.2.1 (brM hG hF hM1) hM1.1.1 (fun c2 f2 => ⟨rfl, k c2 ⟨(n, mir, N, sz, lb, fb, fs, fl), (bd, bs, bl, aq, an), ls, it, t, tb, kb, s2, ⟨hG, hV, hF⟩, hB, hP, h2, (hC.idle f1 (by decide)).fr f2.1.1 (by decide), hM1.mind f2⟩⟩)
set_option maxHeartbeats 1000000 in
theorem s_killer (hR : Rel c) {x : Int32} {y : Int32} : TwI E (dd + 40) mX11_killer mX12_killer [.int x, .int y] c := by
  intro K k
  have hR' := hR
  obtain ⟨⟨n, mir, N, sz, lb, fb, fs, fl⟩, ⟨bd, bs, bl, aq, an⟩, ls, it, t, tb, kb, s2, hS, hB, hP, h2, hC, hM⟩ := hR
  have hG : Gd n mir N := hS.1
  have hV : VV n mir sz lb := hS.2.1
  have hF : fb = true → Vl n mir fs fl := hS.2.2
  have hT : Tab c 2 n mir N := hC.1.1
  have hN : NN c sz lb := hC.1.2.1
  have hBr := brC hG hF hC
  have hBC : BdC c bd bs bl aq an := hC.2.1
  have hLC : LsAt c 62 63 ls it := hC.2.2.1
  have hTC : TpC c 64 t tb := hC.2.2.2.1
  have h60 : c.1 60 0 = nI 0 := hC.2.2.2.2.1
  have hMT : MT c n mir N := hM.1.1
  have hMN : MN c sz lb := hM.1.2.1
  have hBrM := brM hG hF hM
  have hBM : BdM c bd bs bl aq an := hM.2.1
  have hLM : LsAt c 75 76 ls it := hM.2.2.1
  have hTM : TpM c t tb := hM.2.2.2.1
  have hW : WdM c := hM.2.2.2.2.1
  refine c_killer hG hV hN hBr hT (fun c1 f1 => ⟨obj l68, ?_⟩)
  have hM1 := hM.fr f1 (by decide)
  exact n_killer hG hV hM1.1.2.1 (brM hG hF hM1) hM1.1.1 (fun c2 f2 => ⟨rfl, k c2 ⟨(n, mir, N, sz, lb, fb, fs, fl), (bd, bs, bl, aq, an), ls, it, t, tb, kb, s2, ⟨hG, hV, hF⟩, hB, hP, h2, (hC.idle f1 (by decide)).fr f2.1.1 (by decide), hM1.mind f2⟩⟩)
set_option maxHeartbeats 1000000 in
theorem s_lasts (hR : Rel c) {x : Int32} : TwI E (dd + 40) mX11_lasts mX12_lasts [.int x] c := by
  intro K k
  have hR' := hR
  obtain ⟨⟨n, mir, N, sz, lb, fb, fs, fl⟩, ⟨bd, bs, bl, aq, an⟩, ls, it, t, tb, kb, s2, hS, hB, hP, h2, hC, hM⟩ := hR
  have hG : Gd n mir N := hS.1
  have hV : VV n mir sz lb := hS.2.1
  have hF : fb = true → Vl n mir fs fl := hS.2.2
  have hT : Tab c 2 n mir N := hC.1.1
  have hN : NN c sz lb := hC.1.2.1
  have hBr := brC hG hF hC
  have hBC : BdC c bd bs bl aq an := hC.2.1
  have hLC : LsAt c 62 63 ls it := hC.2.2.1
  have hTC : TpC c 64 t tb := hC.2.2.2.1
  have h60 : c.1 60 0 = nI 0 := hC.2.2.2.2.1
  have hMT : MT c n mir N := hM.1.1
  have hMN : MN c sz lb := hM.1.2.1
  have hBrM := brM hG hF hM
  have hBM : BdM c bd bs bl aq an := hM.2.1
  have hLM : LsAt c 75 76 ls it := hM.2.2.1
  have hTM : TpM c t tb := hM.2.2.2.1
  have hW : WdM c := hM.2.2.2.2.1
  refine c_lasts hG hV hN hBr hT (fun c1 f1 => ⟨obj l68, ?_⟩)
  have hM1 := hM.fr f1 (by decide)
  exact n_lasts hG hV hM1.1.2.1 (brM hG hF hM1) hM1.1.1 (fun c2 f2 => ⟨rfl, k c2 ⟨(n, mir, N, sz, lb, fb, fs, fl), (bd, bs, bl, aq, an), ls, it, t, tb, kb, s2, ⟨hG, hV, hF⟩, hB, hP, h2, (hC.idle f1 (by decide)).fr f2.1.1 (by decide), hM1.mind f2⟩⟩)
set_option maxHeartbeats 1000000 in
theorem s_spelled (hR : Rel c) {x : Int32} : TwI E (dd + 40) mX11_spelled mX12_spelled [.int x] c := by
  intro K k
  have hR' := hR
  obtain ⟨⟨n, mir, N, sz, lb, fb, fs, fl⟩, ⟨bd, bs, bl, aq, an⟩, ls, it, t, tb, kb, s2, hS, hB, hP, h2, hC, hM⟩ := hR
  have hG : Gd n mir N := hS.1
  have hV : VV n mir sz lb := hS.2.1
  have hF : fb = true → Vl n mir fs fl := hS.2.2
  have hT : Tab c 2 n mir N := hC.1.1
  have hN : NN c sz lb := hC.1.2.1
  have hBr := brC hG hF hC
  have hBC : BdC c bd bs bl aq an := hC.2.1
  have hLC : LsAt c 62 63 ls it := hC.2.2.1
  have hTC : TpC c 64 t tb := hC.2.2.2.1
  have h60 : c.1 60 0 = nI 0 := hC.2.2.2.2.1
  have hMT : MT c n mir N := hM.1.1
  have hMN : MN c sz lb := hM.1.2.1
  have hBrM := brM hG hF hM
  have hBM : BdM c bd bs bl aq an := hM.2.1
  have hLM : LsAt c 75 76 ls it := hM.2.2.1
  have hTM : TpM c t tb := hM.2.2.2.1
  have hW : WdM c := hM.2.2.2.2.1
  refine c_spelled hG hT (fun c1 f1 => ⟨obj l68, ?_⟩)
  have hM1 := hM.fr f1 (by decide)
  exact n_spelled hG hM1.1.1 hM1.2.2.2.2.1 (fun c2 f2 => ⟨rfl, k c2 ⟨(n, mir, N, sz, lb, fb, fs, fl), (bd, bs, bl, aq, an), ls, it, t, tb, kb, s2, ⟨hG, hV, hF⟩, hB, hP, h2, (hC.idle f1 (by decide)).fr f2.1 (by decide), hM1.idle f2 (by decide) (by decide)⟩⟩)
set_option maxHeartbeats 1000000 in
theorem s_forbid (hR : Rel c) {x : Int32} : TwI E (dd + 40) mX11_forbid mX12_forbid [.int x] c := by
  intro K k
  have hR' := hR
  obtain ⟨⟨n, mir, N, sz, lb, fb, fs, fl⟩, ⟨bd, bs, bl, aq, an⟩, ls, it, t, tb, kb, s2, hS, hB, hP, h2, hC, hM⟩ := hR
  have hG : Gd n mir N := hS.1
  have hV : VV n mir sz lb := hS.2.1
  have hF : fb = true → Vl n mir fs fl := hS.2.2
  have hT : Tab c 2 n mir N := hC.1.1
  have hN : NN c sz lb := hC.1.2.1
  have hBr := brC hG hF hC
  have hBC : BdC c bd bs bl aq an := hC.2.1
  have hLC : LsAt c 62 63 ls it := hC.2.2.1
  have hTC : TpC c 64 t tb := hC.2.2.2.1
  have h60 : c.1 60 0 = nI 0 := hC.2.2.2.2.1
  have hMT : MT c n mir N := hM.1.1
  have hMN : MN c sz lb := hM.1.2.1
  have hBrM := brM hG hF hM
  have hBM : BdM c bd bs bl aq an := hM.2.1
  have hLM : LsAt c 75 76 ls it := hM.2.2.1
  have hTM : TpM c t tb := hM.2.2.2.1
  have hW : WdM c := hM.2.2.2.2.1
  by_cases e1 : x = -1
  · have e3 : ¬ inR x 0 (3 : Nat) = true := by rw [e1]; decide
    refine c_forbid hBr.1 (fun e => (hBr.2 e).1) hN (fun z _ => absurd e1 z) (fun _ c1 f1 b1 => ⟨obj l68, ?_⟩) (fun z => absurd z e3)
    have hM1 := hM.fr f1 (by decide)
    obtain ⟨s0, q0, a3, a4⟩ := hC.1.2.2.1
    exact n_forbid hM1.1.2.2.1 hM1.1.2.2.2 hM1.1.2.1 (fun z _ => absurd e1 z) (fun _ c2 f2 o2 b2 => ⟨rfl, k c2 ⟨(n, mir, N, sz, lb, false, 0, fun _ _ => 0), (bd, bs, bl, aq, an), ls, it, t, tb, kb, s2, ⟨hG, hV, fun e => by cases e⟩, fun e => ⟨(hB e).1, (hB e).2⟩, hP, h2, (hC.bar (fb' := false) (fs' := 0) (fl' := fun _ _ => 0) (f1.mono (by simp)) b1 ⟨s0, q0, NetAt.fr a3 f1 (by decide) (by decide), fun e => by cases e⟩).fr f2.1 (by decide), hM1.bar (fb' := false) (fs' := 0) (fl' := fun _ _ => 0) (f2.mono (by simp) (by simp)) (fun i s l hi h => ⟨by rw [o2 i hi]; exact h.1, h.2.1, fun p q hp hq hpq => by rw [f2.i (by decide)]; exact h.2.2 p q hp hq hpq⟩) b2 (fun e => by cases e)⟩⟩) (fun z => absurd z e3)
  · by_cases e3 : inR x 0 (3 : Nat) = true
    · refine c_forbid hBr.1 (fun e => (hBr.2 e).1) hN (fun _ z => by rw [z] at e3; cases e3) (fun z => absurd z e1) (fun _ c1 f1 b1 n1 => ⟨obj l68, ?_⟩)
      have hM1 := hM.fr f1 (by decide)
      obtain ⟨j, hj, hx⟩ := inR_nI (by decide) e3
      have hw : w x < 3 := by rw [hx, w_nI (by omega)]; exact hj
      exact n_forbid hM1.1.2.2.1 hM1.1.2.2.2 hM1.1.2.1 (fun _ z => by rw [z] at e3; cases e3) (fun z => absurd z e1) (fun _ c2 f2 o2 b2 n2 => ⟨rfl, k c2 ⟨(n, mir, N, sz, lb, true, sz (w x), lb (w x)), (bd, bs, bl, aq, an), ls, it, t, tb, kb, s2, ⟨hG, hV, fun _ => hV (w x) hw⟩, fun e => ⟨(hB e).1, (hB e).2⟩, hP, h2, (hC.bar (fb' := true) (fs' := sz (w x)) (fl' := lb (w x)) f1 b1 ⟨_, _, n1, fun _ => ⟨rfl, rfl⟩⟩).fr f2.1 (by decide), hM1.bar (fb' := true) f2 o2 b2 (fun _ => n2)⟩⟩)
    · exact c_forbid hBr.1 (fun e => (hBr.2 e).1) hN (fun _ _ => ⟨obj l68, n_forbid hBrM.1 (fun e => (hBrM.2 e).1) hMN (fun _ _ => ⟨rfl, k c hR'⟩) (fun z => absurd z e1) (fun z => absurd z e3)⟩) (fun z => absurd z e1) (fun z => absurd z e3)
set_option maxHeartbeats 1000000 in
theorem s_begin (hR : Rel c) {x : Int32} : TwI E (dd + 40) mX11_begin mX12_begin [.int x] c := by
  intro K k
  have hR' := hR
  obtain ⟨⟨n, mir, N, sz, lb, fb, fs, fl⟩, ⟨bd, bs, bl, aq, an⟩, ls, it, t, tb, kb, s2, hS, hB, hP, h2, hC, hM⟩ := hR
  have hG : Gd n mir N := hS.1
  have hV : VV n mir sz lb := hS.2.1
  have hF : fb = true → Vl n mir fs fl := hS.2.2
  have hT : Tab c 2 n mir N := hC.1.1
  have hN : NN c sz lb := hC.1.2.1
  have hBr := brC hG hF hC
  have hBC : BdC c bd bs bl aq an := hC.2.1
  have hLC : LsAt c 62 63 ls it := hC.2.2.1
  have hTC : TpC c 64 t tb := hC.2.2.2.1
  have h60 : c.1 60 0 = nI 0 := hC.2.2.2.2.1
  have hMT : MT c n mir N := hM.1.1
  have hMN : MN c sz lb := hM.1.2.1
  have hBrM := brM hG hF hM
  have hBM : BdM c bd bs bl aq an := hM.2.1
  have hLM : LsAt c 75 76 ls it := hM.2.2.1
  have hTM : TpM c t tb := hM.2.2.2.1
  have hW : WdM c := hM.2.2.2.2.1
  cases e : bg0 fb fs fl N sz lb x with
  | some r =>
    refine c_begin hG hV hN hBr hT (fun r1 e1 c1 f1 => ⟨obj l68, ?_⟩) (fun e1 => by rw [e] at e1; cases e1)
    have hM1 := hM.fr f1 (by decide)
    exact n_begin hG hV hM1.1.2.1 (brM hG hF hM1) hM1.1.1 (fun r2 e2 c2 f2 => ⟨by rw [e1] at e2; exact (Option.some.inj e2).symm, k c2 ⟨(n, mir, N, sz, lb, fb, fs, fl), (bd, bs, bl, aq, an), ls, it, t, tb, kb, s2, ⟨hG, hV, hF⟩, hB, hP, h2, (hC.idle f1 (by decide)).fr f2.1 (by decide), hM1.idle f2 (by decide) (by decide)⟩⟩) (fun e2 => by rw [e] at e2; cases e2)
  | none =>
    have hw : w x < 3 := by
      unfold bg0 at e
      by_cases z : inR x 0 (3 : Nat) = true
      · obtain ⟨j, hj, hx⟩ := inR_nI (by decide) z
        rw [hx, w_nI (by omega)]
        exact hj
      · rw [if_neg z] at e; cases e
    have s6 : sz (w x) ≤ 6 := (hN (w x) hw).2.1
    refine c_begin hG hV hN hBr hT (fun r1 e1 => by rw [e] at e1; cases e1) (fun _ c1 f1 B1 => ⟨obj l68, ?_⟩)
    have hM1 := hM.fr f1 (by decide)
    exact n_begin hG hV hM1.1.2.1 (brM hG hF hM1) hM1.1.1 (fun r2 e2 => by rw [e] at e2; cases e2) (fun _ c2 f2 B2 => ⟨rfl, k c2 ⟨(n, mir, N, sz, lb, fb, fs, fl), (true, sz (w x), lb (w x), gpL N n (sz (w x)) (lb (w x)), 0), ls, it, t, tb, kb, s2, ⟨hG, hV, hF⟩, fun _ => ⟨hV (w x) hw, AqV.of s6 ((gpL_sorted s6).imp (fun h => Nat.ne_of_lt h)) (fun g hg => hg)⟩, hP, h2, (hC.desk f1 B1).fr f2.1.1 (by decide), hM1.desk f2 B2⟩⟩)
set_option maxHeartbeats 1000000 in
theorem s_answer (hR : Rel c) {x : Int32} : TwI E (dd + 40) mX11_answer mX12_answer [.int x] c := by
  intro K k
  have hR' := hR
  obtain ⟨⟨n, mir, N, sz, lb, fb, fs, fl⟩, ⟨bd, bs, bl, aq, an⟩, ls, it, t, tb, kb, s2, hS, hB, hP, h2, hC, hM⟩ := hR
  have hG : Gd n mir N := hS.1
  have hV : VV n mir sz lb := hS.2.1
  have hF : fb = true → Vl n mir fs fl := hS.2.2
  have hT : Tab c 2 n mir N := hC.1.1
  have hN : NN c sz lb := hC.1.2.1
  have hBr := brC hG hF hC
  have hBC : BdC c bd bs bl aq an := hC.2.1
  have hLC : LsAt c 62 63 ls it := hC.2.2.1
  have hTC : TpC c 64 t tb := hC.2.2.2.1
  have h60 : c.1 60 0 = nI 0 := hC.2.2.2.2.1
  have hMT : MT c n mir N := hM.1.1
  have hMN : MN c sz lb := hM.1.2.1
  have hBrM := brM hG hF hM
  have hBM : BdM c bd bs bl aq an := hM.2.1
  have hLM : LsAt c 75 76 ls it := hM.2.2.1
  have hTM : TpM c t tb := hM.2.2.2.1
  have hW : WdM c := hM.2.2.2.2.1
  cases e : an0 fb fs fl N n mir bd bs bl aq x with
  | some r =>
    refine c_answer hG (fun z => (hB z).1) hBr hT hBC (fun z => (hB z).2) (fun r1 e1 c1 f1 => ⟨obj l68, ?_⟩) (fun e1 => by rw [e] at e1; cases e1)
    have hM1 := hM.fr f1 (by decide)
    exact n_answer hG (fun z => (hB z).1) (brM hG hF hM1) hM1.1.1 hM1.2.1 (fun z => (hB z).2) (fun r2 e2 c2 f2 => ⟨by rw [e1] at e2; exact (Option.some.inj e2).symm, k c2 ⟨(n, mir, N, sz, lb, fb, fs, fl), (bd, bs, bl, aq, an), ls, it, t, tb, kb, s2, ⟨hG, hV, hF⟩, hB, hP, h2, (hC.idle f1 (by decide)).fr f2.1.1 (by decide), hM1.mind f2⟩⟩) (fun e2 => by rw [e] at e2; cases e2)
  | none =>
    have key : bd = true ∧ bs < 6 ∧ aAt n x bs 0 = true := by
      unfold an0 at e
      cases bd
      · cases e
      · rw [if_pos rfl] at e
        cases aq with
        | nil => cases e
        | cons g t0 =>
          dsimp only at e
          by_cases h6 : bs < 6
          · rw [if_pos h6] at e
            by_cases hf : flO fb fs fl N n mir bs bl g x = true
            · refine ⟨rfl, h6, ?_⟩
              unfold flO at hf
              simp only [Bool.and_eq_true] at hf
              exact hf.2.1
            · rw [if_neg hf] at e; cases e
          · rw [if_neg h6] at e; cases e
    obtain ⟨eb, h6, ea⟩ := key
    have vg : Vl n mir (bs + 1) (gl bs mir (rowD x) bl) := gl_Vl hG (hB eb).1 (row_ok1 hG.n4 ea)
    have qv : AqV N n bs bl aq := (hB eb).2
    have nw := qv.new hG (by omega) vg
    refine c_answer hG (fun z => (hB z).1) hBr hT hBC (fun z => (hB z).2) (fun r1 e1 => by rw [e] at e1; cases e1) (fun _ c1 f1 B1 => ⟨obj l68, ?_⟩)
    have hM1 := hM.fr f1 (by decide)
    exact n_answer hG (fun z => (hB z).1) (brM hG hF hM1) hM1.1.1 hM1.2.1 (fun z => (hB z).2) (fun r2 e2 => by rw [e] at e2; cases e2) (fun _ c2 f2 B2 => ⟨rfl, k c2 ⟨(n, mir, N, sz, lb, fb, fs, fl), (true, bs + 1, gl bs mir (rowD x) bl, aq.filter (lkB N n (bs + 1) (gl bs mir (rowD x) bl)) ++ nwL N n bs (gl bs mir (rowD x) bl), an + 1), ls, it, t, tb, kb, s2, ⟨hG, hV, hF⟩, fun _ => ⟨vg, nw.1⟩, hP, h2, (hC.desk f1 B1).fr f2.1.1 (by decide), hM1.desk f2 B2⟩⟩)
set_option maxHeartbeats 1000000 in
theorem s_later (hR : Rel c)  : TwI E (dd + 40) mX11_later mX12_later [] c := by
  intro K k
  have hR' := hR
  obtain ⟨⟨n, mir, N, sz, lb, fb, fs, fl⟩, ⟨bd, bs, bl, aq, an⟩, ls, it, t, tb, kb, s2, hS, hB, hP, h2, hC, hM⟩ := hR
  have hG : Gd n mir N := hS.1
  have hV : VV n mir sz lb := hS.2.1
  have hF : fb = true → Vl n mir fs fl := hS.2.2
  have hT : Tab c 2 n mir N := hC.1.1
  have hN : NN c sz lb := hC.1.2.1
  have hBr := brC hG hF hC
  have hBC : BdC c bd bs bl aq an := hC.2.1
  have hLC : LsAt c 62 63 ls it := hC.2.2.1
  have hTC : TpC c 64 t tb := hC.2.2.2.1
  have h60 : c.1 60 0 = nI 0 := hC.2.2.2.2.1
  have hMT : MT c n mir N := hM.1.1
  have hMN : MN c sz lb := hM.1.2.1
  have hBrM := brM hG hF hM
  have hBM : BdM c bd bs bl aq an := hM.2.1
  have hLM : LsAt c 75 76 ls it := hM.2.2.1
  have hTM : TpM c t tb := hM.2.2.2.1
  have hW : WdM c := hM.2.2.2.2.1
  by_cases e : bd = false ∨ aq = []
  · exact c_later hBC (fun _ => ⟨obj l68, n_later hBM (fun _ => ⟨rfl, k c hR'⟩) (fun e1 e2 => absurd e (by
      rintro (z | z)
      · rw [z] at e1; cases e1
      · exact e2 z))⟩) (fun e1 e2 => by
      rcases e with e | e
      · rw [e] at e1; cases e1
      · exact absurd e e2)
  · refine c_later hBC (fun z => absurd z e) (fun eb en c1 f1 B1 => ⟨obj l68, ?_⟩)
    have hM1 := hM.fr f1 (by decide)
    refine n_later hM1.2.1 (fun z => absurd z e) (fun _ _ c2 f2 B2 => ⟨rfl, k c2 ⟨(n, mir, N, sz, lb, fb, fs, fl), (bd, bs, bl, rotL aq, an), ls, it, t, tb, kb, s2, ⟨hG, hV, hF⟩, fun z => ⟨(hB z).1, AqV.rot (hB z).2⟩, hP, h2, (hC.desk f1 B1).fr f2 (by decide), hM1.desk ⟨F8.of (f2.mono (by simp)) (by decide), fun i s l _ h => MNet.fr h f2 (by decide) (by decide)⟩ B2⟩⟩)
set_option maxHeartbeats 1000000 in
theorem s_list (hR : Rel c) {x : Int32} {y : Int32} : TwI E (dd + 40) mX11_list mX12_list [.int x, .int y] c := by
  intro K k
  have hR' := hR
  obtain ⟨⟨n, mir, N, sz, lb, fb, fs, fl⟩, ⟨bd, bs, bl, aq, an⟩, ls, it, t, tb, kb, s2, hS, hB, hP, h2, hC, hM⟩ := hR
  have hG : Gd n mir N := hS.1
  have hV : VV n mir sz lb := hS.2.1
  have hF : fb = true → Vl n mir fs fl := hS.2.2
  have hT : Tab c 2 n mir N := hC.1.1
  have hN : NN c sz lb := hC.1.2.1
  have hBr := brC hG hF hC
  have hBC : BdC c bd bs bl aq an := hC.2.1
  have hLC : LsAt c 62 63 ls it := hC.2.2.1
  have hTC : TpC c 64 t tb := hC.2.2.2.1
  have h60 : c.1 60 0 = nI 0 := hC.2.2.2.2.1
  have hMT : MT c n mir N := hM.1.1
  have hMN : MN c sz lb := hM.1.2.1
  have hBrM := brM hG hF hM
  have hBM : BdM c bd bs bl aq an := hM.2.1
  have hLM : LsAt c 75 76 ls it := hM.2.2.1
  have hTM : TpM c t tb := hM.2.2.2.1
  have hW : WdM c := hM.2.2.2.2.1
  cases e : lst0 x y with
  | some r => exact c_list hLC (fun r1 e1 => ⟨obj l68, n_list hLM (fun r2 e2 => ⟨by rw [e1] at e2; exact (Option.some.inj e2).symm, k c hR'⟩) (fun e2 => by rw [e] at e2; cases e2)⟩) (fun e1 => by rw [e] at e1; cases e1)
  | none =>
    refine c_list hLC (fun r1 e1 => by rw [e] at e1; cases e1) (fun _ c1 f1 L1 => ⟨obj l68, ?_⟩)
    have hM1 := hM.fr f1 (by decide)
    exact n_list hM1.2.2.1 (fun r2 e2 => by rw [e] at e2; cases e2) (fun _ c2 f2 L2 => ⟨rfl, k c2 ⟨(n, mir, N, sz, lb, fb, fs, fl), (bd, bs, bl, aq, an), lsS ls (w x) y, itS it (w x) (fun _ => lN 0), t, tb, kb, s2, ⟨hG, hV, hF⟩, hB, hP, h2, (hC.lists f1 L1 (by rw [f1.i (by decide)]; exact h60) (by decide)).fr f2 (by decide), hM1.lists (F8.of (ks := []) f2 (by decide)) L2 (by decide) (by decide)⟩⟩)
set_option maxHeartbeats 1000000 in
theorem s_put (hR : Rel c) {x y : Int32} {v : Int64} : TwI E (dd + 40) mX11_put mX12_put [.int x, .int y, .long v] c := by
  intro K k
  have hR' := hR
  obtain ⟨⟨n, mir, N, sz, lb, fb, fs, fl⟩, ⟨bd, bs, bl, aq, an⟩, ls, it, t, tb, kb, s2, hS, hB, hP, h2, hC, hM⟩ := hR
  have hG : Gd n mir N := hS.1
  have hV : VV n mir sz lb := hS.2.1
  have hF : fb = true → Vl n mir fs fl := hS.2.2
  have hT : Tab c 2 n mir N := hC.1.1
  have hN : NN c sz lb := hC.1.2.1
  have hBr := brC hG hF hC
  have hBC : BdC c bd bs bl aq an := hC.2.1
  have hLC : LsAt c 62 63 ls it := hC.2.2.1
  have hTC : TpC c 64 t tb := hC.2.2.2.1
  have h60 : c.1 60 0 = nI 0 := hC.2.2.2.2.1
  have hMT : MT c n mir N := hM.1.1
  have hMN : MN c sz lb := hM.1.2.1
  have hBrM := brM hG hF hM
  have hBM : BdM c bd bs bl aq an := hM.2.1
  have hLM : LsAt c 75 76 ls it := hM.2.2.1
  have hTM : TpM c t tb := hM.2.2.2.1
  have hW : WdM c := hM.2.2.2.2.1
  cases e : put0 ls x y with
  | some r => exact c_put hLC (fun r1 e1 => ⟨obj l68, n_put hLM (fun r2 e2 => ⟨by rw [e1] at e2; exact (Option.some.inj e2).symm, k c hR'⟩) (fun e2 => by rw [e] at e2; cases e2)⟩) (fun e1 => by rw [e] at e1; cases e1)
  | none =>
    refine c_put hLC (fun r1 e1 => by rw [e] at e1; cases e1) (fun _ c1 f1 L1 => ⟨obj l68, ?_⟩)
    have hM1 := hM.fr f1 (by decide)
    exact n_put hM1.2.2.1 (fun r2 e2 => by rw [e] at e2; cases e2) (fun _ c2 f2 L2 => ⟨rfl, k c2 ⟨(n, mir, N, sz, lb, fb, fs, fl), (bd, bs, bl, aq, an), ls, itP it (w x) (w y) v, t, tb, kb, s2, ⟨hG, hV, hF⟩, hB, hP, h2, (hC.lists f1 L1 (by rw [f1.i (by decide)]; exact h60) (by decide)).fr f2 (by decide), hM1.lists (F8.of (ks := []) f2 (by decide)) L2 (by decide) (by decide)⟩⟩)
set_option maxHeartbeats 1000000 in
theorem s_judge (hR : Rel c) {x : Int32} : TwI E (dd + 40) mX11_judge mX12_judge [.int x] c := by
  intro K k
  have hR' := hR
  obtain ⟨⟨n, mir, N, sz, lb, fb, fs, fl⟩, ⟨bd, bs, bl, aq, an⟩, ls, it, t, tb, kb, s2, hS, hB, hP, h2, hC, hM⟩ := hR
  have hG : Gd n mir N := hS.1
  have hV : VV n mir sz lb := hS.2.1
  have hF : fb = true → Vl n mir fs fl := hS.2.2
  have hT : Tab c 2 n mir N := hC.1.1
  have hN : NN c sz lb := hC.1.2.1
  have hBr := brC hG hF hC
  have hBC : BdC c bd bs bl aq an := hC.2.1
  have hLC : LsAt c 62 63 ls it := hC.2.2.1
  have hTC : TpC c 64 t tb := hC.2.2.2.1
  have h60 : c.1 60 0 = nI 0 := hC.2.2.2.2.1
  have hMT : MT c n mir N := hM.1.1
  have hMN : MN c sz lb := hM.1.2.1
  have hBrM := brM hG hF hM
  have hBM : BdM c bd bs bl aq an := hM.2.1
  have hLM : LsAt c 75 76 ls it := hM.2.2.1
  have hTM : TpM c t tb := hM.2.2.2.1
  have hW : WdM c := hM.2.2.2.2.1
  refine c_judge hG hT hLC h60 (fun c1 f1 z1 => ⟨obj l68, ?_⟩)
  have hM1 := hM.fr f1 (by decide)
  exact n_judge hG hM1.1.1 hM1.2.2.1 (fun c2 f2 => ⟨rfl, k c2 ⟨(n, mir, N, sz, lb, fb, fs, fl), (bd, bs, bl, aq, an), ls, it, t, tb, kb, s2, ⟨hG, hV, hF⟩, hB, hP, h2, (hC.lists f1 (LsAt.fr hLC f1 (by decide) (by decide)) z1 (by decide)).fr f2.1 (by decide), hM1.idle f2 (by decide) (by decide)⟩⟩)
set_option maxHeartbeats 1000000 in
theorem s_found (hR : Rel c) {x : Int32} : TwI E (dd + 40) mX11_found mX12_found [.int x] c := by
  intro K k
  have hR' := hR
  obtain ⟨⟨n, mir, N, sz, lb, fb, fs, fl⟩, ⟨bd, bs, bl, aq, an⟩, ls, it, t, tb, kb, s2, hS, hB, hP, h2, hC, hM⟩ := hR
  have hG : Gd n mir N := hS.1
  have hV : VV n mir sz lb := hS.2.1
  have hF : fb = true → Vl n mir fs fl := hS.2.2
  have hT : Tab c 2 n mir N := hC.1.1
  have hN : NN c sz lb := hC.1.2.1
  have hBr := brC hG hF hC
  have hBC : BdC c bd bs bl aq an := hC.2.1
  have hLC : LsAt c 62 63 ls it := hC.2.2.1
  have hTC : TpC c 64 t tb := hC.2.2.2.1
  have h60 : c.1 60 0 = nI 0 := hC.2.2.2.2.1
  have hMT : MT c n mir N := hM.1.1
  have hMN : MN c sz lb := hM.1.2.1
  have hBrM := brM hG hF hM
  have hBM : BdM c bd bs bl aq an := hM.2.1
  have hLM : LsAt c 75 76 ls it := hM.2.2.1
  have hTM : TpM c t tb := hM.2.2.2.1
  have hW : WdM c := hM.2.2.2.2.1
  by_cases e : inR x 0 (3 : Nat) = true
  · cases ef : fdA N n mir with
    | none =>
      refine c_found hG hT hLC h60 (fun z => by rw [z] at e; cases e) (fun _ _ c1 f1 z1 => ⟨obj l68, ?_⟩) (fun _ P g z => by rw [ef] at z; cases z)
      have hM1 := hM.fr f1 (by decide)
      exact n_found hG hM1.1.1 hM1.2.2.1 (fun z => by rw [z] at e; cases e) (fun _ _ c2 f2 => ⟨rfl, k c2 ⟨(n, mir, N, sz, lb, fb, fs, fl), (bd, bs, bl, aq, an), ls, it, t, tb, kb, s2, ⟨hG, hV, hF⟩, hB, hP, h2, (hC.lists f1 (LsAt.fr hLC f1 (by decide) (by decide)) z1 (by decide)).fr f2.1 (by decide), hM1.idle f2 (by decide) (by decide)⟩⟩) (fun _ P g z => by rw [ef] at z; cases z)
    | some Pg =>
      obtain ⟨P0, g0⟩ := Pg
      refine c_found hG hT hLC h60 (fun z => by rw [z] at e; cases e) (fun _ z => by rw [ef] at z; cases z) (fun _ P g z c1 f1 z1 L1 => ⟨obj l68, ?_⟩)
      have hM1 := hM.fr f1 (by decide)
      exact n_found hG hM1.1.1 hM1.2.2.1 (fun z => by rw [z] at e; cases e) (fun _ z => by rw [ef] at z; cases z) (fun _ P' g' z' c2 f2 L2 => by
        rw [z] at z'
        cases z'
        exact ⟨rfl, k c2 ⟨(n, mir, N, sz, lb, fb, fs, fl), (bd, bs, bl, aq, an), _, _, t, tb, kb, s2, ⟨hG, hV, hF⟩, hB, hP, h2, (hC.lists f1 L1 z1 (by decide)).fr f2.1 (by decide), hM1.lists f2 L2 (by decide) (by decide)⟩⟩)
  · exact c_found hG hT hLC h60 (fun _ => ⟨obj l68, n_found hG hMT hLM (fun _ => ⟨rfl, k c hR'⟩) (fun z => absurd z e) (fun z => absurd z e)⟩) (fun z => absurd z e) (fun z => absurd z e)
set_option maxHeartbeats 1000000 in
theorem s_feed (hR : Rel c) {x : Int32} : TwI E (dd + 40) mX11_feed mX12_feed [.int x] c := by
  intro K k
  have hR' := hR
  obtain ⟨⟨n, mir, N, sz, lb, fb, fs, fl⟩, ⟨bd, bs, bl, aq, an⟩, ls, it, t, tb, kb, s2, hS, hB, hP, h2, hC, hM⟩ := hR
  have hG : Gd n mir N := hS.1
  have hV : VV n mir sz lb := hS.2.1
  have hF : fb = true → Vl n mir fs fl := hS.2.2
  have hT : Tab c 2 n mir N := hC.1.1
  have hN : NN c sz lb := hC.1.2.1
  have hBr := brC hG hF hC
  have hBC : BdC c bd bs bl aq an := hC.2.1
  have hLC : LsAt c 62 63 ls it := hC.2.2.1
  have hTC : TpC c 64 t tb := hC.2.2.2.1
  have h60 : c.1 60 0 = nI 0 := hC.2.2.2.2.1
  have hMT : MT c n mir N := hM.1.1
  have hMN : MN c sz lb := hM.1.2.1
  have hBrM := brM hG hF hM
  have hBM : BdM c bd bs bl aq an := hM.2.1
  have hLM : LsAt c 75 76 ls it := hM.2.2.1
  have hTM : TpM c t tb := hM.2.2.2.1
  have hW : WdM c := hM.2.2.2.2.1
  cases e : fd0 t x with
  | some r => exact c_feed hTC (fun r1 e1 => ⟨obj l68, n_feed hTM hP.1 (fun r2 e2 => ⟨by rw [e1] at e2; exact (Option.some.inj e2).symm, k c hR'⟩) (fun e2 => by rw [e] at e2; cases e2)⟩) (fun e1 => by rw [e] at e1; cases e1)
  | none =>
    have hv : TpV (t + 1) (fset tb t (w x)) := by
      unfold fd0 at e
      by_cases z : inR x (32 : Nat) (127 : Nat) = true
      · rw [if_pos z] at e
        by_cases z2 : t < 100
        · refine ⟨by omega, fun i hi => ?_⟩
          unfold fset
          by_cases z3 : i = t
          · rw [if_pos z3]
            unfold inR at z
            have g := of_decide_eq_true z
            show 32 ≤ x.toInt.toNat ∧ x.toInt.toNat ≤ 126
            omega
          · rw [if_neg z3]; exact hP.2 i (by omega)
        · rw [if_neg z2] at e; cases e
      · rw [if_neg z] at e; cases e
    refine c_feed hTC (fun r1 e1 => by rw [e] at e1; cases e1) (fun _ c1 f1 T1 => ⟨obj l68, ?_⟩)
    have hM1 := hM.fr f1 (by decide)
    exact n_feed hM1.2.2.2.1 hP.1 (fun r2 e2 => by rw [e] at e2; cases e2) (fun _ c2 f2 T2 => ⟨rfl, k c2 ⟨(n, mir, N, sz, lb, fb, fs, fl), (bd, bs, bl, aq, an), ls, it, t + 1, fset tb t (w x), kb, s2, ⟨hG, hV, hF⟩, hB, hv, h2, (hC.tape f1 T1 (by decide)).fr f2.1 (by decide), hM1.tape f2 T2 (by decide) (by decide)⟩⟩)
set_option maxHeartbeats 1000000 in
theorem s_wipe (hR : Rel c)  : TwI E (dd + 40) mX11_wipe mX12_wipe [] c := by
  intro K k
  have hR' := hR
  obtain ⟨⟨n, mir, N, sz, lb, fb, fs, fl⟩, ⟨bd, bs, bl, aq, an⟩, ls, it, t, tb, kb, s2, hS, hB, hP, h2, hC, hM⟩ := hR
  have hG : Gd n mir N := hS.1
  have hV : VV n mir sz lb := hS.2.1
  have hF : fb = true → Vl n mir fs fl := hS.2.2
  have hT : Tab c 2 n mir N := hC.1.1
  have hN : NN c sz lb := hC.1.2.1
  have hBr := brC hG hF hC
  have hBC : BdC c bd bs bl aq an := hC.2.1
  have hLC : LsAt c 62 63 ls it := hC.2.2.1
  have hTC : TpC c 64 t tb := hC.2.2.2.1
  have h60 : c.1 60 0 = nI 0 := hC.2.2.2.2.1
  have hMT : MT c n mir N := hM.1.1
  have hMN : MN c sz lb := hM.1.2.1
  have hBrM := brM hG hF hM
  have hBM : BdM c bd bs bl aq an := hM.2.1
  have hLM : LsAt c 75 76 ls it := hM.2.2.1
  have hTM : TpM c t tb := hM.2.2.2.1
  have hW : WdM c := hM.2.2.2.2.1
  refine c_wipe hTC (fun c1 f1 T1 => ⟨obj l68, ?_⟩)
  have hM1 := hM.fr f1 (by decide)
  exact n_wipe hM1.2.2.2.1 (fun c2 f2 T2 => ⟨rfl, k c2 ⟨(n, mir, N, sz, lb, fb, fs, fl), (bd, bs, bl, aq, an), ls, it, 0, tb, kb, s2, ⟨hG, hV, hF⟩, hB, ⟨Nat.zero_le _, fun i hi => absurd hi (Nat.not_lt_zero _)⟩, h2, (hC.tape f1 T1 (by decide)).fr f2.1 (by decide), hM1.tape f2 T2 (by decide) (by decide)⟩⟩)
set_option maxHeartbeats 1000000 in
theorem s_read (hR : Rel c)  : TwI E (dd + 40) mX11_read mX12_read [] c := by
  intro K k
  have hR' := hR
  obtain ⟨⟨n, mir, N, sz, lb, fb, fs, fl⟩, ⟨bd, bs, bl, aq, an⟩, ls, it, t, tb, kb, s2, hS, hB, hP, h2, hC, hM⟩ := hR
  have hG : Gd n mir N := hS.1
  have hV : VV n mir sz lb := hS.2.1
  have hF : fb = true → Vl n mir fs fl := hS.2.2
  have hT : Tab c 2 n mir N := hC.1.1
  have hN : NN c sz lb := hC.1.2.1
  have hBr := brC hG hF hC
  have hBC : BdC c bd bs bl aq an := hC.2.1
  have hLC : LsAt c 62 63 ls it := hC.2.2.1
  have hTC : TpC c 64 t tb := hC.2.2.2.1
  have h60 : c.1 60 0 = nI 0 := hC.2.2.2.2.1
  have hMT : MT c n mir N := hM.1.1
  have hMN : MN c sz lb := hM.1.2.1
  have hBrM := brM hG hF hM
  have hBM : BdM c bd bs bl aq an := hM.2.1
  have hLM : LsAt c 75 76 ls it := hM.2.2.1
  have hTM : TpM c t tb := hM.2.2.2.1
  have hW : WdM c := hM.2.2.2.2.1
  refine c_read hG hT hTC hP (fun c0 c1 R1 f1 z1 => ⟨obj l68, ?_⟩)
  have hX := rdA_G (tb := tb) (t := t) (s := (n, mir, N, false)) hG
  have hK := rdA_K (tb := tb) (t := t) (s := (n, mir, N, false)) hG
  generalize hgen : rdA tb t (n, mir, N, false) = X at *
  have hM1 := (hM.fr R1.2.1 (by decide)).fr f1 (by decide)
  refine n_read hG hM1.1.1 hM1.2.2.2.2.1 hM1.2.2.2.1 hP (fun c2 R2 z2 => ?_)
  rw [hgen] at R2 ⊢
  refine ⟨rfl, k c2 ?_⟩
  obtain ⟨v, n', mir', N', cl⟩ := X
  have tv : TpV 0 tb := ⟨Nat.zero_le _, fun i hi => absurd hi (Nat.not_lt_zero _)⟩
  have tc : TpC c1 64 0 tb := ⟨z1, Nat.zero_le _, fun i hi => absurd hi (Nat.not_lt_zero _)⟩
  have tm : TpM c2 0 tb := ⟨z2, fun i hi => absurd hi (Nat.not_lt_zero _)⟩
  cases cl with
  | true =>
    obtain ⟨y1, y2, y3⟩ := R1.2.2.1 rfl
    obtain ⟨w1, w2, w3⟩ := R2.2.2.1 rfl
    exact ⟨fSh n' mir' N', fBd, ls, it, 0, tb, kb, s2, InvS.fresh hX, InvB.fresh, tv, h2, ((hC.fresh R1.2.1 R1.1 y1 y2 y3).tape f1 tc (by decide)).fr R2.2.1.1 (by decide), hM1.freshT R2.2.1 (by decide) (by decide) R2.1 w1 w2 w3 tm⟩
  | false =>
    obtain ⟨g1, g2⟩ := hK rfl
    have g1 : n' = n := g1
    have g2 : mir' = mir := g2
    subst g1; subst g2
    have f3 := R2.2.2.2 rfl
    exact ⟨(n', mir', N', sz, lb, fb, fs, fl), (bd, bs, bl, aq, an), ls, it, 0, tb, kb, s2, ⟨hX, hV, hF⟩, hB.thr, tv, h2, ((hC.thr (R1.2.2.2 rfl) R1.1).tape f1 tc (by decide)).fr f3.1 (by decide), hM1.thrT f3 (by decide) (by decide) R2.1 tm⟩
set_option maxHeartbeats 1000000 in
theorem s_image (hR : Rel c)  : TwI E (dd + 40) mX11_image mX12_image [] c := by
  intro K k
  have hR' := hR
  obtain ⟨⟨n, mir, N, sz, lb, fb, fs, fl⟩, ⟨bd, bs, bl, aq, an⟩, ls, it, t, tb, kb, s2, hS, hB, hP, h2, hC, hM⟩ := hR
  have hG : Gd n mir N := hS.1
  have hV : VV n mir sz lb := hS.2.1
  have hF : fb = true → Vl n mir fs fl := hS.2.2
  have hT : Tab c 2 n mir N := hC.1.1
  have hN : NN c sz lb := hC.1.2.1
  have hBr := brC hG hF hC
  have hBC : BdC c bd bs bl aq an := hC.2.1
  have hLC : LsAt c 62 63 ls it := hC.2.2.1
  have hTC : TpC c 64 t tb := hC.2.2.2.1
  have h60 : c.1 60 0 = nI 0 := hC.2.2.2.2.1
  have hMT : MT c n mir N := hM.1.1
  have hMN : MN c sz lb := hM.1.2.1
  have hBrM := brM hG hF hM
  have hBM : BdM c bd bs bl aq an := hM.2.1
  have hLM : LsAt c 75 76 ls it := hM.2.2.1
  have hTM : TpM c t tb := hM.2.2.2.1
  have hW : WdM c := hM.2.2.2.2.1
  refine c_image hC.1 (fun c1 f1 S1 z1 => ⟨obj l68, ?_⟩)
  have hM1 := hM.fr f1 (by decide)
  exact n_image hM1.1 (fun c2 f2 S2 z2 => ⟨rfl, k c2 ⟨(n, mir, N, sz, lb, fb, fs, fl), (bd, bs, bl, aq, an), ls, it, t, tb, true, (n, mir, N, sz, lb, fb, fs, fl), ⟨hG, hV, hF⟩, hB, hP, fun _ => ⟨hG, hV, hF⟩, (hC.keep f1 S1 z1).fr f2.1 (by decide), hM1.keep f2 S2 z2⟩⟩)
set_option maxHeartbeats 1000000 in
theorem s_undo (hR : Rel c)  : TwI E (dd + 40) mX11_undo mX12_undo [] c := by
  intro K k
  have hR' := hR
  obtain ⟨⟨n, mir, N, sz, lb, fb, fs, fl⟩, ⟨bd, bs, bl, aq, an⟩, ls, it, t, tb, kb, s2, hS, hB, hP, h2, hC, hM⟩ := hR
  have hG : Gd n mir N := hS.1
  have hV : VV n mir sz lb := hS.2.1
  have hF : fb = true → Vl n mir fs fl := hS.2.2
  have hT : Tab c 2 n mir N := hC.1.1
  have hN : NN c sz lb := hC.1.2.1
  have hBr := brC hG hF hC
  have hBC : BdC c bd bs bl aq an := hC.2.1
  have hLC : LsAt c 62 63 ls it := hC.2.2.1
  have hTC : TpC c 64 t tb := hC.2.2.2.1
  have h60 : c.1 60 0 = nI 0 := hC.2.2.2.2.1
  have hMT : MT c n mir N := hM.1.1
  have hMN : MN c sz lb := hM.1.2.1
  have hBrM := brM hG hF hM
  have hBM : BdM c bd bs bl aq an := hM.2.1
  have hLM : LsAt c 75 76 ls it := hM.2.2.1
  have hTM : TpM c t tb := hM.2.2.2.1
  have hW : WdM c := hM.2.2.2.2.1
  cases kb with
  | false => exact c_undo (b0 := false) (n := n) (mir := mir) (N := N) (sz := sz) (lb := lb) (fb := fb) (fs := fs) (fl := fl) hC.2.2.2.2.2.1 (fun z => by cases z) (fun _ => ⟨obj l68, n_undo (b0 := false) (n := n) (mir := mir) (N := N) (sz := sz) (lb := lb) (fb := fb) (fs := fs) (fl := fl) hM.2.2.2.2.2.1 (fun z => by cases z) (fun _ => ⟨rfl, k c hR'⟩) (fun z => by cases z)⟩) (fun z => by cases z)
  | true =>
    obtain ⟨n', mir', N', sz', lb', fb', fs', fl'⟩ := s2
    refine c_undo (b0 := true) hC.2.2.2.2.2.1 (fun _ => hC.2.2.2.2.2.2 rfl) (fun z => by cases z) (fun _ c1 f1 S1 d1 _ => ⟨obj l68, ?_⟩)
    have hM1 := hM.fr f1 (by decide)
    exact n_undo (b0 := true) hM1.2.2.2.2.2.1 (fun _ => hM1.2.2.2.2.2.2 rfl) (fun z => by cases z) (fun _ c2 f2 S2 d2 => ⟨rfl, k c2 ⟨(n', mir', N', sz', lb', fb', fs', fl'), fBd, ls, it, t, tb, true, (n', mir', N', sz', lb', fb', fs', fl'), h2 rfl, InvB.fresh, hP, h2, (hC.upd (b' := fBd) f1 S1 ⟨d1, fun e => by cases e⟩ (by decide)).fr f2.1 (by decide), hM1.upd (b' := fBd) f2 S2 ⟨d2, fun e => by cases e⟩ (by decide) (by decide)⟩⟩)
end ST
