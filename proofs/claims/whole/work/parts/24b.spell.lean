/-! spelled -/
def wl : Nat → List Nat
  | 0 => [97, 116, 111, 109, 115]
  | 1 => [112, 97, 105, 114]
  | 2 => [105, 110]
  | 3 => [111, 117, 116]
  | 4 => [59, 112, 97, 105, 114]
  | _ => [59, 105, 110]
theorem wl_len : ∀ i, i < 6 → (wl i).length = gk_len.getD i 0 := by decide
theorem wl_ch : ∀ i, i < 6 → ∀ j, j < gk_len.getD i 0 → chS i j = nI ((wl i).getD j 0) := by decide
theorem wl_128 : ∀ i, i < 6 → ∀ v, v ∈ wl i → v < 128 := by decide
def fgT (v : Nat) : List Nat := [32, 48 + v]
def prT (mir : Nat → Nat) (a : Nat) : List Nat := if a < mir a then wl 4 ++ (fgT a ++ fgT (mir a)) else []
def inT3 (mir : Nat → Nat) (N a b z : Nat) : List Nat := if (N.testBit (ix a b z) && lsB mir a b z) = true then wl 5 ++ (fgT a ++ (fgT b ++ fgT z)) else []
/-- the text of a table -/
def spT (n : Nat) (mir : Nat → Nat) (N : Nat) : List Nat := (wl 0 ++ fgT n) ++ ((rg 1 n).flatMap (prT mir) ++ (rg 1 n).flatMap (fun a => (rg 1 n).flatMap (fun b => (rg 1 n).flatMap (inT3 mir N a b))))
def mf4 (x y z : Nat) : Nat → Nat := fun k => if k = 1 then x else if k = 2 then y else if k = 3 then z else 0
def in3L (mir : Nat → Nat) (a b z : Nat) : Nat := if lsB mir a b z = true then 9 else 0
def prL (mir : Nat → Nat) (a : Nat) : Nat := if a < mir a then 9 else 0
def fullL (n : Nat) (mir : Nat → Nat) : Nat := 7 + (((rg 1 n).map (prL mir)).sum + ((rg 1 n).map (fun a => ((rg 1 n).map (fun b => ((rg 1 n).map (in3L mir a b)).sum)).sum)).sum)
def invB (n : Nat) (mir : Nat → Nat) : Bool := (rg 1 n).all (fun a => decide (mir a < n) && mir (mir a) == a)
theorem full100 : ∀ n, n ≤ 4 → ∀ x, x < 4 → ∀ y, y < 4 → ∀ z, z < 4 → invB n (mf4 x y z) = true → fullL n (mf4 x y z) ≤ 100 := by decide +kernel
theorem flat_le {f : Nat → List Nat} {b : Nat → Nat} : ∀ (L : List Nat), (∀ x, x ∈ L → (f x).length ≤ b x) → (L.flatMap f).length ≤ (L.map b).sum
  | [], _ => Nat.le_refl _
  | x :: L, h => by
    rw [List.flatMap_cons, List.length_append, List.map_cons, List.sum_cons]
    have := h x List.mem_cons_self
    have := flat_le L (fun y hy => h y (List.mem_cons_of_mem _ hy))
    omega
theorem spT_100 {n N : Nat} {mir : Nat → Nat} (hG : Gd n mir N) : (spT n mir N).length ≤ 100 := by
  have n4 := hG.n4
  have em : ∀ a, a ∈ rg 1 n → mf4 (mir 1) (mir 2) (mir 3) a = mir a := fun a ha => by
    have ha := (rg_mem _ 1 rfl).mp ha
    have : a = 1 ∨ a = 2 ∨ a = 3 := by omega
    rcases this with rfl | rfl | rfl <;> rfl
  have hinv : invB n (mf4 (mir 1) (mir 2) (mir 3)) = true := by
    unfold invB
    rw [List.all_eq_true]
    intro a ha
    have ha' := (rg_mem _ 1 rfl).mp ha
    have hm := hG.ml a ha'.2
    have mz : 1 ≤ mir a := by
      rcases Nat.eq_zero_or_pos (mir a) with z | z
      · have := hG.mm a ha'.2
        rw [z, hG.m0] at this
        omega
      · exact z
    rw [em a ha, em (mir a) ((rg_mem _ 1 rfl).mpr ⟨mz, hm⟩), hG.mm a ha'.2, decide_eq_true hm]
    simp
  refine Nat.le_trans ?_ (full100 n n4 (mir 1) (hG.m4 1 (by decide)) (mir 2) (hG.m4 2 (by decide)) (mir 3) (hG.m4 3 (by decide)) hinv)
  unfold spT fullL
  rw [List.length_append, List.length_append, List.length_append]
  have h0 : (wl 0).length + (fgT n).length = 7 := rfl
  have h1 : ((rg 1 n).flatMap (prT mir)).length ≤ ((rg 1 n).map (prL (mf4 (mir 1) (mir 2) (mir 3)))).sum := flat_le _ (fun a ha => by
    unfold prT prL
    rw [em a ha]
    split
    · exact Nat.le_refl _
    · exact Nat.le_refl _)
  have h2 : ((rg 1 n).flatMap (fun a => (rg 1 n).flatMap (fun b => (rg 1 n).flatMap (inT3 mir N a b)))).length ≤ ((rg 1 n).map (fun a => ((rg 1 n).map (fun b => ((rg 1 n).map (in3L (mf4 (mir 1) (mir 2) (mir 3)) a b)).sum)).sum)).sum := flat_le _ (fun a ha => flat_le _ (fun b hb => flat_le _ (fun z hz => by
    have e : lsB (mf4 (mir 1) (mir 2) (mir 3)) a b z = lsB mir a b z := by
      unfold lsB tv tt
      simp only [List.range, List.range.loop, List.all_cons, List.all_nil, em a ha, em b hb, em z hz]
    unfold inT3 in3L
    rw [e]
    cases lsB mir a b z with
    | true =>
      split
      · exact Nat.le_refl _
      · exact Nat.zero_le _
    | false =>
      rw [Bool.and_false]
      exact Nat.le_refl _)))
  omega
def TL (c : gm) (r : Nat) (A : List Nat) : Prop := c.1 r 0 = nI A.length ∧ A.length ≤ 100 ∧ ∀ i v, A[i]? = some v → c.1 (r + 1) i = nI v
theorem TL.fr {c c' : gm} {r : Nat} {A : List Nat} {l : List Nat} (h : TL c r A) (hf : Fr l c c') (h1 : r ∉ l) (h2 : r + 1 ∉ l) : TL c' r A := ⟨by rw [hf.i h1]; exact h.1, h.2.1, fun i v hv => by rw [hf.i h2]; exact h.2.2 i v hv⟩
section SPL
variable {E : gk_E} {dd : Nat} {c : gm} {n N : Nat} {mir : Nat → Nat} {A : List Nat}
theorem c_wr (hT : TL c 66 A) (hl : A.length < 100) {v : Nat} (hv : v < 128) {K : gk_H → Prop} (k : ∀ c', Fr [66, 67] c c' → TL c' 66 (A ++ [v]) → K (Hm c')) : RnV E mX9_append (dd, 0, 0) [.ref 66, .int (nI v)] (Hm c) K := by
  refine c_append (tb := fun i => A.getD i 0) isTp_66 ⟨hT.1, hT.2.1, fun i hi => ?_⟩ hl hv (fun c' f' t' => k c' f' ⟨by rw [t'.1, List.length_append]; rfl, by rw [List.length_append]; exact t'.2.1, fun i x hx => ?_⟩)
  · rw [hT.2.2 i (A.getD i 0) (by rw [List.getD_eq_getElem?_getD, List.getElem?_eq_getElem hi]; rfl)]
  · have hi := (List.getElem?_eq_some_iff.mp hx).1
    rw [List.length_append, List.length_singleton] at hi
    rw [t'.2.2 i hi]
    unfold fset
    by_cases e : i = A.length
    · rw [if_pos e]
      rw [e, List.getElem?_append_right (Nat.le_refl _), Nat.sub_self] at hx
      rw [← Option.some.inj hx]
    · rw [if_neg e]
      rw [List.getElem?_append_left (by omega)] at hx
      show nI (A.getD i 0) = nI x
      rw [List.getD_eq_getElem?_getD, hx]
      rfl
theorem c_writeWord {i : Nat} (hi : i < 6) (hT : TL c 66 A) (hl : A.length + (wl i).length ≤ 100) {K : gk_H → Prop} (k : ∀ c', Fr [66, 67] c c' → TL c' 66 (A ++ wl i) → K (Hm c')) : RnV E mX9_writeWord (dd + 4, 0, 0) [.ref 66, .ref (1000001 + i)] (Hm c) K := by
  have hlen := wl_len i hi
  have l5 := len5 i hi
  refine vX9_writeWord_0 ?_
  refine down (P := fun j => ∀ c' B, Fr [66, 67] c c' → TL c' 66 B → B ++ (wl i).drop j = A ++ wl i → pX9_writeWord_2 E dd i 66 (nI j) (Hm c') K) (gk_len.getD i 0) ?_ ?_ 0 (Nat.zero_le _) c A Fr.rf hT (by rw [List.drop_zero])
  · intro c' B hf hB he
    rw [← hlen, List.drop_length, List.append_nil] at he
    subst he
    exact vX9_writeWord_2 hi (by omega) ⟨fun _ => k c' hf hB, fun z => absurd z (by omega)⟩
  · intro j hj ih c' B hf hB he
    have hd : (wl i).drop j = (wl i).getD j 0 :: (wl i).drop (j + 1) := by
      rw [List.drop_eq_getElem_cons (by omega), List.getD_eq_getElem?_getD, List.getElem?_eq_getElem (by omega)]
      rfl
    rw [hd] at he
    refine vX9_writeWord_2 hi (by omega) ⟨fun z => absurd z (by omega), fun _ => ⟨obj l66, ?_⟩⟩
    rw [wl_ch i hi j hj]
    have hlt : B.length < 100 := by
      have := congrArg List.length he
      simp only [List.length_append, List.length_cons] at this
      omega
    refine c_wr hB hlt (wl_128 i hi _ ?_) (fun c2 f2 t2 => ?_)
    · rw [List.getD_eq_getElem?_getD, List.getElem?_eq_getElem (by omega)]
      exact List.getElem_mem _
    · rw [nI_add]
      exact ih c2 _ (hf.trans f2) t2 (by rw [← he, List.append_assoc]; rfl)
theorem c_writeFigure (hT : TL c 66 A) (hl : A.length + 2 ≤ 100) {v : Nat} (hv : v < 10) {K : gk_H → Prop} (k : ∀ c', Fr [66, 67] c c' → TL c' 66 (A ++ fgT v) → K (Hm c')) : RnV E mX9_writeFigure (dd + 1, 0, 0) [.ref 66, .int (nI v)] (Hm c) K := by
  refine vX9_writeFigure_0 ⟨obj l66, c_wr hT (by omega) (by decide) (fun c1 f1 t1 => ⟨obj l66, ?_⟩)⟩
  rw [nI_add]
  refine c_wr t1 (by rw [List.length_append, List.length_singleton]; omega) (by omega) (fun c2 f2 t2 => k c2 (f1.trans f2) ?_)
  rw [List.append_assoc] at t2
  exact t2
theorem rgd_nil {k : Nat} : rg k k = [] := rg_nil (Nat.le_refl _)
theorem c_spell (hG : Gd n mir N) (hT : Tab c 2 n mir N) {K : gk_H → Prop} (k : ∀ c', Fr [66, 67] c c' → TL c' 66 (spT n mir N) → K (Hm c')) : RnV E mX9_spell (dd + 6, 0, 0) [.ref 66, .ref 2] (Hm c) K := by
  have n4 := hG.n4
  have n1 := hG.n1
  have h100 := spT_100 hG
  have m4 : ∀ a, a < n → mir a < 4 := fun a ha => by have := hG.ml a ha; omega
  have lp : ∀ {B C : List Nat}, B ++ C = spT n mir N → B.length + C.length ≤ 100 := fun {B C} h => by rw [← List.length_append, h]; exact h100
  refine vX9_spell_0 (stI l66 rfl ⟨obj l66, ?_⟩)
  have f0 : Fr [66, 67] c (mI c 66 0 (nI 0)) := Fr.rf.mI (by simp)
  have e0 := lp (B := []) (C := spT n mir N) rfl
  have l0' : (spT n mir N).length = 5 + (2 + ((rg 1 n).flatMap (prT mir) ++ (rg 1 n).flatMap (fun a => (rg 1 n).flatMap (fun b => (rg 1 n).flatMap (inT3 mir N a b)))).length) := by
    unfold spT
    rw [List.length_append, List.length_append]
    show 5 + 2 + _ = _
    omega
  refine c_writeWord (i := 0) (dd := dd + 1) (A := []) (by decide) ⟨mI_s, Nat.zero_le _, fun i v h => nomatch h⟩ (by show 0 + 5 ≤ 100; decide) (fun c1 f1 t1 => ldI l2 rfl ?_)
  have T1 := (hT.fr f0 (by decide) (by decide)).fr f1 (by decide) (by decide)
  rw [T1.1]
  refine ⟨obj l66, c_writeFigure (dd := dd + 4) t1 (by show 5 + 2 ≤ 100; decide) (by omega) (fun c2 f2 t2 => ?_)⟩
  have F2 : Fr [66, 67] c c2 := (f0.trans f1).trans f2
  have t2 : TL c2 66 (wl 0 ++ fgT n) := t2
  refine downF (P := fun a => ∀ c' B, Fr [66, 67] c c' → TL c' 66 B → B ++ ((rg a n).flatMap (prT mir) ++ (rg 1 n).flatMap (fun a => (rg 1 n).flatMap (fun b => (rg 1 n).flatMap (inT3 mir N a b)))) = spT n mir N → pX9_spell_21 E (dd + 5) 66 2 (nI a) (Hm c') K) 1 n n1 ?_ ?_ c2 _ F2 t2 rfl
  · intro c' B hf hB he
    have T' := hT.fr hf (by decide) (by decide)
    refine vX9_spell_21 (ldI l2 rfl ?_)
    rw [T'.1]
    refine bLe (fun _ => ?_) (fun z => absurd z (by omega))
    rw [rgd_nil, List.flatMap_nil, List.nil_append] at he
    refine downF (P := fun a => ∀ c' B, Fr [66, 67] c c' → TL c' 66 B → B ++ (rg a n).flatMap (fun a => (rg 1 n).flatMap (fun b => (rg 1 n).flatMap (inT3 mir N a b))) = spT n mir N → pX9_spell_68 E (dd + 5) 66 2 (nI a) (Hm c') K) 1 n n1 ?_ ?_ c' B hf hB he
    · intro c' B hf hB he
      have T' := hT.fr hf (by decide) (by decide)
      refine vX9_spell_68 (ldI l2 rfl ?_)
      rw [T'.1]
      rw [rgd_nil, List.flatMap_nil, List.append_nil] at he
      subst he
      exact bLe (fun _ => k c' hf hB) (fun z => absurd z (by omega))
    · intro a ha1 ha iha c' B hf hB he
      have T' := hT.fr hf (by decide) (by decide)
      refine vX9_spell_68 (ldI l2 rfl ?_)
      rw [T'.1]
      rw [rg_cons ha, List.flatMap_cons] at he
      refine bLe (fun z => absurd z (by omega)) (fun _ => ?_)
      generalize hR : (rg (a + 1) n).flatMap (fun a => (rg 1 n).flatMap (fun b => (rg 1 n).flatMap (inT3 mir N a b))) = R at *
      refine downF (P := fun b => ∀ c' B, Fr [66, 67] c c' → TL c' 66 B → B ++ ((rg b n).flatMap (fun b => (rg 1 n).flatMap (inT3 mir N a b)) ++ R) = spT n mir N → pX9_spell_78 E (dd + 5) 66 2 (nI a) (nI b) (Hm c') K) 1 n n1 ?_ ?_ c' B hf hB he
      · intro c' B hf hB he
        have T' := hT.fr hf (by decide) (by decide)
        refine vX9_spell_78 (ldI l2 rfl ?_)
        rw [T'.1, nI_add]
        rw [rgd_nil, List.flatMap_nil, List.nil_append] at he
        exact bLe (fun _ => iha c' B hf hB he) (fun z => absurd z (by omega))
      · intro b hb1 hb ihb c' B hf hB he
        have T' := hT.fr hf (by decide) (by decide)
        refine vX9_spell_78 (ldI l2 rfl ?_)
        rw [T'.1]
        rw [rg_cons hb, List.flatMap_cons, List.append_assoc] at he
        refine bLe (fun z => absurd z (by omega)) (fun _ => ?_)
        generalize hR2 : (rg (b + 1) n).flatMap (fun b => (rg 1 n).flatMap (inT3 mir N a b)) ++ R = R2 at *
        refine downF (P := fun z => ∀ c' B, Fr [66, 67] c c' → TL c' 66 B → B ++ ((rg z n).flatMap (inT3 mir N a b) ++ R2) = spT n mir N → pX9_spell_89 E (dd + 5) 66 2 (nI a) (nI b) (nI z) (Hm c') K) 1 n n1 ?_ ?_ c' B hf hB he
        · intro c' B hf hB he
          have T' := hT.fr hf (by decide) (by decide)
          refine vX9_spell_89 (ldI l2 rfl ?_)
          rw [T'.1, nI_add]
          rw [rgd_nil, List.flatMap_nil, List.nil_append] at he
          exact bLe (fun _ => ihb c' B hf hB he) (fun z => absurd z (by omega))
        · intro z hz1 hz ihz c' B hf hB he
          have T' := hT.fr hf (by decide) (by decide)
          refine vX9_spell_89 (ldI l2 rfl ?_)
          rw [T'.1]
          simp only [nI_add]
          rw [rg_cons hz, List.flatMap_cons, List.append_assoc] at he
          refine bLe (fun z => absurd z (by omega)) (fun _ => ⟨obj l2, c_has ⟨l2, l3⟩ T' (by omega) (by omega) (by omega) ?_⟩)
          refine bB0 (fun e => ?_) (fun e => ⟨obj l2, c_isLeastTurn (dd := dd + 3) ⟨l2, l3⟩ T' (by omega) (by omega) (by omega) ?_⟩)
          · rw [show inT3 mir N a b z = [] from by unfold inT3; rw [e]; rfl, List.nil_append] at he
            exact ihz c' B hf hB he
          · refine bB0 (fun e2 => ?_) (fun e2 => ⟨obj l66, ?_⟩)
            · rw [show inT3 mir N a b z = [] from by unfold inT3; rw [e, e2]; rfl, List.nil_append] at he
              exact ihz c' B hf hB he
            · rw [show inT3 mir N a b z = wl 5 ++ (fgT a ++ (fgT b ++ fgT z)) from by unfold inT3; rw [e, e2]; rfl] at he
              have hle := lp he
              simp only [List.length_append] at hle
              have w5 : (wl 5).length = 3 := rfl
              have wf : ∀ v, (fgT v).length = 2 := fun _ => rfl
              rw [w5, wf, wf, wf] at hle
              refine vX9_writeThree_0 ⟨obj l66, c_writeWord (i := 5) (dd := dd) (by decide) hB (by rw [w5]; omega) (fun c3 f3 t3 => ⟨obj l66, c_writeFigure (dd := dd + 3) t3 (by rw [List.length_append, w5]; omega) (by omega) (fun c4 f4 t4 => ⟨obj l66, c_writeFigure (dd := dd + 3) t4 (by simp only [List.length_append]; rw [w5, wf]; omega) (by omega) (fun c5 f5 t5 => ⟨obj l66, c_writeFigure (dd := dd + 3) t5 (by simp only [List.length_append]; rw [w5, wf, wf]; omega) (by omega) (fun c6 f6 t6 => ?_)⟩)⟩)⟩)⟩
              exact ihz c6 _ ((((hf.trans f3).trans f4).trans f5).trans f6) t6 (by rw [← he]; simp only [List.append_assoc])
  · intro a ha1 ha iha c' B hf hB he
    have T' := hT.fr hf (by decide) (by decide)
    have mr := T'.2.2.2.2.2 a (by omega)
    refine vX9_spell_21 (ldI l2 rfl ?_)
    rw [T'.1]
    rw [rg_cons ha, List.flatMap_cons, List.append_assoc] at he
    refine bLe (fun z => absurd z (by omega)) (fun _ => ldR l2 rfl (alI l3 (by omega) (by decide) ?_))
    rw [mr.1, nI_add]
    have mr2 := mr.2
    refine bLe (fun e => ?_) (fun e => ⟨obj l66, ?_⟩)
    · rw [show prT mir a = [] from by unfold prT; rw [if_neg (by omega)], List.nil_append] at he
      exact iha c' B hf hB he
    · rw [show prT mir a = wl 4 ++ (fgT a ++ fgT (mir a)) from by unfold prT; rw [if_pos e]] at he
      have hle := lp he
      simp only [List.length_append] at hle
      have w5 : (wl 4).length = 5 := rfl
      have wf : ∀ v, (fgT v).length = 2 := fun _ => rfl
      rw [w5, wf, wf] at hle
      refine c_writeWord (i := 4) (dd := dd + 1) (by decide) hB (by rw [w5]; omega) (fun c3 f3 t3 => ⟨obj l66, c_writeFigure (dd := dd + 4) t3 (by rw [List.length_append, w5]; omega) (by omega) (fun c4 f4 t4 => ldR l2 rfl (alI l3 (by omega) (by decide) ⟨obj l66, ?_⟩))⟩)
      have F4 := (hf.trans f3).trans f4
      rw [((hT.fr F4 (by decide) (by decide)).2.2.2.2.2 a (by omega)).1]
      refine c_writeFigure (dd := dd + 4) t4 (by simp only [List.length_append]; rw [w5, wf]; omega) (by omega) (fun c5 f5 t5 => ?_)
      exact iha c5 _ (F4.trans f5) t5 (by rw [← he]; simp only [List.append_assoc])
def sp_sl (n : Nat) (mir : Nat → Nat) (N : Nat) (x : Int32) : Int32 := if -1 ≤ x then gAns x 0 (spT n mir N) else -1
theorem c_spelled (hG : Gd n mir N) (hT : Tab c 2 n mir N) {x : Int32} {K : Int32 → gk_H → Prop} (k : ∀ c', Fr [66, 67] c c' → K (sp_sl n mir N x) (Hm c')) : RnI E mX11_spelled (dd + 7, 0, 0) [.ref 0, .int x] (Hm c) K := by
  unfold sp_sl at k
  refine vX11_spelled_0 ⟨fun hx => ldR l0 rfl (ldR l0 rfl (ldR l1 rfl ⟨obj l66, c_spell (dd := dd) hG hT (fun c1 f1 t1 => ?_)⟩)), fun hx => ?_⟩
  · have k := k c1 f1
    rw [if_pos hx] at k
    rcases ge_m1 hx with e | ⟨q, hq, e⟩
    · refine ⟨fun z => absurd e z, fun _ => ldR l0 rfl (ldI l66 rfl ?_)⟩
      rw [t1.1]
      rw [gAns, if_pos e, Nat.zero_add] at k
      exact k
    · subst e
      refine ⟨fun _ => ldR l0 rfl (ldI l66 rfl ?_), fun z => absurd z (nI_ne1 hq)⟩
      rw [t1.1]
      rw [gAns, if_neg (nI_ne1 hq), w_nI hq, Nat.sub_zero] at k
      have h100 := t1.2.1
      refine bLe (fun z => ?_) (fun z => ldR l0 rfl (ldR l66 rfl (alB l67 (by omega) (by decide) ?_)))
      · rw [List.getElem?_eq_none z] at k; exact k
      · rw [List.getElem?_eq_getElem z] at k
        rw [t1.2.2 q _ (List.getElem?_eq_getElem z)]
        exact k
  · have k := k c Fr.rf
    rw [if_neg hx] at k
    exact k
end SPL
