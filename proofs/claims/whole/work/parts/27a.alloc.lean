/-! making: objects and arrays -/
/-- the pool's entry idx of class own is class ci, which can be made: its fields as they are born -/
def gk_Nw (own : String) (idx ci N : Nat) (fs : List Value) : Prop := ∃ (C : String) (T : u_T) (ty : Nat → FieldType), gk_Cl ci C T N ∧ Cond.classLink own idx C ∈ gk_T ∧ Cond.instantiable C N ∈ gk_T ∧ Cond.initialized C ∈ gk_T ∧ (∀ k, k < N → parseFieldDescriptor (T k).2.2.1 = some (ty k)) ∧ fs = (List.range N).map (fun k => defaultValue (ty k))
theorem gk_vdv (E : gk_E) (t : FieldType) : gk_v E (defaultValue t) = defaultValue t := by cases t <;> rfl
section GKN
variable {E : gk_E} {M : gk_M} {pc : Nat} {lv : List (Nat × Value)} {st : List Value} {h : gk_H} {K : Option Value → gk_H → Prop}
theorem gk_aN (E : gk_E) {n : Nat} (h : n < 900000) : gk_a E n = gk_b E + n := by rw [gk_a, if_pos (by omega)]
/-- one more cell -/
theorem gk_W.push {H H1 : Heap} {y : gk_X} (hW : gk_W E h H) (h9 : h.length < 900000) (hsz : H.size = gk_b E + h.length) (o1 : ∀ q : Nat, q < H.size → H1[q]? = H[q]?) (ha : va_at (gk_D E) vwCl (gk_b E + (0 + h.length), gk_e E y) H1) : gk_W E (h ++ [y]) H1 := by
  refine ⟨?_, by simp; omega⟩
  rw [gk_lay_app]
  refine (hW.1.kept (fun k x hx => o1 x.1 ((hW.1 k x hx).lt))).app (fun k x hx => ?_)
  have hz : k < 1 := (List.getElem?_eq_some_iff.mp hx).1
  rw [show k = 0 by omega] at hx
  cases hx
  exact ha
set_option maxHeartbeats 1000000 in
theorem gk_newO {d1 b1 b2 idx ci N : Nat} {fs : List Value} (hd : decode M.2.1 pc = .ok (.new idx, 3)) (hw : gk_Nw M.1.cls idx ci N fs) (h9 : h.length < 900000) (kk : gk_G E M (d1, b1, b2) (pc + 3) lv (.ref h.length :: st) (h ++ [.inr (ci, fs)]) K) : gk_G E M (d1, b1 + 1, b2 + N) pc lv st h K := by
  intro p e R s m args below meth c Q MC MS H locs ls cells slots C Rt hW hS hl hc ht hz
  intro T0 hT X
  obtain ⟨Cn, T, ty, hC, w1, w2, w3, hty, rfl⟩ := hw
  have hsz : H.size = gk_b E + h.length := by
    have := gk_size C (by rw [hT]; exact hW) (by rw [hT]; exact hS) hz X
    rwa [hT] at this
  have hts := C.2.2.2.2.2.2.1
  have hK := C.2.2.2.2.2.2.2.2.1.1
  have hRc : MC ≤ R.cells := C.2.2.2.2.2.2.2.2.2.2.2.1
  have hRs : MS ≤ R.slots := C.2.2.2.2.2.2.2.2.2.2.2.2
  have hc' : cells + (b1 + 1) = MC := hc
  have ht' : slots + (b2 + N) = MS := ht
  have hKn := hK.1 ci _ hC.1
  suffices G : W p E.1 e R s m args below meth c H locs cells slots Q (F0 m pc ls (st.map (gk_v E))) from G T0 hT X
  refine W.newcK (n := N) C.1 C.2.1 C.2.2.2.2.2.2.2.1 (hts _ w1) (hts _ w2) (hts _ w3) rfl hd (by omega) (by omega) hKn.2.1 hsz (fun H1 kC hkC e1 z1 o1 => ?_)
  have o2 : ∀ q : Nat, q < H.size → H1[q]? = H[q]? := fun q hq => o1 q (by omega)
  have key := kk p e R s m args below meth c Q MC MS H1 locs ls (cells + 1) (slots + N) (gk_Cx.mono (d' := (d1, b1 + 1, b2 + N)) (Nat.le_refl _) C) Rt (hW.push h9 hsz o2 ⟨_, hC.1, t_OB.to (u_born ty hts hC.2.1 hKn hkC (by rw [Nat.zero_add]; exact e1) hty) (fun j hj => by
    show defaultValue (ty j) = vp_V (((List.range N).map (fun k => defaultValue (ty k))).map (gk_v E)) j
    simp [vp_V, hj, gk_vdv])⟩) ⟨Nat.le_trans hS.1 (by omega), fun x h1 h2 => (o2 x (Nat.lt_of_lt_of_le h1 hS.1)).trans (hS.2.1 x h1 h2), hS.2.2⟩ hl (by show cells + 1 + b1 = MC; omega) (by show slots + N + b2 = MS; omega) (by rw [List.length_append]; show s.heap.size + (cells + 1) ≤ gk_b E + (h.length + 1); omega)
  show W p E.1 e R s m args below meth c H1 locs (cells + 1) (slots + N) Q (F0 m (pc + 3) ls (.ref (gk_b E + h.length) :: st.map (gk_v E)))
  rw [← gk_aN E h9]
  exact key
set_option maxHeartbeats 1000000 in
theorem gk_newA {d1 b1 b2 t n : Nat} {atype : ArrayType} {a0 : vp_A} (hd : decode M.2.1 pc = .ok (.newarray atype, 2)) (hw : Cond.arrayClass (newarray.typeOf atype) ∈ gk_T) (hty : (gk_tys E)[t]? = some (gk_cy E t, newarray.typeOf atype)) (hra : ∀ (U : State) (cA : ClassId), va_RA U cA (newarray.typeOf atype) → U.vm.findClass ("[" ++ (newarray.typeOf atype).toString) = some cA) (ha : ∀ cA : ClassId, vp_cell cA (gk_c E a0) = arrV cA n (fun _ => defaultValue (newarray.typeOf atype))) (hn : n ≤ 1000) (h9 : h.length < 900000)
    (kk : gk_G E M (d1, b1, b2) (pc + 2) lv (.ref h.length :: st) (h ++ [.inl (t, a0)]) K) : gk_G E M (d1, b1 + 1, b2 + n) pc lv (.int (nI n) :: st) h K := by
  intro p e R s m args below meth c Q MC MS H locs ls cells slots C Rt hW hS hl hc ht hz
  intro T0 hT X
  have hsz : H.size = gk_b E + h.length := by
    have := gk_size C (by rw [hT]; exact hW) (by rw [hT]; exact hS) hz X
    rwa [hT] at this
  have hts := C.2.2.2.2.2.2.1
  have hK := C.2.2.2.2.2.2.2.2.1.1
  have hRc : MC ≤ R.cells := C.2.2.2.2.2.2.2.2.2.2.2.1
  have hRs : MS ≤ R.slots := C.2.2.2.2.2.2.2.2.2.2.2.2
  have hc' : cells + (b1 + 1) = MC := hc
  have ht' : slots + (b2 + n) = MS := ht
  have hcb : componentBytes (newarray.typeOf atype) ≤ 8 := by cases atype <;> decide
  have hn0 : ¬ (nI n : Int32) < 0 := by
    intro q
    have h1 := Int32.lt_iff_toInt_lt.mp q
    rw [nI_toInt (by omega)] at h1
    have : (0 : Int32).toInt = 0 := rfl
    omega
  suffices G : W p E.1 e R s m args below meth c H locs cells slots Q (F0 m pc ls (.int (nI n) :: st.map (gk_v E))) from G T0 hT X
  refine va_newaK C.1 C.2.1 (hts _ hw) rfl hd rfl hn0 (nI_clamp (by omega)) (Nat.le_trans (Nat.mul_le_mul hn hcb) (by decide)) (by omega) (by omega) hsz (fun H1 cA e1 z1 o1 _ hNm => ?_)
  have hcA : cA = gk_cy E t := Option.some.inj (hNm.symm.trans (hra _ _ (hK.2 t _ hty).2))
  subst hcA
  have o2 : ∀ q : Nat, q < H.size → H1[q]? = H[q]? := fun q hq => o1 q (by omega)
  have key := kk p e R s m args below meth c Q MC MS H1 locs ls (cells + 1) (slots + n) (gk_Cx.mono (d' := (d1, b1 + 1, b2 + n)) (Nat.le_refl _) C) Rt (hW.push h9 hsz o2 (by
    show H1[gk_b E + (0 + h.length)]? = some (vp_cell (gk_cy E t) (gk_c E a0))
    rw [ha, Nat.zero_add]
    exact e1)) ⟨Nat.le_trans hS.1 (by omega), fun x h1 h2 => (o2 x (Nat.lt_of_lt_of_le h1 hS.1)).trans (hS.2.1 x h1 h2), hS.2.2⟩ hl (by show cells + 1 + b1 = MC; omega) (by show slots + n + b2 = MS; omega) (by rw [List.length_append]; show s.heap.size + (cells + 1) ≤ gk_b E + (h.length + 1); omega)
  show W p E.1 e R s m args below meth c H1 locs (cells + 1) (slots + n) Q (F0 m (pc + 2) ls (.ref (gk_b E + h.length) :: st.map (gk_v E)))
  rw [← gk_aN E h9]
  exact key
theorem gk_newI {d1 b1 b2 n : Nat} (hd : decode M.2.1 pc = .ok (.newarray .int, 2)) (hw : Cond.arrayClass .int ∈ gk_T) (hn : n ≤ 1000) (h9 : h.length < 900000) (kk : gk_G E M (d1, b1, b2) (pc + 2) lv (.ref h.length :: st) (h ++ [.inl (0, n, .inl fun _ => 0)]) K) : gk_G E M (d1, b1 + 1, b2 + n) pc lv (.int (nI n) :: st) h K := gk_newA (t := 0) (atype := .int) hd hw rfl (fun _ _ q => q) (fun _ => rfl) hn h9 kk
theorem gk_newL {d1 b1 b2 n : Nat} (hd : decode M.2.1 pc = .ok (.newarray .long, 2)) (hw : Cond.arrayClass .long ∈ gk_T) (hn : n ≤ 1000) (h9 : h.length < 900000) (kk : gk_G E M (d1, b1, b2) (pc + 2) lv (.ref h.length :: st) (h ++ [.inl (1, n, .inr (.inl fun _ => 0))]) K) : gk_G E M (d1, b1 + 1, b2 + n) pc lv (.int (nI n) :: st) h K := gk_newA (t := 1) (atype := .long) hd hw rfl (fun _ _ q => q) (fun _ => rfl) hn h9 kk
theorem gk_newB {d1 b1 b2 n : Nat} (hd : decode M.2.1 pc = .ok (.newarray .byte, 2)) (hw : Cond.arrayClass .byte ∈ gk_T) (hn : n ≤ 1000) (h9 : h.length < 900000) (kk : gk_G E M (d1, b1, b2) (pc + 2) lv (.ref h.length :: st) (h ++ [.inl (2, n, .inl fun _ => 0)]) K) : gk_G E M (d1, b1 + 1, b2 + n) pc lv (.int (nI n) :: st) h K := gk_newA (t := 2) (atype := .byte) hd hw rfl (fun _ _ q => q) (fun _ => rfl) hn h9 kk
theorem gk_newZ {d1 b1 b2 n : Nat} (hd : decode M.2.1 pc = .ok (.newarray .boolean, 2)) (hw : Cond.arrayClass .boolean ∈ gk_T) (hn : n ≤ 1000) (h9 : h.length < 900000) (kk : gk_G E M (d1, b1, b2) (pc + 2) lv (.ref h.length :: st) (h ++ [.inl (3, n, .inl fun _ => 0)]) K) : gk_G E M (d1, b1 + 1, b2 + n) pc lv (.int (nI n) :: st) h K := gk_newA (t := 3) (atype := .boolean) hd hw rfl (fun _ _ q => q) (fun _ => rfl) hn h9 kk
theorem gk_newC {d1 b1 b2 n : Nat} (hd : decode M.2.1 pc = .ok (.newarray .char, 2)) (hw : Cond.arrayClass .char ∈ gk_T) (hn : n ≤ 1000) (h9 : h.length < 900000) (kk : gk_G E M (d1, b1, b2) (pc + 2) lv (.ref h.length :: st) (h ++ [.inl (4, n, .inl fun _ => 0)]) K) : gk_G E M (d1, b1 + 1, b2 + n) pc lv (.int (nI n) :: st) h K := gk_newA (t := 4) (atype := .char) hd hw rfl (fun _ _ q => q) (fun _ => rfl) hn h9 kk
set_option maxHeartbeats 1000000 in
/-- an array of objects -/
theorem gk_newQ {d1 b1 b2 t n idx : Nat} {Cn : String} (hd : decode M.2.1 pc = .ok (.anewarray idx, 3)) (w1 : Cond.classLink M.1.cls idx Cn ∈ gk_T) (w2 : ∀ U : State, gk_S E U → va_AO Cn U) (hty : (gk_tys E)[t]? = some (gk_cy E t, .object Cn)) (hn : n ≤ 1000) (h9 : h.length < 900000)
    (kk : gk_G E M (d1, b1, b2) (pc + 3) lv (.ref h.length :: st) (h ++ [.inl (t, n, .inr (.inr (.inr (.inr fun _ => none))))]) K) : gk_G E M (d1, b1 + 1, b2 + n) pc lv (.int (nI n) :: st) h K := by
  intro p e R s m args below meth c Q MC MS H locs ls cells slots C Rt hW hS hl hc ht hz
  intro T0 hT X
  have hsz : H.size = gk_b E + h.length := by
    have := gk_size C (by rw [hT]; exact hW) (by rw [hT]; exact hS) hz X
    rwa [hT] at this
  have hts := C.2.2.2.2.2.2.1
  have hK := C.2.2.2.2.2.2.2.2.1.1
  have hRc : MC ≤ R.cells := C.2.2.2.2.2.2.2.2.2.2.2.1
  have hRs : MS ≤ R.slots := C.2.2.2.2.2.2.2.2.2.2.2.2
  have hc' : cells + (b1 + 1) = MC := hc
  have ht' : slots + (b2 + n) = MS := ht
  have hcl : (nI n : Int32).toNatClampNeg = n := nI_clamp (by omega)
  have hn0 : ¬ (nI n : Int32) < 0 := by
    intro q
    have h1 := Int32.lt_iff_toInt_lt.mp q
    rw [nI_toInt (by omega)] at h1
    have : (0 : Int32).toInt = 0 := rfl
    omega
  suffices G : W p E.1 e R s m args below meth c H locs cells slots Q (F0 m pc ls (.int (nI n) :: st.map (gk_v E))) from G T0 hT X
  refine W.anew C.1 C.2.1 C.2.2.2.2.2.2.2.1 (hts _ w1) (va_AO.use (w2 s C.2.2.2.2.2.2.2.2.1)) rfl hd rfl hn0 (by rw [hcl]; omega) (by omega) (by rw [hcl]; omega) (fun cA kA comp f1 f2 f3 f4 => ?_)
  rw [hcl]
  obtain ⟨_, _, -, -, -, hNm⟩ := (hK.2 t _ hty).2
  have hcA : cA = gk_cy E t := Option.some.inj (f1.symm.trans hNm)
  subst hcA
  generalize hH1 : H.push ({ cls := gk_cy E t, slots := Array.replicate n .null, vm := .none } : Cell) = H1
  have z1 : H1.size = H.size + 1 := by rw [← hH1, Array.size_push]
  have e1 : H1[H.size]? = some (arrV (gk_cy E t) n (fun _ => .null)) := by rw [← hH1, Array.getElem?_push_size, ← arrV_new]
  have o2 : ∀ q : Nat, q < H.size → H1[q]? = H[q]? := fun q hq => by rw [← hH1, Array.getElem?_push, if_neg (Nat.ne_of_lt hq)]
  have key := kk p e R s m args below meth c Q MC MS H1 locs ls (cells + 1) (slots + n) (gk_Cx.mono (d' := (d1, b1 + 1, b2 + n)) (Nat.le_refl _) C) Rt (hW.push h9 hsz o2 (by
    show H1[gk_b E + (0 + h.length)]? = some (arrV (gk_cy E t) n (fun _ => .null))
    rw [Nat.zero_add, ← hsz]
    exact e1)) ⟨Nat.le_trans hS.1 (by omega), fun x h1 h2 => (o2 x (Nat.lt_of_lt_of_le h1 hS.1)).trans (hS.2.1 x h1 h2), hS.2.2⟩ hl (by show cells + 1 + b1 = MC; omega) (by show slots + n + b2 = MS; omega) (by rw [List.length_append]; show s.heap.size + (cells + 1) ≤ gk_b E + (h.length + 1); omega)
  show W p E.1 e R s m args below meth c H1 locs (cells + 1) (slots + n) Q (F0 m (pc + 3) ls (.ref H.size :: st.map (gk_v E)))
  rw [hsz, ← gk_aN E h9]
  exact key
set_option maxHeartbeats 1000000 in
/-- a store into an array of objects -/
theorem gk_aast {d : gk_B} {t ci N r n v : Nat} {Cn : String} {T : u_T} {fs : List Value} {f : Nat → Option Nat} {i : Int32} (hd : decode M.2.1 pc = .ok (.aastore, 1)) (hty : (gk_tys E)[t]? = some (gk_cy E t, .object Cn)) (hcl : vwCl[ci]? = some (Cn, T, N)) (hr : h[r]? = some (.inl (t, n, .inr (.inr (.inr (.inr f)))))) (hv : h[v]? = some (.inr (ci, fs))) (hin : vp_in i n)
    (kk : gk_G E M d (pc + 1) lv st (h.set r (.inl (t, n, .inr (.inr (.inr (.inr (va_up f i.toNatClampNeg (some v)))))))) K) : gk_G E M d pc lv (.ref v :: .int i :: .ref r :: st) h K := by
  intro p e R s m args below meth c Q MC MS H locs ls cells slots C Rt hW hS hl hc ht hz
  have hK := C.2.2.2.2.2.2.2.2.1.1
  show W p E.1 e R s m args below meth c H locs cells slots Q (F0 m pc ls (.ref (gk_a E v) :: .int i :: .ref (gk_a E r) :: st.map (gk_v E)))
  rw [gk_ar hW hr, gk_ar hW hv]
  refine va_astq (r := (Cn, T, N)) C.1 C.2.1 hK hW.1 (gk_lay_D E h) hS r t v ci (gk_cell hr) hty (gk_cell hv) hcl hin hd (fun H1 locs1 hP1 _ hS1 => ?_)
  refine kk p e R s m args below meth c Q MC MS H1 locs1 ls cells slots C Rt ⟨?_, by rw [List.length_set]; exact hW.2⟩ hS1 hl hc ht (by rw [List.length_set]; exact hz)
  rw [gk_lay_set]
  have e0 : gk_e E (.inl (t, n, .inr (.inr (.inr (.inr (va_up f i.toNatClampNeg (some v))))))) = .inl (gk_cy E t, n, .inr (.inr (.inr (.inr (va_up (fun j => (f j).map (gk_a E)) i.toNatClampNeg (some (gk_b E + (0 + v)))))))) := by
    show Sum.inl _ = Sum.inl _
    refine congrArg (fun g => Sum.inl (gk_cy E t, n, Sum.inr (Sum.inr (Sum.inr (Sum.inr g))))) (funext fun j => ?_)
    unfold va_up
    by_cases hj : j = i.toNatClampNeg
    · rw [if_pos hj, if_pos hj, Option.map_some, gk_ar hW hv]
    · rw [if_neg hj, if_neg hj]
  rw [e0]
  exact hP1
/-- Object.<init> -/
theorem gk_objI {d1 b1 b2 idx r : Nat} (hd : decode M.2.1 pc = .ok (.invokespecial idx, 3)) (w1 : Cond.methodLink M.1.cls idx Lib.objectInit ∈ gk_T) (w2 : Cond.instanceMethod Lib.objectInit ∈ gk_T) (w3 : Cond.code Lib.objectInit ⟨#[0xb1]⟩ 1 none ∈ gk_T) (h8 : (st.map fun v => v.category).sum ≤ 8) (kk : gk_G E M (d1 + 1, b1, b2) (pc + 3) lv st h K) : gk_G E M (d1 + 1, b1, b2) pc lv (.ref r :: st) h K := by
  intro p e R s m args below meth c Q MC MS H locs ls cells slots C Rt hW hS hl hc ht hz
  have hts := C.2.2.2.2.2.2.1
  have hfr : d1 + 1 ≤ R.frames := C.2.2.2.2.2.2.2.2.2.1
  have hlo : 64 * (d1 + 1) ≤ R.locals := C.2.2.2.2.2.2.2.2.2.2.1
  exact W.objInit C.1 C.2.1 C.2.2.2.2.2.2.2.1 (hts _ w1) (hts _ w2) (hts _ w3) rfl (C.2.2.1.trans hl.1.symm).symm rfl hd (by omega) (by show 2 * 0 + ((st.map (gk_v E)).map fun v => v.category).sum + 12 ≤ R.locals; rw [gk_cats]; omega) (kk p e R s m args below meth c Q MC MS H locs ls cells slots C Rt hW hS hl hc ht hz)
end GKN
