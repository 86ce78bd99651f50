/-! an array of two arrays of ints -/
def rl2 (a b : Nat) : Nat → Option Nat := fun j => [a, b][j]?
def rl3 (a b c : Nat) : Nat → Option Nat := fun j => [a, b, c][j]?
theorem up2 (a b : Nat) : va_up (va_up (fun _ => none) 0 (some a)) 1 (some b) = rl2 a b := by
  funext j
  match j with
  | 0 => rfl
  | 1 => rfl
  | k + 2 => simp [va_up, rl2]
theorem up3 (a b c : Nat) : va_up (va_up (va_up (fun _ => none) 0 (some a)) 1 (some b)) 2 (some c) = rl3 a b c := by
  funext j
  match j with
  | 0 => rfl
  | 1 => rfl
  | 2 => rfl
  | k + 3 => simp [va_up, rl3]
def ma_in (cI : ClassId) : Cell := { cls := cI, slots := Array.replicate 36 (.int 0), vm := .none }
def ma_o0 (cA : ClassId) : Cell := { cls := cA, slots := Array.replicate 2 .null, vm := .none }
def ma_o1 (cA : ClassId) (a : Nat) : Cell := (ma_o0 cA).setSlot 0 (.ref (a + 1))
def ma_o2 (cA : ClassId) (a : Nat) : Cell := (ma_o1 cA a).setSlot 1 (.ref (a + 2))
def ma_S0 (s : State) (cA : ClassId) : State := s.pushCell (ma_o0 cA)
def ma_S1 (s : State) (cA cI : ClassId) : State := ((ma_S0 s cA).pushCell (ma_in cI)).setCell s.heap.size (ma_o1 cA s.heap.size)
def ma_S2 (s : State) (cA cI : ClassId) : State := ((ma_S1 s cA cI).pushCell (ma_in cI)).setCell s.heap.size (ma_o2 cA s.heap.size)
section MA
variable {s : State} {cA cI : ClassId}
theorem ma_f0 : (ma_S0 s cA).heap.size = s.heap.size + 1 ∧ (ma_S0 s cA).heap[s.heap.size]? = some (ma_o0 cA) ∧ (ma_S0 s cA).vm = s.vm ∧ (ma_S0 s cA).slotsUsed = s.slotsUsed + 2 := ⟨by simp [ma_S0], by simp [ma_S0], rfl, by simp [ma_S0, ma_o0]⟩
theorem ma_f1 : (ma_S1 s cA cI).heap.size = s.heap.size + 2 ∧ (ma_S1 s cA cI).heap[s.heap.size]? = some (ma_o1 cA s.heap.size) ∧ (ma_S1 s cA cI).vm = s.vm ∧ (ma_S1 s cA cI).slotsUsed = s.slotsUsed + 38 := by
  obtain ⟨a, b, d, u⟩ := ma_f0 (s := s) (cA := cA)
  have hlt : s.heap.size < (ma_S0 s cA).heap.size := by omega
  have hb' : ((ma_S0 s cA).pushCell (ma_in cI)).heap[s.heap.size]? = some (ma_o0 cA) := by rw [State.heap_pushCell_of_lt (h := hlt)]; exact b
  refine ⟨by simp [ma_S1, State.setCell, a], State.heap_setCell_self hb', by simp [ma_S1, d], by simp [ma_S1, u, ma_in]⟩
theorem ma_f2 : (ma_S2 s cA cI).heap.size = s.heap.size + 3 ∧ (ma_S2 s cA cI).heap[s.heap.size]? = some (ma_o2 cA s.heap.size) := by
  obtain ⟨a, b, d, u⟩ := ma_f1 (s := s) (cA := cA) (cI := cI)
  have hlt : s.heap.size < (ma_S1 s cA cI).heap.size := by omega
  have hb' : ((ma_S1 s cA cI).pushCell (ma_in cI)).heap[s.heap.size]? = some (ma_o1 cA s.heap.size) := by rw [State.heap_pushCell_of_lt (h := hlt)]; exact b
  exact ⟨by simp [ma_S2, State.setCell, a], State.heap_setCell_self hb'⟩
theorem ma_old {q : Nat} (hq : q < s.heap.size) : (ma_S2 s cA cI).heap[q]? = s.heap[q]? := by
  have h0 := (ma_f0 (s := s) (cA := cA)).1
  have h1 := (ma_f1 (s := s) (cA := cA) (cI := cI)).1
  have l1 : q < (ma_S1 s cA cI).heap.size := by omega
  have l0 : q < (ma_S0 s cA).heap.size := by omega
  rw [ma_S2, State.heap_setCell_other (Nat.ne_of_gt hq), State.heap_pushCell_of_lt (h := l1), ma_S1, State.heap_setCell_other (Nat.ne_of_gt hq), State.heap_pushCell_of_lt (h := l0), ma_S0, State.heap_pushCell_of_lt (h := hq)]
theorem ma_i1 : (ma_S2 s cA cI).heap[s.heap.size + 1]? = some (ma_in cI) := by
  have h0 := (ma_f0 (s := s) (cA := cA)).1
  have h1 := (ma_f1 (s := s) (cA := cA) (cI := cI)).1
  have l1 : s.heap.size + 1 < (ma_S1 s cA cI).heap.size := by omega
  have ne : s.heap.size ≠ s.heap.size + 1 := by omega
  rw [ma_S2, State.heap_setCell_other ne, State.heap_pushCell_of_lt (h := l1), ma_S1, State.heap_setCell_other ne, ← h0]
  exact State.heap_pushCell_size _ _
theorem ma_i2 : (ma_S2 s cA cI).heap[s.heap.size + 2]? = some (ma_in cI) := by
  have h1 := (ma_f1 (s := s) (cA := cA) (cI := cI)).1
  have ne : s.heap.size ≠ s.heap.size + 2 := by omega
  rw [ma_S2, State.heap_setCell_other ne, ← h1]
  exact State.heap_pushCell_size _ _
theorem ma_top (f : JFrame) : ma_S2 (s.setTop f) cA cI = (ma_S2 s cA cI).setTop f := by simp only [ma_S2, ma_S1, ma_S0, State.heap_setTop, State.pushCell_setTop, State.setCell_setTop]
theorem ma_o2v (a : Nat) : ma_o2 cA a = arrV cA 2 (fun j => va_rf (some (a + 1 + j))) := rfl
theorem ma_inv : ma_in cI = arrV cI 36 (fun _ => .int 0) := by rw [ma_in, arrV_new]
end MA
section MB
variable {X : CtlPost} {e : Env} {d : Bool} {acts : List Action} {s : State}
/-- int[][] is class cA, its rows are of class cI, and neither array is too long by itself -/
def ma_ok (e : Env) (vm : Vm) (cA cI : ClassId) : Prop := (∃ k, vm.classes[cA]? = some k ∧ k.kind = .array cI (.array .int)) ∧ (∃ k q, vm.classes[cI]? = some k ∧ k.kind = .array q .int) ∧ 36 ≤ e.platform.arrayLengthLimit ∧ 144 ≤ e.platform.maxHeapBytes
/-- a row is made -/
theorem ma_row {cA cI : ClassId} (ok : ma_ok e s.vm cA cI) (r1 : s.heap.size < e.platform.maxCells) (r2 : s.slotsUsed + 36 ≤ e.platform.maxSlots) {Q : Addr → Pre} (fin : ∀ w, Q s.heap.size d w (s.pushCell (ma_in cI))) : wp (multianewarray.make cI [36]) Q X e d acts s := by
  obtain ⟨-, ⟨k, q, ek, ekd⟩, l1, l2⟩ := ok
  have one : ∀ w, wp (Jvm.newArray cI 36 (.int 0)) Q X e d w s := fun w => W.newArray_of ek ekd (by omega) (by show ¬ 36 * 4 > _; omega) r1 r2 rfl fin
  unfold multianewarray.make
  simp [ek, ekd]
  exact one _
/-- it is laid at place i of the array at a -/
theorem ma_lay {cA cI : ClassId} (ok : ma_ok e s.vm cA cI) {a : Addr} {i : Nat} {o : Cell} (ho : s.heap[a]? = some o) (oc : o.cls = cA) (ov : o.vm = .none) (oi : i < o.slots.size) {Q : Unit → Pre} (fin : ∀ d w, Q () d w ((s.pushCell (ma_in cI)).setCell a (o.setSlot i (.ref s.heap.size)))) : wp (Jvm.writeLoc a i (.ref s.heap.size)) Q X e d acts (s.pushCell (ma_in cI)) := by
  have la : a < s.heap.size := (Array.getElem?_eq_some_iff.mp ho).1
  obtain ⟨k, ek, ekd⟩ := ok.1
  refine (W.writeLoc ..).mpr ⟨o, ?_, ?_, oi, ?_, fin _ _⟩
  · rw [State.heap_pushCell_of_lt (h := la), ho]
  · rw [ov]
    exact nofun
  · simp [State.fitsSlot, State.slotType?, oc, ov, ek, ekd, fits]
/-- all of it -/
theorem ma_grid {cA cI : ClassId} (ok : ma_ok e s.vm cA cI) (r1 : s.heap.size + 3 ≤ e.platform.maxCells) (r2 : s.slotsUsed + 74 ≤ e.platform.maxSlots) {Q : Addr → Pre} (fin : ∀ d w, Q s.heap.size d w (ma_S2 s cA cI)) : wp (multianewarray.make cA [2, 36]) Q X e d acts s := by
  obtain ⟨k, ek, ekd⟩ := ok.1
  have l1 := ok.2.2.1
  have l2 := ok.2.2.2
  unfold multianewarray.make
  simp [ek, ekd]
  refine W.newArray_of ek ekd (by omega) (by show ¬ 2 * 4 > _; omega) (by omega) (by omega) rfl (fun w => ?_)
  have f0 := ma_f0 (s := s) (cA := cA)
  have f1 := ma_f1 (s := s) (cA := cA) (cI := cI)
  rw [show List.range' 0 2 = [0, 1] from rfl, wp_map]
  simp only [List.forIn_cons, List.forIn_nil, wp_bind']
  refine ma_row (s := ma_S0 s cA) (cA := cA) ok (by rw [f0.1]; omega) (by rw [f0.2.2.2]; omega) (fun w1 => ?_)
  simp only [wp_map]
  refine ma_lay (s := ma_S0 s cA) (i := 0) (o := ma_o0 cA) ok f0.2.1 rfl rfl (by simp [ma_o0]) (fun d1 w2 => ?_)
  rw [f0.1]
  simp only [wp_bind']
  refine ma_row (s := ma_S1 s cA cI) (cA := cA) (by rw [f1.2.2.1]; exact ok) (by rw [f1.1]; omega) (by rw [f1.2.2.2]; omega) (fun w3 => ?_)
  simp only [wp_map]
  refine ma_lay (s := ma_S1 s cA cI) (i := 1) (o := ma_o1 cA s.heap.size) (by rw [f1.2.2.1]; exact ok) f1.2.1 rfl rfl (by simp [ma_o1, ma_o0, Cell.setSlot]) (fun d2 w4 => ?_)
  rw [f1.1]
  simp only [wp_pure']
  exact fin _ _
/-- the instruction: its entry gives class cA, the two lengths are on the stack -/
theorem ma_op {f : JFrame} {index : Nat} {vm1 : Vm} {cA cI : ClassId} {rest : List Value} (hs : s.topJava?.isSome) (gv : (Jvm.resolveClass f.method.cls index).Gives e.toSetting s.vm (.ok cA) vm1) (sz : vm1.classes.size ≤ s.vm.classes.size) (ok : ma_ok e vm1 cA cI) (st : f.stack = .int 36 :: .int 2 :: rest) (r1 : s.heap.size + 3 ≤ e.platform.maxCells) (r2 : s.slotsUsed + 74 ≤ e.platform.maxSlots) {Q : Unit → Pre} (fin : ∀ w, Q () true w ((ma_S2 (s.setVm vm1) cA cI).setTop { f with stack := .ref s.heap.size :: rest })) : wp (multianewarray.sem index 2) Q X e d acts (s.setTop f) := by
  unfold multianewarray.sem
  rw [wp_bind', W.resolveClassAt_links (State.method?_setTop f hs) gv sz, wp_bind']
  refine (popN_top (s := s.setVm vm1) (f := f) (args := [.int 2, .int 36]) (rest := rest) hs st).mpr ?_
  simp
  refine ma_grid (s := (s.setVm vm1).setTop { f with stack := rest }) ok r1 r2 (fun d w => ?_)
  rw [ma_top]
  simp [hs]
  exact ⟨{ f with stack := rest }, State.topJava?_setTop' _ (show (ma_S2 (s.setVm vm1) cA cI).topJava?.isSome from hs), fin w⟩
end MB
section MC
variable {p : Program} {l : Launch} {e : Env} {R : Room} {s : State} {m : MethodId} {args : Array Value} {below : List Frame} {meth : Method} {c : Code} {H : Heap} {locs : List Loc} {cells slots : Nat} {Q : State → Prop}
/-- the walk stands behind it -/
theorem ma_stand {T : State} (X : Stand p l e R s m args below meth c T locs cells slots) (cA cI : ClassId) : Stand p l e R s m args below meth c (ma_S2 T cA cI) (locs ++ [⟨T.heap.size, 0⟩] ++ [⟨T.heap.size, 1⟩]) (cells + 3) (slots + 74) := by
  have f0 := ma_f0 (s := T) (cA := cA)
  have f1 := ma_f1 (s := T) (cA := cA) (cI := cI)
  have g0 : T.heap.size < (ma_S0 T cA).heap.size := by rw [f0.1]; omega
  have g1 : T.heap.size < (ma_S1 T cA cI).heap.size := by rw [f1.1]; omega
  have A : Stand p l e R s m args below meth c (ma_S0 T cA) locs (cells + 1) (slots + 2) := X.pushed (ma_o0 cA)
  have B : Stand p l e R s m args below meth c (ma_S1 T cA cI) (locs ++ [⟨T.heap.size, 0⟩]) (cells + 2) (slots + 38) := (A.pushed (ma_in cI)).stored (cell := ma_o0 cA) ((State.heap_pushCell_of_lt _ _ g0).trans f0.2.1) 0 _
  exact (B.pushed (ma_in cI)).stored (cell := ma_o1 cA T.heap.size) ((State.heap_pushCell_of_lt _ _ g1).trans f1.2.1) 1 _
set_option maxHeartbeats 1000000 in
theorem ma_W {cc : ByteArray} (hexec : p.tables.exec = Jvm.exec) (hb : c.code = cc) {own : String} {index : Nat} (hown : s.vm.findClass own = some m.cls) (hclink : (Cond.classLink own index "[[I").before args s = true) (hover : (Cond.arrayOver (.array .int)).before args s = true) (harr : (Cond.arrayClass .int).before args s = true)
    {g : JFrame} (hg : g.method = m) (hdg : decode cc g.pc = .ok (.multianewarray index 2, 4)) {rest : List Value} (hstack : g.stack = .int 36 :: .int 2 :: rest) (hcells : cells + 3 ≤ R.cells) (hslots : slots + 74 ≤ R.slots)
    (kk : ∀ (H' : Heap) (cA cI : ClassId), H'.size = H.size + 3 → (∀ q, q < H.size → H'[q]? = H[q]?) → H'[H.size]? = some (ma_o2 cA H.size) → H'[H.size + 1]? = some (ma_in cI) → H'[H.size + 2]? = some (ma_in cI) → s.vm.findClass "[[I" = some cA → s.vm.findClass "[I" = some cI →
      W p l e R s m args below meth c H' (locs ++ [⟨H.size, 0⟩] ++ [⟨H.size, 1⟩]) (cells + 3) (slots + 74) Q { g with pc := g.pc + 4, stack := .ref H.size :: rest }) : W p l e R s m args below meth c H locs cells slots Q g := by
  intro T hT X
  subst hT; subst hb; subst hg
  obtain ⟨cI, cA, kA, nI1, -, kA1, kA2, nA⟩ := arrayOverA_spec hover
  obtain ⟨cJ, kI, q, nI2, kI1, kI2⟩ := Cond.arrayClass_spec harr
  obtain rfl : cI = cJ := Option.some.inj (nI1.symm.trans nI2)
  obtain ⟨c0, n0, lk⟩ := Cond.classLink_spec hown hclink e.platform (by rw [X.admits.platform])
  have nA' : s.vm.findClass "[[I" = some cA := nA
  obtain rfl : cA = c0 := Option.some.inj (nA'.symm.trans n0)
  obtain ⟨gv, wm, -⟩ := State.classEntry (e := e) X.warmed lk
  have sz : (T.vm.noted g.method.cls index (.cls cA)).classes.size ≤ T.vm.classes.size := Nat.le_of_eq (Vm.size_noted ..)
  generalize T.vm.noted g.method.cls index (.cls cA) = v1 at gv wm sz
  have ok : ma_ok e v1 cA cI := by
    obtain ⟨k1, a1, a2⟩ := wm.alike.2.2 _ _ kA1
    obtain ⟨k2, b1, b2⟩ := wm.alike.2.2 _ _ kI1
    exact ⟨⟨k1, a1, by rw [a2]; exact kA2⟩, ⟨k2, q, b1, by rw [b2]; exact kI2⟩, by rw [Launch.admits_arrayLengthLimit X.admits]; omega, by rw [Launch.admits_maxHeapBytes X.admits]; omega⟩
  have Y := ma_stand (X.noted wm) cA cI
  obtain ⟨t, go, ht⟩ := kk (ma_S2 (T.setVm v1) cA cI).heap cA cI (ma_f2 (s := T.setVm v1)).1 (fun j hj => ma_old (s := T.setVm v1) hj) (ma_f2 (s := T.setVm v1)).2 (ma_i1 (s := T.setVm v1)) (ma_i2 (s := T.setVm v1)) nA' nI1 _ rfl Y
  refine ⟨t, ?_, ht⟩
  have room := X.roomAbove hcells hslots
  jvm_step X.here [hexec, hdg]
  refine ma_op X.here.top gv sz ok hstack (by have := room.1; omega) (by have := room.2; omega) (fun w => ?_)
  intro w'
  simp [jvm, Y.here.top]
  exact go
end MC
section MD
variable {E : gk_E} {M : gk_M} {pc : Nat} {lv : List (Nat × Value)} {st : List Value} {h : gk_H} {K : Option Value → gk_H → Prop}
set_option maxHeartbeats 1000000 in
/-- new int[2][36] -/
theorem gk_newM {d1 b1 b2 idx : Nat} (hd : decode M.2.1 pc = .ok (.multianewarray idx 2, 4)) (w1 : Cond.classLink M.1.cls idx "[[I" ∈ gk_T) (w3 : Cond.arrayClass .int ∈ gk_T) (h9 : h.length + 2 < 900000)
    (kk : gk_G E M (d1, b1, b2) (pc + 4) lv (.ref h.length :: st) (h ++ [.inl (7, 2, .inr (.inr (.inr (.inr (rl2 (h.length + 1) (h.length + 2)))))), .inl (0, 36, .inl fun _ => 0), .inl (0, 36, .inl fun _ => 0)]) K) : gk_G E M (d1, b1 + 3, b2 + 74) pc lv (.int (nI 36) :: .int (nI 2) :: st) h K := by
  intro p e R s m args below meth c Q MC MS H locs ls cells slots C Rt hW hS hl hc ht hz
  intro T0 hT X
  have hsz : H.size = gk_b E + h.length := by
    have := gk_size C (by rw [hT]; exact hW) (by rw [hT]; exact hS) hz X
    rwa [hT] at this
  have hts := C.2.2.2.2.2.2.1
  have hK := C.2.2.2.2.2.2.2.2.1.1
  have hRc : MC ≤ R.cells := C.2.2.2.2.2.2.2.2.2.2.2.1
  have hRs : MS ≤ R.slots := C.2.2.2.2.2.2.2.2.2.2.2.2
  have hc' : cells + (b1 + 3) = MC := hc
  have ht' : slots + (b2 + 74) = MS := ht
  suffices G : W p E.1 e R s m args below meth c H locs cells slots Q (F0 m pc ls (.int (nI 36) :: .int (nI 2) :: st.map (gk_v E))) from G T0 hT X
  refine ma_W C.1 C.2.1 C.2.2.2.2.2.2.2.1 (hts _ w1) (over_moved (Vm.Alike.refl s.vm) C.2.2.2.2.2.2.2.2.1.2.2.2.2.2.2.2.1.2.2.2) (hts _ w3) rfl hd rfl (by omega) (by omega) (fun H1 cA cI z1 o1 e0 e1 e2 n1 n2 => ?_)
  have hcA : cA = gk_cy E 7 := Option.some.inj (n1.symm.trans (hK.2 7 _ rfl).2)
  have hcI : cI = gk_cy E 0 := Option.some.inj (n2.symm.trans (hK.2 0 _ rfl).2)
  subst hcA
  subst hcI
  have hWn : gk_W E (h ++ [.inl (7, 2, .inr (.inr (.inr (.inr (rl2 (h.length + 1) (h.length + 2)))))), .inl (0, 36, .inl fun _ => 0), .inl (0, 36, .inl fun _ => 0)]) H1 := by
    refine ⟨?_, by simp; omega⟩
    rw [gk_lay_app]
    refine (hW.1.kept (fun k x hx => o1 x.1 ((hW.1 k x hx).lt))).app (fun k x hx => ?_)
    have hk : k < 3 := (List.getElem?_eq_some_iff.mp hx).1
    match k, hk, hx with
    | 0, _, hx =>
      cases hx
      show H1[gk_b E + (0 + h.length)]? = some (arrV (gk_cy E 7) 2 (fun j => va_rf ((rl2 (h.length + 1) (h.length + 2) j).map (gk_a E))))
      rw [Nat.zero_add, ← hsz, e0, ma_o2v]
      congr 1
      unfold arrV
      congr 1
      apply Array.ext
      · simp
      · intro i h1 h2
        have hi : i < 2 := by simpa using h1
        simp only [Array.getElem_ofFn]
        have hr2 : (rl2 (h.length + 1) (h.length + 2) i).map (gk_a E) = some (H.size + 1 + i) := by
          match i, hi with
          | 0, _ =>
            show some (gk_a E (h.length + 1)) = _
            rw [gk_aN E (by omega)]
            congr 1
            omega
          | 1, _ =>
            show some (gk_a E (h.length + 2)) = _
            rw [gk_aN E (by omega)]
            congr 1
            omega
          | i + 2, hi => omega
        rw [hr2]
    | 1, _, hx =>
      cases hx
      show H1[gk_b E + (0 + h.length + 1)]? = some (arrV (gk_cy E 0) 36 (fun _ => .int 0))
      rw [← ma_inv, show gk_b E + (0 + h.length + 1) = H.size + 1 by omega]
      exact e1
    | 2, _, hx =>
      cases hx
      show H1[gk_b E + (0 + h.length + 1 + 1)]? = some (arrV (gk_cy E 0) 36 (fun _ => .int 0))
      rw [← ma_inv, show gk_b E + (0 + h.length + 1 + 1) = H.size + 2 by omega]
      exact e2
    | k + 3, hk, _ => omega
  have key := kk p e R s m args below meth c Q MC MS H1 (locs ++ [⟨H.size, 0⟩] ++ [⟨H.size, 1⟩]) ls (cells + 3) (slots + 74) (gk_Cx.mono (d' := (d1, b1 + 3, b2 + 74)) (Nat.le_refl _) C) Rt hWn ⟨Nat.le_trans hS.1 (by omega), fun x h1 h2 => (o1 x (Nat.lt_of_lt_of_le h1 hS.1)).trans (hS.2.1 x h1 h2), fun q hq => by
    rcases List.mem_append.mp hq with hq | hq
    · rcases List.mem_append.mp hq with hq | hq
      · exact hS.2.2 q hq
      · rw [List.mem_singleton.mp hq]
        show gk_b E ≤ H.size
        omega
    · rw [List.mem_singleton.mp hq]
      show gk_b E ≤ H.size
      omega⟩ hl (by show cells + 3 + b1 = MC; omega) (by show slots + 74 + b2 = MS; omega) (by rw [List.length_append]; show s.heap.size + (cells + 3) ≤ gk_b E + (h.length + 3); omega)
  have e9 : Value.ref H.size = gk_v E (.ref h.length) := by
    show Value.ref H.size = Value.ref (gk_a E h.length)
    rw [hsz, gk_aN E (show h.length < 900000 by omega)]
  show W p E.1 e R s m args below meth c H1 (locs ++ [⟨H.size, 0⟩] ++ [⟨H.size, 1⟩]) (cells + 3) (slots + 74) Q (F0 m (pc + 4) ls (.ref H.size :: st.map (gk_v E)))
  rw [e9]
  exact key
end MD
