/-! an array of two arrays of ints -/
def rl2 (a b : Nat) : Nat → Option Nat := fun j => [a, b][j]?
def rl3 (a b c : Nat) : Nat → Option Nat := fun j => [a, b, c][j]?
theorem up2 (a b : Nat) : va_up (va_up (fun _ => none) 0 (some a)) 1 (some b) = rl2 a b := by
  funext j
  match j with
  | 0 => rfl
  | 1 => rfl
  | k + 2 => simp [va_up, rl2]
theorem up3 (a b c : Nat) : va_up (va_up (va_up (fun _ => none) 0 (some a)) 1 (some b)) 2 (some c) = rl3 a b c := by
  funext j
  match j with
  | 0 => rfl
  | 1 => rfl
  | 2 => rfl
  | k + 3 => simp [va_up, rl3]
def ma_in (cI : ClassId) : Cell := { cls := cI, slots := Array.replicate 36 (.int 0), vm := .none }
def ma_o0 (cA : ClassId) : Cell := { cls := cA, slots := Array.replicate 2 .null, vm := .none }
def ma_o1 (cA : ClassId) (a : Nat) : Cell := (ma_o0 cA).setSlot 0 (.ref (a + 1))
def ma_o2 (cA : ClassId) (a : Nat) : Cell := (ma_o1 cA a).setSlot 1 (.ref (a + 2))
def ma_S0 (s : State) (cA : ClassId) : State := s.pushCell (ma_o0 cA)
def ma_S1 (s : State) (cA cI : ClassId) : State := ((ma_S0 s cA).pushCell (ma_in cI)).setCell s.heap.size (ma_o1 cA s.heap.size)
def ma_S2 (s : State) (cA cI : ClassId) : State := ((ma_S1 s cA cI).pushCell (ma_in cI)).setCell s.heap.size (ma_o2 cA s.heap.size)
section MA
variable {s : State} {cA cI : ClassId}
theorem ma_f0 : (ma_S0 s cA).heap.size = s.heap.size + 1 ∧ (ma_S0 s cA).heap[s.heap.size]? = some (ma_o0 cA) ∧ (ma_S0 s cA).vm = s.vm ∧ (ma_S0 s cA).slotsUsed = s.slotsUsed + 2 := ⟨by simp [ma_S0], by simp [ma_S0], rfl, by simp [ma_S0, ma_o0]⟩
theorem ma_f1 : (ma_S1 s cA cI).heap.size = s.heap.size + 2 ∧ (ma_S1 s cA cI).heap[s.heap.size]? = some (ma_o1 cA s.heap.size) ∧ (ma_S1 s cA cI).vm = s.vm ∧ (ma_S1 s cA cI).slotsUsed = s.slotsUsed + 38 := by
  obtain ⟨a, b, d, u⟩ := ma_f0 (s := s) (cA := cA)
  have hlt : s.heap.size < (ma_S0 s cA).heap.size := by omega
  have hb' : ((ma_S0 s cA).pushCell (ma_in cI)).heap[s.heap.size]? = some (ma_o0 cA) := by rw [State.heap_pushCell_of_lt (h := hlt)]; exact b
  refine ⟨by simp [ma_S1, State.setCell, a], State.heap_setCell_self hb', by simp [ma_S1, d], by simp [ma_S1, u, ma_in]⟩
theorem ma_f2 : (ma_S2 s cA cI).heap.size = s.heap.size + 3 ∧ (ma_S2 s cA cI).heap[s.heap.size]? = some (ma_o2 cA s.heap.size) := by
  obtain ⟨a, b, d, u⟩ := ma_f1 (s := s) (cA := cA) (cI := cI)
  have hlt : s.heap.size < (ma_S1 s cA cI).heap.size := by omega
  have hb' : ((ma_S1 s cA cI).pushCell (ma_in cI)).heap[s.heap.size]? = some (ma_o1 cA s.heap.size) := by rw [State.heap_pushCell_of_lt (h := hlt)]; exact b
  exact ⟨by simp [ma_S2, State.setCell, a], State.heap_setCell_self hb'⟩
theorem ma_old {q : Nat} (hq : q < s.heap.size) : (ma_S2 s cA cI).heap[q]? = s.heap[q]? := by
  have h0 := (ma_f0 (s := s) (cA := cA)).1
  have h1 := (ma_f1 (s := s) (cA := cA) (cI := cI)).1
  have l1 : q < (ma_S1 s cA cI).heap.size := by omega
  have l0 : q < (ma_S0 s cA).heap.size := by omega
  rw [ma_S2, State.heap_setCell_other (Nat.ne_of_gt hq), State.heap_pushCell_of_lt (h := l1), ma_S1, State.heap_setCell_other (Nat.ne_of_gt hq), State.heap_pushCell_of_lt (h := l0), ma_S0, State.heap_pushCell_of_lt (h := hq)]
theorem ma_i1 : (ma_S2 s cA cI).heap[s.heap.size + 1]? = some (ma_in cI) := by
  have h0 := (ma_f0 (s := s) (cA := cA)).1
  have h1 := (ma_f1 (s := s) (cA := cA) (cI := cI)).1
  have l1 : s.heap.size + 1 < (ma_S1 s cA cI).heap.size := by omega
  have ne : s.heap.size ≠ s.heap.size + 1 := by omega
  rw [ma_S2, State.heap_setCell_other ne, State.heap_pushCell_of_lt (h := l1), ma_S1, State.heap_setCell_other ne, ← h0]
  exact State.heap_pushCell_size _ _
theorem ma_i2 : (ma_S2 s cA cI).heap[s.heap.size + 2]? = some (ma_in cI) := by
  have h1 := (ma_f1 (s := s) (cA := cA) (cI := cI)).1
  have ne : s.heap.size ≠ s.heap.size + 2 := by omega
  rw [ma_S2, State.heap_setCell_other ne, ← h1]
  exact State.heap_pushCell_size _ _
theorem ma_top (f : JFrame) : ma_S2 (s.setTop f) cA cI = (ma_S2 s cA cI).setTop f := by simp only [ma_S2, ma_S1, ma_S0, State.heap_setTop, State.pushCell_setTop, State.setCell_setTop]
theorem ma_o2v (a : Nat) : ma_o2 cA a = arrV cA 2 (fun j => va_rf (some (a + 1 + j))) := rfl
theorem ma_inv : ma_in cI = arrV cI 36 (fun _ => .int 0) := by rw [ma_in, arrV_new]
end MA
section MB
variable {X : CtlPost} {e : Env} {d : Bool} {acts : List Action} {s : State}
theorem ma_newArray {c comp : ClassId} {k : Class} {type : FieldType} {len : Nat} {init : Value} (hk : s.vm.classes[c]? = some k) (hkind : k.kind = .array comp type) (hlimit : ¬ len > e.platform.arrayLengthLimit) (hheap : ¬ len * componentBytes type > e.platform.maxHeapBytes) (hfit : fits type init = true) (hdef : init.isDefault = true) {Q : Addr → Pre} (h1 : s.heap.size < e.platform.maxCells) (h2 : s.slotsUsed + len ≤ e.platform.maxSlots) (hq : Q s.heap.size d acts (s.pushCell { cls := c, slots := Array.replicate len init, vm := .none })) :
    wp (Jvm.newArray c len init) Q X e d acts s := by
  have hfits : ∀ i v, (Array.replicate len init)[i]? = some v → s.fitsSlot c .none i v = true := fun i v hv => by
    rw [Array.getElem?_replicate] at hv
    by_cases hi : i < len
    · rw [if_pos hi] at hv
      cases hv
      simp [State.fitsSlot, State.slotType?, hk, hkind, hfit]
    · rw [if_neg hi] at hv
      cases hv
  have hda : allocActs (Array.replicate len init) s.heap.size acts = acts := by
    unfold allocActs
    rw [if_pos (by rw [Array.all_replicate]; by_cases h : len = 0 <;> simp [h, hdef])]
  simp only [Jvm.newArray, Jvm.arrayFits, wp_bind', W.ask, W.ite, hlimit, if_false, wp_pure', W.theClass, hk, hkind, hheap, W.alloc, W.stop, Option.some.injEq, exists_eq_left', Array.size_replicate, hda]
  rw [if_neg (by omega)]
  exact ⟨h1, h2, hfits, hq⟩
/-- an inner array -/
theorem ma_make1 {comp cc : ClassId} {kc : Class} (hkc : s.vm.classes[comp]? = some kc) (hkindc : kc.kind = .array cc .int) (hl : ¬ 36 > e.platform.arrayLengthLimit) (hh : ¬ 36 * 4 > e.platform.maxHeapBytes) (h1 : s.heap.size < e.platform.maxCells) (h2 : s.slotsUsed + 36 ≤ e.platform.maxSlots) {Q : Addr → Pre} (hq : Q s.heap.size d acts (s.pushCell (ma_in comp))) : wp (multianewarray.make comp [36]) Q X e d acts s := by
  have hm : ¬ (36 : Int32) < 0 := by decide
  rw [multianewarray.make]
  simp only [wp_bind', W.ite, hm, if_false, wp_pure', W.theClass, hkc, hkindc, Option.some.injEq, exists_eq_left']
  exact ma_newArray (len := 36) hkc hkindc hl hh rfl rfl h1 h2 hq
theorem ma_make2 {c comp cc : ClassId} {k kc : Class} (hk : s.vm.classes[c]? = some k) (hkind : k.kind = .array comp (.array .int)) (hkc : s.vm.classes[comp]? = some kc) (hkindc : kc.kind = .array cc .int) (hl : ¬ 36 > e.platform.arrayLengthLimit) (hh : ¬ 36 * 4 > e.platform.maxHeapBytes) (h1 : s.heap.size + 3 ≤ e.platform.maxCells) (h2 : s.slotsUsed + 74 ≤ e.platform.maxSlots) {Q : Addr → Pre} (hq : ∀ d' acts', Q s.heap.size d' acts' (ma_S2 s c comp)) : wp (multianewarray.make c [2, 36]) Q X e d acts s := by
  have hn : ¬ (2 : Int32) < 0 := by decide
  have hfind : ([(36 : Int32)].find? (· < 0)) = none := by decide
  rw [multianewarray.make]
  simp only [wp_bind', W.ite, hn, if_false, wp_pure', W.theClass, hk, hkind, Option.some.injEq, exists_eq_left']
  refine ma_newArray (len := 2) hk hkind (by omega) (by show ¬ 2 * 4 > _; omega) rfl rfl (by omega) (by omega) ?_
  simp only [hfind]
  rw [ite_self, wp_bind', Std.Legacy.Range.forIn_eq_forIn_range']
  show wp (forIn (List.range' 0 2 1) PUnit.unit _) _ X e d acts _
  refine wp_forIn_inv (fun rest s' => (rest = [0, 1] ∧ s' = ma_S0 s c) ∨ (rest = [1] ∧ s' = ma_S1 s c comp) ∨ (rest = [] ∧ s' = ma_S2 s c comp)) _ _ (Or.inl ⟨rfl, rfl⟩) ?_ ?_
  · rintro x rest s' d' acts' Q' hI hnext
    rcases hI with ⟨hr, rfl⟩ | ⟨hr, rfl⟩ | ⟨hr, -⟩
    · cases hr
      obtain ⟨f1, f2, f3, f4⟩ := ma_f0 (s := s) (cA := c)
      simp only [wp_bind']
      refine ma_make1 (by rw [f3]; exact hkc) hkindc hl hh (by rw [f1]; omega) (by rw [f4]; omega) ?_
      simp only [wp_bind', W.writeLoc, wp_pure']
      have hlt : s.heap.size < (ma_S0 s c).heap.size := by omega
      refine ⟨ma_o0 c, by rw [State.heap_pushCell_of_lt (h := hlt)]; exact f2, by simp [ma_o0], by simp [ma_o0], ?_, hnext _ _ _ (Or.inr (Or.inl ⟨rfl, ?_⟩))⟩
      · simp [State.fitsSlot, State.slotType?, f3, hk, hkind, ma_o0, fits]
      · rw [f1]; rfl
    · cases hr
      obtain ⟨f1, f2, f3, f4⟩ := ma_f1 (s := s) (cA := c) (cI := comp)
      simp only [wp_bind']
      refine ma_make1 (by rw [f3]; exact hkc) hkindc hl hh (by rw [f1]; omega) (by rw [f4]; omega) ?_
      simp only [wp_bind', W.writeLoc, wp_pure']
      have hlt : s.heap.size < (ma_S1 s c comp).heap.size := by omega
      refine ⟨ma_o1 c s.heap.size, by rw [State.heap_pushCell_of_lt (h := hlt)]; exact f2, by simp [ma_o1, ma_o0, Cell.setSlot], by simp [ma_o1, ma_o0, Cell.setSlot], ?_, hnext _ _ _ (Or.inr (Or.inr ⟨rfl, ?_⟩))⟩
      · simp [State.fitsSlot, State.slotType?, f3, hk, hkind, ma_o1, ma_o0, Cell.setSlot, fits]
      · rw [f1]; rfl
    · cases hr
  · rintro s' d' acts' hI
    rcases hI with ⟨hr, -⟩ | ⟨hr, -⟩ | ⟨-, rfl⟩
    · cases hr
    · cases hr
    · simp only [wp_pure']
      exact hq _ _
end MB
section MC
variable {p : Program} {l : Launch} {e : Env} {R : Room} {s : State} {m : MethodId} {args : Array Value} {below : List Frame} {meth : Method} {c : Code} {H : Heap} {locs : List Loc} {cells slots : Nat} {Q : State → Prop}
set_option maxHeartbeats 1000000 in
theorem ma_W {cc : ByteArray} (hexec : p.tables.exec = Jvm.exec) (hb : c.code = cc) {own : String} {index : Nat} (hown : s.vm.findClass own = some m.cls) (hclink : (Cond.classLink own index "[[I").before args s = true) (hover : (Cond.arrayOver (.array .int)).before args s = true) (harr : (Cond.arrayClass .int).before args s = true)
    {g : JFrame} (hg : g.method = m) (hdg : decode cc g.pc = .ok (.multianewarray index 2, 4)) {rest : List Value} (hstack : g.stack = .int 36 :: .int 2 :: rest) (hcells : cells + 3 ≤ R.cells) (hslots : slots + 74 ≤ R.slots)
    (kk : ∀ (H' : Heap) (cA cI : ClassId), H'.size = H.size + 3 → (∀ q, q < H.size → H'[q]? = H[q]?) → H'[H.size]? = some (ma_o2 cA H.size) → H'[H.size + 1]? = some (ma_in cI) → H'[H.size + 2]? = some (ma_in cI) → s.vm.findClass "[[I" = some cA → s.vm.findClass "[I" = some cI →
      W p l e R s m args below meth c H' (locs ++ [⟨H.size, 0⟩] ++ [⟨H.size, 1⟩]) (cells + 3) (slots + 74) Q { g with pc := g.pc + 4, stack := .ref H.size :: rest }) : W p l e R s m args below meth c H locs cells slots Q g := by
  intro T hT X
  subst hT; subst hb; subst hg
  have hpl : e.platform.magicAccessors = ({} : Platform).magicAccessors := by rw [X.admits.platform]
  obtain ⟨comp, cA, kA, hcomp, hidx, hkA, hkindA, hnameA⟩ := arrayOverA_spec hover
  obtain ⟨comp', kC, cc', hcomp', hkC, hkindC⟩ := Cond.arrayClass_spec harr
  have ecomp : comp' = comp := Option.some.inj (hcomp'.symm.trans hcomp)
  subst ecomp
  obtain ⟨c0, hfc0, hcl⟩ := Cond.classLink_spec hown hclink e.platform hpl
  have hnm2 : s.vm.findClass "[[I" = some cA := hnameA
  cases hnm2.symm.trans hfc0
  obtain ⟨hg₁, hwarm₁, hready₁⟩ := State.classEntry (e := e) X.warmed hcl
  generalize T.vm.noted g.method.cls index (.cls cA) = vm₁ at hg₁ hwarm₁ hready₁
  have hal : s.vm.Alike vm₁ := hwarm₁.alike
  obtain ⟨kA₁, hkA₁, heA⟩ := hal.2.2 _ _ hkA
  obtain ⟨kC₁, hkC₁, heC⟩ := hal.2.2 _ _ hkC
  have hkindA₁ : kA₁.kind = .array comp' (.array .int) := by rw [heA]; exact hkindA
  have hkindC₁ : kC₁.kind = .array cc' .int := by rw [heC]; exact hkindC
  have X₁ := X.noted hwarm₁
  obtain ⟨hr1, hr2⟩ := X.roomAbove hcells hslots
  have Y0 := X₁.pushed (ma_o0 cA)
  have f0 := ma_f0 (s := T.setVm vm₁) (cA := cA)
  have f1 := ma_f1 (s := T.setVm vm₁) (cA := cA) (cI := comp')
  have g0 : (T.setVm vm₁).heap.size < (ma_S0 (T.setVm vm₁) cA).heap.size := by have := f0.1; omega
  have g1 : (T.setVm vm₁).heap.size < (ma_S1 (T.setVm vm₁) cA comp').heap.size := by have := f1.1; omega
  have Y1 := (Stand.pushed (T := ma_S0 (T.setVm vm₁) cA) Y0 (ma_in comp')).stored (a := (T.setVm vm₁).heap.size) (cell := ma_o0 cA) (by rw [State.heap_pushCell_of_lt (h := g0)]; exact f0.2.1) 0 (.ref (T.heap.size + 1))
  have Y2 := (Stand.pushed (T := ma_S1 (T.setVm vm₁) cA comp') Y1 (ma_in comp')).stored (a := (T.setVm vm₁).heap.size) (cell := ma_o1 cA T.heap.size) (by rw [State.heap_pushCell_of_lt (h := g1)]; exact f1.2.1) 1 (.ref (T.heap.size + 2))
  have YF : Stand p l e R s g.method args below meth c (ma_S2 (T.setVm vm₁) cA comp') (locs ++ [⟨T.heap.size, 0⟩] ++ [⟨T.heap.size, 1⟩]) (cells + 3) (slots + 74) := by
    have z : slots + 74 = slots + (ma_o0 cA).slots.size + (ma_in comp').slots.size + (ma_in comp').slots.size := by simp [ma_o0, ma_in]
    rw [z]
    exact Y2
  have f2 := ma_f2 (s := T.setVm vm₁) (cA := cA) (cI := comp')
  obtain ⟨t', a1, b1⟩ := kk (ma_S2 (T.setVm vm₁) cA comp').heap cA comp' f2.1 (fun q hq => ma_old (s := T.setVm vm₁) hq) f2.2 (ma_i1 (s := T.setVm vm₁)) (ma_i2 (s := T.setVm vm₁)) hnm2 hcomp _ rfl YF
  refine ⟨t', ?_, b1⟩
  have hl : ¬ 36 > e.platform.arrayLengthLimit := by rw [Launch.admits_arrayLengthLimit X.admits]; omega
  have hh : ¬ 36 * 4 > e.platform.maxHeapBytes := by rw [Launch.admits_maxHeapBytes X.admits]; omega
  jvm_step X.here [hexec, hdg]
  simp only [multianewarray.sem, wp_bind', W.resolveClassAt_links (State.method?_setTop g X.here.top) hg₁]
  rw [W.popN, if_neg (by decide)]
  refine ⟨g, State.topJava?_setTop' (s := T.setVm vm₁) g X.here.top, [.int 2, .int 36], rest, rfl, hstack, ?_⟩
  simp only [List.mapM_cons, List.mapM_nil, wp_bind', wp_pure']
  refine ma_make2 (k := kA₁) (kc := kC₁) (comp := comp') (cc := cc') hkA₁ hkindA₁ hkC₁ hkindC₁ hl hh (by show T.heap.size + 3 ≤ _; omega) (by show T.slotsUsed + 74 ≤ _; omega) (fun d' acts' => ?_)
  have eS : ((T.setTop g).setVm vm₁).setTop { g with stack := rest } = (T.setVm vm₁).setTop { g with stack := rest } := by
    show ((T.setVm vm₁).setTop g).setTop _ = _
    rw [State.setTop_setTop]
  rw [eS, ma_top]
  simp only [wp_bind', W.mark, W.pushRef, State.topJava?_setTop' _ YF.here.top, Option.some.injEq, exists_eq_left', State.setTop_setTop, State.heap_setTop]
  intro acts
  simp [jvm, YF.here.top]
  exact a1
end MC
section MD
variable {E : gk_E} {M : gk_M} {pc : Nat} {lv : List (Nat × Value)} {st : List Value} {h : gk_H} {K : Option Value → gk_H → Prop}
set_option maxHeartbeats 1000000 in
/-- new int[2][36] -/
theorem gk_newM {d1 b1 b2 idx : Nat} (hd : decode M.2.1 pc = .ok (.multianewarray idx 2, 4)) (w1 : Cond.classLink M.1.cls idx "[[I" ∈ gk_T) (w3 : Cond.arrayClass .int ∈ gk_T) (h9 : h.length + 2 < 900000)
    (kk : gk_G E M (d1, b1, b2) (pc + 4) lv (.ref h.length :: st) (h ++ [.inl (7, 2, .inr (.inr (.inr (.inr (rl2 (h.length + 1) (h.length + 2)))))), .inl (0, 36, .inl fun _ => 0), .inl (0, 36, .inl fun _ => 0)]) K) : gk_G E M (d1, b1 + 3, b2 + 74) pc lv (.int (nI 36) :: .int (nI 2) :: st) h K := by
  intro p e R s m args below meth c Q MC MS H locs ls cells slots C Rt hW hS hl hc ht hz
  intro T0 hT X
  have hsz : H.size = gk_b E + h.length := by
    have := gk_size C (by rw [hT]; exact hW) (by rw [hT]; exact hS) hz X
    rwa [hT] at this
  have hts := C.2.2.2.2.2.2.1
  have hK := C.2.2.2.2.2.2.2.2.1.1
  have hRc : MC ≤ R.cells := C.2.2.2.2.2.2.2.2.2.2.2.1
  have hRs : MS ≤ R.slots := C.2.2.2.2.2.2.2.2.2.2.2.2
  have hc' : cells + (b1 + 3) = MC := hc
  have ht' : slots + (b2 + 74) = MS := ht
  suffices G : W p E.1 e R s m args below meth c H locs cells slots Q (F0 m pc ls (.int (nI 36) :: .int (nI 2) :: st.map (gk_v E))) from G T0 hT X
  refine ma_W C.1 C.2.1 C.2.2.2.2.2.2.2.1 (hts _ w1) (over_moved (Vm.Alike.refl s.vm) C.2.2.2.2.2.2.2.2.1.2.2.2.2.2.2.2.1.2.2.2) (hts _ w3) rfl hd rfl (by omega) (by omega) (fun H1 cA cI z1 o1 e0 e1 e2 n1 n2 => ?_)
  have hcA : cA = gk_cy E 7 := Option.some.inj (n1.symm.trans (hK.2 7 _ rfl).2)
  have hcI : cI = gk_cy E 0 := Option.some.inj (n2.symm.trans (hK.2 0 _ rfl).2)
  subst hcA
  subst hcI
  have hWn : gk_W E (h ++ [.inl (7, 2, .inr (.inr (.inr (.inr (rl2 (h.length + 1) (h.length + 2)))))), .inl (0, 36, .inl fun _ => 0), .inl (0, 36, .inl fun _ => 0)]) H1 := by
    refine ⟨?_, by simp; omega⟩
    rw [gk_lay_app]
    refine (hW.1.kept (fun k x hx => o1 x.1 ((hW.1 k x hx).lt))).app (fun k x hx => ?_)
    have hk : k < 3 := (List.getElem?_eq_some_iff.mp hx).1
    match k, hk, hx with
    | 0, _, hx =>
      cases hx
      show H1[gk_b E + (0 + h.length)]? = some (arrV (gk_cy E 7) 2 (fun j => va_rf ((rl2 (h.length + 1) (h.length + 2) j).map (gk_a E))))
      rw [Nat.zero_add, ← hsz, e0, ma_o2v]
      congr 1
      unfold arrV
      congr 1
      apply Array.ext
      · simp
      · intro i h1 h2
        have hi : i < 2 := by simpa using h1
        simp only [Array.getElem_ofFn]
        have hr2 : (rl2 (h.length + 1) (h.length + 2) i).map (gk_a E) = some (H.size + 1 + i) := by
          match i, hi with
          | 0, _ =>
            show some (gk_a E (h.length + 1)) = _
            rw [gk_aN E (by omega)]
            congr 1
            omega
          | 1, _ =>
            show some (gk_a E (h.length + 2)) = _
            rw [gk_aN E (by omega)]
            congr 1
            omega
          | i + 2, hi => omega
        rw [hr2]
    | 1, _, hx =>
      cases hx
      show H1[gk_b E + (0 + h.length + 1)]? = some (arrV (gk_cy E 0) 36 (fun _ => .int 0))
      rw [← ma_inv, show gk_b E + (0 + h.length + 1) = H.size + 1 by omega]
      exact e1
    | 2, _, hx =>
      cases hx
      show H1[gk_b E + (0 + h.length + 1 + 1)]? = some (arrV (gk_cy E 0) 36 (fun _ => .int 0))
      rw [← ma_inv, show gk_b E + (0 + h.length + 1 + 1) = H.size + 2 by omega]
      exact e2
    | k + 3, hk, _ => omega
  have key := kk p e R s m args below meth c Q MC MS H1 (locs ++ [⟨H.size, 0⟩] ++ [⟨H.size, 1⟩]) ls (cells + 3) (slots + 74) (gk_Cx.mono (d' := (d1, b1 + 3, b2 + 74)) (Nat.le_refl _) C) Rt hWn ⟨Nat.le_trans hS.1 (by omega), fun x h1 h2 => (o1 x (Nat.lt_of_lt_of_le h1 hS.1)).trans (hS.2.1 x h1 h2), fun q hq => by
    rcases List.mem_append.mp hq with hq | hq
    · rcases List.mem_append.mp hq with hq | hq
      · exact hS.2.2 q hq
      · rw [List.mem_singleton.mp hq]
        show gk_b E ≤ H.size
        omega
    · rw [List.mem_singleton.mp hq]
      show gk_b E ≤ H.size
      omega⟩ hl (by show cells + 3 + b1 = MC; omega) (by show slots + 74 + b2 = MS; omega) (by rw [List.length_append]; show s.heap.size + (cells + 3) ≤ gk_b E + (h.length + 3); omega)
  have e9 : Value.ref H.size = gk_v E (.ref h.length) := by
    show Value.ref H.size = Value.ref (gk_a E h.length)
    rw [hsz, gk_aN E (show h.length < 900000 by omega)]
  show W p E.1 e R s m args below meth c H1 (locs ++ [⟨H.size, 0⟩] ++ [⟨H.size, 1⟩]) (cells + 3) (slots + 74) Q (F0 m (pc + 4) ls (.ref H.size :: st.map (gk_v E)))
  rw [e9]
  exact key
end MD
