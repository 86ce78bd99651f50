/-! G: the machine over an abstract heap of numbered cells (id k lies at base + k), goal first -/
/-- private methods of the class Wheels, selected for its subclasses: not among the tables' words, but they follow -/
def gk_x : List Cond := [.selects RX4 yX10_settle yX10_settle, .selects RX5 yX10_settle yX10_settle, .selects RX6 yX10_settle yX10_settle, .selects RX4 yX10_turn yX10_turn, .selects RX5 yX10_turn yX10_turn, .selects RX6 yX10_turn yX10_turn]
def gk_T : List Cond := (gk_x ++ lw_tbl).filter goodWord
theorem gk_in {w : Cond} (h : w ∈ lw_tbl) (g : goodWord w = true) : w ∈ gk_T := List.mem_filter.mpr ⟨List.mem_append_right _ h, g⟩
theorem gk_inx {w : Cond} (i : Nat) (h : gk_x[i]? = some w) (g : goodWord w = true) : w ∈ gk_T := List.mem_filter.mpr ⟨List.mem_append_left _ (List.mem_of_getElem? h), g⟩
theorem gk_sel {C : String} {y z x0 : MethodName} {args : Array Value} {s : State} (hy : y.cls ≠ "java/lang/invoke/MethodHandle" ∧ y.cls ≠ "java/lang/invoke/VarHandle") (hzy : z.cls = y.cls) (h0 : (Cond.selects C x0 z).before args s = true) (hpriv : (Cond.privateMethod y).before args s = true) (hinst : (Cond.instanceMethod y).before args s = true) : (Cond.selects C y y).before args s = true := by
  obtain ⟨mk, methM, hnamed, hmethM, -, -⟩ := Cond.instanceMethod_spec hinst
  have hfound : s.methodFound? y.cls y.name y.desc = some mk := State.methodFound?_of_named hnamed hy
  have hsel : ∀ c, selectMethod {} s.vm c mk = .method mk := fun c => selectMethod_private hmethM (Cond.privateMethod_at hpriv mk methM hnamed hmethM)
  have hcls : s.vm.findClass y.cls = some mk.cls := findClass_of_methodNamed hnamed
  simp only [Cond.before, Cond.holds, Cond.value] at h0 ⊢
  cases hc : s.vm.findClass C with
  | none => simp [hc] at h0
  | some c =>
    cases hr : s.methodFound? x0.cls x0.name x0.desc with
    | none => simp [hc, hr] at h0
    | some r =>
      cases hz : s.methodNamed? z with
      | none => simp [hc, hr, hz] at h0
      | some m =>
        have hm : m.cls = mk.cls := by
          have h1 : s.vm.findClass z.cls = some m.cls := findClass_of_methodNamed hz
          rw [hzy, hcls] at h1
          exact (Option.some.inj h1).symm
        simp only [hc, hr, hz] at h0
        simp only [hfound, hnamed, hsel]
        cases hS : selectMethod {} s.vm c r with
        | method m' =>
          simp only [hS] at h0
          simp at h0 ⊢
          rw [hm] at h0
          exact h0.2
        | _ => simp [hS] at h0
theorem gk_at {w : Cond} (i : Nat) (h : lw_tbl[i]? = some w) (g : goodWord w = true) : w ∈ gk_T := gk_in (List.mem_of_getElem? h) g
theorem gk_good {ws : List Cond} (h : ∀ w ∈ ws, w ∈ gk_T) : GoodIn gk_T ws := fun w hw => ⟨h w hw, good_of_word (List.mem_filter.mp (h w hw)).2⟩
/-- the world's constants: launch, base, the places of the String constants, the script, the classes, the array classes -/
abbrev gk_E : Type := Launch × Nat × (Nat → Nat) × (Nat × Nat × (Nat → Int32)) × va_G × (Nat → ClassId)
abbrev gk_b (E : gk_E) : Nat := E.2.1
abbrev gk_sa (E : gk_E) : Nat → Nat := E.2.2.1
abbrev gk_scr (E : gk_E) : Nat × Nat × (Nat → Int32) := E.2.2.2.1
abbrev gk_D (E : gk_E) : va_G := E.2.2.2.2.1
abbrev gk_cy (E : gk_E) : Nat → ClassId := E.2.2.2.2.2
abbrev gk_X : Type := (Nat × vp_A) ⊕ (Nat × List Value)
abbrev gk_H : Type := List gk_X
def gk_ty : Nat → FieldType := fun k => match k with
  | 0 => .int
  | 1 => .long
  | 2 => .byte
  | 3 => .boolean
  | 4 => .char
  | 5 => .object RX3
  | 6 => .object RX6
  | _ => .array .int
def gk_tys (E : gk_E) : List (ClassId × FieldType) := [(gk_cy E 0, .int), (gk_cy E 1, .long), (gk_cy E 2, .byte), (gk_cy E 3, .boolean), (gk_cy E 4, .char), (gk_cy E 5, .object RX3), (gk_cy E 6, .object RX6), (gk_cy E 7, .array .int)]
def gk_a (E : gk_E) (i : Nat) : Nat := if i < 1000000 then gk_b E + i else if i = 1000000 then (gk_scr E).1 else gk_sa E (i - 1000001)
def gk_v (E : gk_E) : Value → Value := fun v => match v with
  | .ref i => .ref (gk_a E i)
  | v => v
def gk_c (E : gk_E) : vp_A → vp_A := fun a => match a with
  | (n, .inr (.inr (.inr (.inr f)))) => (n, .inr (.inr (.inr (.inr (fun j => (f j).map (gk_a E))))))
  | a => a
def gk_e (E : gk_E) : gk_X → va_E := fun x => match x with
  | .inl (t, a) => .inl (gk_cy E t, gk_c E a)
  | .inr (ci, fs) => .inr (ci, fs.map (gk_v E))
def gk_lay (E : gk_E) : Nat → gk_H → va_W
  | _, [] => []
  | k, x :: h => (gk_b E + k, gk_e E x) :: gk_lay E (k + 1) h
abbrev gk_A (E : gk_E) : Nat → Prop := fun q => gk_b E ≤ q
theorem gk_cat (E : gk_E) (v : Value) : (gk_v E v).category = v.category := by cases v <;> rfl
theorem gk_lay_at (E : gk_E) : ∀ (h : gk_H) (k i : Nat), (gk_lay E k h)[i]? = (h[i]?).map (fun x => (gk_b E + (k + i), gk_e E x))
  | [], k, i => by simp [gk_lay]
  | x :: h, k, 0 => by simp [gk_lay]
  | x :: h, k, i + 1 => by
    simp only [gk_lay, List.getElem?_cons_succ]
    rw [gk_lay_at E h (k + 1) i, show k + 1 + i = k + (i + 1) by omega]
theorem gk_lay_set (E : gk_E) (y : gk_X) : ∀ (h : gk_H) (k i : Nat), gk_lay E k (h.set i y) = (gk_lay E k h).set i (gk_b E + (k + i), gk_e E y)
  | [], k, i => by simp [gk_lay]
  | x :: h, k, 0 => by simp [gk_lay]
  | x :: h, k, i + 1 => by
    simp only [gk_lay, List.set_cons_succ]
    rw [gk_lay_set E y h (k + 1) i, show k + 1 + i = k + (i + 1) by omega]
theorem gk_lay_app (E : gk_E) (h2 : gk_H) : ∀ (h : gk_H) (k : Nat), gk_lay E k (h ++ h2) = gk_lay E k h ++ gk_lay E (k + h.length) h2
  | [], k => by simp [gk_lay]
  | x :: h, k => by
    simp only [gk_lay, List.cons_append, List.length_cons]
    rw [gk_lay_app E h2 h (k + 1), show k + 1 + h.length = k + (h.length + 1) by omega]
theorem gk_lay_D (E : gk_E) (h : gk_H) : va_D (gk_A E) (gk_lay E 0 h) := by
  refine ⟨fun i j p q hp hq hpq => ?_, fun k q hk => ?_⟩
  · rw [gk_lay_at] at hp hq
    obtain ⟨x, -, rfl⟩ := Option.map_eq_some_iff.mp hp
    obtain ⟨y, -, rfl⟩ := Option.map_eq_some_iff.mp hq
    dsimp only at hpq
    omega
  · rw [gk_lay_at] at hk
    obtain ⟨x, -, rfl⟩ := Option.map_eq_some_iff.mp hk
    exact Nat.le_add_right _ _
/-- the heap holds the abstract cells -/
def gk_W (E : gk_E) (h : gk_H) (H : Heap) : Prop := va_P (gk_D E) vwCl (gk_lay E 0 h) H ∧ h.length ≤ 900000
def gk_str : List String := ["atoms", "pair", "in", "out", ";pair", ";in"]
def gk_len : List Nat := [5, 4, 2, 3, 5, 3]
def gk_byt : List (List Int32) := [[97, 116, 111, 109, 115], [112, 97, 105, 114], [105, 110], [111, 117, 116], [59, 112, 97, 105, 114], [59, 105, 110]]
def gk_pool : List Nat := [37, 43, 45, 47, 74, 87]
/-- what the tables say, and what lies below base -/
def gk_S (E : gk_E) (U : State) : Prop := va_K (gk_D E) vwCl (gk_tys E) U ∧ va_X (gk_scr E).1 (gk_scr E).2.1 (gk_scr E).2.2 U U.heap ∧ (gk_scr E).1 < gk_b E ∧ gk_b E ≤ U.heap.size ∧
  vk_S 6 gk_len gk_byt (gk_sa E) (fun i => gk_sa E (100 + i)) (gk_A E) U U.heap ∧ (∀ i : Nat, i < 6 → vk_R RX9 (gk_pool.getD i 0) (gk_str.getD i "") (gk_sa E i) U) ∧ va_Z "java/lang/String" "COMPACT_STRINGS" "Z" (.int 1) (gk_A E) U U.heap ∧ (va_Nw (.declares ⟨"AtomTables$Wheels", "clash", "(I)I"⟩) U ∧ va_AO RX3 U ∧ va_AO RX6 U ∧ (Cond.arrayOver (.array .int)).before #[] U = true) ∧
  (va_Z "jdk/internal/util/Preconditions" "SIOOBE_FORMATTER" "Ljava/util/function/BiFunction;" .null (gk_A E) U U.heap ∨ va_Z "jdk/internal/util/Preconditions" "SIOOBE_FORMATTER" "Ljava/util/function/BiFunction;" (.ref (gk_sa E 200)) (gk_A E) U U.heap)
theorem gk_S.moved {E : gk_E} {s U : State} {H : Heap} {locs : List Loc} (h : gk_S E s) (hW : s.WarmedH U.vm) (hU : U.heap = H) (hS : va_S (gk_A E) s.heap H locs) : gk_S E U := by
  obtain ⟨h1, h2, h3, h4, h5, h6, h7, h8, h9⟩ := h
  subst hU
  have hk : ∀ a : Nat, a < s.heap.size → ¬ gk_A E a → U.heap[a]? = s.heap[a]? := fun a q1 q2 => hS.2.1 a q1 q2
  refine ⟨va_K.moved hW.alike h1, ?_, h3, Nat.le_trans h4 hS.1, (vk_S.moved hW.alike h5).kept hk, fun i hi => (h6 i hi).warm hW, (va_Z.moved hW.alike h7).kept hk, ⟨h8.1.warmD hW, va_AO.moved hW.alike h8.2.1, va_AO.moved hW.alike h8.2.2.1, over_moved hW.alike h8.2.2.2⟩, h9.imp (fun z => (va_Z.moved hW.alike z).kept hk) (fun z => (va_Z.moved hW.alike z).kept hk)⟩
  obtain ⟨scr, g1, g2, g3⟩ := va_X.moved hW.alike h2
  exact ⟨scr, by rw [hk _ (Array.getElem?_eq_some_iff.mp g1).1 (Nat.not_le.mpr h3)]; exact g1, g2, g3⟩
theorem gk_S.call {E : gk_E} {U : State} (h : gk_S E U) (g : JFrame) (mk : MethodId) (a : Array Value) : gk_S E (U.calling g mk a) := by
  obtain ⟨h1, h2, h3, h4, h5, h6, h7, h8, h9⟩ := h
  exact ⟨va_K.moved (u := U) (U := U.calling g mk a) (Vm.Alike.refl U.vm) h1, va_X.moved (u := U) (U := U.calling g mk a) (Vm.Alike.refl U.vm) h2, h3, h4, vk_S.moved (u := U) (U := U.calling g mk a) (Vm.Alike.refl U.vm) h5, fun i hi => vk_R.same (u := U) (U := U.calling g mk a) rfl (h6 i hi), va_Z.moved (u := U) (U := U.calling g mk a) (Vm.Alike.refl U.vm) h7, ⟨va_Nw.same (u := U) (U := U.calling g mk a) rfl rfl h8.1, va_AO.moved (u := U) (U := U.calling g mk a) (Vm.Alike.refl U.vm) h8.2.1, va_AO.moved (u := U) (U := U.calling g mk a) (Vm.Alike.refl U.vm) h8.2.2.1, over_moved (u := U) (E := U.calling g mk a) (Vm.Alike.refl U.vm) h8.2.2.2⟩, h9.imp (fun z => va_Z.moved (u := U) (U := U.calling g mk a) (Vm.Alike.refl U.vm) z) (fun z => va_Z.moved (u := U) (U := U.calling g mk a) (Vm.Alike.refl U.vm) z)⟩
/-- a method: its name, code, locals, result -/
abbrev gk_M : Type := MethodName × ByteArray × Nat × Option FieldType
abbrev gk_cw (M : gk_M) : Cond := Cond.code M.1 M.2.1 M.2.2.1 M.2.2.2
/-- frames left, cells left, slots left -/
abbrev gk_B : Type := Nat × Nat × Nat
def gk_Cx (E : gk_E) (M : gk_M) (d : gk_B) (p : Program) (R : Room) (s : State) (m : MethodId) (args : Array Value) (meth : Method) (c : Code) (MC MS : Nat) : Prop :=
  p.tables.exec = Jvm.exec ∧ c.code = M.2.1 ∧ c.maxLocals = M.2.2.1 ∧ meth.sig.returnType = M.2.2.2 ∧ meth.locks = false ∧ meth.name = M.1.name ∧ (∀ w ∈ gk_T, w.before args s = true) ∧ s.vm.findClass M.1.cls = some m.cls ∧ gk_S E s ∧ d.1 ≤ R.frames ∧ 64 * d.1 ≤ R.locals ∧ MC ≤ R.cells ∧ MS ≤ R.slots
/-- an instruction that returns r -/
def gk_ret (M : gk_M) (pc : Nat) : Option Value → Prop := fun r => match r with
  | none => decode M.2.1 pc = .ok (.return_, 1) ∧ M.2.2.2 = none
  | some (.int v) => decode M.2.1 pc = .ok (.ireturn, 1) ∧ ∃ ty, M.2.2.2 = some ty ∧ narrow ty (.int v) = .int v
  | some (.long _) => decode M.2.1 pc = .ok (.lreturn, 1) ∧ M.2.2.2 = some .long
  | _ => False
def gk_R (E : gk_E) (M : gk_M) (K : Option Value → gk_H → Prop) (p : Program) (e : Env) (R : Room) (s : State) (m : MethodId) (args : Array Value) (below : List Frame) (meth : Method) (c : Code) (MC MS : Nat) (Q : State → Prop) : Prop :=
  ∀ (r : Option Value) (h : gk_H) (pc : Nat) (ls : Array Slot) (H : Heap) (locs : List Loc) (slots : Nat), K r h → gk_ret M pc r → gk_W E h H → va_S (gk_A E) s.heap H locs → slots ≤ MS → s.heap.size + MC ≤ gk_b E + h.length →
    W p E.1 e R s m args below meth c H locs MC slots Q (F0 m pc ls (r.toList.map (gk_v E)))
abbrev gk_L (E : gk_E) (lv : List (Nat × Value)) : List (Nat × Value) := lv.map (fun q => (q.1, gk_v E q.2))
/-- from pc on, with these locals, this stack, this heap: the method returns, and K -/
def gk_G (E : gk_E) (M : gk_M) (d : gk_B) (pc : Nat) (lv : List (Nat × Value)) (st : List Value) (h : gk_H) (K : Option Value → gk_H → Prop) : Prop :=
  ∀ (p : Program) (e : Env) (R : Room) (s : State) (m : MethodId) (args : Array Value) (below : List Frame) (meth : Method) (c : Code) (Q : State → Prop) (MC MS : Nat) (H : Heap) (locs : List Loc) (ls : Array Slot) (cells slots : Nat),
    gk_Cx E M d p R s m args meth c MC MS → gk_R E M K p e R s m args below meth c MC MS Q → gk_W E h H → va_S (gk_A E) s.heap H locs → lv_has ls M.2.2.1 (gk_L E lv) → cells + d.2.1 = MC → slots + d.2.2 = MS → s.heap.size + cells ≤ gk_b E + h.length →
    W p E.1 e R s m args below meth c H locs cells slots Q (F0 m pc ls (st.map (gk_v E)))
/-- a call from its start -/
def gk_Run (E : gk_E) (M : gk_M) (d : gk_B) (vs : List Value) (h : gk_H) (K : Option Value → gk_H → Prop) : Prop := gk_G E M d 0 (lv_args 0 vs) [] h K
theorem gk_Cx.mono {E : gk_E} {M : gk_M} {d d' : gk_B} (hd : d.1 ≤ d'.1) {p : Program} {R : Room} {s : State} {m : MethodId} {args : Array Value} {meth : Method} {c : Code} {MC MS : Nat} (h : gk_Cx E M d' p R s m args meth c MC MS) : gk_Cx E M d p R s m args meth c MC MS := by
  obtain ⟨h1, h2, h3, h4, h5, h6, h7, h8, h9, h10, h11, h12⟩ := h
  exact ⟨h1, h2, h3, h4, h5, h6, h7, h8, h9, Nat.le_trans hd h10, by omega, h12⟩
theorem gk_G.mono {E : gk_E} {M : gk_M} {d1 d2 b1 b2 pc : Nat} (hd : d1 ≤ d2) {lv : List (Nat × Value)} {st : List Value} {h : gk_H} {K : Option Value → gk_H → Prop} (k : gk_G E M (d1, b1, b2) pc lv st h K) : gk_G E M (d2, b1, b2) pc lv st h K :=
  fun p e R s m args below meth c Q MC MS H locs ls cells slots C => k p e R s m args below meth c Q MC MS H locs ls cells slots (gk_Cx.mono hd C)
theorem gk_G.post {E : gk_E} {M : gk_M} {d : gk_B} {pc : Nat} {lv : List (Nat × Value)} {st : List Value} {h : gk_H} {K K' : Option Value → gk_H → Prop} (hK : ∀ r h', K r h' → K' r h') (k : gk_G E M d pc lv st h K) : gk_G E M d pc lv st h K' :=
  fun p e R s m args below meth c Q MC MS H locs ls cells slots C Rt => k p e R s m args below meth c Q MC MS H locs ls cells slots C (fun r h pc ls H locs slots q => Rt r h pc ls H locs slots (hK r h q))
theorem gk_Run.mono {E : gk_E} {M : gk_M} {d1 d2 b1 b2 : Nat} (hd : d1 ≤ d2) {vs : List Value} {h : gk_H} {K : Option Value → gk_H → Prop} (k : gk_Run E M (d1, b1, b2) vs h K) : gk_Run E M (d2, b1, b2) vs h K := gk_G.mono hd k
theorem gk_Run.post {E : gk_E} {M : gk_M} {d : gk_B} {vs : List Value} {h : gk_H} {K K' : Option Value → gk_H → Prop} (hK : ∀ r h', K r h' → K' r h') (k : gk_Run E M d vs h K) : gk_Run E M d vs h K' := gk_G.post hK k
theorem gk_args (E : gk_E) : ∀ (vs : List Value) (i : Nat), lv_args i (vs.map (gk_v E)) = gk_L E (lv_args i vs)
  | [], i => rfl
  | v :: vs, i => by
    show (i, gk_v E v) :: lv_args (if (gk_v E v).category = 2 then i + 2 else i + 1) (vs.map (gk_v E)) = (i, gk_v E v) :: gk_L E (lv_args (if v.category = 2 then i + 2 else i + 1) vs)
    rw [gk_cat, gk_args E vs]
theorem gk_sl (E : gk_E) : ∀ (vs : List Value), (lg_sl (vs.map (gk_v E))).length = (lg_sl vs).length
  | [] => rfl
  | v :: vs => by
    have h := gk_sl E vs
    simp only [lg_sl, List.map_cons, List.flatMap_cons, List.length_append, gk_cat] at h ⊢
    rw [h]
    split <;> rfl
def gk_Q (E : gk_E) (K : Option Value → gk_H → Prop) (mc : Nat) : Array Value → State → Outcome → State → Prop := fun _ st oc t => (∃ (r : Option Value) (h : gk_H), oc = .returned (r.map (gk_v E)) ∧ K r h ∧ gk_W E h t.heap ∧ st.heap.size + mc ≤ gk_b E + h.length) ∧ va_F (gk_A E) st t
def gk_rm (d : gk_B) : Room := { frames := d.1, cells := d.2.1, slots := d.2.2, locals := 64 * d.1 }
set_option maxHeartbeats 4000000 in
/-- a run gives the kit's contract -/
theorem gk_met {E : gk_E} {M : gk_M} {d : gk_B} {vs : List Value} {h : gk_H} {K : Option Value → gk_H → Prop} (hpl : plainName M.1.cls = true) (hn : (lg_sl vs).length ≤ M.2.2.1) (hG : gk_Run E M d vs h K) :
    Met E.1 M.1 (gk_cw M :: gk_T) (gk_rm d) (va_Pc (vs.map (gk_v E)) (fun U => gk_S E U ∧ gk_W E h U.heap ∧ U.heap.size ≤ gk_b E + h.length)) (gk_Q E K d.2.1) d.2.1 d.2.2 (gk_A E) := by
  refine Met.ofW (cc := M.2.1) (maxL := M.2.2.1) (ret := M.2.2.2) hpl rfl ?_
  intro p e s m args below meth c s₁ B hml hv
  obtain ⟨rfl, hS, hW, hz⟩ := hv
  have hts := atoms_spec (ws := gk_cw M :: gk_T) B.pre
  have hown : s.vm.findClass M.1.cls = some m.cls := findClass_of_methodNamed B.named
  have hlocks : meth.locks = false := B.notSynchronized
  have hnm : meth.name = M.1.name := (name_of_methodNamed B.named B.method).1
  have hl := lv_entry (vs.map (gk_v E)) (n := M.2.2.1) (by rw [gk_sl]; exact hn)
  rw [lg_entry_eq]
  generalize (lg_sl (vs.map (gk_v E)) ++ List.replicate (M.2.2.1 - (lg_sl (vs.map (gk_v E))).length) Slot.unset).toArray = ls at hl ⊢
  rw [gk_args] at hl
  refine hG p e _ s m _ below meth c _ d.2.1 d.2.2 s.heap [] ls 0 0 ⟨B.exec, B.bytes, hml, B.returns, hlocks, hnm, fun w hw => hts w (List.mem_cons_of_mem _ hw), hown, hS, Nat.le_refl _, Nat.le_refl _, Nat.le_refl _, Nat.le_refl _⟩ ?_ hW va_S.rf hl (Nat.zero_add _) (Nat.zero_add _) hz
  intro r h' pc ls H locs slots hK hr hW' hS' ht hz'
  have hq : ∀ t : State, t.heap = H → s.WarmedH t.vm → gk_Q E K d.2.1 (vs.map (gk_v E)).toArray s (.returned (r.map (gk_v E))) t := fun t e _ => ⟨⟨r, h', rfl, hK, by rw [e]; exact hW', hz'⟩, hS'.F e⟩
  refine W.widen (k := d.2.1) (n := d.2.2) (Nat.le_refl _) ht ?_
  match r, hr, hq with
  | none, hr, hq => exact W.vret B.exec B.bytes (B.returns.trans hr.2) hq hS'.2.2 hr.1 hlocks
  | some (.int v), hr, hq =>
    obtain ⟨h1, ty, h2, h3⟩ := hr
    exact W.zret B.exec B.bytes (B.returns.trans h2) h3 hq hS'.2.2 h1 hlocks
  | some (.long v), hr, hq => exact W.lret B.exec B.bytes (B.returns.trans hr.2) hq hS'.2.2 hr.1 hlocks
/-- the heap's size, exactly: the tables' book from above, the cells from below -/
theorem gk_size {E : gk_E} {M : gk_M} {d : gk_B} {p : Program} {e : Env} {R : Room} {s T : State} {m : MethodId} {args : Array Value} {below : List Frame} {meth : Method} {c : Code} {MC MS : Nat} {h : gk_H} {locs : List Loc} {cells slots : Nat} (C : gk_Cx E M d p R s m args meth c MC MS) (hW : gk_W E h T.heap) (hS : va_S (gk_A E) s.heap T.heap locs) (hz : s.heap.size + cells ≤ gk_b E + h.length) (X : Stand p E.1 e R s m args below meth c T locs cells slots) : T.heap.size = gk_b E + h.length := by
  have h1 : T.heap.size ≤ s.heap.size + cells := X.same.2.2.1
  have h2 : gk_b E + h.length ≤ T.heap.size := by
    cases hh : h.length with
    | zero => have := C.2.2.2.2.2.2.2.2.1.2.2.2.1; have := hS.1; omega
    | succ n =>
      have hx : h[n]? = some h[n] := List.getElem?_eq_getElem (by omega)
      have := (hW.1 n _ (by rw [gk_lay_at, hx]; rfl)).lt
      dsimp only at this
      omega
  omega
