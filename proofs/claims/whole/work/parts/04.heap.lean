/-! fields and arrays -/
theorem gk_cell {E : gk_E} {h : gk_H} {r : Nat} {x : gk_X} (hx : h[r]? = some x) : (gk_lay E 0 h)[r]? = some (gk_b E + (0 + r), gk_e E x) := by rw [gk_lay_at, hx]; rfl
theorem gk_ar {E : gk_E} {h : gk_H} {H : Heap} {r : Nat} {x : gk_X} (hW : gk_W E h H) (hx : h[r]? = some x) : gk_a E r = gk_b E + (0 + r) := by
  have h1 : r < h.length := (List.getElem?_eq_some_iff.mp hx).1
  have h2 := hW.2
  rw [gk_a, if_pos (by omega), Nat.zero_add]
theorem gk_W.set {E : gk_E} {h : gk_H} {H H1 : Heap} {r : Nat} {x y : gk_X} (hW : gk_W E h H) (hx : h[r]? = some x) (ha : va_at (gk_D E) vwCl (gk_b E + (0 + r), gk_e E y) H1) (oq : ∀ q : Nat, q ≠ gk_b E + (0 + r) → H1[q]? = H[q]?) : gk_W E (h.set r y) H1 :=
  ⟨by rw [gk_lay_set]; exact hW.1.set (gk_lay_D E h) (gk_cell hx) ha oq, by rw [List.length_set]; exact hW.2⟩
/-- a class of the world: its number, name, fields -/
def gk_Cl (ci : Nat) (C : String) (T : u_T) (N : Nat) : Prop := vwCl[ci]? = some (C, T, N) ∧ (∀ w ∈ u_ws C T N, w ∈ gk_T) ∧ (∃ ty : Nat → FieldType, ∀ k, k < N → parseFieldDescriptor (T k).2.2.1 = some (ty k)) ∧ ∀ a, a < N → ∀ b, b < N → a ≠ b → (T a).2.1 ≠ (T b).2.1
/-- the pool's entry idx of class own is field k of class ci, of type ty, final or not -/
def gk_Fl (own : String) (idx ci k : Nat) (ty : FieldType) (fin : Bool) : Prop := ∃ (C : String) (T : u_T) (N : Nat) (ref : String), gk_Cl ci C T N ∧ k < N ∧ Cond.fieldLink own idx ref (T k).2.1 (T k).2.2.1 ∈ gk_T ∧ (ref = (T k).1 ∨ Cond.sameField ref (T k).1 (T k).2.1 (T k).2.2.1 ∈ gk_T) ∧ parseFieldDescriptor (T k).2.2.1 = some ty ∧ (T k).2.2.2 = fin ∧ (fin = true → (T k).1 = own)
/-- for a read -/
def gk_Fg (own : String) (idx ci k : Nat) : Prop := ∃ (C : String) (T : u_T) (N : Nat) (ref : String), gk_Cl ci C T N ∧ k < N ∧ Cond.fieldLink own idx ref (T k).2.1 (T k).2.2.1 ∈ gk_T ∧ (ref = (T k).1 ∨ Cond.sameField ref (T k).1 (T k).2.1 (T k).2.2.1 ∈ gk_T)
theorem gk_Fl.g {own : String} {idx ci k : Nat} {ty : FieldType} {fin : Bool} (h : gk_Fl own idx ci k ty fin) : gk_Fg own idx ci k := by
  obtain ⟨C, T, N, ref, h1, h2, h3, h4, -⟩ := h
  exact ⟨C, T, N, ref, h1, h2, h3, h4⟩
section GKH
variable {E : gk_E} {M : gk_M} {d : gk_B} {pc : Nat} {lv : List (Nat × Value)} {st : List Value} {h : gk_H} {K : Option Value → gk_H → Prop}
theorem gk_same {own ref o n ds : String} {args : Array Value} {s : State} (hts : ∀ w ∈ gk_T, w.before args s = true) (h : ref = o ∨ Cond.sameField ref o n ds ∈ gk_T) : ∀ x, s.fieldFound? o n ds = some x → s.fieldFound? ref n ds = some x := by
  intro x hx
  rcases h with rfl | h
  · exact hx
  · exact u_same (hts _ h) x hx
theorem gk_get {idx ci k r : Nat} {fs : List Value} (v : Value) (hd : decode M.2.1 pc = .ok (.getfield idx, 3)) (hf : gk_Fg M.1.cls idx ci k) (hr : h[r]? = some (.inr (ci, fs))) (hv : fs[k]? = some v) (kk : gk_G E M d (pc + 3) lv (v :: st) h K) : gk_G E M d pc lv (.ref r :: st) h K := by
  intro p e R s m args below meth c Q MC MS H locs ls cells slots C Rt hW hS hl hc ht hz
  obtain ⟨Cn, T, N, ref, hC, hk, hln, hsm⟩ := hf
  have key := kk p e R s m args below meth c Q MC MS H locs ls cells slots C Rt hW hS hl hc ht hz
  have hts := C.2.2.2.2.2.2.1
  show W p E.1 e R s m args below meth c H locs cells slots Q (F0 m pc ls (.ref (gk_a E r) :: st.map (gk_v E)))
  rw [gk_ar hW hr]
  exact va_get C.1 C.2.1 hts hC.2.1 C.2.2.2.2.2.2.2.1 C.2.2.2.2.2.2.2.2.1.1 hW.1 r (gk_cell hr) hC.1 k hk (hts _ hln) (gk_same (own := ref) hts hsm) (v := gk_v E v) (by rw [List.getElem?_map, hv]; rfl) hd key
set_option maxHeartbeats 1000000 in
theorem gk_put {idx ci k r : Nat} {ty : FieldType} {fs : List Value} {v : Value} (hd : decode M.2.1 pc = .ok (.putfield idx, 3)) (hf : gk_Fl M.1.cls idx ci k ty false) (hr : h[r]? = some (.inr (ci, fs))) (hlen : k < fs.length) (hn : narrow ty v = v) (hfit : fits ty v = true) (kk : gk_G E M d (pc + 3) lv st (h.set r (.inr (ci, fs.set k v))) K) : gk_G E M d pc lv (v :: .ref r :: st) h K := by
  intro p e R s m args below meth c Q MC MS H locs ls cells slots C Rt hW hS hl hc ht hz
  obtain ⟨Cn, T, N, ref, hC, hk, hln, hsm, hty, hfin, -⟩ := hf
  have hts := C.2.2.2.2.2.2.1
  have hK := C.2.2.2.2.2.2.2.2.1.1
  obtain ⟨ty0, hty0⟩ := hC.2.2.1
  show W p E.1 e R s m args below meth c H locs cells slots Q (F0 m pc ls (gk_v E v :: .ref (gk_a E r) :: st.map (gk_v E)))
  rw [gk_ar hW hr]
  have hn' : narrow ty (gk_v E v) = gk_v E v := by
    cases v <;> first | exact hn | (cases ty <;> rfl)
  have hfit' : fits ty (gk_v E v) = true := by
    cases v <;> first | exact hfit | (cases ty <;> first | exact hfit | rfl)
  have hap := va_apart (own := ref) hts hC.2.1 ty0 hty0 hC.2.2.2 hK hC.1
  obtain ⟨rr, h1, cell, q1, q2, q3, q4⟩ := hW.1 r _ (gk_cell hr)
  have hrr : rr = (Cn, T, N) := Option.some.inj (h1.symm.trans hC.1)
  subst hrr
  obtain ⟨hSl, hfc, kC, hkC, hkind⟩ := hK.1 ci _ hC.1
  obtain ⟨cf, kf, fi, f, hi, hsl⟩ := hSl k hk
  have hlay := hts _ (hC.2.1 _ (u_in_lay hk))
  unfold u_lay at hlay
  rw [if_neg (by rw [hfin]; decide)] at hlay
  have hst := (u_facts hfc hkC (u_lays hts hC.2.1 hk) hi).1
  have h6 := u_store hfc hkC hkind hlay hi hty hn' hfit'
  refine W.putK C.1 C.2.1 (f := f) ⟨C.2.2.2.2.2.2.2.1, hts _ hln, ⟨_, _, _, gk_same (own := ref) hts hsm _ hi⟩, hst⟩ (by rw [q2]; exact h6) q1 q3 (by rw [hsl]; exact k2_hasslot (q4 k hk)) rfl rfl hd fun H' e1 e2 e3 => ?_
  rw [hsl] at e1 ⊢
  refine kk p e R s m args below meth c Q MC MS H' _ ls cells slots C Rt (hW.set hr ?_ e3) (hS.put e2 e3 (Nat.le_add_right _ _)) hl hc ht (by rw [List.length_set]; exact hz)
  refine ⟨_, hC.1, t_OB.to (V := updV (vp_V (fs.map (gk_v E))) k (gk_v E v)) ⟨_, e1, q2, q3, t_set q4 hap hk _⟩ (fun j _ => ?_)⟩
  rw [vp_updV_set (by rw [List.length_map]; exact hlen), List.map_set]
set_option maxHeartbeats 1000000 in
theorem gk_putF {idx ci k r : Nat} {ty : FieldType} {fs : List Value} {v : Value} (hd : decode M.2.1 pc = .ok (.putfield idx, 3)) (hm : M.1.name = "<init>") (hf : gk_Fl M.1.cls idx ci k ty true) (hr : h[r]? = some (.inr (ci, fs))) (hlen : k < fs.length) (hn : narrow ty v = v) (hfit : fits ty v = true) (kk : gk_G E M d (pc + 3) lv st (h.set r (.inr (ci, fs.set k v))) K) : gk_G E M d pc lv (v :: .ref r :: st) h K := by
  intro p e R s m args below meth c Q MC MS H locs ls cells slots C Rt hW hS hl hc ht hz
  obtain ⟨Cn, T, N, ref, hC, hk, hln, hsm, hty, hfin, hdecl⟩ := hf
  have hdecl := hdecl rfl
  have hts := C.2.2.2.2.2.2.1
  have hown := C.2.2.2.2.2.2.2.1
  have hK := C.2.2.2.2.2.2.2.2.1.1
  obtain ⟨ty0, hty0⟩ := hC.2.2.1
  show W p E.1 e R s m args below meth c H locs cells slots Q (F0 m pc ls (gk_v E v :: .ref (gk_a E r) :: st.map (gk_v E)))
  rw [gk_ar hW hr]
  have hn' : narrow ty (gk_v E v) = gk_v E v := by
    cases v <;> first | exact hn | (cases ty <;> rfl)
  have hfit' : fits ty (gk_v E v) = true := by
    cases v <;> first | exact hfit | (cases ty <;> first | exact hfit | rfl)
  have hap := va_apart (own := ref) hts hC.2.1 ty0 hty0 hC.2.2.2 hK hC.1
  obtain ⟨rr, h1, cell, q1, q2, q3, q4⟩ := hW.1 r _ (gk_cell hr)
  have hrr : rr = (Cn, T, N) := Option.some.inj (h1.symm.trans hC.1)
  subst hrr
  obtain ⟨hSl, hfc, kC, hkC, hkind⟩ := hK.1 ci _ hC.1
  obtain ⟨cf, kf, fi, f, hi, hsl⟩ := hSl k hk
  have hlay := hts _ (hC.2.1 _ (u_in_lay hk))
  unfold u_lay at hlay
  rw [if_pos hfin] at hlay
  have hst := (u_facts hfc hkC (u_lays hts hC.2.1 hk) hi).1
  have hcf : m.cls = cf := by
    obtain ⟨_, _, c', _, _, _, -, -, hf', -, -, -, hown2, -⟩ := Cond.laysFinal_spec hlay
    have e1 : c' = cf := by have := hi.symm.trans hf'; simp at this; exact this.1.symm
    rw [hdecl] at hown2
    rw [← e1]; exact Option.some.inj (hown.symm.trans hown2)
  have h6 := u_fits hfc hkC hkind (Or.inr hlay) hi hty hn' hfit'
  refine W.putFinK C.1 C.2.1 hown (hts _ hln) (gk_same (own := ref) hts hsm _ hi) hst hcf (C.2.2.2.2.2.1.trans hm) (by rw [q2]; exact h6) q1 q3 (by rw [hsl]; exact k2_hasslot (q4 k hk)) rfl rfl hd fun H' e1 e2 e3 => ?_
  rw [hsl] at e1 ⊢
  refine kk p e R s m args below meth c Q MC MS H' _ ls cells slots C Rt (hW.set hr ?_ e3) (hS.put e2 e3 (Nat.le_add_right _ _)) hl hc ht (by rw [List.length_set]; exact hz)
  refine ⟨_, hC.1, t_OB.to (V := updV (vp_V (fs.map (gk_v E))) k (gk_v E v)) ⟨_, e1, q2, q3, t_set q4 hap hk _⟩ (fun j _ => ?_)⟩
  rw [vp_updV_set (by rw [List.length_map]; exact hlen), List.map_set]
theorem gk_alen {r t : Nat} {x : vp_A} (v : Int32) (hd : decode M.2.1 pc = .ok (.arraylength, 1)) (hr : h[r]? = some (.inl (t, x))) (htt : t < 8) (hv : Int32.ofNat x.1 = v) (kk : gk_G E M d (pc + 1) lv (.int v :: st) h K) : gk_G E M d pc lv (.ref r :: st) h K := by
  intro p e R s m args below meth c Q MC MS H locs ls cells slots C Rt hW hS hl hc ht hz
  have key := kk p e R s m args below meth c Q MC MS H locs ls cells slots C Rt hW hS hl hc ht hz
  show W p E.1 e R s m args below meth c H locs cells slots Q (F0 m pc ls (.ref (gk_a E r) :: st.map (gk_v E)))
  rw [gk_ar hW hr]
  have hg : ∃ ty, (gk_tys E)[t]? = some (gk_cy E t, ty) := by
    match t, htt with
    | 0, _ => exact ⟨_, rfl⟩
    | 1, _ => exact ⟨_, rfl⟩
    | 2, _ => exact ⟨_, rfl⟩
    | 3, _ => exact ⟨_, rfl⟩
    | 4, _ => exact ⟨_, rfl⟩
    | 5, _ => exact ⟨_, rfl⟩
    | 6, _ => exact ⟨_, rfl⟩
    | 7, _ => exact ⟨_, rfl⟩
    | n + 8, q => omega
  obtain ⟨ty, hg⟩ := hg
  have hx1 : (gk_c E x).1 = x.1 := by obtain ⟨n, f | f | f | f | f⟩ := x <;> rfl
  exact va_alen C.1 C.2.1 C.2.2.2.2.2.2.2.2.1.1 hW.1 r t (gk_cell hr) hg (by rw [hx1]; exact hv) hd key
end GKH
theorem gk_iald {E : gk_E} {M : gk_M} {d : gk_B} {pc : Nat} {lv : List (Nat × Value)} {st : List Value} {h : gk_H} {K : Option Value → gk_H → Prop} {r n : Nat} {f : Nat → Int32} {i : Int32} (hd : decode M.2.1 pc = .ok (.iaload, 1)) (hr : h[r]? = some (.inl (0, n, .inl f))) (hin : vp_in i n) (kk : gk_G E M d (pc + 1) lv (.int (f i.toNatClampNeg) :: st) h K) : gk_G E M d pc lv (.int i :: .ref r :: st) h K := by
  intro p e R s m args below meth c Q MC MS H locs ls cells slots C Rt hW hS hl hc ht hz
  have key := kk p e R s m args below meth c Q MC MS H locs ls cells slots C Rt hW hS hl hc ht hz
  show W p E.1 e R s m args below meth c H locs cells slots Q (F0 m pc ls (.int i :: .ref (gk_a E r) :: st.map (gk_v E)))
  rw [gk_ar hW hr]
  exact va_iald C.1 C.2.1 C.2.2.2.2.2.2.2.2.1.1 hW.1 r 0 (gk_cell hr) rfl hin hd key
set_option maxHeartbeats 1000000 in
theorem gk_iast {E : gk_E} {M : gk_M} {d : gk_B} {pc : Nat} {lv : List (Nat × Value)} {st : List Value} {h : gk_H} {K : Option Value → gk_H → Prop} {r n : Nat} {f : Nat → Int32} {i : Int32} {x : Int32} (hd : decode M.2.1 pc = .ok (.iastore, 1)) (hr : h[r]? = some (.inl (0, n, .inl f))) (hin : vp_in i n) (kk : gk_G E M d (pc + 1) lv st (h.set r (.inl (0, n, .inl (upd f i.toNatClampNeg x)))) K) : gk_G E M d pc lv (.int x :: .int i :: .ref r :: st) h K := by
  intro p e R s m args below meth c Q MC MS H locs ls cells slots C Rt hW hS hl hc ht hz
  show W p E.1 e R s m args below meth c H locs cells slots Q (F0 m pc ls (.int x :: .int i :: .ref (gk_a E r) :: st.map (gk_v E)))
  rw [gk_ar hW hr]
  have hP := hW.1 r _ (gk_cell hr)
  have hA : s.isArrayOf (arrV (gk_cy E 0) n (fun j => .int (f j))) .int := (C.2.2.2.2.2.2.2.2.1.1.2 0 _ rfl).1 n (fun j => .int (f j))
  refine W.iast C.1 C.2.1 hP hA (fun q => by cases q) (by show ¬ (i < 0 ∨ (arrV _ _ _).slots.size ≤ _); rw [arrV_size]; exact hin) rfl rfl hd fun H1 e0 z oq => ?_
  refine kk p e R s m args below meth c Q MC MS H1 _ ls cells slots C Rt (hW.set hr ?_ oq) (hS.put z oq (Nat.le_add_right _ _)) hl hc ht (by rw [List.length_set]; exact hz)
  show H1[gk_b E + (0 + r)]? = some (vp_cell (gk_cy E 0) (n, _))
  rw [e0]
  show some ((arrV (gk_cy E 0) n (fun j => .int (f j))).setSlot _ _) = some (arrV (gk_cy E 0) n (fun j => .int ((upd f i.toNatClampNeg x) j)))
  rw [arrV_store]
  congr 2
  funext q
  by_cases hq : q = i.toNatClampNeg
  · subst hq
    simp [updV, upd, vp_updL, vp_nar]
    try rfl
  · simp [updV, upd, vp_updL, hq]
theorem gk_bald {E : gk_E} {M : gk_M} {d : gk_B} {pc : Nat} {lv : List (Nat × Value)} {st : List Value} {h : gk_H} {K : Option Value → gk_H → Prop} {r n : Nat} {f : Nat → Int32} {i : Int32} (hd : decode M.2.1 pc = .ok (.baload, 1)) (hr : h[r]? = some (.inl (2, n, .inl f))) (hin : vp_in i n) (kk : gk_G E M d (pc + 1) lv (.int (f i.toNatClampNeg) :: st) h K) : gk_G E M d pc lv (.int i :: .ref r :: st) h K := by
  intro p e R s m args below meth c Q MC MS H locs ls cells slots C Rt hW hS hl hc ht hz
  have key := kk p e R s m args below meth c Q MC MS H locs ls cells slots C Rt hW hS hl hc ht hz
  show W p E.1 e R s m args below meth c H locs cells slots Q (F0 m pc ls (.int i :: .ref (gk_a E r) :: st.map (gk_v E)))
  rw [gk_ar hW hr]
  exact va_bald C.1 C.2.1 C.2.2.2.2.2.2.2.2.1.1 hW.1 r 2 (gk_cell hr) rfl hin hd key
set_option maxHeartbeats 1000000 in
theorem gk_bast {E : gk_E} {M : gk_M} {d : gk_B} {pc : Nat} {lv : List (Nat × Value)} {st : List Value} {h : gk_H} {K : Option Value → gk_H → Prop} {r n : Nat} {f : Nat → Int32} {i : Int32} {x : Int32} (hd : decode M.2.1 pc = .ok (.bastore, 1)) (hr : h[r]? = some (.inl (2, n, .inl f))) (hin : vp_in i n) (kk : gk_G E M d (pc + 1) lv st (h.set r (.inl (2, n, .inl (upd f i.toNatClampNeg (vp_nar .byte x))))) K) : gk_G E M d pc lv (.int x :: .int i :: .ref r :: st) h K := by
  intro p e R s m args below meth c Q MC MS H locs ls cells slots C Rt hW hS hl hc ht hz
  show W p E.1 e R s m args below meth c H locs cells slots Q (F0 m pc ls (.int x :: .int i :: .ref (gk_a E r) :: st.map (gk_v E)))
  rw [gk_ar hW hr]
  have hP := hW.1 r _ (gk_cell hr)
  have hA : s.isArrayOf (arrV (gk_cy E 2) n (fun j => .int (f j))) .byte := (C.2.2.2.2.2.2.2.2.1.1.2 2 _ rfl).1 n (fun j => .int (f j))
  refine W.bast C.1 C.2.1 hP hA (fun q => by cases q) (by show ¬ (i < 0 ∨ (arrV _ _ _).slots.size ≤ _); rw [arrV_size]; exact hin) rfl rfl hd fun H1 e0 z oq => ?_
  refine kk p e R s m args below meth c Q MC MS H1 _ ls cells slots C Rt (hW.set hr ?_ oq) (hS.put z oq (Nat.le_add_right _ _)) hl hc ht (by rw [List.length_set]; exact hz)
  show H1[gk_b E + (0 + r)]? = some (vp_cell (gk_cy E 2) (n, _))
  rw [e0]
  show some ((arrV (gk_cy E 2) n (fun j => .int (f j))).setSlot _ _) = some (arrV (gk_cy E 2) n (fun j => .int ((upd f i.toNatClampNeg (vp_nar .byte x)) j)))
  rw [arrV_store]
  congr 2
  funext q
  by_cases hq : q = i.toNatClampNeg
  · subst hq
    simp [updV, upd, vp_updL, vp_nar]
    try rfl
  · simp [updV, upd, vp_updL, hq]
theorem gk_zald {E : gk_E} {M : gk_M} {d : gk_B} {pc : Nat} {lv : List (Nat × Value)} {st : List Value} {h : gk_H} {K : Option Value → gk_H → Prop} {r n : Nat} {f : Nat → Int32} {i : Int32} (hd : decode M.2.1 pc = .ok (.baload, 1)) (hr : h[r]? = some (.inl (3, n, .inl f))) (hin : vp_in i n) (kk : gk_G E M d (pc + 1) lv (.int (f i.toNatClampNeg) :: st) h K) : gk_G E M d pc lv (.int i :: .ref r :: st) h K := by
  intro p e R s m args below meth c Q MC MS H locs ls cells slots C Rt hW hS hl hc ht hz
  have key := kk p e R s m args below meth c Q MC MS H locs ls cells slots C Rt hW hS hl hc ht hz
  show W p E.1 e R s m args below meth c H locs cells slots Q (F0 m pc ls (.int i :: .ref (gk_a E r) :: st.map (gk_v E)))
  rw [gk_ar hW hr]
  exact va_zald C.1 C.2.1 C.2.2.2.2.2.2.2.2.1.1 hW.1 r 3 (gk_cell hr) rfl hin hd key
set_option maxHeartbeats 1000000 in
theorem gk_zast {E : gk_E} {M : gk_M} {d : gk_B} {pc : Nat} {lv : List (Nat × Value)} {st : List Value} {h : gk_H} {K : Option Value → gk_H → Prop} {r n : Nat} {f : Nat → Int32} {i : Int32} {x : Int32} (hd : decode M.2.1 pc = .ok (.bastore, 1)) (hr : h[r]? = some (.inl (3, n, .inl f))) (hin : vp_in i n) (kk : gk_G E M d (pc + 1) lv st (h.set r (.inl (3, n, .inl (upd f i.toNatClampNeg (vp_nar .boolean x))))) K) : gk_G E M d pc lv (.int x :: .int i :: .ref r :: st) h K := by
  intro p e R s m args below meth c Q MC MS H locs ls cells slots C Rt hW hS hl hc ht hz
  show W p E.1 e R s m args below meth c H locs cells slots Q (F0 m pc ls (.int x :: .int i :: .ref (gk_a E r) :: st.map (gk_v E)))
  rw [gk_ar hW hr]
  have hP := hW.1 r _ (gk_cell hr)
  have hA : s.isArrayOf (arrV (gk_cy E 3) n (fun j => .int (f j))) .boolean := (C.2.2.2.2.2.2.2.2.1.1.2 3 _ rfl).1 n (fun j => .int (f j))
  refine W.zast C.1 C.2.1 hP hA (fun q => by cases q) (by show ¬ (i < 0 ∨ (arrV _ _ _).slots.size ≤ _); rw [arrV_size]; exact hin) rfl rfl hd fun H1 e0 z oq => ?_
  refine kk p e R s m args below meth c Q MC MS H1 _ ls cells slots C Rt (hW.set hr ?_ oq) (hS.put z oq (Nat.le_add_right _ _)) hl hc ht (by rw [List.length_set]; exact hz)
  show H1[gk_b E + (0 + r)]? = some (vp_cell (gk_cy E 3) (n, _))
  rw [e0]
  show some ((arrV (gk_cy E 3) n (fun j => .int (f j))).setSlot _ _) = some (arrV (gk_cy E 3) n (fun j => .int ((upd f i.toNatClampNeg (vp_nar .boolean x)) j)))
  rw [arrV_store]
  congr 2
  funext q
  by_cases hq : q = i.toNatClampNeg
  · subst hq
    simp [updV, upd, vp_updL, vp_nar]
    try rfl
  · simp [updV, upd, vp_updL, hq]
theorem gk_cald {E : gk_E} {M : gk_M} {d : gk_B} {pc : Nat} {lv : List (Nat × Value)} {st : List Value} {h : gk_H} {K : Option Value → gk_H → Prop} {r n : Nat} {f : Nat → Int32} {i : Int32} (hd : decode M.2.1 pc = .ok (.caload, 1)) (hr : h[r]? = some (.inl (4, n, .inl f))) (hin : vp_in i n) (kk : gk_G E M d (pc + 1) lv (.int (f i.toNatClampNeg) :: st) h K) : gk_G E M d pc lv (.int i :: .ref r :: st) h K := by
  intro p e R s m args below meth c Q MC MS H locs ls cells slots C Rt hW hS hl hc ht hz
  have key := kk p e R s m args below meth c Q MC MS H locs ls cells slots C Rt hW hS hl hc ht hz
  show W p E.1 e R s m args below meth c H locs cells slots Q (F0 m pc ls (.int i :: .ref (gk_a E r) :: st.map (gk_v E)))
  rw [gk_ar hW hr]
  exact va_cald C.1 C.2.1 C.2.2.2.2.2.2.2.2.1.1 hW.1 r 4 (gk_cell hr) rfl hin hd key
set_option maxHeartbeats 1000000 in
theorem gk_cast {E : gk_E} {M : gk_M} {d : gk_B} {pc : Nat} {lv : List (Nat × Value)} {st : List Value} {h : gk_H} {K : Option Value → gk_H → Prop} {r n : Nat} {f : Nat → Int32} {i : Int32} {x : Int32} (hd : decode M.2.1 pc = .ok (.castore, 1)) (hr : h[r]? = some (.inl (4, n, .inl f))) (hin : vp_in i n) (kk : gk_G E M d (pc + 1) lv st (h.set r (.inl (4, n, .inl (upd f i.toNatClampNeg (vp_nar .char x))))) K) : gk_G E M d pc lv (.int x :: .int i :: .ref r :: st) h K := by
  intro p e R s m args below meth c Q MC MS H locs ls cells slots C Rt hW hS hl hc ht hz
  show W p E.1 e R s m args below meth c H locs cells slots Q (F0 m pc ls (.int x :: .int i :: .ref (gk_a E r) :: st.map (gk_v E)))
  rw [gk_ar hW hr]
  have hP := hW.1 r _ (gk_cell hr)
  have hA : s.isArrayOf (arrV (gk_cy E 4) n (fun j => .int (f j))) .char := (C.2.2.2.2.2.2.2.2.1.1.2 4 _ rfl).1 n (fun j => .int (f j))
  refine W.cast C.1 C.2.1 hP hA (fun q => by cases q) (by show ¬ (i < 0 ∨ (arrV _ _ _).slots.size ≤ _); rw [arrV_size]; exact hin) rfl rfl hd fun H1 e0 z oq => ?_
  refine kk p e R s m args below meth c Q MC MS H1 _ ls cells slots C Rt (hW.set hr ?_ oq) (hS.put z oq (Nat.le_add_right _ _)) hl hc ht (by rw [List.length_set]; exact hz)
  show H1[gk_b E + (0 + r)]? = some (vp_cell (gk_cy E 4) (n, _))
  rw [e0]
  show some ((arrV (gk_cy E 4) n (fun j => .int (f j))).setSlot _ _) = some (arrV (gk_cy E 4) n (fun j => .int ((upd f i.toNatClampNeg (vp_nar .char x)) j)))
  rw [arrV_store]
  congr 2
  funext q
  by_cases hq : q = i.toNatClampNeg
  · subst hq
    simp [updV, upd, vp_updL, vp_nar]
    try rfl
  · simp [updV, upd, vp_updL, hq]
theorem gk_lald {E : gk_E} {M : gk_M} {d : gk_B} {pc : Nat} {lv : List (Nat × Value)} {st : List Value} {h : gk_H} {K : Option Value → gk_H → Prop} {r n : Nat} {f : Nat → Int64} {i : Int32} (hd : decode M.2.1 pc = .ok (.laload, 1)) (hr : h[r]? = some (.inl (1, n, .inr (.inl f)))) (hin : vp_in i n) (kk : gk_G E M d (pc + 1) lv (.long (f i.toNatClampNeg) :: st) h K) : gk_G E M d pc lv (.int i :: .ref r :: st) h K := by
  intro p e R s m args below meth c Q MC MS H locs ls cells slots C Rt hW hS hl hc ht hz
  have key := kk p e R s m args below meth c Q MC MS H locs ls cells slots C Rt hW hS hl hc ht hz
  show W p E.1 e R s m args below meth c H locs cells slots Q (F0 m pc ls (.int i :: .ref (gk_a E r) :: st.map (gk_v E)))
  rw [gk_ar hW hr]
  exact va_lald C.1 C.2.1 C.2.2.2.2.2.2.2.2.1.1 hW.1 r 1 (gk_cell hr) rfl hin hd key
set_option maxHeartbeats 1000000 in
theorem gk_last {E : gk_E} {M : gk_M} {d : gk_B} {pc : Nat} {lv : List (Nat × Value)} {st : List Value} {h : gk_H} {K : Option Value → gk_H → Prop} {r n : Nat} {f : Nat → Int64} {i : Int32} {x : Int64} (hd : decode M.2.1 pc = .ok (.lastore, 1)) (hr : h[r]? = some (.inl (1, n, .inr (.inl f)))) (hin : vp_in i n) (kk : gk_G E M d (pc + 1) lv st (h.set r (.inl (1, n, .inr (.inl (vp_updL f i.toNatClampNeg x))))) K) : gk_G E M d pc lv (.long x :: .int i :: .ref r :: st) h K := by
  intro p e R s m args below meth c Q MC MS H locs ls cells slots C Rt hW hS hl hc ht hz
  show W p E.1 e R s m args below meth c H locs cells slots Q (F0 m pc ls (.long x :: .int i :: .ref (gk_a E r) :: st.map (gk_v E)))
  rw [gk_ar hW hr]
  have hP := hW.1 r _ (gk_cell hr)
  have hA : s.isArrayOf (arrV (gk_cy E 1) n (fun j => .long (f j))) .long := (C.2.2.2.2.2.2.2.2.1.1.2 1 _ rfl).1 n (fun j => .long (f j))
  refine W.last C.1 C.2.1 hP hA (fun q => by cases q) (by show ¬ (i < 0 ∨ (arrV _ _ _).slots.size ≤ _); rw [arrV_size]; exact hin) rfl rfl hd fun H1 e0 z oq => ?_
  refine kk p e R s m args below meth c Q MC MS H1 _ ls cells slots C Rt (hW.set hr ?_ oq) (hS.put z oq (Nat.le_add_right _ _)) hl hc ht (by rw [List.length_set]; exact hz)
  show H1[gk_b E + (0 + r)]? = some (vp_cell (gk_cy E 1) (n, _))
  rw [e0]
  show some ((arrV (gk_cy E 1) n (fun j => .long (f j))).setSlot _ _) = some (arrV (gk_cy E 1) n (fun j => .long ((vp_updL f i.toNatClampNeg x) j)))
  rw [arrV_store]
  congr 2
  funext q
  by_cases hq : q = i.toNatClampNeg
  · subst hq
    simp [updV, upd, vp_updL, vp_nar]
    try rfl
  · simp [updV, upd, vp_updL, hq]
theorem gk_aald5 {E : gk_E} {M : gk_M} {d : gk_B} {pc : Nat} {lv : List (Nat × Value)} {st : List Value} {h : gk_H} {K : Option Value → gk_H → Prop} {r n : Nat} {f : Nat → Option Nat} {i : Int32} (a : Nat) (hd : decode M.2.1 pc = .ok (.aaload, 1)) (hr : h[r]? = some (.inl (5, n, .inr (.inr (.inr (.inr f)))))) (hin : vp_in i n) (ha : f i.toNatClampNeg = some a) (kk : gk_G E M d (pc + 1) lv (.ref a :: st) h K) : gk_G E M d pc lv (.int i :: .ref r :: st) h K := by
  intro p e R s m args below meth c Q MC MS H locs ls cells slots C Rt hW hS hl hc ht hz
  have key := kk p e R s m args below meth c Q MC MS H locs ls cells slots C Rt hW hS hl hc ht hz
  show W p E.1 e R s m args below meth c H locs cells slots Q (F0 m pc ls (.int i :: .ref (gk_a E r) :: st.map (gk_v E)))
  rw [gk_ar hW hr]
  refine va_aldq C.1 C.2.1 C.2.2.2.2.2.2.2.2.1.1 hW.1 r 5 (C := RX3) (gk_cell hr) rfl hin hd ?_
  show W p E.1 e R s m args below meth c H locs cells slots Q (F0 m (pc + 1) ls (va_rf ((f i.toNatClampNeg).map (gk_a E)) :: st.map (gk_v E)))
  rw [ha]
  exact key
theorem gk_aald6 {E : gk_E} {M : gk_M} {d : gk_B} {pc : Nat} {lv : List (Nat × Value)} {st : List Value} {h : gk_H} {K : Option Value → gk_H → Prop} {r n : Nat} {f : Nat → Option Nat} {i : Int32} (a : Nat) (hd : decode M.2.1 pc = .ok (.aaload, 1)) (hr : h[r]? = some (.inl (6, n, .inr (.inr (.inr (.inr f)))))) (hin : vp_in i n) (ha : f i.toNatClampNeg = some a) (kk : gk_G E M d (pc + 1) lv (.ref a :: st) h K) : gk_G E M d pc lv (.int i :: .ref r :: st) h K := by
  intro p e R s m args below meth c Q MC MS H locs ls cells slots C Rt hW hS hl hc ht hz
  have key := kk p e R s m args below meth c Q MC MS H locs ls cells slots C Rt hW hS hl hc ht hz
  show W p E.1 e R s m args below meth c H locs cells slots Q (F0 m pc ls (.int i :: .ref (gk_a E r) :: st.map (gk_v E)))
  rw [gk_ar hW hr]
  refine va_aldq C.1 C.2.1 C.2.2.2.2.2.2.2.2.1.1 hW.1 r 6 (C := RX6) (gk_cell hr) rfl hin hd ?_
  show W p E.1 e R s m args below meth c H locs cells slots Q (F0 m (pc + 1) ls (va_rf ((f i.toNatClampNeg).map (gk_a E)) :: st.map (gk_v E)))
  rw [ha]
  exact key
theorem gk_scr_ld {E : gk_E} {M : gk_M} {d : gk_B} {pc : Nat} {lv : List (Nat × Value)} {st : List Value} {h : gk_H} {K : Option Value → gk_H → Prop} {i : Int32} (hd : decode M.2.1 pc = .ok (.iaload, 1)) (hin : vp_in i (gk_scr E).2.1) (kk : gk_G E M d (pc + 1) lv (.int ((gk_scr E).2.2 i.toNatClampNeg) :: st) h K) : gk_G E M d pc lv (.int i :: .ref 1000000 :: st) h K := by
  intro p e R s m args below meth c Q MC MS H locs ls cells slots C Rt hW hS hl hc ht hz
  have key := kk p e R s m args below meth c Q MC MS H locs ls cells slots C Rt hW hS hl hc ht hz
  have hSw := C.2.2.2.2.2.2.2.2.1
  exact va_sld C.1 C.2.1 hSw.2.1 (Nat.lt_of_lt_of_le hSw.2.2.1 hSw.2.2.2.1) (Nat.not_le.mpr hSw.2.2.1) hS hin hd key
theorem gk_aald7 {E : gk_E} {M : gk_M} {d : gk_B} {pc : Nat} {lv : List (Nat × Value)} {st : List Value} {h : gk_H} {K : Option Value → gk_H → Prop} {r n : Nat} {f : Nat → Option Nat} {i : Int32} (a : Nat) (hd : decode M.2.1 pc = .ok (.aaload, 1)) (hr : h[r]? = some (.inl (7, n, .inr (.inr (.inr (.inr f)))))) (hin : vp_in i n) (ha : f i.toNatClampNeg = some a) (kk : gk_G E M d (pc + 1) lv (.ref a :: st) h K) : gk_G E M d pc lv (.int i :: .ref r :: st) h K := by
  intro p e R s m args below meth c Q MC MS H locs ls cells slots C Rt hW hS hl hc ht hz
  have key := kk p e R s m args below meth c Q MC MS H locs ls cells slots C Rt hW hS hl hc ht hz
  show W p E.1 e R s m args below meth c H locs cells slots Q (F0 m pc ls (.int i :: .ref (gk_a E r) :: st.map (gk_v E)))
  rw [gk_ar hW hr]
  have hlt : i.toNatClampNeg < n := Nat.not_le.mp fun q => hin (Or.inr q)
  have hP : H[gk_b E + (0 + r)]? = some (arrV (gk_cy E 7) n (fun j => va_rf ((f j).map (gk_a E)))) := hW.1 r _ (gk_cell hr)
  have hA : s.isArrayOf (arrV (gk_cy E 7) n (fun j => va_rf ((f j).map (gk_a E)))) (.array .int) := (C.2.2.2.2.2.2.2.2.1.1.2 7 _ rfl).1 n (fun j => va_rf ((f j).map (gk_a E)))
  refine W.aald (v := va_rf ((f i.toNatClampNeg).map (gk_a E))) (ty := .array .int) C.1 C.2.1 hP hA rfl (fun q => by cases q) (by show ¬ (i < 0 ∨ (arrV _ _ _).slots.size ≤ _); rw [arrV_size]; exact hin) (by show (arrV _ _ _).slots[_]? = _; rw [arrV_read _ _ hlt]) rfl rfl hd ?_
  rw [ha]
  exact key
theorem gk_scr_len {E : gk_E} {M : gk_M} {d : gk_B} {pc : Nat} {lv : List (Nat × Value)} {st : List Value} {h : gk_H} {K : Option Value → gk_H → Prop} (hd : decode M.2.1 pc = .ok (.arraylength, 1)) (kk : gk_G E M d (pc + 1) lv (.int (nI (gk_scr E).2.1) :: st) h K) : gk_G E M d pc lv (.ref 1000000 :: st) h K := by
  intro p e R s m args below meth c Q MC MS H locs ls cells slots C Rt hW hS hl hc ht hz
  have key := kk p e R s m args below meth c Q MC MS H locs ls cells slots C Rt hW hS hl hc ht hz
  have hSw := C.2.2.2.2.2.2.2.2.1
  exact va_slen C.1 C.2.1 hSw.2.1 (Nat.lt_of_lt_of_le hSw.2.2.1 hSw.2.2.2.1) (Nat.not_le.mpr hSw.2.2.1) hS hd key
