/-! a constructor's heap: the old cells with the object r as it stands, the new cells behind -/
def HA (h : gk_H) (r : Nat) (x : gk_X) (l : gk_H) : gk_H := h.set r x ++ l
section HAs
variable {h l l2 : gk_H} {r n j q : Nat} {x y : gk_X}
theorem HA_r (hr : r < h.length) : (HA h r x l)[r]? = some x := by
  rw [HA, List.getElem?_append_left (by rw [List.length_set]; exact hr), List.getElem?_set_self hr]
theorem HA_n (hn : h.length = n) (hj : l[j]? = some y) : (HA h r x l)[n + j]? = some y := by
  rw [HA, List.getElem?_append_right (by rw [List.length_set]; omega), List.length_set, hn, Nat.add_sub_cancel_left]
  exact hj
theorem HA_o (hq : q ≠ r) (hy : h[q]? = some y) : (HA h r x l)[q]? = some y := by
  have hl : q < h.length := (List.getElem?_eq_some_iff.mp hy).1
  rw [HA, List.getElem?_append_left (by rw [List.length_set]; exact hl), List.getElem?_set_ne (fun e => hq e.symm)]
  exact hy
theorem HA_sr (hr : r < h.length) : (HA h r x l).set r y = HA h r y l := by
  rw [HA, List.set_append_left _ _ (by rw [List.length_set]; exact hr), List.set_set]
  rfl
theorem HA_sn (hn : h.length = n) : (HA h r x l).set (n + j) y = HA h r x (l.set j y) := by
  rw [HA, List.set_append_right _ _ (by rw [List.length_set]; omega), List.length_set, hn, Nat.add_sub_cancel_left]
  rfl
theorem HA_app : HA h r x l ++ l2 = HA h r x (l ++ l2) := by rw [HA, HA, List.append_assoc]
theorem HA_len (hn : h.length = n) : (HA h r x l).length = n + l.length := by rw [HA, List.length_append, List.length_set, hn]
theorem HA_HA (hn : h.length = n) {l3 : gk_H} (hl : l.set j y ++ l2 = l3) : HA (HA h r x l) (n + j) y l2 = HA h r x l3 := by
  rw [HA, HA_sn hn, HA_app, hl]
theorem HA_self (hr : r < h.length) {l3 : gk_H} (hl : l ++ l2 = l3) : HA (HA h r x l) r y l2 = HA h r y l3 := by
  rw [HA, HA_sr hr, HA_app, hl]
theorem HA_0 (hx : h[r]? = some x) : HA h r x [] = h := by
  rw [HA, List.append_nil]
  apply List.ext_getElem?
  intro i
  by_cases hi : i = r
  · subst hi
    rw [List.getElem?_set_self (List.getElem?_eq_some_iff.mp hx).1, hx]
  · rw [List.getElem?_set_ne (fun e => hi e.symm)]
end HAs
section HAr
variable {E : gk_E} {M : gk_M} {d : gk_B} {pc : Nat} {lv : List (Nat × Value)} {st : List Value} {K : Option Value → gk_H → Prop} {h l l' : gk_H} {r n j : Nat} {x : gk_X}
theorem ha_put {idx ci k : Nat} {ty : FieldType} {fs fs' : List Value} {v : Value} (hr : r < h.length) (hd : decode M.2.1 pc = .ok (.putfield idx, 3)) (hf : gk_Fl M.1.cls idx ci k ty false) (hlen : k < fs.length) (hn : narrow ty v = v) (hfit : fits ty v = true) (hfs : fs.set k v = fs') (kk : gk_G E M d (pc + 3) lv st (HA h r (.inr (ci, fs')) l) K) : gk_G E M d pc lv (v :: .ref r :: st) (HA h r (.inr (ci, fs)) l) K := by
  subst hfs
  refine gk_put hd hf (HA_r hr) hlen hn hfit ?_
  rw [HA_sr hr]
  exact kk
theorem ha_putF {idx ci k : Nat} {ty : FieldType} {fs fs' : List Value} {v : Value} (hr : r < h.length) (hd : decode M.2.1 pc = .ok (.putfield idx, 3)) (hm : M.1.name = "<init>") (hf : gk_Fl M.1.cls idx ci k ty true) (hlen : k < fs.length) (hn : narrow ty v = v) (hfit : fits ty v = true) (hfs : fs.set k v = fs') (kk : gk_G E M d (pc + 3) lv st (HA h r (.inr (ci, fs')) l) K) : gk_G E M d pc lv (v :: .ref r :: st) (HA h r (.inr (ci, fs)) l) K := by
  subst hfs
  refine gk_putF hd hm hf (HA_r hr) hlen hn hfit ?_
  rw [HA_sr hr]
  exact kk
theorem ha_newO {d1 b1 b2 idx ci N q : Nat} {fs : List Value} (hn : h.length = n) (hd : decode M.2.1 pc = .ok (.new idx, 3)) (hw : gk_Nw M.1.cls idx ci N fs) (hq : n + l.length = q) (h9 : q < 900000) (hl : l ++ [.inr (ci, fs)] = l') (kk : gk_G E M (d1, b1, b2) (pc + 3) lv (.ref q :: st) (HA h r x l') K) : gk_G E M (d1, b1 + 1, b2 + N) pc lv st (HA h r x l) K := by
  subst hl; subst hq
  refine gk_newO hd hw (by rw [HA_len hn]; exact h9) ?_
  rw [HA_len hn, HA_app]
  exact kk
theorem ha_newI {d1 b1 b2 q m : Nat} (hn : h.length = n) (hd : decode M.2.1 pc = .ok (.newarray .int, 2)) (hw : Cond.arrayClass .int ∈ gk_T) (hm : m ≤ 1000) (hq : n + l.length = q) (h9 : q < 900000) (hl : l ++ [.inl (0, m, .inl fun _ => 0)] = l') (kk : gk_G E M (d1, b1, b2) (pc + 2) lv (.ref q :: st) (HA h r x l') K) : gk_G E M (d1, b1 + 1, b2 + m) pc lv (.int (nI m) :: st) (HA h r x l) K := by
  subst hl; subst hq
  refine gk_newI hd hw hm (by rw [HA_len hn]; exact h9) ?_
  rw [HA_len hn, HA_app]
  exact kk
theorem ha_newL {d1 b1 b2 q m : Nat} (hn : h.length = n) (hd : decode M.2.1 pc = .ok (.newarray .long, 2)) (hw : Cond.arrayClass .long ∈ gk_T) (hm : m ≤ 1000) (hq : n + l.length = q) (h9 : q < 900000) (hl : l ++ [.inl (1, m, .inr (.inl fun _ => 0))] = l') (kk : gk_G E M (d1, b1, b2) (pc + 2) lv (.ref q :: st) (HA h r x l') K) : gk_G E M (d1, b1 + 1, b2 + m) pc lv (.int (nI m) :: st) (HA h r x l) K := by
  subst hl; subst hq
  refine gk_newL hd hw hm (by rw [HA_len hn]; exact h9) ?_
  rw [HA_len hn, HA_app]
  exact kk
theorem ha_newB {d1 b1 b2 q m : Nat} (hn : h.length = n) (hd : decode M.2.1 pc = .ok (.newarray .byte, 2)) (hw : Cond.arrayClass .byte ∈ gk_T) (hm : m ≤ 1000) (hq : n + l.length = q) (h9 : q < 900000) (hl : l ++ [.inl (2, m, .inl fun _ => 0)] = l') (kk : gk_G E M (d1, b1, b2) (pc + 2) lv (.ref q :: st) (HA h r x l') K) : gk_G E M (d1, b1 + 1, b2 + m) pc lv (.int (nI m) :: st) (HA h r x l) K := by
  subst hl; subst hq
  refine gk_newB hd hw hm (by rw [HA_len hn]; exact h9) ?_
  rw [HA_len hn, HA_app]
  exact kk
theorem ha_newZ {d1 b1 b2 q m : Nat} (hn : h.length = n) (hd : decode M.2.1 pc = .ok (.newarray .boolean, 2)) (hw : Cond.arrayClass .boolean ∈ gk_T) (hm : m ≤ 1000) (hq : n + l.length = q) (h9 : q < 900000) (hl : l ++ [.inl (3, m, .inl fun _ => 0)] = l') (kk : gk_G E M (d1, b1, b2) (pc + 2) lv (.ref q :: st) (HA h r x l') K) : gk_G E M (d1, b1 + 1, b2 + m) pc lv (.int (nI m) :: st) (HA h r x l) K := by
  subst hl; subst hq
  refine gk_newZ hd hw hm (by rw [HA_len hn]; exact h9) ?_
  rw [HA_len hn, HA_app]
  exact kk
theorem ha_newC {d1 b1 b2 q m : Nat} (hn : h.length = n) (hd : decode M.2.1 pc = .ok (.newarray .char, 2)) (hw : Cond.arrayClass .char ∈ gk_T) (hm : m ≤ 1000) (hq : n + l.length = q) (h9 : q < 900000) (hl : l ++ [.inl (4, m, .inl fun _ => 0)] = l') (kk : gk_G E M (d1, b1, b2) (pc + 2) lv (.ref q :: st) (HA h r x l') K) : gk_G E M (d1, b1 + 1, b2 + m) pc lv (.int (nI m) :: st) (HA h r x l) K := by
  subst hl; subst hq
  refine gk_newC hd hw hm (by rw [HA_len hn]; exact h9) ?_
  rw [HA_len hn, HA_app]
  exact kk
theorem ha_newQ {d1 b1 b2 t q m idx : Nat} {Cn : String} (hn : h.length = n) (hd : decode M.2.1 pc = .ok (.anewarray idx, 3)) (w1 : Cond.classLink M.1.cls idx Cn ∈ gk_T) (w2 : ∀ U : State, gk_S E U → va_AO Cn U) (hty : (gk_tys E)[t]? = some (gk_cy E t, .object Cn)) (hm : m ≤ 1000) (hq : n + l.length = q) (h9 : q < 900000) (hl : l ++ [.inl (t, m, .inr (.inr (.inr (.inr fun _ => none))))] = l') (kk : gk_G E M (d1, b1, b2) (pc + 3) lv (.ref q :: st) (HA h r x l') K) : gk_G E M (d1, b1 + 1, b2 + m) pc lv (.int (nI m) :: st) (HA h r x l) K := by
  subst hl; subst hq
  refine gk_newQ hd w1 w2 hty hm (by rw [HA_len hn]; exact h9) ?_
  rw [HA_len hn, HA_app]
  exact kk
theorem ha_newM {d1 b1 b2 q idx : Nat} (hn : h.length = n) (hd : decode M.2.1 pc = .ok (.multianewarray idx 2, 4)) (w1 : Cond.classLink M.1.cls idx "[[I" ∈ gk_T) (w3 : Cond.arrayClass .int ∈ gk_T) (hq : n + l.length = q) (h9 : q + 2 < 900000) (hl : l ++ [.inl (7, 2, .inr (.inr (.inr (.inr (rl2 (q + 1) (q + 2)))))), .inl (0, 36, .inl fun _ => 0), .inl (0, 36, .inl fun _ => 0)] = l') (kk : gk_G E M (d1, b1, b2) (pc + 4) lv (.ref q :: st) (HA h r x l') K) : gk_G E M (d1, b1 + 3, b2 + 74) pc lv (.int (nI 36) :: .int (nI 2) :: st) (HA h r x l) K := by
  subst hl; subst hq
  refine gk_newM hd w1 w3 (by rw [HA_len hn]; exact h9) ?_
  rw [HA_len hn, HA_app]
  exact kk
theorem ha_aast {t ci N m v i : Nat} {Cn : String} {T : u_T} {fs : List Value} {f : Nat → Option Nat} (hn : h.length = n) (hd : decode M.2.1 pc = .ok (.aastore, 1)) (hty : (gk_tys E)[t]? = some (gk_cy E t, .object Cn)) (hcl : vwCl[ci]? = some (Cn, T, N)) (hj : l[j]? = some (.inl (t, m, .inr (.inr (.inr (.inr f)))))) (hv : (HA h r x l)[v]? = some (.inr (ci, fs))) (hi : i < m) (hm : m ≤ 1000) (hl : l.set j (.inl (t, m, .inr (.inr (.inr (.inr (va_up f i (some v))))))) = l') (kk : gk_G E M d (pc + 1) lv st (HA h r x l') K) : gk_G E M d pc lv (.ref v :: .int (nI i) :: .ref (n + j) :: st) (HA h r x l) K := by
  subst hl
  refine gk_aast hd hty hcl (HA_n hn hj) hv (vp_in_nI hi (by omega)) ?_
  rw [HA_sn hn, nI_clamp (by omega)]
  exact kk
theorem ha_iast {m i : Nat} {f : Nat → Int32} {v : Int32} (hn : h.length = n) (hd : decode M.2.1 pc = .ok (.iastore, 1)) (hj : l[j]? = some (.inl (0, m, .inl f))) (hi : i < m) (hm : m ≤ 1000) (hl : l.set j (.inl (0, m, .inl (upd f i v))) = l') (kk : gk_G E M d (pc + 1) lv st (HA h r x l') K) : gk_G E M d pc lv (.int v :: .int (nI i) :: .ref (n + j) :: st) (HA h r x l) K := by
  subst hl
  refine gk_iast hd (HA_n hn hj) (vp_in_nI hi (by omega)) ?_
  rw [HA_sn hn, nI_clamp (by omega)]
  exact kk
theorem ha_cast {m i : Nat} {f : Nat → Int32} {v : Int32} (hn : h.length = n) (hd : decode M.2.1 pc = .ok (.castore, 1)) (hj : l[j]? = some (.inl (4, m, .inl f))) (hi : i < m) (hm : m ≤ 1000) (hl : l.set j (.inl (4, m, .inl (upd f i (vp_nar .char v)))) = l') (kk : gk_G E M d (pc + 1) lv st (HA h r x l') K) : gk_G E M d pc lv (.int v :: .int (nI i) :: .ref (n + j) :: st) (HA h r x l) K := by
  subst hl
  refine gk_cast hd (HA_n hn hj) (vp_in_nI hi (by omega)) ?_
  rw [HA_sn hn, nI_clamp (by omega)]
  exact kk
/-- a constructor is called -/
theorem ha_init {d1 b1 b2 c1 c2 idx nA r0 : Nat} {h0 : gk_H} {M' : gk_M} {st0 : List Value} (As rest : List Value) (hd : decode M.2.1 pc = .ok (.invokespecial idx, 3)) (hw : gk_Ci M.1.cls idx M' nA) (hs : st0 = As.reverse ++ .ref r0 :: rest) (hn : As.length = nA) (hm : (lg_sl (.ref r0 :: As)).length ≤ M'.2.2.1) (h8 : (rest.map fun v => v.category).sum ≤ 8)
    (k : RnV E M' (d1, c1, c2) (.ref r0 :: As) h0 (fun h' => gk_G E M (d1 + 1, b1, b2) (pc + 3) lv rest h' K)) : gk_G E M (d1 + 1, b1 + c1, b2 + c2) pc lv st0 h0 K := gk_callI As rest hd hw hs hn hm h8 (gk_Run.post (fun o h' z => by
  obtain ⟨rfl, hv⟩ := z
  exact hv) k)
theorem ha_StI {ci k : Nat} {fs : List Value} {v : Int32} {φ : gk_H → Prop} (hr : r < h.length) (hk : k < fs.length) (p : φ (HA h r (.inr (ci, fs.set k (.int v))) l)) : StI (HA h r (.inr (ci, fs)) l) r ci k v φ := ⟨_, HA_r hr, hk, by rw [HA_sr hr]; exact p⟩
theorem ha_StL {ci k : Nat} {fs : List Value} {v : Int64} {φ : gk_H → Prop} (hr : r < h.length) (hk : k < fs.length) (p : φ (HA h r (.inr (ci, fs.set k (.long v))) l)) : StL (HA h r (.inr (ci, fs)) l) r ci k v φ := ⟨_, HA_r hr, hk, by rw [HA_sr hr]; exact p⟩
theorem ha_LdI {ci k : Nat} {fs : List Value} {v : Int32} {φ : Int32 → Prop} (hr : r < h.length) (hk : fs[k]? = some (.int v)) (p : φ v) : LdI (HA h r (.inr (ci, fs)) l) r ci k φ := ⟨_, _, HA_r hr, hk, p⟩
theorem ha_LdL {ci k : Nat} {fs : List Value} {v : Int64} {φ : Int64 → Prop} (hr : r < h.length) (hk : fs[k]? = some (.long v)) (p : φ v) : LdL (HA h r (.inr (ci, fs)) l) r ci k φ := ⟨_, _, HA_r hr, hk, p⟩
theorem ha_LdR {ci k : Nat} {fs : List Value} {v : Nat} {φ : Nat → Prop} (hr : r < h.length) (hk : fs[k]? = some (.ref v)) (p : φ v) : LdR (HA h r (.inr (ci, fs)) l) r ci k φ := ⟨_, _, HA_r hr, hk, p⟩
theorem ha_AsI {m i : Nat} {f : Nat → Int32} {v : Int32} {φ : gk_H → Prop} (hn : h.length = n) (hj : l[j]? = some (.inl (0, m, .inl f))) (hi : i < m) (hm : m ≤ 1000) (p : φ (HA h r x (l.set j (.inl (0, m, .inl (upd f i v)))))) : AsI (HA h r x l) (n + j) (nI i) v φ := ⟨_, _, HA_n hn hj, vp_in_nI hi (by omega), by rw [HA_sn hn, nI_clamp (by omega)]; exact p⟩
theorem ha_AlI {m i : Nat} {f : Nat → Int32} {φ : Int32 → Prop} (hn : h.length = n) (hj : l[j]? = some (.inl (0, m, .inl f))) (hi : i < m) (hm : m ≤ 1000) (p : φ (f i)) : AlI (HA h r x l) (n + j) (nI i) φ := ⟨_, _, HA_n hn hj, vp_in_nI hi (by omega), by rw [nI_clamp (by omega)]; exact p⟩
end HAr
