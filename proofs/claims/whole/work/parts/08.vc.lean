/-! what a region asks for: loads, stores, calls, typed -/
def LdI (h : gk_H) (r ci k : Nat) (φ : Int32 → Prop) : Prop := ∃ (fs : List Value) (v : Int32), h[r]? = some (.inr (ci, fs)) ∧ fs[k]? = some (.int v) ∧ φ v
def LdL (h : gk_H) (r ci k : Nat) (φ : Int64 → Prop) : Prop := ∃ (fs : List Value) (v : Int64), h[r]? = some (.inr (ci, fs)) ∧ fs[k]? = some (.long v) ∧ φ v
def LdR (h : gk_H) (r ci k : Nat) (φ : Nat → Prop) : Prop := ∃ (fs : List Value) (v : Nat), h[r]? = some (.inr (ci, fs)) ∧ fs[k]? = some (.ref v) ∧ φ v
def StI (h : gk_H) (r ci k : Nat) (x : Int32) (φ : gk_H → Prop) : Prop := ∃ (fs : List Value), h[r]? = some (.inr (ci, fs)) ∧ k < fs.length ∧ φ (h.set r (.inr (ci, fs.set k (.int x))))
def StL (h : gk_H) (r ci k : Nat) (x : Int64) (φ : gk_H → Prop) : Prop := ∃ (fs : List Value), h[r]? = some (.inr (ci, fs)) ∧ k < fs.length ∧ φ (h.set r (.inr (ci, fs.set k (.long x))))
def StR (h : gk_H) (r ci k : Nat) (x : Nat) (φ : gk_H → Prop) : Prop := ∃ (fs : List Value), h[r]? = some (.inr (ci, fs)) ∧ k < fs.length ∧ φ (h.set r (.inr (ci, fs.set k (.ref x))))
/-- a boolean -/
def bz (x : Int32) : Prop := x = 0 ∨ x = 1
theorem bz_n {x : Int32} (h : bz x) : narrow .boolean (.int x) = .int x := by rcases h with rfl | rfl <;> rfl
theorem bz_f {x : Int32} (h : bz x) : fits .boolean (.int x) = true := by rcases h with rfl | rfl <;> rfl
def StZ (h : gk_H) (r ci k : Nat) (x : Int32) (φ : gk_H → Prop) : Prop := bz x ∧ ∃ (fs : List Value), h[r]? = some (.inr (ci, fs)) ∧ k < fs.length ∧ φ (h.set r (.inr (ci, fs.set k (.int x))))
def AlI (h : gk_H) (r : Nat) (i : Int32) (φ : Int32 → Prop) : Prop := ∃ (n : Nat) (f : Nat → Int32), h[r]? = some (.inl (0, n, .inl f)) ∧ vp_in i n ∧ φ (f i.toNatClampNeg)
def AlB (h : gk_H) (r : Nat) (i : Int32) (φ : Int32 → Prop) : Prop := ∃ (n : Nat) (f : Nat → Int32), h[r]? = some (.inl (2, n, .inl f)) ∧ vp_in i n ∧ φ (f i.toNatClampNeg)
def AlZ (h : gk_H) (r : Nat) (i : Int32) (φ : Int32 → Prop) : Prop := ∃ (n : Nat) (f : Nat → Int32), h[r]? = some (.inl (3, n, .inl f)) ∧ vp_in i n ∧ φ (f i.toNatClampNeg)
def AlC (h : gk_H) (r : Nat) (i : Int32) (φ : Int32 → Prop) : Prop := ∃ (n : Nat) (f : Nat → Int32), h[r]? = some (.inl (4, n, .inl f)) ∧ vp_in i n ∧ φ (f i.toNatClampNeg)
def AlL (h : gk_H) (r : Nat) (i : Int32) (φ : Int64 → Prop) : Prop := ∃ (n : Nat) (f : Nat → Int64), h[r]? = some (.inl (1, n, .inr (.inl f))) ∧ vp_in i n ∧ φ (f i.toNatClampNeg)
def AlR (t : Nat) (h : gk_H) (r : Nat) (i : Int32) (φ : Nat → Prop) : Prop := ∃ (n : Nat) (f : Nat → Option Nat) (a : Nat), h[r]? = some (.inl (t, n, .inr (.inr (.inr (.inr f))))) ∧ vp_in i n ∧ f i.toNatClampNeg = some a ∧ φ a
def AsI (h : gk_H) (r : Nat) (i x : Int32) (φ : gk_H → Prop) : Prop := ∃ (n : Nat) (f : Nat → Int32), h[r]? = some (.inl (0, n, .inl f)) ∧ vp_in i n ∧ φ (h.set r (.inl (0, n, .inl (upd f i.toNatClampNeg x))))
def AsB (h : gk_H) (r : Nat) (i x : Int32) (φ : gk_H → Prop) : Prop := ∃ (n : Nat) (f : Nat → Int32), h[r]? = some (.inl (2, n, .inl f)) ∧ vp_in i n ∧ φ (h.set r (.inl (2, n, .inl (upd f i.toNatClampNeg (vp_nar .byte x)))))
def AsZ (h : gk_H) (r : Nat) (i x : Int32) (φ : gk_H → Prop) : Prop := ∃ (n : Nat) (f : Nat → Int32), h[r]? = some (.inl (3, n, .inl f)) ∧ vp_in i n ∧ φ (h.set r (.inl (3, n, .inl (upd f i.toNatClampNeg (vp_nar .boolean x)))))
def AsC (h : gk_H) (r : Nat) (i x : Int32) (φ : gk_H → Prop) : Prop := ∃ (n : Nat) (f : Nat → Int32), h[r]? = some (.inl (4, n, .inl f)) ∧ vp_in i n ∧ φ (h.set r (.inl (4, n, .inl (upd f i.toNatClampNeg (vp_nar .char x)))))
def AsL (h : gk_H) (r : Nat) (i : Int32) (x : Int64) (φ : gk_H → Prop) : Prop := ∃ (n : Nat) (f : Nat → Int64), h[r]? = some (.inl (1, n, .inr (.inl f))) ∧ vp_in i n ∧ φ (h.set r (.inl (1, n, .inr (.inl (vp_updL f i.toNatClampNeg x)))))
def Len (h : gk_H) (r : Nat) (φ : Int32 → Prop) : Prop := ∃ (t : Nat) (x : vp_A) (v : Int32), h[r]? = some (.inl (t, x)) ∧ t < 8 ∧ Int32.ofNat x.1 = v ∧ φ v
def RnI (E : gk_E) (M : gk_M) (d : gk_B) (vs : List Value) (h : gk_H) (φ : Int32 → gk_H → Prop) : Prop := gk_Run E M d vs h (fun o h' => ∃ v, o = some (.int v) ∧ φ v h')
def RnL (E : gk_E) (M : gk_M) (d : gk_B) (vs : List Value) (h : gk_H) (φ : Int64 → gk_H → Prop) : Prop := gk_Run E M d vs h (fun o h' => ∃ v, o = some (.long v) ∧ φ v h')
def RnV (E : gk_E) (M : gk_M) (d : gk_B) (vs : List Value) (h : gk_H) (φ : gk_H → Prop) : Prop := gk_Run E M d vs h (fun o h' => o = none ∧ φ h')
theorem RnI.mono {E : gk_E} {M : gk_M} {d1 d2 : Nat} {vs : List Value} {h : gk_H} {φ : Int32 → gk_H → Prop} (hd : d1 ≤ d2) (k : RnI E M (d1, 0, 0) vs h φ) : RnI E M (d2, 0, 0) vs h φ := gk_Run.mono hd k
theorem RnL.mono {E : gk_E} {M : gk_M} {d1 d2 : Nat} {vs : List Value} {h : gk_H} {φ : Int64 → gk_H → Prop} (hd : d1 ≤ d2) (k : RnL E M (d1, 0, 0) vs h φ) : RnL E M (d2, 0, 0) vs h φ := gk_Run.mono hd k
theorem RnV.mono {E : gk_E} {M : gk_M} {d1 d2 : Nat} {vs : List Value} {h : gk_H} {φ : gk_H → Prop} (hd : d1 ≤ d2) (k : RnV E M (d1, 0, 0) vs h φ) : RnV E M (d2, 0, 0) vs h φ := gk_Run.mono hd k
section GKV
variable {E : gk_E} {M : gk_M} {pc : Nat} {lv : List (Nat × Value)} {st : List Value} {h : gk_H} {K : Option Value → gk_H → Prop}
theorem gk_vV {dd idx ci n r : Nat} {M' : gk_M} {fs : List Value} {st0 : List Value} (As rest : List Value) (hd : decode M.2.1 pc = .ok (.invokevirtual idx, 3)) (hw : gk_Cv M.1.cls idx M' ci n) (hr : h[r]? = some (.inr (ci, fs))) (hs : st0 = As.reverse ++ .ref r :: rest) (hn : As.length = n) (hm : (lg_sl (.ref r :: As)).length ≤ M'.2.2.1) (h8 : (rest.map fun v => v.category).sum ≤ 8)
    (k : gk_Run E M' (dd, 0, 0) (.ref r :: As) h (fun o h' => gk_G E M (dd + 1, 0, 0) (pc + 3) lv (o.toList ++ rest) h' K)) : gk_G E M (dd + 1, 0, 0) pc lv st0 h K := gk_callV (b1 := 0) (b2 := 0) (c1 := 0) (c2 := 0) As rest hd hw hr hs hn hm h8 k
theorem gk_vU {dd idx ci n r : Nat} {x : MethodName} {owner : String} {M' : gk_M} {fs : List Value} {st0 : List Value} (As rest : List Value) (hd : decode M.2.1 pc = .ok (.invokevirtual idx, 3)) (hw : gk_Cu M.1.cls idx x owner M' ci n) (hr : h[r]? = some (.inr (ci, fs))) (hs : st0 = As.reverse ++ .ref r :: rest) (hn : As.length = n) (hm : (lg_sl (.ref r :: As)).length ≤ M'.2.2.1) (h8 : (rest.map fun v => v.category).sum ≤ 8)
    (k : gk_Run E M' (dd, 0, 0) (.ref r :: As) h (fun o h' => gk_G E M (dd + 1, 0, 0) (pc + 3) lv (o.toList ++ rest) h' K)) : gk_G E M (dd + 1, 0, 0) pc lv st0 h K := gk_callU (b1 := 0) (b2 := 0) (c1 := 0) (c2 := 0) As rest hd hw hr hs hn hm h8 k
theorem gk_vS {dd idx n : Nat} {M' : gk_M} {st0 : List Value} (As rest : List Value) (hd : decode M.2.1 pc = .ok (.invokestatic idx, 3)) (hw : gk_Cs M.1.cls idx M' n) (hs : st0 = As.reverse ++ rest) (hn : As.length = n) (hm : (lg_sl As).length ≤ M'.2.2.1) (h8 : (rest.map fun v => v.category).sum ≤ 8)
    (k : gk_Run E M' (dd, 0, 0) As h (fun o h' => gk_G E M (dd + 1, 0, 0) (pc + 3) lv (o.toList ++ rest) h' K)) : gk_G E M (dd + 1, 0, 0) pc lv st0 h K := gk_callS (b1 := 0) (b2 := 0) (c1 := 0) (c2 := 0) As rest hd hw hs hn hm h8 k
theorem gk_max {dd idx : Nat} {x y : Int32} (hd : decode M.2.1 pc = .ok (.invokestatic idx, 3)) (w1 : Cond.methodLink M.1.cls idx Lib.Math.max.name ∈ gk_T) (w2 : Cond.static Lib.Math.max.name ∈ gk_T) (w3 : Cond.initialized "java/lang/Math" ∈ gk_T) (w4 : Cond.code Lib.Math.max.name Lib.Math.max.code 2 (some .int) ∈ gk_T) (h8 : (st.map fun v => v.category).sum ≤ 8)
    (k : gk_G E M (dd + 1, 0, 0) (pc + 3) lv (.int (if x < y then y else x) :: st) h K) : gk_G E M (dd + 1, 0, 0) pc lv (.int y :: .int x :: st) h K := by
  intro p e R s m args below meth c Q MC MS H locs ls cells slots C Rt hW hS hl hc ht hz
  have hts := C.2.2.2.2.2.2.1
  have hfr : dd + 1 ≤ R.frames := C.2.2.2.2.2.2.2.2.2.1
  have hlo : 64 * (dd + 1) ≤ R.locals := C.2.2.2.2.2.2.2.2.2.2.1
  have hRc : MC ≤ R.cells := C.2.2.2.2.2.2.2.2.2.2.2.1
  have hRs : MS ≤ R.slots := C.2.2.2.2.2.2.2.2.2.2.2.2
  have hc' : cells + 0 = MC := hc
  have ht' : slots + 0 = MS := ht
  exact va_mmax C.1 C.2.1 (C.2.2.1.trans hl.1.symm) C.2.2.2.2.2.2.2.1 (hts _ w1) (hts _ w2) (hts _ w3) (hts _ w4) (by omega) (by rw [gk_cats]; omega) (by omega) (by omega) hd (k p e R s m args below meth c Q MC MS H locs ls cells slots C Rt hW hS hl hc ht hz)
theorem gk_tsw {d : gk_B} {x : Int32} {dflt lo hi : Int} {offs : Array Int} {len n : Nat} (tgt : Nat → Nat) (td : Nat) (hd : decode M.2.1 pc = .ok (.tableswitch dflt lo hi offs, len)) (hn : (List.range n).all (fun k => decide (offs[k]? = some ((tgt k : Int) - (pc : Int)))) = true) (hlo : lo = 0) (hhi : hi + 1 = (n : Int)) (htd : (pc : Int) + dflt = (td : Int)) (hN : n < 2 ^ 31)
    (kt : ∀ k : Nat, k < n → x = nI k → gk_G E M d (tgt k) lv st h K) (kf : (∀ k : Nat, k < n → ¬ x = nI k) → gk_G E M d td lv st h K) : gk_G E M d pc lv (.int x :: st) h K := by
  intro p e R s m args below meth c Q MC MS H locs ls cells slots C Rt hW hS hl hc ht hz
  by_cases hin : x.toInt < lo ∨ hi < x.toInt
  · refine lv_tableOut C.1 C.2.1 hd hin htd (kf (fun k hk e0 => ?_) p e R s m args below meth c Q MC MS H locs ls cells slots C Rt hW hS hl hc ht hz)
    have := nI_toInt (n := k) (by omega)
    rw [e0] at hin
    omega
  · have h1 : ¬ x.toInt < lo := fun q => hin (Or.inl q)
    have h2 : ¬ hi < x.toInt := fun q => hin (Or.inr q)
    obtain ⟨k, hk⟩ : ∃ k : Nat, x.toInt = (k : Int) := ⟨x.toInt.toNat, by omega⟩
    have hkn : k < n := by omega
    have hx : x = nI k := by
      apply Int32.toInt_inj.mp
      rw [nI_toInt (by omega)]
      exact hk
    have h3 := of_decide_eq_true (List.all_eq_true.mp hn k (List.mem_range.mpr hkn))
    refine lv_tableIn (tgt := tgt k) C.1 C.2.1 hd h1 h2 (by rw [hk, hlo, show ((k : Int) - 0).toNat = k by omega]; exact h3) (by omega) (kt k hkn hx p e R s m args below meth c Q MC MS H locs ls cells slots C Rt hW hS hl hc ht hz)
end GKV
theorem fWX10_9 {ci : Nat} (hci : ci = 4 ∨ ci = 5 ∨ ci = 6) : gk_Fg RX10 9 ci 0 := by
  rcases hci with rfl | rfl | rfl
  · exact fX10_9_4
  · exact fX10_9_5
  · exact fX10_9_6
theorem fWX10_15 {ci : Nat} (hci : ci = 4 ∨ ci = 5 ∨ ci = 6) : gk_Fg RX10 15 ci 1 := by
  rcases hci with rfl | rfl | rfl
  · exact fX10_15_4
  · exact fX10_15_5
  · exact fX10_15_6
theorem fWX10_19 {ci : Nat} (hci : ci = 4 ∨ ci = 5 ∨ ci = 6) : gk_Fg RX10 19 ci 2 := by
  rcases hci with rfl | rfl | rfl
  · exact fX10_19_4
  · exact fX10_19_5
  · exact fX10_19_6
theorem fWX10_22 {ci : Nat} (hci : ci = 4 ∨ ci = 5 ∨ ci = 6) : gk_Fg RX10 22 ci 3 := by
  rcases hci with rfl | rfl | rfl
  · exact fX10_22_4
  · exact fX10_22_5
  · exact fX10_22_6
theorem fWX10_9w {ci : Nat} (hci : ci = 4 ∨ ci = 5 ∨ ci = 6) : gk_Fl RX10 9 ci 0 .int false := by
  rcases hci with rfl | rfl | rfl
  · exact fX10_9_4w
  · exact fX10_9_5w
  · exact fX10_9_6w
theorem cW25 {ci : Nat} (hci : ci = 4 ∨ ci = 5 ∨ ci = 6) : gk_Cu RX10 25 yX10_settle RX10 mX10_settle ci 1 := by
  rcases hci with rfl | rfl | rfl
  · exact cuX10_25_4
  · exact cuX10_25_5
  · exact cuX10_25_6
theorem cW29 {ci : Nat} (hci : ci = 4 ∨ ci = 5 ∨ ci = 6) : gk_Cu RX10 29 yX10_turn RX10 mX10_turn ci 1 := by
  rcases hci with rfl | rfl | rfl
  · exact cuX10_29_4
  · exact cuX10_29_5
  · exact cuX10_29_6
theorem gk_topi {E : gk_E} {M : gk_M} {d : gk_B} {pc : Nat} {lv : List (Nat × Value)} {st : List Value} {h : gk_H} {K : Option Value → gk_H → Prop} {x : Int32} (k : ∀ y : Int32, y = x → gk_G E M d pc lv (.int y :: st) h K) : gk_G E M d pc lv (.int x :: st) h K := k x rfl
theorem gk_topl {E : gk_E} {M : gk_M} {d : gk_B} {pc : Nat} {lv : List (Nat × Value)} {st : List Value} {h : gk_H} {K : Option Value → gk_H → Prop} {x : Int64} (k : ∀ y : Int64, y = x → gk_G E M d pc lv (.long y :: st) h K) : gk_G E M d pc lv (.long x :: st) h K := k x rfl
theorem gk_ldc_w {E : gk_E} {M : gk_M} {d : gk_B} {pc : Nat} {lv : List (Nat × Value)} {st : List Value} {h : gk_H} {K : Option Value → gk_H → Prop} {i : Nat} (v : Int32) (hd : decode M.2.1 pc = .ok (.ldc_w i, 3)) (hw : Cond.constant M.1.cls i v ∈ gk_T) (k : gk_G E M d (pc + 3) lv (.int v :: st) h K) : gk_G E M d pc lv st h K := by
  intro p e R s m args below meth c Q MC MS H locs ls cells slots C Rt hW hS hl hc ht hz
  exact lv_ldcw C.1 C.2.1 C.2.2.2.2.2.2.2.1 (C.2.2.2.2.2.2.1 _ hw) hd (k p e R s m args below meth c Q MC MS H locs ls cells slots C Rt hW hS hl hc ht hz)
/-- lookupswitch with the keys 0 and 1 -/
theorem gk_lsw {E : gk_E} {M : gk_M} {d : gk_B} {pc : Nat} {lv : List (Nat × Value)} {st : List Value} {h : gk_H} {K : Option Value → gk_H → Prop} {x : Int32} {dflt o0 o1 : Int} {len : Nat} (t0 t1 td : Nat) (hd : decode M.2.1 pc = .ok (.lookupswitch dflt #[(0, o0), (1, o1)], len)) (h0 : (pc : Int) + o0 = (t0 : Int)) (h1 : (pc : Int) + o1 = (t1 : Int)) (h2 : (pc : Int) + dflt = (td : Int))
    (k0 : x = nI 0 → gk_G E M d t0 lv st h K) (k1 : x = nI 1 → gk_G E M d t1 lv st h K) (kd : ¬ x = nI 0 → ¬ x = nI 1 → gk_G E M d td lv st h K) : gk_G E M d pc lv (.int x :: st) h K := by
  intro p e R s m args below meth c Q MC MS H locs ls cells slots C Rt hW hS hl hc ht hz
  by_cases c0 : x = nI 0
  · exact lv_lookup (tgt := t0) C.1 C.2.1 hd rfl (by rw [c0]; rfl) h0 (k0 c0 p e R s m args below meth c Q MC MS H locs ls cells slots C Rt hW hS hl hc ht hz)
  · by_cases c1 : x = nI 1
    · exact lv_lookup (tgt := t1) C.1 C.2.1 hd rfl (by rw [c1]; rfl) h1 (k1 c1 p e R s m args below meth c Q MC MS H locs ls cells slots C Rt hW hS hl hc ht hz)
    · have e0 : ¬ x.toInt = 0 := fun q => c0 (Int32.toInt_inj.mp (by rw [q]; rfl))
      have e1 : ¬ x.toInt = 1 := fun q => c1 (Int32.toInt_inj.mp (by rw [q]; rfl))
      exact lv_lookup (tgt := td) C.1 C.2.1 hd rfl (by simp [Op.lookupswitch.offset, e0, e1, Ne.symm e0, Ne.symm e1, eq_comm]) h2 (kd c0 c1 p e R s m args below meth c Q MC MS H locs ls cells slots C Rt hW hS hl hc ht hz)
