theorem gk_iadd {E : gk_E} {M : gk_M} {d : gk_B} {pc : Nat} {lv : List (Nat × Value)} {st : List Value} {h : gk_H} {K : Option Value → gk_H → Prop} {x y : Int32} (hd : decode M.2.1 pc = .ok (.iadd, 1)) (k : gk_G E M d (pc + 1) lv (.int (x + y) :: st) h K) : gk_G E M d (pc) lv (.int y :: .int x :: st) h K := by
  intro p e R s m args below meth c Q MC MS H locs ls cells slots C Rt hW hS hl hc ht hz
  exact lv_iadd C.1 C.2.1 hd (k p e R s m args below meth c Q MC MS H locs ls cells slots C Rt hW hS hl hc ht hz)
theorem gk_isub {E : gk_E} {M : gk_M} {d : gk_B} {pc : Nat} {lv : List (Nat × Value)} {st : List Value} {h : gk_H} {K : Option Value → gk_H → Prop} {x y : Int32} (hd : decode M.2.1 pc = .ok (.isub, 1)) (k : gk_G E M d (pc + 1) lv (.int (x - y) :: st) h K) : gk_G E M d (pc) lv (.int y :: .int x :: st) h K := by
  intro p e R s m args below meth c Q MC MS H locs ls cells slots C Rt hW hS hl hc ht hz
  exact lv_isub C.1 C.2.1 hd (k p e R s m args below meth c Q MC MS H locs ls cells slots C Rt hW hS hl hc ht hz)
theorem gk_imul {E : gk_E} {M : gk_M} {d : gk_B} {pc : Nat} {lv : List (Nat × Value)} {st : List Value} {h : gk_H} {K : Option Value → gk_H → Prop} {x y : Int32} (hd : decode M.2.1 pc = .ok (.imul, 1)) (k : gk_G E M d (pc + 1) lv (.int (x * y) :: st) h K) : gk_G E M d (pc) lv (.int y :: .int x :: st) h K := by
  intro p e R s m args below meth c Q MC MS H locs ls cells slots C Rt hW hS hl hc ht hz
  exact lv_imul C.1 C.2.1 hd (k p e R s m args below meth c Q MC MS H locs ls cells slots C Rt hW hS hl hc ht hz)
theorem gk_iand {E : gk_E} {M : gk_M} {d : gk_B} {pc : Nat} {lv : List (Nat × Value)} {st : List Value} {h : gk_H} {K : Option Value → gk_H → Prop} {x y : Int32} (hd : decode M.2.1 pc = .ok (.iand, 1)) (k : gk_G E M d (pc + 1) lv (.int (x &&& y) :: st) h K) : gk_G E M d (pc) lv (.int y :: .int x :: st) h K := by
  intro p e R s m args below meth c Q MC MS H locs ls cells slots C Rt hW hS hl hc ht hz
  exact lv_iand C.1 C.2.1 hd (k p e R s m args below meth c Q MC MS H locs ls cells slots C Rt hW hS hl hc ht hz)
theorem gk_ior {E : gk_E} {M : gk_M} {d : gk_B} {pc : Nat} {lv : List (Nat × Value)} {st : List Value} {h : gk_H} {K : Option Value → gk_H → Prop} {x y : Int32} (hd : decode M.2.1 pc = .ok (.ior, 1)) (k : gk_G E M d (pc + 1) lv (.int (x ||| y) :: st) h K) : gk_G E M d (pc) lv (.int y :: .int x :: st) h K := by
  intro p e R s m args below meth c Q MC MS H locs ls cells slots C Rt hW hS hl hc ht hz
  exact lv_ior C.1 C.2.1 hd (k p e R s m args below meth c Q MC MS H locs ls cells slots C Rt hW hS hl hc ht hz)
theorem gk_ixor {E : gk_E} {M : gk_M} {d : gk_B} {pc : Nat} {lv : List (Nat × Value)} {st : List Value} {h : gk_H} {K : Option Value → gk_H → Prop} {x y : Int32} (hd : decode M.2.1 pc = .ok (.ixor, 1)) (k : gk_G E M d (pc + 1) lv (.int (x ^^^ y) :: st) h K) : gk_G E M d (pc) lv (.int y :: .int x :: st) h K := by
  intro p e R s m args below meth c Q MC MS H locs ls cells slots C Rt hW hS hl hc ht hz
  exact lv_ixor C.1 C.2.1 hd (k p e R s m args below meth c Q MC MS H locs ls cells slots C Rt hW hS hl hc ht hz)
theorem gk_ishl {E : gk_E} {M : gk_M} {d : gk_B} {pc : Nat} {lv : List (Nat × Value)} {st : List Value} {h : gk_H} {K : Option Value → gk_H → Prop} {x y : Int32} (hd : decode M.2.1 pc = .ok (.ishl, 1)) (k : gk_G E M d (pc + 1) lv (.int (x <<< (y &&& 31)) :: st) h K) : gk_G E M d (pc) lv (.int y :: .int x :: st) h K := by
  intro p e R s m args below meth c Q MC MS H locs ls cells slots C Rt hW hS hl hc ht hz
  exact lv_ishl C.1 C.2.1 hd (k p e R s m args below meth c Q MC MS H locs ls cells slots C Rt hW hS hl hc ht hz)
theorem gk_ishr {E : gk_E} {M : gk_M} {d : gk_B} {pc : Nat} {lv : List (Nat × Value)} {st : List Value} {h : gk_H} {K : Option Value → gk_H → Prop} {x y : Int32} (hd : decode M.2.1 pc = .ok (.ishr, 1)) (k : gk_G E M d (pc + 1) lv (.int (x >>> (y &&& 31)) :: st) h K) : gk_G E M d (pc) lv (.int y :: .int x :: st) h K := by
  intro p e R s m args below meth c Q MC MS H locs ls cells slots C Rt hW hS hl hc ht hz
  exact lv_ishr C.1 C.2.1 hd (k p e R s m args below meth c Q MC MS H locs ls cells slots C Rt hW hS hl hc ht hz)
theorem gk_iushr {E : gk_E} {M : gk_M} {d : gk_B} {pc : Nat} {lv : List (Nat × Value)} {st : List Value} {h : gk_H} {K : Option Value → gk_H → Prop} {x y : Int32} (hd : decode M.2.1 pc = .ok (.iushr, 1)) (k : gk_G E M d (pc + 1) lv (.int ((x.toUInt32 >>> (y.toUInt32 &&& Int32.toUInt32 31)).toInt32) :: st) h K) : gk_G E M d (pc) lv (.int y :: .int x :: st) h K := by
  intro p e R s m args below meth c Q MC MS H locs ls cells slots C Rt hW hS hl hc ht hz
  exact lv_iushr C.1 C.2.1 hd rfl (k p e R s m args below meth c Q MC MS H locs ls cells slots C Rt hW hS hl hc ht hz)
theorem gk_idiv {E : gk_E} {M : gk_M} {d : gk_B} {pc : Nat} {lv : List (Nat × Value)} {st : List Value} {h : gk_H} {K : Option Value → gk_H → Prop} {x y : Int32} (hd : decode M.2.1 pc = .ok (.idiv, 1)) (hy : ¬ y = 0) (k : gk_G E M d (pc + 1) lv (.int (x / y) :: st) h K) : gk_G E M d (pc) lv (.int y :: .int x :: st) h K := by
  intro p e R s m args below meth c Q MC MS H locs ls cells slots C Rt hW hS hl hc ht hz
  exact lv_idiv C.1 C.2.1 hd hy (k p e R s m args below meth c Q MC MS H locs ls cells slots C Rt hW hS hl hc ht hz)
theorem gk_irem {E : gk_E} {M : gk_M} {d : gk_B} {pc : Nat} {lv : List (Nat × Value)} {st : List Value} {h : gk_H} {K : Option Value → gk_H → Prop} {x y : Int32} (hd : decode M.2.1 pc = .ok (.irem, 1)) (hy : ¬ y = 0) (k : gk_G E M d (pc + 1) lv (.int (x - x / y * y) :: st) h K) : gk_G E M d (pc) lv (.int y :: .int x :: st) h K := by
  intro p e R s m args below meth c Q MC MS H locs ls cells slots C Rt hW hS hl hc ht hz
  exact lv_irem C.1 C.2.1 hd hy (k p e R s m args below meth c Q MC MS H locs ls cells slots C Rt hW hS hl hc ht hz)
theorem gk_ineg {E : gk_E} {M : gk_M} {d : gk_B} {pc : Nat} {lv : List (Nat × Value)} {st : List Value} {h : gk_H} {K : Option Value → gk_H → Prop} {x : Int32} (hd : decode M.2.1 pc = .ok (.ineg, 1)) (k : gk_G E M d (pc + 1) lv (.int (-x) :: st) h K) : gk_G E M d (pc) lv (.int x :: st) h K := by
  intro p e R s m args below meth c Q MC MS H locs ls cells slots C Rt hW hS hl hc ht hz
  exact lv_ineg C.1 C.2.1 hd (k p e R s m args below meth c Q MC MS H locs ls cells slots C Rt hW hS hl hc ht hz)
theorem gk_ladd {E : gk_E} {M : gk_M} {d : gk_B} {pc : Nat} {lv : List (Nat × Value)} {st : List Value} {h : gk_H} {K : Option Value → gk_H → Prop} {x y : Int64} (hd : decode M.2.1 pc = .ok (.ladd, 1)) (k : gk_G E M d (pc + 1) lv (.long (x + y) :: st) h K) : gk_G E M d (pc) lv (.long y :: .long x :: st) h K := by
  intro p e R s m args below meth c Q MC MS H locs ls cells slots C Rt hW hS hl hc ht hz
  exact lv_ladd C.1 C.2.1 hd (k p e R s m args below meth c Q MC MS H locs ls cells slots C Rt hW hS hl hc ht hz)
theorem gk_lsub {E : gk_E} {M : gk_M} {d : gk_B} {pc : Nat} {lv : List (Nat × Value)} {st : List Value} {h : gk_H} {K : Option Value → gk_H → Prop} {x y : Int64} (hd : decode M.2.1 pc = .ok (.lsub, 1)) (k : gk_G E M d (pc + 1) lv (.long (x - y) :: st) h K) : gk_G E M d (pc) lv (.long y :: .long x :: st) h K := by
  intro p e R s m args below meth c Q MC MS H locs ls cells slots C Rt hW hS hl hc ht hz
  exact lv_lsub C.1 C.2.1 hd (k p e R s m args below meth c Q MC MS H locs ls cells slots C Rt hW hS hl hc ht hz)
theorem gk_land {E : gk_E} {M : gk_M} {d : gk_B} {pc : Nat} {lv : List (Nat × Value)} {st : List Value} {h : gk_H} {K : Option Value → gk_H → Prop} {x y : Int64} (hd : decode M.2.1 pc = .ok (.land, 1)) (k : gk_G E M d (pc + 1) lv (.long (x &&& y) :: st) h K) : gk_G E M d (pc) lv (.long y :: .long x :: st) h K := by
  intro p e R s m args below meth c Q MC MS H locs ls cells slots C Rt hW hS hl hc ht hz
  exact lv_land C.1 C.2.1 hd (k p e R s m args below meth c Q MC MS H locs ls cells slots C Rt hW hS hl hc ht hz)
theorem gk_lor {E : gk_E} {M : gk_M} {d : gk_B} {pc : Nat} {lv : List (Nat × Value)} {st : List Value} {h : gk_H} {K : Option Value → gk_H → Prop} {x y : Int64} (hd : decode M.2.1 pc = .ok (.lor, 1)) (k : gk_G E M d (pc + 1) lv (.long (x ||| y) :: st) h K) : gk_G E M d (pc) lv (.long y :: .long x :: st) h K := by
  intro p e R s m args below meth c Q MC MS H locs ls cells slots C Rt hW hS hl hc ht hz
  exact lv_lor C.1 C.2.1 hd (k p e R s m args below meth c Q MC MS H locs ls cells slots C Rt hW hS hl hc ht hz)
theorem gk_lxor {E : gk_E} {M : gk_M} {d : gk_B} {pc : Nat} {lv : List (Nat × Value)} {st : List Value} {h : gk_H} {K : Option Value → gk_H → Prop} {x y : Int64} (hd : decode M.2.1 pc = .ok (.lxor, 1)) (k : gk_G E M d (pc + 1) lv (.long (x ^^^ y) :: st) h K) : gk_G E M d (pc) lv (.long y :: .long x :: st) h K := by
  intro p e R s m args below meth c Q MC MS H locs ls cells slots C Rt hW hS hl hc ht hz
  exact lv_lxor C.1 C.2.1 hd (k p e R s m args below meth c Q MC MS H locs ls cells slots C Rt hW hS hl hc ht hz)
theorem gk_lneg {E : gk_E} {M : gk_M} {d : gk_B} {pc : Nat} {lv : List (Nat × Value)} {st : List Value} {h : gk_H} {K : Option Value → gk_H → Prop} {x : Int64} (hd : decode M.2.1 pc = .ok (.lneg, 1)) (k : gk_G E M d (pc + 1) lv (.long (-x) :: st) h K) : gk_G E M d (pc) lv (.long x :: st) h K := by
  intro p e R s m args below meth c Q MC MS H locs ls cells slots C Rt hW hS hl hc ht hz
  exact lv_lneg C.1 C.2.1 hd (k p e R s m args below meth c Q MC MS H locs ls cells slots C Rt hW hS hl hc ht hz)
theorem gk_lshl {E : gk_E} {M : gk_M} {d : gk_B} {pc : Nat} {lv : List (Nat × Value)} {st : List Value} {h : gk_H} {K : Option Value → gk_H → Prop} {x : Int64} {y : Int32} (hd : decode M.2.1 pc = .ok (.lshl, 1)) (k : gk_G E M d (pc + 1) lv (.long (x <<< (y.toInt64 &&& 63)) :: st) h K) : gk_G E M d (pc) lv (.int y :: .long x :: st) h K := by
  intro p e R s m args below meth c Q MC MS H locs ls cells slots C Rt hW hS hl hc ht hz
  exact lv_lshl C.1 C.2.1 hd rfl (k p e R s m args below meth c Q MC MS H locs ls cells slots C Rt hW hS hl hc ht hz)
theorem gk_lushr {E : gk_E} {M : gk_M} {d : gk_B} {pc : Nat} {lv : List (Nat × Value)} {st : List Value} {h : gk_H} {K : Option Value → gk_H → Prop} {x : Int64} {y : Int32} (hd : decode M.2.1 pc = .ok (.lushr, 1)) (k : gk_G E M d (pc + 1) lv (.long ((x.toUInt64 >>> (y.toInt64.toUInt64 &&& Int64.toUInt64 63)).toInt64) :: st) h K) : gk_G E M d (pc) lv (.int y :: .long x :: st) h K := by
  intro p e R s m args below meth c Q MC MS H locs ls cells slots C Rt hW hS hl hc ht hz
  exact lv_lushr C.1 C.2.1 hd rfl (k p e R s m args below meth c Q MC MS H locs ls cells slots C Rt hW hS hl hc ht hz)
theorem gk_lcmp {E : gk_E} {M : gk_M} {d : gk_B} {pc : Nat} {lv : List (Nat × Value)} {st : List Value} {h : gk_H} {K : Option Value → gk_H → Prop} {x y : Int64} (hd : decode M.2.1 pc = .ok (.lcmp, 1)) (k : gk_G E M d (pc + 1) lv (.int (lg_cmp x y) :: st) h K) : gk_G E M d (pc) lv (.long y :: .long x :: st) h K := by
  intro p e R s m args below meth c Q MC MS H locs ls cells slots C Rt hW hS hl hc ht hz
  exact W.lcmp C.1 C.2.1 hd (k p e R s m args below meth c Q MC MS H locs ls cells slots C Rt hW hS hl hc ht hz)
theorem gk_l2i {E : gk_E} {M : gk_M} {d : gk_B} {pc : Nat} {lv : List (Nat × Value)} {st : List Value} {h : gk_H} {K : Option Value → gk_H → Prop} {x : Int64} (hd : decode M.2.1 pc = .ok (.l2i, 1)) (k : gk_G E M d (pc + 1) lv (.int x.toInt32 :: st) h K) : gk_G E M d (pc) lv (.long x :: st) h K := by
  intro p e R s m args below meth c Q MC MS H locs ls cells slots C Rt hW hS hl hc ht hz
  exact lv_l2i C.1 C.2.1 hd rfl (k p e R s m args below meth c Q MC MS H locs ls cells slots C Rt hW hS hl hc ht hz)
theorem gk_i2l {E : gk_E} {M : gk_M} {d : gk_B} {pc : Nat} {lv : List (Nat × Value)} {st : List Value} {h : gk_H} {K : Option Value → gk_H → Prop} {x : Int32} (hd : decode M.2.1 pc = .ok (.i2l, 1)) (k : gk_G E M d (pc + 1) lv (.long x.toInt64 :: st) h K) : gk_G E M d (pc) lv (.int x :: st) h K := by
  intro p e R s m args below meth c Q MC MS H locs ls cells slots C Rt hW hS hl hc ht hz
  exact lv_i2l C.1 C.2.1 hd rfl (k p e R s m args below meth c Q MC MS H locs ls cells slots C Rt hW hS hl hc ht hz)
theorem gk_i2b {E : gk_E} {M : gk_M} {d : gk_B} {pc : Nat} {lv : List (Nat × Value)} {st : List Value} {h : gk_H} {K : Option Value → gk_H → Prop} {x : Int32} (hd : decode M.2.1 pc = .ok (.i2b, 1)) (k : gk_G E M d (pc + 1) lv (.int x.toInt8.toInt32 :: st) h K) : gk_G E M d (pc) lv (.int x :: st) h K := by
  intro p e R s m args below meth c Q MC MS H locs ls cells slots C Rt hW hS hl hc ht hz
  exact lv_i2b C.1 C.2.1 hd rfl (k p e R s m args below meth c Q MC MS H locs ls cells slots C Rt hW hS hl hc ht hz)
theorem gk_i2c {E : gk_E} {M : gk_M} {d : gk_B} {pc : Nat} {lv : List (Nat × Value)} {st : List Value} {h : gk_H} {K : Option Value → gk_H → Prop} {x : Int32} (hd : decode M.2.1 pc = .ok (.i2c, 1)) (k : gk_G E M d (pc + 1) lv (.int (x.toUInt32 % 65536).toInt32 :: st) h K) : gk_G E M d (pc) lv (.int x :: st) h K := by
  intro p e R s m args below meth c Q MC MS H locs ls cells slots C Rt hW hS hl hc ht hz
  exact lv_i2c C.1 C.2.1 hd rfl (k p e R s m args below meth c Q MC MS H locs ls cells slots C Rt hW hS hl hc ht hz)
theorem gk_iconst {E : gk_E} {M : gk_M} {d : gk_B} {pc : Nat} {lv : List (Nat × Value)} {st : List Value} {h : gk_H} {K : Option Value → gk_H → Prop} {n : Int} (v : Int32) (hd : decode M.2.1 pc = .ok (.iconst n, 1)) (hv : Int32.ofInt n = v) (k : gk_G E M d (pc + 1) lv (.int v :: st) h K) : gk_G E M d (pc) lv (st) h K := by
  intro p e R s m args below meth c Q MC MS H locs ls cells slots C Rt hW hS hl hc ht hz
  exact lv_iconst C.1 C.2.1 hd hv (k p e R s m args below meth c Q MC MS H locs ls cells slots C Rt hW hS hl hc ht hz)
theorem gk_bipush {E : gk_E} {M : gk_M} {d : gk_B} {pc : Nat} {lv : List (Nat × Value)} {st : List Value} {h : gk_H} {K : Option Value → gk_H → Prop} {n : Int} (v : Int32) (hd : decode M.2.1 pc = .ok (.bipush n, 2)) (hv : (Int8.ofInt n).toInt32 = v) (k : gk_G E M d (pc + 2) lv (.int v :: st) h K) : gk_G E M d (pc) lv (st) h K := by
  intro p e R s m args below meth c Q MC MS H locs ls cells slots C Rt hW hS hl hc ht hz
  exact lv_bipush C.1 C.2.1 hd hv (k p e R s m args below meth c Q MC MS H locs ls cells slots C Rt hW hS hl hc ht hz)
theorem gk_sipush {E : gk_E} {M : gk_M} {d : gk_B} {pc : Nat} {lv : List (Nat × Value)} {st : List Value} {h : gk_H} {K : Option Value → gk_H → Prop} {n : Int} (v : Int32) (hd : decode M.2.1 pc = .ok (.sipush n, 3)) (hv : (Int16.ofInt n).toInt32 = v) (k : gk_G E M d (pc + 3) lv (.int v :: st) h K) : gk_G E M d (pc) lv (st) h K := by
  intro p e R s m args below meth c Q MC MS H locs ls cells slots C Rt hW hS hl hc ht hz
  exact lv_sipush C.1 C.2.1 hd hv (k p e R s m args below meth c Q MC MS H locs ls cells slots C Rt hW hS hl hc ht hz)
theorem gk_lconst {E : gk_E} {M : gk_M} {d : gk_B} {pc : Nat} {lv : List (Nat × Value)} {st : List Value} {h : gk_H} {K : Option Value → gk_H → Prop} {n : Fin 2} (v : Int64) (hd : decode M.2.1 pc = .ok (.lconst n, 1)) (hv : Int64.ofNat (n : Nat) = v) (k : gk_G E M d (pc + 1) lv (.long v :: st) h K) : gk_G E M d (pc) lv (st) h K := by
  intro p e R s m args below meth c Q MC MS H locs ls cells slots C Rt hW hS hl hc ht hz
  exact lv_lconst C.1 C.2.1 hd hv (k p e R s m args below meth c Q MC MS H locs ls cells slots C Rt hW hS hl hc ht hz)
theorem gk_ldc {E : gk_E} {M : gk_M} {d : gk_B} {pc : Nat} {lv : List (Nat × Value)} {st : List Value} {h : gk_H} {K : Option Value → gk_H → Prop} {i : Nat} (v : Int32) (hd : decode M.2.1 pc = .ok (.ldc i, 2)) (hw : Cond.constant M.1.cls i v ∈ gk_T) (k : gk_G E M d (pc + 2) lv (.int v :: st) h K) : gk_G E M d (pc) lv (st) h K := by
  intro p e R s m args below meth c Q MC MS H locs ls cells slots C Rt hW hS hl hc ht hz
  exact lv_ldc C.1 C.2.1 C.2.2.2.2.2.2.2.1 (C.2.2.2.2.2.2.1 _ hw) hd (k p e R s m args below meth c Q MC MS H locs ls cells slots C Rt hW hS hl hc ht hz)
theorem gk_ldc2 {E : gk_E} {M : gk_M} {d : gk_B} {pc : Nat} {lv : List (Nat × Value)} {st : List Value} {h : gk_H} {K : Option Value → gk_H → Prop} {i : Nat} (v : Int64) (hd : decode M.2.1 pc = .ok (.ldc2_w i, 3)) (hw : Cond.constantLong M.1.cls i v ∈ gk_T) (k : gk_G E M d (pc + 3) lv (.long v :: st) h K) : gk_G E M d (pc) lv (st) h K := by
  intro p e R s m args below meth c Q MC MS H locs ls cells slots C Rt hW hS hl hc ht hz
  exact lv_ldc2 C.1 C.2.1 C.2.2.2.2.2.2.2.1 (C.2.2.2.2.2.2.1 _ hw) hd (k p e R s m args below meth c Q MC MS H locs ls cells slots C Rt hW hS hl hc ht hz)
theorem gk_lat {E : gk_E} {ls : Array Slot} {nL : Nat} {lv : List (Nat × Value)} (hl : lv_has ls nL (gk_L E lv)) {k i : Nat} {v : Value} (hk : lv[k]? = some (i, v)) : ls[i]? = some (.val (gk_v E v)) := lv_at hl k (by rw [List.getElem?_map, hk]; rfl)
theorem gk_iload {E : gk_E} {M : gk_M} {d : gk_B} {pc : Nat} {lv : List (Nat × Value)} {st : List Value} {h : gk_H} {K : Option Value → gk_H → Prop} {i : Nat} {x : Int32} (hd : decode M.2.1 pc = .ok (.iload i, 2)) (j : Nat) (hj : lv[j]? = some (i, .int x)) (k : gk_G E M d (pc + 2) lv (.int x :: st) h K) : gk_G E M d (pc) lv (st) h K := by
  intro p e R s m args below meth c Q MC MS H locs ls cells slots C Rt hW hS hl hc ht hz
  exact lv_iload C.1 C.2.1 hd (gk_lat hl hj) (k p e R s m args below meth c Q MC MS H locs ls cells slots C Rt hW hS hl hc ht hz)
theorem gk_iload_n {E : gk_E} {M : gk_M} {d : gk_B} {pc : Nat} {lv : List (Nat × Value)} {st : List Value} {h : gk_H} {K : Option Value → gk_H → Prop} {i : Fin 4} {i2 : Nat} {x : Int32} (hd : decode M.2.1 pc = .ok (.iload_n i, 1)) (j : Nat) (hi : (i : Nat) = i2) (hj : lv[j]? = some (i2, .int x)) (k : gk_G E M d (pc + 1) lv (.int x :: st) h K) : gk_G E M d (pc) lv (st) h K := by
  intro p e R s m args below meth c Q MC MS H locs ls cells slots C Rt hW hS hl hc ht hz
  exact lv_iload_n C.1 C.2.1 hd hi (gk_lat hl hj) (k p e R s m args below meth c Q MC MS H locs ls cells slots C Rt hW hS hl hc ht hz)
theorem gk_lload {E : gk_E} {M : gk_M} {d : gk_B} {pc : Nat} {lv : List (Nat × Value)} {st : List Value} {h : gk_H} {K : Option Value → gk_H → Prop} {i : Nat} {x : Int64} (hd : decode M.2.1 pc = .ok (.lload i, 2)) (j : Nat) (hj : lv[j]? = some (i, .long x)) (k : gk_G E M d (pc + 2) lv (.long x :: st) h K) : gk_G E M d (pc) lv (st) h K := by
  intro p e R s m args below meth c Q MC MS H locs ls cells slots C Rt hW hS hl hc ht hz
  exact lv_lload C.1 C.2.1 hd (gk_lat hl hj) (k p e R s m args below meth c Q MC MS H locs ls cells slots C Rt hW hS hl hc ht hz)
theorem gk_lload_n {E : gk_E} {M : gk_M} {d : gk_B} {pc : Nat} {lv : List (Nat × Value)} {st : List Value} {h : gk_H} {K : Option Value → gk_H → Prop} {i : Fin 4} {i2 : Nat} {x : Int64} (hd : decode M.2.1 pc = .ok (.lload_n i, 1)) (j : Nat) (hi : (i : Nat) = i2) (hj : lv[j]? = some (i2, .long x)) (k : gk_G E M d (pc + 1) lv (.long x :: st) h K) : gk_G E M d (pc) lv (st) h K := by
  intro p e R s m args below meth c Q MC MS H locs ls cells slots C Rt hW hS hl hc ht hz
  exact lv_lload_n C.1 C.2.1 hd hi (gk_lat hl hj) (k p e R s m args below meth c Q MC MS H locs ls cells slots C Rt hW hS hl hc ht hz)
theorem gk_aload {E : gk_E} {M : gk_M} {d : gk_B} {pc : Nat} {lv : List (Nat × Value)} {st : List Value} {h : gk_H} {K : Option Value → gk_H → Prop} {i : Nat} {x : Nat} (hd : decode M.2.1 pc = .ok (.aload i, 2)) (j : Nat) (hj : lv[j]? = some (i, .ref x)) (k : gk_G E M d (pc + 2) lv (.ref x :: st) h K) : gk_G E M d (pc) lv (st) h K := by
  intro p e R s m args below meth c Q MC MS H locs ls cells slots C Rt hW hS hl hc ht hz
  exact lv_aload C.1 C.2.1 hd (gk_lat hl hj) (k p e R s m args below meth c Q MC MS H locs ls cells slots C Rt hW hS hl hc ht hz)
theorem gk_aload_n {E : gk_E} {M : gk_M} {d : gk_B} {pc : Nat} {lv : List (Nat × Value)} {st : List Value} {h : gk_H} {K : Option Value → gk_H → Prop} {i : Fin 4} {i2 : Nat} {x : Nat} (hd : decode M.2.1 pc = .ok (.aload_n i, 1)) (j : Nat) (hi : (i : Nat) = i2) (hj : lv[j]? = some (i2, .ref x)) (k : gk_G E M d (pc + 1) lv (.ref x :: st) h K) : gk_G E M d (pc) lv (st) h K := by
  intro p e R s m args below meth c Q MC MS H locs ls cells slots C Rt hW hS hl hc ht hz
  exact lv_aload_n C.1 C.2.1 hd hi (gk_lat hl hj) (k p e R s m args below meth c Q MC MS H locs ls cells slots C Rt hW hS hl hc ht hz)
theorem gk_flt (E : gk_E) (P : Nat → Nat → Bool) (i : Nat) (v : Value) (lv : List (Nat × Value)) : gk_L E ((i, v) :: lv.filter (fun q => P q.1 q.2.category)) = (i, gk_v E v) :: (gk_L E lv).filter (fun q => P q.1 q.2.category) := by
  simp only [gk_L, List.map_cons, List.cons.injEq, true_and]
  induction lv with
  | nil => rfl
  | cons q l ih =>
    simp only [List.filter_cons, List.map_cons, gk_cat]
    split
    · rw [List.map_cons, ih]
    · exact ih
theorem gk_istore {E : gk_E} {M : gk_M} {d : gk_B} {pc : Nat} {lv : List (Nat × Value)} {st : List Value} {h : gk_H} {K : Option Value → gk_H → Prop} {i : Nat} {x : Int32} (lv' : List (Nat × Value)) (hd : decode M.2.1 pc = .ok (.istore i, 2)) (hn : i < M.2.2.1) (hv : (i, Value.int x) :: lv.filter (fun q => !(q.1 == i) && !(q.1 + 1 == i && q.2.category == 2)) = lv') (k : gk_G E M d (pc + 2) lv' st h K) : gk_G E M d (pc) lv (.int x :: st) h K := by
  intro p e R s m args below meth c Q MC MS H locs ls cells slots C Rt hW hS hl hc ht hz
  exact lv_istore C.1 C.2.1 hd hl hn ((gk_flt E (fun a b => !(a == i) && !(a + 1 == i && b == 2)) i (.int x) lv).symm.trans (congrArg (gk_L E) hv)) (fun ls' hl' => k p e R s m args below meth c Q MC MS H locs ls' cells slots C Rt hW hS hl' hc ht hz)
theorem gk_istore_n {E : gk_E} {M : gk_M} {d : gk_B} {pc : Nat} {lv : List (Nat × Value)} {st : List Value} {h : gk_H} {K : Option Value → gk_H → Prop} {j : Fin 4} {i : Nat} {x : Int32} (lv' : List (Nat × Value)) (hd : decode M.2.1 pc = .ok (.istore_n j, 1)) (hi : (j : Nat) = i) (hn : i < M.2.2.1) (hv : (i, Value.int x) :: lv.filter (fun q => !(q.1 == i) && !(q.1 + 1 == i && q.2.category == 2)) = lv') (k : gk_G E M d (pc + 1) lv' st h K) : gk_G E M d (pc) lv (.int x :: st) h K := by
  intro p e R s m args below meth c Q MC MS H locs ls cells slots C Rt hW hS hl hc ht hz
  exact lv_istore_n C.1 C.2.1 hd hi hl hn ((gk_flt E (fun a b => !(a == i) && !(a + 1 == i && b == 2)) i (.int x) lv).symm.trans (congrArg (gk_L E) hv)) (fun ls' hl' => k p e R s m args below meth c Q MC MS H locs ls' cells slots C Rt hW hS hl' hc ht hz)
theorem gk_lstore {E : gk_E} {M : gk_M} {d : gk_B} {pc : Nat} {lv : List (Nat × Value)} {st : List Value} {h : gk_H} {K : Option Value → gk_H → Prop} {i : Nat} {x : Int64} (lv' : List (Nat × Value)) (hd : decode M.2.1 pc = .ok (.lstore i, 2)) (hn : i + 1 < M.2.2.1) (hv : (i, Value.long x) :: lv.filter (fun q => !(q.1 == i) && (!(q.1 == i + 1) && !(q.1 + 1 == i && q.2.category == 2))) = lv') (k : gk_G E M d (pc + 2) lv' st h K) : gk_G E M d (pc) lv (.long x :: st) h K := by
  intro p e R s m args below meth c Q MC MS H locs ls cells slots C Rt hW hS hl hc ht hz
  exact lv_lstore C.1 C.2.1 hd hl hn ((gk_flt E (fun a b => !(a == i) && (!(a == i + 1) && !(a + 1 == i && b == 2))) i (.long x) lv).symm.trans (congrArg (gk_L E) hv)) (fun ls' hl' => k p e R s m args below meth c Q MC MS H locs ls' cells slots C Rt hW hS hl' hc ht hz)
theorem gk_lstore_n {E : gk_E} {M : gk_M} {d : gk_B} {pc : Nat} {lv : List (Nat × Value)} {st : List Value} {h : gk_H} {K : Option Value → gk_H → Prop} {j : Fin 4} {i : Nat} {x : Int64} (lv' : List (Nat × Value)) (hd : decode M.2.1 pc = .ok (.lstore_n j, 1)) (hi : (j : Nat) = i) (hn : i + 1 < M.2.2.1) (hv : (i, Value.long x) :: lv.filter (fun q => !(q.1 == i) && (!(q.1 == i + 1) && !(q.1 + 1 == i && q.2.category == 2))) = lv') (k : gk_G E M d (pc + 1) lv' st h K) : gk_G E M d (pc) lv (.long x :: st) h K := by
  intro p e R s m args below meth c Q MC MS H locs ls cells slots C Rt hW hS hl hc ht hz
  exact lv_lstore_n C.1 C.2.1 hd hi hl hn ((gk_flt E (fun a b => !(a == i) && (!(a == i + 1) && !(a + 1 == i && b == 2))) i (.long x) lv).symm.trans (congrArg (gk_L E) hv)) (fun ls' hl' => k p e R s m args below meth c Q MC MS H locs ls' cells slots C Rt hW hS hl' hc ht hz)
theorem gk_astore {E : gk_E} {M : gk_M} {d : gk_B} {pc : Nat} {lv : List (Nat × Value)} {st : List Value} {h : gk_H} {K : Option Value → gk_H → Prop} {i : Nat} {x : Nat} (lv' : List (Nat × Value)) (hd : decode M.2.1 pc = .ok (.astore i, 2)) (hn : i < M.2.2.1) (hv : (i, Value.ref x) :: lv.filter (fun q => !(q.1 == i) && !(q.1 + 1 == i && q.2.category == 2)) = lv') (k : gk_G E M d (pc + 2) lv' st h K) : gk_G E M d (pc) lv (.ref x :: st) h K := by
  intro p e R s m args below meth c Q MC MS H locs ls cells slots C Rt hW hS hl hc ht hz
  exact lv_astore C.1 C.2.1 hd hl hn ((gk_flt E (fun a b => !(a == i) && !(a + 1 == i && b == 2)) i (.ref x) lv).symm.trans (congrArg (gk_L E) hv)) (fun ls' hl' => k p e R s m args below meth c Q MC MS H locs ls' cells slots C Rt hW hS hl' hc ht hz)
theorem gk_astore_n {E : gk_E} {M : gk_M} {d : gk_B} {pc : Nat} {lv : List (Nat × Value)} {st : List Value} {h : gk_H} {K : Option Value → gk_H → Prop} {j : Fin 4} {i : Nat} {x : Nat} (lv' : List (Nat × Value)) (hd : decode M.2.1 pc = .ok (.astore_n j, 1)) (hi : (j : Nat) = i) (hn : i < M.2.2.1) (hv : (i, Value.ref x) :: lv.filter (fun q => !(q.1 == i) && !(q.1 + 1 == i && q.2.category == 2)) = lv') (k : gk_G E M d (pc + 1) lv' st h K) : gk_G E M d (pc) lv (.ref x :: st) h K := by
  intro p e R s m args below meth c Q MC MS H locs ls cells slots C Rt hW hS hl hc ht hz
  exact lv_astore_n C.1 C.2.1 hd hi hl hn ((gk_flt E (fun a b => !(a == i) && !(a + 1 == i && b == 2)) i (.ref x) lv).symm.trans (congrArg (gk_L E) hv)) (fun ls' hl' => k p e R s m args below meth c Q MC MS H locs ls' cells slots C Rt hW hS hl' hc ht hz)
theorem gk_iinc {E : gk_E} {M : gk_M} {d : gk_B} {pc : Nat} {lv : List (Nat × Value)} {st : List Value} {h : gk_H} {K : Option Value → gk_H → Prop} {i : Nat} {n : Int} {x : Int32} (v : Int32) (lv' : List (Nat × Value)) (j : Nat) (hd : decode M.2.1 pc = .ok (.iinc i n, 3)) (hj : lv[j]? = some (i, .int x)) (hx : x + Int32.ofInt n = v) (hn : i < M.2.2.1) (hv : (i, Value.int v) :: lv.filter (fun q => !(q.1 == i) && !(q.1 + 1 == i && q.2.category == 2)) = lv') (k : gk_G E M d (pc + 3) lv' st h K) : gk_G E M d (pc) lv (st) h K := by
  intro p e R s m args below meth c Q MC MS H locs ls cells slots C Rt hW hS hl hc ht hz
  exact lv_iinc C.1 C.2.1 hd hl (k := j) (by rw [List.getElem?_map, hj]; rfl) hx hn ((gk_flt E (fun a b => !(a == i) && !(a + 1 == i && b == 2)) i (.int v) lv).symm.trans (congrArg (gk_L E) hv)) (fun ls' hl' => k p e R s m args below meth c Q MC MS H locs ls' cells slots C Rt hW hS hl' hc ht hz)
theorem gk_pick {E : gk_E} {M : gk_M} {d : gk_B} {pc : Nat} {lv : List (Nat × Value)} {st : List Value} {h : gk_H} {K : Option Value → gk_H → Prop} (lv' : List (Nat × Value)) (ks : List Nat) (hv : ks.filterMap (fun k => lv[k]?) = lv') (k : gk_G E M d pc lv' st h K) : gk_G E M d (pc) lv (st) h K := by
  subst hv
  intro p e R s m args below meth c Q MC MS H locs ls cells slots C Rt hW hS hl hc ht hz
  refine k p e R s m args below meth c Q MC MS H locs ls cells slots C Rt hW hS ⟨hl.1, hl.2.1, fun q hq => ?_⟩ hc ht hz
  obtain ⟨q0, hq0, rfl⟩ := List.mem_map.mp hq
  obtain ⟨i, -, hi⟩ := List.mem_filterMap.mp hq0
  exact hl.2.2 _ (List.mem_map.mpr ⟨q0, List.mem_of_getElem? hi, rfl⟩)
theorem gk_dup {E : gk_E} {M : gk_M} {d : gk_B} {pc : Nat} {lv : List (Nat × Value)} {st : List Value} {h : gk_H} {K : Option Value → gk_H → Prop} {v : Value} (hd : decode M.2.1 pc = .ok (.dup, 1)) (hv : v.category = 1) (k : gk_G E M d (pc + 1) lv (v :: v :: st) h K) : gk_G E M d (pc) lv (v :: st) h K := by
  intro p e R s m args below meth c Q MC MS H locs ls cells slots C Rt hW hS hl hc ht hz
  exact lv_dup C.1 C.2.1 hd (by rw [gk_cat]; exact hv) (k p e R s m args below meth c Q MC MS H locs ls cells slots C Rt hW hS hl hc ht hz)
theorem gk_pop {E : gk_E} {M : gk_M} {d : gk_B} {pc : Nat} {lv : List (Nat × Value)} {st : List Value} {h : gk_H} {K : Option Value → gk_H → Prop} {v : Value} (hd : decode M.2.1 pc = .ok (.pop, 1)) (hv : v.category = 1) (k : gk_G E M d (pc + 1) lv (st) h K) : gk_G E M d (pc) lv (v :: st) h K := by
  intro p e R s m args below meth c Q MC MS H locs ls cells slots C Rt hW hS hl hc ht hz
  exact lv_pop C.1 C.2.1 hd (by rw [gk_cat]; exact hv) (k p e R s m args below meth c Q MC MS H locs ls cells slots C Rt hW hS hl hc ht hz)
theorem gk_dup_x1 {E : gk_E} {M : gk_M} {d : gk_B} {pc : Nat} {lv : List (Nat × Value)} {st : List Value} {h : gk_H} {K : Option Value → gk_H → Prop} {v w : Value} (hd : decode M.2.1 pc = .ok (.dup_x1, 1)) (hv : v.category = 1) (hw : w.category = 1) (k : gk_G E M d (pc + 1) lv (v :: w :: v :: st) h K) : gk_G E M d (pc) lv (v :: w :: st) h K := by
  intro p e R s m args below meth c Q MC MS H locs ls cells slots C Rt hW hS hl hc ht hz
  exact lv_dup_x1 C.1 C.2.1 hd (by rw [gk_cat]; exact hv) (by rw [gk_cat]; exact hw) (k p e R s m args below meth c Q MC MS H locs ls cells slots C Rt hW hS hl hc ht hz)
theorem gk_dup2 {E : gk_E} {M : gk_M} {d : gk_B} {pc : Nat} {lv : List (Nat × Value)} {st : List Value} {h : gk_H} {K : Option Value → gk_H → Prop} {v w : Value} (hd : decode M.2.1 pc = .ok (.dup2, 1)) (hv : v.category = 1) (hw : w.category = 1) (k : gk_G E M d (pc + 1) lv (v :: w :: v :: w :: st) h K) : gk_G E M d (pc) lv (v :: w :: st) h K := by
  intro p e R s m args below meth c Q MC MS H locs ls cells slots C Rt hW hS hl hc ht hz
  exact lv_dup2_11 C.1 C.2.1 hd (by rw [gk_cat]; exact hv) (by rw [gk_cat]; exact hw) (k p e R s m args below meth c Q MC MS H locs ls cells slots C Rt hW hS hl hc ht hz)
theorem gk_dup2w {E : gk_E} {M : gk_M} {d : gk_B} {pc : Nat} {lv : List (Nat × Value)} {st : List Value} {h : gk_H} {K : Option Value → gk_H → Prop} {v : Value} (hd : decode M.2.1 pc = .ok (.dup2, 1)) (hv : v.category = 2) (k : gk_G E M d (pc + 1) lv (v :: v :: st) h K) : gk_G E M d (pc) lv (v :: st) h K := by
  intro p e R s m args below meth c Q MC MS H locs ls cells slots C Rt hW hS hl hc ht hz
  exact lv_dup2_2 C.1 C.2.1 hd (by rw [gk_cat]; exact hv) (k p e R s m args below meth c Q MC MS H locs ls cells slots C Rt hW hS hl hc ht hz)
theorem gk_if_eq {E : gk_E} {M : gk_M} {d : gk_B} {pc : Nat} {lv : List (Nat × Value)} {st : List Value} {h : gk_H} {K : Option Value → gk_H → Prop} {off : Int} {x : Int32} (tgt : Nat) (hd : decode M.2.1 pc = .ok (.ifCond .eq off, 3)) (htg : (pc : Int) + off = (tgt : Int)) (kt : x = 0 → gk_G E M d (tgt) lv (st) h K) (kf : ¬ x = 0 → gk_G E M d (pc + 3) lv (st) h K) : gk_G E M d (pc) lv (.int x :: st) h K := by
  intro p e R s m args below meth c Q MC MS H locs ls cells slots C Rt hW hS hl hc ht hz
  exact lv_if_eq C.1 C.2.1 hd htg (fun q => kt q p e R s m args below meth c Q MC MS H locs ls cells slots C Rt hW hS hl hc ht hz) (fun q => kf q p e R s m args below meth c Q MC MS H locs ls cells slots C Rt hW hS hl hc ht hz)
theorem gk_if_ne {E : gk_E} {M : gk_M} {d : gk_B} {pc : Nat} {lv : List (Nat × Value)} {st : List Value} {h : gk_H} {K : Option Value → gk_H → Prop} {off : Int} {x : Int32} (tgt : Nat) (hd : decode M.2.1 pc = .ok (.ifCond .ne off, 3)) (htg : (pc : Int) + off = (tgt : Int)) (kt : ¬ x = 0 → gk_G E M d (tgt) lv (st) h K) (kf : x = 0 → gk_G E M d (pc + 3) lv (st) h K) : gk_G E M d (pc) lv (.int x :: st) h K := by
  intro p e R s m args below meth c Q MC MS H locs ls cells slots C Rt hW hS hl hc ht hz
  exact lv_if_ne C.1 C.2.1 hd htg (fun q => kt q p e R s m args below meth c Q MC MS H locs ls cells slots C Rt hW hS hl hc ht hz) (fun q => kf q p e R s m args below meth c Q MC MS H locs ls cells slots C Rt hW hS hl hc ht hz)
theorem gk_if_lt {E : gk_E} {M : gk_M} {d : gk_B} {pc : Nat} {lv : List (Nat × Value)} {st : List Value} {h : gk_H} {K : Option Value → gk_H → Prop} {off : Int} {x : Int32} (tgt : Nat) (hd : decode M.2.1 pc = .ok (.ifCond .lt off, 3)) (htg : (pc : Int) + off = (tgt : Int)) (kt : x < 0 → gk_G E M d (tgt) lv (st) h K) (kf : ¬ x < 0 → gk_G E M d (pc + 3) lv (st) h K) : gk_G E M d (pc) lv (.int x :: st) h K := by
  intro p e R s m args below meth c Q MC MS H locs ls cells slots C Rt hW hS hl hc ht hz
  exact lv_if_lt C.1 C.2.1 hd htg (fun q => kt q p e R s m args below meth c Q MC MS H locs ls cells slots C Rt hW hS hl hc ht hz) (fun q => kf q p e R s m args below meth c Q MC MS H locs ls cells slots C Rt hW hS hl hc ht hz)
theorem gk_if_ge {E : gk_E} {M : gk_M} {d : gk_B} {pc : Nat} {lv : List (Nat × Value)} {st : List Value} {h : gk_H} {K : Option Value → gk_H → Prop} {off : Int} {x : Int32} (tgt : Nat) (hd : decode M.2.1 pc = .ok (.ifCond .ge off, 3)) (htg : (pc : Int) + off = (tgt : Int)) (kt : 0 ≤ x → gk_G E M d (tgt) lv (st) h K) (kf : ¬ 0 ≤ x → gk_G E M d (pc + 3) lv (st) h K) : gk_G E M d (pc) lv (.int x :: st) h K := by
  intro p e R s m args below meth c Q MC MS H locs ls cells slots C Rt hW hS hl hc ht hz
  exact lv_if_ge C.1 C.2.1 hd htg (fun q => kt q p e R s m args below meth c Q MC MS H locs ls cells slots C Rt hW hS hl hc ht hz) (fun q => kf q p e R s m args below meth c Q MC MS H locs ls cells slots C Rt hW hS hl hc ht hz)
theorem gk_if_gt {E : gk_E} {M : gk_M} {d : gk_B} {pc : Nat} {lv : List (Nat × Value)} {st : List Value} {h : gk_H} {K : Option Value → gk_H → Prop} {off : Int} {x : Int32} (tgt : Nat) (hd : decode M.2.1 pc = .ok (.ifCond .gt off, 3)) (htg : (pc : Int) + off = (tgt : Int)) (kt : 0 < x → gk_G E M d (tgt) lv (st) h K) (kf : ¬ 0 < x → gk_G E M d (pc + 3) lv (st) h K) : gk_G E M d (pc) lv (.int x :: st) h K := by
  intro p e R s m args below meth c Q MC MS H locs ls cells slots C Rt hW hS hl hc ht hz
  exact lv_if_gt C.1 C.2.1 hd htg (fun q => kt q p e R s m args below meth c Q MC MS H locs ls cells slots C Rt hW hS hl hc ht hz) (fun q => kf q p e R s m args below meth c Q MC MS H locs ls cells slots C Rt hW hS hl hc ht hz)
theorem gk_if_le {E : gk_E} {M : gk_M} {d : gk_B} {pc : Nat} {lv : List (Nat × Value)} {st : List Value} {h : gk_H} {K : Option Value → gk_H → Prop} {off : Int} {x : Int32} (tgt : Nat) (hd : decode M.2.1 pc = .ok (.ifCond .le off, 3)) (htg : (pc : Int) + off = (tgt : Int)) (kt : x ≤ 0 → gk_G E M d (tgt) lv (st) h K) (kf : ¬ x ≤ 0 → gk_G E M d (pc + 3) lv (st) h K) : gk_G E M d (pc) lv (.int x :: st) h K := by
  intro p e R s m args below meth c Q MC MS H locs ls cells slots C Rt hW hS hl hc ht hz
  exact lv_if_le C.1 C.2.1 hd htg (fun q => kt q p e R s m args below meth c Q MC MS H locs ls cells slots C Rt hW hS hl hc ht hz) (fun q => kf q p e R s m args below meth c Q MC MS H locs ls cells slots C Rt hW hS hl hc ht hz)
theorem gk_icmp_eq {E : gk_E} {M : gk_M} {d : gk_B} {pc : Nat} {lv : List (Nat × Value)} {st : List Value} {h : gk_H} {K : Option Value → gk_H → Prop} {off : Int} {x y : Int32} (tgt : Nat) (hd : decode M.2.1 pc = .ok (.if_icmp .eq off, 3)) (htg : (pc : Int) + off = (tgt : Int)) (kt : x = y → gk_G E M d (tgt) lv (st) h K) (kf : ¬ x = y → gk_G E M d (pc + 3) lv (st) h K) : gk_G E M d (pc) lv (.int y :: .int x :: st) h K := by
  intro p e R s m args below meth c Q MC MS H locs ls cells slots C Rt hW hS hl hc ht hz
  exact lv_icmp_eq C.1 C.2.1 hd htg (fun q => kt q p e R s m args below meth c Q MC MS H locs ls cells slots C Rt hW hS hl hc ht hz) (fun q => kf q p e R s m args below meth c Q MC MS H locs ls cells slots C Rt hW hS hl hc ht hz)
theorem gk_icmp_ne {E : gk_E} {M : gk_M} {d : gk_B} {pc : Nat} {lv : List (Nat × Value)} {st : List Value} {h : gk_H} {K : Option Value → gk_H → Prop} {off : Int} {x y : Int32} (tgt : Nat) (hd : decode M.2.1 pc = .ok (.if_icmp .ne off, 3)) (htg : (pc : Int) + off = (tgt : Int)) (kt : ¬ x = y → gk_G E M d (tgt) lv (st) h K) (kf : x = y → gk_G E M d (pc + 3) lv (st) h K) : gk_G E M d (pc) lv (.int y :: .int x :: st) h K := by
  intro p e R s m args below meth c Q MC MS H locs ls cells slots C Rt hW hS hl hc ht hz
  exact lv_icmp_ne C.1 C.2.1 hd htg (fun q => kt q p e R s m args below meth c Q MC MS H locs ls cells slots C Rt hW hS hl hc ht hz) (fun q => kf q p e R s m args below meth c Q MC MS H locs ls cells slots C Rt hW hS hl hc ht hz)
theorem gk_icmp_lt {E : gk_E} {M : gk_M} {d : gk_B} {pc : Nat} {lv : List (Nat × Value)} {st : List Value} {h : gk_H} {K : Option Value → gk_H → Prop} {off : Int} {x y : Int32} (tgt : Nat) (hd : decode M.2.1 pc = .ok (.if_icmp .lt off, 3)) (htg : (pc : Int) + off = (tgt : Int)) (kt : x < y → gk_G E M d (tgt) lv (st) h K) (kf : ¬ x < y → gk_G E M d (pc + 3) lv (st) h K) : gk_G E M d (pc) lv (.int y :: .int x :: st) h K := by
  intro p e R s m args below meth c Q MC MS H locs ls cells slots C Rt hW hS hl hc ht hz
  exact lv_icmp_lt C.1 C.2.1 hd htg (fun q => kt q p e R s m args below meth c Q MC MS H locs ls cells slots C Rt hW hS hl hc ht hz) (fun q => kf q p e R s m args below meth c Q MC MS H locs ls cells slots C Rt hW hS hl hc ht hz)
theorem gk_icmp_ge {E : gk_E} {M : gk_M} {d : gk_B} {pc : Nat} {lv : List (Nat × Value)} {st : List Value} {h : gk_H} {K : Option Value → gk_H → Prop} {off : Int} {x y : Int32} (tgt : Nat) (hd : decode M.2.1 pc = .ok (.if_icmp .ge off, 3)) (htg : (pc : Int) + off = (tgt : Int)) (kt : y ≤ x → gk_G E M d (tgt) lv (st) h K) (kf : ¬ y ≤ x → gk_G E M d (pc + 3) lv (st) h K) : gk_G E M d (pc) lv (.int y :: .int x :: st) h K := by
  intro p e R s m args below meth c Q MC MS H locs ls cells slots C Rt hW hS hl hc ht hz
  exact lv_icmp_ge C.1 C.2.1 hd htg (fun q => kt q p e R s m args below meth c Q MC MS H locs ls cells slots C Rt hW hS hl hc ht hz) (fun q => kf q p e R s m args below meth c Q MC MS H locs ls cells slots C Rt hW hS hl hc ht hz)
theorem gk_icmp_gt {E : gk_E} {M : gk_M} {d : gk_B} {pc : Nat} {lv : List (Nat × Value)} {st : List Value} {h : gk_H} {K : Option Value → gk_H → Prop} {off : Int} {x y : Int32} (tgt : Nat) (hd : decode M.2.1 pc = .ok (.if_icmp .gt off, 3)) (htg : (pc : Int) + off = (tgt : Int)) (kt : y < x → gk_G E M d (tgt) lv (st) h K) (kf : ¬ y < x → gk_G E M d (pc + 3) lv (st) h K) : gk_G E M d (pc) lv (.int y :: .int x :: st) h K := by
  intro p e R s m args below meth c Q MC MS H locs ls cells slots C Rt hW hS hl hc ht hz
  exact lv_icmp_gt C.1 C.2.1 hd htg (fun q => kt q p e R s m args below meth c Q MC MS H locs ls cells slots C Rt hW hS hl hc ht hz) (fun q => kf q p e R s m args below meth c Q MC MS H locs ls cells slots C Rt hW hS hl hc ht hz)
theorem gk_icmp_le {E : gk_E} {M : gk_M} {d : gk_B} {pc : Nat} {lv : List (Nat × Value)} {st : List Value} {h : gk_H} {K : Option Value → gk_H → Prop} {off : Int} {x y : Int32} (tgt : Nat) (hd : decode M.2.1 pc = .ok (.if_icmp .le off, 3)) (htg : (pc : Int) + off = (tgt : Int)) (kt : x ≤ y → gk_G E M d (tgt) lv (st) h K) (kf : ¬ x ≤ y → gk_G E M d (pc + 3) lv (st) h K) : gk_G E M d (pc) lv (.int y :: .int x :: st) h K := by
  intro p e R s m args below meth c Q MC MS H locs ls cells slots C Rt hW hS hl hc ht hz
  exact lv_icmp_le C.1 C.2.1 hd htg (fun q => kt q p e R s m args below meth c Q MC MS H locs ls cells slots C Rt hW hS hl hc ht hz) (fun q => kf q p e R s m args below meth c Q MC MS H locs ls cells slots C Rt hW hS hl hc ht hz)
theorem gk_goto {E : gk_E} {M : gk_M} {d : gk_B} {pc : Nat} {lv : List (Nat × Value)} {st : List Value} {h : gk_H} {K : Option Value → gk_H → Prop} {off : Int} (tgt : Nat) (hd : decode M.2.1 pc = .ok (.goto off, 3)) (htg : (pc : Int) + off = (tgt : Int)) (k : gk_G E M d (tgt) lv (st) h K) : gk_G E M d (pc) lv (st) h K := by
  intro p e R s m args below meth c Q MC MS H locs ls cells slots C Rt hW hS hl hc ht hz
  exact lv_goto C.1 C.2.1 hd htg (k p e R s m args below meth c Q MC MS H locs ls cells slots C Rt hW hS hl hc ht hz)
theorem gk_ireturn {E : gk_E} {M : gk_M} {d1 b2 : Nat} {pc : Nat} {lv : List (Nat × Value)} {h : gk_H} {K : Option Value → gk_H → Prop} {x : Int32} (ty : FieldType) (hd : decode M.2.1 pc = .ok (.ireturn, 1)) (hr : M.2.2.2 = some ty) (hn : narrow ty (.int x) = .int x) (k : K (some (.int x)) h) : gk_G E M (d1, 0, b2) pc lv [.int x] h K := by
  intro p e R s m args below meth c Q MC MS H locs ls cells slots C Rt hW hS hl hc ht hz
  have e1 : cells = MC := hc
  subst e1
  exact Rt (some (.int x)) h pc ls H locs slots k ⟨hd, ty, hr, hn⟩ hW hS (by have : slots + b2 = MS := ht; omega) hz
theorem gk_lreturn {E : gk_E} {M : gk_M} {d1 b2 : Nat} {pc : Nat} {lv : List (Nat × Value)} {h : gk_H} {K : Option Value → gk_H → Prop} {x : Int64} (hd : decode M.2.1 pc = .ok (.lreturn, 1)) (hr : M.2.2.2 = some .long) (k : K (some (.long x)) h) : gk_G E M (d1, 0, b2) pc lv [.long x] h K := by
  intro p e R s m args below meth c Q MC MS H locs ls cells slots C Rt hW hS hl hc ht hz
  have e1 : cells = MC := hc
  subst e1
  exact Rt (some (.long x)) h pc ls H locs slots k ⟨hd, hr⟩ hW hS (by have : slots + b2 = MS := ht; omega) hz
theorem gk_return {E : gk_E} {M : gk_M} {d1 b2 : Nat} {pc : Nat} {lv : List (Nat × Value)} {h : gk_H} {K : Option Value → gk_H → Prop} (hd : decode M.2.1 pc = .ok (.return_, 1)) (hr : M.2.2.2 = none) (k : K none h) : gk_G E M (d1, 0, b2) pc lv [] h K := by
  intro p e R s m args below meth c Q MC MS H locs ls cells slots C Rt hW hS hl hc ht hz
  have e1 : cells = MC := hc
  subst e1
  exact Rt none h pc ls H locs slots k ⟨hd, hr⟩ hW hS (by have : slots + b2 = MS := ht; omega) hz
