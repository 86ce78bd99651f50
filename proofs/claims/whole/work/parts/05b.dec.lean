def decs (c : ByteArray) (l : List (Nat × Instr × Nat)) : Prop := ∀ q ∈ l, decode c q.1 = .ok (q.2.1, q.2.2)
theorem decs_of {c : ByteArray} {l : List (Nat × Instr × Nat)} (h : l.all (fun q => decide (decode c q.1 = .ok (q.2.1, q.2.2))) = true) : decs c l := fun q hq => of_decide_eq_true (List.all_eq_true.mp h q hq)
theorem decs.at {c : ByteArray} {l : List (Nat × Instr × Nat)} (h : decs c l) (k : Nat) {pc n : Nat} {i : Instr} (hk : l[k]? = some (pc, i, n)) : decode c pc = .ok (i, n) := h (pc, i, n) (List.mem_of_getElem? hk)
