/-! the k-th gap -/
theorem drop_cons {p n : Nat} (h : p < n) : (List.range n).drop p = p :: (List.range n).drop (p + 1) := by
  rw [List.drop_eq_getElem_cons (by rw [List.length_range]; exact h), List.getElem_range]
theorem drop_end (n : Nat) : (List.range n).drop n = [] := List.drop_eq_nil_of_le (by simp)
theorem fil_len (f : Nat → Bool) : ∀ m, ((List.range m).filter f).length = cs (fun i => b1 (f i)) m
  | 0 => rfl
  | m + 1 => by
    rw [List.range_succ, List.filter_append, List.length_append, fil_len f m, cs]
    congr 1
    cases h : f m <;> simp [List.filter, h, b1]
theorem cs_cg {f g : Nat → Nat} : ∀ {m : Nat}, (∀ k, k < m → f k = g k) → cs f m = cs g m
  | 0, _ => rfl
  | m + 1, h => by rw [cs, cs, cs_cg (fun k hk => h k (by omega)), h m (by omega)]
theorem cs_z : ∀ m, cs (fun _ => 0) m = 0
  | 0 => rfl
  | m + 1 => by rw [cs, cs_z m]
theorem pop_bfn (f : Nat → Bool) : pop (bfn f 16) 32 = ((List.range 16).filter f).length := by
  rw [fil_len]
  unfold pop
  rw [show 32 = 16 + 16 from rfl, cs_add, cs_cg (g := fun i => b1 (f i)) (fun k hk => by rw [bfn_bit]; simp [hk]), cs_cg (f := fun i => b1 ((bfn f 16).testBit (16 + i))) (g := fun _ => 0) (fun k hk => by rw [bfn_bit, decide_eq_false (by omega)]; rfl), cs_z]
  omega
theorem fil_bfn (f : Nat → Bool) : (List.range 16).filter (fun m => (bfn f 16).testBit m) = (List.range 16).filter f := by
  refine List.filter_congr (fun m hm => ?_)
  rw [bfn_bit]
  simp [List.mem_range.mp hm]
/-- NONE, or a number -/
def orM (o : Option Nat) : Int32 := match o with
  | some v => nI v
  | none => -1
/-- the k-th of a list, or how many there are (k -1) -/
def gAns (k : Int32) (seen : Nat) (R : List Nat) : Int32 := if k = -1 then nI (seen + R.length) else orM (R[w k - seen]?)
theorem ge_m1 {k : Int32} (h : -1 ≤ k) : k = -1 ∨ ∃ q, q < 2 ^ 31 ∧ k = nI q := by
  by_cases e : k = -1
  · exact Or.inl e
  · right
    have h1 : (-1 : Int32).toInt ≤ k.toInt := Int32.le_iff_toInt_le.mp h
    have h2 : (-1 : Int32).toInt = -1 := rfl
    have h3 : k.toInt ≠ (-1 : Int32).toInt := fun z => e (Int32.toInt_inj.mp z)
    have h4 := Int32.toInt_lt k
    refine ⟨k.toInt.toNat, by omega, Int32.toInt_inj.mp ?_⟩
    rw [nI_toInt (by omega)]
    omega
section GA
variable {E : gk_E} {dd : Nat} {c : gm} {r s t n N : Nat} {mir : Nat → Nat} {lab : Nat → Nat → Nat}
theorem c_placeOf {x q m : Nat} (hx : x < 2 ^ 31) (hq : q < 2 ^ 31) (hm : ((List.range 16).filter (fun m => x.testBit m))[q]? = some m) {h : gk_H} {K : Int32 → gk_H → Prop} (k : K (nI m) h) : RnI E mX3_placeOf (dd, 0, 0) [.int (nI x), .int (nI q)] h K := by
  refine vX3_placeOf_0 ?_
  refine down (P := fun p => ∀ sp, sp ≤ q → sp ≤ p → (((List.range 16).drop p).filter (fun m => x.testBit m))[q - sp]? = some m → pX3_placeOf_4 E dd (nI x) (nI q) (nI sp) (nI p) h K) 16 ?_ ?_ 0 (Nat.zero_le _) 0 (Nat.zero_le _) (Nat.zero_le _) hm
  · intro sp h1 h2 h3
    rw [drop_end] at h3
    simp at h3
  · intro p hp ih sp h1 h2 h3
    rw [drop_cons hp] at h3
    refine vX3_placeOf_4 (bLe (fun h => absurd h (by omega)) (fun _ => bBit (fun e => ?_) (fun e => bNe (fun e2 => ?_) (fun e2 => ?_)) hx))
    · rw [List.filter_cons_of_neg (by rw [e]; decide)] at h3
      rw [nI_add]
      exact ih sp h1 (by omega) h3
    · rw [List.filter_cons_of_pos e, show q - sp = (q - (sp + 1)) + 1 by omega, List.getElem?_cons_succ] at h3
      rw [nI_add, nI_add]
      exact ih (sp + 1) (by omega) (by omega) h3
    · rw [List.filter_cons_of_pos e, show q - sp = 0 by omega, List.getElem?_cons_zero] at h3
      rw [Option.some.inj h3]
      exact k
theorem c_gapAt (hr : isNt r) (ht : isTab t) (hT : Tab c t n mir N) (hN : NetAt c r s lab) (hv : ∀ p q, p < s → q < s → lab p q < 4) {q : Int32} (hq : -1 ≤ q) {K : Int32 → gk_H → Prop} (k : K (gAns q 0 (gpL N n s lab)) (Hm c)) : RnI E mX3_gapAt (dd + 2, 0, 0) [.ref r, .ref t, .int q] (Hm c) K := by
  have h6 := hN.2.1
  refine vX3_gapAt_0 ?_
  refine down (P := fun i => ∀ seen, seen ≤ 96 * i → (q = -1 ∨ seen ≤ w q) → K (gAns q seen (((List.range s).drop i).flatMap (fun i => ((List.range s).drop i).flatMap (fun j => blk N n s lab i j)))) (Hm c) → pX3_gapAt_5 E (dd + 1) r t q (nI seen) (nI i) (Hm c) K) s ?_ ?_ 0 (Nat.zero_le _) 0 (by omega) (Or.inr (Nat.zero_le _)) k
  · intro seen hs hw k
    rw [drop_end] at k
    refine vX3_gapAt_5 (ldI hr.1 rfl ?_)
    rw [hN.1]
    refine bLe (fun _ => ⟨fun e => ?_, fun e => ?_⟩) (fun h => absurd h (by omega))
    · rw [gAns, if_neg e] at k; exact k
    · rw [gAns, if_pos e] at k; exact k
  · intro i hi ih seen hs hw k
    refine vX3_gapAt_5 (ldI hr.1 rfl ?_)
    rw [hN.1]
    refine bLe (fun h => absurd h (by omega)) (fun _ => ?_)
    rw [drop_cons hi, List.flatMap_cons] at k
    refine down (P := fun j => i ≤ j → ∀ seen, seen ≤ 96 * i + 16 * j → (q = -1 ∨ seen ≤ w q) → K (gAns q seen (((List.range s).drop j).flatMap (fun j => blk N n s lab i j) ++ (((List.range s).drop (i + 1)).flatMap (fun i => ((List.range s).drop i).flatMap (fun j => blk N n s lab i j))))) (Hm c) → pX3_gapAt_18 E (dd + 1) r t q (nI seen) (nI i) (nI j) (Hm c) K) s ?_ ?_ i (by omega) (Nat.le_refl _) seen (by omega) hw k
    · intro hj seen hs hw k
      rw [drop_end, List.flatMap_nil, List.nil_append] at k
      refine vX3_gapAt_18 (ldI hr.1 rfl ?_)
      rw [hN.1, nI_add]
      exact bLe (fun _ => ih seen (by omega) hw k) (fun h => absurd h (by omega))
    · intro j hj ih2 hij seen hs hw k
      refine vX3_gapAt_18 (ldI hr.1 rfl ?_)
      rw [hN.1, nI_add]
      have hol := opn_lt N n s lab i j
      refine bLe (fun h => absurd h (by omega)) (fun _ => ⟨obj hr.1, c_open hr ht hT hN hv hi hj (c_bitCountI (by omega) ?_)⟩)
      rw [drop_cons hj, List.flatMap_cons, List.append_assoc] at k
      have hlen : pop (opn N n s lab i j) 32 = (blk N n s lab i j).length := by rw [blk, List.length_map, opn, pop_bfn]
      have hl16 : (blk N n s lab i j).length ≤ 16 := by rw [blk, List.length_map]; exact Nat.le_trans (List.length_filter_le _ _) (by simp)
      simp only [hlen, nI_add]
      rcases ge_m1 hq with e | ⟨qq, hqq, e⟩
      · subst e
        refine ⟨fun _ => ?_, fun e2 => absurd (show (-1 : Int32) < nI seen from ?_) e2⟩
        · refine ih2 (by omega) (seen + (blk N n s lab i j).length) (by omega) (Or.inl rfl) ?_
          rw [gAns, if_pos rfl, List.length_append, ← Nat.add_assoc] at k
          rw [gAns, if_pos rfl]
          exact k
        · rw [Int32.lt_iff_toInt_lt, nI_toInt (by omega)]
          have : (-1 : Int32).toInt = -1 := rfl
          omega
      · subst e
        rw [w_nI hqq] at hw
        have hne : nI qq ≠ -1 := fun z => by
          have h1 := nI_toInt hqq
          rw [z] at h1
          have : (-1 : Int32).toInt = -1 := rfl
          omega
        have hsq : seen ≤ qq := hw.resolve_left hne
        rw [gAns, if_neg hne, w_nI hqq] at k
        refine bLt (fun e => absurd e (by omega)) (fun _ => bLe (fun e => ?_) (fun e => ?_))
        · refine ih2 (by omega) (seen + (blk N n s lab i j).length) (by omega) (Or.inr (by rw [w_nI hqq]; exact e)) ?_
          rw [gAns, if_neg hne, w_nI hqq]
          rw [List.getElem?_append_right (by omega)] at k
          rw [show qq - (seen + (blk N n s lab i j).length) = qq - seen - (blk N n s lab i j).length by omega]
          exact k
        · rw [List.getElem?_append_left (by omega)] at k
          rw [pk_sub hsq]
          have hb : (blk N n s lab i j)[qq - seen]? = (((List.range 16).filter (fun m => (opn N n s lab i j).testBit m))[qq - seen]?).map (gC i j) := by rw [blk, List.getElem?_map, opn, fil_bfn]
          rw [hb] at k
          have hlt : qq - seen < ((List.range 16).filter (fun m => (opn N n s lab i j).testBit m)).length := by rw [opn, fil_bfn]; rw [blk, List.length_map] at e; omega
          obtain ⟨m, hm⟩ : ∃ m, ((List.range 16).filter (fun m => (opn N n s lab i j).testBit m))[qq - seen]? = some m := ⟨_, List.getElem?_eq_getElem hlt⟩
          rw [hm] at k
          have hm16 : m < 16 := List.mem_range.mp (List.mem_filter.mp (List.mem_of_getElem? hm)).1
          exact c_placeOf (by omega) (by omega) hm (c_gapNumber hm16 k)
end GA
