/-! gap; whether a number is a gap -/
theorem nI_ne1 {q : Nat} (h : q < 2 ^ 31) : ¬ nI q = -1 := fun z => by
  have h1 := nI_toInt h
  rw [z] at h1
  have : (-1 : Int32).toInt = -1 := rfl
  omega
theorem neg_or {x : Int32} : x < 0 ∨ ∃ q, q < 2 ^ 31 ∧ x = nI q := by
  by_cases h : x < 0
  · exact Or.inl h
  · right
    rw [Int32.lt_iff_toInt_lt] at h
    have h0 : (0 : Int32).toInt = 0 := rfl
    have h4 := Int32.toInt_lt x
    refine ⟨x.toInt.toNat, by omega, Int32.toInt_inj.mp ?_⟩
    rw [nI_toInt (by omega)]
    omega
theorem nI_nn {q : Nat} (h : q < 2 ^ 31) : ¬ nI q < 0 := fun z => by
  rw [Int32.lt_iff_toInt_lt, nI_toInt h] at z
  have : (0 : Int32).toInt = 0 := rfl
  omega
def lkB (N n s : Nat) (lab : Nat → Nat → Nat) (g : Nat) : Bool := decide (g / 1000 ≤ g / 100 % 10 ∧ g / 100 % 10 < s ∧ g / 10 % 10 < n ∧ g % 10 < n) && opP N n lab (g / 1000) (g / 100 % 10) s (4 * (g / 10 % 10) + g % 10)
def lkX (N n s : Nat) (lab : Nat → Nat → Nat) (x : Int32) : Bool := if x < 0 then false else lkB N n s lab (w x)
theorem gdig {g : Nat} (hg : g < 2 ^ 31) : nI g / nI 1000 = nI (g / 1000) ∧ nI g / nI 100 - nI g / nI 100 / nI 10 * nI 10 = nI (g / 100 % 10) ∧ nI g / nI 10 - nI g / nI 10 / nI 10 * nI 10 = nI (g / 10 % 10) ∧ nI g - nI g / nI 10 * nI 10 = nI (g % 10) := by
  refine ⟨pk_div hg (by decide) (by decide), ?_, ?_, pk_rem hg (by decide) (by decide)⟩
  · rw [pk_div hg (by decide) (by decide), pk_rem (by omega) (by decide) (by decide)]
  · rw [pk_div hg (by decide) (by decide), pk_rem (by omega) (by decide) (by decide)]
theorem gdl (g : Nat) : g / 100 % 10 < 10 ∧ g / 10 % 10 < 10 ∧ g % 10 < 10 := ⟨Nat.mod_lt _ (by decide), Nat.mod_lt _ (by decide), Nat.mod_lt _ (by decide)⟩
theorem gC_of (g : Nat) (hb : g % 10 < 4) : gC (g / 1000) (g / 100 % 10) (4 * (g / 10 % 10) + g % 10) = g := by
  rw [gC_ab hb]
  have h1 : g / 10 = 10 * (g / 10 / 10) + g / 10 % 10 := by omega
  have h2 : g / 100 = 10 * (g / 100 / 10) + g / 100 % 10 := by omega
  have h3 : g / 10 / 10 = g / 100 := by rw [Nat.div_div_eq_div_mul]
  have h4 : g / 100 / 10 = g / 1000 := by rw [Nat.div_div_eq_div_mul]
  have h5 : g = 10 * (g / 10) + g % 10 := by omega
  omega
theorem lkB_gp {N n s g : Nat} {lab : Nat → Nat → Nat} (h4 : n ≤ 4) (h6 : s ≤ 6) : lkB N n s lab g = true ↔ g ∈ gpL N n s lab := by
  constructor
  · intro h
    unfold lkB at h
    rw [Bool.and_eq_true] at h
    obtain ⟨h1, h2, h3, h5⟩ := of_decide_eq_true h.1
    have := gpL_of h1 h2 (show 4 * (g / 10 % 10) + g % 10 < 16 by omega) h.2
    rw [gC_of g (by omega)] at this
    exact this
  · intro h
    obtain ⟨i, j, m, h1, h2, h3, h5, rfl⟩ := gpL_mem h
    have hd := gC_dig (i := i) (j := j) (m := m) (by omega) h3
    unfold lkB
    rw [hd.1, hd.2.1, hd.2.2.1, hd.2.2.2, show 4 * (m / 4) + m % 4 = m by omega, h5, Bool.and_true]
    have hr : opR n m = true := by
      unfold opP at h5
      cases hq : opR n m with
      | true => rfl
      | false => rw [hq] at h5; exact absurd h5 (by simp)
    have := of_decide_eq_true hr
    exact decide_eq_true ⟨h1, h2, by omega, by omega⟩
section GA
variable {E : gk_E} {dd : Nat} {c : gm} {r s t n N : Nat} {mir : Nat → Nat} {lab : Nat → Nat → Nat} {sz : szT} {lb : lbT}
theorem c_lacks (hr : isNt r) (ht : isTab t) (hT : Tab c t n mir N) (hN : NetAt c r s lab) (hv : ∀ p q, p < s → q < s → lab p q < 4) {x : Int32} {K : Int32 → gk_H → Prop} (k : K (bI (lkX N n s lab x)) (Hm c)) : RnI E mX3_lacks (dd + 2, 0, 0) [.ref r, .ref t, .int x] (Hm c) K := by
  have h4 := hT.2.2.1
  have h6 := hN.2.1
  refine vX3_lacks_0 ⟨fun e => ?_, fun e => ?_⟩
  · rw [lkX, if_pos e] at k; exact k
  · rw [lkX, if_neg e] at k
    obtain ⟨g, hg, rfl⟩ := neg_or.resolve_left e
    obtain ⟨e1, e2, e3, e5⟩ := gdig hg
    obtain ⟨l1, l2, l3⟩ := gdl g
    have l0 : g / 1000 < 2 ^ 31 := by omega
    rw [w_nI hg, lkB] at k
    simp only [e1, e2, e3, e5]
    generalize g / 1000 = i at *
    generalize g / 100 % 10 = j at *
    generalize g / 10 % 10 = a at *
    generalize g % 10 = b at *
    clear e1 e2 e3 e5 e
    refine bLt (fun e => ?_) (fun e => ldI hr.1 rfl ?_)
    · rw [decide_eq_false (by omega)] at k; exact k
    · rw [hN.1]
      refine bLe (fun e2 => ?_) (fun e2 => ldI ht.1 rfl ?_)
      · rw [decide_eq_false (by omega)] at k; exact k
      · rw [hT.1]
        refine bLe (fun e3 => ?_) (fun e3 => ldI ht.1 rfl ?_)
        · rw [decide_eq_false (by omega)] at k; exact k
        · rw [hT.1]
          refine bLt (fun e4 => ⟨obj hr.1, c_open hr ht hT hN hv (by omega) (by omega) ?_⟩) (fun e4 => ?_)
          · rw [decide_eq_true (by omega), Bool.true_and] at k
            have hb : (opn N n s lab i j).testBit (4 * a + b) = opP N n lab i j s (4 * a + b) := by
              rw [opn, bfn_bit, decide_eq_true (by omega), Bool.true_and]
            have hol := opn_lt N n s lab i j
            simp only [pk_mul, nI_add]
            refine bBit (fun q => ?_) (fun q => ?_)
            · rw [← hb, q] at k; exact k
            · rw [← hb, q] at k; exact k
          · rw [decide_eq_false (by omega)] at k; exact k
theorem n_isGapOf {i : Nat} (hi : i < 6) (hM : MT c n mir N) (hN : MNet c i s lab) (hv : Vl n mir s lab) {x : Int32} {K : Int32 → gk_H → Prop} (k : K (bI (lkX N n s lab x)) (Hm c)) : RnI E mX12_isGapOf (dd + 2, 0, 0) [.ref 68, .int (nI i), .int x] (Hm c) K := by
  have h4 := hM.n4
  have h6 := hN.2.1
  refine vX12_isGapOf_0 ⟨fun e => ?_, fun e => ⟨obj l68, ?_⟩⟩
  · rw [lkX, if_pos e] at k; exact k
  · rw [lkX, if_neg e] at k
    obtain ⟨g, hg, rfl⟩ := neg_or.resolve_left e
    obtain ⟨e1, e2, e3, e5⟩ := gdig hg
    obtain ⟨l1, l2, l3⟩ := gdl g
    have l0 : g / 1000 < 2 ^ 31 := by omega
    rw [w_nI hg, lkB] at k
    simp only [e1, e2, e3, e5]
    generalize g / 1000 = p at *
    generalize g / 100 % 10 = q at *
    generalize g / 10 % 10 = a at *
    generalize g % 10 = b at *
    clear e1 e2 e3 e5 e
    have hor : ∀ y, y < 10 → inR (nI y) 1 n = decide (1 ≤ y ∧ y < n) := fun y hy => by
      rw [inR_of (by omega)]
      congr 1
      apply propext
      omega
    have hon : ∀ y, y < 2 ^ 31 → inR (nI y) 0 s = decide (y < s) := fun y hy => by
      rw [inR_of hy]
      congr 1
      apply propext
      omega
    refine n_isNode hi hN ?_
    rw [hon p l0]
    refine bB0 (fun z1 => ?_) (fun z1 => ⟨obj l68, n_isNode hi hN ?_⟩)
    · have := of_decide_eq_false z1
      rw [decide_eq_false (by omega)] at k; exact k
    rw [hon q (by omega)]
    refine bB0 (fun z2 => ?_) (fun z2 => bLt (fun z3 => ?_) (fun z3 => ⟨obj l68, n_isOther hM ?_⟩))
    · have := of_decide_eq_false z2
      rw [decide_eq_false (by omega)] at k; exact k
    · rw [decide_eq_false (by omega)] at k; exact k
    have w1 := of_decide_eq_true z1
    have w2 := of_decide_eq_true z2
    have opz : ∀ m, m / 4 = 0 ∨ m % 4 = 0 → opP N n lab p q s m = false := fun m hm => opP_no (by omega)
    rw [hor a l2]
    refine bB0 (fun z4 => ?_) (fun z4 => ⟨obj l68, n_isOther hM ?_⟩)
    · have z5 := of_decide_eq_false z4
      by_cases ha : a < n
      · by_cases hb : b < n
        · rw [opz (4 * a + b) (by omega), Bool.and_false] at k; exact k
        · rw [decide_eq_false (by omega)] at k; exact k
      · rw [decide_eq_false (by omega)] at k; exact k
    rw [hor b l3]
    have w4 := of_decide_eq_true z4
    refine bB0 (fun z6 => ?_) (fun z6 => ⟨obj l68, n_isGap hi hM hN hv w1 w2 w4.1 w4.2 (of_decide_eq_true z6).1 (of_decide_eq_true z6).2 ?_⟩)
    · have z7 := of_decide_eq_false z6
      by_cases hb : b < n
      · rw [opz (4 * a + b) (by omega), Bool.and_false] at k; exact k
      · rw [decide_eq_false (by omega)] at k; exact k
    have w6 := of_decide_eq_true z6
    rw [decide_eq_true (by omega), Bool.true_and] at k
    exact bB0 (fun z => by rw [z] at k; exact k) (fun z => by rw [z] at k; exact k)
def sp_gp (n N : Nat) (sz : szT) (lb : lbT) (net q : Int32) : Int32 := if inR net 0 (3 : Nat) = true ∧ -1 ≤ q then gAns q 0 (gpL N n (sz (w net)) (lb (w net))) else -1
theorem c_gap (hT : Tab c 2 n mir N) (hN : NN c sz lb) (hV : VV n mir sz lb) {net q : Int32} {K : Int32 → gk_H → Prop} (k : K (sp_gp n N sz lb net q) (Hm c)) : RnI E mX11_gap (dd + 3, 0, 0) [.ref 0, .int net, .int q] (Hm c) K := by
  refine vX11_gap_0 (c_isNet (rng (by decide) (fun h => ?_) (fun j hj hx h => ⟨fun e => ldR l0 rfl (ldR l1 rfl ?_), fun e => ?_⟩)))
  · rw [sp_gp, if_neg (by rw [h]; simp)] at k; exact k
  · subst hx
    rw [sp_gp, if_pos ⟨h, e⟩, w_nI (by omega)] at k
    exact alR (t := 0) l4 hj (by decide) (nets_at j hj) (ldR l0 rfl (ldR l1 rfl ⟨obj (isNt_net hj).1, c_gapAt (isNt_net hj) isTab_2 hT (hN j hj) ((hV j hj).lt hT.2.2.1) e k⟩))
  · rw [sp_gp, if_neg (fun z => e z.2)] at k; exact k
theorem gpL_len {N n s : Nat} {lab : Nat → Nat → Nat} (h6 : s ≤ 6) : ∀ m g, (gpL N n s lab)[m]? = some g → m ≤ g ∧ g < 6000 := by
  intro m g hg
  obtain ⟨p, j, u, hpj, hj, hu, _, rfl⟩ := gpL_mem (List.mem_of_getElem? hg)
  refine ⟨?_, gC_lt (by omega) (by omega) hu⟩
  generalize gC p j u = g at *
  have hs := gpL_sorted (N := N) (n := n) (lab := lab) h6
  generalize gpL N n s lab = L at *
  clear hpj hj hu
  induction m generalizing g with
  | zero => exact Nat.zero_le _
  | succ m ih =>
    have hm : m + 1 < L.length := by
      rcases Nat.lt_or_ge (m + 1) L.length with h | h
      · exact h
      · rw [List.getElem?_eq_none h] at hg; exact absurd hg (by simp)
    have h1 : L[m]? = some L[m] := List.getElem?_eq_getElem (by omega)
    have h2 := ih _ h1
    have h3 : L[m] < L[m + 1] := List.pairwise_iff_getElem.mp hs m (m + 1) (by omega) hm (by omega)
    rw [List.getElem?_eq_getElem hm] at hg
    have := Option.some.inj hg
    omega
theorem n_gap (hM : MT c n mir N) (hN : MN c sz lb) (hV : VV n mir sz lb) {net q : Int32} {K : Int32 → gk_H → Prop} (k : K (sp_gp n N sz lb net q) (Hm c)) : RnI E mX12_gap (dd + 3, 0, 0) [.ref 68, .int net, .int q] (Hm c) K := by
  refine vX12_gap_0 (n_isNet (rng (by decide) (fun h => ?_) (fun j hj hx h => ⟨fun e => ⟨obj l68, ?_⟩, fun e => ?_⟩)))
  · rw [sp_gp, if_neg (by rw [h]; simp)] at k; exact k
  · subst hx
    rw [sp_gp, if_pos ⟨h, e⟩, w_nI (by omega)] at k
    have h6 := (hN j hj).2.1
    have hlen := gpL_len (N := N) (n := n) (lab := lb j) h6
    refine n_gapFirst (by omega) hM (hN j hj) (hV j hj) ?_
    have hL6 : (gpL N n (sz j) (lb j)).length ≤ 6000 := by
      rcases Nat.lt_or_ge 6000 (gpL N n (sz j) (lb j)).length with h | h
      · have := hlen 6000 _ (List.getElem?_eq_getElem h)
        omega
      · exact h
    have main : ∀ m, m ≤ (gpL N n (sz j) (lb j)).length → (q = -1 ∨ m ≤ w q) → pX12_gap_24 E (dd + 2) 68 (nI j) q (nI m) (orM (gpL N n (sz j) (lb j))[m]?) (Hm c) K := by
      refine down (P := fun m => (q = -1 ∨ m ≤ w q) → pX12_gap_24 E (dd + 2) 68 (nI j) q (nI m) (orM (gpL N n (sz j) (lb j))[m]?) (Hm c) K) (gpL N n (sz j) (lb j)).length ?_ ?_
      · intro hw
        rw [List.getElem?_eq_none (Nat.le_refl _)]
        refine vX12_gap_24 ⟨fun _ => ⟨fun z => ?_, fun z => ?_⟩, fun z => absurd rfl z⟩
        · rw [gAns, if_neg z, List.getElem?_eq_none (by have := hw.resolve_left z; omega)] at k
          exact k
        · rw [gAns, if_pos z, Nat.zero_add] at k
          exact k
      · intro m hm ih hw
        obtain ⟨g, hg⟩ : ∃ g, (gpL N n (sz j) (lb j))[m]? = some g := ⟨_, List.getElem?_eq_getElem hm⟩
        have hgl := hlen m g hg
        rw [hg]
        refine vX12_gap_24 ⟨fun z => absurd z (nI_ne1 (by omega)), fun _ => ⟨fun z => ⟨fun z2 => ?_, fun z2 => ?_⟩, fun z => ⟨obj l68, n_gapNext (by omega) hM (hN j hj) (hV j hj) hg ?_⟩⟩⟩
        · rw [gAns, if_neg z2, ← z, w_nI (by omega), Nat.sub_zero, hg] at k
          exact k
        · rw [z2] at z; exact absurd z (nI_ne1 (by omega))
        · rw [nI_add]
          refine ih ?_
          rcases ge_m1 e with e1 | ⟨qq, hqq, e1⟩
          · exact Or.inl e1
          · right
            subst e1
            rw [w_nI hqq] at hw ⊢
            have := hw.resolve_left (nI_ne1 hqq)
            have : m ≠ qq := fun y => z (by rw [y])
            omega
    exact main 0 (Nat.zero_le _) (Or.inr (Nat.zero_le _))
  · rw [sp_gp, if_neg (fun z => e z.2)] at k; exact k
end GA
