/-! the reference's gaps -/
theorem gC_dig {i j m : Nat} (hj : j < 10) (hm : m < 16) : gC i j m / 1000 = i ∧ gC i j m / 100 % 10 = j ∧ gC i j m / 10 % 10 = m / 4 ∧ gC i j m % 10 = m % 4 := by
  unfold gC
  have h1 : m / 4 < 4 := by omega
  have h2 : m % 4 < 4 := by omega
  generalize m / 4 = a at *
  generalize m % 4 = b at *
  clear hm
  refine ⟨by omega, by omega, by omega, by omega⟩
theorem gC_lt {i j m : Nat} (hi : i < 6) (hj : j < 6) (hm : m < 16) : gC i j m < 6000 := by
  unfold gC
  have h1 : m / 4 < 4 := by omega
  have h2 : m % 4 < 4 := by omega
  omega
theorem gC_ab {i j a b : Nat} (hb : b < 4) : gC i j (4 * a + b) = 1000 * i + 100 * j + 10 * a + b := by
  unfold gC
  rw [show (4 * a + b) / 4 = a by omega, show (4 * a + b) % 4 = b by omega]
/-- the first gap from lo on -/
def gS (N n s : Nat) (lab : Nat → Nat → Nat) (lo i j m : Nat) : Option Nat := if opP N n lab i j s m = true ∧ lo ≤ gC i j m then some (gC i j m) else none
def gI (N n s : Nat) (lab : Nat → Nat → Nat) (lo i : Nat) (j0 : Nat) : Option Nat := ffrom s (fun j => ffrom 16 (gS N n s lab lo i j) 0) j0
theorem blk_find {N n s lo i j : Nat} {lab : Nat → Nat → Nat} : (blk N n s lab i j).find? (fun g => decide (lo ≤ g)) = ffrom 16 (gS N n s lab lo i j) 0 := by
  unfold blk ffrom
  rw [List.drop_zero, List.find?_map, List.find?_filter]
  generalize List.range 16 = l
  induction l with
  | nil => rfl
  | cons m l ih =>
    rw [List.find?_cons, List.findSome?_cons]
    have e0 : gS N n s lab lo i j m = if opP N n lab i j s m = true ∧ lo ≤ gC i j m then some (gC i j m) else none := rfl
    rw [e0]
    by_cases h : opP N n lab i j s m = true ∧ lo ≤ gC i j m
    · rw [if_pos h, decide_eq_true (p := (opP N n lab i j s m = true ∧ ((fun g => decide (lo ≤ g)) ∘ gC i j) m = true)) ⟨h.1, decide_eq_true h.2⟩]
      rfl
    · rw [if_neg h, decide_eq_false (p := (opP N n lab i j s m = true ∧ ((fun g => decide (lo ≤ g)) ∘ gC i j) m = true)) (fun z => h ⟨z.1, of_decide_eq_true z.2⟩)]
      exact ih
theorem gpL_find {N n s lo : Nat} {lab : Nat → Nat → Nat} : (gpL N n s lab).find? (fun g => decide (lo ≤ g)) = ffrom s (fun i => gI N n s lab lo i i) 0 := by
  unfold gpL
  rw [List.find?_flatMap]
  unfold ffrom gI
  rw [List.drop_zero]
  congr 1
  funext i
  rw [List.find?_flatMap]
  unfold ffrom
  congr 1
  funext j
  exact blk_find
theorem gpL_mem {N n s g : Nat} {lab : Nat → Nat → Nat} (h : g ∈ gpL N n s lab) : ∃ i j m, i ≤ j ∧ j < s ∧ m < 16 ∧ opP N n lab i j s m = true ∧ g = gC i j m := by
  unfold gpL at h
  obtain ⟨i, hi, h⟩ := List.mem_flatMap.mp h
  obtain ⟨j, hj, h⟩ := List.mem_flatMap.mp h
  unfold blk at h
  obtain ⟨m, hm, rfl⟩ := List.mem_map.mp h
  obtain ⟨hm1, hm2⟩ := List.mem_filter.mp hm
  obtain ⟨k, hk, hk2⟩ := List.mem_iff_getElem.mp hj
  rw [List.getElem_drop, List.getElem_range] at hk2
  rw [List.length_drop, List.length_range] at hk
  exact ⟨i, j, m, by omega, by omega, List.mem_range.mp hm1, hm2, rfl⟩
theorem mem_drop_range {n i j : Nat} : j ∈ (List.range n).drop i ↔ i ≤ j ∧ j < n := by
  rw [List.mem_iff_getElem]
  constructor
  · rintro ⟨k, hk, rfl⟩
    rw [List.getElem_drop, List.getElem_range]
    rw [List.length_drop, List.length_range] at hk
    omega
  · intro h
    refine ⟨j - i, by rw [List.length_drop, List.length_range]; omega, ?_⟩
    rw [List.getElem_drop, List.getElem_range]
    omega
theorem gpL_of {N n s i j m : Nat} {lab : Nat → Nat → Nat} (hij : i ≤ j) (hj : j < s) (hm : m < 16) (h : opP N n lab i j s m = true) : gC i j m ∈ gpL N n s lab :=
  List.mem_flatMap.mpr ⟨i, List.mem_range.mpr (by omega), List.mem_flatMap.mpr ⟨j, mem_drop_range.mpr ⟨hij, hj⟩, List.mem_map.mpr ⟨m, List.mem_filter.mpr ⟨List.mem_range.mpr hm, h⟩, rfl⟩⟩⟩
theorem blk_mem {N n s i j g : Nat} {lab : Nat → Nat → Nat} (h : g ∈ blk N n s lab i j) : 1000 * i + 100 * j ≤ g ∧ g < 1000 * i + 100 * j + 34 := by
  obtain ⟨m, hm, rfl⟩ := List.mem_map.mp h
  have hm1 := List.mem_range.mp (List.mem_filter.mp hm).1
  unfold gC
  have h1 : m / 4 < 4 := by omega
  have h2 : m % 4 < 4 := by omega
  omega
theorem range_lt (n : Nat) : (List.range n).Pairwise (· < ·) := List.pairwise_lt_range
theorem blk_sorted {N n s i j : Nat} {lab : Nat → Nat → Nat} : (blk N n s lab i j).Pairwise (· < ·) := by
  unfold blk
  rw [List.pairwise_map]
  refine ((range_lt 16).filter _).imp (fun {a b} h => ?_)
  unfold gC
  have : a < b := h
  have h1 : a / 4 ≤ b / 4 := Nat.div_le_div_right (by omega)
  have h2 : a % 4 < 4 := by omega
  have h3 : a = 4 * (a / 4) + a % 4 := by omega
  have h4 : b = 4 * (b / 4) + b % 4 := by omega
  omega
theorem gpL_sorted {N n s : Nat} {lab : Nat → Nat → Nat} (h6 : s ≤ 6) : (gpL N n s lab).Pairwise (· < ·) := by
  unfold gpL
  rw [List.pairwise_flatMap]
  refine ⟨fun i _ => ?_, ?_⟩
  · rw [List.pairwise_flatMap]
    refine ⟨fun j _ => blk_sorted, ?_⟩
    refine ((range_lt s).sublist (List.drop_sublist _ _)).imp (fun {a b} h x hx y hy => ?_)
    have h1 := blk_mem hx
    have h2 := blk_mem hy
    have : a < b := h
    omega
  · refine (range_lt s).imp (fun {a b} h x hx y hy => ?_)
    obtain ⟨j, hj, hx⟩ := List.mem_flatMap.mp hx
    obtain ⟨j', hj', hy⟩ := List.mem_flatMap.mp hy
    have h1 := blk_mem hx
    have h2 := blk_mem hy
    have h3 := mem_drop_range.mp hj
    have h4 := mem_drop_range.mp hj'
    have : a < b := h
    omega
theorem find_next : ∀ {L : List Nat} {m g : Nat}, L.Pairwise (· < ·) → L[m]? = some g → L.find? (fun x => decide (g + 1 ≤ x)) = L[m + 1]?
  | [], m, g, _, h => by simp at h
  | x :: xs, 0, g, hp, h => by
    rw [List.getElem?_cons_zero] at h
    obtain rfl := Option.some.inj h
    rw [List.find?_cons, decide_eq_false (by omega)]
    show xs.find? _ = (x :: xs)[0 + 1]?
    rw [List.getElem?_cons_succ]
    cases xs with
    | nil => rfl
    | cons y ys =>
      have : x < y := (List.pairwise_cons.mp hp).1 y List.mem_cons_self
      rw [List.find?_cons, decide_eq_true (by omega), List.getElem?_cons_zero]
  | x :: xs, m + 1, g, hp, h => by
    rw [List.getElem?_cons_succ] at h
    have : x < g := (List.pairwise_cons.mp hp).1 g (List.mem_of_getElem? h)
    rw [List.find?_cons, decide_eq_false (by omega), List.getElem?_cons_succ]
    exact find_next (List.pairwise_cons.mp hp).2 h
section GR
variable {E : gk_E} {dd : Nat} {c : gm} {i s n N : Nat} {mir : Nat → Nat} {lab : Nat → Nat → Nat}
theorem n_isGap (hi : i < 6) (hM : MT c n mir N) (hN : MNet c i s lab) (hv : Vl n mir s lab) {p q a b : Nat} (hp : p < s) (hq : q < s) (ha1 : 1 ≤ a) (ha : a < n) (hb1 : 1 ≤ b) (hb : b < n) {K : Int32 → gk_H → Prop} (k : K (bI (opP N n lab p q s (4 * a + b))) (Hm c)) : RnI E mX12_isGap (dd + 1, 0, 0) [.ref 68, .int (nI i), .int (nI p), .int (nI q), .int (nI a), .int (nI b)] (Hm c) K := by
  have h4 := hM.n4
  have h6 := hN.2.1
  have hv4 := hv.lt h4
  have er : opR n (4 * a + b) = true := by
    unfold opR
    rw [show (4 * a + b) / 4 = a by omega, show (4 * a + b) % 4 = b by omega]
    exact decide_eq_true ⟨ha1, ha, hb1, hb⟩
  have ei : 4 * (4 * a + b) + lab p q = ix a b (lab p q) := by unfold ix; omega
  rw [opP, er, ei, Bool.true_and] at k
  refine vX12_isGap_0 ⟨obj l68, n_labelOf hi hN hv.z hp hq ⟨obj l68, n_is hM ha hb (hv p q hp hq).1 (bBn (fun e => ?_) (fun e => ?_))⟩⟩
  · rw [e, Bool.true_and] at k
    refine down (P := fun t => K (bI (((List.range s).drop t).all (fun u => 4 * lab p u + lab u q != 4 * a + b))) (Hm c) → pX12_isGap_23 E dd 68 (nI i) (nI p) (nI q) (nI a) (nI b) (nI t) (Hm c) K) s ?_ ?_ 0 (Nat.zero_le _) k
    · intro k
      rw [drop_end] at k
      refine vX12_isGap_23 (ldR l68 rfl (alI l71 hi (by decide) ?_))
      rw [hN.1]
      exact bLe (fun _ => k) (fun h => absurd h (by omega))
    · intro t ht ih k
      have g1 := hv4 p t hp ht
      have g2 := hv4 t q ht hq
      rw [drop_cons ht, List.all_cons] at k
      refine vX12_isGap_23 (ldR l68 rfl (alI l71 hi (by decide) ?_))
      rw [hN.1, nI_add]
      refine bLe (fun h => absurd h (by omega)) (fun _ => ⟨obj l68, n_labelOf hi hN hv.z hp ht (bNe (fun e1 => ?_) (fun e1 => ⟨obj l68, n_labelOf hi hN hv.z ht hq (bNe (fun e2 => ?_) (fun e2 => ?_))⟩))⟩)
      · rw [bne_iff_ne.mpr (by omega), Bool.true_and] at k
        exact ih k
      · rw [bne_iff_ne.mpr (by omega), Bool.true_and] at k
        exact ih k
      · rw [e1, e2, bne_self_eq_false, Bool.false_and] at k
        exact k
  · rw [e, Bool.false_and] at k
    exact k
/-- from place j on, and from all later ones -/
theorem n_gb54 (hi : i < 6) (hM : MT c n mir N) (hN : MNet c i s lab) (hv : Vl n mir s lab) {x2 x3 : Int32} {lo : Nat} (hlo : ∀ v, v < 6000 → (nI v ≤ x2 ↔ v < lo)) {K : Int32 → gk_H → Prop} {p : Nat} (hp : p < s) (A : Option Nat) (ih : K (orM A) (Hm c) → pX12_gapBehind_18 E (dd + 1) 68 (nI i) x2 x3 (nI (p + 1)) (Hm c) K) : ∀ j, j ≤ s → p ≤ j → K (orM ((gI N n s lab lo p j).or A)) (Hm c) → pX12_gapBehind_54 E (dd + 1) 68 (nI i) x2 x3 (nI p) (nI j) (Hm c) K := by
  have h1 := hM.n1
  have h4 := hM.n4
  have h6 := hN.2.1
  intro j hj
  refine down (P := fun j => p ≤ j → K (orM ((gI N n s lab lo p j).or A)) (Hm c) → pX12_gapBehind_54 E (dd + 1) 68 (nI i) x2 x3 (nI p) (nI j) (Hm c) K) s ?_ ?_ j hj
  · intro _ k
    rw [gI, ffrom_end, Option.none_or] at k
    refine vX12_gapBehind_54 (ldR l68 rfl (alI l71 hi (by decide) ?_))
    rw [hN.1, nI_add]
    exact bLe (fun _ => ih k) (fun h => absurd h (by omega))
  · intro j hj ih2 hpj k
    refine vX12_gapBehind_54 (ldR l68 rfl (alI l71 hi (by decide) ?_))
    rw [hN.1]
    refine bLe (fun h => absurd h (by omega)) (fun _ => ?_)
    rw [gI, ffrom_step _ hj, Option.or_assoc, ← gI] at k
    have no : ∀ m, ¬ (1 ≤ m / 4 ∧ m / 4 < n ∧ 1 ≤ m % 4 ∧ m % 4 < n) → gS N n s lab lo p j m = none := fun m hm => by
      rw [gS, if_neg (fun z => ?_)]
      rw [opP_no hm] at z
      exact absurd z.1 (by decide)
    rw [ffrom_skip (j := 4 * 1 + 1) (by omega) (by omega) (fun m _ hm => no m (by omega))] at k
    refine downF (P := fun a => K (orM ((if a < n then ffrom 16 (gS N n s lab lo p j) (4 * a + 1) else none).or ((gI N n s lab lo p (j + 1)).or A))) (Hm c) → pX12_gapBehind_68 E (dd + 1) 68 (nI i) x2 x3 (nI p) (nI j) (nI a) (Hm c) K) 1 n h1 ?_ ?_ ?_
    · intro k
      rw [if_neg (by omega), Option.none_or] at k
      refine vX12_gapBehind_68 (ldI l68 rfl ?_)
      rw [hM.hn, nI_add]
      exact bLe (fun _ => ih2 (by omega) k) (fun h => absurd h (by omega))
    · intro a ha1 ha ih3 k
      rw [if_pos ha] at k
      refine vX12_gapBehind_68 (ldI l68 rfl ?_)
      rw [hM.hn]
      refine bLe (fun h => absurd h (by omega)) (fun _ => ?_)
      refine downF (P := fun b => K (orM ((ffrom 16 (gS N n s lab lo p j) (4 * a + b)).or ((gI N n s lab lo p (j + 1)).or A))) (Hm c) → pX12_gapBehind_80 E (dd + 1) 68 (nI i) x2 x3 (nI p) (nI j) (nI a) (nI b) (Hm c) K) 1 n h1 ?_ ?_ k
      · intro k
        refine vX12_gapBehind_80 (ldI l68 rfl ?_)
        rw [hM.hn, nI_add]
        refine bLe (fun _ => ih3 ?_) (fun h => absurd h (by omega))
        by_cases e : a + 1 < n
        · rw [if_pos e]
          rw [ffrom_skip (j := 4 * (a + 1) + 1) (by omega) (by omega) (fun m _ hm => no m (by omega))] at k
          exact k
        · rw [if_neg e]
          rw [ffrom_skip (j := 16) (by omega) (by omega) (fun m _ hm => no m (by omega)), ffrom_end] at k
          exact k
      · intro b hb1 hb ih4 k
        refine vX12_gapBehind_80 (ldI l68 rfl ?_)
        simp only [hM.hn, nI_add, pk_mul]
        have hg := gC_ab (i := p) (j := j) (a := a) (b := b) (by omega)
        have hgl : gC p j (4 * a + b) < 6000 := gC_lt (by omega) (by omega) (by omega)
        rw [← hg]
        refine bLe (fun h => absurd h (by omega)) (fun _ => ⟨fun e => ?_, fun e => ⟨obj l68, n_isGap hi hM hN hv hp hj ha1 ha hb1 hb (bB0 (fun e2 => ?_) (fun e2 => ?_))⟩⟩)
        · rw [ffrom_none (by omega) (by rw [gS, if_neg (fun z => ?_)]; have := (hlo _ hgl).mp e; omega)] at k
          exact ih4 k
        · rw [ffrom_none (by omega) (by rw [gS, e2, if_neg (fun z => absurd z.1 (by decide))])] at k
          exact ih4 k
        · rw [ffrom_some (v := gC p j (4 * a + b)) (by omega) (by rw [gS, if_pos ⟨e2, Nat.le_of_not_lt (fun z => e ((hlo _ hgl).mpr z))⟩])] at k
          exact k
    · by_cases e : 1 < n
      · rw [if_pos e]; exact k
      · rw [if_neg e]
        rw [ffrom_skip (j := 16) (by omega) (by omega) (fun m _ hm => no m (by omega)), ffrom_end] at k
        exact k
theorem n_gb18 (hi : i < 6) (hM : MT c n mir N) (hN : MNet c i s lab) (hv : Vl n mir s lab) {x2 x3 : Int32} {lo : Nat} (hlo : ∀ v, v < 6000 → (nI v ≤ x2 ↔ v < lo)) {K : Int32 → gk_H → Prop} {p0 : Nat} (hx : x2 = -1 ∨ ∀ p, p0 ≤ p → p < s → nI p ≠ x3) : ∀ p, p0 ≤ p → p ≤ s → K (orM (ffrom s (fun i => gI N n s lab lo i i) p)) (Hm c) → pX12_gapBehind_18 E (dd + 1) 68 (nI i) x2 x3 (nI p) (Hm c) K := by
  have h6 := hN.2.1
  intro p hp0 hp
  refine down (P := fun p => p0 ≤ p → K (orM (ffrom s (fun i => gI N n s lab lo i i) p)) (Hm c) → pX12_gapBehind_18 E (dd + 1) 68 (nI i) x2 x3 (nI p) (Hm c) K) s ?_ ?_ p hp hp0
  · intro _ k
    rw [ffrom_end] at k
    refine vX12_gapBehind_18 (ldR l68 rfl (alI l71 hi (by decide) ?_))
    rw [hN.1]
    exact bLe (fun _ => k) (fun h => absurd h (by omega))
  · intro p hp ih hp0 k
    refine vX12_gapBehind_18 (ldR l68 rfl (alI l71 hi (by decide) ?_))
    rw [hN.1]
    rw [ffrom_step _ hp] at k
    have h54 := n_gb54 hi hM hN hv hlo hp _ (ih (by omega)) p (by omega) (Nat.le_refl _) k
    refine bLe (fun h => absurd h (by omega)) (fun _ => ⟨fun _ => h54, fun e => ⟨fun _ => h54, fun e2 => ?_⟩⟩)
    rcases hx with h | h
    · exact absurd h e
    · exact absurd e2 (h p hp0 hp)
theorem n_gapFirst (hi : i < 6) (hM : MT c n mir N) (hN : MNet c i s lab) (hv : Vl n mir s lab) {K : Int32 → gk_H → Prop} (k : K (orM (gpL N n s lab)[0]?) (Hm c)) : RnI E mX12_gapBehind (dd + 2, 0, 0) [.ref 68, .int (nI i), .int (-1)] (Hm c) K := by
  refine vX12_gapBehind_0 ⟨fun e => absurd rfl e, fun _ => ?_⟩
  refine n_gb18 (lo := 0) (p0 := 0) hi hM hN hv (fun v hv => ?_) (Or.inl rfl) 0 (Nat.zero_le _) (Nat.zero_le _) ?_
  · refine ⟨fun h => ?_, fun h => absurd h (by omega)⟩
    rw [Int32.le_iff_toInt_le, nI_toInt (by omega)] at h
    have : (-1 : Int32).toInt = -1 := rfl
    omega
  · rw [← gpL_find]
    cases hL : gpL N n s lab with
    | nil => rw [hL] at k; exact k
    | cons x xs =>
      rw [hL] at k
      rw [List.find?_cons, decide_eq_true (Nat.zero_le _)]
      exact k
theorem n_gapNext (hi : i < 6) (hM : MT c n mir N) (hN : MNet c i s lab) (hv : Vl n mir s lab) {m g : Nat} (hg : (gpL N n s lab)[m]? = some g) {K : Int32 → gk_H → Prop} (k : K (orM (gpL N n s lab)[m + 1]?) (Hm c)) : RnI E mX12_gapBehind (dd + 2, 0, 0) [.ref 68, .int (nI i), .int (nI g)] (Hm c) K := by
  have h6 := hN.2.1
  obtain ⟨p, j, u, hpj, hj, hu, _, rfl⟩ := gpL_mem (List.mem_of_getElem? hg)
  have hgl : gC p j u < 6000 := gC_lt (by omega) (by omega) hu
  have hd := gC_dig (i := p) (j := j) (m := u) (by omega) hu
  have hne : ¬ nI (gC p j u) = -1 := fun z => by
    have h1 := nI_toInt (show gC p j u < 2 ^ 31 by omega)
    rw [z] at h1
    have : (-1 : Int32).toInt = -1 := rfl
    omega
  have hlo : ∀ v, v < 6000 → (nI v ≤ nI (gC p j u) ↔ v < gC p j u + 1) := fun v hv => by
    rw [nI_leI (by omega) (by omega)]
    omega
  refine vX12_gapBehind_0 ⟨fun _ => ?_, fun e => absurd e hne⟩
  rw [pk_div (by omega) (by decide) (by decide), hd.1]
  rw [← find_next (gpL_sorted h6) hg, gpL_find] at k
  have low : ∀ i' j' m', j' < s → m' < 16 → (i' < p ∨ i' = p ∧ j' < j) → gS N n s lab (gC p j u + 1) i' j' m' = none := fun i' j' m' h1 h2 h3 => by
    rw [gS, if_neg (fun z => ?_)]
    have e1 : m' / 4 < 4 := by omega
    have e2 : m' % 4 < 4 := by omega
    have := z.2
    unfold gC at this
    omega
  have low2 : ∀ i' j', j' < s → (i' < p ∨ i' = p ∧ j' < j) → ffrom 16 (gS N n s lab (gC p j u + 1) i' j') 0 = none := fun i' j' h1 h3 => by
    rw [ffrom_skip (j := 16) (by omega) (Nat.le_refl _) (fun m' _ hm => low i' j' m' h1 hm h3), ffrom_end]
  rw [ffrom_skip (j := p) (Nat.zero_le _) (by omega) (fun i' _ hi' => by rw [gI, ffrom_skip (j := s) (by omega) (Nat.le_refl _) (fun j' _ hj' => low2 i' j' hj' (Or.inl hi')), ffrom_end]), ffrom_step _ (by omega)] at k
  have e3 : gI N n s lab (gC p j u + 1) p p = gI N n s lab (gC p j u + 1) p j := by
    unfold gI
    exact ffrom_skip hpj (by omega) (fun j' _ hj' => low2 p j' (by omega) (Or.inr ⟨rfl, hj'⟩))
  rw [e3] at k
  have h54 := n_gb54 (E := E) (dd := dd) (x3 := nI p) hi hM hN hv hlo (p := p) (by omega) _ (n_gb18 (x3 := nI p) (p0 := p + 1) hi hM hN hv hlo (Or.inr (fun q hq hq2 z => absurd ((nI_eq (by omega) (by omega)).mp z) (by omega))) (p + 1) (Nat.le_refl _) (by omega)) j (by omega) hpj k
  refine vX12_gapBehind_18 (ldR l68 rfl (alI l71 hi (by decide) ?_))
  rw [hN.1]
  refine bLe (fun h => absurd h (by omega)) (fun _ => ⟨fun e => absurd e hne, fun _ => ⟨fun e => absurd rfl e, fun _ => ?_⟩⟩)
  rw [pk_div (by omega) (by decide) (by decide), pk_rem (by omega) (by decide) (by decide), hd.2.1]
  exact h54
end GR
