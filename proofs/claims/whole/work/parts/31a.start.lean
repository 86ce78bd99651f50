/-! the claim -/
abbrev gk_flat : List Cond := flatC (Jvm.Cond.and given_1 narrow_1)
theorem gk_hts {b : Nat} {s : State} (hts : ∀ w ∈ lw_tbl, w.before #[Value.ref b] s = true) : ∀ w ∈ gk_T, w.before #[Value.ref b] s = true := by
  intro w hw
  rcases List.mem_append.mp (List.mem_filter.mp hw).1 with h | h
  · have p1 : Cond.privateMethod yX10_settle ∈ lw_tbl := (t3k (List.mem_of_getElem? (i := 145) rfl))
    have p2 : Cond.instanceMethod yX10_settle ∈ lw_tbl := (t3k (List.mem_of_getElem? (i := 146) rfl))
    have p3 : Cond.privateMethod yX10_turn ∈ lw_tbl := (t3k (List.mem_of_getElem? (i := 169) rfl))
    have p4 : Cond.instanceMethod yX10_turn ∈ lw_tbl := (t3k (List.mem_of_getElem? (i := 170) rfl))
    have q4 : Cond.selects RX4 ⟨RX4, "span", "(III)V"⟩ ⟨RX10, "span", "(III)V"⟩ ∈ lw_tbl := (t3k (List.mem_of_getElem? (i := 188) rfl))
    have q5 : Cond.selects RX5 ⟨RX5, "span", "(III)V"⟩ ⟨RX10, "span", "(III)V"⟩ ∈ lw_tbl := (t4k (List.mem_of_getElem? (i := 141) rfl))
    have q6 : Cond.selects RX6 ⟨RX6, "span", "(III)V"⟩ ⟨RX10, "span", "(III)V"⟩ ∈ lw_tbl := (t3k (List.mem_of_getElem? (i := 129) rfl))
    simp only [gk_x, List.mem_cons, List.not_mem_nil, or_false] at h
    rcases h with rfl | rfl | rfl | rfl | rfl | rfl
    · exact gk_sel (z := ⟨RX10, "span", "(III)V"⟩) ⟨by decide, by decide⟩ rfl (hts _ q4) (hts _ p1) (hts _ p2)
    · exact gk_sel (z := ⟨RX10, "span", "(III)V"⟩) ⟨by decide, by decide⟩ rfl (hts _ q5) (hts _ p1) (hts _ p2)
    · exact gk_sel (z := ⟨RX10, "span", "(III)V"⟩) ⟨by decide, by decide⟩ rfl (hts _ q6) (hts _ p1) (hts _ p2)
    · exact gk_sel (z := ⟨RX10, "span", "(III)V"⟩) ⟨by decide, by decide⟩ rfl (hts _ q4) (hts _ p3) (hts _ p4)
    · exact gk_sel (z := ⟨RX10, "span", "(III)V"⟩) ⟨by decide, by decide⟩ rfl (hts _ q5) (hts _ p3) (hts _ p4)
    · exact gk_sel (z := ⟨RX10, "span", "(III)V"⟩) ⟨by decide, by decide⟩ rfl (hts _ q6) (hts _ p3) (hts _ p4)
  · exact hts w h
section ST0
variable {b : Nat} {s : State}
abbrev tmS : Nat → Term := fun i => Term.string RX9 (gk_pool.getD i 0)
set_option maxHeartbeats 4000000 in
theorem st_hex (hs : ∀ w ∈ gk_flat, w.before #[Value.ref b] s = true) : ∀ i : Nat, i < 6 → (Cond.exactly (tmS i) "java/lang/String").before #[Value.ref b] s = true := fun i hi => match i, hi with
  | 0, _ => hs _ (by decide +kernel)
  | 1, _ => hs _ (by decide +kernel)
  | 2, _ => hs _ (by decide +kernel)
  | 3, _ => hs _ (by decide +kernel)
  | 4, _ => hs _ (by decide +kernel)
  | 5, _ => hs _ (by decide +kernel)
  | i + 6, h => absurd h (by omega)
set_option maxHeartbeats 4000000 in
theorem st_hco (hs : ∀ w ∈ gk_flat, w.before #[Value.ref b] s = true) : ∀ i : Nat, i < 6 → (Cond.eq (.field (tmS i) "java/lang/String" "coder" "B") (.int 0)).before #[Value.ref b] s = true := fun i hi => match i, hi with
  | 0, _ => hs _ (by decide +kernel)
  | 1, _ => hs _ (by decide +kernel)
  | 2, _ => hs _ (by decide +kernel)
  | 3, _ => hs _ (by decide +kernel)
  | 4, _ => hs _ (by decide +kernel)
  | 5, _ => hs _ (by decide +kernel)
  | i + 6, h => absurd h (by omega)
set_option maxHeartbeats 4000000 in
theorem st_har (hs : ∀ w ∈ gk_flat, w.before #[Value.ref b] s = true) : ∀ i : Nat, i < 6 → (Cond.arrayOf (.field (tmS i) "java/lang/String" "value" "[B") .byte).before #[Value.ref b] s = true := fun i hi => match i, hi with
  | 0, _ => hs _ (by decide +kernel)
  | 1, _ => hs _ (by decide +kernel)
  | 2, _ => hs _ (by decide +kernel)
  | 3, _ => hs _ (by decide +kernel)
  | 4, _ => hs _ (by decide +kernel)
  | 5, _ => hs _ (by decide +kernel)
  | i + 6, h => absurd h (by omega)
set_option maxHeartbeats 4000000 in
theorem st_hle (hs : ∀ w ∈ gk_flat, w.before #[Value.ref b] s = true) : ∀ i : Nat, i < 6 → (Cond.eq (.length (.field (tmS i) "java/lang/String" "value" "[B")) (.int (Int32.ofNat (gk_len.getD i 0)))).before #[Value.ref b] s = true := fun i hi => match i, hi with
  | 0, _ => hs _ (by decide +kernel)
  | 1, _ => hs _ (by decide +kernel)
  | 2, _ => hs _ (by decide +kernel)
  | 3, _ => hs _ (by decide +kernel)
  | 4, _ => hs _ (by decide +kernel)
  | 5, _ => hs _ (by decide +kernel)
  | i + 6, h => absurd h (by omega)
set_option maxHeartbeats 4000000 in
theorem st_el0 (hs : ∀ w ∈ gk_flat, w.before #[Value.ref b] s = true) : ∀ j : Nat, j < 5 → (Cond.eq (.elem (.field (tmS 0) "java/lang/String" "value" "[B") (.int (Int32.ofNat j))) (.int ((gk_byt.getD 0 []).getD j 0))).before #[Value.ref b] s = true := fun j hj => match j, hj with
  | 0, _ => hs _ (by decide +kernel)
  | 1, _ => hs _ (by decide +kernel)
  | 2, _ => hs _ (by decide +kernel)
  | 3, _ => hs _ (by decide +kernel)
  | 4, _ => hs _ (by decide +kernel)
  | j + 5, h => absurd h (by omega)
set_option maxHeartbeats 4000000 in
theorem st_el1 (hs : ∀ w ∈ gk_flat, w.before #[Value.ref b] s = true) : ∀ j : Nat, j < 4 → (Cond.eq (.elem (.field (tmS 1) "java/lang/String" "value" "[B") (.int (Int32.ofNat j))) (.int ((gk_byt.getD 1 []).getD j 0))).before #[Value.ref b] s = true := fun j hj => match j, hj with
  | 0, _ => hs _ (by decide +kernel)
  | 1, _ => hs _ (by decide +kernel)
  | 2, _ => hs _ (by decide +kernel)
  | 3, _ => hs _ (by decide +kernel)
  | j + 4, h => absurd h (by omega)
set_option maxHeartbeats 4000000 in
theorem st_el2 (hs : ∀ w ∈ gk_flat, w.before #[Value.ref b] s = true) : ∀ j : Nat, j < 2 → (Cond.eq (.elem (.field (tmS 2) "java/lang/String" "value" "[B") (.int (Int32.ofNat j))) (.int ((gk_byt.getD 2 []).getD j 0))).before #[Value.ref b] s = true := fun j hj => match j, hj with
  | 0, _ => hs _ (by decide +kernel)
  | 1, _ => hs _ (by decide +kernel)
  | j + 2, h => absurd h (by omega)
set_option maxHeartbeats 4000000 in
theorem st_el3 (hs : ∀ w ∈ gk_flat, w.before #[Value.ref b] s = true) : ∀ j : Nat, j < 3 → (Cond.eq (.elem (.field (tmS 3) "java/lang/String" "value" "[B") (.int (Int32.ofNat j))) (.int ((gk_byt.getD 3 []).getD j 0))).before #[Value.ref b] s = true := fun j hj => match j, hj with
  | 0, _ => hs _ (by decide +kernel)
  | 1, _ => hs _ (by decide +kernel)
  | 2, _ => hs _ (by decide +kernel)
  | j + 3, h => absurd h (by omega)
set_option maxHeartbeats 4000000 in
theorem st_el4 (hs : ∀ w ∈ gk_flat, w.before #[Value.ref b] s = true) : ∀ j : Nat, j < 5 → (Cond.eq (.elem (.field (tmS 4) "java/lang/String" "value" "[B") (.int (Int32.ofNat j))) (.int ((gk_byt.getD 4 []).getD j 0))).before #[Value.ref b] s = true := fun j hj => match j, hj with
  | 0, _ => hs _ (by decide +kernel)
  | 1, _ => hs _ (by decide +kernel)
  | 2, _ => hs _ (by decide +kernel)
  | 3, _ => hs _ (by decide +kernel)
  | 4, _ => hs _ (by decide +kernel)
  | j + 5, h => absurd h (by omega)
set_option maxHeartbeats 4000000 in
theorem st_el5 (hs : ∀ w ∈ gk_flat, w.before #[Value.ref b] s = true) : ∀ j : Nat, j < 3 → (Cond.eq (.elem (.field (tmS 5) "java/lang/String" "value" "[B") (.int (Int32.ofNat j))) (.int ((gk_byt.getD 5 []).getD j 0))).before #[Value.ref b] s = true := fun j hj => match j, hj with
  | 0, _ => hs _ (by decide +kernel)
  | 1, _ => hs _ (by decide +kernel)
  | 2, _ => hs _ (by decide +kernel)
  | j + 3, h => absurd h (by omega)
set_option maxHeartbeats 8000000 in
theorem st_hne (hs : ∀ w ∈ gk_flat, w.before #[Value.ref b] s = true) : ∀ i j : Nat, i < 6 → j < 6 → i ≠ j → (Cond.not (Cond.eq (tmS i) (tmS j))).before #[Value.ref b] s = true ∨ (Cond.not (Cond.eq (tmS j) (tmS i))).before #[Value.ref b] s = true := by
  intro i j hi hj hij
  match i, hi with
  | 0, _ =>
    match j, hj with
    | 0, _ => exact absurd rfl hij
    | 1, _ => exact Or.inl (hs _ (by decide +kernel))
    | 2, _ => exact Or.inl (hs _ (by decide +kernel))
    | 3, _ => exact Or.inl (hs _ (by decide +kernel))
    | 4, _ => exact Or.inl (hs _ (by decide +kernel))
    | 5, _ => exact Or.inl (hs _ (by decide +kernel))
    | j + 6, h => omega
  | 1, _ =>
    match j, hj with
    | 0, _ => exact Or.inr (hs _ (by decide +kernel))
    | 1, _ => exact absurd rfl hij
    | 2, _ => exact Or.inl (hs _ (by decide +kernel))
    | 3, _ => exact Or.inl (hs _ (by decide +kernel))
    | 4, _ => exact Or.inl (hs _ (by decide +kernel))
    | 5, _ => exact Or.inl (hs _ (by decide +kernel))
    | j + 6, h => omega
  | 2, _ =>
    match j, hj with
    | 0, _ => exact Or.inr (hs _ (by decide +kernel))
    | 1, _ => exact Or.inr (hs _ (by decide +kernel))
    | 2, _ => exact absurd rfl hij
    | 3, _ => exact Or.inl (hs _ (by decide +kernel))
    | 4, _ => exact Or.inl (hs _ (by decide +kernel))
    | 5, _ => exact Or.inl (hs _ (by decide +kernel))
    | j + 6, h => omega
  | 3, _ =>
    match j, hj with
    | 0, _ => exact Or.inr (hs _ (by decide +kernel))
    | 1, _ => exact Or.inr (hs _ (by decide +kernel))
    | 2, _ => exact Or.inr (hs _ (by decide +kernel))
    | 3, _ => exact absurd rfl hij
    | 4, _ => exact Or.inl (hs _ (by decide +kernel))
    | 5, _ => exact Or.inl (hs _ (by decide +kernel))
    | j + 6, h => omega
  | 4, _ =>
    match j, hj with
    | 0, _ => exact Or.inr (hs _ (by decide +kernel))
    | 1, _ => exact Or.inr (hs _ (by decide +kernel))
    | 2, _ => exact Or.inr (hs _ (by decide +kernel))
    | 3, _ => exact Or.inr (hs _ (by decide +kernel))
    | 4, _ => exact absurd rfl hij
    | 5, _ => exact Or.inl (hs _ (by decide +kernel))
    | j + 6, h => omega
  | 5, _ =>
    match j, hj with
    | 0, _ => exact Or.inr (hs _ (by decide +kernel))
    | 1, _ => exact Or.inr (hs _ (by decide +kernel))
    | 2, _ => exact Or.inr (hs _ (by decide +kernel))
    | 3, _ => exact Or.inr (hs _ (by decide +kernel))
    | 4, _ => exact Or.inr (hs _ (by decide +kernel))
    | 5, _ => exact absurd rfl hij
    | j + 6, h => omega
  | i + 6, h => omega
end ST0
set_option maxHeartbeats 8000000 in
theorem gk_start {b L : Nat} {xs : Nat → Int32} {s : State} (l : Launch) (hts : ∀ w ∈ lw_tbl, w.before #[Value.ref b] s = true) (hX : va_X b L xs s s.heap) (hbl : b < s.heap.size) (hgv : (Jvm.Cond.and given_1 narrow_1).before #[Value.ref b] s = true) : ∃ (sa : Nat → Nat) (D : va_G) (cy : Nat → ClassId), gk_S (l, s.heap.size, sa, (b, L, xs), D, cy) s := by
  have hT := gk_hts hts
  have hs : ∀ w ∈ gk_flat, w.before #[Value.ref b] s = true := flat_of_before _ hgv
  have hA : ∀ a : Nat, a < s.heap.size → ¬ (fun q : Nat => s.heap.size ≤ q) a := fun a h q => absurd q (Nat.not_le.mpr h)
  obtain ⟨adK, adV, hSt, hEv⟩ := vk_Sof (tm := tmS) (len := gk_len) (byt := gk_byt) (by decide) (st_hex hs) (st_hco hs) (st_har hs) (st_hle hs) (fun i hi => match i, hi with
    | 0, _ => st_el0 hs
    | 1, _ => st_el1 hs
    | 2, _ => st_el2 hs
    | 3, _ => st_el3 hs
    | 4, _ => st_el4 hs
    | 5, _ => st_el5 hs
    | i + 6, h => absurd h (by omega)) (st_hne hs) hA
  have w1 : Cond.laysStatic "java/lang/String" "COMPACT_STRINGS" "Z" ∈ lw_tbl := (t4k (List.mem_of_getElem? (i := 204) rfl))
  have w2 : Cond.laysStatic "jdk/internal/util/Preconditions" "SIOOBE_FORMATTER" "Ljava/util/function/BiFunction;" ∈ lw_tbl := (t4k (List.mem_of_getElem? (i := 220) rfl))
  have w3 : Cond.initialized "java/lang/String" ∈ lw_tbl := (t1k (List.mem_of_getElem? (i := 17) rfl))
  have w4 : Cond.initialized "jdk/internal/util/Preconditions" ∈ lw_tbl := (t1k (List.mem_of_getElem? (i := 19) rfl))
  have w5 : Cond.declares ⟨"AtomTables$Wheels", "clash", "(I)I"⟩ ∈ lw_tbl := (t3k (List.mem_of_getElem? (i := 150) rfl))
  have w6 : Cond.arrayOver (.object RX3) ∈ lw_tbl := (t1k (List.mem_of_getElem? (i := 76) rfl))
  have w7 : Cond.arrayOver (.object RX6) ∈ lw_tbl := (t1k (List.mem_of_getElem? (i := 214) rfl))
  have w8 : Cond.arrayOver (.array .int) ∈ lw_tbl := (t1k (List.mem_of_getElem? (i := 216) rfl))
  have hZ1 := va_Zof (v := .int 1) (hts _ w1) (hts _ w3) (va_eqt (hs (.eq (.static "java/lang/String" "COMPACT_STRINGS" "Z") (.int 1)) (by decide +kernel))) hA
  have hZ2 := va_Zqof (hts _ w2) (hts _ w4) (hs (.isRef (.static "jdk/internal/util/Preconditions" "SIOOBE_FORMATTER" "Ljava/util/function/BiFunction;")) (by decide +kernel)) hA
  obtain ⟨t0, hZ2⟩ : ∃ t0 : Nat, va_Z "jdk/internal/util/Preconditions" "SIOOBE_FORMATTER" "Ljava/util/function/BiFunction;" .null (fun q : Nat => s.heap.size ≤ q) s s.heap ∨ va_Z "jdk/internal/util/Preconditions" "SIOOBE_FORMATTER" "Ljava/util/function/BiFunction;" (.ref t0) (fun q : Nat => s.heap.size ≤ q) s s.heap := by
    rcases hZ2 with h | ⟨t, h⟩
    · exact ⟨0, Or.inl h⟩
    · exact ⟨t, Or.inr h⟩
  obtain ⟨a0, i0, k0⟩ := u_known (C := RX0) (T := TX0) (N := 6) (n := 6) hT gclX0.2.1 (hT _ kx_318)
  obtain ⟨a1, i1, k1⟩ := u_known (C := RX1) (T := TX1) (N := 5) (n := 5) hT gclX1.2.1 (hT _ kx_247)
  obtain ⟨a2, i2, k2⟩ := u_known (C := RX2) (T := TX2) (N := 5) (n := 5) hT gclX2.2.1 (hT _ kx_289)
  obtain ⟨a3, i3, k3⟩ := u_known (C := RX3) (T := TX3) (N := 2) (n := 2) hT gclX3.2.1 (hT _ kx_160)
  obtain ⟨a4, i4, k4⟩ := u_known (C := RX4) (T := TX4) (N := 7) (n := 7) hT gclX4.2.1 (hT _ kx_202)
  obtain ⟨a5, i5, k5⟩ := u_known (C := RX5) (T := TX5) (N := 8) (n := 8) hT gclX5.2.1 (hT _ kx_350)
  obtain ⟨a6, i6, k6⟩ := u_known (C := RX6) (T := TX6) (N := 6) (n := 6) hT gclX6.2.1 (hT _ kx_255)
  obtain ⟨a7, i7, k7⟩ := u_known (C := RX7) (T := TX7) (N := 4) (n := 4) hT gclX7.2.1 (hT _ kx_113)
  obtain ⟨a8, i8, k8⟩ := u_known (C := RX8) (T := TX8) (N := 3) (n := 3) hT gclX8.2.1 (hT _ kx_119)
  obtain ⟨a9, i9, k9⟩ := u_known (C := RX9) (T := TX9) (N := 2) (n := 2) hT gclX9.2.1 (hT _ kx_374)
  obtain ⟨a10, i10, k10⟩ := u_known (C := RX11) (T := TX11) (N := 12) (n := 12) hT gclX11.2.1 (hT _ kx_105)
  obtain ⟨a11, i11, k11⟩ := u_known (C := RX12) (T := TX12) (N := 34) (n := 34) hT gclX12.2.1 (hT _ kx_1130)
  obtain ⟨y0, ky0, z0, n0, g0, d0⟩ := Cond.arrayClass_spec (hT (.arrayClass .int) kx_157)
  obtain ⟨y1, ky1, z1, n1, g1, d1⟩ := Cond.arrayClass_spec (hT (.arrayClass .long) kx_388)
  obtain ⟨y2, ky2, z2, n2, g2, d2⟩ := Cond.arrayClass_spec (hT (.arrayClass .byte) kx_389)
  obtain ⟨y3, ky3, z3, n3, g3, d3⟩ := Cond.arrayClass_spec (hT (.arrayClass .boolean) kx_1242)
  obtain ⟨y4, ky4, z4, n4, g4, d4⟩ := Cond.arrayClass_spec (hT (.arrayClass .char) kx_1243)
  obtain ⟨z5, y5, ky5, m5, -, g5, d5, n5⟩ := Cond.arrayOver_spec (hts _ w6)
  obtain ⟨z6, y6, ky6, m6, -, g6, d6, n6⟩ := Cond.arrayOver_spec (hts _ w7)
  obtain ⟨z7, y7, ky7, m7, -, g7, d7, n7⟩ := arrayOverA_spec (hts _ w8)
  obtain ⟨sa, sa1, sa2, sa3⟩ : ∃ sa : Nat → Nat, (∀ i, i < 6 → sa i = adK i) ∧ (∀ i, i < 6 → sa (100 + i) = adV i) ∧ sa 200 = t0 := ⟨fun k => if k < 100 then adK k else if k < 200 then adV (k - 100) else t0, fun i hi => if_pos (by omega), fun i hi => by
    show (if 100 + i < 100 then _ else if 100 + i < 200 then adV (100 + i - 100) else t0) = _
    rw [if_neg (by omega), if_pos (by omega), Nat.add_sub_cancel_left], rfl⟩
  refine ⟨sa, (fun k => [a0, a1, a2, a3, a4, a5, a6, a7, a8, a9, a10, a11].getD k 0, fun k => [i0, i1, i2, i3, i4, i5, i6, i7, i8, i9, i10, i11].getD k (fun _ => 0)), fun k => [y0, y1, y2, y3, y4, y5, y6, y7].getD k 0, ⟨⟨fun c q hq => ?_, fun k q hq => ?_⟩, hX, hbl, Nat.le_refl _, ⟨fun i hi => ?_, fun i j hi hj e => ?_⟩, fun i hi => ?_, hZ1, ⟨va_Nw.of rfl (hts _ w5), va_AO.of (hts _ w6), va_AO.of (hts _ w7), over_moved (Vm.Alike.refl s.vm) (hts _ w8)⟩, ?_⟩⟩
  · match c, hq with
    | 0, hq => cases hq; exact k0
    | 1, hq => cases hq; exact k1
    | 2, hq => cases hq; exact k2
    | 3, hq => cases hq; exact k3
    | 4, hq => cases hq; exact k4
    | 5, hq => cases hq; exact k5
    | 6, hq => cases hq; exact k6
    | 7, hq => cases hq; exact k7
    | 8, hq => cases hq; exact k8
    | 9, hq => cases hq; exact k9
    | 10, hq => cases hq; exact k10
    | 11, hq => cases hq; exact k11
    | c + 12, hq => simp [vwCl] at hq
  · match k, hq with
    | 0, hq => cases hq; exact ⟨fun n z => ⟨fun k h => (by cases h), ky0, g0, z0, d0⟩, n0⟩
    | 1, hq => cases hq; exact ⟨fun n z => ⟨fun k h => (by cases h), ky1, g1, z1, d1⟩, n1⟩
    | 2, hq => cases hq; exact ⟨fun n z => ⟨fun k h => (by cases h), ky2, g2, z2, d2⟩, n2⟩
    | 3, hq => cases hq; exact ⟨fun n z => ⟨fun k h => (by cases h), ky3, g3, z3, d3⟩, n3⟩
    | 4, hq => cases hq; exact ⟨fun n z => ⟨fun k h => (by cases h), ky4, g4, z4, d4⟩, n4⟩
    | 5, hq => cases hq; exact ⟨fun n z => ⟨fun k h => (by cases h), ky5, g5, z5, d5⟩, ky5, z5, g5, d5, m5, n5⟩
    | 6, hq => cases hq; exact ⟨fun n z => ⟨fun k h => (by cases h), ky6, g6, z6, d6⟩, ky6, z6, g6, d6, m6, n6⟩
    | 7, hq => cases hq; exact ⟨fun n z => ⟨fun k h => (by cases h), ky7, g7, z7, d7⟩, n7⟩
    | k + 8, hq => simp [gk_tys] at hq
  · show va_O "java/lang/String" (sa i) _ s s.heap ∧ va_OF "java/lang/String" "coder" "B" (.int 0) (sa i) _ s s.heap ∧ va_OF "java/lang/String" "value" "[B" (.ref (sa (100 + i))) (sa i) _ s s.heap ∧ va_T .byte (sa (100 + i)) (gk_len.getD i 0) (fun j => .int ((gk_byt.getD i []).getD j 0)) _ s s.heap
    rw [sa1 i hi, sa2 i hi]
    exact hSt.1 i hi
  · have e : sa i = sa j := e
    rw [sa1 i hi, sa1 j hj] at e
    exact hSt.2 i j hi hj e
  · show vk_R RX9 (gk_pool.getD i 0) (gk_str.getD i "") (sa i) s
    rw [sa1 i hi]
    have h2 := hEv i hi
    match i, hi, h2 with
    | 0, _, h2 => exact vk_R.of (hts (.stringRef RX9 37 "atoms") (t4k (List.mem_of_getElem? (i := 190) rfl))) h2
    | 1, _, h2 => exact vk_R.of (hts (.stringRef RX9 43 "pair") (t5k (List.mem_of_getElem? (i := 3) rfl))) h2
    | 2, _, h2 => exact vk_R.of (hts (.stringRef RX9 45 "in") (t5k (List.mem_of_getElem? (i := 4) rfl))) h2
    | 3, _, h2 => exact vk_R.of (hts (.stringRef RX9 47 "out") (t5k (List.mem_of_getElem? (i := 5) rfl))) h2
    | 4, _, h2 => exact vk_R.of (hts (.stringRef RX9 74 ";pair") (t5k (List.mem_of_getElem? (i := 53) rfl))) h2
    | 5, _, h2 => exact vk_R.of (hts (.stringRef RX9 87 ";in") (t5k (List.mem_of_getElem? (i := 60) rfl))) h2
    | i + 6, h, _ => omega
  · show va_Z _ _ _ .null _ s s.heap ∨ va_Z _ _ _ (.ref (sa 200)) _ s s.heap
    rw [sa3]
    exact hZ2
