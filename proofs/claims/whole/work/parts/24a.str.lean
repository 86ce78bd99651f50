/-! String constants: length, charAt -/
theorem ks_len : Cond.instanceMethod yJ0_length_8abf5 ∈ gk_T := gk_in (t4k (List.mem_of_getElem? (i := 196) rfl)) rfl
theorem ks_len2 : Cond.selects "java/lang/String" yJ0_length_8abf5 yJ0_length_8abf5 ∈ gk_T := gk_in (t4k (List.mem_of_getElem? (i := 197) rfl)) rfl
theorem ks_cod0 : Cond.methodLink "java/lang/String" 335 yJ0_coder_7d493 ∈ gk_T := gk_in (t4k (List.mem_of_getElem? (i := 199) rfl)) rfl
theorem ks_cod : Cond.instanceMethod yJ0_coder_7d493 ∈ gk_T := gk_in (t4k (List.mem_of_getElem? (i := 200) rfl)) rfl
theorem ks_cod2 : Cond.selects "java/lang/String" yJ0_coder_7d493 yJ0_coder_7d493 ∈ gk_T := gk_in (t4k (List.mem_of_getElem? (i := 201) rfl)) rfl
theorem ks_chr : Cond.instanceMethod yJ0_charAt_5068e ∈ gk_T := gk_in (t4k (List.mem_of_getElem? (i := 206) rfl)) rfl
theorem ks_chr2 : Cond.selects "java/lang/String" yJ0_charAt_5068e yJ0_charAt_5068e ∈ gk_T := gk_in (t4k (List.mem_of_getElem? (i := 207) rfl)) rfl
theorem ks_lat0 : Cond.methodLink "java/lang/String" 492 yJ0_isLatin1_aae02 ∈ gk_T := gk_in (t4k (List.mem_of_getElem? (i := 209) rfl)) rfl
theorem ks_lat : Cond.instanceMethod yJ0_isLatin1_aae02 ∈ gk_T := gk_in (t4k (List.mem_of_getElem? (i := 210) rfl)) rfl
theorem ks_lat2 : Cond.selects "java/lang/String" yJ0_isLatin1_aae02 yJ0_isLatin1_aae02 ∈ gk_T := gk_in (t4k (List.mem_of_getElem? (i := 211) rfl)) rfl
theorem ks_s1 : Cond.initialized "java/lang/String" ∈ gk_T := gk_in (t1k (List.mem_of_getElem? (i := 17) rfl)) rfl
theorem ks_s2 : Cond.initialized "java/lang/StringLatin1" ∈ gk_T := gk_in (t1k (List.mem_of_getElem? (i := 18) rfl)) rfl
theorem ks_s3 : Cond.initialized "jdk/internal/util/Preconditions" ∈ gk_T := gk_in (t1k (List.mem_of_getElem? (i := 19) rfl)) rfl
theorem cs_495 : gk_Cs "java/lang/String" 495 mJ1_charAt_3b067 2 := ⟨okJ1_charAt_3b067, gk_in (t4k (List.mem_of_getElem? (i := 213) rfl)) rfl, gk_in (t4k (List.mem_of_getElem? (i := 214) rfl)) rfl, ks_s2⟩
theorem cs_9 : gk_Cs "java/lang/StringLatin1" 9 mJ0_checkIndex_df160 2 := ⟨okJ0_checkIndex_df160, gk_in (t4k (List.mem_of_getElem? (i := 216) rfl)) rfl, gk_in (t4k (List.mem_of_getElem? (i := 217) rfl)) rfl, ks_s1⟩
theorem cs_1059 : gk_Cs "java/lang/String" 1059 mJ3_checkIndex_8e157 3 := ⟨okJ3_checkIndex_8e157, gk_in (t4k (List.mem_of_getElem? (i := 221) rfl)) rfl, gk_in (t4k (List.mem_of_getElem? (i := 222) rfl)) rfl, ks_s3⟩
section ST
variable {E : gk_E} {dd i j : Nat} {h : gk_H}
theorem s_coder (hi : i < 6) {K : Int32 → gk_H → Prop} (k : K 0 h) : RnI E mJ0_coder_7d493 (dd, 0, 0) [.ref (1000001 + i)] h K := by
  show gk_G E mJ0_coder_7d493 (dd, 0, 0) 0 [(0, .ref (1000001 + i))] [] h (fun o h1 => ∃ v, o = some (.int v) ∧ K v h1)
  refine gk_gets (pc := 0) (DJ0_coder_7d493_0.at 0 rfl) kw_1006 ?_
  refine gk_if_eq (pc := 3) 13 (DJ0_coder_7d493_0.at 1 rfl) (by decide) (fun c => absurd c (by decide)) (fun _ => ?_)
  refine gk_aload_n (pc := 6) (DJ0_coder_7d493_0.at 2 rfl) 0 rfl rfl ?_
  refine gk_sgetC (pc := 7) (DJ0_coder_7d493_0.at 3 rfl) hi kw_1637 ?_
  refine gk_goto (pc := 10) 14 (DJ0_coder_7d493_0.at 4 rfl) (by decide) ?_
  exact gk_ireturn (pc := 14) .byte (DJ0_coder_7d493_0.at 6 rfl) rfl rfl ⟨_, rfl, k⟩
theorem s_length (hi : i < 6) {K : Int32 → gk_H → Prop} (k : K (nI (gk_len.getD i 0)) h) : RnI E mJ0_length_8abf5 (dd + 1, 0, 0) [.ref (1000001 + i)] h K := by
  show gk_G E mJ0_length_8abf5 (dd + 1, 0, 0) 0 [(0, .ref (1000001 + i))] [] h (fun o h1 => ∃ v, o = some (.int v) ∧ K v h1)
  refine gk_aload_n (pc := 0) (DJ0_length_8abf5_0.at 0 rfl) 0 rfl rfl ?_
  refine gk_sget (pc := 1) (DJ0_length_8abf5_0.at 1 rfl) hi kw_1636 ?_
  refine gk_slen (pc := 4) (DJ0_length_8abf5_0.at 2 rfl) hi ?_
  refine gk_aload_n (pc := 5) (DJ0_length_8abf5_0.at 3 rfl) 0 rfl rfl ?_
  refine gk_callT (pc := 6) [] [.int (nI (gk_len.getD i 0))] (DJ0_length_8abf5_0.at 4 rfl) okJ0_coder_7d493 rfl ks_cod0 ks_cod ks_cod2 ks_s1 hi rfl rfl (Nat.le_of_ble_eq_true rfl) (Nat.le_of_ble_eq_true rfl) (gk_Run.post (fun o h1 z => ?_) (s_coder (K := fun v h' => v = 0 ∧ h' = h) hi ⟨rfl, rfl⟩))
  obtain ⟨v1, rfl, rfl, rfl⟩ := z
  refine gk_ishr (pc := 9) (DJ0_length_8abf5_0.at 5 rfl) ?_
  refine gk_ireturn (pc := 10) .int (DJ0_length_8abf5_0.at 6 rfl) rfl rfl ⟨_, rfl, ?_⟩
  have : ∀ i, i < 6 → nI (gk_len.getD i 0) >>> ((0 : Int32) &&& 31) = nI (gk_len.getD i 0) := by decide
  rw [this i hi]
  exact k
theorem s_isLatin1 (hi : i < 6) {K : Int32 → gk_H → Prop} (k : K 1 h) : RnI E mJ0_isLatin1_aae02 (dd, 0, 0) [.ref (1000001 + i)] h K := by
  show gk_G E mJ0_isLatin1_aae02 (dd, 0, 0) 0 [(0, .ref (1000001 + i))] [] h (fun o h1 => ∃ v, o = some (.int v) ∧ K v h1)
  refine gk_gets (pc := 0) (DJ0_isLatin1_aae02_0.at 0 rfl) kw_1006 ?_
  refine gk_if_eq (pc := 3) 17 (DJ0_isLatin1_aae02_0.at 1 rfl) (by decide) (fun c => absurd c (by decide)) (fun _ => ?_)
  refine gk_aload_n (pc := 6) (DJ0_isLatin1_aae02_0.at 2 rfl) 0 rfl rfl ?_
  refine gk_sgetC (pc := 7) (DJ0_isLatin1_aae02_0.at 3 rfl) hi kw_1637 ?_
  refine gk_if_ne (pc := 10) 17 (DJ0_isLatin1_aae02_0.at 4 rfl) (by decide) (fun c => absurd rfl c) (fun _ => ?_)
  refine gk_iconst (pc := 13) 1 (DJ0_isLatin1_aae02_0.at 5 rfl) rfl ?_
  refine gk_goto (pc := 14) 18 (DJ0_isLatin1_aae02_0.at 6 rfl) (by decide) ?_
  exact gk_ireturn (pc := 18) .boolean (DJ0_isLatin1_aae02_0.at 8 rfl) rfl rfl ⟨_, rfl, k⟩
theorem s_check3 {m : Nat} (hj : j < m) (hm : m < 2 ^ 31) {v : Value} (hv : v = .null ∨ v = .ref 1000201) {K : Int32 → gk_H → Prop} (k : K (nI j) h) : RnI E mJ3_checkIndex_8e157 (dd, 0, 0) [.int (nI j), .int (nI m), v] h K := by
  have go : gk_G E mJ3_checkIndex_8e157 (dd, 0, 0) 0 [(0, .int (nI j)), (1, .int (nI m)), (2, v)] [] h (fun o h1 => ∃ v, o = some (.int v) ∧ K v h1) := by
    refine gk_iload_n (pc := 0) (DJ3_checkIndex_8e157_0.at 0 rfl) 0 rfl rfl ?_
    refine gk_if_lt (pc := 1) 9 (DJ3_checkIndex_8e157_0.at 1 rfl) (by decide) (fun c => absurd c (nI_nn (by omega))) (fun _ => ?_)
    refine gk_iload_n (pc := 4) (DJ3_checkIndex_8e157_0.at 2 rfl) 0 rfl rfl ?_
    refine gk_iload_n (pc := 5) (DJ3_checkIndex_8e157_0.at 3 rfl) 1 rfl rfl ?_
    refine gk_icmp_lt (pc := 6) 16 (DJ3_checkIndex_8e157_0.at 4 rfl) (by decide) (fun _ => ?_) (fun c => absurd ((nI_ltI (by omega) hm).mpr hj) c)
    refine gk_iload_n (pc := 16) (DJ3_checkIndex_8e157_0.at 10 rfl) 0 rfl rfl ?_
    exact gk_ireturn (pc := 17) .int (DJ3_checkIndex_8e157_0.at 11 rfl) rfl rfl ⟨_, rfl, k⟩
  rcases hv with rfl | rfl
  · exact go
  · exact go
theorem s_check {m : Nat} (hj : j < m) (hm : m < 2 ^ 31) {K : gk_H → Prop} (k : K h) : RnV E mJ0_checkIndex_df160 (dd + 1, 0, 0) [.int (nI j), .int (nI m)] h K := by
  show gk_G E mJ0_checkIndex_df160 (dd + 1, 0, 0) 0 [(0, .int (nI j)), (1, .int (nI m))] [] h (fun o h1 => o = none ∧ K h1)
  refine gk_iload_n (pc := 0) (DJ0_checkIndex_df160_0.at 0 rfl) 0 rfl rfl ?_
  refine gk_iload_n (pc := 1) (DJ0_checkIndex_df160_0.at 1 rfl) 1 rfl rfl ?_
  refine gk_getsQ (pc := 2) (DJ0_checkIndex_df160_0.at 2 rfl) kw_1022 ?_ ?_
  · refine gk_vS (pc := 5) [.int (nI j), .int (nI m), .null] [] (DJ0_checkIndex_df160_0.at 3 rfl) cs_1059 rfl rfl (Nat.le_of_ble_eq_true rfl) (Nat.le_of_ble_eq_true rfl) (gk_Run.post (fun o h1 z => ?_) (s_check3 (K := fun v h' => h' = h) hj hm (Or.inl rfl) rfl))
    obtain ⟨v1, rfl, rfl⟩ := z
    refine gk_pop (pc := 8) (DJ0_checkIndex_df160_0.at 4 rfl) rfl ?_
    exact gk_return (pc := 9) (DJ0_checkIndex_df160_0.at 5 rfl) rfl ⟨rfl, k⟩
  · refine gk_vS (pc := 5) [.int (nI j), .int (nI m), .ref 1000201] [] (DJ0_checkIndex_df160_0.at 3 rfl) cs_1059 rfl rfl (Nat.le_of_ble_eq_true rfl) (Nat.le_of_ble_eq_true rfl) (gk_Run.post (fun o h1 z => ?_) (s_check3 (K := fun v h' => h' = h) hj hm (Or.inr rfl) rfl))
    obtain ⟨v1, rfl, rfl⟩ := z
    refine gk_pop (pc := 8) (DJ0_checkIndex_df160_0.at 4 rfl) rfl ?_
    exact gk_return (pc := 9) (DJ0_checkIndex_df160_0.at 5 rfl) rfl ⟨rfl, k⟩
/-- a letter of a constant -/
def chS (i j : Nat) : Int32 := (gk_byt.getD i []).getD j 0
theorem chS_c : ∀ i, i < 6 → ∀ j, j < 5 → ((chS i j &&& 255).toUInt32 % 65536).toInt32 = chS i j ∧ narrow .char (.int (chS i j)) = .int (chS i j) := by decide
theorem len5 : ∀ i, i < 6 → gk_len.getD i 0 ≤ 5 := by decide
theorem s_char1 (hi : i < 6) (hj : j < gk_len.getD i 0) {K : Int32 → gk_H → Prop} (k : K (chS i j) h) : RnI E mJ1_charAt_3b067 (dd + 2, 0, 0) [.ref (1000101 + i), .int (nI j)] h K := by
  have l5 := len5 i hi
  have hc := chS_c i hi j (by omega)
  show gk_G E mJ1_charAt_3b067 (dd + 2, 0, 0) 0 [(0, .ref (1000101 + i)), (1, .int (nI j))] [] h (fun o h1 => ∃ v, o = some (.int v) ∧ K v h1)
  refine gk_iload_n (pc := 0) (DJ1_charAt_3b067_0.at 0 rfl) 1 rfl rfl ?_
  refine gk_aload_n (pc := 1) (DJ1_charAt_3b067_0.at 1 rfl) 0 rfl rfl ?_
  refine gk_slen (pc := 2) (DJ1_charAt_3b067_0.at 2 rfl) hi ?_
  refine gk_vS (pc := 3) [.int (nI j), .int (nI (gk_len.getD i 0))] [] (DJ1_charAt_3b067_0.at 3 rfl) cs_9 rfl rfl (Nat.le_of_ble_eq_true rfl) (Nat.le_of_ble_eq_true rfl) (gk_Run.post (fun o h1 z => ?_) (s_check (K := fun h' => h' = h) hj (by omega) rfl))
  obtain ⟨rfl, rfl⟩ := z
  refine gk_aload_n (pc := 6) (DJ1_charAt_3b067_0.at 4 rfl) 0 rfl rfl ?_
  refine gk_iload_n (pc := 7) (DJ1_charAt_3b067_0.at 5 rfl) 1 rfl rfl ?_
  refine gk_sbald (pc := 8) (DJ1_charAt_3b067_0.at 6 rfl) hi hj ?_
  refine gk_sipush (pc := 9) 255 (DJ1_charAt_3b067_0.at 7 rfl) (by decide) ?_
  refine gk_iand (pc := 12) (DJ1_charAt_3b067_0.at 8 rfl) ?_
  refine gk_i2c (pc := 13) (DJ1_charAt_3b067_0.at 9 rfl) ?_
  have e : (((gk_byt.getD i []).getD j 0 &&& 255).toUInt32 % 65536).toInt32 = chS i j := hc.1
  rw [e]
  exact gk_ireturn (pc := 14) .char (DJ1_charAt_3b067_0.at 10 rfl) rfl hc.2 ⟨_, rfl, k⟩
theorem s_charAt (hi : i < 6) (hj : j < gk_len.getD i 0) {K : Int32 → gk_H → Prop} (k : K (chS i j) h) : RnI E mJ0_charAt_5068e (dd + 3, 0, 0) [.ref (1000001 + i), .int (nI j)] h K := by
  have l5 := len5 i hi
  have hc := chS_c i hi j (by omega)
  show gk_G E mJ0_charAt_5068e (dd + 3, 0, 0) 0 [(0, .ref (1000001 + i)), (1, .int (nI j))] [] h (fun o h1 => ∃ v, o = some (.int v) ∧ K v h1)
  refine gk_aload_n (pc := 0) (DJ0_charAt_5068e_0.at 0 rfl) 0 rfl rfl ?_
  refine gk_callT (pc := 1) [] [] (DJ0_charAt_5068e_0.at 1 rfl) okJ0_isLatin1_aae02 rfl ks_lat0 ks_lat ks_lat2 ks_s1 hi rfl rfl (Nat.le_of_ble_eq_true rfl) (Nat.le_of_ble_eq_true rfl) (gk_Run.post (fun o h1 z => ?_) (s_isLatin1 (K := fun v h' => v = 1 ∧ h' = h) hi ⟨rfl, rfl⟩))
  obtain ⟨v1, rfl, rfl, rfl⟩ := z
  refine gk_if_eq (pc := 4) 16 (DJ0_charAt_5068e_0.at 2 rfl) (by decide) (fun c => absurd c (by decide)) (fun _ => ?_)
  refine gk_aload_n (pc := 7) (DJ0_charAt_5068e_0.at 3 rfl) 0 rfl rfl ?_
  refine gk_sget (pc := 8) (DJ0_charAt_5068e_0.at 4 rfl) hi kw_1636 ?_
  refine gk_iload_n (pc := 11) (DJ0_charAt_5068e_0.at 5 rfl) 1 rfl rfl ?_
  refine gk_vS (pc := 12) [.ref (1000101 + i), .int (nI j)] [] (DJ0_charAt_5068e_0.at 6 rfl) cs_495 rfl rfl (Nat.le_of_ble_eq_true rfl) (Nat.le_of_ble_eq_true rfl) (gk_Run.post (fun o h2 z => ?_) (s_char1 (K := fun v h' => v = chS i j ∧ h' = h1) hi hj ⟨rfl, rfl⟩))
  obtain ⟨v2, rfl, rfl, rfl⟩ := z
  exact gk_ireturn (pc := 15) .char (DJ0_charAt_5068e_0.at 7 rfl) rfl hc.2 ⟨_, rfl, k⟩
def pX9_isWord_15 (E : gk_E) (dd i o : Nat) (x1 x2 x4 : Int32) (h : gk_H) (K : Int32 → gk_H → Prop) : Prop := gk_G E mX9_isWord (dd + 4, 0, 0) 15 [(4, .int x4), (0, .ref o), (1, .int x1), (2, .int x2), (3, .ref (1000001 + i))] [] h (fun o h1 => ∃ v, o = some (.int v) ∧ K v h1)
theorem vX9_isWord_15 (hi : i < 6) {o : Nat} {x1 x2 : Int32} {K : Int32 → gk_H → Prop} (hj31 : j < 2 ^ 31) (hv : (gk_len.getD i 0 ≤ j → K (nI 1) h) ∧ (j < gk_len.getD i 0 → LdR h o 9 1 fun v1 => AlB h v1 (x1 + nI j) fun v2 => (v2 = chS i j → pX9_isWord_15 E dd i o x1 x2 (nI j + nI 1) h K) ∧ (¬ v2 = chS i j → K (nI 0) h))) : pX9_isWord_15 E dd i o x1 x2 (nI j) h K := by
  have l5 := len5 i hi
  show gk_G E mX9_isWord (dd + 4, 0, 0) 15 [(4, .int (nI j)), (0, .ref o), (1, .int x1), (2, .int x2), (3, .ref (1000001 + i))] [] h (fun o h1 => ∃ v, o = some (.int v) ∧ K v h1)
  refine gk_iload (pc := 15) (DX9_isWord_0.at 10 rfl) 0 rfl ?_
  refine gk_aload_n (pc := 17) (DX9_isWord_0.at 11 rfl) 4 rfl rfl ?_
  refine gk_callT (pc := 18) [] [.int (nI j)] (DX9_isWord_0.at 12 rfl) okJ0_length_8abf5 rfl kw_998 ks_len ks_len2 ks_s1 hi rfl rfl (Nat.le_of_ble_eq_true rfl) (Nat.le_of_ble_eq_true rfl) (gk_Run.post (fun o h1 z => ?_) (s_length (dd := dd + 2) (K := fun v h' => v = nI (gk_len.getD i 0) ∧ h' = h) hi ⟨rfl, rfl⟩))
  obtain ⟨v1, rfl, rfl, rfl⟩ := z
  refine gk_icmp_ge (pc := 21) 50 (DX9_isWord_0.at 13 rfl) (by decide) (fun q => ?_) (fun q => ?_)
  · refine gk_iconst (pc := 50) (nI 1) (DX9_isWord_0.at 28 rfl) ci_1 ?_
    exact gk_ireturn (pc := 51) .boolean (DX9_isWord_0.at 29 rfl) rfl rfl ⟨_, rfl, hv.1 ((nI_leI (by omega) hj31).mp q)⟩
  · have hj : j < gk_len.getD i 0 := Nat.lt_of_not_le (fun z => q ((nI_leI (by omega) hj31).mpr z))
    have hv := hv.2 hj
    obtain ⟨fs1, v1, q1, r1, hv⟩ := hv
    refine gk_aload_n (pc := 24) (DX9_isWord_0.at 14 rfl) 1 rfl rfl ?_
    refine gk_get (pc := 25) (.ref v1) (DX9_isWord_0.at 15 rfl) fX9_15_9 q1 r1 ?_
    refine gk_iload_n (pc := 28) (DX9_isWord_0.at 16 rfl) 2 rfl rfl ?_
    refine gk_iload (pc := 29) (DX9_isWord_0.at 17 rfl) 0 rfl ?_
    refine gk_iadd (pc := 31) (DX9_isWord_0.at 18 rfl) ?_
    obtain ⟨n2, f2, q2, r2, hv⟩ := hv
    refine gk_bald (pc := 32) (DX9_isWord_0.at 19 rfl) q2 r2 ?_
    generalize f2 _ = v2 at hv ⊢
    refine gk_aload_n (pc := 33) (DX9_isWord_0.at 20 rfl) 4 rfl rfl ?_
    refine gk_iload (pc := 34) (DX9_isWord_0.at 21 rfl) 0 rfl ?_
    refine gk_callT (pc := 36) [.int (nI j)] [.int v2] (DX9_isWord_0.at 22 rfl) okJ0_charAt_5068e rfl kw_1008 ks_chr ks_chr2 ks_s1 hi rfl rfl (Nat.le_of_ble_eq_true rfl) (Nat.le_of_ble_eq_true rfl) (gk_Run.post (fun o h2 z => ?_) (s_charAt (dd := dd) (K := fun v h' => v = chS i j ∧ h' = h1) hi hj ⟨rfl, rfl⟩))
    obtain ⟨v3, rfl, rfl, rfl⟩ := z
    refine gk_icmp_eq (pc := 39) 44 (DX9_isWord_0.at 23 rfl) (by decide) (fun e => ?_) (fun e => ?_)
    · refine gk_iinc (pc := 44) (nI j + nI 1) [(4, .int (nI j + nI 1)), (0, .ref o), (1, .int x1), (2, .int x2), (3, .ref (1000001 + i))] 0 (DX9_isWord_0.at 26 rfl) rfl (by rw [ci_1]) (Nat.le_of_ble_eq_true rfl) rfl ?_
      refine gk_goto (pc := 47) 15 (DX9_isWord_0.at 27 rfl) (by decide) ?_
      exact hv.1 e
    · refine gk_iconst (pc := 42) (nI 0) (DX9_isWord_0.at 24 rfl) ci_0 ?_
      exact gk_ireturn (pc := 43) .boolean (DX9_isWord_0.at 25 rfl) rfl rfl ⟨_, rfl, hv.2 e⟩
/-- whether a constant stands there -/
def isWdF (tb : Nat → Nat) (a i : Nat) (j : Nat) : Option Nat := if nI (tb (a + j)) = chS i j then none else some 0
def wdB (tb : Nat → Nat) (a b i : Nat) : Bool := decide (b - a = gk_len.getD i 0) && (ffrom (gk_len.getD i 0) (isWdF tb a i) 0).isNone
variable {c : gm} {t : Nat} {tb : Nat → Nat}
theorem c_isWord (hT : TpC c 64 t tb) (hi : i < 6) {a b : Nat} (hab : a ≤ b) (hb : b ≤ t) {K : Int32 → gk_H → Prop} (k : K (bI (wdB tb a b i)) (Hm c)) : RnI E mX9_isWord (dd + 4, 0, 0) [.ref 64, .int (nI a), .int (nI b), .ref (1000001 + i)] (Hm c) K := by
  have t100 := hT.2.1
  have l5 := len5 i hi
  unfold wdB at k
  show gk_G E mX9_isWord (dd + 4, 0, 0) 0 [(0, .ref 64), (1, .int (nI a)), (2, .int (nI b)), (3, .ref (1000001 + i))] [] (Hm c) (fun o h1 => ∃ v, o = some (.int v) ∧ K v h1)
  refine gk_iload_n (pc := 0) (DX9_isWord_0.at 0 rfl) 2 rfl rfl ?_
  refine gk_iload_n (pc := 1) (DX9_isWord_0.at 1 rfl) 1 rfl rfl ?_
  refine gk_isub (pc := 2) (DX9_isWord_0.at 2 rfl) ?_
  refine gk_aload_n (pc := 3) (DX9_isWord_0.at 3 rfl) 3 rfl rfl ?_
  refine gk_callT (pc := 4) [] [.int (nI b - nI a)] (DX9_isWord_0.at 4 rfl) okJ0_length_8abf5 rfl kw_998 ks_len ks_len2 ks_s1 hi rfl rfl (Nat.le_of_ble_eq_true rfl) (Nat.le_of_ble_eq_true rfl) (gk_Run.post (fun o h1 z => ?_) (s_length (dd := dd + 2) (K := fun v h' => v = nI (gk_len.getD i 0) ∧ h' = Hm c) hi ⟨rfl, rfl⟩))
  obtain ⟨v1, rfl, rfl, rfl⟩ := z
  rw [pk_sub hab]
  refine gk_icmp_eq (pc := 7) 12 (DX9_isWord_0.at 5 rfl) (by decide) (fun q => ?_) (fun q => ?_)
  · have q := (nI_eq (by omega) (by omega)).mp q
    rw [decide_eq_true q, Bool.true_and] at k
    refine gk_iconst (pc := 12) (nI 0) (DX9_isWord_0.at 8 rfl) ci_0 ?_
    refine gk_istore (pc := 13) [(4, .int (nI 0)), (0, .ref 64), (1, .int (nI a)), (2, .int (nI b)), (3, .ref (1000001 + i))] (DX9_isWord_0.at 9 rfl) (Nat.le_of_ble_eq_true rfl) rfl ?_
    refine down (P := fun j => K (bI (ffrom (gk_len.getD i 0) (isWdF tb a i) j).isNone) (Hm c) → pX9_isWord_15 E dd i 64 (nI a) (nI b) (nI j) (Hm c) K) (gk_len.getD i 0) ?_ ?_ 0 (Nat.zero_le _) k
    · intro k
      rw [ffrom_end] at k
      exact vX9_isWord_15 hi (by omega) ⟨fun _ => k, fun z => absurd z (by omega)⟩
    · intro j hj ih k
      refine vX9_isWord_15 hi (by omega) ⟨fun z => absurd z (by omega), fun _ => ldR l64 rfl ?_⟩
      rw [nI_add, nI_add]
      refine alB l65 (by omega) (by decide) ?_
      rw [hT.2.2 (a + j) (by omega)]
      refine ⟨fun e => ih ?_, fun e => ?_⟩
      · rw [ffrom_none hj (if_pos e)] at k; exact k
      · rw [ffrom_some hj (if_neg e)] at k; exact k
  · have q : ¬ b - a = gk_len.getD i 0 := fun z => q ((nI_eq (by omega) (by omega)).mpr z)
    rw [decide_eq_false q, Bool.false_and] at k
    refine gk_iconst (pc := 10) (nI 0) (DX9_isWord_0.at 6 rfl) ci_0 ?_
    exact gk_ireturn (pc := 11) .boolean (DX9_isWord_0.at 7 rfl) rfl rfl ⟨_, rfl, k⟩
def pX9_writeWord_2 (E : gk_E) (dd i o : Nat) (x2 : Int32) (h : gk_H) (K : gk_H → Prop) : Prop := gk_G E mX9_writeWord (dd + 4, 0, 0) 2 [(2, .int x2), (0, .ref o), (1, .ref (1000001 + i))] [] h (fun o h1 => o = none ∧ K h1)
theorem vX9_writeWord_2 (hi : i < 6) {o : Nat} {K : gk_H → Prop} (hj31 : j < 2 ^ 31) (hv : (gk_len.getD i 0 ≤ j → K h) ∧ (j < gk_len.getD i 0 → (∃ fs, h[o]? = some (.inr (9, fs))) ∧ RnV E mX9_append (dd + 3, 0, 0) [.ref o, .int (chS i j)] h (fun h1 => pX9_writeWord_2 E dd i o (nI j + nI 1) h1 K))) : pX9_writeWord_2 E dd i o (nI j) h K := by
  have l5 := len5 i hi
  show gk_G E mX9_writeWord (dd + 4, 0, 0) 2 [(2, .int (nI j)), (0, .ref o), (1, .ref (1000001 + i))] [] h (fun o h1 => o = none ∧ K h1)
  refine gk_iload_n (pc := 2) (DX9_writeWord_0.at 2 rfl) 0 rfl rfl ?_
  refine gk_aload_n (pc := 3) (DX9_writeWord_0.at 3 rfl) 2 rfl rfl ?_
  refine gk_callT (pc := 4) [] [.int (nI j)] (DX9_writeWord_0.at 4 rfl) okJ0_length_8abf5 rfl kw_998 ks_len ks_len2 ks_s1 hi rfl rfl (Nat.le_of_ble_eq_true rfl) (Nat.le_of_ble_eq_true rfl) (gk_Run.post (fun o h1 z => ?_) (s_length (dd := dd + 2) (K := fun v h' => v = nI (gk_len.getD i 0) ∧ h' = h) hi ⟨rfl, rfl⟩))
  obtain ⟨v1, rfl, rfl, rfl⟩ := z
  refine gk_icmp_ge (pc := 7) 25 (DX9_writeWord_0.at 5 rfl) (by decide) (fun q => ?_) (fun q => ?_)
  · exact gk_return (pc := 25) (DX9_writeWord_0.at 13 rfl) rfl ⟨rfl, hv.1 ((nI_leI (by omega) hj31).mp q)⟩
  · have hj : j < gk_len.getD i 0 := Nat.lt_of_not_le (fun z => q ((nI_leI (by omega) hj31).mpr z))
    obtain ⟨⟨fs1, q1⟩, hv⟩ := hv.2 hj
    refine gk_aload_n (pc := 10) (DX9_writeWord_0.at 6 rfl) 1 rfl rfl ?_
    refine gk_aload_n (pc := 11) (DX9_writeWord_0.at 7 rfl) 2 rfl rfl ?_
    refine gk_iload_n (pc := 12) (DX9_writeWord_0.at 8 rfl) 0 rfl rfl ?_
    refine gk_callT (pc := 13) [.int (nI j)] [.ref o] (DX9_writeWord_0.at 9 rfl) okJ0_charAt_5068e rfl kw_1008 ks_chr ks_chr2 ks_s1 hi rfl rfl (Nat.le_of_ble_eq_true rfl) (Nat.le_of_ble_eq_true rfl) (gk_Run.post (fun o h2 z => ?_) (s_charAt (dd := dd) (K := fun v h' => v = chS i j ∧ h' = h1) hi hj ⟨rfl, rfl⟩))
    obtain ⟨v3, rfl, rfl, rfl⟩ := z
    refine gk_vV (pc := 16) [.int (chS i j)] [] (DX9_writeWord_0.at 10 rfl) cvX9_89 q1 rfl rfl (Nat.le_of_ble_eq_true rfl) (Nat.le_of_ble_eq_true rfl) (gk_Run.post (fun o h3 z => ?_) hv)
    obtain ⟨rfl, hv⟩ := z
    refine gk_iinc (pc := 19) (nI j + nI 1) [(2, .int (nI j + nI 1)), (0, .ref o), (1, .ref (1000001 + i))] 0 (DX9_writeWord_0.at 11 rfl) rfl (by rw [ci_1]) (Nat.le_of_ble_eq_true rfl) rfl ?_
    refine gk_goto (pc := 22) 2 (DX9_writeWord_0.at 12 rfl) (by decide) ?_
    exact hv
theorem vX9_writeWord_0 {o : Nat} {K : gk_H → Prop} (hv : pX9_writeWord_2 E dd i o (nI 0) h K) : RnV E mX9_writeWord (dd + 4, 0, 0) [.ref o, .ref (1000001 + i)] h K := by
  show gk_G E mX9_writeWord (dd + 4, 0, 0) 0 [(0, .ref o), (1, .ref (1000001 + i))] [] h (fun o h1 => o = none ∧ K h1)
  refine gk_iconst (pc := 0) (nI 0) (DX9_writeWord_0.at 0 rfl) ci_0 ?_
  refine gk_istore_n (pc := 1) [(2, .int (nI 0)), (0, .ref o), (1, .ref (1000001 + i))] (DX9_writeWord_0.at 1 rfl) rfl (Nat.le_of_ble_eq_true rfl) rfl ?_
  exact hv
end ST
