/-! String constants: length, charAt -/
theorem ks_len : Cond.instanceMethod yJ0_length_8abf5 ∈ gk_T := gk_in (t4k (List.mem_of_getElem? (i := 196) rfl)) rfl
theorem ks_len2 : Cond.selects "java/lang/String" yJ0_length_8abf5 yJ0_length_8abf5 ∈ gk_T := gk_in (t4k (List.mem_of_getElem? (i := 197) rfl)) rfl
theorem ks_cod0 : Cond.methodLink "java/lang/String" 335 yJ0_coder_7d493 ∈ gk_T := gk_in (t4k (List.mem_of_getElem? (i := 199) rfl)) rfl
theorem ks_cod : Cond.instanceMethod yJ0_coder_7d493 ∈ gk_T := gk_in (t4k (List.mem_of_getElem? (i := 200) rfl)) rfl
theorem ks_cod2 : Cond.selects "java/lang/String" yJ0_coder_7d493 yJ0_coder_7d493 ∈ gk_T := gk_in (t4k (List.mem_of_getElem? (i := 201) rfl)) rfl
theorem ks_chr : Cond.instanceMethod yJ0_charAt_5068e ∈ gk_T := gk_in (t4k (List.mem_of_getElem? (i := 206) rfl)) rfl
theorem ks_chr2 : Cond.selects "java/lang/String" yJ0_charAt_5068e yJ0_charAt_5068e ∈ gk_T := gk_in (t4k (List.mem_of_getElem? (i := 207) rfl)) rfl
theorem ks_lat0 : Cond.methodLink "java/lang/String" 492 yJ0_isLatin1_aae02 ∈ gk_T := gk_in (t4k (List.mem_of_getElem? (i := 209) rfl)) rfl
theorem ks_lat : Cond.instanceMethod yJ0_isLatin1_aae02 ∈ gk_T := gk_in (t4k (List.mem_of_getElem? (i := 210) rfl)) rfl
theorem ks_lat2 : Cond.selects "java/lang/String" yJ0_isLatin1_aae02 yJ0_isLatin1_aae02 ∈ gk_T := gk_in (t4k (List.mem_of_getElem? (i := 211) rfl)) rfl
theorem ks_s1 : Cond.initialized "java/lang/String" ∈ gk_T := gk_in (t1k (List.mem_of_getElem? (i := 17) rfl)) rfl
theorem ks_s2 : Cond.initialized "java/lang/StringLatin1" ∈ gk_T := gk_in (t1k (List.mem_of_getElem? (i := 18) rfl)) rfl
theorem ks_s3 : Cond.initialized "jdk/internal/util/Preconditions" ∈ gk_T := gk_in (t1k (List.mem_of_getElem? (i := 19) rfl)) rfl
theorem cs_495 : gk_Cs "java/lang/String" 495 mJ1_charAt_3b067 2 := ⟨okJ1_charAt_3b067, gk_in (t4k (List.mem_of_getElem? (i := 213) rfl)) rfl, gk_in (t4k (List.mem_of_getElem? (i := 214) rfl)) rfl, ks_s2⟩
theorem cs_9 : gk_Cs "java/lang/StringLatin1" 9 mJ0_checkIndex_df160 2 := ⟨okJ0_checkIndex_df160, gk_in (t4k (List.mem_of_getElem? (i := 216) rfl)) rfl, gk_in (t4k (List.mem_of_getElem? (i := 217) rfl)) rfl, ks_s1⟩
theorem cs_1059 : gk_Cs "java/lang/String" 1059 mJ3_checkIndex_8e157 3 := ⟨okJ3_checkIndex_8e157, gk_in (t4k (List.mem_of_getElem? (i := 221) rfl)) rfl, gk_in (t4k (List.mem_of_getElem? (i := 222) rfl)) rfl, ks_s3⟩
section ST
variable {E : gk_E} {dd i j : Nat} {h : gk_H}
theorem s_coder (hi : i < 6) {K : Int32 → gk_H → Prop} (k : K 0 h) : RnI E mJ0_coder_7d493 (dd, 0, 0) [.ref (1000001 + i)] h K := by
  show gk_G E mJ0_coder_7d493 (dd, 0, 0) 0 [(0, .ref (1000001 + i))] [] h (fun o h1 => ∃ v, o = some (.int v) ∧ K v h1)
  refine gk_gets (pc := 0) (DJ0_coder_7d493_0.at 0 rfl) kw_1006 ?_
  refine gk_if_eq (pc := 3) 13 (DJ0_coder_7d493_0.at 1 rfl) (by decide) (fun c => absurd c (by decide)) (fun _ => ?_)
  refine gk_aload_n (pc := 6) (DJ0_coder_7d493_0.at 2 rfl) 0 rfl rfl ?_
  refine gk_sgetC (pc := 7) (DJ0_coder_7d493_0.at 3 rfl) hi kw_1637 ?_
  refine gk_goto (pc := 10) 14 (DJ0_coder_7d493_0.at 4 rfl) (by decide) ?_
  exact gk_ireturn (pc := 14) .byte (DJ0_coder_7d493_0.at 6 rfl) rfl rfl ⟨_, rfl, k⟩
theorem s_length (hi : i < 6) {K : Int32 → gk_H → Prop} (k : K (nI (gk_len.getD i 0)) h) : RnI E mJ0_length_8abf5 (dd + 1, 0, 0) [.ref (1000001 + i)] h K := by
  show gk_G E mJ0_length_8abf5 (dd + 1, 0, 0) 0 [(0, .ref (1000001 + i))] [] h (fun o h1 => ∃ v, o = some (.int v) ∧ K v h1)
  refine gk_aload_n (pc := 0) (DJ0_length_8abf5_0.at 0 rfl) 0 rfl rfl ?_
  refine gk_sget (pc := 1) (DJ0_length_8abf5_0.at 1 rfl) hi kw_1636 ?_
  refine gk_slen (pc := 4) (DJ0_length_8abf5_0.at 2 rfl) hi ?_
  refine gk_aload_n (pc := 5) (DJ0_length_8abf5_0.at 3 rfl) 0 rfl rfl ?_
  refine gk_callT (pc := 6) [] [.int (nI (gk_len.getD i 0))] (DJ0_length_8abf5_0.at 4 rfl) okJ0_coder_7d493 rfl ks_cod0 ks_cod ks_cod2 ks_s1 hi rfl rfl (Nat.le_of_ble_eq_true rfl) (Nat.le_of_ble_eq_true rfl) (gk_Run.post (fun o h1 z => ?_) (s_coder (K := fun v h' => v = 0 ∧ h' = h) hi ⟨rfl, rfl⟩))
  obtain ⟨v1, rfl, rfl, rfl⟩ := z
  refine gk_ishr (pc := 9) (DJ0_length_8abf5_0.at 5 rfl) ?_
  refine gk_ireturn (pc := 10) .int (DJ0_length_8abf5_0.at 6 rfl) rfl rfl ⟨_, rfl, ?_⟩
  have : ∀ i, i < 6 → nI (gk_len.getD i 0) >>> ((0 : Int32) &&& 31) = nI (gk_len.getD i 0) := by decide
  rw [this i hi]
  exact k
theorem s_isLatin1 (hi : i < 6) {K : Int32 → gk_H → Prop} (k : K 1 h) : RnI E mJ0_isLatin1_aae02 (dd, 0, 0) [.ref (1000001 + i)] h K := by
  show gk_G E mJ0_isLatin1_aae02 (dd, 0, 0) 0 [(0, .ref (1000001 + i))] [] h (fun o h1 => ∃ v, o = some (.int v) ∧ K v h1)
  refine gk_gets (pc := 0) (DJ0_isLatin1_aae02_0.at 0 rfl) kw_1006 ?_
  refine gk_if_eq (pc := 3) 17 (DJ0_isLatin1_aae02_0.at 1 rfl) (by decide) (fun c => absurd c (by decide)) (fun _ => ?_)
  refine gk_aload_n (pc := 6) (DJ0_isLatin1_aae02_0.at 2 rfl) 0 rfl rfl ?_
  refine gk_sgetC (pc := 7) (DJ0_isLatin1_aae02_0.at 3 rfl) hi kw_1637 ?_
  refine gk_if_ne (pc := 10) 17 (DJ0_isLatin1_aae02_0.at 4 rfl) (by decide) (fun c => absurd rfl c) (fun _ => ?_)
  refine gk_iconst (pc := 13) 1 (DJ0_isLatin1_aae02_0.at 5 rfl) rfl ?_
  refine gk_goto (pc := 14) 18 (DJ0_isLatin1_aae02_0.at 6 rfl) (by decide) ?_
  exact gk_ireturn (pc := 18) .boolean (DJ0_isLatin1_aae02_0.at 8 rfl) rfl rfl ⟨_, rfl, k⟩
theorem s_check3 {m : Nat} (hj : j < m) (hm : m < 2 ^ 31) {v : Value} {K : Int32 → gk_H → Prop} (k : K (nI j) h) : RnI E mJ3_checkIndex_8e157 (dd, 0, 0) [.int (nI j), .int (nI m), v] h K := by
  show gk_Run E mJ3_checkIndex_8e157 (dd, 0, 0) [.int (nI j), .int (nI m), v] h _
  sorry
end ST
